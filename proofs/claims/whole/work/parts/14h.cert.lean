/-! CODE of the methods as functions, with certificates: printed by wip/whole/emit.py. -/
def b_M_endOf_68 (h : kH) (x2 : Int32) (x3 : Int32) (x4 : Int32) : Option Int32 := if x4 < 0 then (some (-6)) else (if (f_M_has x3 x4) = true then (some (-6)) else (kBi (f_M_isRecused h x4 x2) fun v2 => if v2 = true then (some (-6)) else (some x4)))
theorem c_M_endOf_68 {E : kE} {L : Nat} {xs : Nat → Int32} (hro : kRo E L xs) {h : kH} {x2 : Int32} {x3 : Int32} {x4 : Int32} {r : Int32} (hf : b_M_endOf_68 h x2 x3 x4 = some r) : kJ E m_M_endOf (some r) (mk h) 0 0 68 [(0, .ref 786), (2, .int x2), (3, .int x3), (4, .int x4)] [] (mk h) := by
  unfold b_M_endOf_68 at hf
  refine kJ_iload 70 3 d_M_endOf_68 rfl rfl ?_
  refine kJ_if_lt 73 92 d_M_endOf_70 rfl rfl (fun hc => ?_) (fun hc => ?_)
  · have hf := kIf_t hf hc
    refine kJ_bipush 94 (-6) d_M_endOf_92 kb_m6 rfl ?_
    refine kJ_goto 99 d_M_endOf_94 rfl ?_
    cases hf
    exact kJ_iret d_M_endOf_99 rfl rfl (Nat.zero_le _) (Nat.zero_le _)
  · have hf := kIf_f hf hc
    refine kJ_iload_n 74 2 d_M_endOf_73 rfl rfl rfl ?_
    refine kJ_iload 76 3 d_M_endOf_74 rfl rfl ?_
    refine kM_calls 79 m_M_has [.int x3, .int x4] [] d_M_endOf_76 cl_M_87 w_951 rfl rfl (Nat.le_of_ble_eq_true rfl) ⟨Nat.le_of_ble_eq_true rfl, Nat.le_of_ble_eq_true rfl⟩ ⟨rfl, rfl⟩ ⟨Nat.zero_le _, Nat.zero_le _⟩ (j_M_has hro rfl) rfl ?_
    refine kJ_if_ne 82 92 d_M_endOf_79 rfl rfl (fun hc => ?_) (fun hc => ?_)
    · have hf := kIf_t hf (kB2_1 hc)
      refine kJ_bipush 94 (-6) d_M_endOf_92 kb_m6 rfl ?_
      refine kJ_goto 99 d_M_endOf_94 rfl ?_
      cases hf
      exact kJ_iret d_M_endOf_99 rfl rfl (Nat.zero_le _) (Nat.zero_le _)
    · have hf := kIf_f hf (kB2_0 hc)
      refine kJ_aload_n 83 0 d_M_endOf_82 rfl rfl rfl rfl ?_
      refine kJ_iload 85 3 d_M_endOf_83 rfl rfl ?_
      refine kJ_iload_n 86 1 d_M_endOf_85 rfl rfl rfl ?_
      obtain ⟨v2, ev2, hf⟩ := kBi_some hf
      refine kM_callv 89 m_M_isRecused [.int x4, .int x2] [] d_M_endOf_86 cl_M_91 ⟨w_948, w_74⟩ km_786 ⟨rfl, by decide⟩ ⟨_, _, rfl⟩ rfl rfl (Nat.le_of_ble_eq_true rfl) ⟨Nat.le_of_ble_eq_true rfl, Nat.le_of_ble_eq_true rfl⟩ ⟨rfl, rfl⟩ ⟨Nat.zero_le _, Nat.zero_le _⟩ (j_M_isRecused hro ev2) rfl ?_
      refine kJ_if_eq 92 97 d_M_endOf_89 rfl rfl (fun hc => ?_) (fun hc => ?_)
      · have hf := kIf_f hf (kB2_0 hc)
        refine kJ_iload 99 3 d_M_endOf_97 rfl rfl ?_
        cases hf
        exact kJ_iret d_M_endOf_99 rfl rfl (Nat.zero_le _) (Nat.zero_le _)
      · have hf := kIf_t hf (kB2_1 hc)
        refine kJ_bipush 94 (-6) d_M_endOf_92 kb_m6 rfl ?_
        refine kJ_goto 99 d_M_endOf_94 rfl ?_
        cases hf
        exact kJ_iret d_M_endOf_99 rfl rfl (Nat.zero_le _) (Nat.zero_le _)
def b_M_endOf_12 (h : kH) (x2 : Int32) : Nat → Int32 → Int32 → Option Int32
  | 0, _, _ => none
  | n + 1, x3, x4 => (fun rec12 => if x4 < 0 then (b_M_endOf_68 h x2 x3 x4) else (if (f_M_has x3 x4) = true then (b_M_endOf_68 h x2 x3 x4) else (kBi (f_M_isPresent h x4) fun v3 => if v3 = true then (b_M_endOf_68 h x2 x3 x4) else (kLet (x3 ||| (1 <<< (x4 &&& 31))) fun v4 => kG 4 760 (if (h 787 (kx 4)) = 0 then (rec12 v4 (-6)) else (kBi (f_M_holderOf h x4 x2) fun v5 => rec12 v4 v5)))))) (fun x3' x4' => b_M_endOf_12 h x2 n x3' x4')
theorem c_M_endOf_12 {E : kE} {L : Nat} {xs : Nat → Int32} (hro : kRo E L xs) {h : kH} {x2 : Int32} {r : Int32} : ∀ (n : Nat) (x3 : Int32) (x4 : Int32), b_M_endOf_12 h x2 n x3 x4 = some r → kJ E m_M_endOf (some r) (mk h) 0 0 12 [(0, .ref 786), (2, .int x2), (3, .int x3), (4, .int x4)] [] (mk h) := by
  intro n
  induction n with
  | zero =>
    intro x3 x4 hf
    have hf : (none : Option Int32) = some r := hf
    cases hf
  | succ n hrec12 =>
    intro x3 x4 hf
    rw [b_M_endOf_12] at hf
    dsimp only at hf
    refine kJ_iload 14 3 d_M_endOf_12 rfl rfl ?_
    refine kJ_if_lt 17 68 d_M_endOf_14 rfl rfl (fun hc => ?_) (fun hc => ?_)
    · have hf := kIf_t hf hc
      refine kJ_sub [0, 1, 2, 3] rfl ?_
      exact c_M_endOf_68 hro hf
    · have hf := kIf_f hf hc
      refine kJ_iload_n 18 2 d_M_endOf_17 rfl rfl rfl ?_
      refine kJ_iload 20 3 d_M_endOf_18 rfl rfl ?_
      refine kM_calls 23 m_M_has [.int x3, .int x4] [] d_M_endOf_20 cl_M_87 w_951 rfl rfl (Nat.le_of_ble_eq_true rfl) ⟨Nat.le_of_ble_eq_true rfl, Nat.le_of_ble_eq_true rfl⟩ ⟨rfl, rfl⟩ ⟨Nat.zero_le _, Nat.zero_le _⟩ (j_M_has hro rfl) rfl ?_
      refine kJ_if_ne 26 68 d_M_endOf_23 rfl rfl (fun hc => ?_) (fun hc => ?_)
      · have hf := kIf_t hf (kB2_1 hc)
        refine kJ_sub [0, 1, 2, 3] rfl ?_
        exact c_M_endOf_68 hro hf
      · have hf := kIf_f hf (kB2_0 hc)
        refine kJ_aload_n 27 0 d_M_endOf_26 rfl rfl rfl rfl ?_
        refine kJ_iload 29 3 d_M_endOf_27 rfl rfl ?_
        obtain ⟨v3, ev3, hf⟩ := kBi_some hf
        refine kM_callv 32 m_M_isPresent [.int x4] [] d_M_endOf_29 cl_M_64 ⟨w_909, w_70⟩ km_786 ⟨rfl, by decide⟩ ⟨_, _, rfl⟩ rfl rfl (Nat.le_of_ble_eq_true rfl) ⟨Nat.le_of_ble_eq_true rfl, Nat.le_of_ble_eq_true rfl⟩ ⟨rfl, rfl⟩ ⟨Nat.zero_le _, Nat.zero_le _⟩ (j_M_isPresent hro ev3) rfl ?_
        refine kJ_if_ne 35 68 d_M_endOf_32 rfl rfl (fun hc => ?_) (fun hc => ?_)
        · have hf := kIf_t hf (kB2_1 hc)
          refine kJ_sub [0, 1, 2, 3] rfl ?_
          exact c_M_endOf_68 hro hf
        · have hf := kIf_f hf (kB2_0 hc)
          refine kJ_iload_n 36 2 d_M_endOf_35 rfl rfl rfl ?_
          refine kJ_iconst 37 1 d_M_endOf_36 ki_1 rfl ?_
          refine kJ_iload 39 3 d_M_endOf_37 rfl rfl ?_
          refine kJ_ishl 40 d_M_endOf_39 rfl ?_
          refine kJ_ior 41 d_M_endOf_40 rfl ?_
          obtain ⟨v4, ev4, hf⟩ := kLet_e hf
          rw [← ev4]
          refine kJ_istore_n 42 [(3, .int v4), (0, .ref 786), (2, .int x2), (4, .int x4)] d_M_endOf_41 rfl (Nat.le_of_ble_eq_true rfl) rfl rfl ?_
          refine kJ_aload_n 43 1 d_M_endOf_42 rfl rfl rfl rfl ?_
          refine kM_getR 46 0 787 d_M_endOf_43 l_M_7 km_786 rfl rfl rfl rfl ?_
          refine kJ_iconst 47 4 d_M_endOf_46 ki_4 rfl ?_
          obtain ⟨hg, hf⟩ := kG_some hf
          refine kM_iald 48 760 d_M_endOf_47 km_787 rfl hg rfl ?_
          refine kJ_if_ne 51 56 d_M_endOf_48 rfl rfl (fun hc => ?_) (fun hc => ?_)
          · have hf := kIf_f hf hc
            refine kJ_aload_n 57 1 d_M_endOf_56 rfl rfl rfl rfl ?_
            refine kJ_iload 59 3 d_M_endOf_57 rfl rfl ?_
            refine kJ_iload_n 60 2 d_M_endOf_59 rfl rfl rfl ?_
            obtain ⟨v5, ev5, hf⟩ := kBi_some hf
            refine kM_callv 63 m_M_holderOf [.int x4, .int x2] [] d_M_endOf_60 cl_M_98 ⟨w_979, w_80⟩ km_786 ⟨rfl, by decide⟩ ⟨_, _, rfl⟩ rfl rfl (Nat.le_of_ble_eq_true rfl) ⟨Nat.le_of_ble_eq_true rfl, Nat.le_of_ble_eq_true rfl⟩ ⟨rfl, rfl⟩ ⟨Nat.zero_le _, Nat.zero_le _⟩ (j_M_holderOf hro ev5) rfl ?_
            refine kJ_istore 65 [(4, .int v5), (3, .int v4), (0, .ref 786), (2, .int x2)] d_M_endOf_63 (Nat.le_of_ble_eq_true rfl) rfl rfl ?_
            refine kJ_goto 12 d_M_endOf_65 rfl ?_
            refine kJ_sub [2, 3, 1, 0] rfl ?_
            exact hrec12 v4 v5 hf
          · have hf := kIf_t hf hc
            refine kJ_bipush 53 (-6) d_M_endOf_51 kb_m6 rfl ?_
            refine kJ_goto 63 d_M_endOf_53 rfl ?_
            refine kJ_istore 65 [(4, .int (-6)), (3, .int v4), (0, .ref 786), (2, .int x2)] d_M_endOf_63 (Nat.le_of_ble_eq_true rfl) rfl rfl ?_
            refine kJ_goto 12 d_M_endOf_65 rfl ?_
            refine kJ_sub [2, 3, 1, 0] rfl ?_
            exact hrec12 v4 (-6) hf
def f_M_endOf (h : kH) (x1 : Int32) (x2 : Int32) : Option Int32 := kBi (f_M_holderOf h x1 x2) fun v1 => b_M_endOf_12 h x2 kFuel (1 <<< (x1 &&& 31)) v1
theorem j_M_endOf {E : kE} {L : Nat} {xs : Nat → Int32} (hro : kRo E L xs) {h : kH} {x1 : Int32} {x2 : Int32} {r : Int32} (hf : f_M_endOf h x1 x2 = some r) : JM E m_M_endOf [.ref 786, .int x1, .int x2] (mk h) (some r) (mk h) := by
  unfold f_M_endOf at hf
  refine JM.of pn_M (Nat.le_of_ble_eq_true rfl) ?_
  show kJ E m_M_endOf (some r) (mk h) 0 0 0 [(0, .ref 786), (1, .int x1), (2, .int x2)] [] (mk h)
  refine kJ_iconst 1 1 d_M_endOf_0 ki_1 rfl ?_
  refine kJ_iload_n 2 1 d_M_endOf_1 rfl rfl rfl ?_
  refine kJ_ishl 3 d_M_endOf_2 rfl ?_
  refine kJ_istore_n 4 [(3, .int (1 <<< (x1 &&& 31))), (0, .ref 786), (1, .int x1), (2, .int x2)] d_M_endOf_3 rfl (Nat.le_of_ble_eq_true rfl) rfl rfl ?_
  refine kJ_aload_n 5 1 d_M_endOf_4 rfl rfl rfl rfl ?_
  refine kJ_iload_n 6 2 d_M_endOf_5 rfl rfl rfl ?_
  refine kJ_iload_n 7 3 d_M_endOf_6 rfl rfl rfl ?_
  obtain ⟨v1, ev1, hf⟩ := kBi_some hf
  refine kM_callv 10 m_M_holderOf [.int x1, .int x2] [] d_M_endOf_7 cl_M_98 ⟨w_979, w_80⟩ km_786 ⟨rfl, by decide⟩ ⟨_, _, rfl⟩ rfl rfl (Nat.le_of_ble_eq_true rfl) ⟨Nat.le_of_ble_eq_true rfl, Nat.le_of_ble_eq_true rfl⟩ ⟨rfl, rfl⟩ ⟨Nat.zero_le _, Nat.zero_le _⟩ (j_M_holderOf hro ev1) rfl ?_
  refine kJ_istore 12 [(4, .int v1), (3, .int (1 <<< (x1 &&& 31))), (0, .ref 786), (1, .int x1), (2, .int x2)] d_M_endOf_10 (Nat.le_of_ble_eq_true rfl) rfl rfl ?_
  refine kJ_sub [2, 4, 1, 0] rfl ?_
  exact c_M_endOf_12 hro kFuel (1 <<< (x1 &&& 31)) v1 hf
def b_M_layVoices_117 (rec23 : kH → Int32 → Option (kH)) (h : kH) (x1 : Int32) (x2 : Int32) (x3 : Int32) : Option (kH) := kG x2 12 (kLet (hset h 793 (kx x2) x3) fun h4 => rec23 h4 (x2 + 1))
theorem c_M_layVoices_117 {E : kE} {L : Nat} {xs : Nat → Int32} (hro : kRo E L xs) {rec23 : kH → Int32 → Option (kH)} {h : kH} {x1 : Int32} {x2 : Int32} {x3 : Int32} {h' : kH} (hrec23 : ∀ (h : kH) (x2 : Int32), rec23 h x2 = some h' → kJ E m_M_layVoices none (mk h') 0 0 23 [(0, .ref 786), (1, .int x1), (2, .int x2)] [] (mk h)) (hf : b_M_layVoices_117 rec23 h x1 x2 x3 = some h') : kJ E m_M_layVoices none (mk h') 0 0 117 [(0, .ref 786), (1, .int x1), (2, .int x2), (3, .int x3)] [] (mk h) := by
  unfold b_M_layVoices_117 at hf
  refine kJ_aload_n 118 0 d_M_layVoices_117 rfl rfl rfl rfl ?_
  refine kM_getR 121 6 793 d_M_layVoices_118 l_M_29 km_786 rfl rfl rfl rfl ?_
  refine kJ_iload_n 122 2 d_M_layVoices_121 rfl rfl rfl ?_
  refine kJ_iload_n 123 3 d_M_layVoices_122 rfl rfl rfl ?_
  obtain ⟨hg, hf⟩ := kG_some hf
  refine kM_iast 124 12 d_M_layVoices_123 km_793 rfl hg rfl ?_
  obtain ⟨h4, eh4, hf⟩ := kLet_e hf
  rw [← eh4]
  refine kJ_iinc 127 2 [(2, .int (x2 + 1)), (0, .ref 786), (1, .int x1), (3, .int x3)] d_M_layVoices_124 rfl ki_1 (Nat.le_of_ble_eq_true rfl) rfl rfl ?_
  refine kJ_goto 23 d_M_layVoices_127 rfl ?_
  refine kJ_sub [1, 2, 0] rfl ?_
  exact hrec23 h4 (x2 + 1) hf
def b_M_layVoices_100 (rec23 : kH → Int32 → Option (kH)) (h : kH) (x1 : Int32) (x2 : Int32) (s0 : Int32) : Option (kH) := if s0 < 0 then (b_M_layVoices_117 rec23 h x1 x2 s0) else (kG s0 12 (kG s0 12 (kLet (hset h 794 (kx s0) ((h 794 (kx s0)) ||| (1 <<< (x2 &&& 31)))) fun h6 => b_M_layVoices_117 rec23 h6 x1 x2 s0)))
theorem c_M_layVoices_100 {E : kE} {L : Nat} {xs : Nat → Int32} (hro : kRo E L xs) {rec23 : kH → Int32 → Option (kH)} {h : kH} {x1 : Int32} {x2 : Int32} {s0 : Int32} {h' : kH} (hrec23 : ∀ (h : kH) (x2 : Int32), rec23 h x2 = some h' → kJ E m_M_layVoices none (mk h') 0 0 23 [(0, .ref 786), (1, .int x1), (2, .int x2)] [] (mk h)) (hf : b_M_layVoices_100 rec23 h x1 x2 s0 = some h') : kJ E m_M_layVoices none (mk h') 0 0 100 [(0, .ref 786), (1, .int x1), (2, .int x2)] [.int s0] (mk h) := by
  unfold b_M_layVoices_100 at hf
  refine kJ_istore_n 101 [(3, .int s0), (0, .ref 786), (1, .int x1), (2, .int x2)] d_M_layVoices_100 rfl (Nat.le_of_ble_eq_true rfl) rfl rfl ?_
  refine kJ_iload_n 102 0 d_M_layVoices_101 rfl rfl rfl ?_
  refine kJ_if_lt 105 117 d_M_layVoices_102 rfl rfl (fun hc => ?_) (fun hc => ?_)
  · have hf := kIf_t hf hc
    refine kJ_sub [1, 2, 3, 0] rfl ?_
    exact c_M_layVoices_117 hro hrec23 hf
  · have hf := kIf_f hf hc
    refine kJ_aload_n 106 1 d_M_layVoices_105 rfl rfl rfl rfl ?_
    refine kM_getR 109 7 794 d_M_layVoices_106 l_M_32 km_786 rfl rfl rfl rfl ?_
    refine kJ_iload_n 110 0 d_M_layVoices_109 rfl rfl rfl ?_
    refine kJ_dup2 111 d_M_layVoices_110 rfl rfl rfl ?_
    obtain ⟨hg, hf⟩ := kG_some hf
    refine kM_iald 112 12 d_M_layVoices_111 km_794 rfl hg rfl ?_
    refine kJ_iconst 113 1 d_M_layVoices_112 ki_1 rfl ?_
    refine kJ_iload_n 114 3 d_M_layVoices_113 rfl rfl rfl ?_
    refine kJ_ishl 115 d_M_layVoices_114 rfl ?_
    refine kJ_ior 116 d_M_layVoices_115 rfl ?_
    obtain ⟨hg, hf⟩ := kG_some hf
    refine kM_iast 117 12 d_M_layVoices_116 km_794 rfl hg rfl ?_
    obtain ⟨h6, eh6, hf⟩ := kLet_e hf
    rw [← eh6]
    refine kJ_sub [1, 2, 3, 0] rfl ?_
    exact c_M_layVoices_117 hro hrec23 hf
def b_M_layVoices_66 (rec23 : kH → Int32 → Option (kH)) (h : kH) (x1 : Int32) (x2 : Int32) (s0 : Int32) : Option (kH) := if s0 < 0 then (b_M_layVoices_117 rec23 h x1 x2 s0) else (if s0 = x2 then (b_M_layVoices_117 rec23 h x1 x2 s0) else (kG s0 12 (kBi (f_M_bits (h 794 (kx s0))) fun v5 => kG 3 760 (if (h 787 (kx 3)) ≤ v5 then (b_M_layVoices_100 rec23 h x1 x2 (-6)) else (b_M_layVoices_100 rec23 h x1 x2 s0)))))
theorem c_M_layVoices_66 {E : kE} {L : Nat} {xs : Nat → Int32} (hro : kRo E L xs) {rec23 : kH → Int32 → Option (kH)} {h : kH} {x1 : Int32} {x2 : Int32} {s0 : Int32} {h' : kH} (hrec23 : ∀ (h : kH) (x2 : Int32), rec23 h x2 = some h' → kJ E m_M_layVoices none (mk h') 0 0 23 [(0, .ref 786), (1, .int x1), (2, .int x2)] [] (mk h)) (hf : b_M_layVoices_66 rec23 h x1 x2 s0 = some h') : kJ E m_M_layVoices none (mk h') 0 0 66 [(0, .ref 786), (1, .int x1), (2, .int x2)] [.int s0] (mk h) := by
  unfold b_M_layVoices_66 at hf
  refine kJ_istore_n 67 [(3, .int s0), (0, .ref 786), (1, .int x1), (2, .int x2)] d_M_layVoices_66 rfl (Nat.le_of_ble_eq_true rfl) rfl rfl ?_
  refine kJ_iload_n 68 0 d_M_layVoices_67 rfl rfl rfl ?_
  refine kJ_if_lt 71 117 d_M_layVoices_68 rfl rfl (fun hc => ?_) (fun hc => ?_)
  · have hf := kIf_t hf hc
    refine kJ_sub [1, 2, 3, 0] rfl ?_
    exact c_M_layVoices_117 hro hrec23 hf
  · have hf := kIf_f hf hc
    refine kJ_iload_n 72 0 d_M_layVoices_71 rfl rfl rfl ?_
    refine kJ_iload_n 73 3 d_M_layVoices_72 rfl rfl rfl ?_
    refine kJ_icmp_eq 76 117 d_M_layVoices_73 rfl rfl (fun hc => ?_) (fun hc => ?_)
    · have hf := kIf_t hf hc
      refine kJ_sub [1, 2, 3, 0] rfl ?_
      exact c_M_layVoices_117 hro hrec23 hf
    · have hf := kIf_f hf hc
      refine kJ_aload_n 77 1 d_M_layVoices_76 rfl rfl rfl rfl ?_
      refine kM_getR 80 7 794 d_M_layVoices_77 l_M_32 km_786 rfl rfl rfl rfl ?_
      refine kJ_iload_n 81 0 d_M_layVoices_80 rfl rfl rfl ?_
      obtain ⟨hg, hf⟩ := kG_some hf
      refine kM_iald 82 12 d_M_layVoices_81 km_794 rfl hg rfl ?_
      obtain ⟨v5, ev5, hf⟩ := kBi_some hf
      refine kM_calls 85 m_M_bits [.int (h 794 (kx s0))] [] d_M_layVoices_82 cl_M_71 w_912 rfl rfl (Nat.le_of_ble_eq_true rfl) ⟨Nat.le_of_ble_eq_true rfl, Nat.le_of_ble_eq_true rfl⟩ ⟨rfl, rfl⟩ ⟨Nat.zero_le _, Nat.zero_le _⟩ (j_M_bits hro ev5) rfl ?_
      refine kJ_aload_n 86 1 d_M_layVoices_85 rfl rfl rfl rfl ?_
      refine kM_getR 89 0 787 d_M_layVoices_86 l_M_7 km_786 rfl rfl rfl rfl ?_
      refine kJ_iconst 90 3 d_M_layVoices_89 ki_3 rfl ?_
      obtain ⟨hg, hf⟩ := kG_some hf
      refine kM_iald 91 760 d_M_layVoices_90 km_787 rfl hg rfl ?_
      refine kJ_icmp_ge 94 98 d_M_layVoices_91 rfl rfl (fun hc => ?_) (fun hc => ?_)
      · have hf := kIf_t hf hc
        refine kJ_bipush 100 (-6) d_M_layVoices_98 kb_m6 rfl ?_
        refine kJ_sub [1, 2, 3] rfl ?_
        exact c_M_layVoices_100 hro hrec23 hf
      · have hf := kIf_f hf hc
        refine kJ_iload_n 95 0 d_M_layVoices_94 rfl rfl rfl ?_
        refine kJ_goto 100 d_M_layVoices_95 rfl ?_
        refine kJ_sub [1, 2, 3] rfl ?_
        exact c_M_layVoices_100 hro hrec23 hf
def b_M_layVoices_23 (x1 : Int32) : Nat → kH → Int32 → Option (kH)
  | 0, _, _ => none
  | n + 1, h, x2 => (fun rec23 => kG 7 760 (if (h 787 (kx 7)) ≤ x2 then (some h) else (kBi (f_M_isRecused h x2 x1) fun v1 => if v1 = true then (b_M_layVoices_66 rec23 h x1 x2 (-6)) else (kBi (f_M_isPresent h x2) fun v2 => if v2 = true then (b_M_layVoices_66 rec23 h x1 x2 x2) else (kBi (f_M_endOf h x2 x1) fun v3 => b_M_layVoices_66 rec23 h x1 x2 v3))))) (fun h' x2' => b_M_layVoices_23 x1 n h' x2')
theorem c_M_layVoices_23 {E : kE} {L : Nat} {xs : Nat → Int32} (hro : kRo E L xs) {x1 : Int32} {h' : kH} : ∀ (n : Nat) (h : kH) (x2 : Int32), b_M_layVoices_23 x1 n h x2 = some h' → kJ E m_M_layVoices none (mk h') 0 0 23 [(0, .ref 786), (1, .int x1), (2, .int x2)] [] (mk h) := by
  intro n
  induction n with
  | zero =>
    intro h x2 hf
    have hf : (none : Option (kH)) = some h' := hf
    cases hf
  | succ n hrec23 =>
    intro h x2 hf
    rw [b_M_layVoices_23] at hf
    dsimp only at hf
    refine kJ_iload_n 24 2 d_M_layVoices_23 rfl rfl rfl ?_
    refine kJ_aload_n 25 0 d_M_layVoices_24 rfl rfl rfl rfl ?_
    refine kM_getR 28 0 787 d_M_layVoices_25 l_M_7 km_786 rfl rfl rfl rfl ?_
    refine kJ_bipush 30 7 d_M_layVoices_28 kb_7 rfl ?_
    obtain ⟨hg, hf⟩ := kG_some hf
    refine kM_iald 31 760 d_M_layVoices_30 km_787 rfl hg rfl ?_
    refine kJ_icmp_ge 34 130 d_M_layVoices_31 rfl rfl (fun hc => ?_) (fun hc => ?_)
    · have hf := kIf_t hf hc
      cases hf
      exact kJ_ret d_M_layVoices_130 rfl (Nat.zero_le _) (Nat.zero_le _)
    · have hf := kIf_f hf hc
      refine kJ_aload_n 35 0 d_M_layVoices_34 rfl rfl rfl rfl ?_
      refine kJ_iload_n 36 2 d_M_layVoices_35 rfl rfl rfl ?_
      refine kJ_iload_n 37 1 d_M_layVoices_36 rfl rfl rfl ?_
      obtain ⟨v1, ev1, hf⟩ := kBi_some hf
      refine kM_callv 40 m_M_isRecused [.int x2, .int x1] [] d_M_layVoices_37 cl_M_91 ⟨w_948, w_74⟩ km_786 ⟨rfl, by decide⟩ ⟨_, _, rfl⟩ rfl rfl (Nat.le_of_ble_eq_true rfl) ⟨Nat.le_of_ble_eq_true rfl, Nat.le_of_ble_eq_true rfl⟩ ⟨rfl, rfl⟩ ⟨Nat.zero_le _, Nat.zero_le _⟩ (j_M_isRecused hro ev1) rfl ?_
      refine kJ_if_eq 43 48 d_M_layVoices_40 rfl rfl (fun hc => ?_) (fun hc => ?_)
      · have hf := kIf_f hf (kB2_0 hc)
        refine kJ_aload_n 49 0 d_M_layVoices_48 rfl rfl rfl rfl ?_
        refine kJ_iload_n 50 2 d_M_layVoices_49 rfl rfl rfl ?_
        obtain ⟨v2, ev2, hf⟩ := kBi_some hf
        refine kM_callv 53 m_M_isPresent [.int x2] [] d_M_layVoices_50 cl_M_64 ⟨w_909, w_70⟩ km_786 ⟨rfl, by decide⟩ ⟨_, _, rfl⟩ rfl rfl (Nat.le_of_ble_eq_true rfl) ⟨Nat.le_of_ble_eq_true rfl, Nat.le_of_ble_eq_true rfl⟩ ⟨rfl, rfl⟩ ⟨Nat.zero_le _, Nat.zero_le _⟩ (j_M_isPresent hro ev2) rfl ?_
        refine kJ_if_eq 56 60 d_M_layVoices_53 rfl rfl (fun hc => ?_) (fun hc => ?_)
        · have hf := kIf_f hf (kB2_0 hc)
          refine kJ_aload_n 61 0 d_M_layVoices_60 rfl rfl rfl rfl ?_
          refine kJ_iload_n 62 2 d_M_layVoices_61 rfl rfl rfl ?_
          refine kJ_iload_n 63 1 d_M_layVoices_62 rfl rfl rfl ?_
          obtain ⟨v3, ev3, hf⟩ := kBi_some hf
          refine kM_callv 66 m_M_endOf [.int x2, .int x1] [] d_M_layVoices_63 cl_M_101 ⟨w_975, w_79⟩ km_786 ⟨rfl, by decide⟩ ⟨_, _, rfl⟩ rfl rfl (Nat.le_of_ble_eq_true rfl) ⟨Nat.le_of_ble_eq_true rfl, Nat.le_of_ble_eq_true rfl⟩ ⟨rfl, rfl⟩ ⟨Nat.zero_le _, Nat.zero_le _⟩ (j_M_endOf hro ev3) rfl ?_
          refine kJ_sub [0, 1, 2] rfl ?_
          exact c_M_layVoices_66 hro hrec23 hf
        · have hf := kIf_t hf (kB2_1 hc)
          refine kJ_iload_n 57 2 d_M_layVoices_56 rfl rfl rfl ?_
          refine kJ_goto 66 d_M_layVoices_57 rfl ?_
          refine kJ_sub [0, 1, 2] rfl ?_
          exact c_M_layVoices_66 hro hrec23 hf
      · have hf := kIf_t hf (kB2_1 hc)
        refine kJ_bipush 45 (-6) d_M_layVoices_43 kb_m6 rfl ?_
        refine kJ_goto 66 d_M_layVoices_45 rfl ?_
        refine kJ_sub [0, 1, 2] rfl ?_
        exact c_M_layVoices_66 hro hrec23 hf
def b_M_layVoices_2 (x1 : Int32) : Nat → kH → Int32 → Option (kH)
  | 0, _, _ => none
  | n + 1, h, x2 => (fun rec2 => if 12 ≤ x2 then (b_M_layVoices_23 x1 kFuel h 0) else (kG x2 12 (kLet (hset h 794 (kx x2) 0) fun h7 => rec2 h7 (x2 + 1)))) (fun h' x2' => b_M_layVoices_2 x1 n h' x2')
theorem c_M_layVoices_2 {E : kE} {L : Nat} {xs : Nat → Int32} (hro : kRo E L xs) {x1 : Int32} {h' : kH} : ∀ (n : Nat) (h : kH) (x2 : Int32), b_M_layVoices_2 x1 n h x2 = some h' → kJ E m_M_layVoices none (mk h') 0 0 2 [(0, .ref 786), (1, .int x1), (2, .int x2)] [] (mk h) := by
  intro n
  induction n with
  | zero =>
    intro h x2 hf
    have hf : (none : Option (kH)) = some h' := hf
    cases hf
  | succ n hrec2 =>
    intro h x2 hf
    rw [b_M_layVoices_2] at hf
    dsimp only at hf
    refine kJ_iload_n 3 2 d_M_layVoices_2 rfl rfl rfl ?_
    refine kJ_bipush 5 12 d_M_layVoices_3 kb_12 rfl ?_
    refine kJ_icmp_ge 8 21 d_M_layVoices_5 rfl rfl (fun hc => ?_) (fun hc => ?_)
    · have hf := kIf_t hf hc
      refine kJ_iconst 22 0 d_M_layVoices_21 ki_0 rfl ?_
      refine kJ_istore_n 23 [(2, .int 0), (0, .ref 786), (1, .int x1)] d_M_layVoices_22 rfl (Nat.le_of_ble_eq_true rfl) rfl rfl ?_
      refine kJ_sub [1, 2, 0] rfl ?_
      exact c_M_layVoices_23 hro kFuel h 0 hf
    · have hf := kIf_f hf hc
      refine kJ_aload_n 9 0 d_M_layVoices_8 rfl rfl rfl rfl ?_
      refine kM_getR 12 7 794 d_M_layVoices_9 l_M_32 km_786 rfl rfl rfl rfl ?_
      refine kJ_iload_n 13 2 d_M_layVoices_12 rfl rfl rfl ?_
      refine kJ_iconst 14 0 d_M_layVoices_13 ki_0 rfl ?_
      obtain ⟨hg, hf⟩ := kG_some hf
      refine kM_iast 15 12 d_M_layVoices_14 km_794 rfl hg rfl ?_
      obtain ⟨h7, eh7, hf⟩ := kLet_e hf
      rw [← eh7]
      refine kJ_iinc 18 2 [(2, .int (x2 + 1)), (0, .ref 786), (1, .int x1)] d_M_layVoices_15 rfl ki_1 (Nat.le_of_ble_eq_true rfl) rfl rfl ?_
      refine kJ_goto 2 d_M_layVoices_18 rfl ?_
      refine kJ_sub [1, 2, 0] rfl ?_
      exact hrec2 h7 (x2 + 1) hf
def f_M_layVoices (h : kH) (x1 : Int32) : Option (kH) := b_M_layVoices_2 x1 kFuel h 0
theorem j_M_layVoices {E : kE} {L : Nat} {xs : Nat → Int32} (hro : kRo E L xs) {h : kH} {x1 : Int32} {h' : kH} (hf : f_M_layVoices h x1 = some h') : JM E m_M_layVoices [.ref 786, .int x1] (mk h) none (mk h') := by
  unfold f_M_layVoices at hf
  refine JM.of pn_M (Nat.le_of_ble_eq_true rfl) ?_
  show kJ E m_M_layVoices none (mk h') 0 0 0 [(0, .ref 786), (1, .int x1)] [] (mk h)
  refine kJ_iconst 1 0 d_M_layVoices_0 ki_0 rfl ?_
  refine kJ_istore_n 2 [(2, .int 0), (0, .ref 786), (1, .int x1)] d_M_layVoices_1 rfl (Nat.le_of_ble_eq_true rfl) rfl rfl ?_
  refine kJ_sub [1, 2, 0] rfl ?_
  exact c_M_layVoices_2 hro kFuel h 0 hf
def b_M_weightThere_38 (rec9 : kH → Int32 → Int32 → Option (Int32 × kH)) (h : kH) (x3 : Int32) (s0 : Int32) : Option (Int32 × kH) := kBi (f_M_ofOne h x3 0) fun v3 => rec9 h (s0 + v3) (x3 + 1)
theorem c_M_weightThere_38 {E : kE} {L : Nat} {xs : Nat → Int32} (hro : kRo E L xs) {rec9 : kH → Int32 → Int32 → Option (Int32 × kH)} {h : kH} {x3 : Int32} {s0 : Int32} {r : Int32} {h' : kH} (hrec9 : ∀ (h : kH) (x2 : Int32) (x3 : Int32), rec9 h x2 x3 = some (r, h') → kJ E m_M_weightThere (some r) (mk h') 0 0 9 [(0, .ref 786), (2, .int x2), (3, .int x3)] [] (mk h)) (hf : b_M_weightThere_38 rec9 h x3 s0 = some (r, h')) : kJ E m_M_weightThere (some r) (mk h') 0 0 38 [(0, .ref 786), (3, .int x3)] [.int s0] (mk h) := by
  unfold b_M_weightThere_38 at hf
  refine kJ_aload_n 39 0 d_M_weightThere_38 rfl rfl rfl rfl ?_
  refine kJ_iload_n 40 1 d_M_weightThere_39 rfl rfl rfl ?_
  refine kJ_iconst 41 0 d_M_weightThere_40 ki_0 rfl ?_
  obtain ⟨v3, ev3, hf⟩ := kBi_some hf
  refine kM_callv 44 m_M_ofOne [.int x3, .int 0] [.int s0] d_M_weightThere_41 cl_M_60 ⟨w_901, w_68⟩ km_786 ⟨rfl, by decide⟩ ⟨_, _, rfl⟩ rfl rfl (Nat.le_of_ble_eq_true rfl) ⟨Nat.le_of_ble_eq_true rfl, Nat.le_of_ble_eq_true rfl⟩ ⟨rfl, rfl⟩ ⟨Nat.zero_le _, Nat.zero_le _⟩ (j_M_ofOne hro ev3) rfl ?_
  refine kJ_goto 48 d_M_weightThere_44 rfl ?_
  refine kJ_iadd 49 d_M_weightThere_48 rfl ?_
  refine kJ_istore_n 50 [(2, .int (s0 + v3)), (0, .ref 786), (3, .int x3)] d_M_weightThere_49 rfl (Nat.le_of_ble_eq_true rfl) rfl rfl ?_
  refine kJ_iinc 53 2 [(3, .int (x3 + 1)), (2, .int (s0 + v3)), (0, .ref 786)] d_M_weightThere_50 rfl ki_1 (Nat.le_of_ble_eq_true rfl) rfl rfl ?_
  refine kJ_goto 9 d_M_weightThere_53 rfl ?_
  refine kJ_sub [2, 1, 0] rfl ?_
  exact hrec9 h (s0 + v3) (x3 + 1) hf
def b_M_weightThere_9 : Nat → kH → Int32 → Int32 → Option (Int32 × kH)
  | 0, _, _, _ => none
  | n + 1, h, x2, x3 => (fun rec9 => kG 7 760 (if (h 787 (kx 7)) ≤ x3 then (some (x2, h)) else (kBi (f_M_isPresent h x3) fun v2 => if v2 = true then (b_M_weightThere_38 rec9 h x3 x2) else (kG x3 12 (if (h 793 (kx x3)) < 0 then (rec9 h (x2 + 0) (x3 + 1)) else (b_M_weightThere_38 rec9 h x3 x2)))))) (fun h' x2' x3' => b_M_weightThere_9 n h' x2' x3')
theorem c_M_weightThere_9 {E : kE} {L : Nat} {xs : Nat → Int32} (hro : kRo E L xs) {r : Int32} {h' : kH} : ∀ (n : Nat) (h : kH) (x2 : Int32) (x3 : Int32), b_M_weightThere_9 n h x2 x3 = some (r, h') → kJ E m_M_weightThere (some r) (mk h') 0 0 9 [(0, .ref 786), (2, .int x2), (3, .int x3)] [] (mk h) := by
  intro n
  induction n with
  | zero =>
    intro h x2 x3 hf
    have hf : (none : Option (Int32 × kH)) = some (r, h') := hf
    cases hf
  | succ n hrec9 =>
    intro h x2 x3 hf
    rw [b_M_weightThere_9] at hf
    dsimp only at hf
    refine kJ_iload_n 10 2 d_M_weightThere_9 rfl rfl rfl ?_
    refine kJ_aload_n 11 0 d_M_weightThere_10 rfl rfl rfl rfl ?_
    refine kM_getR 14 0 787 d_M_weightThere_11 l_M_7 km_786 rfl rfl rfl rfl ?_
    refine kJ_bipush 16 7 d_M_weightThere_14 kb_7 rfl ?_
    obtain ⟨hg, hf⟩ := kG_some hf
    refine kM_iald 17 760 d_M_weightThere_16 km_787 rfl hg rfl ?_
    refine kJ_icmp_ge 20 56 d_M_weightThere_17 rfl rfl (fun hc => ?_) (fun hc => ?_)
    · have hf := kIf_t hf hc
      refine kJ_iload_n 57 1 d_M_weightThere_56 rfl rfl rfl ?_
      cases hf
      exact kJ_iret d_M_weightThere_57 rfl rfl (Nat.zero_le _) (Nat.zero_le _)
    · have hf := kIf_f hf hc
      refine kJ_iload_n 21 1 d_M_weightThere_20 rfl rfl rfl ?_
      refine kJ_aload_n 22 0 d_M_weightThere_21 rfl rfl rfl rfl ?_
      refine kJ_iload_n 23 2 d_M_weightThere_22 rfl rfl rfl ?_
      obtain ⟨v2, ev2, hf⟩ := kBi_some hf
      refine kM_callv 26 m_M_isPresent [.int x3] [.int x2] d_M_weightThere_23 cl_M_64 ⟨w_909, w_70⟩ km_786 ⟨rfl, by decide⟩ ⟨_, _, rfl⟩ rfl rfl (Nat.le_of_ble_eq_true rfl) ⟨Nat.le_of_ble_eq_true rfl, Nat.le_of_ble_eq_true rfl⟩ ⟨rfl, rfl⟩ ⟨Nat.zero_le _, Nat.zero_le _⟩ (j_M_isPresent hro ev2) rfl ?_
      refine kJ_if_ne 29 38 d_M_weightThere_26 rfl rfl (fun hc => ?_) (fun hc => ?_)
      · have hf := kIf_t hf (kB2_1 hc)
        refine kJ_sub [0, 2] rfl ?_
        exact c_M_weightThere_38 hro hrec9 hf
      · have hf := kIf_f hf (kB2_0 hc)
        refine kJ_aload_n 30 0 d_M_weightThere_29 rfl rfl rfl rfl ?_
        refine kM_getR 33 6 793 d_M_weightThere_30 l_M_29 km_786 rfl rfl rfl rfl ?_
        refine kJ_iload_n 34 2 d_M_weightThere_33 rfl rfl rfl ?_
        obtain ⟨hg, hf⟩ := kG_some hf
        refine kM_iald 35 12 d_M_weightThere_34 km_793 rfl hg rfl ?_
        refine kJ_if_lt 38 47 d_M_weightThere_35 rfl rfl (fun hc => ?_) (fun hc => ?_)
        · have hf := kIf_t hf hc
          refine kJ_iconst 48 0 d_M_weightThere_47 ki_0 rfl ?_
          refine kJ_iadd 49 d_M_weightThere_48 rfl ?_
          refine kJ_istore_n 50 [(2, .int (x2 + 0)), (0, .ref 786), (3, .int x3)] d_M_weightThere_49 rfl (Nat.le_of_ble_eq_true rfl) rfl rfl ?_
          refine kJ_iinc 53 2 [(3, .int (x3 + 1)), (2, .int (x2 + 0)), (0, .ref 786)] d_M_weightThere_50 rfl ki_1 (Nat.le_of_ble_eq_true rfl) rfl rfl ?_
          refine kJ_goto 9 d_M_weightThere_53 rfl ?_
          refine kJ_sub [2, 1, 0] rfl ?_
          exact hrec9 h (x2 + 0) (x3 + 1) hf
        · have hf := kIf_f hf hc
          refine kJ_sub [0, 2] rfl ?_
          exact c_M_weightThere_38 hro hrec9 hf
def f_M_weightThere (h : kH) (x1 : Int32) : Option (Int32 × kH) := kBi (f_M_layVoices h x1) fun h1 => b_M_weightThere_9  kFuel h1 0 0
theorem j_M_weightThere {E : kE} {L : Nat} {xs : Nat → Int32} (hro : kRo E L xs) {h : kH} {x1 : Int32} {r : Int32} {h' : kH} (hf : f_M_weightThere h x1 = some (r, h')) : JM E m_M_weightThere [.ref 786, .int x1] (mk h) (some r) (mk h') := by
  unfold f_M_weightThere at hf
  refine JM.of pn_M (Nat.le_of_ble_eq_true rfl) ?_
  show kJ E m_M_weightThere (some r) (mk h') 0 0 0 [(0, .ref 786), (1, .int x1)] [] (mk h)
  refine kJ_aload_n 1 0 d_M_weightThere_0 rfl rfl rfl rfl ?_
  refine kJ_iload_n 2 1 d_M_weightThere_1 rfl rfl rfl ?_
  obtain ⟨h1, eh1, hf⟩ := kBi_some hf
  refine kM_callv 5 m_M_layVoices [.int x1] [] d_M_weightThere_2 cl_M_104 ⟨w_971, w_78⟩ km_786 ⟨rfl, by decide⟩ ⟨_, _, rfl⟩ rfl rfl (Nat.le_of_ble_eq_true rfl) ⟨Nat.le_of_ble_eq_true rfl, Nat.le_of_ble_eq_true rfl⟩ ⟨rfl, rfl⟩ ⟨Nat.zero_le _, Nat.zero_le _⟩ (j_M_layVoices hro eh1) rfl ?_
  refine kJ_iconst 6 0 d_M_weightThere_5 ki_0 rfl ?_
  refine kJ_istore_n 7 [(2, .int 0), (0, .ref 786), (1, .int x1)] d_M_weightThere_6 rfl (Nat.le_of_ble_eq_true rfl) rfl rfl ?_
  refine kJ_iconst 8 0 d_M_weightThere_7 ki_0 rfl ?_
  refine kJ_istore_n 9 [(3, .int 0), (2, .int 0), (0, .ref 786), (1, .int x1)] d_M_weightThere_8 rfl (Nat.le_of_ble_eq_true rfl) rfl rfl ?_
  refine kJ_sub [2, 1, 0] rfl ?_
  exact c_M_weightThere_9 hro kFuel h1 0 0 hf
def b_M_allWeight_4 (h : kH) : Nat → Int32 → Int32 → Option Int32
  | 0, _, _ => none
  | n + 1, x1, x2 => (fun rec4 => kG 7 760 (if (h 787 (kx 7)) ≤ x2 then (some x1) else (kBi (f_M_ofOne h x2 0) fun v1 => rec4 (x1 + v1) (x2 + 1)))) (fun x1' x2' => b_M_allWeight_4 h n x1' x2')
theorem c_M_allWeight_4 {E : kE} {L : Nat} {xs : Nat → Int32} (hro : kRo E L xs) {h : kH} {r : Int32} : ∀ (n : Nat) (x1 : Int32) (x2 : Int32), b_M_allWeight_4 h n x1 x2 = some r → kJ E m_M_allWeight (some r) (mk h) 0 0 4 [(0, .ref 786), (1, .int x1), (2, .int x2)] [] (mk h) := by
  intro n
  induction n with
  | zero =>
    intro x1 x2 hf
    have hf : (none : Option Int32) = some r := hf
    cases hf
  | succ n hrec4 =>
    intro x1 x2 hf
    rw [b_M_allWeight_4] at hf
    dsimp only at hf
    refine kJ_iload_n 5 2 d_M_allWeight_4 rfl rfl rfl ?_
    refine kJ_aload_n 6 0 d_M_allWeight_5 rfl rfl rfl rfl ?_
    refine kM_getR 9 0 787 d_M_allWeight_6 l_M_7 km_786 rfl rfl rfl rfl ?_
    refine kJ_bipush 11 7 d_M_allWeight_9 kb_7 rfl ?_
    obtain ⟨hg, hf⟩ := kG_some hf
    refine kM_iald 12 760 d_M_allWeight_11 km_787 rfl hg rfl ?_
    refine kJ_icmp_ge 15 30 d_M_allWeight_12 rfl rfl (fun hc => ?_) (fun hc => ?_)
    · have hf := kIf_t hf hc
      refine kJ_iload_n 31 1 d_M_allWeight_30 rfl rfl rfl ?_
      cases hf
      exact kJ_iret d_M_allWeight_31 rfl rfl (Nat.zero_le _) (Nat.zero_le _)
    · have hf := kIf_f hf hc
      refine kJ_iload_n 16 1 d_M_allWeight_15 rfl rfl rfl ?_
      refine kJ_aload_n 17 0 d_M_allWeight_16 rfl rfl rfl rfl ?_
      refine kJ_iload_n 18 2 d_M_allWeight_17 rfl rfl rfl ?_
      refine kJ_iconst 19 0 d_M_allWeight_18 ki_0 rfl ?_
      obtain ⟨v1, ev1, hf⟩ := kBi_some hf
      refine kM_callv 22 m_M_ofOne [.int x2, .int 0] [.int x1] d_M_allWeight_19 cl_M_60 ⟨w_901, w_68⟩ km_786 ⟨rfl, by decide⟩ ⟨_, _, rfl⟩ rfl rfl (Nat.le_of_ble_eq_true rfl) ⟨Nat.le_of_ble_eq_true rfl, Nat.le_of_ble_eq_true rfl⟩ ⟨rfl, rfl⟩ ⟨Nat.zero_le _, Nat.zero_le _⟩ (j_M_ofOne hro ev1) rfl ?_
      refine kJ_iadd 23 d_M_allWeight_22 rfl ?_
      refine kJ_istore_n 24 [(1, .int (x1 + v1)), (0, .ref 786), (2, .int x2)] d_M_allWeight_23 rfl (Nat.le_of_ble_eq_true rfl) rfl rfl ?_
      refine kJ_iinc 27 2 [(2, .int (x2 + 1)), (1, .int (x1 + v1)), (0, .ref 786)] d_M_allWeight_24 rfl ki_1 (Nat.le_of_ble_eq_true rfl) rfl rfl ?_
      refine kJ_goto 4 d_M_allWeight_27 rfl ?_
      refine kJ_sub [2, 1, 0] rfl ?_
      exact hrec4 (x1 + v1) (x2 + 1) hf
def f_M_allWeight (h : kH) : Option Int32 := b_M_allWeight_4 h kFuel 0 0
theorem j_M_allWeight {E : kE} {L : Nat} {xs : Nat → Int32} (hro : kRo E L xs) {h : kH} {r : Int32} (hf : f_M_allWeight h = some r) : JM E m_M_allWeight [.ref 786] (mk h) (some r) (mk h) := by
  unfold f_M_allWeight at hf
  refine JM.of pn_M (Nat.le_of_ble_eq_true rfl) ?_
  show kJ E m_M_allWeight (some r) (mk h) 0 0 0 [(0, .ref 786)] [] (mk h)
  refine kJ_iconst 1 0 d_M_allWeight_0 ki_0 rfl ?_
  refine kJ_istore_n 2 [(1, .int 0), (0, .ref 786)] d_M_allWeight_1 rfl (Nat.le_of_ble_eq_true rfl) rfl rfl ?_
  refine kJ_iconst 3 0 d_M_allWeight_2 ki_0 rfl ?_
  refine kJ_istore_n 4 [(2, .int 0), (1, .int 0), (0, .ref 786)] d_M_allWeight_3 rfl (Nat.le_of_ble_eq_true rfl) rfl rfl ?_
  refine kJ_sub [2, 1, 0] rfl ?_
  exact c_M_allWeight_4 hro kFuel 0 0 hf
def b_M_isQuorum_25 (h : kH) (x1 : Int32) (s0 : Nat) (s1 : Bool) : Option (Bool × kH) := kG (kB2 s1) 760 (kBd (f_M_weightThere h x1) fun v2 h1 => kBi (f_M_allWeight h1) fun v3 => if (100 * v2) < (v3 * (h s0 (kx (kB2 s1)))) then (some (false, h1)) else (some (true, h1)))
theorem c_M_isQuorum_25 {E : kE} {L : Nat} {xs : Nat → Int32} (hro : kRo E L xs) {h : kH} {x1 : Int32} {s0 : Nat} {s1 : Bool} (ks0 : kIs s0 13) {r : Bool} {h' : kH} (hf : b_M_isQuorum_25 h x1 s0 s1 = some (r, h')) : kJ E m_M_isQuorum (some (kB2 r)) (mk h') 0 0 25 [(0, .ref 786), (1, .int x1)] [.int (kB2 s1), .ref s0] (mk h) := by
  unfold b_M_isQuorum_25 at hf
  obtain ⟨hg, hf⟩ := kG_some hf
  refine kM_iald 26 760 d_M_isQuorum_25 ks0 rfl hg rfl ?_
  refine kJ_istore_n 27 [(2, .int (h s0 (kx (kB2 s1)))), (0, .ref 786), (1, .int x1)] d_M_isQuorum_26 rfl (Nat.le_of_ble_eq_true rfl) rfl rfl ?_
  refine kJ_bipush 29 100 d_M_isQuorum_27 kb_100 rfl ?_
  refine kJ_aload_n 30 1 d_M_isQuorum_29 rfl rfl rfl rfl ?_
  refine kJ_iload_n 31 2 d_M_isQuorum_30 rfl rfl rfl ?_
  obtain ⟨v2, h1, ev2, hf⟩ := kBd_some hf
  refine kM_callv 34 m_M_weightThere [.int x1] [.int 100] d_M_isQuorum_31 cl_M_111 ⟨w_967, w_77⟩ km_786 ⟨rfl, by decide⟩ ⟨_, _, rfl⟩ rfl rfl (Nat.le_of_ble_eq_true rfl) ⟨Nat.le_of_ble_eq_true rfl, Nat.le_of_ble_eq_true rfl⟩ ⟨rfl, rfl⟩ ⟨Nat.zero_le _, Nat.zero_le _⟩ (j_M_weightThere hro ev2) rfl ?_
  refine kJ_imul 35 d_M_isQuorum_34 rfl ?_
  refine kJ_aload_n 36 1 d_M_isQuorum_35 rfl rfl rfl rfl ?_
  obtain ⟨v3, ev3, hf⟩ := kBi_some hf
  refine kM_callv 39 m_M_allWeight [] [.int (100 * v2)] d_M_isQuorum_36 cl_M_114 ⟨w_987, w_82⟩ km_786 ⟨rfl, by decide⟩ ⟨_, _, rfl⟩ rfl rfl (Nat.le_of_ble_eq_true rfl) ⟨Nat.le_of_ble_eq_true rfl, Nat.le_of_ble_eq_true rfl⟩ ⟨rfl, rfl⟩ ⟨Nat.zero_le _, Nat.zero_le _⟩ (j_M_allWeight hro ev3) rfl ?_
  refine kJ_iload_n 40 0 d_M_isQuorum_39 rfl rfl rfl ?_
  refine kJ_imul 41 d_M_isQuorum_40 rfl ?_
  refine kJ_icmp_lt 44 48 d_M_isQuorum_41 rfl rfl (fun hc => ?_) (fun hc => ?_)
  · have hf := kIf_t hf hc
    refine kJ_iconst 49 0 d_M_isQuorum_48 ki_0 rfl ?_
    cases hf
    exact kJ_iret d_M_isQuorum_49 rfl (kB2_z _) (Nat.zero_le _) (Nat.zero_le _)
  · have hf := kIf_f hf hc
    refine kJ_iconst 45 1 d_M_isQuorum_44 ki_1 rfl ?_
    refine kJ_goto 49 d_M_isQuorum_45 rfl ?_
    cases hf
    exact kJ_iret d_M_isQuorum_49 rfl (kB2_z _) (Nat.zero_le _) (Nat.zero_le _)
def f_M_isQuorum (h : kH) (x1 : Int32) : Option (Bool × kH) := kG 6 760 (kG 2 760 (if (h 787 (kx 6)) < (h 787 (kx 2)) then (b_M_isQuorum_25 h x1 787 false) else (b_M_isQuorum_25 h x1 787 true)))
theorem j_M_isQuorum {E : kE} {L : Nat} {xs : Nat → Int32} (hro : kRo E L xs) {h : kH} {x1 : Int32} {r : Bool} {h' : kH} (hf : f_M_isQuorum h x1 = some (r, h')) : JM E m_M_isQuorum [.ref 786, .int x1] (mk h) (some (kB2 r)) (mk h') := by
  unfold f_M_isQuorum at hf
  refine JM.of pn_M (Nat.le_of_ble_eq_true rfl) ?_
  show kJ E m_M_isQuorum (some (kB2 r)) (mk h') 0 0 0 [(0, .ref 786), (1, .int x1)] [] (mk h)
  refine kJ_aload_n 1 0 d_M_isQuorum_0 rfl rfl rfl rfl ?_
  refine kM_getR 4 0 787 d_M_isQuorum_1 l_M_7 km_786 rfl rfl rfl rfl ?_
  refine kJ_aload_n 5 0 d_M_isQuorum_4 rfl rfl rfl rfl ?_
  refine kM_getR 8 0 787 d_M_isQuorum_5 l_M_7 km_786 rfl rfl rfl rfl ?_
  refine kJ_bipush 10 6 d_M_isQuorum_8 kb_6 rfl ?_
  obtain ⟨hg, hf⟩ := kG_some hf
  refine kM_iald 11 760 d_M_isQuorum_10 km_787 rfl hg rfl ?_
  refine kJ_aload_n 12 0 d_M_isQuorum_11 rfl rfl rfl rfl ?_
  refine kM_getR 15 0 787 d_M_isQuorum_12 l_M_7 km_786 rfl rfl rfl rfl ?_
  refine kJ_iconst 16 2 d_M_isQuorum_15 ki_2 rfl ?_
  obtain ⟨hg, hf⟩ := kG_some hf
  refine kM_iald 17 760 d_M_isQuorum_16 km_787 rfl hg rfl ?_
  refine kJ_icmp_lt 20 24 d_M_isQuorum_17 rfl rfl (fun hc => ?_) (fun hc => ?_)
  · have hf := kIf_t hf hc
    refine kJ_iconst 25 0 d_M_isQuorum_24 ki_0 rfl ?_
    refine kJ_sub [0, 1] rfl ?_
    exact c_M_isQuorum_25 hro km_787 hf
  · have hf := kIf_f hf hc
    refine kJ_iconst 21 1 d_M_isQuorum_20 ki_1 rfl ?_
    refine kJ_goto 25 d_M_isQuorum_21 rfl ?_
    refine kJ_sub [0, 1] rfl ?_
    exact c_M_isQuorum_25 hro km_787 hf
def f_M_open (h : kH) (x1 : Int32) : Option (Int32 × kH) := kBi (f_M_isItem h x1) fun v1 => if v1 = true then (kBi (f_M_stateOf h x1) fun v2 => if v2 = 0 then (kBi (f_M_itemIn h 1) fun v3 => if 0 ≤ v3 then (some ((-5), h)) else (kBd (f_M_isQuorum h x1) fun v5 h4 => if v5 = true then (kBi (f_M_record h4) fun h6 => kG ((100 + (12 * x1)) + 2) 760 (kLet (hset h6 787 (kx ((100 + (12 * x1)) + 2)) 1) fun h7 => kBd (f_M_weightThere h7 x1) fun v9 h8 => some (v9, h8))) else (some ((-5), h4)))) else (some ((-5), h))) else (some ((-1), h))
theorem j_M_open {E : kE} {L : Nat} {xs : Nat → Int32} (hro : kRo E L xs) {h : kH} {x1 : Int32} {r : Int32} {h' : kH} (hf : f_M_open h x1 = some (r, h')) : JM E m_M_open [.ref 786, .int x1] (mk h) (some r) (mk h') := by
  unfold f_M_open at hf
  refine JM.of pn_M (Nat.le_of_ble_eq_true rfl) ?_
  show kJ E m_M_open (some r) (mk h') 0 0 0 [(0, .ref 786), (1, .int x1)] [] (mk h)
  refine kJ_aload_n 1 0 d_M_open_0 rfl rfl rfl rfl ?_
  refine kJ_iload_n 2 1 d_M_open_1 rfl rfl rfl ?_
  obtain ⟨v1, ev1, hf⟩ := kBi_some hf
  refine kM_callv 5 m_M_isItem [.int x1] [] d_M_open_2 cl_M_78 ⟨w_928, w_71⟩ km_786 ⟨rfl, by decide⟩ ⟨_, _, rfl⟩ rfl rfl (Nat.le_of_ble_eq_true rfl) ⟨Nat.le_of_ble_eq_true rfl, Nat.le_of_ble_eq_true rfl⟩ ⟨rfl, rfl⟩ ⟨Nat.zero_le _, Nat.zero_le _⟩ (j_M_isItem hro ev1) rfl ?_
  refine kJ_if_ne 8 10 d_M_open_5 rfl rfl (fun hc => ?_) (fun hc => ?_)
  · have hf := kIf_t hf (kB2_1 hc)
    refine kJ_aload_n 11 0 d_M_open_10 rfl rfl rfl rfl ?_
    refine kJ_iload_n 12 1 d_M_open_11 rfl rfl rfl ?_
    obtain ⟨v2, ev2, hf⟩ := kBi_some hf
    refine kM_callv 15 m_M_stateOf [.int x1] [] d_M_open_12 cl_M_81 ⟨w_940, w_73⟩ km_786 ⟨rfl, by decide⟩ ⟨_, _, rfl⟩ rfl rfl (Nat.le_of_ble_eq_true rfl) ⟨Nat.le_of_ble_eq_true rfl, Nat.le_of_ble_eq_true rfl⟩ ⟨rfl, rfl⟩ ⟨Nat.zero_le _, Nat.zero_le _⟩ (j_M_stateOf hro ev2) rfl ?_
    refine kJ_if_ne 18 34 d_M_open_15 rfl rfl (fun hc => ?_) (fun hc => ?_)
    · have hf := kIf_f hf hc
      refine kJ_bipush 36 (-5) d_M_open_34 kb_m5 rfl ?_
      cases hf
      exact kJ_iret d_M_open_36 rfl rfl (Nat.zero_le _) (Nat.zero_le _)
    · have hf := kIf_t hf hc
      refine kJ_aload_n 19 0 d_M_open_18 rfl rfl rfl rfl ?_
      refine kJ_iconst 20 1 d_M_open_19 ki_1 rfl ?_
      obtain ⟨v3, ev3, hf⟩ := kBi_some hf
      refine kM_callv 23 m_M_itemIn [.int 1] [] d_M_open_20 cl_M_120 ⟨w_959, w_75⟩ km_786 ⟨rfl, by decide⟩ ⟨_, _, rfl⟩ rfl rfl (Nat.le_of_ble_eq_true rfl) ⟨Nat.le_of_ble_eq_true rfl, Nat.le_of_ble_eq_true rfl⟩ ⟨rfl, rfl⟩ ⟨Nat.zero_le _, Nat.zero_le _⟩ (j_M_itemIn hro ev3) rfl ?_
      refine kJ_if_ge 26 34 d_M_open_23 rfl rfl (fun hc => ?_) (fun hc => ?_)
      · have hf := kIf_t hf hc
        refine kJ_bipush 36 (-5) d_M_open_34 kb_m5 rfl ?_
        cases hf
        exact kJ_iret d_M_open_36 rfl rfl (Nat.zero_le _) (Nat.zero_le _)
      · have hf := kIf_f hf hc
        refine kJ_aload_n 27 0 d_M_open_26 rfl rfl rfl rfl ?_
        refine kJ_iload_n 28 1 d_M_open_27 rfl rfl rfl ?_
        obtain ⟨v5, h4, ev5, hf⟩ := kBd_some hf
        refine kM_callv 31 m_M_isQuorum [.int x1] [] d_M_open_28 cl_M_123 ⟨w_963, w_76⟩ km_786 ⟨rfl, by decide⟩ ⟨_, _, rfl⟩ rfl rfl (Nat.le_of_ble_eq_true rfl) ⟨Nat.le_of_ble_eq_true rfl, Nat.le_of_ble_eq_true rfl⟩ ⟨rfl, rfl⟩ ⟨Nat.zero_le _, Nat.zero_le _⟩ (j_M_isQuorum hro ev5) rfl ?_
        refine kJ_if_ne 34 37 d_M_open_31 rfl rfl (fun hc => ?_) (fun hc => ?_)
        · have hf := kIf_t hf (kB2_1 hc)
          refine kJ_aload_n 38 0 d_M_open_37 rfl rfl rfl rfl ?_
          obtain ⟨h6, eh6, hf⟩ := kBi_some hf
          refine kM_callv 41 m_M_record [] [] d_M_open_38 cl_M_53 ⟨w_873, w_65⟩ km_786 ⟨rfl, by decide⟩ ⟨_, _, rfl⟩ rfl rfl (Nat.le_of_ble_eq_true rfl) ⟨Nat.le_of_ble_eq_true rfl, Nat.le_of_ble_eq_true rfl⟩ ⟨rfl, rfl⟩ ⟨Nat.zero_le _, Nat.zero_le _⟩ (j_M_record hro eh6) rfl ?_
          refine kJ_aload_n 42 0 d_M_open_41 rfl rfl rfl rfl ?_
          refine kM_getR 45 0 787 d_M_open_42 l_M_7 km_786 rfl rfl rfl rfl ?_
          refine kJ_bipush 47 100 d_M_open_45 kb_100 rfl ?_
          refine kJ_bipush 49 12 d_M_open_47 kb_12 rfl ?_
          refine kJ_iload_n 50 1 d_M_open_49 rfl rfl rfl ?_
          refine kJ_imul 51 d_M_open_50 rfl ?_
          refine kJ_iadd 52 d_M_open_51 rfl ?_
          refine kJ_iconst 53 2 d_M_open_52 ki_2 rfl ?_
          refine kJ_iadd 54 d_M_open_53 rfl ?_
          refine kJ_iconst 55 1 d_M_open_54 ki_1 rfl ?_
          obtain ⟨hg, hf⟩ := kG_some hf
          refine kM_iast 56 760 d_M_open_55 km_787 rfl hg rfl ?_
          obtain ⟨h7, eh7, hf⟩ := kLet_e hf
          rw [← eh7]
          refine kJ_aload_n 57 0 d_M_open_56 rfl rfl rfl rfl ?_
          refine kJ_iload_n 58 1 d_M_open_57 rfl rfl rfl ?_
          obtain ⟨v9, h8, ev9, hf⟩ := kBd_some hf
          refine kM_callv 61 m_M_weightThere [.int x1] [] d_M_open_58 cl_M_111 ⟨w_967, w_77⟩ km_786 ⟨rfl, by decide⟩ ⟨_, _, rfl⟩ rfl rfl (Nat.le_of_ble_eq_true rfl) ⟨Nat.le_of_ble_eq_true rfl, Nat.le_of_ble_eq_true rfl⟩ ⟨rfl, rfl⟩ ⟨Nat.zero_le _, Nat.zero_le _⟩ (j_M_weightThere hro ev9) rfl ?_
          cases hf
          exact kJ_iret d_M_open_61 rfl rfl (Nat.zero_le _) (Nat.zero_le _)
        · have hf := kIf_f hf (kB2_0 hc)
          refine kJ_bipush 36 (-5) d_M_open_34 kb_m5 rfl ?_
          cases hf
          exact kJ_iret d_M_open_36 rfl rfl (Nat.zero_le _) (Nat.zero_le _)
  · have hf := kIf_f hf (kB2_0 hc)
    refine kJ_iconst 9 (-1) d_M_open_8 ki_m1 rfl ?_
    cases hf
    exact kJ_iret d_M_open_9 rfl rfl (Nat.zero_le _) (Nat.zero_le _)
def f_M_vote (h : kH) (x1 : Int32) (x2 : Int32) : Option (Int32 × kH) := kBi (f_M_isMember h x1) fun v1 => if v1 = true then (if (f_M_in x2 0 2) = true then (kBi (f_M_itemIn h 1) fun v2 => if v2 < 0 then (some ((-5), h)) else (kBi (f_M_isPresent h x1) fun v3 => if v3 = true then (kBi (f_M_isRecused h x1 v2) fun v4 => if v4 = true then (some ((-5), h)) else (kBi (f_M_record h) fun h5 => kLet ((250 + (3 * ((12 * v2) + x1))) + 1) fun v6 => kG v6 760 (kG v6 760 (kLet (hset h5 787 (kx v6) x2) fun h7 => some ((h5 787 (kx v6)), h7))))) else (some ((-5), h)))) else (some ((-2), h))) else (some ((-1), h))
theorem j_M_vote {E : kE} {L : Nat} {xs : Nat → Int32} (hro : kRo E L xs) {h : kH} {x1 : Int32} {x2 : Int32} {r : Int32} {h' : kH} (hf : f_M_vote h x1 x2 = some (r, h')) : JM E m_M_vote [.ref 786, .int x1, .int x2] (mk h) (some r) (mk h') := by
  unfold f_M_vote at hf
  refine JM.of pn_M (Nat.le_of_ble_eq_true rfl) ?_
  show kJ E m_M_vote (some r) (mk h') 0 0 0 [(0, .ref 786), (1, .int x1), (2, .int x2)] [] (mk h)
  refine kJ_aload_n 1 0 d_M_vote_0 rfl rfl rfl rfl ?_
  refine kJ_iload_n 2 1 d_M_vote_1 rfl rfl rfl ?_
  obtain ⟨v1, ev1, hf⟩ := kBi_some hf
  refine kM_callv 5 m_M_isMember [.int x1] [] d_M_vote_2 cl_M_56 ⟨w_889, w_66⟩ km_786 ⟨rfl, by decide⟩ ⟨_, _, rfl⟩ rfl rfl (Nat.le_of_ble_eq_true rfl) ⟨Nat.le_of_ble_eq_true rfl, Nat.le_of_ble_eq_true rfl⟩ ⟨rfl, rfl⟩ ⟨Nat.zero_le _, Nat.zero_le _⟩ (j_M_isMember hro ev1) rfl ?_
  refine kJ_if_ne 8 10 d_M_vote_5 rfl rfl (fun hc => ?_) (fun hc => ?_)
  · have hf := kIf_t hf (kB2_1 hc)
    refine kJ_iload_n 11 2 d_M_vote_10 rfl rfl rfl ?_
    refine kJ_iconst 12 0 d_M_vote_11 ki_0 rfl ?_
    refine kJ_iconst 13 2 d_M_vote_12 ki_2 rfl ?_
    refine kM_calls 16 m_M_in [.int x2, .int 0, .int 2] [] d_M_vote_13 cl_M_49 w_869 rfl rfl (Nat.le_of_ble_eq_true rfl) ⟨Nat.le_of_ble_eq_true rfl, Nat.le_of_ble_eq_true rfl⟩ ⟨rfl, rfl⟩ ⟨Nat.zero_le _, Nat.zero_le _⟩ (j_M_in hro rfl) rfl ?_
    refine kJ_if_ne 19 22 d_M_vote_16 rfl rfl (fun hc => ?_) (fun hc => ?_)
    · have hf := kIf_t hf (kB2_1 hc)
      refine kJ_aload_n 23 0 d_M_vote_22 rfl rfl rfl rfl ?_
      refine kJ_iconst 24 1 d_M_vote_23 ki_1 rfl ?_
      obtain ⟨v2, ev2, hf⟩ := kBi_some hf
      refine kM_callv 27 m_M_itemIn [.int 1] [] d_M_vote_24 cl_M_120 ⟨w_959, w_75⟩ km_786 ⟨rfl, by decide⟩ ⟨_, _, rfl⟩ rfl rfl (Nat.le_of_ble_eq_true rfl) ⟨Nat.le_of_ble_eq_true rfl, Nat.le_of_ble_eq_true rfl⟩ ⟨rfl, rfl⟩ ⟨Nat.zero_le _, Nat.zero_le _⟩ (j_M_itemIn hro ev2) rfl ?_
      refine kJ_istore_n 28 [(3, .int v2), (0, .ref 786), (1, .int x1), (2, .int x2)] d_M_vote_27 rfl (Nat.le_of_ble_eq_true rfl) rfl rfl ?_
      refine kJ_iload_n 29 0 d_M_vote_28 rfl rfl rfl ?_
      refine kJ_if_lt 32 49 d_M_vote_29 rfl rfl (fun hc => ?_) (fun hc => ?_)
      · have hf := kIf_t hf hc
        refine kJ_bipush 51 (-5) d_M_vote_49 kb_m5 rfl ?_
        cases hf
        exact kJ_iret d_M_vote_51 rfl rfl (Nat.zero_le _) (Nat.zero_le _)
      · have hf := kIf_f hf hc
        refine kJ_aload_n 33 1 d_M_vote_32 rfl rfl rfl rfl ?_
        refine kJ_iload_n 34 2 d_M_vote_33 rfl rfl rfl ?_
        obtain ⟨v3, ev3, hf⟩ := kBi_some hf
        refine kM_callv 37 m_M_isPresent [.int x1] [] d_M_vote_34 cl_M_64 ⟨w_909, w_70⟩ km_786 ⟨rfl, by decide⟩ ⟨_, _, rfl⟩ rfl rfl (Nat.le_of_ble_eq_true rfl) ⟨Nat.le_of_ble_eq_true rfl, Nat.le_of_ble_eq_true rfl⟩ ⟨rfl, rfl⟩ ⟨Nat.zero_le _, Nat.zero_le _⟩ (j_M_isPresent hro ev3) rfl ?_
        refine kJ_if_eq 40 49 d_M_vote_37 rfl rfl (fun hc => ?_) (fun hc => ?_)
        · have hf := kIf_f hf (kB2_0 hc)
          refine kJ_bipush 51 (-5) d_M_vote_49 kb_m5 rfl ?_
          cases hf
          exact kJ_iret d_M_vote_51 rfl rfl (Nat.zero_le _) (Nat.zero_le _)
        · have hf := kIf_t hf (kB2_1 hc)
          refine kJ_aload_n 41 1 d_M_vote_40 rfl rfl rfl rfl ?_
          refine kJ_iload_n 42 2 d_M_vote_41 rfl rfl rfl ?_
          refine kJ_iload_n 43 0 d_M_vote_42 rfl rfl rfl ?_
          obtain ⟨v4, ev4, hf⟩ := kBi_some hf
          refine kM_callv 46 m_M_isRecused [.int x1, .int v2] [] d_M_vote_43 cl_M_91 ⟨w_948, w_74⟩ km_786 ⟨rfl, by decide⟩ ⟨_, _, rfl⟩ rfl rfl (Nat.le_of_ble_eq_true rfl) ⟨Nat.le_of_ble_eq_true rfl, Nat.le_of_ble_eq_true rfl⟩ ⟨rfl, rfl⟩ ⟨Nat.zero_le _, Nat.zero_le _⟩ (j_M_isRecused hro ev4) rfl ?_
          refine kJ_if_eq 49 52 d_M_vote_46 rfl rfl (fun hc => ?_) (fun hc => ?_)
          · have hf := kIf_f hf (kB2_0 hc)
            refine kJ_aload_n 53 1 d_M_vote_52 rfl rfl rfl rfl ?_
            obtain ⟨h5, eh5, hf⟩ := kBi_some hf
            refine kM_callv 56 m_M_record [] [] d_M_vote_53 cl_M_53 ⟨w_873, w_65⟩ km_786 ⟨rfl, by decide⟩ ⟨_, _, rfl⟩ rfl rfl (Nat.le_of_ble_eq_true rfl) ⟨Nat.le_of_ble_eq_true rfl, Nat.le_of_ble_eq_true rfl⟩ ⟨rfl, rfl⟩ ⟨Nat.zero_le _, Nat.zero_le _⟩ (j_M_record hro eh5) rfl ?_
            refine kJ_sipush 59 250 d_M_vote_56 ks_250 rfl ?_
            refine kJ_iconst 60 3 d_M_vote_59 ki_3 rfl ?_
            refine kJ_bipush 62 12 d_M_vote_60 kb_12 rfl ?_
            refine kJ_iload_n 63 0 d_M_vote_62 rfl rfl rfl ?_
            refine kJ_imul 64 d_M_vote_63 rfl ?_
            refine kJ_iload_n 65 2 d_M_vote_64 rfl rfl rfl ?_
            refine kJ_iadd 66 d_M_vote_65 rfl ?_
            refine kJ_imul 67 d_M_vote_66 rfl ?_
            refine kJ_iadd 68 d_M_vote_67 rfl ?_
            refine kJ_iconst 69 1 d_M_vote_68 ki_1 rfl ?_
            refine kJ_iadd 70 d_M_vote_69 rfl ?_
            obtain ⟨v6, ev6, hf⟩ := kLet_e hf
            rw [← ev6]
            refine kJ_istore 72 [(4, .int v6), (3, .int v2), (0, .ref 786), (1, .int x1), (2, .int x2)] d_M_vote_70 (Nat.le_of_ble_eq_true rfl) rfl rfl ?_
            refine kJ_aload_n 73 2 d_M_vote_72 rfl rfl rfl rfl ?_
            refine kM_getR 76 0 787 d_M_vote_73 l_M_7 km_786 rfl rfl rfl rfl ?_
            refine kJ_iload 78 0 d_M_vote_76 rfl rfl ?_
            obtain ⟨hg, hf⟩ := kG_some hf
            refine kM_iald 79 760 d_M_vote_78 km_787 rfl hg rfl ?_
            refine kJ_istore 81 [(5, .int (h5 787 (kx v6))), (4, .int v6), (3, .int v2), (0, .ref 786), (1, .int x1), (2, .int x2)] d_M_vote_79 (Nat.le_of_ble_eq_true rfl) rfl rfl ?_
            refine kJ_aload_n 82 3 d_M_vote_81 rfl rfl rfl rfl ?_
            refine kM_getR 85 0 787 d_M_vote_82 l_M_7 km_786 rfl rfl rfl rfl ?_
            refine kJ_iload 87 1 d_M_vote_85 rfl rfl ?_
            refine kJ_iload_n 88 5 d_M_vote_87 rfl rfl rfl ?_
            obtain ⟨hg, hf⟩ := kG_some hf
            refine kM_iast 89 760 d_M_vote_88 km_787 rfl hg rfl ?_
            obtain ⟨h7, eh7, hf⟩ := kLet_e hf
            rw [← eh7]
            refine kJ_iload 91 0 d_M_vote_89 rfl rfl ?_
            cases hf
            exact kJ_iret d_M_vote_91 rfl rfl (Nat.zero_le _) (Nat.zero_le _)
          · have hf := kIf_t hf (kB2_1 hc)
            refine kJ_bipush 51 (-5) d_M_vote_49 kb_m5 rfl ?_
            cases hf
            exact kJ_iret d_M_vote_51 rfl rfl (Nat.zero_le _) (Nat.zero_le _)
    · have hf := kIf_f hf (kB2_0 hc)
      refine kJ_bipush 21 (-2) d_M_vote_19 kb_m2 rfl ?_
      cases hf
      exact kJ_iret d_M_vote_21 rfl rfl (Nat.zero_le _) (Nat.zero_le _)
  · have hf := kIf_f hf (kB2_0 hc)
    refine kJ_iconst 9 (-1) d_M_vote_8 ki_m1 rfl ?_
    cases hf
    exact kJ_iret d_M_vote_9 rfl rfl (Nat.zero_le _) (Nat.zero_le _)
def f_M_wayOf (h : kH) (x1 : Int32) (x2 : Int32) : Option Int32 := kBi (f_M_isRecused h x1 x2) fun v1 => if v1 = true then (some 5) else (kBi (f_M_pair h x2 x1 1) fun v2 => if v2 < 0 then (kBi (f_M_isPresent h x1) fun v3 => if v3 = true then (some 3) else (kG x1 12 (if 0 ≤ (h 793 (kx x1)) then (kBi (f_M_pair h x2 x1 2) fun v4 => if v4 < 0 then (kG x1 12 (kBi (f_M_pair h x2 (h 793 (kx x1)) 1) fun v5 => if v5 < 0 then (some 3) else (some v5))) else (kBi (f_M_pair h x2 x1 2) fun v6 => some v6)) else (some 4)))) else (kBi (f_M_pair h x2 x1 1) fun v7 => some v7))
theorem j_M_wayOf {E : kE} {L : Nat} {xs : Nat → Int32} (hro : kRo E L xs) {h : kH} {x1 : Int32} {x2 : Int32} {r : Int32} (hf : f_M_wayOf h x1 x2 = some r) : JM E m_M_wayOf [.ref 786, .int x1, .int x2] (mk h) (some r) (mk h) := by
  unfold f_M_wayOf at hf
  refine JM.of pn_M (Nat.le_of_ble_eq_true rfl) ?_
  show kJ E m_M_wayOf (some r) (mk h) 0 0 0 [(0, .ref 786), (1, .int x1), (2, .int x2)] [] (mk h)
  refine kJ_aload_n 1 0 d_M_wayOf_0 rfl rfl rfl rfl ?_
  refine kJ_iload_n 2 1 d_M_wayOf_1 rfl rfl rfl ?_
  refine kJ_iload_n 3 2 d_M_wayOf_2 rfl rfl rfl ?_
  obtain ⟨v1, ev1, hf⟩ := kBi_some hf
  refine kM_callv 6 m_M_isRecused [.int x1, .int x2] [] d_M_wayOf_3 cl_M_91 ⟨w_948, w_74⟩ km_786 ⟨rfl, by decide⟩ ⟨_, _, rfl⟩ rfl rfl (Nat.le_of_ble_eq_true rfl) ⟨Nat.le_of_ble_eq_true rfl, Nat.le_of_ble_eq_true rfl⟩ ⟨rfl, rfl⟩ ⟨Nat.zero_le _, Nat.zero_le _⟩ (j_M_isRecused hro ev1) rfl ?_
  refine kJ_if_eq 9 11 d_M_wayOf_6 rfl rfl (fun hc => ?_) (fun hc => ?_)
  · have hf := kIf_f hf (kB2_0 hc)
    refine kJ_aload_n 12 0 d_M_wayOf_11 rfl rfl rfl rfl ?_
    refine kJ_iload_n 13 2 d_M_wayOf_12 rfl rfl rfl ?_
    refine kJ_iload_n 14 1 d_M_wayOf_13 rfl rfl rfl ?_
    refine kJ_iconst 15 1 d_M_wayOf_14 ki_1 rfl ?_
    obtain ⟨v2, ev2, hf⟩ := kBi_some hf
    refine kM_callv 18 m_M_pair [.int x2, .int x1, .int 1] [] d_M_wayOf_15 cl_M_94 ⟨w_983, w_81⟩ km_786 ⟨rfl, by decide⟩ ⟨_, _, rfl⟩ rfl rfl (Nat.le_of_ble_eq_true rfl) ⟨Nat.le_of_ble_eq_true rfl, Nat.le_of_ble_eq_true rfl⟩ ⟨rfl, rfl⟩ ⟨Nat.zero_le _, Nat.zero_le _⟩ (j_M_pair hro ev2) rfl ?_
    refine kJ_if_lt 21 29 d_M_wayOf_18 rfl rfl (fun hc => ?_) (fun hc => ?_)
    · have hf := kIf_t hf hc
      refine kJ_aload_n 30 0 d_M_wayOf_29 rfl rfl rfl rfl ?_
      refine kJ_iload_n 31 1 d_M_wayOf_30 rfl rfl rfl ?_
      obtain ⟨v3, ev3, hf⟩ := kBi_some hf
      refine kM_callv 34 m_M_isPresent [.int x1] [] d_M_wayOf_31 cl_M_64 ⟨w_909, w_70⟩ km_786 ⟨rfl, by decide⟩ ⟨_, _, rfl⟩ rfl rfl (Nat.le_of_ble_eq_true rfl) ⟨Nat.le_of_ble_eq_true rfl, Nat.le_of_ble_eq_true rfl⟩ ⟨rfl, rfl⟩ ⟨Nat.zero_le _, Nat.zero_le _⟩ (j_M_isPresent hro ev3) rfl ?_
      refine kJ_if_eq 37 39 d_M_wayOf_34 rfl rfl (fun hc => ?_) (fun hc => ?_)
      · have hf := kIf_f hf (kB2_0 hc)
        refine kJ_aload_n 40 0 d_M_wayOf_39 rfl rfl rfl rfl ?_
        refine kM_getR 43 6 793 d_M_wayOf_40 l_M_29 km_786 rfl rfl rfl rfl ?_
        refine kJ_iload_n 44 1 d_M_wayOf_43 rfl rfl rfl ?_
        obtain ⟨hg, hf⟩ := kG_some hf
        refine kM_iald 45 12 d_M_wayOf_44 km_793 rfl hg rfl ?_
        refine kJ_if_ge 48 50 d_M_wayOf_45 rfl rfl (fun hc => ?_) (fun hc => ?_)
        · have hf := kIf_t hf hc
          refine kJ_aload_n 51 0 d_M_wayOf_50 rfl rfl rfl rfl ?_
          refine kJ_iload_n 52 2 d_M_wayOf_51 rfl rfl rfl ?_
          refine kJ_iload_n 53 1 d_M_wayOf_52 rfl rfl rfl ?_
          refine kJ_iconst 54 2 d_M_wayOf_53 ki_2 rfl ?_
          obtain ⟨v4, ev4, hf⟩ := kBi_some hf
          refine kM_callv 57 m_M_pair [.int x2, .int x1, .int 2] [] d_M_wayOf_54 cl_M_94 ⟨w_983, w_81⟩ km_786 ⟨rfl, by decide⟩ ⟨_, _, rfl⟩ rfl rfl (Nat.le_of_ble_eq_true rfl) ⟨Nat.le_of_ble_eq_true rfl, Nat.le_of_ble_eq_true rfl⟩ ⟨rfl, rfl⟩ ⟨Nat.zero_le _, Nat.zero_le _⟩ (j_M_pair hro ev4) rfl ?_
          refine kJ_if_lt 60 68 d_M_wayOf_57 rfl rfl (fun hc => ?_) (fun hc => ?_)
          · have hf := kIf_t hf hc
            refine kJ_aload_n 69 0 d_M_wayOf_68 rfl rfl rfl rfl ?_
            refine kJ_iload_n 70 2 d_M_wayOf_69 rfl rfl rfl ?_
            refine kJ_aload_n 71 0 d_M_wayOf_70 rfl rfl rfl rfl ?_
            refine kM_getR 74 6 793 d_M_wayOf_71 l_M_29 km_786 rfl rfl rfl rfl ?_
            refine kJ_iload_n 75 1 d_M_wayOf_74 rfl rfl rfl ?_
            obtain ⟨hg, hf⟩ := kG_some hf
            refine kM_iald 76 12 d_M_wayOf_75 km_793 rfl hg rfl ?_
            refine kJ_iconst 77 1 d_M_wayOf_76 ki_1 rfl ?_
            obtain ⟨v5, ev5, hf⟩ := kBi_some hf
            refine kM_callv 80 m_M_pair [.int x2, .int (h 793 (kx x1)), .int 1] [] d_M_wayOf_77 cl_M_94 ⟨w_983, w_81⟩ km_786 ⟨rfl, by decide⟩ ⟨_, _, rfl⟩ rfl rfl (Nat.le_of_ble_eq_true rfl) ⟨Nat.le_of_ble_eq_true rfl, Nat.le_of_ble_eq_true rfl⟩ ⟨rfl, rfl⟩ ⟨Nat.zero_le _, Nat.zero_le _⟩ (j_M_pair hro ev5) rfl ?_
            refine kJ_istore_n 81 [(3, .int v5), (0, .ref 786), (1, .int x1), (2, .int x2)] d_M_wayOf_80 rfl (Nat.le_of_ble_eq_true rfl) rfl rfl ?_
            refine kJ_iload_n 82 0 d_M_wayOf_81 rfl rfl rfl ?_
            refine kJ_if_lt 85 89 d_M_wayOf_82 rfl rfl (fun hc => ?_) (fun hc => ?_)
            · have hf := kIf_t hf hc
              refine kJ_iconst 90 3 d_M_wayOf_89 ki_3 rfl ?_
              cases hf
              exact kJ_iret d_M_wayOf_90 rfl rfl (Nat.zero_le _) (Nat.zero_le _)
            · have hf := kIf_f hf hc
              refine kJ_iload_n 86 0 d_M_wayOf_85 rfl rfl rfl ?_
              refine kJ_goto 90 d_M_wayOf_86 rfl ?_
              cases hf
              exact kJ_iret d_M_wayOf_90 rfl rfl (Nat.zero_le _) (Nat.zero_le _)
          · have hf := kIf_f hf hc
            refine kJ_aload_n 61 0 d_M_wayOf_60 rfl rfl rfl rfl ?_
            refine kJ_iload_n 62 2 d_M_wayOf_61 rfl rfl rfl ?_
            refine kJ_iload_n 63 1 d_M_wayOf_62 rfl rfl rfl ?_
            refine kJ_iconst 64 2 d_M_wayOf_63 ki_2 rfl ?_
            obtain ⟨v6, ev6, hf⟩ := kBi_some hf
            refine kM_callv 67 m_M_pair [.int x2, .int x1, .int 2] [] d_M_wayOf_64 cl_M_94 ⟨w_983, w_81⟩ km_786 ⟨rfl, by decide⟩ ⟨_, _, rfl⟩ rfl rfl (Nat.le_of_ble_eq_true rfl) ⟨Nat.le_of_ble_eq_true rfl, Nat.le_of_ble_eq_true rfl⟩ ⟨rfl, rfl⟩ ⟨Nat.zero_le _, Nat.zero_le _⟩ (j_M_pair hro ev6) rfl ?_
            cases hf
            exact kJ_iret d_M_wayOf_67 rfl rfl (Nat.zero_le _) (Nat.zero_le _)
        · have hf := kIf_f hf hc
          refine kJ_iconst 49 4 d_M_wayOf_48 ki_4 rfl ?_
          cases hf
          exact kJ_iret d_M_wayOf_49 rfl rfl (Nat.zero_le _) (Nat.zero_le _)
      · have hf := kIf_t hf (kB2_1 hc)
        refine kJ_iconst 38 3 d_M_wayOf_37 ki_3 rfl ?_
        cases hf
        exact kJ_iret d_M_wayOf_38 rfl rfl (Nat.zero_le _) (Nat.zero_le _)
    · have hf := kIf_f hf hc
      refine kJ_aload_n 22 0 d_M_wayOf_21 rfl rfl rfl rfl ?_
      refine kJ_iload_n 23 2 d_M_wayOf_22 rfl rfl rfl ?_
      refine kJ_iload_n 24 1 d_M_wayOf_23 rfl rfl rfl ?_
      refine kJ_iconst 25 1 d_M_wayOf_24 ki_1 rfl ?_
      obtain ⟨v7, ev7, hf⟩ := kBi_some hf
      refine kM_callv 28 m_M_pair [.int x2, .int x1, .int 1] [] d_M_wayOf_25 cl_M_94 ⟨w_983, w_81⟩ km_786 ⟨rfl, by decide⟩ ⟨_, _, rfl⟩ rfl rfl (Nat.le_of_ble_eq_true rfl) ⟨Nat.le_of_ble_eq_true rfl, Nat.le_of_ble_eq_true rfl⟩ ⟨rfl, rfl⟩ ⟨Nat.zero_le _, Nat.zero_le _⟩ (j_M_pair hro ev7) rfl ?_
      cases hf
      exact kJ_iret d_M_wayOf_28 rfl rfl (Nat.zero_le _) (Nat.zero_le _)
  · have hf := kIf_t hf (kB2_1 hc)
    refine kJ_iconst 10 5 d_M_wayOf_9 ki_5 rfl ?_
    cases hf
    exact kJ_iret d_M_wayOf_10 rfl rfl (Nat.zero_le _) (Nat.zero_le _)
def b_M_count6_28 (x1 : Int32) : Nat → kH → Int32 → Option (kH)
  | 0, _, _ => none
  | n + 1, h, x2 => (fun rec28 => kG 7 760 (if (h 787 (kx 7)) ≤ x2 then (some h) else (kBi (f_M_wayOf h x2 x1) fun v2 => kG v2 6 (kBi (f_M_ofOne h x2 0) fun v3 => kG v2 6 (kLet (hset h 795 (kx v2) ((h 795 (kx v2)) + v3)) fun h4 => rec28 h4 (x2 + 1)))))) (fun h' x2' => b_M_count6_28 x1 n h' x2')
theorem c_M_count6_28 {E : kE} {L : Nat} {xs : Nat → Int32} (hro : kRo E L xs) {x1 : Int32} {h' : kH} : ∀ (n : Nat) (h : kH) (x2 : Int32), b_M_count6_28 x1 n h x2 = some h' → kJ E m_M_count6 none (mk h') 0 0 28 [(0, .ref 786), (1, .int x1), (2, .int x2)] [] (mk h) := by
  intro n
  induction n with
  | zero =>
    intro h x2 hf
    have hf : (none : Option (kH)) = some h' := hf
    cases hf
  | succ n hrec28 =>
    intro h x2 hf
    rw [b_M_count6_28] at hf
    dsimp only at hf
    refine kJ_iload_n 29 2 d_M_count6_28 rfl rfl rfl ?_
    refine kJ_aload_n 30 0 d_M_count6_29 rfl rfl rfl rfl ?_
    refine kM_getR 33 0 787 d_M_count6_30 l_M_7 km_786 rfl rfl rfl rfl ?_
    refine kJ_bipush 35 7 d_M_count6_33 kb_7 rfl ?_
    obtain ⟨hg, hf⟩ := kG_some hf
    refine kM_iald 36 760 d_M_count6_35 km_787 rfl hg rfl ?_
    refine kJ_icmp_ge 39 65 d_M_count6_36 rfl rfl (fun hc => ?_) (fun hc => ?_)
    · have hf := kIf_t hf hc
      cases hf
      exact kJ_ret d_M_count6_65 rfl (Nat.zero_le _) (Nat.zero_le _)
    · have hf := kIf_f hf hc
      refine kJ_aload_n 40 0 d_M_count6_39 rfl rfl rfl rfl ?_
      refine kM_getR 43 8 795 d_M_count6_40 l_M_35 km_786 rfl rfl rfl rfl ?_
      refine kJ_aload_n 44 0 d_M_count6_43 rfl rfl rfl rfl ?_
      refine kJ_iload_n 45 2 d_M_count6_44 rfl rfl rfl ?_
      refine kJ_iload_n 46 1 d_M_count6_45 rfl rfl rfl ?_
      obtain ⟨v2, ev2, hf⟩ := kBi_some hf
      refine kM_callv 49 m_M_wayOf [.int x2, .int x1] [.ref 795] d_M_count6_46 cl_M_108 ⟨w_1007, w_85⟩ km_786 ⟨rfl, by decide⟩ ⟨_, _, rfl⟩ rfl rfl (Nat.le_of_ble_eq_true rfl) ⟨Nat.le_of_ble_eq_true rfl, Nat.le_of_ble_eq_true rfl⟩ ⟨rfl, rfl⟩ ⟨Nat.zero_le _, Nat.zero_le _⟩ (j_M_wayOf hro ev2) rfl ?_
      refine kJ_dup2 50 d_M_count6_49 rfl rfl rfl ?_
      obtain ⟨hg, hf⟩ := kG_some hf
      refine kM_iald 51 6 d_M_count6_50 km_795 rfl hg rfl ?_
      refine kJ_aload_n 52 0 d_M_count6_51 rfl rfl rfl rfl ?_
      refine kJ_iload_n 53 2 d_M_count6_52 rfl rfl rfl ?_
      refine kJ_iconst 54 0 d_M_count6_53 ki_0 rfl ?_
      obtain ⟨v3, ev3, hf⟩ := kBi_some hf
      refine kM_callv 57 m_M_ofOne [.int x2, .int 0] [.int (h 795 (kx v2)), .int v2, .ref 795] d_M_count6_54 cl_M_60 ⟨w_901, w_68⟩ km_786 ⟨rfl, by decide⟩ ⟨_, _, rfl⟩ rfl rfl (Nat.le_of_ble_eq_true rfl) ⟨Nat.le_of_ble_eq_true rfl, Nat.le_of_ble_eq_true rfl⟩ ⟨rfl, rfl⟩ ⟨Nat.zero_le _, Nat.zero_le _⟩ (j_M_ofOne hro ev3) rfl ?_
      refine kJ_iadd 58 d_M_count6_57 rfl ?_
      obtain ⟨hg, hf⟩ := kG_some hf
      refine kM_iast 59 6 d_M_count6_58 km_795 rfl hg rfl ?_
      obtain ⟨h4, eh4, hf⟩ := kLet_e hf
      rw [← eh4]
      refine kJ_iinc 62 2 [(2, .int (x2 + 1)), (0, .ref 786), (1, .int x1)] d_M_count6_59 rfl ki_1 (Nat.le_of_ble_eq_true rfl) rfl rfl ?_
      refine kJ_goto 28 d_M_count6_62 rfl ?_
      refine kJ_sub [1, 2, 0] rfl ?_
      exact hrec28 h4 (x2 + 1) hf
def b_M_count6_7 (x1 : Int32) : Nat → kH → Int32 → Option (kH)
  | 0, _, _ => none
  | n + 1, h, x2 => (fun rec7 => if 6 ≤ x2 then (b_M_count6_28 x1 kFuel h 0) else (kG x2 6 (kLet (hset h 795 (kx x2) 0) fun h5 => rec7 h5 (x2 + 1)))) (fun h' x2' => b_M_count6_7 x1 n h' x2')
theorem c_M_count6_7 {E : kE} {L : Nat} {xs : Nat → Int32} (hro : kRo E L xs) {x1 : Int32} {h' : kH} : ∀ (n : Nat) (h : kH) (x2 : Int32), b_M_count6_7 x1 n h x2 = some h' → kJ E m_M_count6 none (mk h') 0 0 7 [(0, .ref 786), (1, .int x1), (2, .int x2)] [] (mk h) := by
  intro n
  induction n with
  | zero =>
    intro h x2 hf
    have hf : (none : Option (kH)) = some h' := hf
    cases hf
  | succ n hrec7 =>
    intro h x2 hf
    rw [b_M_count6_7] at hf
    dsimp only at hf
    refine kJ_iload_n 8 2 d_M_count6_7 rfl rfl rfl ?_
    refine kJ_bipush 10 6 d_M_count6_8 kb_6 rfl ?_
    refine kJ_icmp_ge 13 26 d_M_count6_10 rfl rfl (fun hc => ?_) (fun hc => ?_)
    · have hf := kIf_t hf hc
      refine kJ_iconst 27 0 d_M_count6_26 ki_0 rfl ?_
      refine kJ_istore_n 28 [(2, .int 0), (0, .ref 786), (1, .int x1)] d_M_count6_27 rfl (Nat.le_of_ble_eq_true rfl) rfl rfl ?_
      refine kJ_sub [1, 2, 0] rfl ?_
      exact c_M_count6_28 hro kFuel h 0 hf
    · have hf := kIf_f hf hc
      refine kJ_aload_n 14 0 d_M_count6_13 rfl rfl rfl rfl ?_
      refine kM_getR 17 8 795 d_M_count6_14 l_M_35 km_786 rfl rfl rfl rfl ?_
      refine kJ_iload_n 18 2 d_M_count6_17 rfl rfl rfl ?_
      refine kJ_iconst 19 0 d_M_count6_18 ki_0 rfl ?_
      obtain ⟨hg, hf⟩ := kG_some hf
      refine kM_iast 20 6 d_M_count6_19 km_795 rfl hg rfl ?_
      obtain ⟨h5, eh5, hf⟩ := kLet_e hf
      rw [← eh5]
      refine kJ_iinc 23 2 [(2, .int (x2 + 1)), (0, .ref 786), (1, .int x1)] d_M_count6_20 rfl ki_1 (Nat.le_of_ble_eq_true rfl) rfl rfl ?_
      refine kJ_goto 7 d_M_count6_23 rfl ?_
      refine kJ_sub [1, 2, 0] rfl ?_
      exact hrec7 h5 (x2 + 1) hf
def f_M_count6 (h : kH) (x1 : Int32) : Option (kH) := kBi (f_M_layVoices h x1) fun h1 => b_M_count6_7 x1 kFuel h1 0
theorem j_M_count6 {E : kE} {L : Nat} {xs : Nat → Int32} (hro : kRo E L xs) {h : kH} {x1 : Int32} {h' : kH} (hf : f_M_count6 h x1 = some h') : JM E m_M_count6 [.ref 786, .int x1] (mk h) none (mk h') := by
  unfold f_M_count6 at hf
  refine JM.of pn_M (Nat.le_of_ble_eq_true rfl) ?_
  show kJ E m_M_count6 none (mk h') 0 0 0 [(0, .ref 786), (1, .int x1)] [] (mk h)
  refine kJ_aload_n 1 0 d_M_count6_0 rfl rfl rfl rfl ?_
  refine kJ_iload_n 2 1 d_M_count6_1 rfl rfl rfl ?_
  obtain ⟨h1, eh1, hf⟩ := kBi_some hf
  refine kM_callv 5 m_M_layVoices [.int x1] [] d_M_count6_2 cl_M_104 ⟨w_971, w_78⟩ km_786 ⟨rfl, by decide⟩ ⟨_, _, rfl⟩ rfl rfl (Nat.le_of_ble_eq_true rfl) ⟨Nat.le_of_ble_eq_true rfl, Nat.le_of_ble_eq_true rfl⟩ ⟨rfl, rfl⟩ ⟨Nat.zero_le _, Nat.zero_le _⟩ (j_M_layVoices hro eh1) rfl ?_
  refine kJ_iconst 6 0 d_M_count6_5 ki_0 rfl ?_
  refine kJ_istore_n 7 [(2, .int 0), (0, .ref 786), (1, .int x1)] d_M_count6_6 rfl (Nat.le_of_ble_eq_true rfl) rfl rfl ?_
  refine kJ_sub [1, 2, 0] rfl ?_
  exact c_M_count6_7 hro kFuel h1 0 hf
def f_M_outcome (h : kH) (x1 : Int32) : Option (Int32 × kH) := kBi (f_M_count6 h x1) fun h1 => kG 1 6 (kG 2 6 (kG (100 + (12 * x1)) 760 (kLet (h1 787 (kx (100 + (12 * x1)))) fun v2 => (if v2 = 0 then (if (h1 795 (kx 1)) ≤ (h1 795 (kx 2)) then (if (h1 795 (kx 1)) = (h1 795 (kx 2)) then (kG 5 760 (if (h1 787 (kx 5)) = 1 then (some (2, h1)) else (some (4, h1)))) else (some (4, h1))) else (some (3, h1))) else (if v2 = 1 then (if (h1 795 (kx 1)) ≤ 0 then (some (4, h1)) else (if (3 * (h1 795 (kx 1))) < (2 * ((h1 795 (kx 1)) + (h1 795 (kx 2)))) then (some (4, h1)) else (some (3, h1)))) else (if (h1 795 (kx 1)) ≤ 0 then (some (4, h1)) else (kG 0 6 (if (h1 795 (kx 0)) = 0 then (if (h1 795 (kx 2)) = 0 then (some (3, h1)) else (some (4, h1))) else (some (4, h1))))))))))
theorem j_M_outcome {E : kE} {L : Nat} {xs : Nat → Int32} (hro : kRo E L xs) {h : kH} {x1 : Int32} {r : Int32} {h' : kH} (hf : f_M_outcome h x1 = some (r, h')) : JM E m_M_outcome [.ref 786, .int x1] (mk h) (some r) (mk h') := by
  unfold f_M_outcome at hf
  refine JM.of pn_M (Nat.le_of_ble_eq_true rfl) ?_
  show kJ E m_M_outcome (some r) (mk h') 0 0 0 [(0, .ref 786), (1, .int x1)] [] (mk h)
  refine kJ_aload_n 1 0 d_M_outcome_0 rfl rfl rfl rfl ?_
  refine kJ_iload_n 2 1 d_M_outcome_1 rfl rfl rfl ?_
  obtain ⟨h1, eh1, hf⟩ := kBi_some hf
  refine kM_callv 5 m_M_count6 [.int x1] [] d_M_outcome_2 cl_M_117 ⟨w_1003, w_84⟩ km_786 ⟨rfl, by decide⟩ ⟨_, _, rfl⟩ rfl rfl (Nat.le_of_ble_eq_true rfl) ⟨Nat.le_of_ble_eq_true rfl, Nat.le_of_ble_eq_true rfl⟩ ⟨rfl, rfl⟩ ⟨Nat.zero_le _, Nat.zero_le _⟩ (j_M_count6 hro eh1) rfl ?_
  refine kJ_aload_n 6 0 d_M_outcome_5 rfl rfl rfl rfl ?_
  refine kM_getR 9 8 795 d_M_outcome_6 l_M_35 km_786 rfl rfl rfl rfl ?_
  refine kJ_iconst 10 1 d_M_outcome_9 ki_1 rfl ?_
  obtain ⟨hg, hf⟩ := kG_some hf
  refine kM_iald 11 6 d_M_outcome_10 km_795 rfl hg rfl ?_
  refine kJ_istore_n 12 [(2, .int (h1 795 (kx 1))), (0, .ref 786), (1, .int x1)] d_M_outcome_11 rfl (Nat.le_of_ble_eq_true rfl) rfl rfl ?_
  refine kJ_aload_n 13 1 d_M_outcome_12 rfl rfl rfl rfl ?_
  refine kM_getR 16 8 795 d_M_outcome_13 l_M_35 km_786 rfl rfl rfl rfl ?_
  refine kJ_iconst 17 2 d_M_outcome_16 ki_2 rfl ?_
  obtain ⟨hg, hf⟩ := kG_some hf
  refine kM_iald 18 6 d_M_outcome_17 km_795 rfl hg rfl ?_
  refine kJ_istore_n 19 [(3, .int (h1 795 (kx 2))), (2, .int (h1 795 (kx 1))), (0, .ref 786), (1, .int x1)] d_M_outcome_18 rfl (Nat.le_of_ble_eq_true rfl) rfl rfl ?_
  refine kJ_aload_n 20 2 d_M_outcome_19 rfl rfl rfl rfl ?_
  refine kM_getR 23 0 787 d_M_outcome_20 l_M_7 km_786 rfl rfl rfl rfl ?_
  refine kJ_bipush 25 100 d_M_outcome_23 kb_100 rfl ?_
  refine kJ_bipush 27 12 d_M_outcome_25 kb_12 rfl ?_
  refine kJ_iload_n 28 3 d_M_outcome_27 rfl rfl rfl ?_
  refine kJ_imul 29 d_M_outcome_28 rfl ?_
  refine kJ_iadd 30 d_M_outcome_29 rfl ?_
  obtain ⟨hg, hf⟩ := kG_some hf
  refine kM_iald 31 760 d_M_outcome_30 km_787 rfl hg rfl ?_
  obtain ⟨v2, ev2, hf⟩ := kLet_e hf
  rw [← ev2]
  by_cases c0 : v2 = 0
  · have hf := kIf_t hf c0
    refine kJ_lookup 56 d_M_outcome_31 (by decide) (by rw [c0]; try rfl) rfl ?_
    refine kJ_iload_n 57 1 d_M_outcome_56 rfl rfl rfl ?_
    refine kJ_iload_n 58 0 d_M_outcome_57 rfl rfl rfl ?_
    refine kJ_icmp_le 61 65 d_M_outcome_58 rfl rfl (fun hc => ?_) (fun hc => ?_)
    · have hf := kIf_t hf hc
      refine kJ_iload_n 66 1 d_M_outcome_65 rfl rfl rfl ?_
      refine kJ_iload_n 67 0 d_M_outcome_66 rfl rfl rfl ?_
      refine kJ_icmp_ne 70 84 d_M_outcome_67 rfl rfl (fun hc => ?_) (fun hc => ?_)
      · have hf := kIf_f hf hc
        refine kJ_iconst 85 4 d_M_outcome_84 ki_4 rfl ?_
        cases hf
        exact kJ_iret d_M_outcome_85 rfl rfl (Nat.zero_le _) (Nat.zero_le _)
      · have hf := kIf_t hf hc
        refine kJ_aload_n 71 2 d_M_outcome_70 rfl rfl rfl rfl ?_
        refine kM_getR 74 0 787 d_M_outcome_71 l_M_7 km_786 rfl rfl rfl rfl ?_
        refine kJ_iconst 75 5 d_M_outcome_74 ki_5 rfl ?_
        obtain ⟨hg, hf⟩ := kG_some hf
        refine kM_iald 76 760 d_M_outcome_75 km_787 rfl hg rfl ?_
        refine kJ_iconst 77 1 d_M_outcome_76 ki_1 rfl ?_
        refine kJ_icmp_ne 80 84 d_M_outcome_77 rfl rfl (fun hc => ?_) (fun hc => ?_)
        · have hf := kIf_f hf hc
          refine kJ_iconst 85 4 d_M_outcome_84 ki_4 rfl ?_
          cases hf
          exact kJ_iret d_M_outcome_85 rfl rfl (Nat.zero_le _) (Nat.zero_le _)
        · have hf := kIf_t hf hc
          refine kJ_iconst 81 2 d_M_outcome_80 ki_2 rfl ?_
          refine kJ_goto 85 d_M_outcome_81 rfl ?_
          cases hf
          exact kJ_iret d_M_outcome_85 rfl rfl (Nat.zero_le _) (Nat.zero_le _)
    · have hf := kIf_f hf hc
      refine kJ_iconst 62 3 d_M_outcome_61 ki_3 rfl ?_
      refine kJ_goto 85 d_M_outcome_62 rfl ?_
      cases hf
      exact kJ_iret d_M_outcome_85 rfl rfl (Nat.zero_le _) (Nat.zero_le _)
  · have hf := kIf_f hf c0
    by_cases c1 : v2 = 1
    · have hf := kIf_t hf c1
      refine kJ_lookup 86 d_M_outcome_31 (by decide) (by rw [c1]; try rfl) rfl ?_
      refine kJ_iload_n 87 1 d_M_outcome_86 rfl rfl rfl ?_
      refine kJ_if_le 90 105 d_M_outcome_87 rfl rfl (fun hc => ?_) (fun hc => ?_)
      · have hf := kIf_t hf hc
        refine kJ_iconst 106 4 d_M_outcome_105 ki_4 rfl ?_
        cases hf
        exact kJ_iret d_M_outcome_106 rfl rfl (Nat.zero_le _) (Nat.zero_le _)
      · have hf := kIf_f hf hc
        refine kJ_iconst 91 3 d_M_outcome_90 ki_3 rfl ?_
        refine kJ_iload_n 92 1 d_M_outcome_91 rfl rfl rfl ?_
        refine kJ_imul 93 d_M_outcome_92 rfl ?_
        refine kJ_iconst 94 2 d_M_outcome_93 ki_2 rfl ?_
        refine kJ_iload_n 95 1 d_M_outcome_94 rfl rfl rfl ?_
        refine kJ_iload_n 96 0 d_M_outcome_95 rfl rfl rfl ?_
        refine kJ_iadd 97 d_M_outcome_96 rfl ?_
        refine kJ_imul 98 d_M_outcome_97 rfl ?_
        refine kJ_icmp_lt 101 105 d_M_outcome_98 rfl rfl (fun hc => ?_) (fun hc => ?_)
        · have hf := kIf_t hf hc
          refine kJ_iconst 106 4 d_M_outcome_105 ki_4 rfl ?_
          cases hf
          exact kJ_iret d_M_outcome_106 rfl rfl (Nat.zero_le _) (Nat.zero_le _)
        · have hf := kIf_f hf hc
          refine kJ_iconst 102 3 d_M_outcome_101 ki_3 rfl ?_
          refine kJ_goto 106 d_M_outcome_102 rfl ?_
          cases hf
          exact kJ_iret d_M_outcome_106 rfl rfl (Nat.zero_le _) (Nat.zero_le _)
    · have hf := kIf_f hf c1
      refine kJ_lookup 107 d_M_outcome_31 (by decide) ((lv_osw c0 rfl).trans ((lv_osw c1 rfl).trans rfl)) rfl ?_
      refine kJ_iload_n 108 1 d_M_outcome_107 rfl rfl rfl ?_
      refine kJ_if_le 111 128 d_M_outcome_108 rfl rfl (fun hc => ?_) (fun hc => ?_)
      · have hf := kIf_t hf hc
        refine kJ_iconst 129 4 d_M_outcome_128 ki_4 rfl ?_
        cases hf
        exact kJ_iret d_M_outcome_129 rfl rfl (Nat.zero_le _) (Nat.zero_le _)
      · have hf := kIf_f hf hc
        refine kJ_aload_n 112 2 d_M_outcome_111 rfl rfl rfl rfl ?_
        refine kM_getR 115 8 795 d_M_outcome_112 l_M_35 km_786 rfl rfl rfl rfl ?_
        refine kJ_iconst 116 0 d_M_outcome_115 ki_0 rfl ?_
        obtain ⟨hg, hf⟩ := kG_some hf
        refine kM_iald 117 6 d_M_outcome_116 km_795 rfl hg rfl ?_
        refine kJ_if_ne 120 128 d_M_outcome_117 rfl rfl (fun hc => ?_) (fun hc => ?_)
        · have hf := kIf_f hf hc
          refine kJ_iconst 129 4 d_M_outcome_128 ki_4 rfl ?_
          cases hf
          exact kJ_iret d_M_outcome_129 rfl rfl (Nat.zero_le _) (Nat.zero_le _)
        · have hf := kIf_t hf hc
          refine kJ_iload_n 121 0 d_M_outcome_120 rfl rfl rfl ?_
          refine kJ_if_ne 124 128 d_M_outcome_121 rfl rfl (fun hc => ?_) (fun hc => ?_)
          · have hf := kIf_f hf hc
            refine kJ_iconst 129 4 d_M_outcome_128 ki_4 rfl ?_
            cases hf
            exact kJ_iret d_M_outcome_129 rfl rfl (Nat.zero_le _) (Nat.zero_le _)
          · have hf := kIf_t hf hc
            refine kJ_iconst 125 3 d_M_outcome_124 ki_3 rfl ?_
            refine kJ_goto 129 d_M_outcome_125 rfl ?_
            cases hf
            exact kJ_iret d_M_outcome_129 rfl rfl (Nat.zero_le _) (Nat.zero_le _)
def b_M_close_107 (x2 : Int32) : Nat → kH → Int32 → Option (Int32 × kH)
  | 0, _, _ => none
  | n + 1, h, x3 => (fun rec107 => if 6 ≤ x3 then (kG (x2 + 2) 760 (some ((h 787 (kx (x2 + 2))), h))) else (kG x3 6 (kG ((x2 + 3) + x3) 760 (kLet (hset h 787 (kx ((x2 + 3) + x3)) (h 795 (kx x3))) fun h8 => rec107 h8 (x3 + 1))))) (fun h' x3' => b_M_close_107 x2 n h' x3')
theorem c_M_close_107 {E : kE} {L : Nat} {xs : Nat → Int32} (hro : kRo E L xs) {x2 : Int32} {r : Int32} {h' : kH} : ∀ (n : Nat) (h : kH) (x3 : Int32), b_M_close_107 x2 n h x3 = some (r, h') → kJ E m_M_close (some r) (mk h') 0 0 107 [(0, .ref 786), (2, .int x2), (3, .int x3)] [] (mk h) := by
  intro n
  induction n with
  | zero =>
    intro h x3 hf
    have hf : (none : Option (Int32 × kH)) = some (r, h') := hf
    cases hf
  | succ n hrec107 =>
    intro h x3 hf
    rw [b_M_close_107] at hf
    dsimp only at hf
    refine kJ_iload_n 108 2 d_M_close_107 rfl rfl rfl ?_
    refine kJ_bipush 110 6 d_M_close_108 kb_6 rfl ?_
    refine kJ_icmp_ge 113 135 d_M_close_110 rfl rfl (fun hc => ?_) (fun hc => ?_)
    · have hf := kIf_t hf hc
      refine kJ_aload_n 136 0 d_M_close_135 rfl rfl rfl rfl ?_
      refine kM_getR 139 0 787 d_M_close_136 l_M_7 km_786 rfl rfl rfl rfl ?_
      refine kJ_iload_n 140 1 d_M_close_139 rfl rfl rfl ?_
      refine kJ_iconst 141 2 d_M_close_140 ki_2 rfl ?_
      refine kJ_iadd 142 d_M_close_141 rfl ?_
      obtain ⟨hg, hf⟩ := kG_some hf
      refine kM_iald 143 760 d_M_close_142 km_787 rfl hg rfl ?_
      cases hf
      exact kJ_iret d_M_close_143 rfl rfl (Nat.zero_le _) (Nat.zero_le _)
    · have hf := kIf_f hf hc
      refine kJ_aload_n 114 0 d_M_close_113 rfl rfl rfl rfl ?_
      refine kM_getR 117 0 787 d_M_close_114 l_M_7 km_786 rfl rfl rfl rfl ?_
      refine kJ_iload_n 118 1 d_M_close_117 rfl rfl rfl ?_
      refine kJ_iconst 119 3 d_M_close_118 ki_3 rfl ?_
      refine kJ_iadd 120 d_M_close_119 rfl ?_
      refine kJ_iload_n 121 2 d_M_close_120 rfl rfl rfl ?_
      refine kJ_iadd 122 d_M_close_121 rfl ?_
      refine kJ_aload_n 123 0 d_M_close_122 rfl rfl rfl rfl ?_
      refine kM_getR 126 8 795 d_M_close_123 l_M_35 km_786 rfl rfl rfl rfl ?_
      refine kJ_iload_n 127 2 d_M_close_126 rfl rfl rfl ?_
      obtain ⟨hg, hf⟩ := kG_some hf
      refine kM_iald 128 6 d_M_close_127 km_795 rfl hg rfl ?_
      obtain ⟨hg, hf⟩ := kG_some hf
      refine kM_iast 129 760 d_M_close_128 km_787 rfl hg rfl ?_
      obtain ⟨h8, eh8, hf⟩ := kLet_e hf
      rw [← eh8]
      refine kJ_iinc 132 2 [(3, .int (x3 + 1)), (0, .ref 786), (2, .int x2)] d_M_close_129 rfl ki_1 (Nat.le_of_ble_eq_true rfl) rfl rfl ?_
      refine kJ_goto 107 d_M_close_132 rfl ?_
      refine kJ_sub [1, 2, 0] rfl ?_
      exact hrec107 h8 (x3 + 1) hf
def b_M_close_57 (x1 : Int32) : Nat → kH → Int32 → Option (Int32 × kH)
  | 0, _, _ => none
  | n + 1, h, x3 => (fun rec57 => if 12 ≤ x3 then (some (0, h)) else (kG ((250 + (3 * ((12 * x1) + x3))) + 1) 760 (kLet (hset h 787 (kx ((250 + (3 * ((12 * x1) + x3))) + 1)) (-6)) fun h11 => rec57 h11 (x3 + 1)))) (fun h' x3' => b_M_close_57 x1 n h' x3')
theorem c_M_close_57 {E : kE} {L : Nat} {xs : Nat → Int32} (hro : kRo E L xs) {x1 : Int32} {r : Int32} {h' : kH} : ∀ (n : Nat) (h : kH) (x3 : Int32), b_M_close_57 x1 n h x3 = some (r, h') → kJ E m_M_close (some r) (mk h') 0 0 57 [(0, .ref 786), (1, .int x1), (3, .int x3)] [] (mk h) := by
  intro n
  induction n with
  | zero =>
    intro h x3 hf
    have hf : (none : Option (Int32 × kH)) = some (r, h') := hf
    cases hf
  | succ n hrec57 =>
    intro h x3 hf
    rw [b_M_close_57] at hf
    dsimp only at hf
    refine kJ_iload_n 58 2 d_M_close_57 rfl rfl rfl ?_
    refine kJ_bipush 60 12 d_M_close_58 kb_12 rfl ?_
    refine kJ_icmp_ge 63 90 d_M_close_60 rfl rfl (fun hc => ?_) (fun hc => ?_)
    · have hf := kIf_t hf hc
      refine kJ_iconst 91 0 d_M_close_90 ki_0 rfl ?_
      cases hf
      exact kJ_iret d_M_close_91 rfl rfl (Nat.zero_le _) (Nat.zero_le _)
    · have hf := kIf_f hf hc
      refine kJ_aload_n 64 0 d_M_close_63 rfl rfl rfl rfl ?_
      refine kM_getR 67 0 787 d_M_close_64 l_M_7 km_786 rfl rfl rfl rfl ?_
      refine kJ_sipush 70 250 d_M_close_67 ks_250 rfl ?_
      refine kJ_iconst 71 3 d_M_close_70 ki_3 rfl ?_
      refine kJ_bipush 73 12 d_M_close_71 kb_12 rfl ?_
      refine kJ_iload_n 74 1 d_M_close_73 rfl rfl rfl ?_
      refine kJ_imul 75 d_M_close_74 rfl ?_
      refine kJ_iload_n 76 2 d_M_close_75 rfl rfl rfl ?_
      refine kJ_iadd 77 d_M_close_76 rfl ?_
      refine kJ_imul 78 d_M_close_77 rfl ?_
      refine kJ_iadd 79 d_M_close_78 rfl ?_
      refine kJ_iconst 80 1 d_M_close_79 ki_1 rfl ?_
      refine kJ_iadd 81 d_M_close_80 rfl ?_
      refine kJ_bipush 83 (-6) d_M_close_81 kb_m6 rfl ?_
      obtain ⟨hg, hf⟩ := kG_some hf
      refine kM_iast 84 760 d_M_close_83 km_787 rfl hg rfl ?_
      obtain ⟨h11, eh11, hf⟩ := kLet_e hf
      rw [← eh11]
      refine kJ_iinc 87 2 [(3, .int (x3 + 1)), (0, .ref 786), (1, .int x1)] d_M_close_84 rfl ki_1 (Nat.le_of_ble_eq_true rfl) rfl rfl ?_
      refine kJ_goto 57 d_M_close_87 rfl ?_
      refine kJ_sub [1, 2, 0] rfl ?_
      exact hrec57 h11 (x3 + 1) hf
def f_M_close (h : kH) : Option (Int32 × kH) := kBi (f_M_itemIn h 1) fun v1 => if 0 ≤ v1 then (kBi (f_M_record h) fun h2 => kBd (f_M_isQuorum h2 v1) fun v4 h3 => if v4 = true then (kBd (f_M_outcome h3 v1) fun v6 h5 => kG ((100 + (12 * v1)) + 2) 760 (kLet (hset h5 787 (kx ((100 + (12 * v1)) + 2)) v6) fun h7 => b_M_close_107 (100 + (12 * v1)) kFuel h7 0)) else (kG ((100 + (12 * v1)) + 2) 760 (kLet (hset h3 787 (kx ((100 + (12 * v1)) + 2)) 0) fun h9 => kG ((100 + (12 * v1)) + 10) 760 (kG ((100 + (12 * v1)) + 10) 760 (kLet (hset h9 787 (kx ((100 + (12 * v1)) + 10)) ((h9 787 (kx ((100 + (12 * v1)) + 10))) + 1)) fun h10 => b_M_close_57 v1 kFuel h10 0))))) else (some ((-5), h))
theorem j_M_close {E : kE} {L : Nat} {xs : Nat → Int32} (hro : kRo E L xs) {h : kH} {r : Int32} {h' : kH} (hf : f_M_close h = some (r, h')) : JM E m_M_close [.ref 786] (mk h) (some r) (mk h') := by
  unfold f_M_close at hf
  refine JM.of pn_M (Nat.le_of_ble_eq_true rfl) ?_
  show kJ E m_M_close (some r) (mk h') 0 0 0 [(0, .ref 786)] [] (mk h)
  refine kJ_aload_n 1 0 d_M_close_0 rfl rfl rfl rfl ?_
  refine kJ_iconst 2 1 d_M_close_1 ki_1 rfl ?_
  obtain ⟨v1, ev1, hf⟩ := kBi_some hf
  refine kM_callv 5 m_M_itemIn [.int 1] [] d_M_close_2 cl_M_120 ⟨w_959, w_75⟩ km_786 ⟨rfl, by decide⟩ ⟨_, _, rfl⟩ rfl rfl (Nat.le_of_ble_eq_true rfl) ⟨Nat.le_of_ble_eq_true rfl, Nat.le_of_ble_eq_true rfl⟩ ⟨rfl, rfl⟩ ⟨Nat.zero_le _, Nat.zero_le _⟩ (j_M_itemIn hro ev1) rfl ?_
  refine kJ_istore_n 6 [(1, .int v1), (0, .ref 786)] d_M_close_5 rfl (Nat.le_of_ble_eq_true rfl) rfl rfl ?_
  refine kJ_iload_n 7 0 d_M_close_6 rfl rfl rfl ?_
  refine kJ_if_ge 10 13 d_M_close_7 rfl rfl (fun hc => ?_) (fun hc => ?_)
  · have hf := kIf_t hf hc
    refine kJ_aload_n 14 1 d_M_close_13 rfl rfl rfl rfl ?_
    obtain ⟨h2, eh2, hf⟩ := kBi_some hf
    refine kM_callv 17 m_M_record [] [] d_M_close_14 cl_M_53 ⟨w_873, w_65⟩ km_786 ⟨rfl, by decide⟩ ⟨_, _, rfl⟩ rfl rfl (Nat.le_of_ble_eq_true rfl) ⟨Nat.le_of_ble_eq_true rfl, Nat.le_of_ble_eq_true rfl⟩ ⟨rfl, rfl⟩ ⟨Nat.zero_le _, Nat.zero_le _⟩ (j_M_record hro eh2) rfl ?_
    refine kJ_bipush 19 100 d_M_close_17 kb_100 rfl ?_
    refine kJ_bipush 21 12 d_M_close_19 kb_12 rfl ?_
    refine kJ_iload_n 22 0 d_M_close_21 rfl rfl rfl ?_
    refine kJ_imul 23 d_M_close_22 rfl ?_
    refine kJ_iadd 24 d_M_close_23 rfl ?_
    refine kJ_istore_n 25 [(2, .int (100 + (12 * v1))), (1, .int v1), (0, .ref 786)] d_M_close_24 rfl (Nat.le_of_ble_eq_true rfl) rfl rfl ?_
    refine kJ_aload_n 26 2 d_M_close_25 rfl rfl rfl rfl ?_
    refine kJ_iload_n 27 1 d_M_close_26 rfl rfl rfl ?_
    obtain ⟨v4, h3, ev4, hf⟩ := kBd_some hf
    refine kM_callv 30 m_M_isQuorum [.int v1] [] d_M_close_27 cl_M_123 ⟨w_963, w_76⟩ km_786 ⟨rfl, by decide⟩ ⟨_, _, rfl⟩ rfl rfl (Nat.le_of_ble_eq_true rfl) ⟨Nat.le_of_ble_eq_true rfl, Nat.le_of_ble_eq_true rfl⟩ ⟨rfl, rfl⟩ ⟨Nat.zero_le _, Nat.zero_le _⟩ (j_M_isQuorum hro ev4) rfl ?_
    refine kJ_if_ne 33 92 d_M_close_30 rfl rfl (fun hc => ?_) (fun hc => ?_)
    · have hf := kIf_t hf (kB2_1 hc)
      refine kJ_aload_n 93 2 d_M_close_92 rfl rfl rfl rfl ?_
      refine kM_getR 96 0 787 d_M_close_93 l_M_7 km_786 rfl rfl rfl rfl ?_
      refine kJ_iload_n 97 0 d_M_close_96 rfl rfl rfl ?_
      refine kJ_iconst 98 2 d_M_close_97 ki_2 rfl ?_
      refine kJ_iadd 99 d_M_close_98 rfl ?_
      refine kJ_aload_n 100 2 d_M_close_99 rfl rfl rfl rfl ?_
      refine kJ_iload_n 101 1 d_M_close_100 rfl rfl rfl ?_
      obtain ⟨v6, h5, ev6, hf⟩ := kBd_some hf
      refine kM_callv 104 m_M_outcome [.int v1] [.int ((100 + (12 * v1)) + 2), .ref 787] d_M_close_101 cl_M_126 ⟨w_999, w_83⟩ km_786 ⟨rfl, by decide⟩ ⟨_, _, rfl⟩ rfl rfl (Nat.le_of_ble_eq_true rfl) ⟨Nat.le_of_ble_eq_true rfl, Nat.le_of_ble_eq_true rfl⟩ ⟨rfl, rfl⟩ ⟨Nat.zero_le _, Nat.zero_le _⟩ (j_M_outcome hro ev6) rfl ?_
      obtain ⟨hg, hf⟩ := kG_some hf
      refine kM_iast 105 760 d_M_close_104 km_787 rfl hg rfl ?_
      obtain ⟨h7, eh7, hf⟩ := kLet_e hf
      rw [← eh7]
      refine kJ_iconst 106 0 d_M_close_105 ki_0 rfl ?_
      refine kJ_istore_n 107 [(3, .int 0), (2, .int (100 + (12 * v1))), (1, .int v1), (0, .ref 786)] d_M_close_106 rfl (Nat.le_of_ble_eq_true rfl) rfl rfl ?_
      refine kJ_sub [3, 1, 0] rfl ?_
      exact c_M_close_107 hro kFuel h7 0 hf
    · have hf := kIf_f hf (kB2_0 hc)
      refine kJ_aload_n 34 2 d_M_close_33 rfl rfl rfl rfl ?_
      refine kM_getR 37 0 787 d_M_close_34 l_M_7 km_786 rfl rfl rfl rfl ?_
      refine kJ_iload_n 38 0 d_M_close_37 rfl rfl rfl ?_
      refine kJ_iconst 39 2 d_M_close_38 ki_2 rfl ?_
      refine kJ_iadd 40 d_M_close_39 rfl ?_
      refine kJ_iconst 41 0 d_M_close_40 ki_0 rfl ?_
      obtain ⟨hg, hf⟩ := kG_some hf
      refine kM_iast 42 760 d_M_close_41 km_787 rfl hg rfl ?_
      obtain ⟨h9, eh9, hf⟩ := kLet_e hf
      rw [← eh9]
      refine kJ_aload_n 43 2 d_M_close_42 rfl rfl rfl rfl ?_
      refine kM_getR 46 0 787 d_M_close_43 l_M_7 km_786 rfl rfl rfl rfl ?_
      refine kJ_iload_n 47 0 d_M_close_46 rfl rfl rfl ?_
      refine kJ_bipush 49 10 d_M_close_47 kb_10 rfl ?_
      refine kJ_iadd 50 d_M_close_49 rfl ?_
      refine kJ_dup2 51 d_M_close_50 rfl rfl rfl ?_
      obtain ⟨hg, hf⟩ := kG_some hf
      refine kM_iald 52 760 d_M_close_51 km_787 rfl hg rfl ?_
      refine kJ_iconst 53 1 d_M_close_52 ki_1 rfl ?_
      refine kJ_iadd 54 d_M_close_53 rfl ?_
      obtain ⟨hg, hf⟩ := kG_some hf
      refine kM_iast 55 760 d_M_close_54 km_787 rfl hg rfl ?_
      obtain ⟨h10, eh10, hf⟩ := kLet_e hf
      rw [← eh10]
      refine kJ_iconst 56 0 d_M_close_55 ki_0 rfl ?_
      refine kJ_istore_n 57 [(3, .int 0), (2, .int (100 + (12 * v1))), (1, .int v1), (0, .ref 786)] d_M_close_56 rfl (Nat.le_of_ble_eq_true rfl) rfl rfl ?_
      refine kJ_sub [3, 2, 0] rfl ?_
      exact c_M_close_57 hro kFuel h10 0 hf
  · have hf := kIf_f hf hc
    refine kJ_bipush 12 (-5) d_M_close_10 kb_m5 rfl ?_
    cases hf
    exact kJ_iret d_M_close_12 rfl rfl (Nat.zero_le _) (Nat.zero_le _)
def b_M_chairNow_45 (h : kH) : Nat → Int32 → Int32 → Option Int32
  | 0, _, _ => none
  | n + 1, x1, x2 => (fun rec45 => if x2 < 0 then (some x1) else (kBi (f_M_isPresent h x2) fun v1 => if v1 = true then (rec45 x2 (x2 + (-1))) else (rec45 x1 (x2 + (-1))))) (fun x1' x2' => b_M_chairNow_45 h n x1' x2')
theorem c_M_chairNow_45 {E : kE} {L : Nat} {xs : Nat → Int32} (hro : kRo E L xs) {h : kH} {r : Int32} : ∀ (n : Nat) (x1 : Int32) (x2 : Int32), b_M_chairNow_45 h n x1 x2 = some r → kJ E m_M_chairNow (some r) (mk h) 0 0 45 [(0, .ref 786), (1, .int x1), (2, .int x2)] [] (mk h) := by
  intro n
  induction n with
  | zero =>
    intro x1 x2 hf
    have hf : (none : Option Int32) = some r := hf
    cases hf
  | succ n hrec45 =>
    intro x1 x2 hf
    rw [b_M_chairNow_45] at hf
    dsimp only at hf
    refine kJ_iload_n 46 2 d_M_chairNow_45 rfl rfl rfl ?_
    refine kJ_if_lt 49 69 d_M_chairNow_46 rfl rfl (fun hc => ?_) (fun hc => ?_)
    · have hf := kIf_t hf hc
      refine kJ_iload_n 70 1 d_M_chairNow_69 rfl rfl rfl ?_
      cases hf
      exact kJ_iret d_M_chairNow_70 rfl rfl (Nat.zero_le _) (Nat.zero_le _)
    · have hf := kIf_f hf hc
      refine kJ_aload_n 50 0 d_M_chairNow_49 rfl rfl rfl rfl ?_
      refine kJ_iload_n 51 2 d_M_chairNow_50 rfl rfl rfl ?_
      obtain ⟨v1, ev1, hf⟩ := kBi_some hf
      refine kM_callv 54 m_M_isPresent [.int x2] [] d_M_chairNow_51 cl_M_64 ⟨w_909, w_70⟩ km_786 ⟨rfl, by decide⟩ ⟨_, _, rfl⟩ rfl rfl (Nat.le_of_ble_eq_true rfl) ⟨Nat.le_of_ble_eq_true rfl, Nat.le_of_ble_eq_true rfl⟩ ⟨rfl, rfl⟩ ⟨Nat.zero_le _, Nat.zero_le _⟩ (j_M_isPresent hro ev1) rfl ?_
      refine kJ_if_eq 57 61 d_M_chairNow_54 rfl rfl (fun hc => ?_) (fun hc => ?_)
      · have hf := kIf_f hf (kB2_0 hc)
        refine kJ_iload_n 62 1 d_M_chairNow_61 rfl rfl rfl ?_
        refine kJ_istore_n 63 [(1, .int x1), (0, .ref 786), (2, .int x2)] d_M_chairNow_62 rfl (Nat.le_of_ble_eq_true rfl) rfl rfl ?_
        refine kJ_iinc 66 2 [(2, .int (x2 + (-1))), (1, .int x1), (0, .ref 786)] d_M_chairNow_63 rfl ki_m1 (Nat.le_of_ble_eq_true rfl) rfl rfl ?_
        refine kJ_goto 45 d_M_chairNow_66 rfl ?_
        refine kJ_sub [2, 1, 0] rfl ?_
        exact hrec45 x1 (x2 + (-1)) hf
      · have hf := kIf_t hf (kB2_1 hc)
        refine kJ_iload_n 58 2 d_M_chairNow_57 rfl rfl rfl ?_
        refine kJ_goto 62 d_M_chairNow_58 rfl ?_
        refine kJ_istore_n 63 [(1, .int x2), (0, .ref 786), (2, .int x2)] d_M_chairNow_62 rfl (Nat.le_of_ble_eq_true rfl) rfl rfl ?_
        refine kJ_iinc 66 2 [(2, .int (x2 + (-1))), (1, .int x2), (0, .ref 786)] d_M_chairNow_63 rfl ki_m1 (Nat.le_of_ble_eq_true rfl) rfl rfl ?_
        refine kJ_goto 45 d_M_chairNow_66 rfl ?_
        refine kJ_sub [2, 1, 0] rfl ?_
        exact hrec45 x2 (x2 + (-1)) hf
def b_M_chairNow_32 (h : kH) : Option Int32 := kG 7 760 (b_M_chairNow_45 h kFuel (-6) ((h 787 (kx 7)) - 1))
theorem c_M_chairNow_32 {E : kE} {L : Nat} {xs : Nat → Int32} (hro : kRo E L xs) {h : kH} {r : Int32} (hf : b_M_chairNow_32 h = some r) : kJ E m_M_chairNow (some r) (mk h) 0 0 32 [(0, .ref 786)] [] (mk h) := by
  unfold b_M_chairNow_32 at hf
  refine kJ_bipush 34 (-6) d_M_chairNow_32 kb_m6 rfl ?_
  refine kJ_istore_n 35 [(1, .int (-6)), (0, .ref 786)] d_M_chairNow_34 rfl (Nat.le_of_ble_eq_true rfl) rfl rfl ?_
  refine kJ_aload_n 36 1 d_M_chairNow_35 rfl rfl rfl rfl ?_
  refine kM_getR 39 0 787 d_M_chairNow_36 l_M_7 km_786 rfl rfl rfl rfl ?_
  refine kJ_bipush 41 7 d_M_chairNow_39 kb_7 rfl ?_
  obtain ⟨hg, hf⟩ := kG_some hf
  refine kM_iald 42 760 d_M_chairNow_41 km_787 rfl hg rfl ?_
  refine kJ_iconst 43 1 d_M_chairNow_42 ki_1 rfl ?_
  refine kJ_isub 44 d_M_chairNow_43 rfl ?_
  refine kJ_istore_n 45 [(2, .int ((h 787 (kx 7)) - 1)), (1, .int (-6)), (0, .ref 786)] d_M_chairNow_44 rfl (Nat.le_of_ble_eq_true rfl) rfl rfl ?_
  refine kJ_sub [2, 1, 0] rfl ?_
  exact c_M_chairNow_45 hro kFuel (-6) ((h 787 (kx 7)) - 1) hf
def f_M_chairNow (h : kH) : Option Int32 := kG 9 760 (if (h 787 (kx 9)) < 0 then (b_M_chairNow_32 h) else (kG 9 760 (kBi (f_M_isPresent h (h 787 (kx 9))) fun v2 => if v2 = true then (kG 9 760 (some (h 787 (kx 9)))) else (b_M_chairNow_32 h))))
theorem j_M_chairNow {E : kE} {L : Nat} {xs : Nat → Int32} (hro : kRo E L xs) {h : kH} {r : Int32} (hf : f_M_chairNow h = some r) : JM E m_M_chairNow [.ref 786] (mk h) (some r) (mk h) := by
  unfold f_M_chairNow at hf
  refine JM.of pn_M (Nat.le_of_ble_eq_true rfl) ?_
  show kJ E m_M_chairNow (some r) (mk h) 0 0 0 [(0, .ref 786)] [] (mk h)
  refine kJ_aload_n 1 0 d_M_chairNow_0 rfl rfl rfl rfl ?_
  refine kM_getR 4 0 787 d_M_chairNow_1 l_M_7 km_786 rfl rfl rfl rfl ?_
  refine kJ_bipush 6 9 d_M_chairNow_4 kb_9 rfl ?_
  obtain ⟨hg, hf⟩ := kG_some hf
  refine kM_iald 7 760 d_M_chairNow_6 km_787 rfl hg rfl ?_
  refine kJ_if_lt 10 32 d_M_chairNow_7 rfl rfl (fun hc => ?_) (fun hc => ?_)
  · have hf := kIf_t hf hc
    refine kJ_sub [0] rfl ?_
    exact c_M_chairNow_32 hro hf
  · have hf := kIf_f hf hc
    refine kJ_aload_n 11 0 d_M_chairNow_10 rfl rfl rfl rfl ?_
    refine kJ_aload_n 12 0 d_M_chairNow_11 rfl rfl rfl rfl ?_
    refine kM_getR 15 0 787 d_M_chairNow_12 l_M_7 km_786 rfl rfl rfl rfl ?_
    refine kJ_bipush 17 9 d_M_chairNow_15 kb_9 rfl ?_
    obtain ⟨hg, hf⟩ := kG_some hf
    refine kM_iald 18 760 d_M_chairNow_17 km_787 rfl hg rfl ?_
    obtain ⟨v2, ev2, hf⟩ := kBi_some hf
    refine kM_callv 21 m_M_isPresent [.int (h 787 (kx 9))] [] d_M_chairNow_18 cl_M_64 ⟨w_909, w_70⟩ km_786 ⟨rfl, by decide⟩ ⟨_, _, rfl⟩ rfl rfl (Nat.le_of_ble_eq_true rfl) ⟨Nat.le_of_ble_eq_true rfl, Nat.le_of_ble_eq_true rfl⟩ ⟨rfl, rfl⟩ ⟨Nat.zero_le _, Nat.zero_le _⟩ (j_M_isPresent hro ev2) rfl ?_
    refine kJ_if_eq 24 32 d_M_chairNow_21 rfl rfl (fun hc => ?_) (fun hc => ?_)
    · have hf := kIf_f hf (kB2_0 hc)
      refine kJ_sub [0] rfl ?_
      exact c_M_chairNow_32 hro hf
    · have hf := kIf_t hf (kB2_1 hc)
      refine kJ_aload_n 25 0 d_M_chairNow_24 rfl rfl rfl rfl ?_
      refine kM_getR 28 0 787 d_M_chairNow_25 l_M_7 km_786 rfl rfl rfl rfl ?_
      refine kJ_bipush 30 9 d_M_chairNow_28 kb_9 rfl ?_
      obtain ⟨hg, hf⟩ := kG_some hf
      refine kM_iald 31 760 d_M_chairNow_30 km_787 rfl hg rfl ?_
      cases hf
      exact kJ_iret d_M_chairNow_31 rfl rfl (Nat.zero_le _) (Nat.zero_le _)
