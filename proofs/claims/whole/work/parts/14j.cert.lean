/-! CODE of the methods as functions, with certificates: printed by wip/whole/emit.py. -/
def b_M_decisive_124 (rec32 : kH → Int32 → Int32 → Option (Int32 × kH)) (h : kH) (x1 : Int32) (x2 : Int32) (x3 : Int32) (x4 : Int32) (x5 : Int32) (x6 : Int32) : Option (Int32 × kH) := kG x5 760 (kLet (hset h 787 (kx x5) x6) fun h6 => rec32 h6 x3 (x4 + 1))
theorem c_M_decisive_124 {E : kE} {L : Nat} {xs : Nat → Int32} (hro : kRo E L xs) {rec32 : kH → Int32 → Int32 → Option (Int32 × kH)} {h : kH} {x1 : Int32} {x2 : Int32} {x3 : Int32} {x4 : Int32} {x5 : Int32} {x6 : Int32} {r : Int32} {h' : kH} (hrec32 : ∀ (h : kH) (x3 : Int32) (x4 : Int32), rec32 h x3 x4 = some (r, h') → kJ E m_M_decisive (some r) (mk h') 0 0 32 [(0, .ref 786), (1, .int x1), (2, .int x2), (3, .int x3), (4, .int x4)] [] (mk h)) (hf : b_M_decisive_124 rec32 h x1 x2 x3 x4 x5 x6 = some (r, h')) : kJ E m_M_decisive (some r) (mk h') 0 0 124 [(0, .ref 786), (1, .int x1), (2, .int x2), (3, .int x3), (4, .int x4), (5, .int x5), (6, .int x6)] [] (mk h) := by
  unfold b_M_decisive_124 at hf
  refine kJ_aload_n 125 0 d_M_decisive_124 rfl rfl rfl rfl ?_
  refine kM_getR 128 0 787 d_M_decisive_125 l_M_7 km_786 rfl rfl rfl rfl ?_
  refine kJ_iload 130 5 d_M_decisive_128 rfl rfl ?_
  refine kJ_iload 132 6 d_M_decisive_130 rfl rfl ?_
  obtain ⟨hg, hf⟩ := kG_some hf
  refine kM_iast 133 760 d_M_decisive_132 km_787 rfl hg rfl ?_
  obtain ⟨h6, eh6, hf⟩ := kLet_e hf
  rw [← eh6]
  refine kJ_iinc 136 4 [(4, .int (x4 + 1)), (0, .ref 786), (1, .int x1), (2, .int x2), (3, .int x3), (5, .int x5), (6, .int x6)] d_M_decisive_133 rfl ki_1 (Nat.le_of_ble_eq_true rfl) rfl rfl ?_
  refine kJ_goto 32 d_M_decisive_136 rfl ?_
  refine kJ_sub [1, 2, 3, 4, 0] rfl ?_
  exact hrec32 h6 x3 (x4 + 1) hf
def b_M_decisive_73 (rec32 : kH → Int32 → Int32 → Option (Int32 × kH)) (x1 : Int32) (x2 : Int32) (x4 : Int32) (x5 : Int32) (x6 : Int32) : Nat → kH → Int32 → Int32 → Option (Int32 × kH)
  | 0, _, _, _ => none
  | n + 1, h, x3, x7 => (fun rec73 => if 3 ≤ x7 then (b_M_decisive_124 rec32 h x1 x2 x3 x4 x5 x6) else (kBi (f_M_canVote h x4 x1) fun v7 => if v7 = true then (kG x5 760 (kLet (hset h 787 (kx x5) x7) fun h8 => kBd (f_M_outcome h8 x1) fun v10 h9 => if v10 = x2 then (rec73 h9 (x3 ||| 0) (x7 + 1)) else (kLet (x3 ||| (1 <<< (x4 &&& 31))) fun v11 => rec73 h9 v11 (x7 + 1)))) else (b_M_decisive_124 rec32 h x1 x2 x3 x4 x5 x6))) (fun h' x3' x7' => b_M_decisive_73 rec32 x1 x2 x4 x5 x6 n h' x3' x7')
theorem c_M_decisive_73 {E : kE} {L : Nat} {xs : Nat → Int32} (hro : kRo E L xs) {rec32 : kH → Int32 → Int32 → Option (Int32 × kH)} {x1 : Int32} {x2 : Int32} {x4 : Int32} {x5 : Int32} {x6 : Int32} {r : Int32} {h' : kH} (hrec32 : ∀ (h : kH) (x3 : Int32) (x4 : Int32), rec32 h x3 x4 = some (r, h') → kJ E m_M_decisive (some r) (mk h') 0 0 32 [(0, .ref 786), (1, .int x1), (2, .int x2), (3, .int x3), (4, .int x4)] [] (mk h)) : ∀ (n : Nat) (h : kH) (x3 : Int32) (x7 : Int32), b_M_decisive_73 rec32 x1 x2 x4 x5 x6 n h x3 x7 = some (r, h') → kJ E m_M_decisive (some r) (mk h') 0 0 73 [(0, .ref 786), (1, .int x1), (2, .int x2), (3, .int x3), (4, .int x4), (5, .int x5), (6, .int x6), (7, .int x7)] [] (mk h) := by
  intro n
  induction n with
  | zero =>
    intro h x3 x7 hf
    have hf : (none : Option (Int32 × kH)) = some (r, h') := hf
    cases hf
  | succ n hrec73 =>
    intro h x3 x7 hf
    rw [b_M_decisive_73] at hf
    dsimp only at hf
    refine kJ_iload 75 7 d_M_decisive_73 rfl rfl ?_
    refine kJ_iconst 76 3 d_M_decisive_75 ki_3 rfl ?_
    refine kJ_icmp_ge 79 124 d_M_decisive_76 rfl rfl (fun hc => ?_) (fun hc => ?_)
    · have hf := kIf_t hf hc
      refine kJ_sub [0, 1, 2, 3, 4, 5, 6] rfl ?_
      exact c_M_decisive_124 hro hrec32 hf
    · have hf := kIf_f hf hc
      refine kJ_aload_n 80 0 d_M_decisive_79 rfl rfl rfl rfl ?_
      refine kJ_iload 82 4 d_M_decisive_80 rfl rfl ?_
      refine kJ_iload_n 83 1 d_M_decisive_82 rfl rfl rfl ?_
      obtain ⟨v7, ev7, hf⟩ := kBi_some hf
      refine kM_callv 86 m_M_canVote [.int x4, .int x1] [] d_M_decisive_83 cl_M_144 ⟨w_1059, w_90⟩ km_786 ⟨rfl, by decide⟩ ⟨_, _, rfl⟩ rfl rfl (Nat.le_of_ble_eq_true rfl) ⟨Nat.le_of_ble_eq_true rfl, Nat.le_of_ble_eq_true rfl⟩ ⟨rfl, rfl⟩ ⟨Nat.zero_le _, Nat.zero_le _⟩ (j_M_canVote hro ev7) rfl ?_
      refine kJ_if_eq 89 124 d_M_decisive_86 rfl rfl (fun hc => ?_) (fun hc => ?_)
      · have hf := kIf_f hf (kB2_0 hc)
        refine kJ_sub [0, 1, 2, 3, 4, 5, 6] rfl ?_
        exact c_M_decisive_124 hro hrec32 hf
      · have hf := kIf_t hf (kB2_1 hc)
        refine kJ_aload_n 90 0 d_M_decisive_89 rfl rfl rfl rfl ?_
        refine kM_getR 93 0 787 d_M_decisive_90 l_M_7 km_786 rfl rfl rfl rfl ?_
        refine kJ_iload 95 5 d_M_decisive_93 rfl rfl ?_
        refine kJ_iload 97 7 d_M_decisive_95 rfl rfl ?_
        obtain ⟨hg, hf⟩ := kG_some hf
        refine kM_iast 98 760 d_M_decisive_97 km_787 rfl hg rfl ?_
        obtain ⟨h8, eh8, hf⟩ := kLet_e hf
        rw [← eh8]
        refine kJ_iload_n 99 3 d_M_decisive_98 rfl rfl rfl ?_
        refine kJ_aload_n 100 0 d_M_decisive_99 rfl rfl rfl rfl ?_
        refine kJ_iload_n 101 1 d_M_decisive_100 rfl rfl rfl ?_
        obtain ⟨v10, h9, ev10, hf⟩ := kBd_some hf
        refine kM_callv 104 m_M_outcome [.int x1] [.int x3] d_M_decisive_101 cl_M_126 ⟨w_999, w_83⟩ km_786 ⟨rfl, by decide⟩ ⟨_, _, rfl⟩ rfl rfl (Nat.le_of_ble_eq_true rfl) ⟨Nat.le_of_ble_eq_true rfl, Nat.le_of_ble_eq_true rfl⟩ ⟨rfl, rfl⟩ ⟨Nat.zero_le _, Nat.zero_le _⟩ (j_M_outcome hro ev10) rfl ?_
        refine kJ_iload_n 105 2 d_M_decisive_104 rfl rfl rfl ?_
        refine kJ_icmp_eq 108 115 d_M_decisive_105 rfl rfl (fun hc => ?_) (fun hc => ?_)
        · have hf := kIf_t hf hc
          refine kJ_iconst 116 0 d_M_decisive_115 ki_0 rfl ?_
          refine kJ_ior 117 d_M_decisive_116 rfl ?_
          refine kJ_istore_n 118 [(3, .int (x3 ||| 0)), (0, .ref 786), (1, .int x1), (2, .int x2), (4, .int x4), (5, .int x5), (6, .int x6), (7, .int x7)] d_M_decisive_117 rfl (Nat.le_of_ble_eq_true rfl) rfl rfl ?_
          refine kJ_iinc 121 7 [(7, .int (x7 + 1)), (3, .int (x3 ||| 0)), (0, .ref 786), (1, .int x1), (2, .int x2), (4, .int x4), (5, .int x5), (6, .int x6)] d_M_decisive_118 rfl ki_1 (Nat.le_of_ble_eq_true rfl) rfl rfl ?_
          refine kJ_goto 73 d_M_decisive_121 rfl ?_
          refine kJ_sub [2, 3, 4, 1, 5, 6, 7, 0] rfl ?_
          exact hrec73 h9 (x3 ||| 0) (x7 + 1) hf
        · have hf := kIf_f hf hc
          refine kJ_iconst 109 1 d_M_decisive_108 ki_1 rfl ?_
          refine kJ_iload 111 4 d_M_decisive_109 rfl rfl ?_
          refine kJ_ishl 112 d_M_decisive_111 rfl ?_
          refine kJ_goto 116 d_M_decisive_112 rfl ?_
          refine kJ_ior 117 d_M_decisive_116 rfl ?_
          obtain ⟨v11, ev11, hf⟩ := kLet_e hf
          rw [← ev11]
          refine kJ_istore_n 118 [(3, .int v11), (0, .ref 786), (1, .int x1), (2, .int x2), (4, .int x4), (5, .int x5), (6, .int x6), (7, .int x7)] d_M_decisive_117 rfl (Nat.le_of_ble_eq_true rfl) rfl rfl ?_
          refine kJ_iinc 121 7 [(7, .int (x7 + 1)), (3, .int v11), (0, .ref 786), (1, .int x1), (2, .int x2), (4, .int x4), (5, .int x5), (6, .int x6)] d_M_decisive_118 rfl ki_1 (Nat.le_of_ble_eq_true rfl) rfl rfl ?_
          refine kJ_goto 73 d_M_decisive_121 rfl ?_
          refine kJ_sub [2, 3, 4, 1, 5, 6, 7, 0] rfl ?_
          exact hrec73 h9 v11 (x7 + 1) hf
def b_M_decisive_32 (x1 : Int32) (x2 : Int32) : Nat → kH → Int32 → Int32 → Option (Int32 × kH)
  | 0, _, _, _ => none
  | n + 1, h, x3, x4 => (fun rec32 => kG 7 760 (if (h 787 (kx 7)) ≤ x4 then (some (x3, h)) else (kLet ((250 + (3 * ((12 * x1) + x4))) + 1) fun v5 => kG v5 760 (b_M_decisive_73 rec32 x1 x2 x4 v5 (h 787 (kx v5)) kFuel h x3 0)))) (fun h' x3' x4' => b_M_decisive_32 x1 x2 n h' x3' x4')
theorem c_M_decisive_32 {E : kE} {L : Nat} {xs : Nat → Int32} (hro : kRo E L xs) {x1 : Int32} {x2 : Int32} {r : Int32} {h' : kH} : ∀ (n : Nat) (h : kH) (x3 : Int32) (x4 : Int32), b_M_decisive_32 x1 x2 n h x3 x4 = some (r, h') → kJ E m_M_decisive (some r) (mk h') 0 0 32 [(0, .ref 786), (1, .int x1), (2, .int x2), (3, .int x3), (4, .int x4)] [] (mk h) := by
  intro n
  induction n with
  | zero =>
    intro h x3 x4 hf
    have hf : (none : Option (Int32 × kH)) = some (r, h') := hf
    cases hf
  | succ n hrec32 =>
    intro h x3 x4 hf
    rw [b_M_decisive_32] at hf
    dsimp only at hf
    refine kJ_iload 34 4 d_M_decisive_32 rfl rfl ?_
    refine kJ_aload_n 35 0 d_M_decisive_34 rfl rfl rfl rfl ?_
    refine kM_getR 38 0 787 d_M_decisive_35 l_M_7 km_786 rfl rfl rfl rfl ?_
    refine kJ_bipush 40 7 d_M_decisive_38 kb_7 rfl ?_
    obtain ⟨hg, hf⟩ := kG_some hf
    refine kM_iald 41 760 d_M_decisive_40 km_787 rfl hg rfl ?_
    refine kJ_icmp_ge 44 139 d_M_decisive_41 rfl rfl (fun hc => ?_) (fun hc => ?_)
    · have hf := kIf_t hf hc
      refine kJ_iload_n 140 3 d_M_decisive_139 rfl rfl rfl ?_
      cases hf
      exact kJ_iret d_M_decisive_140 rfl rfl (Nat.zero_le _) (Nat.zero_le _)
    · have hf := kIf_f hf hc
      refine kJ_sipush 47 250 d_M_decisive_44 ks_250 rfl ?_
      refine kJ_iconst 48 3 d_M_decisive_47 ki_3 rfl ?_
      refine kJ_bipush 50 12 d_M_decisive_48 kb_12 rfl ?_
      refine kJ_iload_n 51 1 d_M_decisive_50 rfl rfl rfl ?_
      refine kJ_imul 52 d_M_decisive_51 rfl ?_
      refine kJ_iload 54 4 d_M_decisive_52 rfl rfl ?_
      refine kJ_iadd 55 d_M_decisive_54 rfl ?_
      refine kJ_imul 56 d_M_decisive_55 rfl ?_
      refine kJ_iadd 57 d_M_decisive_56 rfl ?_
      refine kJ_iconst 58 1 d_M_decisive_57 ki_1 rfl ?_
      refine kJ_iadd 59 d_M_decisive_58 rfl ?_
      obtain ⟨v5, ev5, hf⟩ := kLet_e hf
      rw [← ev5]
      refine kJ_istore 61 [(5, .int v5), (0, .ref 786), (1, .int x1), (2, .int x2), (3, .int x3), (4, .int x4)] d_M_decisive_59 (Nat.le_of_ble_eq_true rfl) rfl rfl ?_
      refine kJ_aload_n 62 1 d_M_decisive_61 rfl rfl rfl rfl ?_
      refine kM_getR 65 0 787 d_M_decisive_62 l_M_7 km_786 rfl rfl rfl rfl ?_
      refine kJ_iload 67 0 d_M_decisive_65 rfl rfl ?_
      obtain ⟨hg, hf⟩ := kG_some hf
      refine kM_iald 68 760 d_M_decisive_67 km_787 rfl hg rfl ?_
      refine kJ_istore 70 [(6, .int (h 787 (kx v5))), (5, .int v5), (0, .ref 786), (1, .int x1), (2, .int x2), (3, .int x3), (4, .int x4)] d_M_decisive_68 (Nat.le_of_ble_eq_true rfl) rfl rfl ?_
      refine kJ_iconst 71 0 d_M_decisive_70 ki_0 rfl ?_
      refine kJ_istore 73 [(7, .int 0), (6, .int (h 787 (kx v5))), (5, .int v5), (0, .ref 786), (1, .int x1), (2, .int x2), (3, .int x3), (4, .int x4)] d_M_decisive_71 (Nat.le_of_ble_eq_true rfl) rfl rfl ?_
      refine kJ_sub [3, 4, 5, 6, 7, 2, 1, 0] rfl ?_
      exact c_M_decisive_73 hro hrec32 kFuel h x3 0 hf
def f_M_decisive (h : kH) (x1 : Int32) : Option (Int32 × kH) := kBi (f_M_isItem h x1) fun v1 => if v1 = true then (kBi (f_M_isAhead h x1) fun v2 => if v2 = true then (kBd (f_M_outcome h x1) fun v4 h3 => b_M_decisive_32 x1 v4 kFuel h3 0 0) else (some ((-5), h))) else (some ((-1), h))
theorem j_M_decisive {E : kE} {L : Nat} {xs : Nat → Int32} (hro : kRo E L xs) {h : kH} {x1 : Int32} {r : Int32} {h' : kH} (hf : f_M_decisive h x1 = some (r, h')) : JM E m_M_decisive [.ref 786, .int x1] (mk h) (some r) (mk h') := by
  unfold f_M_decisive at hf
  refine JM.of pn_M (Nat.le_of_ble_eq_true rfl) ?_
  show kJ E m_M_decisive (some r) (mk h') 0 0 0 [(0, .ref 786), (1, .int x1)] [] (mk h)
  refine kJ_aload_n 1 0 d_M_decisive_0 rfl rfl rfl rfl ?_
  refine kJ_iload_n 2 1 d_M_decisive_1 rfl rfl rfl ?_
  obtain ⟨v1, ev1, hf⟩ := kBi_some hf
  refine kM_callv 5 m_M_isItem [.int x1] [] d_M_decisive_2 cl_M_78 ⟨w_928, w_71⟩ km_786 ⟨rfl, by decide⟩ ⟨_, _, rfl⟩ rfl rfl (Nat.le_of_ble_eq_true rfl) ⟨Nat.le_of_ble_eq_true rfl, Nat.le_of_ble_eq_true rfl⟩ ⟨rfl, rfl⟩ ⟨Nat.zero_le _, Nat.zero_le _⟩ (j_M_isItem hro ev1) rfl ?_
  refine kJ_if_ne 8 10 d_M_decisive_5 rfl rfl (fun hc => ?_) (fun hc => ?_)
  · have hf := kIf_t hf (kB2_1 hc)
    refine kJ_aload_n 11 0 d_M_decisive_10 rfl rfl rfl rfl ?_
    refine kJ_iload_n 12 1 d_M_decisive_11 rfl rfl rfl ?_
    obtain ⟨v2, ev2, hf⟩ := kBi_some hf
    refine kM_callv 15 m_M_isAhead [.int x1] [] d_M_decisive_12 cl_M_84 ⟨w_936, w_72⟩ km_786 ⟨rfl, by decide⟩ ⟨_, _, rfl⟩ rfl rfl (Nat.le_of_ble_eq_true rfl) ⟨Nat.le_of_ble_eq_true rfl, Nat.le_of_ble_eq_true rfl⟩ ⟨rfl, rfl⟩ ⟨Nat.zero_le _, Nat.zero_le _⟩ (j_M_isAhead hro ev2) rfl ?_
    refine kJ_if_ne 18 21 d_M_decisive_15 rfl rfl (fun hc => ?_) (fun hc => ?_)
    · have hf := kIf_t hf (kB2_1 hc)
      refine kJ_aload_n 22 0 d_M_decisive_21 rfl rfl rfl rfl ?_
      refine kJ_iload_n 23 1 d_M_decisive_22 rfl rfl rfl ?_
      obtain ⟨v4, h3, ev4, hf⟩ := kBd_some hf
      refine kM_callv 26 m_M_outcome [.int x1] [] d_M_decisive_23 cl_M_126 ⟨w_999, w_83⟩ km_786 ⟨rfl, by decide⟩ ⟨_, _, rfl⟩ rfl rfl (Nat.le_of_ble_eq_true rfl) ⟨Nat.le_of_ble_eq_true rfl, Nat.le_of_ble_eq_true rfl⟩ ⟨rfl, rfl⟩ ⟨Nat.zero_le _, Nat.zero_le _⟩ (j_M_outcome hro ev4) rfl ?_
      refine kJ_istore_n 27 [(2, .int v4), (0, .ref 786), (1, .int x1)] d_M_decisive_26 rfl (Nat.le_of_ble_eq_true rfl) rfl rfl ?_
      refine kJ_iconst 28 0 d_M_decisive_27 ki_0 rfl ?_
      refine kJ_istore_n 29 [(3, .int 0), (2, .int v4), (0, .ref 786), (1, .int x1)] d_M_decisive_28 rfl (Nat.le_of_ble_eq_true rfl) rfl rfl ?_
      refine kJ_iconst 30 0 d_M_decisive_29 ki_0 rfl ?_
      refine kJ_istore 32 [(4, .int 0), (3, .int 0), (2, .int v4), (0, .ref 786), (1, .int x1)] d_M_decisive_30 (Nat.le_of_ble_eq_true rfl) rfl rfl ?_
      refine kJ_sub [3, 4, 2, 1, 0] rfl ?_
      exact c_M_decisive_32 hro kFuel h3 0 0 hf
    · have hf := kIf_f hf (kB2_0 hc)
      refine kJ_bipush 20 (-5) d_M_decisive_18 kb_m5 rfl ?_
      cases hf
      exact kJ_iret d_M_decisive_20 rfl rfl (Nat.zero_le _) (Nat.zero_le _)
  · have hf := kIf_f hf (kB2_0 hc)
    refine kJ_iconst 9 (-1) d_M_decisive_8 ki_m1 rfl ?_
    cases hf
    exact kJ_iret d_M_decisive_9 rfl rfl (Nat.zero_le _) (Nat.zero_le _)
def b_M_isCarriedBy_65 (x1 : Int32) (x2 : Int32) (x3 : Int32) : Nat → kH → Int32 → Option (Bool × kH)
  | 0, _, _ => none
  | n + 1, h, x4 => (fun rec65 => kG 7 760 (if (h 787 (kx 7)) ≤ x4 then (kBi (kRz x3) fun b3 => some (b3, h)) else (if (f_M_has x2 x4) = true then (kG ((250 + (3 * ((12 * x1) + x4))) + 1) 760 (kLet (hset h 787 (kx ((250 + (3 * ((12 * x1) + x4))) + 1)) (-6)) fun h4 => rec65 h4 (x4 + 1))) else (rec65 h (x4 + 1))))) (fun h' x4' => b_M_isCarriedBy_65 x1 x2 x3 n h' x4')
theorem c_M_isCarriedBy_65 {E : kE} {L : Nat} {xs : Nat → Int32} (hro : kRo E L xs) {x1 : Int32} {x2 : Int32} {x3 : Int32} {r : Bool} {h' : kH} : ∀ (n : Nat) (h : kH) (x4 : Int32), b_M_isCarriedBy_65 x1 x2 x3 n h x4 = some (r, h') → kJ E m_M_isCarriedBy (some (kB2 r)) (mk h') 0 0 65 [(0, .ref 786), (1, .int x1), (2, .int x2), (3, .int x3), (4, .int x4)] [] (mk h) := by
  intro n
  induction n with
  | zero =>
    intro h x4 hf
    have hf : (none : Option (Bool × kH)) = some (r, h') := hf
    cases hf
  | succ n hrec65 =>
    intro h x4 hf
    rw [b_M_isCarriedBy_65] at hf
    dsimp only at hf
    refine kJ_iload 67 4 d_M_isCarriedBy_65 rfl rfl ?_
    refine kJ_aload_n 68 0 d_M_isCarriedBy_67 rfl rfl rfl rfl ?_
    refine kM_getR 71 0 787 d_M_isCarriedBy_68 l_M_7 km_786 rfl rfl rfl rfl ?_
    refine kJ_bipush 73 7 d_M_isCarriedBy_71 kb_7 rfl ?_
    obtain ⟨hg, hf⟩ := kG_some hf
    refine kM_iald 74 760 d_M_isCarriedBy_73 km_787 rfl hg rfl ?_
    refine kJ_icmp_ge 77 114 d_M_isCarriedBy_74 rfl rfl (fun hc => ?_) (fun hc => ?_)
    · have hf := kIf_t hf hc
      refine kJ_iload_n 115 3 d_M_isCarriedBy_114 rfl rfl rfl ?_
      obtain ⟨b3, eb3, hf⟩ := kBi_some hf
      have he := kRz_some eb3
      rw [he]
      cases hf
      exact kJ_iret d_M_isCarriedBy_115 rfl (kB2_z _) (Nat.zero_le _) (Nat.zero_le _)
    · have hf := kIf_f hf hc
      refine kJ_iload_n 78 2 d_M_isCarriedBy_77 rfl rfl rfl ?_
      refine kJ_iload 80 4 d_M_isCarriedBy_78 rfl rfl ?_
      refine kM_calls 83 m_M_has [.int x2, .int x4] [] d_M_isCarriedBy_80 cl_M_87 w_951 rfl rfl (Nat.le_of_ble_eq_true rfl) ⟨Nat.le_of_ble_eq_true rfl, Nat.le_of_ble_eq_true rfl⟩ ⟨rfl, rfl⟩ ⟨Nat.zero_le _, Nat.zero_le _⟩ (j_M_has hro rfl) rfl ?_
      refine kJ_if_eq 86 108 d_M_isCarriedBy_83 rfl rfl (fun hc => ?_) (fun hc => ?_)
      · have hf := kIf_f hf (kB2_0 hc)
        refine kJ_iinc 111 4 [(4, .int (x4 + 1)), (0, .ref 786), (1, .int x1), (2, .int x2), (3, .int x3)] d_M_isCarriedBy_108 rfl ki_1 (Nat.le_of_ble_eq_true rfl) rfl rfl ?_
        refine kJ_goto 65 d_M_isCarriedBy_111 rfl ?_
        refine kJ_sub [1, 2, 3, 4, 0] rfl ?_
        exact hrec65 h (x4 + 1) hf
      · have hf := kIf_t hf (kB2_1 hc)
        refine kJ_aload_n 87 0 d_M_isCarriedBy_86 rfl rfl rfl rfl ?_
        refine kM_getR 90 0 787 d_M_isCarriedBy_87 l_M_7 km_786 rfl rfl rfl rfl ?_
        refine kJ_sipush 93 250 d_M_isCarriedBy_90 ks_250 rfl ?_
        refine kJ_iconst 94 3 d_M_isCarriedBy_93 ki_3 rfl ?_
        refine kJ_bipush 96 12 d_M_isCarriedBy_94 kb_12 rfl ?_
        refine kJ_iload_n 97 1 d_M_isCarriedBy_96 rfl rfl rfl ?_
        refine kJ_imul 98 d_M_isCarriedBy_97 rfl ?_
        refine kJ_iload 100 4 d_M_isCarriedBy_98 rfl rfl ?_
        refine kJ_iadd 101 d_M_isCarriedBy_100 rfl ?_
        refine kJ_imul 102 d_M_isCarriedBy_101 rfl ?_
        refine kJ_iadd 103 d_M_isCarriedBy_102 rfl ?_
        refine kJ_iconst 104 1 d_M_isCarriedBy_103 ki_1 rfl ?_
        refine kJ_iadd 105 d_M_isCarriedBy_104 rfl ?_
        refine kJ_bipush 107 (-6) d_M_isCarriedBy_105 kb_m6 rfl ?_
        obtain ⟨hg, hf⟩ := kG_some hf
        refine kM_iast 108 760 d_M_isCarriedBy_107 km_787 rfl hg rfl ?_
        obtain ⟨h4, eh4, hf⟩ := kLet_e hf
        rw [← eh4]
        refine kJ_iinc 111 4 [(4, .int (x4 + 1)), (0, .ref 786), (1, .int x1), (2, .int x2), (3, .int x3)] d_M_isCarriedBy_108 rfl ki_1 (Nat.le_of_ble_eq_true rfl) rfl rfl ?_
        refine kJ_goto 65 d_M_isCarriedBy_111 rfl ?_
        refine kJ_sub [1, 2, 3, 4, 0] rfl ?_
        exact hrec65 h4 (x4 + 1) hf
def b_M_isCarriedBy_2 (x1 : Int32) (x2 : Int32) : Nat → kH → Int32 → Option (Bool × kH)
  | 0, _, _ => none
  | n + 1, h, x3 => (fun rec2 => kG 7 760 (if (h 787 (kx 7)) ≤ x3 then (kBd (f_M_outcome h x1) fun v2 h1 => if v2 = 3 then (b_M_isCarriedBy_65 x1 x2 1 kFuel h1 0) else (b_M_isCarriedBy_65 x1 x2 0 kFuel h1 0)) else (if (f_M_has x2 x3) = true then (kG ((250 + (3 * ((12 * x1) + x3))) + 1) 760 (kLet (hset h 787 (kx ((250 + (3 * ((12 * x1) + x3))) + 1)) 1) fun h5 => rec2 h5 (x3 + 1))) else (rec2 h (x3 + 1))))) (fun h' x3' => b_M_isCarriedBy_2 x1 x2 n h' x3')
theorem c_M_isCarriedBy_2 {E : kE} {L : Nat} {xs : Nat → Int32} (hro : kRo E L xs) {x1 : Int32} {x2 : Int32} {r : Bool} {h' : kH} : ∀ (n : Nat) (h : kH) (x3 : Int32), b_M_isCarriedBy_2 x1 x2 n h x3 = some (r, h') → kJ E m_M_isCarriedBy (some (kB2 r)) (mk h') 0 0 2 [(0, .ref 786), (1, .int x1), (2, .int x2), (3, .int x3)] [] (mk h) := by
  intro n
  induction n with
  | zero =>
    intro h x3 hf
    have hf : (none : Option (Bool × kH)) = some (r, h') := hf
    cases hf
  | succ n hrec2 =>
    intro h x3 hf
    rw [b_M_isCarriedBy_2] at hf
    dsimp only at hf
    refine kJ_iload_n 3 3 d_M_isCarriedBy_2 rfl rfl rfl ?_
    refine kJ_aload_n 4 0 d_M_isCarriedBy_3 rfl rfl rfl rfl ?_
    refine kM_getR 7 0 787 d_M_isCarriedBy_4 l_M_7 km_786 rfl rfl rfl rfl ?_
    refine kJ_bipush 9 7 d_M_isCarriedBy_7 kb_7 rfl ?_
    obtain ⟨hg, hf⟩ := kG_some hf
    refine kM_iald 10 760 d_M_isCarriedBy_9 km_787 rfl hg rfl ?_
    refine kJ_icmp_ge 13 47 d_M_isCarriedBy_10 rfl rfl (fun hc => ?_) (fun hc => ?_)
    · have hf := kIf_t hf hc
      refine kJ_aload_n 48 0 d_M_isCarriedBy_47 rfl rfl rfl rfl ?_
      refine kJ_iload_n 49 1 d_M_isCarriedBy_48 rfl rfl rfl ?_
      obtain ⟨v2, h1, ev2, hf⟩ := kBd_some hf
      refine kM_callv 52 m_M_outcome [.int x1] [] d_M_isCarriedBy_49 cl_M_126 ⟨w_999, w_83⟩ km_786 ⟨rfl, by decide⟩ ⟨_, _, rfl⟩ rfl rfl (Nat.le_of_ble_eq_true rfl) ⟨Nat.le_of_ble_eq_true rfl, Nat.le_of_ble_eq_true rfl⟩ ⟨rfl, rfl⟩ ⟨Nat.zero_le _, Nat.zero_le _⟩ (j_M_outcome hro ev2) rfl ?_
      refine kJ_iconst 53 3 d_M_isCarriedBy_52 ki_3 rfl ?_
      refine kJ_icmp_ne 56 60 d_M_isCarriedBy_53 rfl rfl (fun hc => ?_) (fun hc => ?_)
      · have hf := kIf_f hf hc
        refine kJ_iconst 61 0 d_M_isCarriedBy_60 ki_0 rfl ?_
        refine kJ_istore_n 62 [(3, .int 0), (0, .ref 786), (1, .int x1), (2, .int x2)] d_M_isCarriedBy_61 rfl (Nat.le_of_ble_eq_true rfl) rfl rfl ?_
        refine kJ_iconst 63 0 d_M_isCarriedBy_62 ki_0 rfl ?_
        refine kJ_istore 65 [(4, .int 0), (3, .int 0), (0, .ref 786), (1, .int x1), (2, .int x2)] d_M_isCarriedBy_63 (Nat.le_of_ble_eq_true rfl) rfl rfl ?_
        refine kJ_sub [2, 3, 4, 1, 0] rfl ?_
        exact c_M_isCarriedBy_65 hro kFuel h1 0 hf
      · have hf := kIf_t hf hc
        refine kJ_iconst 57 1 d_M_isCarriedBy_56 ki_1 rfl ?_
        refine kJ_goto 61 d_M_isCarriedBy_57 rfl ?_
        refine kJ_istore_n 62 [(3, .int 1), (0, .ref 786), (1, .int x1), (2, .int x2)] d_M_isCarriedBy_61 rfl (Nat.le_of_ble_eq_true rfl) rfl rfl ?_
        refine kJ_iconst 63 0 d_M_isCarriedBy_62 ki_0 rfl ?_
        refine kJ_istore 65 [(4, .int 0), (3, .int 1), (0, .ref 786), (1, .int x1), (2, .int x2)] d_M_isCarriedBy_63 (Nat.le_of_ble_eq_true rfl) rfl rfl ?_
        refine kJ_sub [2, 3, 4, 1, 0] rfl ?_
        exact c_M_isCarriedBy_65 hro kFuel h1 0 hf
    · have hf := kIf_f hf hc
      refine kJ_iload_n 14 2 d_M_isCarriedBy_13 rfl rfl rfl ?_
      refine kJ_iload_n 15 3 d_M_isCarriedBy_14 rfl rfl rfl ?_
      refine kM_calls 18 m_M_has [.int x2, .int x3] [] d_M_isCarriedBy_15 cl_M_87 w_951 rfl rfl (Nat.le_of_ble_eq_true rfl) ⟨Nat.le_of_ble_eq_true rfl, Nat.le_of_ble_eq_true rfl⟩ ⟨rfl, rfl⟩ ⟨Nat.zero_le _, Nat.zero_le _⟩ (j_M_has hro rfl) rfl ?_
      refine kJ_if_eq 21 41 d_M_isCarriedBy_18 rfl rfl (fun hc => ?_) (fun hc => ?_)
      · have hf := kIf_f hf (kB2_0 hc)
        refine kJ_iinc 44 3 [(3, .int (x3 + 1)), (0, .ref 786), (1, .int x1), (2, .int x2)] d_M_isCarriedBy_41 rfl ki_1 (Nat.le_of_ble_eq_true rfl) rfl rfl ?_
        refine kJ_goto 2 d_M_isCarriedBy_44 rfl ?_
        refine kJ_sub [1, 2, 3, 0] rfl ?_
        exact hrec2 h (x3 + 1) hf
      · have hf := kIf_t hf (kB2_1 hc)
        refine kJ_aload_n 22 0 d_M_isCarriedBy_21 rfl rfl rfl rfl ?_
        refine kM_getR 25 0 787 d_M_isCarriedBy_22 l_M_7 km_786 rfl rfl rfl rfl ?_
        refine kJ_sipush 28 250 d_M_isCarriedBy_25 ks_250 rfl ?_
        refine kJ_iconst 29 3 d_M_isCarriedBy_28 ki_3 rfl ?_
        refine kJ_bipush 31 12 d_M_isCarriedBy_29 kb_12 rfl ?_
        refine kJ_iload_n 32 1 d_M_isCarriedBy_31 rfl rfl rfl ?_
        refine kJ_imul 33 d_M_isCarriedBy_32 rfl ?_
        refine kJ_iload_n 34 3 d_M_isCarriedBy_33 rfl rfl rfl ?_
        refine kJ_iadd 35 d_M_isCarriedBy_34 rfl ?_
        refine kJ_imul 36 d_M_isCarriedBy_35 rfl ?_
        refine kJ_iadd 37 d_M_isCarriedBy_36 rfl ?_
        refine kJ_iconst 38 1 d_M_isCarriedBy_37 ki_1 rfl ?_
        refine kJ_iadd 39 d_M_isCarriedBy_38 rfl ?_
        refine kJ_iconst 40 1 d_M_isCarriedBy_39 ki_1 rfl ?_
        obtain ⟨hg, hf⟩ := kG_some hf
        refine kM_iast 41 760 d_M_isCarriedBy_40 km_787 rfl hg rfl ?_
        obtain ⟨h5, eh5, hf⟩ := kLet_e hf
        rw [← eh5]
        refine kJ_iinc 44 3 [(3, .int (x3 + 1)), (0, .ref 786), (1, .int x1), (2, .int x2)] d_M_isCarriedBy_41 rfl ki_1 (Nat.le_of_ble_eq_true rfl) rfl rfl ?_
        refine kJ_goto 2 d_M_isCarriedBy_44 rfl ?_
        refine kJ_sub [1, 2, 3, 0] rfl ?_
        exact hrec2 h5 (x3 + 1) hf
def f_M_isCarriedBy (h : kH) (x1 : Int32) (x2 : Int32) : Option (Bool × kH) := b_M_isCarriedBy_2 x1 x2 kFuel h 0
theorem j_M_isCarriedBy {E : kE} {L : Nat} {xs : Nat → Int32} (hro : kRo E L xs) {h : kH} {x1 : Int32} {x2 : Int32} {r : Bool} {h' : kH} (hf : f_M_isCarriedBy h x1 x2 = some (r, h')) : JM E m_M_isCarriedBy [.ref 786, .int x1, .int x2] (mk h) (some (kB2 r)) (mk h') := by
  unfold f_M_isCarriedBy at hf
  refine JM.of pn_M (Nat.le_of_ble_eq_true rfl) ?_
  show kJ E m_M_isCarriedBy (some (kB2 r)) (mk h') 0 0 0 [(0, .ref 786), (1, .int x1), (2, .int x2)] [] (mk h)
  refine kJ_iconst 1 0 d_M_isCarriedBy_0 ki_0 rfl ?_
  refine kJ_istore_n 2 [(3, .int 0), (0, .ref 786), (1, .int x1), (2, .int x2)] d_M_isCarriedBy_1 rfl (Nat.le_of_ble_eq_true rfl) rfl rfl ?_
  refine kJ_sub [1, 2, 3, 0] rfl ?_
  exact c_M_isCarriedBy_2 hro kFuel h 0 hf
def b_M_needed_135 (rec95 : kH → Int32 → Int32 → Option (Int32 × kH)) (h : kH) (x1 : Int32) (x2 : Int32) (x3 : Int32) (x4 : Int32) (x5 : Int32) (s0 : Bool) : Option (Int32 × kH) := if s0 = true then (kBd (f_M_isCarriedBy h x1 x5) fun v5 h4 => if v5 = true then (rec95 h4 x5 (x5 + 1)) else (rec95 h4 x4 (x5 + 1))) else (rec95 h x4 (x5 + 1))
theorem c_M_needed_135 {E : kE} {L : Nat} {xs : Nat → Int32} (hro : kRo E L xs) {rec95 : kH → Int32 → Int32 → Option (Int32 × kH)} {h : kH} {x1 : Int32} {x2 : Int32} {x3 : Int32} {x4 : Int32} {x5 : Int32} {s0 : Bool} {r : Int32} {h' : kH} (hrec95 : ∀ (h : kH) (x4 : Int32) (x5 : Int32), rec95 h x4 x5 = some (r, h') → kJ E m_M_needed (some r) (mk h') 0 0 95 [(0, .ref 786), (1, .int x1), (2, .int x2), (3, .int x3), (4, .int x4), (5, .int x5)] [] (mk h)) (hf : b_M_needed_135 rec95 h x1 x2 x3 x4 x5 s0 = some (r, h')) : kJ E m_M_needed (some r) (mk h') 0 0 135 [(0, .ref 786), (1, .int x1), (2, .int x2), (3, .int x3), (4, .int x4), (5, .int x5)] [.int (kB2 s0)] (mk h) := by
  unfold b_M_needed_135 at hf
  refine kJ_istore 137 [(6, .int (kB2 s0)), (0, .ref 786), (1, .int x1), (2, .int x2), (3, .int x3), (4, .int x4), (5, .int x5)] d_M_needed_135 (Nat.le_of_ble_eq_true rfl) rfl rfl ?_
  refine kJ_iload 139 0 d_M_needed_137 rfl rfl ?_
  refine kJ_if_eq 142 157 d_M_needed_139 rfl rfl (fun hc => ?_) (fun hc => ?_)
  · have hf := kIf_f hf (kB2_0 hc)
    refine kJ_iload 159 5 d_M_needed_157 rfl rfl ?_
    refine kJ_istore 161 [(4, .int x4), (6, .int (kB2 s0)), (0, .ref 786), (1, .int x1), (2, .int x2), (3, .int x3), (5, .int x5)] d_M_needed_159 (Nat.le_of_ble_eq_true rfl) rfl rfl ?_
    refine kJ_iinc 164 6 [(5, .int (x5 + 1)), (4, .int x4), (6, .int (kB2 s0)), (0, .ref 786), (1, .int x1), (2, .int x2), (3, .int x3)] d_M_needed_161 rfl ki_1 (Nat.le_of_ble_eq_true rfl) rfl rfl ?_
    refine kJ_goto 95 d_M_needed_164 rfl ?_
    refine kJ_sub [3, 4, 5, 6, 1, 0] rfl ?_
    exact hrec95 h x4 (x5 + 1) hf
  · have hf := kIf_t hf (kB2_1 hc)
    refine kJ_aload_n 143 1 d_M_needed_142 rfl rfl rfl rfl ?_
    refine kJ_iload_n 144 2 d_M_needed_143 rfl rfl rfl ?_
    refine kJ_iload 146 6 d_M_needed_144 rfl rfl ?_
    obtain ⟨v5, h4, ev5, hf⟩ := kBd_some hf
    refine kM_callv 149 m_M_isCarriedBy [.int x1, .int x5] [] d_M_needed_146 cl_M_147 ⟨w_1067, w_91⟩ km_786 ⟨rfl, by decide⟩ ⟨_, _, rfl⟩ rfl rfl (Nat.le_of_ble_eq_true rfl) ⟨Nat.le_of_ble_eq_true rfl, Nat.le_of_ble_eq_true rfl⟩ ⟨rfl, rfl⟩ ⟨Nat.zero_le _, Nat.zero_le _⟩ (j_M_isCarriedBy hro ev5) rfl ?_
    refine kJ_if_eq 152 157 d_M_needed_149 rfl rfl (fun hc => ?_) (fun hc => ?_)
    · have hf := kIf_f hf (kB2_0 hc)
      refine kJ_iload 159 5 d_M_needed_157 rfl rfl ?_
      refine kJ_istore 161 [(4, .int x4), (6, .int (kB2 s0)), (0, .ref 786), (1, .int x1), (2, .int x2), (3, .int x3), (5, .int x5)] d_M_needed_159 (Nat.le_of_ble_eq_true rfl) rfl rfl ?_
      refine kJ_iinc 164 6 [(5, .int (x5 + 1)), (4, .int x4), (6, .int (kB2 s0)), (0, .ref 786), (1, .int x1), (2, .int x2), (3, .int x3)] d_M_needed_161 rfl ki_1 (Nat.le_of_ble_eq_true rfl) rfl rfl ?_
      refine kJ_goto 95 d_M_needed_164 rfl ?_
      refine kJ_sub [3, 4, 5, 6, 1, 0] rfl ?_
      exact hrec95 h4 x4 (x5 + 1) hf
    · have hf := kIf_t hf (kB2_1 hc)
      refine kJ_iload 154 6 d_M_needed_152 rfl rfl ?_
      refine kJ_goto 159 d_M_needed_154 rfl ?_
      refine kJ_istore 161 [(4, .int x5), (6, .int (kB2 s0)), (0, .ref 786), (1, .int x1), (2, .int x2), (3, .int x3), (5, .int x5)] d_M_needed_159 (Nat.le_of_ble_eq_true rfl) rfl rfl ?_
      refine kJ_iinc 164 6 [(5, .int (x5 + 1)), (4, .int x5), (6, .int (kB2 s0)), (0, .ref 786), (1, .int x1), (2, .int x2), (3, .int x3)] d_M_needed_161 rfl ki_1 (Nat.le_of_ble_eq_true rfl) rfl rfl ?_
      refine kJ_goto 95 d_M_needed_164 rfl ?_
      refine kJ_sub [3, 4, 5, 6, 1, 0] rfl ?_
      exact hrec95 h4 x5 (x5 + 1) hf
def b_M_needed_134 (rec95 : kH → Int32 → Int32 → Option (Int32 × kH)) (h : kH) (x1 : Int32) (x2 : Int32) (x3 : Int32) (x4 : Int32) (x5 : Int32) : Option (Int32 × kH) := b_M_needed_135 rec95 h x1 x2 x3 x4 x5 false
theorem c_M_needed_134 {E : kE} {L : Nat} {xs : Nat → Int32} (hro : kRo E L xs) {rec95 : kH → Int32 → Int32 → Option (Int32 × kH)} {h : kH} {x1 : Int32} {x2 : Int32} {x3 : Int32} {x4 : Int32} {x5 : Int32} {r : Int32} {h' : kH} (hrec95 : ∀ (h : kH) (x4 : Int32) (x5 : Int32), rec95 h x4 x5 = some (r, h') → kJ E m_M_needed (some r) (mk h') 0 0 95 [(0, .ref 786), (1, .int x1), (2, .int x2), (3, .int x3), (4, .int x4), (5, .int x5)] [] (mk h)) (hf : b_M_needed_134 rec95 h x1 x2 x3 x4 x5 = some (r, h')) : kJ E m_M_needed (some r) (mk h') 0 0 134 [(0, .ref 786), (1, .int x1), (2, .int x2), (3, .int x3), (4, .int x4), (5, .int x5)] [] (mk h) := by
  unfold b_M_needed_134 at hf
  refine kJ_iconst 135 0 d_M_needed_134 ki_0 rfl ?_
  refine kJ_sub [0, 1, 2, 3, 4, 5] rfl ?_
  exact c_M_needed_135 hro hrec95 hf
def b_M_needed_130 (rec95 : kH → Int32 → Int32 → Option (Int32 × kH)) (h : kH) (x1 : Int32) (x2 : Int32) (x3 : Int32) (x4 : Int32) (x5 : Int32) : Option (Int32 × kH) := b_M_needed_135 rec95 h x1 x2 x3 x4 x5 true
theorem c_M_needed_130 {E : kE} {L : Nat} {xs : Nat → Int32} (hro : kRo E L xs) {rec95 : kH → Int32 → Int32 → Option (Int32 × kH)} {h : kH} {x1 : Int32} {x2 : Int32} {x3 : Int32} {x4 : Int32} {x5 : Int32} {r : Int32} {h' : kH} (hrec95 : ∀ (h : kH) (x4 : Int32) (x5 : Int32), rec95 h x4 x5 = some (r, h') → kJ E m_M_needed (some r) (mk h') 0 0 95 [(0, .ref 786), (1, .int x1), (2, .int x2), (3, .int x3), (4, .int x4), (5, .int x5)] [] (mk h)) (hf : b_M_needed_130 rec95 h x1 x2 x3 x4 x5 = some (r, h')) : kJ E m_M_needed (some r) (mk h') 0 0 130 [(0, .ref 786), (1, .int x1), (2, .int x2), (3, .int x3), (4, .int x4), (5, .int x5)] [] (mk h) := by
  unfold b_M_needed_130 at hf
  refine kJ_iconst 131 1 d_M_needed_130 ki_1 rfl ?_
  refine kJ_goto 135 d_M_needed_131 rfl ?_
  refine kJ_sub [0, 1, 2, 3, 4, 5] rfl ?_
  exact c_M_needed_135 hro hrec95 hf
def b_M_needed_95 (x1 : Int32) (x2 : Int32) (x3 : Int32) : Nat → kH → Int32 → Int32 → Option (Int32 × kH)
  | 0, _, _, _ => none
  | n + 1, h, x4, x5 => (fun rec95 => if 4096 ≤ x5 then (if x4 < 0 then (some (x4, h)) else (if x2 = 1 then (some (x4, h)) else (kBi (f_M_bits x4) fun v3 => some (v3, h)))) else (if (x5 &&& (x3 ^^^ (-1))) = 0 then (if x4 < 0 then (b_M_needed_130 rec95 h x1 x2 x3 x4 x5) else (kBi (f_M_bits x5) fun v6 => kBi (f_M_bits x4) fun v7 => if v7 ≤ v6 then (b_M_needed_134 rec95 h x1 x2 x3 x4 x5) else (b_M_needed_130 rec95 h x1 x2 x3 x4 x5))) else (b_M_needed_134 rec95 h x1 x2 x3 x4 x5))) (fun h' x4' x5' => b_M_needed_95 x1 x2 x3 n h' x4' x5')
theorem c_M_needed_95 {E : kE} {L : Nat} {xs : Nat → Int32} (hro : kRo E L xs) {x1 : Int32} {x2 : Int32} {x3 : Int32} {r : Int32} {h' : kH} : ∀ (n : Nat) (h : kH) (x4 : Int32) (x5 : Int32), b_M_needed_95 x1 x2 x3 n h x4 x5 = some (r, h') → kJ E m_M_needed (some r) (mk h') 0 0 95 [(0, .ref 786), (1, .int x1), (2, .int x2), (3, .int x3), (4, .int x4), (5, .int x5)] [] (mk h) := by
  intro n
  induction n with
  | zero =>
    intro h x4 x5 hf
    have hf : (none : Option (Int32 × kH)) = some (r, h') := hf
    cases hf
  | succ n hrec95 =>
    intro h x4 x5 hf
    rw [b_M_needed_95] at hf
    dsimp only at hf
    refine kJ_iload 97 5 d_M_needed_95 rfl rfl ?_
    refine kJ_sipush 100 4096 d_M_needed_97 ks_4096 rfl ?_
    refine kJ_icmp_ge 103 167 d_M_needed_100 rfl rfl (fun hc => ?_) (fun hc => ?_)
    · have hf := kIf_t hf hc
      refine kJ_iload 169 4 d_M_needed_167 rfl rfl ?_
      refine kJ_if_lt 172 177 d_M_needed_169 rfl rfl (fun hc => ?_) (fun hc => ?_)
      · have hf := kIf_t hf hc
        refine kJ_iload 179 4 d_M_needed_177 rfl rfl ?_
        refine kJ_goto 187 d_M_needed_179 rfl ?_
        cases hf
        exact kJ_iret d_M_needed_187 rfl rfl (Nat.zero_le _) (Nat.zero_le _)
      · have hf := kIf_f hf hc
        refine kJ_iload_n 173 2 d_M_needed_172 rfl rfl rfl ?_
        refine kJ_iconst 174 1 d_M_needed_173 ki_1 rfl ?_
        refine kJ_icmp_ne 177 182 d_M_needed_174 rfl rfl (fun hc => ?_) (fun hc => ?_)
        · have hf := kIf_f hf hc
          refine kJ_iload 184 4 d_M_needed_182 rfl rfl ?_
          obtain ⟨v3, ev3, hf⟩ := kBi_some hf
          refine kM_calls 187 m_M_bits [.int x4] [] d_M_needed_184 cl_M_71 w_912 rfl rfl (Nat.le_of_ble_eq_true rfl) ⟨Nat.le_of_ble_eq_true rfl, Nat.le_of_ble_eq_true rfl⟩ ⟨rfl, rfl⟩ ⟨Nat.zero_le _, Nat.zero_le _⟩ (j_M_bits hro ev3) rfl ?_
          cases hf
          exact kJ_iret d_M_needed_187 rfl rfl (Nat.zero_le _) (Nat.zero_le _)
        · have hf := kIf_t hf hc
          refine kJ_iload 179 4 d_M_needed_177 rfl rfl ?_
          refine kJ_goto 187 d_M_needed_179 rfl ?_
          cases hf
          exact kJ_iret d_M_needed_187 rfl rfl (Nat.zero_le _) (Nat.zero_le _)
    · have hf := kIf_f hf hc
      refine kJ_iload 105 5 d_M_needed_103 rfl rfl ?_
      refine kJ_iload_n 106 3 d_M_needed_105 rfl rfl rfl ?_
      refine kJ_iconst 107 (-1) d_M_needed_106 ki_m1 rfl ?_
      refine kJ_ixor 108 d_M_needed_107 rfl ?_
      refine kJ_iand 109 d_M_needed_108 rfl ?_
      refine kJ_if_ne 112 134 d_M_needed_109 rfl rfl (fun hc => ?_) (fun hc => ?_)
      · have hf := kIf_f hf hc
        refine kJ_sub [0, 1, 2, 3, 4, 5] rfl ?_
        exact c_M_needed_134 hro hrec95 hf
      · have hf := kIf_t hf hc
        refine kJ_iload 114 4 d_M_needed_112 rfl rfl ?_
        refine kJ_if_lt 117 130 d_M_needed_114 rfl rfl (fun hc => ?_) (fun hc => ?_)
        · have hf := kIf_t hf hc
          refine kJ_sub [0, 1, 2, 3, 4, 5] rfl ?_
          exact c_M_needed_130 hro hrec95 hf
        · have hf := kIf_f hf hc
          refine kJ_iload 119 5 d_M_needed_117 rfl rfl ?_
          obtain ⟨v6, ev6, hf⟩ := kBi_some hf
          refine kM_calls 122 m_M_bits [.int x5] [] d_M_needed_119 cl_M_71 w_912 rfl rfl (Nat.le_of_ble_eq_true rfl) ⟨Nat.le_of_ble_eq_true rfl, Nat.le_of_ble_eq_true rfl⟩ ⟨rfl, rfl⟩ ⟨Nat.zero_le _, Nat.zero_le _⟩ (j_M_bits hro ev6) rfl ?_
          refine kJ_iload 124 4 d_M_needed_122 rfl rfl ?_
          obtain ⟨v7, ev7, hf⟩ := kBi_some hf
          refine kM_calls 127 m_M_bits [.int x4] [.int v6] d_M_needed_124 cl_M_71 w_912 rfl rfl (Nat.le_of_ble_eq_true rfl) ⟨Nat.le_of_ble_eq_true rfl, Nat.le_of_ble_eq_true rfl⟩ ⟨rfl, rfl⟩ ⟨Nat.zero_le _, Nat.zero_le _⟩ (j_M_bits hro ev7) rfl ?_
          refine kJ_icmp_ge 130 134 d_M_needed_127 rfl rfl (fun hc => ?_) (fun hc => ?_)
          · have hf := kIf_t hf hc
            refine kJ_sub [0, 1, 2, 3, 4, 5] rfl ?_
            exact c_M_needed_134 hro hrec95 hf
          · have hf := kIf_f hf hc
            refine kJ_sub [0, 1, 2, 3, 4, 5] rfl ?_
            exact c_M_needed_130 hro hrec95 hf
def b_M_needed_38 (x1 : Int32) (x2 : Int32) : Nat → kH → Int32 → Int32 → Option (Int32 × kH)
  | 0, _, _, _ => none
  | n + 1, h, x3, x4 => (fun rec38 => kG 7 760 (if (h 787 (kx 7)) ≤ x4 then (b_M_needed_95 x1 x2 x3 kFuel h (-6) 0) else (kBi (f_M_canVote h x4 x1) fun v8 => if v8 = true then (kBi (f_M_pair h x1 x4 1) fun v9 => if 0 ≤ v9 then (rec38 h (x3 ||| 0) (x4 + 1)) else (kLet (x3 ||| (1 <<< (x4 &&& 31))) fun v10 => rec38 h v10 (x4 + 1))) else (rec38 h (x3 ||| 0) (x4 + 1))))) (fun h' x3' x4' => b_M_needed_38 x1 x2 n h' x3' x4')
theorem c_M_needed_38 {E : kE} {L : Nat} {xs : Nat → Int32} (hro : kRo E L xs) {x1 : Int32} {x2 : Int32} {r : Int32} {h' : kH} : ∀ (n : Nat) (h : kH) (x3 : Int32) (x4 : Int32), b_M_needed_38 x1 x2 n h x3 x4 = some (r, h') → kJ E m_M_needed (some r) (mk h') 0 0 38 [(0, .ref 786), (1, .int x1), (2, .int x2), (3, .int x3), (4, .int x4)] [] (mk h) := by
  intro n
  induction n with
  | zero =>
    intro h x3 x4 hf
    have hf : (none : Option (Int32 × kH)) = some (r, h') := hf
    cases hf
  | succ n hrec38 =>
    intro h x3 x4 hf
    rw [b_M_needed_38] at hf
    dsimp only at hf
    refine kJ_iload 40 4 d_M_needed_38 rfl rfl ?_
    refine kJ_aload_n 41 0 d_M_needed_40 rfl rfl rfl rfl ?_
    refine kM_getR 44 0 787 d_M_needed_41 l_M_7 km_786 rfl rfl rfl rfl ?_
    refine kJ_bipush 46 7 d_M_needed_44 kb_7 rfl ?_
    obtain ⟨hg, hf⟩ := kG_some hf
    refine kM_iald 47 760 d_M_needed_46 km_787 rfl hg rfl ?_
    refine kJ_icmp_ge 50 88 d_M_needed_47 rfl rfl (fun hc => ?_) (fun hc => ?_)
    · have hf := kIf_t hf hc
      refine kJ_bipush 90 (-6) d_M_needed_88 kb_m6 rfl ?_
      refine kJ_istore 92 [(4, .int (-6)), (0, .ref 786), (1, .int x1), (2, .int x2), (3, .int x3)] d_M_needed_90 (Nat.le_of_ble_eq_true rfl) rfl rfl ?_
      refine kJ_iconst 93 0 d_M_needed_92 ki_0 rfl ?_
      refine kJ_istore 95 [(5, .int 0), (4, .int (-6)), (0, .ref 786), (1, .int x1), (2, .int x2), (3, .int x3)] d_M_needed_93 (Nat.le_of_ble_eq_true rfl) rfl rfl ?_
      refine kJ_sub [2, 3, 4, 5, 1, 0] rfl ?_
      exact c_M_needed_95 hro kFuel h (-6) 0 hf
    · have hf := kIf_f hf hc
      refine kJ_iload_n 51 3 d_M_needed_50 rfl rfl rfl ?_
      refine kJ_aload_n 52 0 d_M_needed_51 rfl rfl rfl rfl ?_
      refine kJ_iload 54 4 d_M_needed_52 rfl rfl ?_
      refine kJ_iload_n 55 1 d_M_needed_54 rfl rfl rfl ?_
      obtain ⟨v8, ev8, hf⟩ := kBi_some hf
      refine kM_callv 58 m_M_canVote [.int x4, .int x1] [.int x3] d_M_needed_55 cl_M_144 ⟨w_1059, w_90⟩ km_786 ⟨rfl, by decide⟩ ⟨_, _, rfl⟩ rfl rfl (Nat.le_of_ble_eq_true rfl) ⟨Nat.le_of_ble_eq_true rfl, Nat.le_of_ble_eq_true rfl⟩ ⟨rfl, rfl⟩ ⟨Nat.zero_le _, Nat.zero_le _⟩ (j_M_canVote hro ev8) rfl ?_
      refine kJ_if_eq 61 79 d_M_needed_58 rfl rfl (fun hc => ?_) (fun hc => ?_)
      · have hf := kIf_f hf (kB2_0 hc)
        refine kJ_iconst 80 0 d_M_needed_79 ki_0 rfl ?_
        refine kJ_ior 81 d_M_needed_80 rfl ?_
        refine kJ_istore_n 82 [(3, .int (x3 ||| 0)), (0, .ref 786), (1, .int x1), (2, .int x2), (4, .int x4)] d_M_needed_81 rfl (Nat.le_of_ble_eq_true rfl) rfl rfl ?_
        refine kJ_iinc 85 4 [(4, .int (x4 + 1)), (3, .int (x3 ||| 0)), (0, .ref 786), (1, .int x1), (2, .int x2)] d_M_needed_82 rfl ki_1 (Nat.le_of_ble_eq_true rfl) rfl rfl ?_
        refine kJ_goto 38 d_M_needed_85 rfl ?_
        refine kJ_sub [2, 3, 4, 1, 0] rfl ?_
        exact hrec38 h (x3 ||| 0) (x4 + 1) hf
      · have hf := kIf_t hf (kB2_1 hc)
        refine kJ_aload_n 62 0 d_M_needed_61 rfl rfl rfl rfl ?_
        refine kJ_iload_n 63 1 d_M_needed_62 rfl rfl rfl ?_
        refine kJ_iload 65 4 d_M_needed_63 rfl rfl ?_
        refine kJ_iconst 66 1 d_M_needed_65 ki_1 rfl ?_
        obtain ⟨v9, ev9, hf⟩ := kBi_some hf
        refine kM_callv 69 m_M_pair [.int x1, .int x4, .int 1] [.int x3] d_M_needed_66 cl_M_94 ⟨w_983, w_81⟩ km_786 ⟨rfl, by decide⟩ ⟨_, _, rfl⟩ rfl rfl (Nat.le_of_ble_eq_true rfl) ⟨Nat.le_of_ble_eq_true rfl, Nat.le_of_ble_eq_true rfl⟩ ⟨rfl, rfl⟩ ⟨Nat.zero_le _, Nat.zero_le _⟩ (j_M_pair hro ev9) rfl ?_
        refine kJ_if_ge 72 79 d_M_needed_69 rfl rfl (fun hc => ?_) (fun hc => ?_)
        · have hf := kIf_t hf hc
          refine kJ_iconst 80 0 d_M_needed_79 ki_0 rfl ?_
          refine kJ_ior 81 d_M_needed_80 rfl ?_
          refine kJ_istore_n 82 [(3, .int (x3 ||| 0)), (0, .ref 786), (1, .int x1), (2, .int x2), (4, .int x4)] d_M_needed_81 rfl (Nat.le_of_ble_eq_true rfl) rfl rfl ?_
          refine kJ_iinc 85 4 [(4, .int (x4 + 1)), (3, .int (x3 ||| 0)), (0, .ref 786), (1, .int x1), (2, .int x2)] d_M_needed_82 rfl ki_1 (Nat.le_of_ble_eq_true rfl) rfl rfl ?_
          refine kJ_goto 38 d_M_needed_85 rfl ?_
          refine kJ_sub [2, 3, 4, 1, 0] rfl ?_
          exact hrec38 h (x3 ||| 0) (x4 + 1) hf
        · have hf := kIf_f hf hc
          refine kJ_iconst 73 1 d_M_needed_72 ki_1 rfl ?_
          refine kJ_iload 75 4 d_M_needed_73 rfl rfl ?_
          refine kJ_ishl 76 d_M_needed_75 rfl ?_
          refine kJ_goto 80 d_M_needed_76 rfl ?_
          refine kJ_ior 81 d_M_needed_80 rfl ?_
          obtain ⟨v10, ev10, hf⟩ := kLet_e hf
          rw [← ev10]
          refine kJ_istore_n 82 [(3, .int v10), (0, .ref 786), (1, .int x1), (2, .int x2), (4, .int x4)] d_M_needed_81 rfl (Nat.le_of_ble_eq_true rfl) rfl rfl ?_
          refine kJ_iinc 85 4 [(4, .int (x4 + 1)), (3, .int v10), (0, .ref 786), (1, .int x1), (2, .int x2)] d_M_needed_82 rfl ki_1 (Nat.le_of_ble_eq_true rfl) rfl rfl ?_
          refine kJ_goto 38 d_M_needed_85 rfl ?_
          refine kJ_sub [2, 3, 4, 1, 0] rfl ?_
          exact hrec38 h v10 (x4 + 1) hf
def f_M_needed (h : kH) (x1 : Int32) (x2 : Int32) : Option (Int32 × kH) := kBi (f_M_isItem h x1) fun v1 => if v1 = true then (if (f_M_in x2 0 1) = true then (kBi (f_M_isAhead h x1) fun v2 => if v2 = true then (b_M_needed_38 x1 x2 kFuel h 0 0) else (some ((-5), h))) else (some ((-2), h))) else (some ((-1), h))
theorem j_M_needed {E : kE} {L : Nat} {xs : Nat → Int32} (hro : kRo E L xs) {h : kH} {x1 : Int32} {x2 : Int32} {r : Int32} {h' : kH} (hf : f_M_needed h x1 x2 = some (r, h')) : JM E m_M_needed [.ref 786, .int x1, .int x2] (mk h) (some r) (mk h') := by
  unfold f_M_needed at hf
  refine JM.of pn_M (Nat.le_of_ble_eq_true rfl) ?_
  show kJ E m_M_needed (some r) (mk h') 0 0 0 [(0, .ref 786), (1, .int x1), (2, .int x2)] [] (mk h)
  refine kJ_aload_n 1 0 d_M_needed_0 rfl rfl rfl rfl ?_
  refine kJ_iload_n 2 1 d_M_needed_1 rfl rfl rfl ?_
  obtain ⟨v1, ev1, hf⟩ := kBi_some hf
  refine kM_callv 5 m_M_isItem [.int x1] [] d_M_needed_2 cl_M_78 ⟨w_928, w_71⟩ km_786 ⟨rfl, by decide⟩ ⟨_, _, rfl⟩ rfl rfl (Nat.le_of_ble_eq_true rfl) ⟨Nat.le_of_ble_eq_true rfl, Nat.le_of_ble_eq_true rfl⟩ ⟨rfl, rfl⟩ ⟨Nat.zero_le _, Nat.zero_le _⟩ (j_M_isItem hro ev1) rfl ?_
  refine kJ_if_ne 8 10 d_M_needed_5 rfl rfl (fun hc => ?_) (fun hc => ?_)
  · have hf := kIf_t hf (kB2_1 hc)
    refine kJ_iload_n 11 2 d_M_needed_10 rfl rfl rfl ?_
    refine kJ_iconst 12 0 d_M_needed_11 ki_0 rfl ?_
    refine kJ_iconst 13 1 d_M_needed_12 ki_1 rfl ?_
    refine kM_calls 16 m_M_in [.int x2, .int 0, .int 1] [] d_M_needed_13 cl_M_49 w_869 rfl rfl (Nat.le_of_ble_eq_true rfl) ⟨Nat.le_of_ble_eq_true rfl, Nat.le_of_ble_eq_true rfl⟩ ⟨rfl, rfl⟩ ⟨Nat.zero_le _, Nat.zero_le _⟩ (j_M_in hro rfl) rfl ?_
    refine kJ_if_ne 19 22 d_M_needed_16 rfl rfl (fun hc => ?_) (fun hc => ?_)
    · have hf := kIf_t hf (kB2_1 hc)
      refine kJ_aload_n 23 0 d_M_needed_22 rfl rfl rfl rfl ?_
      refine kJ_iload_n 24 1 d_M_needed_23 rfl rfl rfl ?_
      obtain ⟨v2, ev2, hf⟩ := kBi_some hf
      refine kM_callv 27 m_M_isAhead [.int x1] [] d_M_needed_24 cl_M_84 ⟨w_936, w_72⟩ km_786 ⟨rfl, by decide⟩ ⟨_, _, rfl⟩ rfl rfl (Nat.le_of_ble_eq_true rfl) ⟨Nat.le_of_ble_eq_true rfl, Nat.le_of_ble_eq_true rfl⟩ ⟨rfl, rfl⟩ ⟨Nat.zero_le _, Nat.zero_le _⟩ (j_M_isAhead hro ev2) rfl ?_
      refine kJ_if_ne 30 33 d_M_needed_27 rfl rfl (fun hc => ?_) (fun hc => ?_)
      · have hf := kIf_t hf (kB2_1 hc)
        refine kJ_iconst 34 0 d_M_needed_33 ki_0 rfl ?_
        refine kJ_istore_n 35 [(3, .int 0), (0, .ref 786), (1, .int x1), (2, .int x2)] d_M_needed_34 rfl (Nat.le_of_ble_eq_true rfl) rfl rfl ?_
        refine kJ_iconst 36 0 d_M_needed_35 ki_0 rfl ?_
        refine kJ_istore 38 [(4, .int 0), (3, .int 0), (0, .ref 786), (1, .int x1), (2, .int x2)] d_M_needed_36 (Nat.le_of_ble_eq_true rfl) rfl rfl ?_
        refine kJ_sub [2, 3, 4, 1, 0] rfl ?_
        exact c_M_needed_38 hro kFuel h 0 0 hf
      · have hf := kIf_f hf (kB2_0 hc)
        refine kJ_bipush 32 (-5) d_M_needed_30 kb_m5 rfl ?_
        cases hf
        exact kJ_iret d_M_needed_32 rfl rfl (Nat.zero_le _) (Nat.zero_le _)
    · have hf := kIf_f hf (kB2_0 hc)
      refine kJ_bipush 21 (-2) d_M_needed_19 kb_m2 rfl ?_
      cases hf
      exact kJ_iret d_M_needed_21 rfl rfl (Nat.zero_le _) (Nat.zero_le _)
  · have hf := kIf_f hf (kB2_0 hc)
    refine kJ_iconst 9 (-1) d_M_needed_8 ki_m1 rfl ?_
    cases hf
    exact kJ_iret d_M_needed_9 rfl rfl (Nat.zero_le _) (Nat.zero_le _)
def b_M_power_40 (rec20 : Int32 → Int32 → Option Int32) (h : kH) (x1 : Int32) (x2 : Int32) (x3 : Int32) (x4 : Int32) : Nat → Int32 → Int32 → Option Int32
  | 0, _, _ => none
  | n + 1, x5, x6 => (fun rec40 => kG 7 760 (if (h 787 (kx 7)) ≤ x6 then (if (f_M_has x4 x1) = true then (rec20 (x3 + 0) (x4 + 1)) else (if x2 < (2 * x5) then (rec20 (x3 + 0) (x4 + 1)) else (kBi (f_M_ofOne h x1 0) fun v3 => if (2 * (x5 + v3)) ≤ x2 then (rec20 (x3 + 0) (x4 + 1)) else (rec20 (x3 + 1) (x4 + 1))))) else (if (f_M_has x4 x6) = true then (kBi (f_M_ofOne h x6 0) fun v4 => rec40 (x5 + v4) (x6 + 1)) else (rec40 (x5 + 0) (x6 + 1))))) (fun x5' x6' => b_M_power_40 rec20 h x1 x2 x3 x4 n x5' x6')
theorem c_M_power_40 {E : kE} {L : Nat} {xs : Nat → Int32} (hro : kRo E L xs) {rec20 : Int32 → Int32 → Option Int32} {h : kH} {x1 : Int32} {x2 : Int32} {x3 : Int32} {x4 : Int32} {r : Int32} (hrec20 : ∀ (x3 : Int32) (x4 : Int32), rec20 x3 x4 = some r → kJ E m_M_power (some r) (mk h) 0 0 20 [(0, .ref 786), (1, .int x1), (2, .int x2), (3, .int x3), (4, .int x4)] [] (mk h)) : ∀ (n : Nat) (x5 : Int32) (x6 : Int32), b_M_power_40 rec20 h x1 x2 x3 x4 n x5 x6 = some r → kJ E m_M_power (some r) (mk h) 0 0 40 [(0, .ref 786), (1, .int x1), (2, .int x2), (3, .int x3), (4, .int x4), (5, .int x5), (6, .int x6)] [] (mk h) := by
  intro n
  induction n with
  | zero =>
    intro x5 x6 hf
    have hf : (none : Option Int32) = some r := hf
    cases hf
  | succ n hrec40 =>
    intro x5 x6 hf
    rw [b_M_power_40] at hf
    dsimp only at hf
    refine kJ_iload 42 6 d_M_power_40 rfl rfl ?_
    refine kJ_aload_n 43 0 d_M_power_42 rfl rfl rfl rfl ?_
    refine kM_getR 46 0 787 d_M_power_43 l_M_7 km_786 rfl rfl rfl rfl ?_
    refine kJ_bipush 48 7 d_M_power_46 kb_7 rfl ?_
    obtain ⟨hg, hf⟩ := kG_some hf
    refine kM_iald 49 760 d_M_power_48 km_787 rfl hg rfl ?_
    refine kJ_icmp_ge 52 84 d_M_power_49 rfl rfl (fun hc => ?_) (fun hc => ?_)
    · have hf := kIf_t hf hc
      refine kJ_iload_n 85 3 d_M_power_84 rfl rfl rfl ?_
      refine kJ_iload 87 4 d_M_power_85 rfl rfl ?_
      refine kJ_iload_n 88 1 d_M_power_87 rfl rfl rfl ?_
      refine kM_calls 91 m_M_has [.int x4, .int x1] [.int x3] d_M_power_88 cl_M_87 w_951 rfl rfl (Nat.le_of_ble_eq_true rfl) ⟨Nat.le_of_ble_eq_true rfl, Nat.le_of_ble_eq_true rfl⟩ ⟨rfl, rfl⟩ ⟨Nat.zero_le _, Nat.zero_le _⟩ (j_M_has hro rfl) rfl ?_
      refine kJ_if_ne 94 121 d_M_power_91 rfl rfl (fun hc => ?_) (fun hc => ?_)
      · have hf := kIf_t hf (kB2_1 hc)
        refine kJ_iconst 122 0 d_M_power_121 ki_0 rfl ?_
        refine kJ_iadd 123 d_M_power_122 rfl ?_
        refine kJ_istore_n 124 [(3, .int (x3 + 0)), (0, .ref 786), (1, .int x1), (2, .int x2), (4, .int x4), (5, .int x5), (6, .int x6)] d_M_power_123 rfl (Nat.le_of_ble_eq_true rfl) rfl rfl ?_
        refine kJ_iinc 127 4 [(4, .int (x4 + 1)), (3, .int (x3 + 0)), (0, .ref 786), (1, .int x1), (2, .int x2), (5, .int x5), (6, .int x6)] d_M_power_124 rfl ki_1 (Nat.le_of_ble_eq_true rfl) rfl rfl ?_
        refine kJ_goto 20 d_M_power_127 rfl ?_
        refine kJ_sub [2, 3, 4, 1, 0] rfl ?_
        exact hrec20 (x3 + 0) (x4 + 1) hf
      · have hf := kIf_f hf (kB2_0 hc)
        refine kJ_iconst 95 2 d_M_power_94 ki_2 rfl ?_
        refine kJ_iload 97 5 d_M_power_95 rfl rfl ?_
        refine kJ_imul 98 d_M_power_97 rfl ?_
        refine kJ_iload_n 99 2 d_M_power_98 rfl rfl rfl ?_
        refine kJ_icmp_gt 102 121 d_M_power_99 rfl rfl (fun hc => ?_) (fun hc => ?_)
        · have hf := kIf_t hf hc
          refine kJ_iconst 122 0 d_M_power_121 ki_0 rfl ?_
          refine kJ_iadd 123 d_M_power_122 rfl ?_
          refine kJ_istore_n 124 [(3, .int (x3 + 0)), (0, .ref 786), (1, .int x1), (2, .int x2), (4, .int x4), (5, .int x5), (6, .int x6)] d_M_power_123 rfl (Nat.le_of_ble_eq_true rfl) rfl rfl ?_
          refine kJ_iinc 127 4 [(4, .int (x4 + 1)), (3, .int (x3 + 0)), (0, .ref 786), (1, .int x1), (2, .int x2), (5, .int x5), (6, .int x6)] d_M_power_124 rfl ki_1 (Nat.le_of_ble_eq_true rfl) rfl rfl ?_
          refine kJ_goto 20 d_M_power_127 rfl ?_
          refine kJ_sub [2, 3, 4, 1, 0] rfl ?_
          exact hrec20 (x3 + 0) (x4 + 1) hf
        · have hf := kIf_f hf hc
          refine kJ_iconst 103 2 d_M_power_102 ki_2 rfl ?_
          refine kJ_iload 105 5 d_M_power_103 rfl rfl ?_
          refine kJ_aload_n 106 0 d_M_power_105 rfl rfl rfl rfl ?_
          refine kJ_iload_n 107 1 d_M_power_106 rfl rfl rfl ?_
          refine kJ_iconst 108 0 d_M_power_107 ki_0 rfl ?_
          obtain ⟨v3, ev3, hf⟩ := kBi_some hf
          refine kM_callv 111 m_M_ofOne [.int x1, .int 0] [.int x5, .int 2, .int x3] d_M_power_108 cl_M_60 ⟨w_901, w_68⟩ km_786 ⟨rfl, by decide⟩ ⟨_, _, rfl⟩ rfl rfl (Nat.le_of_ble_eq_true rfl) ⟨Nat.le_of_ble_eq_true rfl, Nat.le_of_ble_eq_true rfl⟩ ⟨rfl, rfl⟩ ⟨Nat.zero_le _, Nat.zero_le _⟩ (j_M_ofOne hro ev3) rfl ?_
          refine kJ_iadd 112 d_M_power_111 rfl ?_
          refine kJ_imul 113 d_M_power_112 rfl ?_
          refine kJ_iload_n 114 2 d_M_power_113 rfl rfl rfl ?_
          refine kJ_icmp_le 117 121 d_M_power_114 rfl rfl (fun hc => ?_) (fun hc => ?_)
          · have hf := kIf_t hf hc
            refine kJ_iconst 122 0 d_M_power_121 ki_0 rfl ?_
            refine kJ_iadd 123 d_M_power_122 rfl ?_
            refine kJ_istore_n 124 [(3, .int (x3 + 0)), (0, .ref 786), (1, .int x1), (2, .int x2), (4, .int x4), (5, .int x5), (6, .int x6)] d_M_power_123 rfl (Nat.le_of_ble_eq_true rfl) rfl rfl ?_
            refine kJ_iinc 127 4 [(4, .int (x4 + 1)), (3, .int (x3 + 0)), (0, .ref 786), (1, .int x1), (2, .int x2), (5, .int x5), (6, .int x6)] d_M_power_124 rfl ki_1 (Nat.le_of_ble_eq_true rfl) rfl rfl ?_
            refine kJ_goto 20 d_M_power_127 rfl ?_
            refine kJ_sub [2, 3, 4, 1, 0] rfl ?_
            exact hrec20 (x3 + 0) (x4 + 1) hf
          · have hf := kIf_f hf hc
            refine kJ_iconst 118 1 d_M_power_117 ki_1 rfl ?_
            refine kJ_goto 122 d_M_power_118 rfl ?_
            refine kJ_iadd 123 d_M_power_122 rfl ?_
            refine kJ_istore_n 124 [(3, .int (x3 + 1)), (0, .ref 786), (1, .int x1), (2, .int x2), (4, .int x4), (5, .int x5), (6, .int x6)] d_M_power_123 rfl (Nat.le_of_ble_eq_true rfl) rfl rfl ?_
            refine kJ_iinc 127 4 [(4, .int (x4 + 1)), (3, .int (x3 + 1)), (0, .ref 786), (1, .int x1), (2, .int x2), (5, .int x5), (6, .int x6)] d_M_power_124 rfl ki_1 (Nat.le_of_ble_eq_true rfl) rfl rfl ?_
            refine kJ_goto 20 d_M_power_127 rfl ?_
            refine kJ_sub [2, 3, 4, 1, 0] rfl ?_
            exact hrec20 (x3 + 1) (x4 + 1) hf
    · have hf := kIf_f hf hc
      refine kJ_iload 54 5 d_M_power_52 rfl rfl ?_
      refine kJ_iload 56 4 d_M_power_54 rfl rfl ?_
      refine kJ_iload 58 6 d_M_power_56 rfl rfl ?_
      refine kM_calls 61 m_M_has [.int x4, .int x6] [.int x5] d_M_power_58 cl_M_87 w_951 rfl rfl (Nat.le_of_ble_eq_true rfl) ⟨Nat.le_of_ble_eq_true rfl, Nat.le_of_ble_eq_true rfl⟩ ⟨rfl, rfl⟩ ⟨Nat.zero_le _, Nat.zero_le _⟩ (j_M_has hro rfl) rfl ?_
      refine kJ_if_eq 64 74 d_M_power_61 rfl rfl (fun hc => ?_) (fun hc => ?_)
      · have hf := kIf_f hf (kB2_0 hc)
        refine kJ_iconst 75 0 d_M_power_74 ki_0 rfl ?_
        refine kJ_iadd 76 d_M_power_75 rfl ?_
        refine kJ_istore 78 [(5, .int (x5 + 0)), (0, .ref 786), (1, .int x1), (2, .int x2), (3, .int x3), (4, .int x4), (6, .int x6)] d_M_power_76 (Nat.le_of_ble_eq_true rfl) rfl rfl ?_
        refine kJ_iinc 81 6 [(6, .int (x6 + 1)), (5, .int (x5 + 0)), (0, .ref 786), (1, .int x1), (2, .int x2), (3, .int x3), (4, .int x4)] d_M_power_78 rfl ki_1 (Nat.le_of_ble_eq_true rfl) rfl rfl ?_
        refine kJ_goto 40 d_M_power_81 rfl ?_
        refine kJ_sub [2, 3, 4, 5, 6, 1, 0] rfl ?_
        exact hrec40 (x5 + 0) (x6 + 1) hf
      · have hf := kIf_t hf (kB2_1 hc)
        refine kJ_aload_n 65 0 d_M_power_64 rfl rfl rfl rfl ?_
        refine kJ_iload 67 6 d_M_power_65 rfl rfl ?_
        refine kJ_iconst 68 0 d_M_power_67 ki_0 rfl ?_
        obtain ⟨v4, ev4, hf⟩ := kBi_some hf
        refine kM_callv 71 m_M_ofOne [.int x6, .int 0] [.int x5] d_M_power_68 cl_M_60 ⟨w_901, w_68⟩ km_786 ⟨rfl, by decide⟩ ⟨_, _, rfl⟩ rfl rfl (Nat.le_of_ble_eq_true rfl) ⟨Nat.le_of_ble_eq_true rfl, Nat.le_of_ble_eq_true rfl⟩ ⟨rfl, rfl⟩ ⟨Nat.zero_le _, Nat.zero_le _⟩ (j_M_ofOne hro ev4) rfl ?_
        refine kJ_goto 75 d_M_power_71 rfl ?_
        refine kJ_iadd 76 d_M_power_75 rfl ?_
        refine kJ_istore 78 [(5, .int (x5 + v4)), (0, .ref 786), (1, .int x1), (2, .int x2), (3, .int x3), (4, .int x4), (6, .int x6)] d_M_power_76 (Nat.le_of_ble_eq_true rfl) rfl rfl ?_
        refine kJ_iinc 81 6 [(6, .int (x6 + 1)), (5, .int (x5 + v4)), (0, .ref 786), (1, .int x1), (2, .int x2), (3, .int x3), (4, .int x4)] d_M_power_78 rfl ki_1 (Nat.le_of_ble_eq_true rfl) rfl rfl ?_
        refine kJ_goto 40 d_M_power_81 rfl ?_
        refine kJ_sub [2, 3, 4, 5, 6, 1, 0] rfl ?_
        exact hrec40 (x5 + v4) (x6 + 1) hf
def b_M_power_20 (h : kH) (x1 : Int32) (x2 : Int32) : Nat → Int32 → Int32 → Option Int32
  | 0, _, _ => none
  | n + 1, x3, x4 => (fun rec20 => kG 7 760 (if (1 <<< ((h 787 (kx 7)) &&& 31)) ≤ x4 then (some x3) else (b_M_power_40 rec20 h x1 x2 x3 x4 kFuel 0 0))) (fun x3' x4' => b_M_power_20 h x1 x2 n x3' x4')
theorem c_M_power_20 {E : kE} {L : Nat} {xs : Nat → Int32} (hro : kRo E L xs) {h : kH} {x1 : Int32} {x2 : Int32} {r : Int32} : ∀ (n : Nat) (x3 : Int32) (x4 : Int32), b_M_power_20 h x1 x2 n x3 x4 = some r → kJ E m_M_power (some r) (mk h) 0 0 20 [(0, .ref 786), (1, .int x1), (2, .int x2), (3, .int x3), (4, .int x4)] [] (mk h) := by
  intro n
  induction n with
  | zero =>
    intro x3 x4 hf
    have hf : (none : Option Int32) = some r := hf
    cases hf
  | succ n hrec20 =>
    intro x3 x4 hf
    rw [b_M_power_20] at hf
    dsimp only at hf
    refine kJ_iload 22 4 d_M_power_20 rfl rfl ?_
    refine kJ_iconst 23 1 d_M_power_22 ki_1 rfl ?_
    refine kJ_aload_n 24 0 d_M_power_23 rfl rfl rfl rfl ?_
    refine kM_getR 27 0 787 d_M_power_24 l_M_7 km_786 rfl rfl rfl rfl ?_
    refine kJ_bipush 29 7 d_M_power_27 kb_7 rfl ?_
    obtain ⟨hg, hf⟩ := kG_some hf
    refine kM_iald 30 760 d_M_power_29 km_787 rfl hg rfl ?_
    refine kJ_ishl 31 d_M_power_30 rfl ?_
    refine kJ_icmp_ge 34 130 d_M_power_31 rfl rfl (fun hc => ?_) (fun hc => ?_)
    · have hf := kIf_t hf hc
      refine kJ_iload_n 131 3 d_M_power_130 rfl rfl rfl ?_
      cases hf
      exact kJ_iret d_M_power_131 rfl rfl (Nat.zero_le _) (Nat.zero_le _)
    · have hf := kIf_f hf hc
      refine kJ_iconst 35 0 d_M_power_34 ki_0 rfl ?_
      refine kJ_istore 37 [(5, .int 0), (0, .ref 786), (1, .int x1), (2, .int x2), (3, .int x3), (4, .int x4)] d_M_power_35 (Nat.le_of_ble_eq_true rfl) rfl rfl ?_
      refine kJ_iconst 38 0 d_M_power_37 ki_0 rfl ?_
      refine kJ_istore 40 [(6, .int 0), (5, .int 0), (0, .ref 786), (1, .int x1), (2, .int x2), (3, .int x3), (4, .int x4)] d_M_power_38 (Nat.le_of_ble_eq_true rfl) rfl rfl ?_
      refine kJ_sub [2, 3, 4, 5, 6, 1, 0] rfl ?_
      exact c_M_power_40 hro hrec20 kFuel 0 0 hf
def f_M_power (h : kH) (x1 : Int32) : Option Int32 := kBi (f_M_isMember h x1) fun v1 => if v1 = true then (kBi (f_M_allWeight h) fun v2 => b_M_power_20 h x1 v2 kFuel 0 0) else (some (-1))
theorem j_M_power {E : kE} {L : Nat} {xs : Nat → Int32} (hro : kRo E L xs) {h : kH} {x1 : Int32} {r : Int32} (hf : f_M_power h x1 = some r) : JM E m_M_power [.ref 786, .int x1] (mk h) (some r) (mk h) := by
  unfold f_M_power at hf
  refine JM.of pn_M (Nat.le_of_ble_eq_true rfl) ?_
  show kJ E m_M_power (some r) (mk h) 0 0 0 [(0, .ref 786), (1, .int x1)] [] (mk h)
  refine kJ_aload_n 1 0 d_M_power_0 rfl rfl rfl rfl ?_
  refine kJ_iload_n 2 1 d_M_power_1 rfl rfl rfl ?_
  obtain ⟨v1, ev1, hf⟩ := kBi_some hf
  refine kM_callv 5 m_M_isMember [.int x1] [] d_M_power_2 cl_M_56 ⟨w_889, w_66⟩ km_786 ⟨rfl, by decide⟩ ⟨_, _, rfl⟩ rfl rfl (Nat.le_of_ble_eq_true rfl) ⟨Nat.le_of_ble_eq_true rfl, Nat.le_of_ble_eq_true rfl⟩ ⟨rfl, rfl⟩ ⟨Nat.zero_le _, Nat.zero_le _⟩ (j_M_isMember hro ev1) rfl ?_
  refine kJ_if_ne 8 10 d_M_power_5 rfl rfl (fun hc => ?_) (fun hc => ?_)
  · have hf := kIf_t hf (kB2_1 hc)
    refine kJ_aload_n 11 0 d_M_power_10 rfl rfl rfl rfl ?_
    obtain ⟨v2, ev2, hf⟩ := kBi_some hf
    refine kM_callv 14 m_M_allWeight [] [] d_M_power_11 cl_M_114 ⟨w_987, w_82⟩ km_786 ⟨rfl, by decide⟩ ⟨_, _, rfl⟩ rfl rfl (Nat.le_of_ble_eq_true rfl) ⟨Nat.le_of_ble_eq_true rfl, Nat.le_of_ble_eq_true rfl⟩ ⟨rfl, rfl⟩ ⟨Nat.zero_le _, Nat.zero_le _⟩ (j_M_allWeight hro ev2) rfl ?_
    refine kJ_istore_n 15 [(2, .int v2), (0, .ref 786), (1, .int x1)] d_M_power_14 rfl (Nat.le_of_ble_eq_true rfl) rfl rfl ?_
    refine kJ_iconst 16 0 d_M_power_15 ki_0 rfl ?_
    refine kJ_istore_n 17 [(3, .int 0), (2, .int v2), (0, .ref 786), (1, .int x1)] d_M_power_16 rfl (Nat.le_of_ble_eq_true rfl) rfl rfl ?_
    refine kJ_iconst 18 0 d_M_power_17 ki_0 rfl ?_
    refine kJ_istore 20 [(4, .int 0), (3, .int 0), (2, .int v2), (0, .ref 786), (1, .int x1)] d_M_power_18 (Nat.le_of_ble_eq_true rfl) rfl rfl ?_
    refine kJ_sub [3, 4, 2, 1, 0] rfl ?_
    exact c_M_power_20 hro kFuel 0 0 hf
  · have hf := kIf_f hf (kB2_0 hc)
    refine kJ_iconst 9 (-1) d_M_power_8 ki_m1 rfl ?_
    cases hf
    exact kJ_iret d_M_power_9 rfl rfl (Nat.zero_le _) (Nat.zero_le _)
def b_M_keep_2 : Nat → kH → Int32 → Option (kH)
  | 0, _, _ => none
  | n + 1, h, x1 => (fun rec2 => if 760 ≤ x1 then (some h) else (kG x1 760 (kG x1 760 (kLet (hset h 788 (kx x1) (h 787 (kx x1))) fun h1 => rec2 h1 (x1 + 1))))) (fun h' x1' => b_M_keep_2 n h' x1')
theorem c_M_keep_2 {E : kE} {L : Nat} {xs : Nat → Int32} (hro : kRo E L xs) {h' : kH} : ∀ (n : Nat) (h : kH) (x1 : Int32), b_M_keep_2 n h x1 = some h' → kJ E m_M_keep none (mk h') 0 0 2 [(0, .ref 786), (1, .int x1)] [] (mk h) := by
  intro n
  induction n with
  | zero =>
    intro h x1 hf
    have hf : (none : Option (kH)) = some h' := hf
    cases hf
  | succ n hrec2 =>
    intro h x1 hf
    rw [b_M_keep_2] at hf
    dsimp only at hf
    refine kJ_iload_n 3 1 d_M_keep_2 rfl rfl rfl ?_
    refine kJ_sipush 6 760 d_M_keep_3 ks_760 rfl ?_
    refine kJ_icmp_ge 9 27 d_M_keep_6 rfl rfl (fun hc => ?_) (fun hc => ?_)
    · have hf := kIf_t hf hc
      cases hf
      exact kJ_ret d_M_keep_27 rfl (Nat.zero_le _) (Nat.zero_le _)
    · have hf := kIf_f hf hc
      refine kJ_aload_n 10 0 d_M_keep_9 rfl rfl rfl rfl ?_
      refine kM_getR 13 1 788 d_M_keep_10 l_M_13 km_786 rfl rfl rfl rfl ?_
      refine kJ_iload_n 14 1 d_M_keep_13 rfl rfl rfl ?_
      refine kJ_aload_n 15 0 d_M_keep_14 rfl rfl rfl rfl ?_
      refine kM_getR 18 0 787 d_M_keep_15 l_M_7 km_786 rfl rfl rfl rfl ?_
      refine kJ_iload_n 19 1 d_M_keep_18 rfl rfl rfl ?_
      obtain ⟨hg, hf⟩ := kG_some hf
      refine kM_iald 20 760 d_M_keep_19 km_787 rfl hg rfl ?_
      obtain ⟨hg, hf⟩ := kG_some hf
      refine kM_iast 21 760 d_M_keep_20 km_788 rfl hg rfl ?_
      obtain ⟨h1, eh1, hf⟩ := kLet_e hf
      rw [← eh1]
      refine kJ_iinc 24 1 [(1, .int (x1 + 1)), (0, .ref 786)] d_M_keep_21 rfl ki_1 (Nat.le_of_ble_eq_true rfl) rfl rfl ?_
      refine kJ_goto 2 d_M_keep_24 rfl ?_
      refine kJ_sub [1, 0] rfl ?_
      exact hrec2 h1 (x1 + 1) hf
def f_M_keep (h : kH) : Option (kH) := b_M_keep_2  kFuel h 0
theorem j_M_keep {E : kE} {L : Nat} {xs : Nat → Int32} (hro : kRo E L xs) {h : kH} {h' : kH} (hf : f_M_keep h = some h') : JM E m_M_keep [.ref 786] (mk h) none (mk h') := by
  unfold f_M_keep at hf
  refine JM.of pn_M (Nat.le_of_ble_eq_true rfl) ?_
  show kJ E m_M_keep none (mk h') 0 0 0 [(0, .ref 786)] [] (mk h)
  refine kJ_iconst 1 0 d_M_keep_0 ki_0 rfl ?_
  refine kJ_istore_n 2 [(1, .int 0), (0, .ref 786)] d_M_keep_1 rfl (Nat.le_of_ble_eq_true rfl) rfl rfl ?_
  refine kJ_sub [1, 0] rfl ?_
  exact c_M_keep_2 hro kFuel h 0 hf
def b_M_comeBack_2 : Nat → kH → Int32 → Option (kH)
  | 0, _, _ => none
  | n + 1, h, x1 => (fun rec2 => if 760 ≤ x1 then (some h) else (kG x1 760 (kG x1 760 (kLet (hset h 787 (kx x1) (h 788 (kx x1))) fun h1 => rec2 h1 (x1 + 1))))) (fun h' x1' => b_M_comeBack_2 n h' x1')
theorem c_M_comeBack_2 {E : kE} {L : Nat} {xs : Nat → Int32} (hro : kRo E L xs) {h' : kH} : ∀ (n : Nat) (h : kH) (x1 : Int32), b_M_comeBack_2 n h x1 = some h' → kJ E m_M_comeBack none (mk h') 0 0 2 [(0, .ref 786), (1, .int x1)] [] (mk h) := by
  intro n
  induction n with
  | zero =>
    intro h x1 hf
    have hf : (none : Option (kH)) = some h' := hf
    cases hf
  | succ n hrec2 =>
    intro h x1 hf
    rw [b_M_comeBack_2] at hf
    dsimp only at hf
    refine kJ_iload_n 3 1 d_M_comeBack_2 rfl rfl rfl ?_
    refine kJ_sipush 6 760 d_M_comeBack_3 ks_760 rfl ?_
    refine kJ_icmp_ge 9 27 d_M_comeBack_6 rfl rfl (fun hc => ?_) (fun hc => ?_)
    · have hf := kIf_t hf hc
      cases hf
      exact kJ_ret d_M_comeBack_27 rfl (Nat.zero_le _) (Nat.zero_le _)
    · have hf := kIf_f hf hc
      refine kJ_aload_n 10 0 d_M_comeBack_9 rfl rfl rfl rfl ?_
      refine kM_getR 13 0 787 d_M_comeBack_10 l_M_7 km_786 rfl rfl rfl rfl ?_
      refine kJ_iload_n 14 1 d_M_comeBack_13 rfl rfl rfl ?_
      refine kJ_aload_n 15 0 d_M_comeBack_14 rfl rfl rfl rfl ?_
      refine kM_getR 18 1 788 d_M_comeBack_15 l_M_13 km_786 rfl rfl rfl rfl ?_
      refine kJ_iload_n 19 1 d_M_comeBack_18 rfl rfl rfl ?_
      obtain ⟨hg, hf⟩ := kG_some hf
      refine kM_iald 20 760 d_M_comeBack_19 km_788 rfl hg rfl ?_
      obtain ⟨hg, hf⟩ := kG_some hf
      refine kM_iast 21 760 d_M_comeBack_20 km_787 rfl hg rfl ?_
      obtain ⟨h1, eh1, hf⟩ := kLet_e hf
      rw [← eh1]
      refine kJ_iinc 24 1 [(1, .int (x1 + 1)), (0, .ref 786)] d_M_comeBack_21 rfl ki_1 (Nat.le_of_ble_eq_true rfl) rfl rfl ?_
      refine kJ_goto 2 d_M_comeBack_24 rfl ?_
      refine kJ_sub [1, 0] rfl ?_
      exact hrec2 h1 (x1 + 1) hf
def f_M_comeBack (h : kH) : Option (kH) := b_M_comeBack_2  kFuel h 0
theorem j_M_comeBack {E : kE} {L : Nat} {xs : Nat → Int32} (hro : kRo E L xs) {h : kH} {h' : kH} (hf : f_M_comeBack h = some h') : JM E m_M_comeBack [.ref 786] (mk h) none (mk h') := by
  unfold f_M_comeBack at hf
  refine JM.of pn_M (Nat.le_of_ble_eq_true rfl) ?_
  show kJ E m_M_comeBack none (mk h') 0 0 0 [(0, .ref 786)] [] (mk h)
  refine kJ_iconst 1 0 d_M_comeBack_0 ki_0 rfl ?_
  refine kJ_istore_n 2 [(1, .int 0), (0, .ref 786)] d_M_comeBack_1 rfl (Nat.le_of_ble_eq_true rfl) rfl rfl ?_
  refine kJ_sub [1, 0] rfl ?_
  exact c_M_comeBack_2 hro kFuel h 0 hf
def b_M_quorumAt_119 (h : kH) (s0 : Int32) : Option (Int32 × kH) := kBi (f_M_comeBack h) fun h7 => some (s0, h7)
theorem c_M_quorumAt_119 {E : kE} {L : Nat} {xs : Nat → Int32} (hro : kRo E L xs) {h : kH} {s0 : Int32} {r : Int32} {h' : kH} (hf : b_M_quorumAt_119 h s0 = some (r, h')) : kJ E m_M_quorumAt (some r) (mk h') 0 0 119 [(0, .ref 786)] [.int s0] (mk h) := by
  unfold b_M_quorumAt_119 at hf
  refine kJ_istore_n 120 [(3, .int s0), (0, .ref 786)] d_M_quorumAt_119 rfl (Nat.le_of_ble_eq_true rfl) rfl rfl ?_
  refine kJ_aload_n 121 1 d_M_quorumAt_120 rfl rfl rfl rfl ?_
  obtain ⟨h7, eh7, hf⟩ := kBi_some hf
  refine kM_callv 124 m_M_comeBack [] [] d_M_quorumAt_121 cl_M_153 ⟨w_1083, w_93⟩ km_786 ⟨rfl, by decide⟩ ⟨_, _, rfl⟩ rfl rfl (Nat.le_of_ble_eq_true rfl) ⟨Nat.le_of_ble_eq_true rfl, Nat.le_of_ble_eq_true rfl⟩ ⟨rfl, rfl⟩ ⟨Nat.zero_le _, Nat.zero_le _⟩ (j_M_comeBack hro eh7) rfl ?_
  refine kJ_iload_n 125 0 d_M_quorumAt_124 rfl rfl rfl ?_
  cases hf
  exact kJ_iret d_M_quorumAt_125 rfl rfl (Nat.zero_le _) (Nat.zero_le _)
def b_M_quorumAt_99 (h : kH) (x1 : Int32) : Option (Int32 × kH) := kBd (f_M_isQuorum h x1) fun v6 h5 => if v6 = true then (kG 6 760 (b_M_quorumAt_119 h5 (h5 787 (kx 6)))) else (b_M_quorumAt_119 h5 (-6))
theorem c_M_quorumAt_99 {E : kE} {L : Nat} {xs : Nat → Int32} (hro : kRo E L xs) {h : kH} {x1 : Int32} {r : Int32} {h' : kH} (hf : b_M_quorumAt_99 h x1 = some (r, h')) : kJ E m_M_quorumAt (some r) (mk h') 0 0 99 [(0, .ref 786), (1, .int x1)] [] (mk h) := by
  unfold b_M_quorumAt_99 at hf
  refine kJ_aload_n 100 0 d_M_quorumAt_99 rfl rfl rfl rfl ?_
  refine kJ_iload_n 101 1 d_M_quorumAt_100 rfl rfl rfl ?_
  obtain ⟨v6, h5, ev6, hf⟩ := kBd_some hf
  refine kM_callv 104 m_M_isQuorum [.int x1] [] d_M_quorumAt_101 cl_M_123 ⟨w_963, w_76⟩ km_786 ⟨rfl, by decide⟩ ⟨_, _, rfl⟩ rfl rfl (Nat.le_of_ble_eq_true rfl) ⟨Nat.le_of_ble_eq_true rfl, Nat.le_of_ble_eq_true rfl⟩ ⟨rfl, rfl⟩ ⟨Nat.zero_le _, Nat.zero_le _⟩ (j_M_isQuorum hro ev6) rfl ?_
  refine kJ_if_eq 107 117 d_M_quorumAt_104 rfl rfl (fun hc => ?_) (fun hc => ?_)
  · have hf := kIf_f hf (kB2_0 hc)
    refine kJ_bipush 119 (-6) d_M_quorumAt_117 kb_m6 rfl ?_
    refine kJ_sub [0] rfl ?_
    exact c_M_quorumAt_119 hro hf
  · have hf := kIf_t hf (kB2_1 hc)
    refine kJ_aload_n 108 0 d_M_quorumAt_107 rfl rfl rfl rfl ?_
    refine kM_getR 111 0 787 d_M_quorumAt_108 l_M_7 km_786 rfl rfl rfl rfl ?_
    refine kJ_bipush 113 6 d_M_quorumAt_111 kb_6 rfl ?_
    obtain ⟨hg, hf⟩ := kG_some hf
    refine kM_iald 114 760 d_M_quorumAt_113 km_787 rfl hg rfl ?_
    refine kJ_goto 119 d_M_quorumAt_114 rfl ?_
    refine kJ_sub [0] rfl ?_
    exact c_M_quorumAt_119 hro hf
def b_M_quorumAt_73 (x1 : Int32) (x2 : Int32) : Nat → kH → Option (Int32 × kH)
  | 0, _ => none
  | n + 1, h => (fun rec73 => kBd (f_M_isQuorum h x1) fun v4 h3 => if v4 = true then (b_M_quorumAt_99 h3 x1) else (kG 6 760 (if x2 ≤ (h3 787 (kx 6)) then (b_M_quorumAt_99 h3 x1) else (kBi (f_M_nextMinute h3) fun h8 => rec73 h8)))) (fun h' => b_M_quorumAt_73 x1 x2 n h')
theorem c_M_quorumAt_73 {E : kE} {L : Nat} {xs : Nat → Int32} (hro : kRo E L xs) {x1 : Int32} {x2 : Int32} {r : Int32} {h' : kH} : ∀ (n : Nat) (h : kH), b_M_quorumAt_73 x1 x2 n h = some (r, h') → kJ E m_M_quorumAt (some r) (mk h') 0 0 73 [(0, .ref 786), (1, .int x1), (2, .int x2)] [] (mk h) := by
  intro n
  induction n with
  | zero =>
    intro h hf
    have hf : (none : Option (Int32 × kH)) = some (r, h') := hf
    cases hf
  | succ n hrec73 =>
    intro h hf
    rw [b_M_quorumAt_73] at hf
    dsimp only at hf
    refine kJ_aload_n 74 0 d_M_quorumAt_73 rfl rfl rfl rfl ?_
    refine kJ_iload_n 75 1 d_M_quorumAt_74 rfl rfl rfl ?_
    obtain ⟨v4, h3, ev4, hf⟩ := kBd_some hf
    refine kM_callv 78 m_M_isQuorum [.int x1] [] d_M_quorumAt_75 cl_M_123 ⟨w_963, w_76⟩ km_786 ⟨rfl, by decide⟩ ⟨_, _, rfl⟩ rfl rfl (Nat.le_of_ble_eq_true rfl) ⟨Nat.le_of_ble_eq_true rfl, Nat.le_of_ble_eq_true rfl⟩ ⟨rfl, rfl⟩ ⟨Nat.zero_le _, Nat.zero_le _⟩ (j_M_isQuorum hro ev4) rfl ?_
    refine kJ_if_ne 81 99 d_M_quorumAt_78 rfl rfl (fun hc => ?_) (fun hc => ?_)
    · have hf := kIf_t hf (kB2_1 hc)
      refine kJ_sub [0, 1] rfl ?_
      exact c_M_quorumAt_99 hro hf
    · have hf := kIf_f hf (kB2_0 hc)
      refine kJ_aload_n 82 0 d_M_quorumAt_81 rfl rfl rfl rfl ?_
      refine kM_getR 85 0 787 d_M_quorumAt_82 l_M_7 km_786 rfl rfl rfl rfl ?_
      refine kJ_bipush 87 6 d_M_quorumAt_85 kb_6 rfl ?_
      obtain ⟨hg, hf⟩ := kG_some hf
      refine kM_iald 88 760 d_M_quorumAt_87 km_787 rfl hg rfl ?_
      refine kJ_iload_n 89 2 d_M_quorumAt_88 rfl rfl rfl ?_
      refine kJ_icmp_ge 92 99 d_M_quorumAt_89 rfl rfl (fun hc => ?_) (fun hc => ?_)
      · have hf := kIf_t hf hc
        refine kJ_sub [0, 1] rfl ?_
        exact c_M_quorumAt_99 hro hf
      · have hf := kIf_f hf hc
        refine kJ_aload_n 93 0 d_M_quorumAt_92 rfl rfl rfl rfl ?_
        obtain ⟨h8, eh8, hf⟩ := kBi_some hf
        refine kM_callv 96 m_M_nextMinute [] [] d_M_quorumAt_93 cl_M_132 ⟨w_1023, w_87⟩ km_786 ⟨rfl, by decide⟩ ⟨_, _, rfl⟩ rfl rfl (Nat.le_of_ble_eq_true rfl) ⟨Nat.le_of_ble_eq_true rfl, Nat.le_of_ble_eq_true rfl⟩ ⟨rfl, rfl⟩ ⟨Nat.zero_le _, Nat.zero_le _⟩ (j_M_nextMinute hro eh8) rfl ?_
        refine kJ_goto 73 d_M_quorumAt_96 rfl ?_
        refine kJ_sub [0, 1, 2] rfl ?_
        exact hrec73 h8 hf
def b_M_quorumAt_23 (x1 : Int32) : Nat → kH → Int32 → Int32 → Option (Int32 × kH)
  | 0, _, _, _ => none
  | n + 1, h, x2, x3 => (fun rec23 => kG 10 760 (if (h 787 (kx 10)) ≤ x3 then (b_M_quorumAt_73 x1 x2 kFuel h) else (kG (690 + (3 * x3)) 760 (if (h 787 (kx (690 + (3 * x3)))) ≤ x2 then (rec23 h x2 (x3 + 1)) else (kG (690 + (3 * x3)) 760 (kLet (h 787 (kx (690 + (3 * x3)))) fun v9 => rec23 h v9 (x3 + 1))))))) (fun h' x2' x3' => b_M_quorumAt_23 x1 n h' x2' x3')
theorem c_M_quorumAt_23 {E : kE} {L : Nat} {xs : Nat → Int32} (hro : kRo E L xs) {x1 : Int32} {r : Int32} {h' : kH} : ∀ (n : Nat) (h : kH) (x2 : Int32) (x3 : Int32), b_M_quorumAt_23 x1 n h x2 x3 = some (r, h') → kJ E m_M_quorumAt (some r) (mk h') 0 0 23 [(0, .ref 786), (1, .int x1), (2, .int x2), (3, .int x3)] [] (mk h) := by
  intro n
  induction n with
  | zero =>
    intro h x2 x3 hf
    have hf : (none : Option (Int32 × kH)) = some (r, h') := hf
    cases hf
  | succ n hrec23 =>
    intro h x2 x3 hf
    rw [b_M_quorumAt_23] at hf
    dsimp only at hf
    refine kJ_iload_n 24 3 d_M_quorumAt_23 rfl rfl rfl ?_
    refine kJ_aload_n 25 0 d_M_quorumAt_24 rfl rfl rfl rfl ?_
    refine kM_getR 28 0 787 d_M_quorumAt_25 l_M_7 km_786 rfl rfl rfl rfl ?_
    refine kJ_bipush 30 10 d_M_quorumAt_28 kb_10 rfl ?_
    obtain ⟨hg, hf⟩ := kG_some hf
    refine kM_iald 31 760 d_M_quorumAt_30 km_787 rfl hg rfl ?_
    refine kJ_icmp_ge 34 73 d_M_quorumAt_31 rfl rfl (fun hc => ?_) (fun hc => ?_)
    · have hf := kIf_t hf hc
      refine kJ_sub [0, 1, 2] rfl ?_
      exact c_M_quorumAt_73 hro kFuel h hf
    · have hf := kIf_f hf hc
      refine kJ_aload_n 35 0 d_M_quorumAt_34 rfl rfl rfl rfl ?_
      refine kM_getR 38 0 787 d_M_quorumAt_35 l_M_7 km_786 rfl rfl rfl rfl ?_
      refine kJ_sipush 41 690 d_M_quorumAt_38 ks_690 rfl ?_
      refine kJ_iconst 42 3 d_M_quorumAt_41 ki_3 rfl ?_
      refine kJ_iload_n 43 3 d_M_quorumAt_42 rfl rfl rfl ?_
      refine kJ_imul 44 d_M_quorumAt_43 rfl ?_
      refine kJ_iadd 45 d_M_quorumAt_44 rfl ?_
      obtain ⟨hg, hf⟩ := kG_some hf
      refine kM_iald 46 760 d_M_quorumAt_45 km_787 rfl hg rfl ?_
      refine kJ_iload_n 47 2 d_M_quorumAt_46 rfl rfl rfl ?_
      refine kJ_icmp_le 50 65 d_M_quorumAt_47 rfl rfl (fun hc => ?_) (fun hc => ?_)
      · have hf := kIf_t hf hc
        refine kJ_iload_n 66 2 d_M_quorumAt_65 rfl rfl rfl ?_
        refine kJ_istore_n 67 [(2, .int x2), (0, .ref 786), (1, .int x1), (3, .int x3)] d_M_quorumAt_66 rfl (Nat.le_of_ble_eq_true rfl) rfl rfl ?_
        refine kJ_iinc 70 3 [(3, .int (x3 + 1)), (2, .int x2), (0, .ref 786), (1, .int x1)] d_M_quorumAt_67 rfl ki_1 (Nat.le_of_ble_eq_true rfl) rfl rfl ?_
        refine kJ_goto 23 d_M_quorumAt_70 rfl ?_
        refine kJ_sub [2, 3, 1, 0] rfl ?_
        exact hrec23 h x2 (x3 + 1) hf
      · have hf := kIf_f hf hc
        refine kJ_aload_n 51 0 d_M_quorumAt_50 rfl rfl rfl rfl ?_
        refine kM_getR 54 0 787 d_M_quorumAt_51 l_M_7 km_786 rfl rfl rfl rfl ?_
        refine kJ_sipush 57 690 d_M_quorumAt_54 ks_690 rfl ?_
        refine kJ_iconst 58 3 d_M_quorumAt_57 ki_3 rfl ?_
        refine kJ_iload_n 59 3 d_M_quorumAt_58 rfl rfl rfl ?_
        refine kJ_imul 60 d_M_quorumAt_59 rfl ?_
        refine kJ_iadd 61 d_M_quorumAt_60 rfl ?_
        obtain ⟨hg, hf⟩ := kG_some hf
        refine kM_iald 62 760 d_M_quorumAt_61 km_787 rfl hg rfl ?_
        refine kJ_goto 66 d_M_quorumAt_62 rfl ?_
        obtain ⟨v9, ev9, hf⟩ := kLet_e hf
        rw [← ev9]
        refine kJ_istore_n 67 [(2, .int v9), (0, .ref 786), (1, .int x1), (3, .int x3)] d_M_quorumAt_66 rfl (Nat.le_of_ble_eq_true rfl) rfl rfl ?_
        refine kJ_iinc 70 3 [(3, .int (x3 + 1)), (2, .int v9), (0, .ref 786), (1, .int x1)] d_M_quorumAt_67 rfl ki_1 (Nat.le_of_ble_eq_true rfl) rfl rfl ?_
        refine kJ_goto 23 d_M_quorumAt_70 rfl ?_
        refine kJ_sub [2, 3, 1, 0] rfl ?_
        exact hrec23 h v9 (x3 + 1) hf
def f_M_quorumAt (h : kH) (x1 : Int32) : Option (Int32 × kH) := kBi (f_M_isItem h x1) fun v1 => if v1 = true then (kBi (f_M_keep h) fun h2 => kG 2 760 (b_M_quorumAt_23 x1 kFuel h2 (h2 787 (kx 2)) 0)) else (some ((-1), h))
theorem j_M_quorumAt {E : kE} {L : Nat} {xs : Nat → Int32} (hro : kRo E L xs) {h : kH} {x1 : Int32} {r : Int32} {h' : kH} (hf : f_M_quorumAt h x1 = some (r, h')) : JM E m_M_quorumAt [.ref 786, .int x1] (mk h) (some r) (mk h') := by
  unfold f_M_quorumAt at hf
  refine JM.of pn_M (Nat.le_of_ble_eq_true rfl) ?_
  show kJ E m_M_quorumAt (some r) (mk h') 0 0 0 [(0, .ref 786), (1, .int x1)] [] (mk h)
  refine kJ_aload_n 1 0 d_M_quorumAt_0 rfl rfl rfl rfl ?_
  refine kJ_iload_n 2 1 d_M_quorumAt_1 rfl rfl rfl ?_
  obtain ⟨v1, ev1, hf⟩ := kBi_some hf
  refine kM_callv 5 m_M_isItem [.int x1] [] d_M_quorumAt_2 cl_M_78 ⟨w_928, w_71⟩ km_786 ⟨rfl, by decide⟩ ⟨_, _, rfl⟩ rfl rfl (Nat.le_of_ble_eq_true rfl) ⟨Nat.le_of_ble_eq_true rfl, Nat.le_of_ble_eq_true rfl⟩ ⟨rfl, rfl⟩ ⟨Nat.zero_le _, Nat.zero_le _⟩ (j_M_isItem hro ev1) rfl ?_
  refine kJ_if_ne 8 10 d_M_quorumAt_5 rfl rfl (fun hc => ?_) (fun hc => ?_)
  · have hf := kIf_t hf (kB2_1 hc)
    refine kJ_aload_n 11 0 d_M_quorumAt_10 rfl rfl rfl rfl ?_
    obtain ⟨h2, eh2, hf⟩ := kBi_some hf
    refine kM_callv 14 m_M_keep [] [] d_M_quorumAt_11 cl_M_150 ⟨w_1079, w_92⟩ km_786 ⟨rfl, by decide⟩ ⟨_, _, rfl⟩ rfl rfl (Nat.le_of_ble_eq_true rfl) ⟨Nat.le_of_ble_eq_true rfl, Nat.le_of_ble_eq_true rfl⟩ ⟨rfl, rfl⟩ ⟨Nat.zero_le _, Nat.zero_le _⟩ (j_M_keep hro eh2) rfl ?_
    refine kJ_aload_n 15 0 d_M_quorumAt_14 rfl rfl rfl rfl ?_
    refine kM_getR 18 0 787 d_M_quorumAt_15 l_M_7 km_786 rfl rfl rfl rfl ?_
    refine kJ_iconst 19 2 d_M_quorumAt_18 ki_2 rfl ?_
    obtain ⟨hg, hf⟩ := kG_some hf
    refine kM_iald 20 760 d_M_quorumAt_19 km_787 rfl hg rfl ?_
    refine kJ_istore_n 21 [(2, .int (h2 787 (kx 2))), (0, .ref 786), (1, .int x1)] d_M_quorumAt_20 rfl (Nat.le_of_ble_eq_true rfl) rfl rfl ?_
    refine kJ_iconst 22 0 d_M_quorumAt_21 ki_0 rfl ?_
    refine kJ_istore_n 23 [(3, .int 0), (2, .int (h2 787 (kx 2))), (0, .ref 786), (1, .int x1)] d_M_quorumAt_22 rfl (Nat.le_of_ble_eq_true rfl) rfl rfl ?_
    refine kJ_sub [2, 3, 1, 0] rfl ?_
    exact c_M_quorumAt_23 hro kFuel h2 (h2 787 (kx 2)) 0 hf
  · have hf := kIf_f hf (kB2_0 hc)
    refine kJ_iconst 9 (-1) d_M_quorumAt_8 ki_m1 rfl ?_
    cases hf
    exact kJ_iret d_M_quorumAt_9 rfl rfl (Nat.zero_le _) (Nat.zero_le _)
