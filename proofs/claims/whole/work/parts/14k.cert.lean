/-! CODE of the methods as functions, with certificates: printed by wip/whole/emit.py. -/
def b_M_bestHolder_161 (rec76 : kH → Int32 → Int32 → Int32 → Option (Int32 × kH)) (h : kH) (x1 : Int32) (x2 : Int32) (x3 : Int32) (x4 : Int32) (x6 : Int32) (x7 : Int32) (x8 : Int32) (s0 : Int32) : Option (Int32 × kH) := if x8 = 0 then (rec76 h s0 x6 (x7 + 1)) else (kG x7 12 (kBi (f_M_bits (h 794 (kx x7))) fun v11 => rec76 h s0 v11 (x7 + 1)))
theorem c_M_bestHolder_161 {E : kE} {L : Nat} {xs : Nat → Int32} (hro : kRo E L xs) {rec76 : kH → Int32 → Int32 → Int32 → Option (Int32 × kH)} {h : kH} {x1 : Int32} {x2 : Int32} {x3 : Int32} {x4 : Int32} {x6 : Int32} {x7 : Int32} {x8 : Int32} {s0 : Int32} {r : Int32} {h' : kH} (hrec76 : ∀ (h : kH) (x5 : Int32) (x6 : Int32) (x7 : Int32), rec76 h x5 x6 x7 = some (r, h') → kJ E m_M_bestHolder (some r) (mk h') 0 0 76 [(0, .ref 786), (1, .int x1), (2, .int x2), (3, .int x3), (4, .int x4), (5, .int x5), (6, .int x6), (7, .int x7)] [] (mk h)) (hf : b_M_bestHolder_161 rec76 h x1 x2 x3 x4 x6 x7 x8 s0 = some (r, h')) : kJ E m_M_bestHolder (some r) (mk h') 0 0 161 [(0, .ref 786), (1, .int x1), (2, .int x2), (3, .int x3), (4, .int x4), (6, .int x6), (7, .int x7), (8, .int x8)] [.int s0] (mk h) := by
  unfold b_M_bestHolder_161 at hf
  refine kJ_istore 163 [(5, .int s0), (0, .ref 786), (1, .int x1), (2, .int x2), (3, .int x3), (4, .int x4), (6, .int x6), (7, .int x7), (8, .int x8)] d_M_bestHolder_161 (Nat.le_of_ble_eq_true rfl) rfl rfl ?_
  refine kJ_iload 165 8 d_M_bestHolder_163 rfl rfl ?_
  refine kJ_if_eq 168 181 d_M_bestHolder_165 rfl rfl (fun hc => ?_) (fun hc => ?_)
  · have hf := kIf_t hf hc
    refine kJ_iload 183 6 d_M_bestHolder_181 rfl rfl ?_
    refine kJ_istore 185 [(6, .int x6), (5, .int s0), (0, .ref 786), (1, .int x1), (2, .int x2), (3, .int x3), (4, .int x4), (7, .int x7), (8, .int x8)] d_M_bestHolder_183 (Nat.le_of_ble_eq_true rfl) rfl rfl ?_
    refine kJ_iinc 188 7 [(7, .int (x7 + 1)), (6, .int x6), (5, .int s0), (0, .ref 786), (1, .int x1), (2, .int x2), (3, .int x3), (4, .int x4), (8, .int x8)] d_M_bestHolder_185 rfl ki_1 (Nat.le_of_ble_eq_true rfl) rfl rfl ?_
    refine kJ_goto 76 d_M_bestHolder_188 rfl ?_
    refine kJ_sub [3, 4, 5, 6, 7, 2, 1, 0] rfl ?_
    exact hrec76 h s0 x6 (x7 + 1) hf
  · have hf := kIf_f hf hc
    refine kJ_aload_n 169 1 d_M_bestHolder_168 rfl rfl rfl rfl ?_
    refine kM_getR 172 7 794 d_M_bestHolder_169 l_M_32 km_786 rfl rfl rfl rfl ?_
    refine kJ_iload 174 7 d_M_bestHolder_172 rfl rfl ?_
    obtain ⟨hg, hf⟩ := kG_some hf
    refine kM_iald 175 12 d_M_bestHolder_174 km_794 rfl hg rfl ?_
    obtain ⟨v11, ev11, hf⟩ := kBi_some hf
    refine kM_calls 178 m_M_bits [.int (h 794 (kx x7))] [] d_M_bestHolder_175 cl_M_71 w_912 rfl rfl (Nat.le_of_ble_eq_true rfl) ⟨Nat.le_of_ble_eq_true rfl, Nat.le_of_ble_eq_true rfl⟩ ⟨rfl, rfl⟩ ⟨Nat.zero_le _, Nat.zero_le _⟩ (j_M_bits hro ev11) rfl ?_
    refine kJ_goto 183 d_M_bestHolder_178 rfl ?_
    refine kJ_istore 185 [(6, .int v11), (5, .int s0), (0, .ref 786), (1, .int x1), (2, .int x2), (3, .int x3), (4, .int x4), (7, .int x7), (8, .int x8)] d_M_bestHolder_183 (Nat.le_of_ble_eq_true rfl) rfl rfl ?_
    refine kJ_iinc 188 7 [(7, .int (x7 + 1)), (6, .int v11), (5, .int s0), (0, .ref 786), (1, .int x1), (2, .int x2), (3, .int x3), (4, .int x4), (8, .int x8)] d_M_bestHolder_185 rfl ki_1 (Nat.le_of_ble_eq_true rfl) rfl rfl ?_
    refine kJ_goto 76 d_M_bestHolder_188 rfl ?_
    refine kJ_sub [3, 4, 5, 6, 7, 2, 1, 0] rfl ?_
    exact hrec76 h s0 v11 (x7 + 1) hf
def b_M_bestHolder_147 (rec76 : kH → Int32 → Int32 → Int32 → Option (Int32 × kH)) (h : kH) (x1 : Int32) (x2 : Int32) (x3 : Int32) (x4 : Int32) (x5 : Int32) (x6 : Int32) (x7 : Int32) (s0 : Bool) : Option (Int32 × kH) := if s0 = true then (b_M_bestHolder_161 rec76 h x1 x2 x3 x4 x6 x7 (kB2 s0) x7) else (b_M_bestHolder_161 rec76 h x1 x2 x3 x4 x6 x7 (kB2 s0) x5)
theorem c_M_bestHolder_147 {E : kE} {L : Nat} {xs : Nat → Int32} (hro : kRo E L xs) {rec76 : kH → Int32 → Int32 → Int32 → Option (Int32 × kH)} {h : kH} {x1 : Int32} {x2 : Int32} {x3 : Int32} {x4 : Int32} {x5 : Int32} {x6 : Int32} {x7 : Int32} {s0 : Bool} {r : Int32} {h' : kH} (hrec76 : ∀ (h : kH) (x5 : Int32) (x6 : Int32) (x7 : Int32), rec76 h x5 x6 x7 = some (r, h') → kJ E m_M_bestHolder (some r) (mk h') 0 0 76 [(0, .ref 786), (1, .int x1), (2, .int x2), (3, .int x3), (4, .int x4), (5, .int x5), (6, .int x6), (7, .int x7)] [] (mk h)) (hf : b_M_bestHolder_147 rec76 h x1 x2 x3 x4 x5 x6 x7 s0 = some (r, h')) : kJ E m_M_bestHolder (some r) (mk h') 0 0 147 [(0, .ref 786), (1, .int x1), (2, .int x2), (3, .int x3), (4, .int x4), (5, .int x5), (6, .int x6), (7, .int x7)] [.int (kB2 s0)] (mk h) := by
  unfold b_M_bestHolder_147 at hf
  refine kJ_istore 149 [(8, .int (kB2 s0)), (0, .ref 786), (1, .int x1), (2, .int x2), (3, .int x3), (4, .int x4), (5, .int x5), (6, .int x6), (7, .int x7)] d_M_bestHolder_147 (Nat.le_of_ble_eq_true rfl) rfl rfl ?_
  refine kJ_iload 151 0 d_M_bestHolder_149 rfl rfl ?_
  refine kJ_if_eq 154 159 d_M_bestHolder_151 rfl rfl (fun hc => ?_) (fun hc => ?_)
  · have hf := kIf_f hf (kB2_0 hc)
    refine kJ_iload 161 6 d_M_bestHolder_159 rfl rfl ?_
    refine kJ_sub [1, 2, 3, 4, 5, 7, 8, 0] rfl ?_
    exact c_M_bestHolder_161 hro hrec76 hf
  · have hf := kIf_t hf (kB2_1 hc)
    refine kJ_iload 156 8 d_M_bestHolder_154 rfl rfl ?_
    refine kJ_goto 161 d_M_bestHolder_156 rfl ?_
    refine kJ_sub [1, 2, 3, 4, 5, 7, 8, 0] rfl ?_
    exact c_M_bestHolder_161 hro hrec76 hf
def b_M_bestHolder_146 (rec76 : kH → Int32 → Int32 → Int32 → Option (Int32 × kH)) (h : kH) (x1 : Int32) (x2 : Int32) (x3 : Int32) (x4 : Int32) (x5 : Int32) (x6 : Int32) (x7 : Int32) : Option (Int32 × kH) := b_M_bestHolder_147 rec76 h x1 x2 x3 x4 x5 x6 x7 false
theorem c_M_bestHolder_146 {E : kE} {L : Nat} {xs : Nat → Int32} (hro : kRo E L xs) {rec76 : kH → Int32 → Int32 → Int32 → Option (Int32 × kH)} {h : kH} {x1 : Int32} {x2 : Int32} {x3 : Int32} {x4 : Int32} {x5 : Int32} {x6 : Int32} {x7 : Int32} {r : Int32} {h' : kH} (hrec76 : ∀ (h : kH) (x5 : Int32) (x6 : Int32) (x7 : Int32), rec76 h x5 x6 x7 = some (r, h') → kJ E m_M_bestHolder (some r) (mk h') 0 0 76 [(0, .ref 786), (1, .int x1), (2, .int x2), (3, .int x3), (4, .int x4), (5, .int x5), (6, .int x6), (7, .int x7)] [] (mk h)) (hf : b_M_bestHolder_146 rec76 h x1 x2 x3 x4 x5 x6 x7 = some (r, h')) : kJ E m_M_bestHolder (some r) (mk h') 0 0 146 [(0, .ref 786), (1, .int x1), (2, .int x2), (3, .int x3), (4, .int x4), (5, .int x5), (6, .int x6), (7, .int x7)] [] (mk h) := by
  unfold b_M_bestHolder_146 at hf
  refine kJ_iconst 147 0 d_M_bestHolder_146 ki_0 rfl ?_
  refine kJ_sub [0, 1, 2, 3, 4, 5, 6, 7] rfl ?_
  exact c_M_bestHolder_147 hro hrec76 hf
def b_M_bestHolder_142 (rec76 : kH → Int32 → Int32 → Int32 → Option (Int32 × kH)) (h : kH) (x1 : Int32) (x2 : Int32) (x3 : Int32) (x4 : Int32) (x5 : Int32) (x6 : Int32) (x7 : Int32) : Option (Int32 × kH) := b_M_bestHolder_147 rec76 h x1 x2 x3 x4 x5 x6 x7 true
theorem c_M_bestHolder_142 {E : kE} {L : Nat} {xs : Nat → Int32} (hro : kRo E L xs) {rec76 : kH → Int32 → Int32 → Int32 → Option (Int32 × kH)} {h : kH} {x1 : Int32} {x2 : Int32} {x3 : Int32} {x4 : Int32} {x5 : Int32} {x6 : Int32} {x7 : Int32} {r : Int32} {h' : kH} (hrec76 : ∀ (h : kH) (x5 : Int32) (x6 : Int32) (x7 : Int32), rec76 h x5 x6 x7 = some (r, h') → kJ E m_M_bestHolder (some r) (mk h') 0 0 76 [(0, .ref 786), (1, .int x1), (2, .int x2), (3, .int x3), (4, .int x4), (5, .int x5), (6, .int x6), (7, .int x7)] [] (mk h)) (hf : b_M_bestHolder_142 rec76 h x1 x2 x3 x4 x5 x6 x7 = some (r, h')) : kJ E m_M_bestHolder (some r) (mk h') 0 0 142 [(0, .ref 786), (1, .int x1), (2, .int x2), (3, .int x3), (4, .int x4), (5, .int x5), (6, .int x6), (7, .int x7)] [] (mk h) := by
  unfold b_M_bestHolder_142 at hf
  refine kJ_iconst 143 1 d_M_bestHolder_142 ki_1 rfl ?_
  refine kJ_goto 147 d_M_bestHolder_143 rfl ?_
  refine kJ_sub [0, 1, 2, 3, 4, 5, 6, 7] rfl ?_
  exact c_M_bestHolder_147 hro hrec76 hf
def b_M_bestHolder_76 (x1 : Int32) (x2 : Int32) (x3 : Int32) (x4 : Int32) : Nat → kH → Int32 → Int32 → Int32 → Option (Int32 × kH)
  | 0, _, _, _, _ => none
  | n + 1, h, x5, x6, x7 => (fun rec76 => kG 7 760 (if (h 787 (kx 7)) ≤ x7 then (kG x3 760 (kLet (hset h 787 (kx x3) x4) fun h7 => some (x5, h7))) else (kBi (f_M_canVote h x7 x2) fun v8 => if v8 = true then (kG x3 760 (kLet (hset h 787 (kx x3) x7) fun h9 => kBi (f_M_layVoices h9 x2) fun h10 => kG x1 12 (if (h10 793 (kx x1)) = x7 then (if x5 < 0 then (b_M_bestHolder_142 rec76 h10 x1 x2 x3 x4 x5 x6 x7) else (kG x7 12 (kBi (f_M_bits (h10 794 (kx x7))) fun v12 => if x6 ≤ v12 then (b_M_bestHolder_146 rec76 h10 x1 x2 x3 x4 x5 x6 x7) else (b_M_bestHolder_142 rec76 h10 x1 x2 x3 x4 x5 x6 x7)))) else (b_M_bestHolder_146 rec76 h10 x1 x2 x3 x4 x5 x6 x7)))) else (rec76 h x5 x6 (x7 + 1))))) (fun h' x5' x6' x7' => b_M_bestHolder_76 x1 x2 x3 x4 n h' x5' x6' x7')
theorem c_M_bestHolder_76 {E : kE} {L : Nat} {xs : Nat → Int32} (hro : kRo E L xs) {x1 : Int32} {x2 : Int32} {x3 : Int32} {x4 : Int32} {r : Int32} {h' : kH} : ∀ (n : Nat) (h : kH) (x5 : Int32) (x6 : Int32) (x7 : Int32), b_M_bestHolder_76 x1 x2 x3 x4 n h x5 x6 x7 = some (r, h') → kJ E m_M_bestHolder (some r) (mk h') 0 0 76 [(0, .ref 786), (1, .int x1), (2, .int x2), (3, .int x3), (4, .int x4), (5, .int x5), (6, .int x6), (7, .int x7)] [] (mk h) := by
  intro n
  induction n with
  | zero =>
    intro h x5 x6 x7 hf
    have hf : (none : Option (Int32 × kH)) = some (r, h') := hf
    cases hf
  | succ n hrec76 =>
    intro h x5 x6 x7 hf
    rw [b_M_bestHolder_76] at hf
    dsimp only at hf
    refine kJ_iload 78 7 d_M_bestHolder_76 rfl rfl ?_
    refine kJ_aload_n 79 0 d_M_bestHolder_78 rfl rfl rfl rfl ?_
    refine kM_getR 82 0 787 d_M_bestHolder_79 l_M_7 km_786 rfl rfl rfl rfl ?_
    refine kJ_bipush 84 7 d_M_bestHolder_82 kb_7 rfl ?_
    obtain ⟨hg, hf⟩ := kG_some hf
    refine kM_iald 85 760 d_M_bestHolder_84 km_787 rfl hg rfl ?_
    refine kJ_icmp_ge 88 191 d_M_bestHolder_85 rfl rfl (fun hc => ?_) (fun hc => ?_)
    · have hf := kIf_t hf hc
      refine kJ_aload_n 192 0 d_M_bestHolder_191 rfl rfl rfl rfl ?_
      refine kM_getR 195 0 787 d_M_bestHolder_192 l_M_7 km_786 rfl rfl rfl rfl ?_
      refine kJ_iload_n 196 3 d_M_bestHolder_195 rfl rfl rfl ?_
      refine kJ_iload 198 4 d_M_bestHolder_196 rfl rfl ?_
      obtain ⟨hg, hf⟩ := kG_some hf
      refine kM_iast 199 760 d_M_bestHolder_198 km_787 rfl hg rfl ?_
      obtain ⟨h7, eh7, hf⟩ := kLet_e hf
      rw [← eh7]
      refine kJ_iload 201 5 d_M_bestHolder_199 rfl rfl ?_
      cases hf
      exact kJ_iret d_M_bestHolder_201 rfl rfl (Nat.zero_le _) (Nat.zero_le _)
    · have hf := kIf_f hf hc
      refine kJ_aload_n 89 0 d_M_bestHolder_88 rfl rfl rfl rfl ?_
      refine kJ_iload 91 7 d_M_bestHolder_89 rfl rfl ?_
      refine kJ_iload_n 92 2 d_M_bestHolder_91 rfl rfl rfl ?_
      obtain ⟨v8, ev8, hf⟩ := kBi_some hf
      refine kM_callv 95 m_M_canVote [.int x7, .int x2] [] d_M_bestHolder_92 cl_M_144 ⟨w_1059, w_90⟩ km_786 ⟨rfl, by decide⟩ ⟨_, _, rfl⟩ rfl rfl (Nat.le_of_ble_eq_true rfl) ⟨Nat.le_of_ble_eq_true rfl, Nat.le_of_ble_eq_true rfl⟩ ⟨rfl, rfl⟩ ⟨Nat.zero_le _, Nat.zero_le _⟩ (j_M_canVote hro ev8) rfl ?_
      refine kJ_if_eq 98 185 d_M_bestHolder_95 rfl rfl (fun hc => ?_) (fun hc => ?_)
      · have hf := kIf_f hf (kB2_0 hc)
        refine kJ_iinc 188 7 [(7, .int (x7 + 1)), (0, .ref 786), (1, .int x1), (2, .int x2), (3, .int x3), (4, .int x4), (5, .int x5), (6, .int x6)] d_M_bestHolder_185 rfl ki_1 (Nat.le_of_ble_eq_true rfl) rfl rfl ?_
        refine kJ_goto 76 d_M_bestHolder_188 rfl ?_
        refine kJ_sub [1, 2, 3, 4, 5, 6, 7, 0] rfl ?_
        exact hrec76 h x5 x6 (x7 + 1) hf
      · have hf := kIf_t hf (kB2_1 hc)
        refine kJ_aload_n 99 0 d_M_bestHolder_98 rfl rfl rfl rfl ?_
        refine kM_getR 102 0 787 d_M_bestHolder_99 l_M_7 km_786 rfl rfl rfl rfl ?_
        refine kJ_iload_n 103 3 d_M_bestHolder_102 rfl rfl rfl ?_
        refine kJ_iload 105 7 d_M_bestHolder_103 rfl rfl ?_
        obtain ⟨hg, hf⟩ := kG_some hf
        refine kM_iast 106 760 d_M_bestHolder_105 km_787 rfl hg rfl ?_
        obtain ⟨h9, eh9, hf⟩ := kLet_e hf
        rw [← eh9]
        refine kJ_aload_n 107 0 d_M_bestHolder_106 rfl rfl rfl rfl ?_
        refine kJ_iload_n 108 2 d_M_bestHolder_107 rfl rfl rfl ?_
        obtain ⟨h10, eh10, hf⟩ := kBi_some hf
        refine kM_callv 111 m_M_layVoices [.int x2] [] d_M_bestHolder_108 cl_M_104 ⟨w_971, w_78⟩ km_786 ⟨rfl, by decide⟩ ⟨_, _, rfl⟩ rfl rfl (Nat.le_of_ble_eq_true rfl) ⟨Nat.le_of_ble_eq_true rfl, Nat.le_of_ble_eq_true rfl⟩ ⟨rfl, rfl⟩ ⟨Nat.zero_le _, Nat.zero_le _⟩ (j_M_layVoices hro eh10) rfl ?_
        refine kJ_aload_n 112 0 d_M_bestHolder_111 rfl rfl rfl rfl ?_
        refine kM_getR 115 6 793 d_M_bestHolder_112 l_M_29 km_786 rfl rfl rfl rfl ?_
        refine kJ_iload_n 116 1 d_M_bestHolder_115 rfl rfl rfl ?_
        obtain ⟨hg, hf⟩ := kG_some hf
        refine kM_iald 117 12 d_M_bestHolder_116 km_793 rfl hg rfl ?_
        refine kJ_iload 119 7 d_M_bestHolder_117 rfl rfl ?_
        refine kJ_icmp_ne 122 146 d_M_bestHolder_119 rfl rfl (fun hc => ?_) (fun hc => ?_)
        · have hf := kIf_f hf hc
          refine kJ_sub [0, 1, 2, 3, 4, 5, 6, 7] rfl ?_
          exact c_M_bestHolder_146 hro hrec76 hf
        · have hf := kIf_t hf hc
          refine kJ_iload 124 5 d_M_bestHolder_122 rfl rfl ?_
          refine kJ_if_lt 127 142 d_M_bestHolder_124 rfl rfl (fun hc => ?_) (fun hc => ?_)
          · have hf := kIf_t hf hc
            refine kJ_sub [0, 1, 2, 3, 4, 5, 6, 7] rfl ?_
            exact c_M_bestHolder_142 hro hrec76 hf
          · have hf := kIf_f hf hc
            refine kJ_aload_n 128 0 d_M_bestHolder_127 rfl rfl rfl rfl ?_
            refine kM_getR 131 7 794 d_M_bestHolder_128 l_M_32 km_786 rfl rfl rfl rfl ?_
            refine kJ_iload 133 7 d_M_bestHolder_131 rfl rfl ?_
            obtain ⟨hg, hf⟩ := kG_some hf
            refine kM_iald 134 12 d_M_bestHolder_133 km_794 rfl hg rfl ?_
            obtain ⟨v12, ev12, hf⟩ := kBi_some hf
            refine kM_calls 137 m_M_bits [.int (h10 794 (kx x7))] [] d_M_bestHolder_134 cl_M_71 w_912 rfl rfl (Nat.le_of_ble_eq_true rfl) ⟨Nat.le_of_ble_eq_true rfl, Nat.le_of_ble_eq_true rfl⟩ ⟨rfl, rfl⟩ ⟨Nat.zero_le _, Nat.zero_le _⟩ (j_M_bits hro ev12) rfl ?_
            refine kJ_iload 139 6 d_M_bestHolder_137 rfl rfl ?_
            refine kJ_icmp_ge 142 146 d_M_bestHolder_139 rfl rfl (fun hc => ?_) (fun hc => ?_)
            · have hf := kIf_t hf hc
              refine kJ_sub [0, 1, 2, 3, 4, 5, 6, 7] rfl ?_
              exact c_M_bestHolder_146 hro hrec76 hf
            · have hf := kIf_f hf hc
              refine kJ_sub [0, 1, 2, 3, 4, 5, 6, 7] rfl ?_
              exact c_M_bestHolder_142 hro hrec76 hf
def f_M_bestHolder (h : kH) (x1 : Int32) (x2 : Int32) : Option (Int32 × kH) := kBi (f_M_isMember h x1) fun v1 => if v1 = true then (kBi (f_M_isItem h x2) fun v2 => if v2 = true then (kBi (f_M_isPresent h x1) fun v3 => if v3 = true then (some ((-5), h)) else (kBi (f_M_isRecused h x1 x2) fun v4 => if v4 = true then (some ((-5), h)) else (kBi (f_M_pair h x2 x1 0) fun v5 => if v5 < 0 then (kG ((20 + (6 * x1)) + 3) 760 (kLet (h 787 (kx ((20 + (6 * x1)) + 3))) fun v6 => b_M_bestHolder_76 x1 x2 ((20 + (6 * x1)) + 3) v6 kFuel h (-6) 0 0)) else (some ((-5), h))))) else (some ((-1), h))) else (some ((-1), h))
theorem j_M_bestHolder {E : kE} {L : Nat} {xs : Nat → Int32} (hro : kRo E L xs) {h : kH} {x1 : Int32} {x2 : Int32} {r : Int32} {h' : kH} (hf : f_M_bestHolder h x1 x2 = some (r, h')) : JM E m_M_bestHolder [.ref 786, .int x1, .int x2] (mk h) (some r) (mk h') := by
  unfold f_M_bestHolder at hf
  refine JM.of pn_M (Nat.le_of_ble_eq_true rfl) ?_
  show kJ E m_M_bestHolder (some r) (mk h') 0 0 0 [(0, .ref 786), (1, .int x1), (2, .int x2)] [] (mk h)
  refine kJ_aload_n 1 0 d_M_bestHolder_0 rfl rfl rfl rfl ?_
  refine kJ_iload_n 2 1 d_M_bestHolder_1 rfl rfl rfl ?_
  obtain ⟨v1, ev1, hf⟩ := kBi_some hf
  refine kM_callv 5 m_M_isMember [.int x1] [] d_M_bestHolder_2 cl_M_56 ⟨w_889, w_66⟩ km_786 ⟨rfl, by decide⟩ ⟨_, _, rfl⟩ rfl rfl (Nat.le_of_ble_eq_true rfl) ⟨Nat.le_of_ble_eq_true rfl, Nat.le_of_ble_eq_true rfl⟩ ⟨rfl, rfl⟩ ⟨Nat.zero_le _, Nat.zero_le _⟩ (j_M_isMember hro ev1) rfl ?_
  refine kJ_if_eq 8 16 d_M_bestHolder_5 rfl rfl (fun hc => ?_) (fun hc => ?_)
  · have hf := kIf_f hf (kB2_0 hc)
    refine kJ_iconst 17 (-1) d_M_bestHolder_16 ki_m1 rfl ?_
    cases hf
    exact kJ_iret d_M_bestHolder_17 rfl rfl (Nat.zero_le _) (Nat.zero_le _)
  · have hf := kIf_t hf (kB2_1 hc)
    refine kJ_aload_n 9 0 d_M_bestHolder_8 rfl rfl rfl rfl ?_
    refine kJ_iload_n 10 2 d_M_bestHolder_9 rfl rfl rfl ?_
    obtain ⟨v2, ev2, hf⟩ := kBi_some hf
    refine kM_callv 13 m_M_isItem [.int x2] [] d_M_bestHolder_10 cl_M_78 ⟨w_928, w_71⟩ km_786 ⟨rfl, by decide⟩ ⟨_, _, rfl⟩ rfl rfl (Nat.le_of_ble_eq_true rfl) ⟨Nat.le_of_ble_eq_true rfl, Nat.le_of_ble_eq_true rfl⟩ ⟨rfl, rfl⟩ ⟨Nat.zero_le _, Nat.zero_le _⟩ (j_M_isItem hro ev2) rfl ?_
    refine kJ_if_ne 16 18 d_M_bestHolder_13 rfl rfl (fun hc => ?_) (fun hc => ?_)
    · have hf := kIf_t hf (kB2_1 hc)
      refine kJ_aload_n 19 0 d_M_bestHolder_18 rfl rfl rfl rfl ?_
      refine kJ_iload_n 20 1 d_M_bestHolder_19 rfl rfl rfl ?_
      obtain ⟨v3, ev3, hf⟩ := kBi_some hf
      refine kM_callv 23 m_M_isPresent [.int x1] [] d_M_bestHolder_20 cl_M_64 ⟨w_909, w_70⟩ km_786 ⟨rfl, by decide⟩ ⟨_, _, rfl⟩ rfl rfl (Nat.le_of_ble_eq_true rfl) ⟨Nat.le_of_ble_eq_true rfl, Nat.le_of_ble_eq_true rfl⟩ ⟨rfl, rfl⟩ ⟨Nat.zero_le _, Nat.zero_le _⟩ (j_M_isPresent hro ev3) rfl ?_
      refine kJ_if_ne 26 45 d_M_bestHolder_23 rfl rfl (fun hc => ?_) (fun hc => ?_)
      · have hf := kIf_t hf (kB2_1 hc)
        refine kJ_bipush 47 (-5) d_M_bestHolder_45 kb_m5 rfl ?_
        cases hf
        exact kJ_iret d_M_bestHolder_47 rfl rfl (Nat.zero_le _) (Nat.zero_le _)
      · have hf := kIf_f hf (kB2_0 hc)
        refine kJ_aload_n 27 0 d_M_bestHolder_26 rfl rfl rfl rfl ?_
        refine kJ_iload_n 28 1 d_M_bestHolder_27 rfl rfl rfl ?_
        refine kJ_iload_n 29 2 d_M_bestHolder_28 rfl rfl rfl ?_
        obtain ⟨v4, ev4, hf⟩ := kBi_some hf
        refine kM_callv 32 m_M_isRecused [.int x1, .int x2] [] d_M_bestHolder_29 cl_M_91 ⟨w_948, w_74⟩ km_786 ⟨rfl, by decide⟩ ⟨_, _, rfl⟩ rfl rfl (Nat.le_of_ble_eq_true rfl) ⟨Nat.le_of_ble_eq_true rfl, Nat.le_of_ble_eq_true rfl⟩ ⟨rfl, rfl⟩ ⟨Nat.zero_le _, Nat.zero_le _⟩ (j_M_isRecused hro ev4) rfl ?_
        refine kJ_if_ne 35 45 d_M_bestHolder_32 rfl rfl (fun hc => ?_) (fun hc => ?_)
        · have hf := kIf_t hf (kB2_1 hc)
          refine kJ_bipush 47 (-5) d_M_bestHolder_45 kb_m5 rfl ?_
          cases hf
          exact kJ_iret d_M_bestHolder_47 rfl rfl (Nat.zero_le _) (Nat.zero_le _)
        · have hf := kIf_f hf (kB2_0 hc)
          refine kJ_aload_n 36 0 d_M_bestHolder_35 rfl rfl rfl rfl ?_
          refine kJ_iload_n 37 2 d_M_bestHolder_36 rfl rfl rfl ?_
          refine kJ_iload_n 38 1 d_M_bestHolder_37 rfl rfl rfl ?_
          refine kJ_iconst 39 0 d_M_bestHolder_38 ki_0 rfl ?_
          obtain ⟨v5, ev5, hf⟩ := kBi_some hf
          refine kM_callv 42 m_M_pair [.int x2, .int x1, .int 0] [] d_M_bestHolder_39 cl_M_94 ⟨w_983, w_81⟩ km_786 ⟨rfl, by decide⟩ ⟨_, _, rfl⟩ rfl rfl (Nat.le_of_ble_eq_true rfl) ⟨Nat.le_of_ble_eq_true rfl, Nat.le_of_ble_eq_true rfl⟩ ⟨rfl, rfl⟩ ⟨Nat.zero_le _, Nat.zero_le _⟩ (j_M_pair hro ev5) rfl ?_
          refine kJ_if_lt 45 48 d_M_bestHolder_42 rfl rfl (fun hc => ?_) (fun hc => ?_)
          · have hf := kIf_t hf hc
            refine kJ_bipush 50 20 d_M_bestHolder_48 kb_20 rfl ?_
            refine kJ_bipush 52 6 d_M_bestHolder_50 kb_6 rfl ?_
            refine kJ_iload_n 53 1 d_M_bestHolder_52 rfl rfl rfl ?_
            refine kJ_imul 54 d_M_bestHolder_53 rfl ?_
            refine kJ_iadd 55 d_M_bestHolder_54 rfl ?_
            refine kJ_iconst 56 3 d_M_bestHolder_55 ki_3 rfl ?_
            refine kJ_iadd 57 d_M_bestHolder_56 rfl ?_
            refine kJ_istore_n 58 [(3, .int ((20 + (6 * x1)) + 3)), (0, .ref 786), (1, .int x1), (2, .int x2)] d_M_bestHolder_57 rfl (Nat.le_of_ble_eq_true rfl) rfl rfl ?_
            refine kJ_aload_n 59 1 d_M_bestHolder_58 rfl rfl rfl rfl ?_
            refine kM_getR 62 0 787 d_M_bestHolder_59 l_M_7 km_786 rfl rfl rfl rfl ?_
            refine kJ_iload_n 63 0 d_M_bestHolder_62 rfl rfl rfl ?_
            obtain ⟨hg, hf⟩ := kG_some hf
            refine kM_iald 64 760 d_M_bestHolder_63 km_787 rfl hg rfl ?_
            obtain ⟨v6, ev6, hf⟩ := kLet_e hf
            rw [← ev6]
            refine kJ_istore 66 [(4, .int v6), (3, .int ((20 + (6 * x1)) + 3)), (0, .ref 786), (1, .int x1), (2, .int x2)] d_M_bestHolder_64 (Nat.le_of_ble_eq_true rfl) rfl rfl ?_
            refine kJ_bipush 68 (-6) d_M_bestHolder_66 kb_m6 rfl ?_
            refine kJ_istore 70 [(5, .int (-6)), (4, .int v6), (3, .int ((20 + (6 * x1)) + 3)), (0, .ref 786), (1, .int x1), (2, .int x2)] d_M_bestHolder_68 (Nat.le_of_ble_eq_true rfl) rfl rfl ?_
            refine kJ_iconst 71 0 d_M_bestHolder_70 ki_0 rfl ?_
            refine kJ_istore 73 [(6, .int 0), (5, .int (-6)), (4, .int v6), (3, .int ((20 + (6 * x1)) + 3)), (0, .ref 786), (1, .int x1), (2, .int x2)] d_M_bestHolder_71 (Nat.le_of_ble_eq_true rfl) rfl rfl ?_
            refine kJ_iconst 74 0 d_M_bestHolder_73 ki_0 rfl ?_
            refine kJ_istore 76 [(7, .int 0), (6, .int 0), (5, .int (-6)), (4, .int v6), (3, .int ((20 + (6 * x1)) + 3)), (0, .ref 786), (1, .int x1), (2, .int x2)] d_M_bestHolder_74 (Nat.le_of_ble_eq_true rfl) rfl rfl ?_
            refine kJ_sub [5, 6, 7, 4, 3, 2, 1, 0] rfl ?_
            exact c_M_bestHolder_76 hro kFuel h (-6) 0 0 hf
          · have hf := kIf_f hf hc
            refine kJ_bipush 47 (-5) d_M_bestHolder_45 kb_m5 rfl ?_
            cases hf
            exact kJ_iret d_M_bestHolder_47 rfl rfl (Nat.zero_le _) (Nat.zero_le _)
    · have hf := kIf_f hf (kB2_0 hc)
      refine kJ_iconst 17 (-1) d_M_bestHolder_16 ki_m1 rfl ?_
      cases hf
      exact kJ_iret d_M_bestHolder_17 rfl rfl (Nat.zero_le _) (Nat.zero_le _)
def b_M_put_85 (x3 : Int32) : Nat → kH → Int64 → Int32 → Option (Int32 × kH)
  | 0, _, _, _ => none
  | n + 1, h, x4, x6 => (fun rec85 => if x6 < 0 then (kLet (hset h 786 7 ((h 786 7) + x3)) fun h1 => some ((h1 786 7), h1)) else (kG ((h 786 7) + x6) 80 (kLet (hset h 792 (kx ((h 786 7) + x6)) (Int64.toInt32 (x4 &&& 255))) fun h2 => rec85 h2 (kLushr x4 8) (x6 + (-1))))) (fun h' x4' x6' => b_M_put_85 x3 n h' x4' x6')
theorem c_M_put_85 {E : kE} {L : Nat} {xs : Nat → Int32} (hro : kRo E L xs) {x3 : Int32} {r : Int32} {h' : kH} : ∀ (n : Nat) (h : kH) (x4 : Int64) (x6 : Int32), b_M_put_85 x3 n h x4 x6 = some (r, h') → kJ E m_M_put (some r) (mk h') 0 0 85 [(0, .ref 786), (3, .int x3), (4, .long x4), (6, .int x6)] [] (mk h) := by
  intro n
  induction n with
  | zero =>
    intro h x4 x6 hf
    have hf : (none : Option (Int32 × kH)) = some (r, h') := hf
    cases hf
  | succ n hrec85 =>
    intro h x4 x6 hf
    rw [b_M_put_85] at hf
    dsimp only at hf
    refine kJ_iload 87 3 d_M_put_85 rfl rfl ?_
    refine kJ_if_lt 90 122 d_M_put_87 rfl rfl (fun hc => ?_) (fun hc => ?_)
    · have hf := kIf_t hf hc
      refine kJ_aload_n 123 0 d_M_put_122 rfl rfl rfl rfl ?_
      refine kJ_dup 124 d_M_put_123 rfl rfl ?_
      refine kM_getI 127 d_M_put_124 l_M_141 km_786 rfl rfl rfl ?_
      refine kJ_iload_n 128 1 d_M_put_127 rfl rfl rfl ?_
      refine kJ_iadd 129 d_M_put_128 rfl ?_
      refine kM_put 132 d_M_put_129 l_M_141 km_786 rfl rfl (kFit_int _) rfl ?_
      obtain ⟨h1, eh1, hf⟩ := kLet_e hf
      rw [← eh1]
      refine kJ_aload_n 133 0 d_M_put_132 rfl rfl rfl rfl ?_
      refine kM_getI 136 d_M_put_133 l_M_141 km_786 rfl rfl rfl ?_
      cases hf
      exact kJ_iret d_M_put_136 rfl rfl (Nat.zero_le _) (Nat.zero_le _)
    · have hf := kIf_f hf hc
      refine kJ_aload_n 91 0 d_M_put_90 rfl rfl rfl rfl ?_
      refine kM_getR 94 5 792 d_M_put_91 l_M_26 km_786 rfl rfl rfl rfl ?_
      refine kJ_aload_n 95 0 d_M_put_94 rfl rfl rfl rfl ?_
      refine kM_getI 98 d_M_put_95 l_M_141 km_786 rfl rfl rfl ?_
      refine kJ_iload 100 3 d_M_put_98 rfl rfl ?_
      refine kJ_iadd 101 d_M_put_100 rfl ?_
      refine kJ_lload 103 2 d_M_put_101 rfl rfl ?_
      refine kJ_ldc2 106 255 d_M_put_103 w_1093 rfl ?_
      refine kJ_land 107 d_M_put_106 rfl ?_
      refine kJ_l2i 108 d_M_put_107 rfl ?_
      obtain ⟨hg, hf⟩ := kG_some hf
      refine kM_iast 109 80 d_M_put_108 km_792 rfl hg rfl ?_
      obtain ⟨h2, eh2, hf⟩ := kLet_e hf
      rw [← eh2]
      refine kJ_lload 111 2 d_M_put_109 rfl rfl ?_
      refine kJ_bipush 113 8 d_M_put_111 kb_8 rfl ?_
      refine kJ_lushr 114 d_M_put_113 rfl ?_
      refine kJ_lstore 116 [(4, .long (kLushr x4 8)), (0, .ref 786), (3, .int x3), (6, .int x6)] d_M_put_114 (Nat.le_of_ble_eq_true rfl) rfl rfl ?_
      refine kJ_iinc 119 3 [(6, .int (x6 + (-1))), (4, .long (kLushr x4 8)), (0, .ref 786), (3, .int x3)] d_M_put_116 rfl ki_m1 (Nat.le_of_ble_eq_true rfl) rfl rfl ?_
      refine kJ_goto 85 d_M_put_119 rfl ?_
      refine kJ_sub [2, 3, 1, 0] rfl ?_
      exact hrec85 h2 (kLushr x4 8) (x6 + (-1)) hf
def b_M_put_5 (x1 : Int64) : Nat → kH → Int32 → Int64 → Option (Int32 × kH)
  | 0, _, _, _ => none
  | n + 1, h, x3, x4 => (fun rec5 => if (lg_cmp (x4 &&& 255) 0) = 0 then (if (lg_cmp x4 0) = 0 then (if x3 = 0 then (some ((-2), h)) else (if ((h 786 7) + x3) ≤ 80 then (b_M_put_85 x3 kFuel h x1 (x3 - 1)) else (some ((-4), h)))) else (some ((-2), h))) else (if (f_M_in (Int64.toInt32 (x4 &&& 255)) 33 126) = true then (rec5 h (x3 + 1) (kLushr x4 8)) else (some ((-2), h)))) (fun h' x3' x4' => b_M_put_5 x1 n h' x3' x4')
theorem c_M_put_5 {E : kE} {L : Nat} {xs : Nat → Int32} (hro : kRo E L xs) {x1 : Int64} {r : Int32} {h' : kH} : ∀ (n : Nat) (h : kH) (x3 : Int32) (x4 : Int64), b_M_put_5 x1 n h x3 x4 = some (r, h') → kJ E m_M_put (some r) (mk h') 0 0 5 [(0, .ref 786), (1, .long x1), (3, .int x3), (4, .long x4)] [] (mk h) := by
  intro n
  induction n with
  | zero =>
    intro h x3 x4 hf
    have hf : (none : Option (Int32 × kH)) = some (r, h') := hf
    cases hf
  | succ n hrec5 =>
    intro h x3 x4 hf
    rw [b_M_put_5] at hf
    dsimp only at hf
    refine kJ_lload 7 3 d_M_put_5 rfl rfl ?_
    refine kJ_ldc2 10 255 d_M_put_7 w_1093 rfl ?_
    refine kJ_land 11 d_M_put_10 rfl ?_
    refine kJ_lconst 12 0 d_M_put_11 (by decide) rfl ?_
    refine kJ_lcmp 13 d_M_put_12 rfl ?_
    refine kJ_if_eq 16 49 d_M_put_13 rfl rfl (fun hc => ?_) (fun hc => ?_)
    · have hf := kIf_t hf hc
      refine kJ_lload 51 3 d_M_put_49 rfl rfl ?_
      refine kJ_lconst 52 0 d_M_put_51 (by decide) rfl ?_
      refine kJ_lcmp 53 d_M_put_52 rfl ?_
      refine kJ_if_ne 56 60 d_M_put_53 rfl rfl (fun hc => ?_) (fun hc => ?_)
      · have hf := kIf_f hf hc
        refine kJ_bipush 62 (-2) d_M_put_60 kb_m2 rfl ?_
        cases hf
        exact kJ_iret d_M_put_62 rfl rfl (Nat.zero_le _) (Nat.zero_le _)
      · have hf := kIf_t hf hc
        refine kJ_iload_n 57 2 d_M_put_56 rfl rfl rfl ?_
        refine kJ_if_ne 60 63 d_M_put_57 rfl rfl (fun hc => ?_) (fun hc => ?_)
        · have hf := kIf_f hf hc
          refine kJ_aload_n 64 0 d_M_put_63 rfl rfl rfl rfl ?_
          refine kM_getI 67 d_M_put_64 l_M_141 km_786 rfl rfl rfl ?_
          refine kJ_iload_n 68 2 d_M_put_67 rfl rfl rfl ?_
          refine kJ_iadd 69 d_M_put_68 rfl ?_
          refine kJ_bipush 71 80 d_M_put_69 kb_80 rfl ?_
          refine kJ_icmp_le 74 77 d_M_put_71 rfl rfl (fun hc => ?_) (fun hc => ?_)
          · have hf := kIf_t hf hc
            refine kJ_lload_n 78 1 d_M_put_77 rfl rfl rfl ?_
            refine kJ_lstore 80 [(4, .long x1), (0, .ref 786), (1, .long x1), (3, .int x3)] d_M_put_78 (Nat.le_of_ble_eq_true rfl) rfl rfl ?_
            refine kJ_iload_n 81 3 d_M_put_80 rfl rfl rfl ?_
            refine kJ_iconst 82 1 d_M_put_81 ki_1 rfl ?_
            refine kJ_isub 83 d_M_put_82 rfl ?_
            refine kJ_istore 85 [(6, .int (x3 - 1)), (4, .long x1), (0, .ref 786), (1, .long x1), (3, .int x3)] d_M_put_83 (Nat.le_of_ble_eq_true rfl) rfl rfl ?_
            refine kJ_sub [2, 4, 1, 0] rfl ?_
            exact c_M_put_85 hro kFuel h x1 (x3 - 1) hf
          · have hf := kIf_f hf hc
            refine kJ_bipush 76 (-4) d_M_put_74 kb_m4 rfl ?_
            cases hf
            exact kJ_iret d_M_put_76 rfl rfl (Nat.zero_le _) (Nat.zero_le _)
        · have hf := kIf_t hf hc
          refine kJ_bipush 62 (-2) d_M_put_60 kb_m2 rfl ?_
          cases hf
          exact kJ_iret d_M_put_62 rfl rfl (Nat.zero_le _) (Nat.zero_le _)
    · have hf := kIf_f hf hc
      refine kJ_lload 18 3 d_M_put_16 rfl rfl ?_
      refine kJ_ldc2 21 255 d_M_put_18 w_1093 rfl ?_
      refine kJ_land 22 d_M_put_21 rfl ?_
      refine kJ_l2i 23 d_M_put_22 rfl ?_
      refine kJ_bipush 25 33 d_M_put_23 kb_33 rfl ?_
      refine kJ_bipush 27 126 d_M_put_25 kb_126 rfl ?_
      refine kM_calls 30 m_M_in [.int (Int64.toInt32 (x4 &&& 255)), .int 33, .int 126] [] d_M_put_27 cl_M_49 w_869 rfl rfl (Nat.le_of_ble_eq_true rfl) ⟨Nat.le_of_ble_eq_true rfl, Nat.le_of_ble_eq_true rfl⟩ ⟨rfl, rfl⟩ ⟨Nat.zero_le _, Nat.zero_le _⟩ (j_M_in hro rfl) rfl ?_
      refine kJ_if_ne 33 36 d_M_put_30 rfl rfl (fun hc => ?_) (fun hc => ?_)
      · have hf := kIf_t hf (kB2_1 hc)
        refine kJ_iinc 39 2 [(3, .int (x3 + 1)), (0, .ref 786), (1, .long x1), (4, .long x4)] d_M_put_36 rfl ki_1 (Nat.le_of_ble_eq_true rfl) rfl rfl ?_
        refine kJ_lload 41 3 d_M_put_39 rfl rfl ?_
        refine kJ_bipush 43 8 d_M_put_41 kb_8 rfl ?_
        refine kJ_lushr 44 d_M_put_43 rfl ?_
        refine kJ_lstore 46 [(4, .long (kLushr x4 8)), (3, .int (x3 + 1)), (0, .ref 786), (1, .long x1)] d_M_put_44 (Nat.le_of_ble_eq_true rfl) rfl rfl ?_
        refine kJ_goto 5 d_M_put_46 rfl ?_
        refine kJ_sub [2, 3, 1, 0] rfl ?_
        exact hrec5 h (x3 + 1) (kLushr x4 8) hf
      · have hf := kIf_f hf (kB2_0 hc)
        refine kJ_bipush 35 (-2) d_M_put_33 kb_m2 rfl ?_
        cases hf
        exact kJ_iret d_M_put_35 rfl rfl (Nat.zero_le _) (Nat.zero_le _)
def f_M_put (h : kH) (x1 : Int64) : Option (Int32 × kH) := b_M_put_5 x1 kFuel h 0 x1
theorem j_M_put {E : kE} {L : Nat} {xs : Nat → Int32} (hro : kRo E L xs) {h : kH} {x1 : Int64} {r : Int32} {h' : kH} (hf : f_M_put h x1 = some (r, h')) : JM E m_M_put [.ref 786, .long x1] (mk h) (some r) (mk h') := by
  unfold f_M_put at hf
  refine JM.of pn_M (Nat.le_of_ble_eq_true rfl) ?_
  show kJ E m_M_put (some r) (mk h') 0 0 0 [(0, .ref 786), (1, .long x1)] [] (mk h)
  refine kJ_iconst 1 0 d_M_put_0 ki_0 rfl ?_
  refine kJ_istore_n 2 [(3, .int 0), (0, .ref 786), (1, .long x1)] d_M_put_1 rfl (Nat.le_of_ble_eq_true rfl) rfl rfl ?_
  refine kJ_lload_n 3 2 d_M_put_2 rfl rfl rfl ?_
  refine kJ_lstore 5 [(4, .long x1), (3, .int 0), (0, .ref 786), (1, .long x1)] d_M_put_3 (Nat.le_of_ble_eq_true rfl) rfl rfl ?_
  refine kJ_sub [2, 3, 1, 0] rfl ?_
  exact c_M_put_5 hro kFuel h 0 x1 hf
def f_M_wipe (h : kH) : Option (Int32 × kH) := kLet (hset h 786 7 0) fun h1 => some ((h 786 7), h1)
theorem j_M_wipe {E : kE} {L : Nat} {xs : Nat → Int32} (hro : kRo E L xs) {h : kH} {r : Int32} {h' : kH} (hf : f_M_wipe h = some (r, h')) : JM E m_M_wipe [.ref 786] (mk h) (some r) (mk h') := by
  unfold f_M_wipe at hf
  refine JM.of pn_M (Nat.le_of_ble_eq_true rfl) ?_
  show kJ E m_M_wipe (some r) (mk h') 0 0 0 [(0, .ref 786)] [] (mk h)
  refine kJ_aload_n 1 0 d_M_wipe_0 rfl rfl rfl rfl ?_
  refine kM_getI 4 d_M_wipe_1 l_M_141 km_786 rfl rfl rfl ?_
  refine kJ_istore_n 5 [(1, .int (h 786 7)), (0, .ref 786)] d_M_wipe_4 rfl (Nat.le_of_ble_eq_true rfl) rfl rfl ?_
  refine kJ_aload_n 6 1 d_M_wipe_5 rfl rfl rfl rfl ?_
  refine kJ_iconst 7 0 d_M_wipe_6 ki_0 rfl ?_
  refine kM_put 10 d_M_wipe_7 l_M_141 km_786 rfl rfl (kFit_int _) rfl ?_
  obtain ⟨h1, eh1, hf⟩ := kLet_e hf
  rw [← eh1]
  refine kJ_iload_n 11 0 d_M_wipe_10 rfl rfl rfl ?_
  cases hf
  exact kJ_iret d_M_wipe_11 rfl rfl (Nat.zero_le _) (Nat.zero_le _)
def f_M_sign (h : kH) : Option Int32 := if (h 786 7) ≤ (h 786 14) then (some 0) else (kG (h 786 14) 80 (some (h 792 (kx (h 786 14)))))
theorem j_M_sign {E : kE} {L : Nat} {xs : Nat → Int32} (hro : kRo E L xs) {h : kH} {r : Int32} (hf : f_M_sign h = some r) : JM E m_M_sign [.ref 786] (mk h) (some r) (mk h) := by
  unfold f_M_sign at hf
  refine JM.of pn_M (Nat.le_of_ble_eq_true rfl) ?_
  show kJ E m_M_sign (some r) (mk h) 0 0 0 [(0, .ref 786)] [] (mk h)
  refine kJ_aload_n 1 0 d_M_sign_0 rfl rfl rfl rfl ?_
  refine kM_getI 4 d_M_sign_1 l_M_156 km_786 rfl rfl rfl ?_
  refine kJ_aload_n 5 0 d_M_sign_4 rfl rfl rfl rfl ?_
  refine kM_getI 8 d_M_sign_5 l_M_141 km_786 rfl rfl rfl ?_
  refine kJ_icmp_ge 11 23 d_M_sign_8 rfl rfl (fun hc => ?_) (fun hc => ?_)
  · have hf := kIf_t hf hc
    refine kJ_iconst 24 0 d_M_sign_23 ki_0 rfl ?_
    cases hf
    exact kJ_iret d_M_sign_24 rfl rfl (Nat.zero_le _) (Nat.zero_le _)
  · have hf := kIf_f hf hc
    refine kJ_aload_n 12 0 d_M_sign_11 rfl rfl rfl rfl ?_
    refine kM_getR 15 5 792 d_M_sign_12 l_M_26 km_786 rfl rfl rfl rfl ?_
    refine kJ_aload_n 16 0 d_M_sign_15 rfl rfl rfl rfl ?_
    refine kM_getI 19 d_M_sign_16 l_M_156 km_786 rfl rfl rfl ?_
    obtain ⟨hg, hf⟩ := kG_some hf
    refine kM_iald 20 80 d_M_sign_19 km_792 rfl hg rfl ?_
    refine kJ_goto 24 d_M_sign_20 rfl ?_
    cases hf
    exact kJ_iret d_M_sign_24 rfl rfl (Nat.zero_le _) (Nat.zero_le _)
def b_M_one_31 (h : kH) (x4 : Int32) (s0 : Nat) (s1 : Bool) : Option (Int32 × kH) := kLet (hset h s0 15 (kB2 s1)) fun h2 => if (h2 786 15) = 0 then (kLet (hset h2 786 14 ((h2 786 14) + 1)) fun h3 => some (x4, h3)) else (kLet (hset h2 786 14 ((h2 786 14) + 0)) fun h4 => some (x4, h4))
theorem c_M_one_31 {E : kE} {L : Nat} {xs : Nat → Int32} (hro : kRo E L xs) {h : kH} {x4 : Int32} {s0 : Nat} {s1 : Bool} (ks0 : kIs s0 7) {r : Int32} {h' : kH} (hf : b_M_one_31 h x4 s0 s1 = some (r, h')) : kJ E m_M_one (some r) (mk h') 0 0 31 [(0, .ref 786), (4, .int x4)] [.int (kB2 s1), .ref s0] (mk h) := by
  unfold b_M_one_31 at hf
  refine kM_put 34 d_M_one_31 l_M_162 ks0 rfl rfl (kB2_fit _) rfl ?_
  obtain ⟨h2, eh2, hf⟩ := kLet_e hf
  rw [← eh2]
  refine kJ_aload_n 35 0 d_M_one_34 rfl rfl rfl rfl ?_
  refine kJ_dup 36 d_M_one_35 rfl rfl ?_
  refine kM_getI 39 d_M_one_36 l_M_156 km_786 rfl rfl rfl ?_
  refine kJ_aload_n 40 0 d_M_one_39 rfl rfl rfl rfl ?_
  refine kM_getI 43 d_M_one_40 l_M_162 km_786 rfl rfl rfl ?_
  refine kJ_if_eq 46 50 d_M_one_43 rfl rfl (fun hc => ?_) (fun hc => ?_)
  · have hf := kIf_t hf hc
    refine kJ_iconst 51 1 d_M_one_50 ki_1 rfl ?_
    refine kJ_iadd 52 d_M_one_51 rfl ?_
    refine kM_put 55 d_M_one_52 l_M_156 km_786 rfl rfl (kFit_int _) rfl ?_
    obtain ⟨h3, eh3, hf⟩ := kLet_e hf
    rw [← eh3]
    refine kJ_iload 57 1 d_M_one_55 rfl rfl ?_
    cases hf
    exact kJ_iret d_M_one_57 rfl rfl (Nat.zero_le _) (Nat.zero_le _)
  · have hf := kIf_f hf hc
    refine kJ_iconst 47 0 d_M_one_46 ki_0 rfl ?_
    refine kJ_goto 51 d_M_one_47 rfl ?_
    refine kJ_iadd 52 d_M_one_51 rfl ?_
    refine kM_put 55 d_M_one_52 l_M_156 km_786 rfl rfl (kFit_int _) rfl ?_
    obtain ⟨h4, eh4, hf⟩ := kLet_e hf
    rw [← eh4]
    refine kJ_iload 57 1 d_M_one_55 rfl rfl ?_
    cases hf
    exact kJ_iret d_M_one_57 rfl rfl (Nat.zero_le _) (Nat.zero_le _)
def b_M_one_26 (h : kH) (x4 : Int32) (s0 : Nat) : Option (Int32 × kH) := b_M_one_31 h x4 s0 true
theorem c_M_one_26 {E : kE} {L : Nat} {xs : Nat → Int32} (hro : kRo E L xs) {h : kH} {x4 : Int32} {s0 : Nat} (ks0 : kIs s0 7) {r : Int32} {h' : kH} (hf : b_M_one_26 h x4 s0 = some (r, h')) : kJ E m_M_one (some r) (mk h') 0 0 26 [(0, .ref 786), (4, .int x4)] [.ref s0] (mk h) := by
  unfold b_M_one_26 at hf
  refine kJ_iconst 27 1 d_M_one_26 ki_1 rfl ?_
  refine kJ_goto 31 d_M_one_27 rfl ?_
  refine kJ_sub [0, 1] rfl ?_
  exact c_M_one_31 hro ks0 hf
def f_M_one (h : kH) (x1 : Int32) (x2 : Int32) (x3 : Int32) : Option (Int32 × kH) := kBi (f_M_sign h) fun v1 => if (h 786 15) = 0 then (if (f_M_in (v1 - x1) x2 x3) = true then (b_M_one_31 h (v1 - x1) 786 false) else (b_M_one_26 h (v1 - x1) 786)) else (b_M_one_26 h (v1 - x1) 786)
theorem j_M_one {E : kE} {L : Nat} {xs : Nat → Int32} (hro : kRo E L xs) {h : kH} {x1 : Int32} {x2 : Int32} {x3 : Int32} {r : Int32} {h' : kH} (hf : f_M_one h x1 x2 x3 = some (r, h')) : JM E m_M_one [.ref 786, .int x1, .int x2, .int x3] (mk h) (some r) (mk h') := by
  unfold f_M_one at hf
  refine JM.of pn_M (Nat.le_of_ble_eq_true rfl) ?_
  show kJ E m_M_one (some r) (mk h') 0 0 0 [(0, .ref 786), (1, .int x1), (2, .int x2), (3, .int x3)] [] (mk h)
  refine kJ_aload_n 1 0 d_M_one_0 rfl rfl rfl rfl ?_
  obtain ⟨v1, ev1, hf⟩ := kBi_some hf
  refine kM_callv 4 m_M_sign [] [] d_M_one_1 cl_M_159 ⟨w_1112, w_96⟩ km_786 ⟨rfl, by decide⟩ ⟨_, _, rfl⟩ rfl rfl (Nat.le_of_ble_eq_true rfl) ⟨Nat.le_of_ble_eq_true rfl, Nat.le_of_ble_eq_true rfl⟩ ⟨rfl, rfl⟩ ⟨Nat.zero_le _, Nat.zero_le _⟩ (j_M_sign hro ev1) rfl ?_
  refine kJ_iload_n 5 1 d_M_one_4 rfl rfl rfl ?_
  refine kJ_isub 6 d_M_one_5 rfl ?_
  refine kJ_istore 8 [(4, .int (v1 - x1)), (0, .ref 786), (1, .int x1), (2, .int x2), (3, .int x3)] d_M_one_6 (Nat.le_of_ble_eq_true rfl) rfl rfl ?_
  refine kJ_aload_n 9 1 d_M_one_8 rfl rfl rfl rfl ?_
  refine kJ_aload_n 10 1 d_M_one_9 rfl rfl rfl rfl ?_
  refine kM_getI 13 d_M_one_10 l_M_162 km_786 rfl rfl rfl ?_
  refine kJ_if_ne 16 26 d_M_one_13 rfl rfl (fun hc => ?_) (fun hc => ?_)
  · have hf := kIf_f hf hc
    refine kJ_sub [1, 0] rfl ?_
    exact c_M_one_26 hro km_786 hf
  · have hf := kIf_t hf hc
    refine kJ_iload 18 0 d_M_one_16 rfl rfl ?_
    refine kJ_iload_n 19 3 d_M_one_18 rfl rfl rfl ?_
    refine kJ_iload_n 20 4 d_M_one_19 rfl rfl rfl ?_
    refine kM_calls 23 m_M_in [.int (v1 - x1), .int x2, .int x3] [.ref 786] d_M_one_20 cl_M_49 w_869 rfl rfl (Nat.le_of_ble_eq_true rfl) ⟨Nat.le_of_ble_eq_true rfl, Nat.le_of_ble_eq_true rfl⟩ ⟨rfl, rfl⟩ ⟨Nat.zero_le _, Nat.zero_le _⟩ (j_M_in hro rfl) rfl ?_
    refine kJ_if_ne 26 30 d_M_one_23 rfl rfl (fun hc => ?_) (fun hc => ?_)
    · have hf := kIf_t hf (kB2_1 hc)
      refine kJ_iconst 31 0 d_M_one_30 ki_0 rfl ?_
      refine kJ_sub [1, 0] rfl ?_
      exact c_M_one_31 hro km_786 hf
    · have hf := kIf_f hf (kB2_0 hc)
      refine kJ_sub [1, 0] rfl ?_
      exact c_M_one_26 hro km_786 hf
def b_M_number_10 : Nat → kH → Int32 → Option (Int32 × kH)
  | 0, _, _ => none
  | n + 1, h, x1 => (fun rec10 => if (h 786 15) = 0 then (if x1 ≤ 0 then (some (x1, h)) else (kBi (f_M_sign h) fun v3 => if (f_M_in v3 48 57) = true then (kBi (f_M_sign h) fun v4 => if 999 < (((10 * x1) + v4) - 48) then (some (x1, h)) else (kBi (f_M_sign h) fun v5 => kLet (hset h 786 14 ((h 786 14) + 1)) fun h6 => rec10 h6 (((10 * x1) + v5) - 48))) else (some (x1, h)))) else (some (x1, h))) (fun h' x1' => b_M_number_10 n h' x1')
theorem c_M_number_10 {E : kE} {L : Nat} {xs : Nat → Int32} (hro : kRo E L xs) {r : Int32} {h' : kH} : ∀ (n : Nat) (h : kH) (x1 : Int32), b_M_number_10 n h x1 = some (r, h') → kJ E m_M_number (some r) (mk h') 0 0 10 [(0, .ref 786), (1, .int x1)] [] (mk h) := by
  intro n
  induction n with
  | zero =>
    intro h x1 hf
    have hf : (none : Option (Int32 × kH)) = some (r, h') := hf
    cases hf
  | succ n hrec10 =>
    intro h x1 hf
    rw [b_M_number_10] at hf
    dsimp only at hf
    refine kJ_aload_n 11 0 d_M_number_10 rfl rfl rfl rfl ?_
    refine kM_getI 14 d_M_number_11 l_M_162 km_786 rfl rfl rfl ?_
    refine kJ_if_ne 17 79 d_M_number_14 rfl rfl (fun hc => ?_) (fun hc => ?_)
    · have hf := kIf_f hf hc
      refine kJ_iload_n 80 1 d_M_number_79 rfl rfl rfl ?_
      cases hf
      exact kJ_iret d_M_number_80 rfl rfl (Nat.zero_le _) (Nat.zero_le _)
    · have hf := kIf_t hf hc
      refine kJ_iload_n 18 1 d_M_number_17 rfl rfl rfl ?_
      refine kJ_if_le 21 79 d_M_number_18 rfl rfl (fun hc => ?_) (fun hc => ?_)
      · have hf := kIf_t hf hc
        refine kJ_iload_n 80 1 d_M_number_79 rfl rfl rfl ?_
        cases hf
        exact kJ_iret d_M_number_80 rfl rfl (Nat.zero_le _) (Nat.zero_le _)
      · have hf := kIf_f hf hc
        refine kJ_aload_n 22 0 d_M_number_21 rfl rfl rfl rfl ?_
        obtain ⟨v3, ev3, hf⟩ := kBi_some hf
        refine kM_callv 25 m_M_sign [] [] d_M_number_22 cl_M_159 ⟨w_1112, w_96⟩ km_786 ⟨rfl, by decide⟩ ⟨_, _, rfl⟩ rfl rfl (Nat.le_of_ble_eq_true rfl) ⟨Nat.le_of_ble_eq_true rfl, Nat.le_of_ble_eq_true rfl⟩ ⟨rfl, rfl⟩ ⟨Nat.zero_le _, Nat.zero_le _⟩ (j_M_sign hro ev3) rfl ?_
        refine kJ_bipush 27 48 d_M_number_25 kb_48 rfl ?_
        refine kJ_bipush 29 57 d_M_number_27 kb_57 rfl ?_
        refine kM_calls 32 m_M_in [.int v3, .int 48, .int 57] [] d_M_number_29 cl_M_49 w_869 rfl rfl (Nat.le_of_ble_eq_true rfl) ⟨Nat.le_of_ble_eq_true rfl, Nat.le_of_ble_eq_true rfl⟩ ⟨rfl, rfl⟩ ⟨Nat.zero_le _, Nat.zero_le _⟩ (j_M_in hro rfl) rfl ?_
        refine kJ_if_eq 35 79 d_M_number_32 rfl rfl (fun hc => ?_) (fun hc => ?_)
        · have hf := kIf_f hf (kB2_0 hc)
          refine kJ_iload_n 80 1 d_M_number_79 rfl rfl rfl ?_
          cases hf
          exact kJ_iret d_M_number_80 rfl rfl (Nat.zero_le _) (Nat.zero_le _)
        · have hf := kIf_t hf (kB2_1 hc)
          refine kJ_bipush 37 10 d_M_number_35 kb_10 rfl ?_
          refine kJ_iload_n 38 1 d_M_number_37 rfl rfl rfl ?_
          refine kJ_imul 39 d_M_number_38 rfl ?_
          refine kJ_aload_n 40 0 d_M_number_39 rfl rfl rfl rfl ?_
          obtain ⟨v4, ev4, hf⟩ := kBi_some hf
          refine kM_callv 43 m_M_sign [] [.int (10 * x1)] d_M_number_40 cl_M_159 ⟨w_1112, w_96⟩ km_786 ⟨rfl, by decide⟩ ⟨_, _, rfl⟩ rfl rfl (Nat.le_of_ble_eq_true rfl) ⟨Nat.le_of_ble_eq_true rfl, Nat.le_of_ble_eq_true rfl⟩ ⟨rfl, rfl⟩ ⟨Nat.zero_le _, Nat.zero_le _⟩ (j_M_sign hro ev4) rfl ?_
          refine kJ_iadd 44 d_M_number_43 rfl ?_
          refine kJ_bipush 46 48 d_M_number_44 kb_48 rfl ?_
          refine kJ_isub 47 d_M_number_46 rfl ?_
          refine kJ_sipush 50 999 d_M_number_47 ks_999 rfl ?_
          refine kJ_icmp_gt 53 79 d_M_number_50 rfl rfl (fun hc => ?_) (fun hc => ?_)
          · have hf := kIf_t hf hc
            refine kJ_iload_n 80 1 d_M_number_79 rfl rfl rfl ?_
            cases hf
            exact kJ_iret d_M_number_80 rfl rfl (Nat.zero_le _) (Nat.zero_le _)
          · have hf := kIf_f hf hc
            refine kJ_bipush 55 10 d_M_number_53 kb_10 rfl ?_
            refine kJ_iload_n 56 1 d_M_number_55 rfl rfl rfl ?_
            refine kJ_imul 57 d_M_number_56 rfl ?_
            refine kJ_aload_n 58 0 d_M_number_57 rfl rfl rfl rfl ?_
            obtain ⟨v5, ev5, hf⟩ := kBi_some hf
            refine kM_callv 61 m_M_sign [] [.int (10 * x1)] d_M_number_58 cl_M_159 ⟨w_1112, w_96⟩ km_786 ⟨rfl, by decide⟩ ⟨_, _, rfl⟩ rfl rfl (Nat.le_of_ble_eq_true rfl) ⟨Nat.le_of_ble_eq_true rfl, Nat.le_of_ble_eq_true rfl⟩ ⟨rfl, rfl⟩ ⟨Nat.zero_le _, Nat.zero_le _⟩ (j_M_sign hro ev5) rfl ?_
            refine kJ_iadd 62 d_M_number_61 rfl ?_
            refine kJ_bipush 64 48 d_M_number_62 kb_48 rfl ?_
            refine kJ_isub 65 d_M_number_64 rfl ?_
            refine kJ_istore_n 66 [(1, .int (((10 * x1) + v5) - 48)), (0, .ref 786)] d_M_number_65 rfl (Nat.le_of_ble_eq_true rfl) rfl rfl ?_
            refine kJ_aload_n 67 1 d_M_number_66 rfl rfl rfl rfl ?_
            refine kJ_dup 68 d_M_number_67 rfl rfl ?_
            refine kM_getI 71 d_M_number_68 l_M_156 km_786 rfl rfl rfl ?_
            refine kJ_iconst 72 1 d_M_number_71 ki_1 rfl ?_
            refine kJ_iadd 73 d_M_number_72 rfl ?_
            refine kM_put 76 d_M_number_73 l_M_156 km_786 rfl rfl (kFit_int _) rfl ?_
            obtain ⟨h6, eh6, hf⟩ := kLet_e hf
            rw [← eh6]
            refine kJ_goto 10 d_M_number_76 rfl ?_
            refine kJ_sub [1, 0] rfl ?_
            exact hrec10 h6 (((10 * x1) + v5) - 48) hf
def f_M_number (h : kH) : Option (Int32 × kH) := kBd (f_M_one h 48 0 9) fun v2 h1 => b_M_number_10  kFuel h1 v2
theorem j_M_number {E : kE} {L : Nat} {xs : Nat → Int32} (hro : kRo E L xs) {h : kH} {r : Int32} {h' : kH} (hf : f_M_number h = some (r, h')) : JM E m_M_number [.ref 786] (mk h) (some r) (mk h') := by
  unfold f_M_number at hf
  refine JM.of pn_M (Nat.le_of_ble_eq_true rfl) ?_
  show kJ E m_M_number (some r) (mk h') 0 0 0 [(0, .ref 786)] [] (mk h)
  refine kJ_aload_n 1 0 d_M_number_0 rfl rfl rfl rfl ?_
  refine kJ_bipush 3 48 d_M_number_1 kb_48 rfl ?_
  refine kJ_iconst 4 0 d_M_number_3 ki_0 rfl ?_
  refine kJ_bipush 6 9 d_M_number_4 kb_9 rfl ?_
  obtain ⟨v2, h1, ev2, hf⟩ := kBd_some hf
  refine kM_callv 9 m_M_one [.int 48, .int 0, .int 9] [] d_M_number_6 cl_M_165 ⟨w_1120, w_98⟩ km_786 ⟨rfl, by decide⟩ ⟨_, _, rfl⟩ rfl rfl (Nat.le_of_ble_eq_true rfl) ⟨Nat.le_of_ble_eq_true rfl, Nat.le_of_ble_eq_true rfl⟩ ⟨rfl, rfl⟩ ⟨Nat.zero_le _, Nat.zero_le _⟩ (j_M_one hro ev2) rfl ?_
  refine kJ_istore_n 10 [(1, .int v2), (0, .ref 786)] d_M_number_9 rfl (Nat.le_of_ble_eq_true rfl) rfl rfl ?_
  refine kJ_sub [1, 0] rfl ?_
  exact c_M_number_10 hro kFuel h1 v2 hf
def b_M_readOne_219 (h : kH) : Option (kH) := kLet (hset h 786 13 ((h 786 13) + 1)) fun h6 => some h6
theorem c_M_readOne_219 {E : kE} {L : Nat} {xs : Nat → Int32} (hro : kRo E L xs) {h : kH} {h' : kH} (hf : b_M_readOne_219 h = some h') : kJ E m_M_readOne none (mk h') 0 0 219 [(0, .ref 786)] [] (mk h) := by
  unfold b_M_readOne_219 at hf
  refine kJ_aload_n 220 0 d_M_readOne_219 rfl rfl rfl rfl ?_
  refine kJ_dup 221 d_M_readOne_220 rfl rfl ?_
  refine kM_getI 224 d_M_readOne_221 l_M_168 km_786 rfl rfl rfl ?_
  refine kJ_iconst 225 1 d_M_readOne_224 ki_1 rfl ?_
  refine kJ_iadd 226 d_M_readOne_225 rfl ?_
  refine kM_put 229 d_M_readOne_226 l_M_168 km_786 rfl rfl (kFit_int _) rfl ?_
  obtain ⟨h6, eh6, hf⟩ := kLet_e hf
  rw [← eh6]
  cases hf
  exact kJ_ret d_M_readOne_229 rfl (Nat.zero_le _) (Nat.zero_le _)
def b_M_readOne_218 (h : kH) (s0 : Nat) (s1 : Int32) (s2 : Int32) : Option (kH) := kG s1 240 (kLet (hset h s0 (kx s1) s2) fun h19 => b_M_readOne_219 h19)
theorem c_M_readOne_218 {E : kE} {L : Nat} {xs : Nat → Int32} (hro : kRo E L xs) {h : kH} {s0 : Nat} {s1 : Int32} {s2 : Int32} (ks0 : kIs s0 16) {h' : kH} (hf : b_M_readOne_218 h s0 s1 s2 = some h') : kJ E m_M_readOne none (mk h') 0 0 218 [(0, .ref 786)] [.int s2, .int s1, .ref s0] (mk h) := by
  unfold b_M_readOne_218 at hf
  obtain ⟨hg, hf⟩ := kG_some hf
  refine kM_iast 219 240 d_M_readOne_218 ks0 rfl hg rfl ?_
  obtain ⟨h19, eh19, hf⟩ := kLet_e hf
  rw [← eh19]
  refine kJ_sub [0] rfl ?_
  exact c_M_readOne_219 hro hf
def b_M_readOne_217 (h : kH) (s0 : Nat) (s1 : Int32) : Option (kH) := b_M_readOne_218 h s0 s1 0
theorem c_M_readOne_217 {E : kE} {L : Nat} {xs : Nat → Int32} (hro : kRo E L xs) {h : kH} {s0 : Nat} {s1 : Int32} (ks0 : kIs s0 16) {h' : kH} (hf : b_M_readOne_217 h s0 s1 = some h') : kJ E m_M_readOne none (mk h') 0 0 217 [(0, .ref 786)] [.int s1, .ref s0] (mk h) := by
  unfold b_M_readOne_217 at hf
  refine kJ_iconst 218 0 d_M_readOne_217 ki_0 rfl ?_
  refine kJ_sub [0] rfl ?_
  exact c_M_readOne_218 hro ks0 hf
def b_M_readOne_67 (h : kH) (x1 : Int32) (x2 : Int32) (s0 : Nat) (s1 : Bool) : Option (kH) := kLet (hset h s0 15 (kB2 s1)) fun h3 => if (h3 786 15) = 0 then (kLet (hset h3 786 14 ((h3 786 14) + 1)) fun h4 => if x2 = 99 then (b_M_readOne_219 h4) else (if x2 = 109 then (kBd (f_M_number h4) fun v8 h7 => kG (x1 + 1) 240 (kLet (hset h7 796 (kx (x1 + 1)) v8) fun h9 => b_M_readOne_219 h9)) else (if x2 = 111 then (kBd (f_M_number h4) fun v11 h10 => kG (x1 + 1) 240 (kLet (hset h10 796 (kx (x1 + 1)) v11) fun h12 => b_M_readOne_219 h12)) else (if x2 = 120 then (kBd (f_M_one h4 48 1 2) fun v14 h13 => kG (x1 + 1) 240 (kLet (hset h13 796 (kx (x1 + 1)) v14) fun h15 => b_M_readOne_219 h15)) else (kBd (f_M_one h4 65 0 11) fun v17 h16 => kG (x1 + 1) 240 (kLet (hset h16 796 (kx (x1 + 1)) v17) fun h18 => if x2 = 118 then (if (h18 786 15) = 0 then (kBd (f_M_one h18 48 0 2) fun v21 h20 => b_M_readOne_218 h20 796 (x1 + 2) v21) else (b_M_readOne_217 h18 796 (x1 + 2))) else (b_M_readOne_217 h18 796 (x1 + 2)))))))) else (some h3)
theorem c_M_readOne_67 {E : kE} {L : Nat} {xs : Nat → Int32} (hro : kRo E L xs) {h : kH} {x1 : Int32} {x2 : Int32} {s0 : Nat} {s1 : Bool} (ks0 : kIs s0 7) {h' : kH} (hf : b_M_readOne_67 h x1 x2 s0 s1 = some h') : kJ E m_M_readOne none (mk h') 0 0 67 [(0, .ref 786), (1, .int x1), (2, .int x2)] [.int (kB2 s1), .ref s0] (mk h) := by
  unfold b_M_readOne_67 at hf
  refine kM_put 70 d_M_readOne_67 l_M_162 ks0 rfl rfl (kB2_fit _) rfl ?_
  obtain ⟨h3, eh3, hf⟩ := kLet_e hf
  rw [← eh3]
  refine kJ_aload_n 71 0 d_M_readOne_70 rfl rfl rfl rfl ?_
  refine kM_getI 74 d_M_readOne_71 l_M_162 km_786 rfl rfl rfl ?_
  refine kJ_if_eq 77 78 d_M_readOne_74 rfl rfl (fun hc => ?_) (fun hc => ?_)
  · have hf := kIf_t hf hc
    refine kJ_aload_n 79 0 d_M_readOne_78 rfl rfl rfl rfl ?_
    refine kJ_dup 80 d_M_readOne_79 rfl rfl ?_
    refine kM_getI 83 d_M_readOne_80 l_M_156 km_786 rfl rfl rfl ?_
    refine kJ_iconst 84 1 d_M_readOne_83 ki_1 rfl ?_
    refine kJ_iadd 85 d_M_readOne_84 rfl ?_
    refine kM_put 88 d_M_readOne_85 l_M_156 km_786 rfl rfl (kFit_int _) rfl ?_
    obtain ⟨h4, eh4, hf⟩ := kLet_e hf
    rw [← eh4]
    refine kJ_iload_n 89 2 d_M_readOne_88 rfl rfl rfl ?_
    by_cases c0 : x2 = 99
    · have hf := kIf_t hf c0
      refine kJ_lookup 147 d_M_readOne_89 (by decide) (by rw [c0]; try rfl) rfl ?_
      refine kJ_goto 219 d_M_readOne_147 rfl ?_
      refine kJ_sub [0] rfl ?_
      exact c_M_readOne_219 hro hf
    · have hf := kIf_f hf c0
      by_cases c1 : x2 = 109
      · have hf := kIf_t hf c1
        refine kJ_lookup 132 d_M_readOne_89 (by decide) (by rw [c1]; try rfl) rfl ?_
        refine kJ_aload_n 133 0 d_M_readOne_132 rfl rfl rfl rfl ?_
        refine kM_getR 136 9 796 d_M_readOne_133 l_M_38 km_786 rfl rfl rfl rfl ?_
        refine kJ_iload_n 137 1 d_M_readOne_136 rfl rfl rfl ?_
        refine kJ_iconst 138 1 d_M_readOne_137 ki_1 rfl ?_
        refine kJ_iadd 139 d_M_readOne_138 rfl ?_
        refine kJ_aload_n 140 0 d_M_readOne_139 rfl rfl rfl rfl ?_
        obtain ⟨v8, h7, ev8, hf⟩ := kBd_some hf
        refine kM_callv 143 m_M_number [] [.int (x1 + 1), .ref 796] d_M_readOne_140 cl_M_171 ⟨w_1116, w_97⟩ km_786 ⟨rfl, by decide⟩ ⟨_, _, rfl⟩ rfl rfl (Nat.le_of_ble_eq_true rfl) ⟨Nat.le_of_ble_eq_true rfl, Nat.le_of_ble_eq_true rfl⟩ ⟨rfl, rfl⟩ ⟨Nat.zero_le _, Nat.zero_le _⟩ (j_M_number hro ev8) rfl ?_
        obtain ⟨hg, hf⟩ := kG_some hf
        refine kM_iast 144 240 d_M_readOne_143 km_796 rfl hg rfl ?_
        obtain ⟨h9, eh9, hf⟩ := kLet_e hf
        rw [← eh9]
        refine kJ_goto 219 d_M_readOne_144 rfl ?_
        refine kJ_sub [0] rfl ?_
        exact c_M_readOne_219 hro hf
      · have hf := kIf_f hf c1
        by_cases c2 : x2 = 111
        · have hf := kIf_t hf c2
          refine kJ_lookup 132 d_M_readOne_89 (by decide) (by rw [c2]; try rfl) rfl ?_
          refine kJ_aload_n 133 0 d_M_readOne_132 rfl rfl rfl rfl ?_
          refine kM_getR 136 9 796 d_M_readOne_133 l_M_38 km_786 rfl rfl rfl rfl ?_
          refine kJ_iload_n 137 1 d_M_readOne_136 rfl rfl rfl ?_
          refine kJ_iconst 138 1 d_M_readOne_137 ki_1 rfl ?_
          refine kJ_iadd 139 d_M_readOne_138 rfl ?_
          refine kJ_aload_n 140 0 d_M_readOne_139 rfl rfl rfl rfl ?_
          obtain ⟨v11, h10, ev11, hf⟩ := kBd_some hf
          refine kM_callv 143 m_M_number [] [.int (x1 + 1), .ref 796] d_M_readOne_140 cl_M_171 ⟨w_1116, w_97⟩ km_786 ⟨rfl, by decide⟩ ⟨_, _, rfl⟩ rfl rfl (Nat.le_of_ble_eq_true rfl) ⟨Nat.le_of_ble_eq_true rfl, Nat.le_of_ble_eq_true rfl⟩ ⟨rfl, rfl⟩ ⟨Nat.zero_le _, Nat.zero_le _⟩ (j_M_number hro ev11) rfl ?_
          obtain ⟨hg, hf⟩ := kG_some hf
          refine kM_iast 144 240 d_M_readOne_143 km_796 rfl hg rfl ?_
          obtain ⟨h12, eh12, hf⟩ := kLet_e hf
          rw [← eh12]
          refine kJ_goto 219 d_M_readOne_144 rfl ?_
          refine kJ_sub [0] rfl ?_
          exact c_M_readOne_219 hro hf
        · have hf := kIf_f hf c2
          by_cases c3 : x2 = 120
          · have hf := kIf_t hf c3
            refine kJ_lookup 150 d_M_readOne_89 (by decide) (by rw [c3]; try rfl) rfl ?_
            refine kJ_aload_n 151 0 d_M_readOne_150 rfl rfl rfl rfl ?_
            refine kM_getR 154 9 796 d_M_readOne_151 l_M_38 km_786 rfl rfl rfl rfl ?_
            refine kJ_iload_n 155 1 d_M_readOne_154 rfl rfl rfl ?_
            refine kJ_iconst 156 1 d_M_readOne_155 ki_1 rfl ?_
            refine kJ_iadd 157 d_M_readOne_156 rfl ?_
            refine kJ_aload_n 158 0 d_M_readOne_157 rfl rfl rfl rfl ?_
            refine kJ_bipush 160 48 d_M_readOne_158 kb_48 rfl ?_
            refine kJ_iconst 161 1 d_M_readOne_160 ki_1 rfl ?_
            refine kJ_iconst 162 2 d_M_readOne_161 ki_2 rfl ?_
            obtain ⟨v14, h13, ev14, hf⟩ := kBd_some hf
            refine kM_callv 165 m_M_one [.int 48, .int 1, .int 2] [.int (x1 + 1), .ref 796] d_M_readOne_162 cl_M_165 ⟨w_1120, w_98⟩ km_786 ⟨rfl, by decide⟩ ⟨_, _, rfl⟩ rfl rfl (Nat.le_of_ble_eq_true rfl) ⟨Nat.le_of_ble_eq_true rfl, Nat.le_of_ble_eq_true rfl⟩ ⟨rfl, rfl⟩ ⟨Nat.zero_le _, Nat.zero_le _⟩ (j_M_one hro ev14) rfl ?_
            obtain ⟨hg, hf⟩ := kG_some hf
            refine kM_iast 166 240 d_M_readOne_165 km_796 rfl hg rfl ?_
            obtain ⟨h15, eh15, hf⟩ := kLet_e hf
            rw [← eh15]
            refine kJ_goto 219 d_M_readOne_166 rfl ?_
            refine kJ_sub [0] rfl ?_
            exact c_M_readOne_219 hro hf
          · have hf := kIf_f hf c3
            refine kJ_lookup 169 d_M_readOne_89 (by decide) ((lv_osw c0 rfl).trans ((lv_osw c1 rfl).trans ((lv_osw c2 rfl).trans ((lv_osw c3 rfl).trans rfl)))) rfl ?_
            refine kJ_aload_n 170 0 d_M_readOne_169 rfl rfl rfl rfl ?_
            refine kM_getR 173 9 796 d_M_readOne_170 l_M_38 km_786 rfl rfl rfl rfl ?_
            refine kJ_iload_n 174 1 d_M_readOne_173 rfl rfl rfl ?_
            refine kJ_iconst 175 1 d_M_readOne_174 ki_1 rfl ?_
            refine kJ_iadd 176 d_M_readOne_175 rfl ?_
            refine kJ_aload_n 177 0 d_M_readOne_176 rfl rfl rfl rfl ?_
            refine kJ_bipush 179 65 d_M_readOne_177 kb_65 rfl ?_
            refine kJ_iconst 180 0 d_M_readOne_179 ki_0 rfl ?_
            refine kJ_bipush 182 11 d_M_readOne_180 kb_11 rfl ?_
            obtain ⟨v17, h16, ev17, hf⟩ := kBd_some hf
            refine kM_callv 185 m_M_one [.int 65, .int 0, .int 11] [.int (x1 + 1), .ref 796] d_M_readOne_182 cl_M_165 ⟨w_1120, w_98⟩ km_786 ⟨rfl, by decide⟩ ⟨_, _, rfl⟩ rfl rfl (Nat.le_of_ble_eq_true rfl) ⟨Nat.le_of_ble_eq_true rfl, Nat.le_of_ble_eq_true rfl⟩ ⟨rfl, rfl⟩ ⟨Nat.zero_le _, Nat.zero_le _⟩ (j_M_one hro ev17) rfl ?_
            obtain ⟨hg, hf⟩ := kG_some hf
            refine kM_iast 186 240 d_M_readOne_185 km_796 rfl hg rfl ?_
            obtain ⟨h18, eh18, hf⟩ := kLet_e hf
            rw [← eh18]
            refine kJ_aload_n 187 0 d_M_readOne_186 rfl rfl rfl rfl ?_
            refine kM_getR 190 9 796 d_M_readOne_187 l_M_38 km_786 rfl rfl rfl rfl ?_
            refine kJ_iload_n 191 1 d_M_readOne_190 rfl rfl rfl ?_
            refine kJ_iconst 192 2 d_M_readOne_191 ki_2 rfl ?_
            refine kJ_iadd 193 d_M_readOne_192 rfl ?_
            refine kJ_iload_n 194 2 d_M_readOne_193 rfl rfl rfl ?_
            refine kJ_bipush 196 118 d_M_readOne_194 kb_118 rfl ?_
            refine kJ_icmp_ne 199 217 d_M_readOne_196 rfl rfl (fun hc => ?_) (fun hc => ?_)
            · have hf := kIf_f hf hc
              refine kJ_sub [0] rfl ?_
              exact c_M_readOne_217 hro km_796 hf
            · have hf := kIf_t hf hc
              refine kJ_aload_n 200 0 d_M_readOne_199 rfl rfl rfl rfl ?_
              refine kM_getI 203 d_M_readOne_200 l_M_162 km_786 rfl rfl rfl ?_
              refine kJ_if_ne 206 217 d_M_readOne_203 rfl rfl (fun hc => ?_) (fun hc => ?_)
              · have hf := kIf_f hf hc
                refine kJ_sub [0] rfl ?_
                exact c_M_readOne_217 hro km_796 hf
              · have hf := kIf_t hf hc
                refine kJ_aload_n 207 0 d_M_readOne_206 rfl rfl rfl rfl ?_
                refine kJ_bipush 209 48 d_M_readOne_207 kb_48 rfl ?_
                refine kJ_iconst 210 0 d_M_readOne_209 ki_0 rfl ?_
                refine kJ_iconst 211 2 d_M_readOne_210 ki_2 rfl ?_
                obtain ⟨v21, h20, ev21, hf⟩ := kBd_some hf
                refine kM_callv 214 m_M_one [.int 48, .int 0, .int 2] [.int (x1 + 2), .ref 796] d_M_readOne_211 cl_M_165 ⟨w_1120, w_98⟩ km_786 ⟨rfl, by decide⟩ ⟨_, _, rfl⟩ rfl rfl (Nat.le_of_ble_eq_true rfl) ⟨Nat.le_of_ble_eq_true rfl, Nat.le_of_ble_eq_true rfl⟩ ⟨rfl, rfl⟩ ⟨Nat.zero_le _, Nat.zero_le _⟩ (j_M_one hro ev21) rfl ?_
                refine kJ_goto 218 d_M_readOne_214 rfl ?_
                refine kJ_sub [0] rfl ?_
                exact c_M_readOne_218 hro km_796 hf
  · have hf := kIf_f hf hc
    cases hf
    exact kJ_ret d_M_readOne_77 rfl (Nat.zero_le _) (Nat.zero_le _)
def b_M_readOne_66 (h : kH) (x1 : Int32) (x2 : Int32) (s0 : Nat) : Option (kH) := b_M_readOne_67 h x1 x2 s0 false
theorem c_M_readOne_66 {E : kE} {L : Nat} {xs : Nat → Int32} (hro : kRo E L xs) {h : kH} {x1 : Int32} {x2 : Int32} {s0 : Nat} (ks0 : kIs s0 7) {h' : kH} (hf : b_M_readOne_66 h x1 x2 s0 = some h') : kJ E m_M_readOne none (mk h') 0 0 66 [(0, .ref 786), (1, .int x1), (2, .int x2)] [.ref s0] (mk h) := by
  unfold b_M_readOne_66 at hf
  refine kJ_iconst 67 0 d_M_readOne_66 ki_0 rfl ?_
  refine kJ_sub [0, 1, 2] rfl ?_
  exact c_M_readOne_67 hro ks0 hf
def f_M_readOne (h : kH) : Option (kH) := kBi (f_M_sign h) fun v1 => kG (3 * (h 786 13)) 240 (kLet (hset h 796 (kx (3 * (h 786 13))) v1) fun h2 => if v1 = 43 then (b_M_readOne_66 h2 (3 * (h 786 13)) v1 786) else (if v1 = 45 then (b_M_readOne_66 h2 (3 * (h 786 13)) v1 786) else (if v1 = 111 then (b_M_readOne_66 h2 (3 * (h 786 13)) v1 786) else (if v1 = 118 then (b_M_readOne_66 h2 (3 * (h 786 13)) v1 786) else (if v1 = 99 then (b_M_readOne_66 h2 (3 * (h 786 13)) v1 786) else (if v1 = 120 then (b_M_readOne_66 h2 (3 * (h 786 13)) v1 786) else (if v1 = 109 then (b_M_readOne_66 h2 (3 * (h 786 13)) v1 786) else (b_M_readOne_67 h2 (3 * (h 786 13)) v1 786 true))))))))
theorem j_M_readOne {E : kE} {L : Nat} {xs : Nat → Int32} (hro : kRo E L xs) {h : kH} {h' : kH} (hf : f_M_readOne h = some h') : JM E m_M_readOne [.ref 786] (mk h) none (mk h') := by
  unfold f_M_readOne at hf
  refine JM.of pn_M (Nat.le_of_ble_eq_true rfl) ?_
  show kJ E m_M_readOne none (mk h') 0 0 0 [(0, .ref 786)] [] (mk h)
  refine kJ_iconst 1 3 d_M_readOne_0 ki_3 rfl ?_
  refine kJ_aload_n 2 0 d_M_readOne_1 rfl rfl rfl rfl ?_
  refine kM_getI 5 d_M_readOne_2 l_M_168 km_786 rfl rfl rfl ?_
  refine kJ_imul 6 d_M_readOne_5 rfl ?_
  refine kJ_istore_n 7 [(1, .int (3 * (h 786 13))), (0, .ref 786)] d_M_readOne_6 rfl (Nat.le_of_ble_eq_true rfl) rfl rfl ?_
  refine kJ_aload_n 8 1 d_M_readOne_7 rfl rfl rfl rfl ?_
  obtain ⟨v1, ev1, hf⟩ := kBi_some hf
  refine kM_callv 11 m_M_sign [] [] d_M_readOne_8 cl_M_159 ⟨w_1112, w_96⟩ km_786 ⟨rfl, by decide⟩ ⟨_, _, rfl⟩ rfl rfl (Nat.le_of_ble_eq_true rfl) ⟨Nat.le_of_ble_eq_true rfl, Nat.le_of_ble_eq_true rfl⟩ ⟨rfl, rfl⟩ ⟨Nat.zero_le _, Nat.zero_le _⟩ (j_M_sign hro ev1) rfl ?_
  refine kJ_istore_n 12 [(2, .int v1), (1, .int (3 * (h 786 13))), (0, .ref 786)] d_M_readOne_11 rfl (Nat.le_of_ble_eq_true rfl) rfl rfl ?_
  refine kJ_aload_n 13 2 d_M_readOne_12 rfl rfl rfl rfl ?_
  refine kM_getR 16 9 796 d_M_readOne_13 l_M_38 km_786 rfl rfl rfl rfl ?_
  refine kJ_iload_n 17 1 d_M_readOne_16 rfl rfl rfl ?_
  refine kJ_iload_n 18 0 d_M_readOne_17 rfl rfl rfl ?_
  obtain ⟨hg, hf⟩ := kG_some hf
  refine kM_iast 19 240 d_M_readOne_18 km_796 rfl hg rfl ?_
  obtain ⟨h2, eh2, hf⟩ := kLet_e hf
  rw [← eh2]
  refine kJ_aload_n 20 2 d_M_readOne_19 rfl rfl rfl rfl ?_
  refine kJ_iload_n 21 0 d_M_readOne_20 rfl rfl rfl ?_
  refine kJ_bipush 23 43 d_M_readOne_21 kb_43 rfl ?_
  refine kJ_icmp_eq 26 66 d_M_readOne_23 rfl rfl (fun hc => ?_) (fun hc => ?_)
  · have hf := kIf_t hf hc
    refine kJ_sub [2, 1, 0] rfl ?_
    exact c_M_readOne_66 hro km_786 hf
  · have hf := kIf_f hf hc
    refine kJ_iload_n 27 0 d_M_readOne_26 rfl rfl rfl ?_
    refine kJ_bipush 29 45 d_M_readOne_27 kb_45 rfl ?_
    refine kJ_icmp_eq 32 66 d_M_readOne_29 rfl rfl (fun hc => ?_) (fun hc => ?_)
    · have hf := kIf_t hf hc
      refine kJ_sub [2, 1, 0] rfl ?_
      exact c_M_readOne_66 hro km_786 hf
    · have hf := kIf_f hf hc
      refine kJ_iload_n 33 0 d_M_readOne_32 rfl rfl rfl ?_
      refine kJ_bipush 35 111 d_M_readOne_33 kb_111 rfl ?_
      refine kJ_icmp_eq 38 66 d_M_readOne_35 rfl rfl (fun hc => ?_) (fun hc => ?_)
      · have hf := kIf_t hf hc
        refine kJ_sub [2, 1, 0] rfl ?_
        exact c_M_readOne_66 hro km_786 hf
      · have hf := kIf_f hf hc
        refine kJ_iload_n 39 0 d_M_readOne_38 rfl rfl rfl ?_
        refine kJ_bipush 41 118 d_M_readOne_39 kb_118 rfl ?_
        refine kJ_icmp_eq 44 66 d_M_readOne_41 rfl rfl (fun hc => ?_) (fun hc => ?_)
        · have hf := kIf_t hf hc
          refine kJ_sub [2, 1, 0] rfl ?_
          exact c_M_readOne_66 hro km_786 hf
        · have hf := kIf_f hf hc
          refine kJ_iload_n 45 0 d_M_readOne_44 rfl rfl rfl ?_
          refine kJ_bipush 47 99 d_M_readOne_45 kb_99 rfl ?_
          refine kJ_icmp_eq 50 66 d_M_readOne_47 rfl rfl (fun hc => ?_) (fun hc => ?_)
          · have hf := kIf_t hf hc
            refine kJ_sub [2, 1, 0] rfl ?_
            exact c_M_readOne_66 hro km_786 hf
          · have hf := kIf_f hf hc
            refine kJ_iload_n 51 0 d_M_readOne_50 rfl rfl rfl ?_
            refine kJ_bipush 53 120 d_M_readOne_51 kb_120 rfl ?_
            refine kJ_icmp_eq 56 66 d_M_readOne_53 rfl rfl (fun hc => ?_) (fun hc => ?_)
            · have hf := kIf_t hf hc
              refine kJ_sub [2, 1, 0] rfl ?_
              exact c_M_readOne_66 hro km_786 hf
            · have hf := kIf_f hf hc
              refine kJ_iload_n 57 0 d_M_readOne_56 rfl rfl rfl ?_
              refine kJ_bipush 59 109 d_M_readOne_57 kb_109 rfl ?_
              refine kJ_icmp_eq 62 66 d_M_readOne_59 rfl rfl (fun hc => ?_) (fun hc => ?_)
              · have hf := kIf_t hf hc
                refine kJ_sub [2, 1, 0] rfl ?_
                exact c_M_readOne_66 hro km_786 hf
              · have hf := kIf_f hf hc
                refine kJ_iconst 63 1 d_M_readOne_62 ki_1 rfl ?_
                refine kJ_goto 67 d_M_readOne_63 rfl ?_
                refine kJ_sub [2, 1, 0] rfl ?_
                exact c_M_readOne_67 hro km_786 hf
def b_M_faultOf_79 (h : kH) : Option (Int32 × kH) := if (h 786 15) = 0 then (some ((-6), h)) else (some ((h 786 14), h))
theorem c_M_faultOf_79 {E : kE} {L : Nat} {xs : Nat → Int32} (hro : kRo E L xs) {h : kH} {r : Int32} {h' : kH} (hf : b_M_faultOf_79 h = some (r, h')) : kJ E m_M_faultOf (some r) (mk h') 0 0 79 [(0, .ref 786)] [] (mk h) := by
  unfold b_M_faultOf_79 at hf
  refine kJ_aload_n 80 0 d_M_faultOf_79 rfl rfl rfl rfl ?_
  refine kM_getI 83 d_M_faultOf_80 l_M_162 km_786 rfl rfl rfl ?_
  refine kJ_if_eq 86 93 d_M_faultOf_83 rfl rfl (fun hc => ?_) (fun hc => ?_)
  · have hf := kIf_t hf hc
    refine kJ_bipush 95 (-6) d_M_faultOf_93 kb_m6 rfl ?_
    cases hf
    exact kJ_iret d_M_faultOf_95 rfl rfl (Nat.zero_le _) (Nat.zero_le _)
  · have hf := kIf_f hf hc
    refine kJ_aload_n 87 0 d_M_faultOf_86 rfl rfl rfl rfl ?_
    refine kM_getI 90 d_M_faultOf_87 l_M_156 km_786 rfl rfl rfl ?_
    refine kJ_goto 95 d_M_faultOf_90 rfl ?_
    cases hf
    exact kJ_iret d_M_faultOf_95 rfl rfl (Nat.zero_le _) (Nat.zero_le _)
def b_M_faultOf_52 (rec19 : kH → Option (Int32 × kH)) (h : kH) (s0 : Nat) (s1 : Bool) : Option (Int32 × kH) := kLet (hset h s0 15 (kB2 s1)) fun h6 => if (h6 786 15) = 0 then (kLet (hset h6 786 14 ((h6 786 14) + 1)) fun h7 => kBi (f_M_readOne h7) fun h8 => rec19 h8) else (rec19 h6)
theorem c_M_faultOf_52 {E : kE} {L : Nat} {xs : Nat → Int32} (hro : kRo E L xs) {rec19 : kH → Option (Int32 × kH)} {h : kH} {s0 : Nat} {s1 : Bool} (ks0 : kIs s0 7) {r : Int32} {h' : kH} (hrec19 : ∀ (h : kH), rec19 h = some (r, h') → kJ E m_M_faultOf (some r) (mk h') 0 0 19 [(0, .ref 786)] [] (mk h)) (hf : b_M_faultOf_52 rec19 h s0 s1 = some (r, h')) : kJ E m_M_faultOf (some r) (mk h') 0 0 52 [(0, .ref 786)] [.int (kB2 s1), .ref s0] (mk h) := by
  unfold b_M_faultOf_52 at hf
  refine kM_put 55 d_M_faultOf_52 l_M_162 ks0 rfl rfl (kB2_fit _) rfl ?_
  obtain ⟨h6, eh6, hf⟩ := kLet_e hf
  rw [← eh6]
  refine kJ_aload_n 56 0 d_M_faultOf_55 rfl rfl rfl rfl ?_
  refine kM_getI 59 d_M_faultOf_56 l_M_162 km_786 rfl rfl rfl ?_
  refine kJ_if_ne 62 19 d_M_faultOf_59 rfl rfl (fun hc => ?_) (fun hc => ?_)
  · have hf := kIf_f hf hc
    refine kJ_sub [0] rfl ?_
    exact hrec19 h6 hf
  · have hf := kIf_t hf hc
    refine kJ_aload_n 63 0 d_M_faultOf_62 rfl rfl rfl rfl ?_
    refine kJ_dup 64 d_M_faultOf_63 rfl rfl ?_
    refine kM_getI 67 d_M_faultOf_64 l_M_156 km_786 rfl rfl rfl ?_
    refine kJ_iconst 68 1 d_M_faultOf_67 ki_1 rfl ?_
    refine kJ_iadd 69 d_M_faultOf_68 rfl ?_
    refine kM_put 72 d_M_faultOf_69 l_M_156 km_786 rfl rfl (kFit_int _) rfl ?_
    obtain ⟨h7, eh7, hf⟩ := kLet_e hf
    rw [← eh7]
    refine kJ_aload_n 73 0 d_M_faultOf_72 rfl rfl rfl rfl ?_
    obtain ⟨h8, eh8, hf⟩ := kBi_some hf
    refine kM_callv 76 m_M_readOne [] [] d_M_faultOf_73 cl_M_174 ⟨w_1108, w_95⟩ km_786 ⟨rfl, by decide⟩ ⟨_, _, rfl⟩ rfl rfl (Nat.le_of_ble_eq_true rfl) ⟨Nat.le_of_ble_eq_true rfl, Nat.le_of_ble_eq_true rfl⟩ ⟨rfl, rfl⟩ ⟨Nat.zero_le _, Nat.zero_le _⟩ (j_M_readOne hro eh8) rfl ?_
    refine kJ_goto 19 d_M_faultOf_76 rfl ?_
    refine kJ_sub [0] rfl ?_
    exact hrec19 h8 hf
def b_M_faultOf_19 : Nat → kH → Option (Int32 × kH)
  | 0, _ => none
  | n + 1, h => (fun rec19 => if (h 786 15) = 0 then (if (h 786 7) ≤ (h 786 14) then (b_M_faultOf_79 h) else (kBi (f_M_sign h) fun v5 => if v5 = 59 then (b_M_faultOf_52 rec19 h 786 false) else (b_M_faultOf_52 rec19 h 786 true))) else (b_M_faultOf_79 h)) (fun h' => b_M_faultOf_19 n h')
theorem c_M_faultOf_19 {E : kE} {L : Nat} {xs : Nat → Int32} (hro : kRo E L xs) {r : Int32} {h' : kH} : ∀ (n : Nat) (h : kH), b_M_faultOf_19 n h = some (r, h') → kJ E m_M_faultOf (some r) (mk h') 0 0 19 [(0, .ref 786)] [] (mk h) := by
  intro n
  induction n with
  | zero =>
    intro h hf
    have hf : (none : Option (Int32 × kH)) = some (r, h') := hf
    cases hf
  | succ n hrec19 =>
    intro h hf
    rw [b_M_faultOf_19] at hf
    dsimp only at hf
    refine kJ_aload_n 20 0 d_M_faultOf_19 rfl rfl rfl rfl ?_
    refine kM_getI 23 d_M_faultOf_20 l_M_162 km_786 rfl rfl rfl ?_
    refine kJ_if_ne 26 79 d_M_faultOf_23 rfl rfl (fun hc => ?_) (fun hc => ?_)
    · have hf := kIf_f hf hc
      refine kJ_sub [0] rfl ?_
      exact c_M_faultOf_79 hro hf
    · have hf := kIf_t hf hc
      refine kJ_aload_n 27 0 d_M_faultOf_26 rfl rfl rfl rfl ?_
      refine kM_getI 30 d_M_faultOf_27 l_M_156 km_786 rfl rfl rfl ?_
      refine kJ_aload_n 31 0 d_M_faultOf_30 rfl rfl rfl rfl ?_
      refine kM_getI 34 d_M_faultOf_31 l_M_141 km_786 rfl rfl rfl ?_
      refine kJ_icmp_ge 37 79 d_M_faultOf_34 rfl rfl (fun hc => ?_) (fun hc => ?_)
      · have hf := kIf_t hf hc
        refine kJ_sub [0] rfl ?_
        exact c_M_faultOf_79 hro hf
      · have hf := kIf_f hf hc
        refine kJ_aload_n 38 0 d_M_faultOf_37 rfl rfl rfl rfl ?_
        refine kJ_aload_n 39 0 d_M_faultOf_38 rfl rfl rfl rfl ?_
        obtain ⟨v5, ev5, hf⟩ := kBi_some hf
        refine kM_callv 42 m_M_sign [] [.ref 786] d_M_faultOf_39 cl_M_159 ⟨w_1112, w_96⟩ km_786 ⟨rfl, by decide⟩ ⟨_, _, rfl⟩ rfl rfl (Nat.le_of_ble_eq_true rfl) ⟨Nat.le_of_ble_eq_true rfl, Nat.le_of_ble_eq_true rfl⟩ ⟨rfl, rfl⟩ ⟨Nat.zero_le _, Nat.zero_le _⟩ (j_M_sign hro ev5) rfl ?_
        refine kJ_bipush 44 59 d_M_faultOf_42 kb_59 rfl ?_
        refine kJ_icmp_eq 47 51 d_M_faultOf_44 rfl rfl (fun hc => ?_) (fun hc => ?_)
        · have hf := kIf_t hf hc
          refine kJ_iconst 52 0 d_M_faultOf_51 ki_0 rfl ?_
          refine kJ_sub [0] rfl ?_
          exact c_M_faultOf_52 hro km_786 hrec19 hf
        · have hf := kIf_f hf hc
          refine kJ_iconst 48 1 d_M_faultOf_47 ki_1 rfl ?_
          refine kJ_goto 52 d_M_faultOf_48 rfl ?_
          refine kJ_sub [0] rfl ?_
          exact c_M_faultOf_52 hro km_786 hrec19 hf
def f_M_faultOf (h : kH) : Option (Int32 × kH) := kLet (hset h 786 14 0) fun h1 => kLet (hset h1 786 13 0) fun h2 => kLet (hset h2 786 15 0) fun h3 => kBi (f_M_readOne h3) fun h4 => b_M_faultOf_19  kFuel h4
theorem j_M_faultOf {E : kE} {L : Nat} {xs : Nat → Int32} (hro : kRo E L xs) {h : kH} {r : Int32} {h' : kH} (hf : f_M_faultOf h = some (r, h')) : JM E m_M_faultOf [.ref 786] (mk h) (some r) (mk h') := by
  unfold f_M_faultOf at hf
  refine JM.of pn_M (Nat.le_of_ble_eq_true rfl) ?_
  show kJ E m_M_faultOf (some r) (mk h') 0 0 0 [(0, .ref 786)] [] (mk h)
  refine kJ_aload_n 1 0 d_M_faultOf_0 rfl rfl rfl rfl ?_
  refine kJ_iconst 2 0 d_M_faultOf_1 ki_0 rfl ?_
  refine kM_put 5 d_M_faultOf_2 l_M_156 km_786 rfl rfl (kFit_int _) rfl ?_
  obtain ⟨h1, eh1, hf⟩ := kLet_e hf
  rw [← eh1]
  refine kJ_aload_n 6 0 d_M_faultOf_5 rfl rfl rfl rfl ?_
  refine kJ_iconst 7 0 d_M_faultOf_6 ki_0 rfl ?_
  refine kM_put 10 d_M_faultOf_7 l_M_168 km_786 rfl rfl (kFit_int _) rfl ?_
  obtain ⟨h2, eh2, hf⟩ := kLet_e hf
  rw [← eh2]
  refine kJ_aload_n 11 0 d_M_faultOf_10 rfl rfl rfl rfl ?_
  refine kJ_iconst 12 0 d_M_faultOf_11 ki_0 rfl ?_
  refine kM_put 15 d_M_faultOf_12 l_M_162 km_786 rfl rfl kFit_b0 rfl ?_
  obtain ⟨h3, eh3, hf⟩ := kLet_e hf
  rw [← eh3]
  refine kJ_aload_n 16 0 d_M_faultOf_15 rfl rfl rfl rfl ?_
  obtain ⟨h4, eh4, hf⟩ := kBi_some hf
  refine kM_callv 19 m_M_readOne [] [] d_M_faultOf_16 cl_M_174 ⟨w_1108, w_95⟩ km_786 ⟨rfl, by decide⟩ ⟨_, _, rfl⟩ rfl rfl (Nat.le_of_ble_eq_true rfl) ⟨Nat.le_of_ble_eq_true rfl, Nat.le_of_ble_eq_true rfl⟩ ⟨rfl, rfl⟩ ⟨Nat.zero_le _, Nat.zero_le _⟩ (j_M_readOne hro eh4) rfl ?_
  refine kJ_sub [0] rfl ?_
  exact c_M_faultOf_19 hro kFuel h4 hf
def f_M_fault (h : kH) : Option (Int32 × kH) := kBd (f_M_faultOf h) fun v2 h1 => some (v2, h1)
theorem j_M_fault {E : kE} {L : Nat} {xs : Nat → Int32} (hro : kRo E L xs) {h : kH} {r : Int32} {h' : kH} (hf : f_M_fault h = some (r, h')) : JM E m_M_fault [.ref 786] (mk h) (some r) (mk h') := by
  unfold f_M_fault at hf
  refine JM.of pn_M (Nat.le_of_ble_eq_true rfl) ?_
  show kJ E m_M_fault (some r) (mk h') 0 0 0 [(0, .ref 786)] [] (mk h)
  refine kJ_aload_n 1 0 d_M_fault_0 rfl rfl rfl rfl ?_
  obtain ⟨v2, h1, ev2, hf⟩ := kBd_some hf
  refine kM_callv 4 m_M_faultOf [] [] d_M_fault_1 cl_M_179 ⟨w_1104, w_94⟩ km_786 ⟨rfl, by decide⟩ ⟨_, _, rfl⟩ rfl rfl (Nat.le_of_ble_eq_true rfl) ⟨Nat.le_of_ble_eq_true rfl, Nat.le_of_ble_eq_true rfl⟩ ⟨rfl, rfl⟩ ⟨Nat.zero_le _, Nat.zero_le _⟩ (j_M_faultOf hro ev2) rfl ?_
  cases hf
  exact kJ_iret d_M_fault_4 rfl rfl (Nat.zero_le _) (Nat.zero_le _)
def f_M_carry (h : kH) (x1 : Int32) : Option (Bool × kH) := kG (x1 + 1) 240 (kG x1 240 (kLet (h 796 (kx x1)) fun v1 => (if v1 = 43 then (kBd (f_M_come h (h 796 (kx (x1 + 1)))) fun v3 h2 => if v3 < 0 then (some (false, h2)) else (some (true, h2))) else (if v1 = 45 then (kBd (f_M_go h (h 796 (kx (x1 + 1)))) fun v5 h4 => if v5 < 0 then (some (false, h4)) else (some (true, h4))) else (if v1 = 99 then (kBd (f_M_close h) fun v7 h6 => if v7 < 0 then (some (false, h6)) else (some (true, h6))) else (if v1 = 111 then (kBd (f_M_open h (h 796 (kx (x1 + 1)))) fun v9 h8 => if v9 < 0 then (some (false, h8)) else (some (true, h8))) else (if v1 = 118 then (kG (x1 + 2) 240 (kBd (f_M_vote h (h 796 (kx (x1 + 1))) (h 796 (kx (x1 + 2)))) fun v11 h10 => if 0 ≤ v11 then (some (true, h10)) else (if v11 = (-6) then (some (true, h10)) else (some (false, h10))))) else (if v1 = 120 then (kBd (f_M_cast h (h 796 (kx (x1 + 1)))) fun v13 h12 => if v13 < 0 then (some (false, h12)) else (some (true, h12))) else (kBd (f_M_pass h (h 796 (kx (x1 + 1)))) fun v15 h14 => if v15 < 0 then (some (false, h14)) else (some (true, h14)))))))))))
theorem j_M_carry {E : kE} {L : Nat} {xs : Nat → Int32} (hro : kRo E L xs) {h : kH} {x1 : Int32} {r : Bool} {h' : kH} (hf : f_M_carry h x1 = some (r, h')) : JM E m_M_carry [.ref 786, .int x1] (mk h) (some (kB2 r)) (mk h') := by
  unfold f_M_carry at hf
  refine JM.of pn_M (Nat.le_of_ble_eq_true rfl) ?_
  show kJ E m_M_carry (some (kB2 r)) (mk h') 0 0 0 [(0, .ref 786), (1, .int x1)] [] (mk h)
  refine kJ_aload_n 1 0 d_M_carry_0 rfl rfl rfl rfl ?_
  refine kM_getR 4 9 796 d_M_carry_1 l_M_38 km_786 rfl rfl rfl rfl ?_
  refine kJ_iload_n 5 1 d_M_carry_4 rfl rfl rfl ?_
  refine kJ_iconst 6 1 d_M_carry_5 ki_1 rfl ?_
  refine kJ_iadd 7 d_M_carry_6 rfl ?_
  obtain ⟨hg, hf⟩ := kG_some hf
  refine kM_iald 8 240 d_M_carry_7 km_796 rfl hg rfl ?_
  refine kJ_istore_n 9 [(2, .int (h 796 (kx (x1 + 1)))), (0, .ref 786), (1, .int x1)] d_M_carry_8 rfl (Nat.le_of_ble_eq_true rfl) rfl rfl ?_
  refine kJ_aload_n 10 1 d_M_carry_9 rfl rfl rfl rfl ?_
  refine kM_getR 13 9 796 d_M_carry_10 l_M_38 km_786 rfl rfl rfl rfl ?_
  refine kJ_iload_n 14 2 d_M_carry_13 rfl rfl rfl ?_
  obtain ⟨hg, hf⟩ := kG_some hf
  refine kM_iald 15 240 d_M_carry_14 km_796 rfl hg rfl ?_
  obtain ⟨v1, ev1, hf⟩ := kLet_e hf
  rw [← ev1]
  by_cases c0 : v1 = 43
  · have hf := kIf_t hf c0
    refine kJ_lookup 72 d_M_carry_15 (by decide) (by rw [c0]; try rfl) rfl ?_
    refine kJ_aload_n 73 1 d_M_carry_72 rfl rfl rfl rfl ?_
    refine kJ_iload_n 74 0 d_M_carry_73 rfl rfl rfl ?_
    obtain ⟨v3, h2, ev3, hf⟩ := kBd_some hf
    refine kM_callv 77 m_M_come [.int (h 796 (kx (x1 + 1)))] [] d_M_carry_74 cl_M_182 ⟨w_892, w_893⟩ km_786 ⟨rfl, by decide⟩ ⟨_, _, rfl⟩ rfl rfl (Nat.le_of_ble_eq_true rfl) ⟨Nat.le_of_ble_eq_true rfl, Nat.le_of_ble_eq_true rfl⟩ ⟨rfl, rfl⟩ ⟨Nat.zero_le _, Nat.zero_le _⟩ (j_M_come hro ev3) rfl ?_
    refine kJ_if_lt 80 84 d_M_carry_77 rfl rfl (fun hc => ?_) (fun hc => ?_)
    · have hf := kIf_t hf hc
      refine kJ_iconst 85 0 d_M_carry_84 ki_0 rfl ?_
      cases hf
      exact kJ_iret d_M_carry_85 rfl (kB2_z _) (Nat.zero_le _) (Nat.zero_le _)
    · have hf := kIf_f hf hc
      refine kJ_iconst 81 1 d_M_carry_80 ki_1 rfl ?_
      refine kJ_goto 85 d_M_carry_81 rfl ?_
      cases hf
      exact kJ_iret d_M_carry_85 rfl (kB2_z _) (Nat.zero_le _) (Nat.zero_le _)
  · have hf := kIf_f hf c0
    by_cases c1 : v1 = 45
    · have hf := kIf_t hf c1
      refine kJ_lookup 86 d_M_carry_15 (by decide) (by rw [c1]; try rfl) rfl ?_
      refine kJ_aload_n 87 1 d_M_carry_86 rfl rfl rfl rfl ?_
      refine kJ_iload_n 88 0 d_M_carry_87 rfl rfl rfl ?_
      obtain ⟨v5, h4, ev5, hf⟩ := kBd_some hf
      refine kM_callv 91 m_M_go [.int (h 796 (kx (x1 + 1)))] [] d_M_carry_88 cl_M_185 ⟨w_915, w_916⟩ km_786 ⟨rfl, by decide⟩ ⟨_, _, rfl⟩ rfl rfl (Nat.le_of_ble_eq_true rfl) ⟨Nat.le_of_ble_eq_true rfl, Nat.le_of_ble_eq_true rfl⟩ ⟨rfl, rfl⟩ ⟨Nat.zero_le _, Nat.zero_le _⟩ (j_M_go hro ev5) rfl ?_
      refine kJ_if_lt 94 98 d_M_carry_91 rfl rfl (fun hc => ?_) (fun hc => ?_)
      · have hf := kIf_t hf hc
        refine kJ_iconst 99 0 d_M_carry_98 ki_0 rfl ?_
        cases hf
        exact kJ_iret d_M_carry_99 rfl (kB2_z _) (Nat.zero_le _) (Nat.zero_le _)
      · have hf := kIf_f hf hc
        refine kJ_iconst 95 1 d_M_carry_94 ki_1 rfl ?_
        refine kJ_goto 99 d_M_carry_95 rfl ?_
        cases hf
        exact kJ_iret d_M_carry_99 rfl (kB2_z _) (Nat.zero_le _) (Nat.zero_le _)
    · have hf := kIf_f hf c1
      by_cases c2 : v1 = 99
      · have hf := kIf_t hf c2
        refine kJ_lookup 144 d_M_carry_15 (by decide) (by rw [c2]; try rfl) rfl ?_
        refine kJ_aload_n 145 1 d_M_carry_144 rfl rfl rfl rfl ?_
        obtain ⟨v7, h6, ev7, hf⟩ := kBd_some hf
        refine kM_callv 148 m_M_close [] [] d_M_carry_145 cl_M_194 ⟨w_994, w_995⟩ km_786 ⟨rfl, by decide⟩ ⟨_, _, rfl⟩ rfl rfl (Nat.le_of_ble_eq_true rfl) ⟨Nat.le_of_ble_eq_true rfl, Nat.le_of_ble_eq_true rfl⟩ ⟨rfl, rfl⟩ ⟨Nat.zero_le _, Nat.zero_le _⟩ (j_M_close hro ev7) rfl ?_
        refine kJ_if_lt 151 155 d_M_carry_148 rfl rfl (fun hc => ?_) (fun hc => ?_)
        · have hf := kIf_t hf hc
          refine kJ_iconst 156 0 d_M_carry_155 ki_0 rfl ?_
          cases hf
          exact kJ_iret d_M_carry_156 rfl (kB2_z _) (Nat.zero_le _) (Nat.zero_le _)
        · have hf := kIf_f hf hc
          refine kJ_iconst 152 1 d_M_carry_151 ki_1 rfl ?_
          refine kJ_goto 156 d_M_carry_152 rfl ?_
          cases hf
          exact kJ_iret d_M_carry_156 rfl (kB2_z _) (Nat.zero_le _) (Nat.zero_le _)
      · have hf := kIf_f hf c2
        by_cases c3 : v1 = 111
        · have hf := kIf_t hf c3
          refine kJ_lookup 100 d_M_carry_15 (by decide) (by rw [c3]; try rfl) rfl ?_
          refine kJ_aload_n 101 1 d_M_carry_100 rfl rfl rfl rfl ?_
          refine kJ_iload_n 102 0 d_M_carry_101 rfl rfl rfl ?_
          obtain ⟨v9, h8, ev9, hf⟩ := kBd_some hf
          refine kM_callv 105 m_M_open [.int (h 796 (kx (x1 + 1)))] [] d_M_carry_102 cl_M_188 ⟨w_954, w_955⟩ km_786 ⟨rfl, by decide⟩ ⟨_, _, rfl⟩ rfl rfl (Nat.le_of_ble_eq_true rfl) ⟨Nat.le_of_ble_eq_true rfl, Nat.le_of_ble_eq_true rfl⟩ ⟨rfl, rfl⟩ ⟨Nat.zero_le _, Nat.zero_le _⟩ (j_M_open hro ev9) rfl ?_
          refine kJ_if_lt 108 112 d_M_carry_105 rfl rfl (fun hc => ?_) (fun hc => ?_)
          · have hf := kIf_t hf hc
            refine kJ_iconst 113 0 d_M_carry_112 ki_0 rfl ?_
            cases hf
            exact kJ_iret d_M_carry_113 rfl (kB2_z _) (Nat.zero_le _) (Nat.zero_le _)
          · have hf := kIf_f hf hc
            refine kJ_iconst 109 1 d_M_carry_108 ki_1 rfl ?_
            refine kJ_goto 113 d_M_carry_109 rfl ?_
            cases hf
            exact kJ_iret d_M_carry_113 rfl (kB2_z _) (Nat.zero_le _) (Nat.zero_le _)
        · have hf := kIf_f hf c3
          by_cases c4 : v1 = 118
          · have hf := kIf_t hf c4
            refine kJ_lookup 114 d_M_carry_15 (by decide) (by rw [c4]; try rfl) rfl ?_
            refine kJ_aload_n 115 1 d_M_carry_114 rfl rfl rfl rfl ?_
            refine kJ_iload_n 116 0 d_M_carry_115 rfl rfl rfl ?_
            refine kJ_aload_n 117 1 d_M_carry_116 rfl rfl rfl rfl ?_
            refine kM_getR 120 9 796 d_M_carry_117 l_M_38 km_786 rfl rfl rfl rfl ?_
            refine kJ_iload_n 121 2 d_M_carry_120 rfl rfl rfl ?_
            refine kJ_iconst 122 2 d_M_carry_121 ki_2 rfl ?_
            refine kJ_iadd 123 d_M_carry_122 rfl ?_
            obtain ⟨hg, hf⟩ := kG_some hf
            refine kM_iald 124 240 d_M_carry_123 km_796 rfl hg rfl ?_
            obtain ⟨v11, h10, ev11, hf⟩ := kBd_some hf
            refine kM_callv 127 m_M_vote [.int (h 796 (kx (x1 + 1))), .int (h 796 (kx (x1 + 2)))] [] d_M_carry_124 cl_M_191 ⟨w_990, w_991⟩ km_786 ⟨rfl, by decide⟩ ⟨_, _, rfl⟩ rfl rfl (Nat.le_of_ble_eq_true rfl) ⟨Nat.le_of_ble_eq_true rfl, Nat.le_of_ble_eq_true rfl⟩ ⟨rfl, rfl⟩ ⟨Nat.zero_le _, Nat.zero_le _⟩ (j_M_vote hro ev11) rfl ?_
            refine kJ_istore_n 128 [(3, .int v11), (2, .int (h 796 (kx (x1 + 1)))), (0, .ref 786), (1, .int x1)] d_M_carry_127 rfl (Nat.le_of_ble_eq_true rfl) rfl rfl ?_
            refine kJ_iload_n 129 0 d_M_carry_128 rfl rfl rfl ?_
            refine kJ_if_ge 132 138 d_M_carry_129 rfl rfl (fun hc => ?_) (fun hc => ?_)
            · have hf := kIf_t hf hc
              refine kJ_iconst 139 1 d_M_carry_138 ki_1 rfl ?_
              refine kJ_goto 143 d_M_carry_139 rfl ?_
              cases hf
              exact kJ_iret d_M_carry_143 rfl (kB2_z _) (Nat.zero_le _) (Nat.zero_le _)
            · have hf := kIf_f hf hc
              refine kJ_iload_n 133 0 d_M_carry_132 rfl rfl rfl ?_
              refine kJ_bipush 135 (-6) d_M_carry_133 kb_m6 rfl ?_
              refine kJ_icmp_ne 138 142 d_M_carry_135 rfl rfl (fun hc => ?_) (fun hc => ?_)
              · have hf := kIf_f hf hc
                refine kJ_iconst 143 0 d_M_carry_142 ki_0 rfl ?_
                cases hf
                exact kJ_iret d_M_carry_143 rfl (kB2_z _) (Nat.zero_le _) (Nat.zero_le _)
              · have hf := kIf_t hf hc
                refine kJ_iconst 139 1 d_M_carry_138 ki_1 rfl ?_
                refine kJ_goto 143 d_M_carry_139 rfl ?_
                cases hf
                exact kJ_iret d_M_carry_143 rfl (kB2_z _) (Nat.zero_le _) (Nat.zero_le _)
          · have hf := kIf_f hf c4
            by_cases c5 : v1 = 120
            · have hf := kIf_t hf c5
              refine kJ_lookup 157 d_M_carry_15 (by decide) (by rw [c5]; try rfl) rfl ?_
              refine kJ_aload_n 158 1 d_M_carry_157 rfl rfl rfl rfl ?_
              refine kJ_iload_n 159 0 d_M_carry_158 rfl rfl rfl ?_
              obtain ⟨v13, h12, ev13, hf⟩ := kBd_some hf
              refine kM_callv 162 m_M_cast [.int (h 796 (kx (x1 + 1)))] [] d_M_carry_159 cl_M_197 ⟨w_1010, w_1011⟩ km_786 ⟨rfl, by decide⟩ ⟨_, _, rfl⟩ rfl rfl (Nat.le_of_ble_eq_true rfl) ⟨Nat.le_of_ble_eq_true rfl, Nat.le_of_ble_eq_true rfl⟩ ⟨rfl, rfl⟩ ⟨Nat.zero_le _, Nat.zero_le _⟩ (j_M_cast hro ev13) rfl ?_
              refine kJ_if_lt 165 169 d_M_carry_162 rfl rfl (fun hc => ?_) (fun hc => ?_)
              · have hf := kIf_t hf hc
                refine kJ_iconst 170 0 d_M_carry_169 ki_0 rfl ?_
                cases hf
                exact kJ_iret d_M_carry_170 rfl (kB2_z _) (Nat.zero_le _) (Nat.zero_le _)
              · have hf := kIf_f hf hc
                refine kJ_iconst 166 1 d_M_carry_165 ki_1 rfl ?_
                refine kJ_goto 170 d_M_carry_166 rfl ?_
                cases hf
                exact kJ_iret d_M_carry_170 rfl (kB2_z _) (Nat.zero_le _) (Nat.zero_le _)
            · have hf := kIf_f hf c5
              refine kJ_lookup 171 d_M_carry_15 (by decide) ((lv_osw c0 rfl).trans ((lv_osw c1 rfl).trans ((lv_osw c2 rfl).trans ((lv_osw c3 rfl).trans ((lv_osw c4 rfl).trans ((lv_osw c5 rfl).trans rfl)))))) rfl ?_
              refine kJ_aload_n 172 1 d_M_carry_171 rfl rfl rfl rfl ?_
              refine kJ_iload_n 173 0 d_M_carry_172 rfl rfl rfl ?_
              obtain ⟨v15, h14, ev15, hf⟩ := kBd_some hf
              refine kM_callv 176 m_M_pass [.int (h 796 (kx (x1 + 1)))] [] d_M_carry_173 cl_M_200 ⟨w_1018, w_1019⟩ km_786 ⟨rfl, by decide⟩ ⟨_, _, rfl⟩ rfl rfl (Nat.le_of_ble_eq_true rfl) ⟨Nat.le_of_ble_eq_true rfl, Nat.le_of_ble_eq_true rfl⟩ ⟨rfl, rfl⟩ ⟨Nat.zero_le _, Nat.zero_le _⟩ (j_M_pass hro ev15) rfl ?_
              refine kJ_if_lt 179 183 d_M_carry_176 rfl rfl (fun hc => ?_) (fun hc => ?_)
              · have hf := kIf_t hf hc
                refine kJ_iconst 184 0 d_M_carry_183 ki_0 rfl ?_
                cases hf
                exact kJ_iret d_M_carry_184 rfl (kB2_z _) (Nat.zero_le _) (Nat.zero_le _)
              · have hf := kIf_f hf hc
                refine kJ_iconst 180 1 d_M_carry_179 ki_1 rfl ?_
                refine kJ_goto 184 d_M_carry_180 rfl ?_
                cases hf
                exact kJ_iret d_M_carry_184 rfl (kB2_z _) (Nat.zero_le _) (Nat.zero_le _)
def b_M_carryOut_47 (h : kH) (x1 : Int32) : Option (Int32 × kH) := kLet (hset h 786 8 0) fun h5 => kLet (hset h5 786 7 0) fun h6 => some (x1, h6)
theorem c_M_carryOut_47 {E : kE} {L : Nat} {xs : Nat → Int32} (hro : kRo E L xs) {h : kH} {x1 : Int32} {r : Int32} {h' : kH} (hf : b_M_carryOut_47 h x1 = some (r, h')) : kJ E m_M_carryOut (some r) (mk h') 0 0 47 [(0, .ref 786), (1, .int x1)] [] (mk h) := by
  unfold b_M_carryOut_47 at hf
  refine kJ_aload_n 48 0 d_M_carryOut_47 rfl rfl rfl rfl ?_
  refine kJ_iconst 49 0 d_M_carryOut_48 ki_0 rfl ?_
  refine kM_put 52 d_M_carryOut_49 l_M_41 km_786 rfl rfl kFit_b0 rfl ?_
  obtain ⟨h5, eh5, hf⟩ := kLet_e hf
  rw [← eh5]
  refine kJ_aload_n 53 0 d_M_carryOut_52 rfl rfl rfl rfl ?_
  refine kJ_iconst 54 0 d_M_carryOut_53 ki_0 rfl ?_
  refine kM_put 57 d_M_carryOut_54 l_M_141 km_786 rfl rfl (kFit_int _) rfl ?_
  obtain ⟨h6, eh6, hf⟩ := kLet_e hf
  rw [← eh6]
  refine kJ_iload_n 58 1 d_M_carryOut_57 rfl rfl rfl ?_
  cases hf
  exact kJ_iret d_M_carryOut_58 rfl rfl (Nat.zero_le _) (Nat.zero_le _)
def b_M_carryOut_23 : Nat → kH → Int32 → Option (Int32 × kH)
  | 0, _, _ => none
  | n + 1, h, x1 => (fun rec23 => if (h 786 13) ≤ x1 then (b_M_carryOut_47 h x1) else (kBd (f_M_carry h (3 * x1)) fun v8 h7 => if v8 = true then (rec23 h7 (x1 + 1)) else (b_M_carryOut_47 h7 x1))) (fun h' x1' => b_M_carryOut_23 n h' x1')
theorem c_M_carryOut_23 {E : kE} {L : Nat} {xs : Nat → Int32} (hro : kRo E L xs) {r : Int32} {h' : kH} : ∀ (n : Nat) (h : kH) (x1 : Int32), b_M_carryOut_23 n h x1 = some (r, h') → kJ E m_M_carryOut (some r) (mk h') 0 0 23 [(0, .ref 786), (1, .int x1)] [] (mk h) := by
  intro n
  induction n with
  | zero =>
    intro h x1 hf
    have hf : (none : Option (Int32 × kH)) = some (r, h') := hf
    cases hf
  | succ n hrec23 =>
    intro h x1 hf
    rw [b_M_carryOut_23] at hf
    dsimp only at hf
    refine kJ_iload_n 24 1 d_M_carryOut_23 rfl rfl rfl ?_
    refine kJ_aload_n 25 0 d_M_carryOut_24 rfl rfl rfl rfl ?_
    refine kM_getI 28 d_M_carryOut_25 l_M_168 km_786 rfl rfl rfl ?_
    refine kJ_icmp_ge 31 47 d_M_carryOut_28 rfl rfl (fun hc => ?_) (fun hc => ?_)
    · have hf := kIf_t hf hc
      refine kJ_sub [0, 1] rfl ?_
      exact c_M_carryOut_47 hro hf
    · have hf := kIf_f hf hc
      refine kJ_aload_n 32 0 d_M_carryOut_31 rfl rfl rfl rfl ?_
      refine kJ_iconst 33 3 d_M_carryOut_32 ki_3 rfl ?_
      refine kJ_iload_n 34 1 d_M_carryOut_33 rfl rfl rfl ?_
      refine kJ_imul 35 d_M_carryOut_34 rfl ?_
      obtain ⟨v8, h7, ev8, hf⟩ := kBd_some hf
      refine kM_callv 38 m_M_carry [.int (3 * x1)] [] d_M_carryOut_35 cl_M_203 ⟨w_1128, w_99⟩ km_786 ⟨rfl, by decide⟩ ⟨_, _, rfl⟩ rfl rfl (Nat.le_of_ble_eq_true rfl) ⟨Nat.le_of_ble_eq_true rfl, Nat.le_of_ble_eq_true rfl⟩ ⟨rfl, rfl⟩ ⟨Nat.zero_le _, Nat.zero_le _⟩ (j_M_carry hro ev8) rfl ?_
      refine kJ_if_eq 41 47 d_M_carryOut_38 rfl rfl (fun hc => ?_) (fun hc => ?_)
      · have hf := kIf_f hf (kB2_0 hc)
        refine kJ_sub [0, 1] rfl ?_
        exact c_M_carryOut_47 hro hf
      · have hf := kIf_t hf (kB2_1 hc)
        refine kJ_iinc 44 1 [(1, .int (x1 + 1)), (0, .ref 786)] d_M_carryOut_41 rfl ki_1 (Nat.le_of_ble_eq_true rfl) rfl rfl ?_
        refine kJ_goto 23 d_M_carryOut_44 rfl ?_
        refine kJ_sub [1, 0] rfl ?_
        exact hrec23 h7 (x1 + 1) hf
def f_M_carryOut (h : kH) : Option (Int32 × kH) := kBd (f_M_faultOf h) fun v2 h1 => if v2 = (-6) then (kBi (f_M_record h1) fun h3 => kLet (hset h3 786 8 1) fun h4 => b_M_carryOut_23  kFuel h4 0) else (some ((-3), h1))
theorem j_M_carryOut {E : kE} {L : Nat} {xs : Nat → Int32} (hro : kRo E L xs) {h : kH} {r : Int32} {h' : kH} (hf : f_M_carryOut h = some (r, h')) : JM E m_M_carryOut [.ref 786] (mk h) (some r) (mk h') := by
  unfold f_M_carryOut at hf
  refine JM.of pn_M (Nat.le_of_ble_eq_true rfl) ?_
  show kJ E m_M_carryOut (some r) (mk h') 0 0 0 [(0, .ref 786)] [] (mk h)
  refine kJ_aload_n 1 0 d_M_carryOut_0 rfl rfl rfl rfl ?_
  obtain ⟨v2, h1, ev2, hf⟩ := kBd_some hf
  refine kM_callv 4 m_M_faultOf [] [] d_M_carryOut_1 cl_M_179 ⟨w_1104, w_94⟩ km_786 ⟨rfl, by decide⟩ ⟨_, _, rfl⟩ rfl rfl (Nat.le_of_ble_eq_true rfl) ⟨Nat.le_of_ble_eq_true rfl, Nat.le_of_ble_eq_true rfl⟩ ⟨rfl, rfl⟩ ⟨Nat.zero_le _, Nat.zero_le _⟩ (j_M_faultOf hro ev2) rfl ?_
  refine kJ_bipush 6 (-6) d_M_carryOut_4 kb_m6 rfl ?_
  refine kJ_icmp_eq 9 12 d_M_carryOut_6 rfl rfl (fun hc => ?_) (fun hc => ?_)
  · have hf := kIf_t hf hc
    refine kJ_aload_n 13 0 d_M_carryOut_12 rfl rfl rfl rfl ?_
    obtain ⟨h3, eh3, hf⟩ := kBi_some hf
    refine kM_callv 16 m_M_record [] [] d_M_carryOut_13 cl_M_53 ⟨w_873, w_65⟩ km_786 ⟨rfl, by decide⟩ ⟨_, _, rfl⟩ rfl rfl (Nat.le_of_ble_eq_true rfl) ⟨Nat.le_of_ble_eq_true rfl, Nat.le_of_ble_eq_true rfl⟩ ⟨rfl, rfl⟩ ⟨Nat.zero_le _, Nat.zero_le _⟩ (j_M_record hro eh3) rfl ?_
    refine kJ_aload_n 17 0 d_M_carryOut_16 rfl rfl rfl rfl ?_
    refine kJ_iconst 18 1 d_M_carryOut_17 ki_1 rfl ?_
    refine kM_put 21 d_M_carryOut_18 l_M_41 km_786 rfl rfl kFit_b1 rfl ?_
    obtain ⟨h4, eh4, hf⟩ := kLet_e hf
    rw [← eh4]
    refine kJ_iconst 22 0 d_M_carryOut_21 ki_0 rfl ?_
    refine kJ_istore_n 23 [(1, .int 0), (0, .ref 786)] d_M_carryOut_22 rfl (Nat.le_of_ble_eq_true rfl) rfl rfl ?_
    refine kJ_sub [1, 0] rfl ?_
    exact c_M_carryOut_23 hro kFuel h4 0 hf
  · have hf := kIf_f hf hc
    refine kJ_bipush 11 (-3) d_M_carryOut_9 kb_m3 rfl ?_
    cases hf
    exact kJ_iret d_M_carryOut_11 rfl rfl (Nat.zero_le _) (Nat.zero_le _)
