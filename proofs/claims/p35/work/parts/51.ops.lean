/-! PURE: more of the class's calls. -/
section
variable {T : kT} {nm ni nv : Nat}
theorem holder_k (I : Iv T nm ni nv) {m : Nat} {y z : Int32} (hm : m < nm) {h : kH} (C : Com h 1 T nm ni nv) : ∀ x4 x5 s0, b_C_nameHolder_57 h 1 (nI m) y z x4 x5 s0 = if x5 = 0 then some (-1, h) else if s0 = true then (if x4 = 0 then kG y 12 (b_C_nameHolder_100 h (nI m) z (1 + 10 + 5 * kx y + 4)) else b_C_nameHolder_100 h (nI m) z 5) else some (-1, h) := by
  intro x4 x5 s0
  unfold b_C_nameHolder_57
  rw [C_hasMember_ok C I hm, if_pos rfl]
theorem op_proxy_all (I : Iv T nm ni nv) {m : Nat} {z : Int32} (hm : m < nm) (hz : no z nm) (hne : ¬ z = nI m) : Opn (fun h => f_C_nameHolder h 1 (nI m) (-6) z) T nm ni nv (T 1 m 3) (ts T 1 m 3 z) nm ni nv := by
  have hn := I.n
  refine ⟨I.holder hm hz, fun h C => ?_⟩
  refine ⟨hset h (1 + 4) m z, ?_, fun a p _ _ _ => hs_of _ _ (by omega), C.holder _⟩
  have hk := holder_k (y := -6) (z := z) I hm C
  try dsimp only
  unfold f_C_nameHolder b_C_nameHolder_11 b_C_nameHolder_26 b_C_nameHolder_31 b_C_nameHolder_52 b_C_nameHolder_56
  rw [if_pos rfl, if_pos rfl]
  have fin : b_C_nameHolder_100 h (nI m) z 5 = some (T 1 m 3, hset h (1 + 4) m z) := by
    unfold b_C_nameHolder_100
    rw [kG_nI (by omega) (by decide), kG_nI (by omega) (by decide), kx_nI (by omega), kLet_s, ← (C.d m hm).2.2]
  rcases hz with q | ⟨j, hj, rfl⟩
  · rw [if_pos q, hk, if_neg (by decide), if_pos rfl, if_neg (by decide)]
    exact fin
  · rw [if_neg (n6_ne (by omega)), C_hasMember_ok C I hj, if_pos rfl, if_neg hne, hk, if_neg (by decide), if_pos rfl, if_neg (by decide)]
    exact fin
theorem op_proxy_one (I : Iv T nm ni nv) {m i : Nat} {z : Int32} (hm : m < nm) (hi : i < ni) (hz : no z nm) (hne : ¬ z = nI m) : Opn (fun h => f_C_nameHolder h 1 (nI m) (nI i) z) T nm ni nv (T 3 i m) (ts T 3 i m z) nm ni nv := by
  have hn := I.n
  refine ⟨I.pair3 hi hz, fun h C => ?_⟩
  refine ⟨hset h (1 + 10 + 5 * i + 4) m z, ?_, fun a p _ _ _ => hs_of _ _ (by omega), C.pair3 hn.2.1 hi _⟩
  have hk := holder_k (y := nI i) (z := z) I hm C
  try dsimp only
  unfold f_C_nameHolder b_C_nameHolder_11 b_C_nameHolder_26 b_C_nameHolder_31 b_C_nameHolder_52 b_C_nameHolder_56
  rw [if_neg (n6_ne (by omega)), if_neg (by decide), C_hasItem_ok C I hi, if_pos rfl]
  have fin : kG (nI i) 12 (b_C_nameHolder_100 h (nI m) z (1 + 10 + 5 * kx (nI i) + 4)) = some (T 3 i m, hset h (1 + 10 + 5 * i + 4) m z) := by
    unfold b_C_nameHolder_100
    rw [kG_nI (by omega) (by decide), kG_nI (by omega) (by decide), kG_nI (by omega) (by decide), kx_nI (by omega), kx_nI (by omega), kLet_s, ((C.f i hi).2.2.2.2.2.2.2 m (by omega)).2.2]
  rcases hz with q | ⟨j, hj, rfl⟩
  · rw [if_pos q, hk, if_neg (by decide), if_pos rfl, if_pos (by decide)]
    exact fin
  · rw [if_neg (n6_ne (by omega)), C_hasMember_ok C I hj, if_pos rfl, if_neg hne, hk, if_neg (by decide), if_pos rfl, if_pos (by decide)]
    exact fin
theorem op_proxy_bad (I : Iv T nm ni nv) {m : Nat} {y : Int32} (hm : m < nm) (hy : y = -6 ∨ ∃ i, i < ni ∧ y = nI i) : Opn (fun h => f_C_nameHolder h 1 (nI m) y (nI m)) T nm ni nv (-1) T nm ni nv := Opn.err I fun h C => by
  have hn := I.n
  have hk := holder_k (y := y) (z := nI m) I hm C
  try dsimp only
  unfold f_C_nameHolder b_C_nameHolder_11 b_C_nameHolder_26 b_C_nameHolder_31 b_C_nameHolder_52 b_C_nameHolder_56
  rcases hy with y6 | ⟨i, hi, rfl⟩
  · rw [if_pos y6, if_pos rfl, if_neg (n6_ne (by omega)), C_hasMember_ok C I hm, if_pos rfl, if_pos rfl, hk, if_neg (by decide), if_neg (by decide)]
  · rw [if_neg (n6_ne (by omega)), if_neg (by decide), C_hasItem_ok C I hi, if_pos rfl, if_neg (n6_ne (by omega)), C_hasMember_ok C I hm, if_pos rfl, if_pos rfl, hk, if_neg (by decide), if_neg (by decide)]
/-- the mask of who is recused by hand, with m's bit laid anew -/
theorem hand_bit {a m : Nat} (ha : a < 4096) (hm : m < 12) {z : Int32} (hz : z = 0 ∨ z = 1) : ∃ b, b < 4096 ∧ (nI a &&& (((1 : Int32) <<< (nI m &&& 31)) ^^^ (-1))) ||| (z <<< (nI m &&& 31)) = nI b ∧ b.testBit m = decide (z = 1) := by
  have l : a &&& (4294967295 - 2 ^ m) < 4096 := Nat.lt_of_le_of_lt Nat.and_le_left ha
  rw [clr_bit (by omega) (by omega)]
  have c0 : (a &&& (4294967295 - 2 ^ m)).testBit m = false := by
    rw [Nat.testBit_and, clr_tst m (by omega) m (by omega)]
    simp
  rcases hz with rfl | rfl
  · rw [sh_0 m (by omega), fa_or, Nat.or_zero]
    exact ⟨_, l, rfl, by rw [c0]; rfl⟩
  · rw [sh_1 m (by omega), fa_or]
    exact ⟨_, or_lt l hm, rfl, by rw [tb_or, c0]; simp⟩
theorem recuse_cc (I : Iv T nm ni nv) {i m : Nat} {z : Int32} (hm : m < nm) (hi : i < ni) (hz : z = 0 ∨ z = 1) {h : kH} (C : Com h 1 T nm ni nv) : f_C_recuseByHand h 1 (nI m) (nI i) z = b_C_recuseByHand_30 h 1 (nI m) (nI i) z := by
  unfold f_C_recuseByHand
  rw [C_hasMember_ok C I hm, if_pos rfl, C_hasItem_ok C I hi, if_pos rfl]
  rcases hz with q | q
  · rw [if_pos q]
  · rw [if_neg (by rw [q]; decide), if_pos q]
theorem op_recuse (I : Iv T nm ni nv) {i m : Nat} {z : Int32} (hm : m < nm) (hi : i < ni) (hz : z = 0 ∨ z = 1) (a : sAhead T i = true) : ∃ b, b < 4096 ∧ b.testBit m = decide (z = 1) ∧ Opn (fun h => f_C_recuseByHand h 1 (nI m) (nI i) z) T nm ni nv (kB2 (sRec (ts T 2 i 11 (nI b)) i m)) (ts T 2 i 11 (nI b)) nm ni nv := by
  have hn := I.n
  obtain ⟨_, _, _, ⟨o, o1, o2⟩, _⟩ := I.i1 (show i < 12 by omega)
  obtain ⟨b, b1, b2, b3⟩ := hand_bit o1 (show m < 12 by omega) hz
  have I' := I.hand hi b1
  refine ⟨b, b1, b3, I', fun h C => ?_⟩
  have C' := C.slot hn.2.1 hi (k := 3) (j := 11) (Or.inr (Or.inl ⟨rfl, rfl⟩)) (nI b)
  refine ⟨_, ?_, fun a p _ _ _ => hs_of _ _ (by omega), C'⟩
  try dsimp only
  rw [recuse_cc I hm hi hz C]
  unfold b_C_recuseByHand_30
  rw [kG_nI (by omega) (by decide), kx_nI (by omega), C_isPending C hi, if_pos a, (C.f i hi).2.2.2.1, o2, b2, kLet_s, C_isRecused C' I' hi hm, kBi_s]
  cases sRec (ts T 2 i 11 (nI b)) i m <;> rfl
theorem op_recuse_no (I : Iv T nm ni nv) {i m : Nat} {z : Int32} (hm : m < nm) (hi : i < ni) (hz : z = 0 ∨ z = 1) (a : ¬ sAhead T i = true) : Opn (fun h => f_C_recuseByHand h 1 (nI m) (nI i) z) T nm ni nv (-5) T nm ni nv := Opn.err I fun h C => by
  have hn := I.n
  try dsimp only
  rw [recuse_cc I hm hi hz C]
  unfold b_C_recuseByHand_30
  rw [kG_nI (by omega) (by decide), kx_nI (by omega), C_isPending C hi, if_neg a]
theorem open_cc (I : Iv T nm ni nv) {i : Nat} (hi : i < ni) {h : kH} (C : Com h 1 T nm ni nv) : ∃ g, CFe h g ∧ Com g 1 T nm ni nv ∧ f_C_openItem h 1 (nI i) 141 = if T 2 i 2 = 0 then (kBi (f_C_firstIn g 1 1) fun v4 => if v4 = (-6) then (if sQuo T nm (sThr T i nm nm) = true then some (sThr T i nm nm, hset g (1 + 10 + 5 * i) 2 1) else some (-5, g)) else some (-5, g)) else some (-5, g) := by
  have hn := I.n
  obtain ⟨g, g1, g2, g3⟩ := C_listen (s := 141) C I hi (Or.inr (by decide))
  have fe : CFe h g := fun a a1 a2 a3 => g2 a (by omega) (by omega)
  have C' := fe.com C hn.2.1
  refine ⟨g, fe, C', ?_⟩
  unfold f_C_openItem
  rw [C_hasItem_ok C I hi, if_pos rfl, kG_nI (by omega) (by decide), kx_nI (by omega), g1, kBi_s, C_weightThere C' I hi g3, kBi_s, (C'.f i hi).2.2.1, C_isQuorum C' I]
  rfl
theorem brk_6 (I : Iv T nm ni nv) {i : Nat} (hi : i < 12) {k : Nat} (hk : k ≤ 2) (h : T 2 i 2 = nI k) : T 2 i 9 = -6 := by
  rcases I.b hi with e | e | e
  · exact e
  · rw [h, show (3 : Int32) = nI 3 from rfl, eqI (by omega) (by omega)] at e; omega
  · rw [h, show (4 : Int32) = nI 4 from rfl, eqI (by omega) (by omega)] at e; omega
theorem op_open (I : Iv T nm ni nv) {i : Nat} (hi : i < ni) (z0 : T 2 i 2 = 0) (z1 : ∀ j, j < ni → ¬ T 2 j 2 = 1) (z2 : sQuo T nm (sThr T i nm nm) = true) : Opn (fun h => f_C_openItem h 1 (nI i) 141) T nm ni nv (sThr T i nm nm) (ts T 2 i 2 (nI 1)) nm ni nv := by
  have hn := I.n
  refine ⟨I.state hi (a := 1) (by decide) (Or.inl (brk_6 I (by omega) (k := 0) (by decide) z0)), fun h C => ?_⟩
  obtain ⟨g, g1, g2, g3⟩ := open_cc I hi C
  obtain ⟨r, r1, r2⟩ := C_firstIn g2 I 1
  have rr : r = -6 := by
    rcases r2 with ⟨e, _⟩ | ⟨k, k1, k2, _⟩
    · exact e
    · exact absurd (of_decide_eq_true k2) (z1 k k1)
  try dsimp only
  rw [g3, if_pos z0, r1, kBi_s, if_pos rr, if_pos z2]
  exact ⟨_, rfl, fun a a0 a1 a2 a3 => (hs_of _ _ (by omega)).trans (g1 a a1 a2 a3), g2.slot hn.2.1 hi (k := 2) (j := 2) (Or.inl ⟨rfl, rfl⟩) (nI 1)⟩
theorem op_open_no (I : Iv T nm ni nv) {i : Nat} (hi : i < ni) (z : ¬ (T 2 i 2 = 0 ∧ (∀ j, j < ni → ¬ T 2 j 2 = 1) ∧ sQuo T nm (sThr T i nm nm) = true)) : Opn (fun h => f_C_openItem h 1 (nI i) 141) T nm ni nv (-5) T nm ni nv := Opn.same I fun h C => by
  obtain ⟨g, g1, g2, g3⟩ := open_cc I hi C
  refine ⟨g, ?_, g1⟩
  try dsimp only
  rw [g3]
  by_cases a : T 2 i 2 = 0
  · rw [if_pos a]
    obtain ⟨r, r1, r2⟩ := C_firstIn g2 I 1
    rw [r1, kBi_s]
    by_cases b : r = -6
    · rw [if_pos b]
      by_cases d : sQuo T nm (sThr T i nm nm) = true
      · refine absurd ⟨a, fun j hj e => ?_, d⟩ z
        have hn := I.n
        rcases r2 with ⟨_, y⟩ | ⟨k, k1, _, _, e'⟩
        · exact absurd e (of_decide_eq_false (y j hj))
        · rw [b] at e'
          exact n6_ne (show k < 2 ^ 31 by omega) e'.symm
      · rw [if_neg d]
    · rw [if_neg b]
  · rw [if_neg a]
theorem fst_st {i : Nat} (hi : i < 2 ^ 31) {s : Int32} (hn : ni ≤ 12) (F : Fst (fun i => decide (T 2 i 2 = s)) ni (nI i)) : T 2 i 2 = s := by
  rcases F with ⟨e, _⟩ | ⟨k, k1, k2, _, e⟩
  · exact absurd e (n6_ne hi)
  · rw [eqI hi (by omega)] at e
    rw [e]
    exact of_decide_eq_true k2
theorem close_cc (I : Iv T nm ni nv) {i : Nat} (hi : i < ni) (F : Fst (fun i => decide (T 2 i 2 = 1)) ni (nI i)) {h : kH} (C : Com h 1 T nm ni nv) : ∃ g, CFe h g ∧ Com g 1 T nm ni nv ∧ Hrd g 141 T i nm ∧ f_C_closeItem h 1 141 = if sQuo T nm (sThr T i nm nm) = true then (kBi (f_H_tally g 141 1 (1 + 10 + 5 * i)) fun h7 => kCg 0 0 6 6 6 (kLet (hcpy h7 (141 + 3) ((1 + 10 + 5 * i) + 1) (kx 0) (kx 0) (kx 6)) fun h8 => kBi (f_H_outcome h8 141 1 (1 + 10 + 5 * i) 0) fun v9 => kLet (hset h8 (1 + 10 + 5 * i) 2 v9) fun h10 => some ((h10 (1 + 10 + 5 * i) 2), h10))) else (kBi (f_I_putOff g (1 + 10 + 5 * i)) fun h6 => some ((h6 (1 + 10 + 5 * i) 2), h6)) := by
  have hn := I.n
  obtain ⟨g, g1, g2, g3⟩ := C_listen (s := 141) C I hi (Or.inr (by decide))
  have fe : CFe h g := fun a a1 a2 a3 => g2 a (by omega) (by omega)
  have C' := fe.com C hn.2.1
  obtain ⟨r, r1, r2⟩ := C_firstIn C I 1
  obtain rfl := r2.one F
  refine ⟨g, fe, C', g3, ?_⟩
  unfold f_C_closeItem
  rw [r1, kBi_s, if_neg (n6_ne (by omega)), kG_nI (by omega) (by decide), kx_nI (by omega), g1, kBi_s, C_weightThere C' I hi g3, kBi_s, C_isQuorum C' I, kBi_s]
/-- what an item becomes, by its sums -/
abbrev sBec (T : kT) (i nm : Nat) : Int32 := sOut T i (sTal T i nm nm 1) (sTal T i nm nm 2) (sTal T i nm nm 0)
abbrev tClo (T : kT) (i nm : Nat) : kT := ts (tSum T i (sTal T i nm nm)) 2 i 2 (sBec T i nm)
abbrev tPut (T : kT) (i : Nat) : kT := tOff (ts (ts T 2 i 2 (nI 0)) 2 i 10 (T 2 i 10 + 1)) i 12
theorem op_close (I : Iv T nm ni nv) {i : Nat} (hi : i < ni) (F : Fst (fun i => decide (T 2 i 2 = 1)) ni (nI i)) (d : sQuo T nm (sThr T i nm nm) = true) : Opn (fun h => f_C_closeItem h 1 141) T nm ni nv (sBec T i nm) (tClo T i nm) nm ni nv := by
  have hn := I.n
  have b6 := brk_6 I (show i < 12 by omega) (k := 1) (by decide) (fst_st (by omega) hn.2.1 F)
  obtain ⟨o, o1, o2, o3⟩ := sOut_n T i (sTal T i nm nm 1) (sTal T i nm nm 2) (sTal T i nm nm 0)
  have It : Iv (ts T 2 i 2 (nI o)) nm ni nv := I.state hi o2 (Or.inl b6)
  have I' := It.sums hi (sTal T i nm nm)
  have swap : tSum (ts T 2 i 2 (nI o)) i (sTal T i nm nm) = ts (tSum T i (sTal T i nm nm)) 2 i 2 (nI o) := by
    funext a b c
    unfold ts tSum
    try dsimp only
    by_cases q : a = 2 ∧ b = i ∧ c = 2
    · rw [if_pos q, if_neg (by omega), if_pos q]
    · rw [if_neg q, if_neg q]
  unfold tClo sBec
  rw [o3, ← swap]
  refine ⟨I', fun h C => ?_⟩
  obtain ⟨g, g1, g2, g3, g4⟩ := close_cc I hi F C
  obtain ⟨h7, t1, t2, t3⟩ := C_tally (s := 141) g2 I hi (Or.inr (by decide)) g3
  have C7 : Com h7 1 T nm ni nv := g2.cong hn.2.1 fun a a1 a2 => t2 a (by omega)
  have o8 : ∀ a, a ≠ 12 + 5 * i → hcpy h7 (141 + 3) ((1 + 10 + 5 * i) + 1) 0 0 6 a = h7 a := by
    intro a q
    funext j
    unfold hcpy
    rw [if_neg (by omega)]
  have e8 : ∀ k, k < 6 → hcpy h7 (141 + 3) ((1 + 10 + 5 * i) + 1) 0 0 6 (12 + 5 * i) k = sTal T i nm nm k := by
    intro k hk
    unfold hcpy va_cpy
    rw [if_pos (by omega), if_pos (by omega), Nat.zero_add, Nat.sub_zero, t3 k hk]
  have C8 := C7.sums hn.2.1 hi (sTal T i nm nm) o8 e8
  have C9 := C8.slot hn.2.1 hi (k := 2) (j := 2) (Or.inl ⟨rfl, rfl⟩) (nI o)
  have oo : sOut (tSum T i (sTal T i nm nm)) i (sTal T i nm nm 1 + 0) (sTal T i nm nm 2) (sTal T i nm nm 0) = nI o := by
    rw [← o3, Int32.add_zero]
    unfold sOut
    rw [tSum_ne _ _ _ (by omega), tSum_o _ _ _ (show 0 ≠ 2 by decide)]
  have e144 : ∀ k, k < 6 → hcpy h7 (141 + 3) ((1 + 10 + 5 * i) + 1) 0 0 6 (141 + 3) k = sTal T i nm nm k := by
    intro k hk
    rw [o8 _ (by omega)]
    exact t3 k hk
  refine ⟨hset (hcpy h7 (141 + 3) ((1 + 10 + 5 * i) + 1) 0 0 6) (1 + 10 + 5 * i) 2 (nI o), ?_, fun a a0 a1 a2 a3 => ?_, by rw [swap]; exact C9⟩
  · have cg : ∀ {α : Type} (k : Option α), kCg 0 0 6 6 6 k = k := fun k => if_neg (by decide)
    try dsimp only
    rw [g4, if_pos d, t1, kBi_s, cg, show kx 0 = 0 from x_0, show kx 6 = 6 from x_6, kLet_s, C_outcome (s := 141) C8 hi, kBi_s, e144 1 (by decide), e144 2 (by decide), e144 0 (by decide), oo, kLet_s, hs_eq]
  · rw [hs_of _ _ (by omega), o8 a (by omega), t2 a (by omega)]
    exact g1 a a1 a2 a3
theorem op_close_off (I : Iv T nm ni nv) {i : Nat} (hi : i < ni) (F : Fst (fun i => decide (T 2 i 2 = 1)) ni (nI i)) (d : ¬ sQuo T nm (sThr T i nm nm) = true) : Opn (fun h => f_C_closeItem h 1 141) T nm ni nv 0 (tPut T i) nm ni nv := by
  have hn := I.n
  have b6 := brk_6 I (show i < 12 by omega) (k := 1) (by decide) (fst_st (by omega) hn.2.1 F)
  refine ⟨((I.state hi (a := 0) (by decide) (Or.inl b6)).put hi (T 2 i 10 + 1)).off hi 12, fun h C => ?_⟩
  obtain ⟨g, g1, g2, g3, g4⟩ := close_cc I hi F C
  have C1 := g2.slot hn.2.1 hi (k := 2) (j := 2) (Or.inl ⟨rfl, rfl⟩) (nI 0)
  have C2 := C1.slot hn.2.1 hi (k := 5) (j := 10) (Or.inr (Or.inr (Or.inr ⟨rfl, rfl⟩))) (T 2 i 10 + 1)
  have C3 := C2.off (h' := hfill (hset (hset g (1 + 10 + 5 * i) 2 (nI 0)) (1 + 10 + 5 * i) 5 (T 2 i 10 + 1)) (1 + 10 + 5 * i + 2) 12 (-6)) hn.2.1 hi (fun a q => hf_of _ _ (by omega)) (fun m hm => by
    rw [show 13 + 5 * i = 1 + 10 + 5 * i + 2 by omega]
    exact hf_in _ _ hm)
  refine ⟨_, ?_, fun a a0 a1 a2 a3 => ?_, C3⟩
  · try dsimp only
    rw [g4, if_neg d]
    unfold f_I_putOff
    rw [kLet_s, hs_ne _ _ (by omega), (g2.f i hi).2.2.2.2.2.1, kLet_s, kLet_s, kBi_s, hf_o _ _ (by omega), hs_ne _ _ (by omega), hs_eq]
    rfl
  · rw [hf_of _ _ (by omega), hs_of _ _ (by omega), hs_of _ _ (by omega)]
    exact g1 a a1 a2 a3
theorem op_close_no (I : Iv T nm ni nv) (z : ∀ i, i < ni → ¬ Fst (fun i => decide (T 2 i 2 = 1)) ni (nI i)) : Opn (fun h => f_C_closeItem h 1 141) T nm ni nv (-5) T nm ni nv := Opn.err I fun h C => by
  obtain ⟨r, r1, r2⟩ := C_firstIn C I 1
  try dsimp only
  unfold f_C_closeItem
  rw [r1, kBi_s]
  rcases r2.no with q | ⟨i, hi, rfl⟩
  · rw [if_pos q]
  · exact absurd r2 (z i hi)
theorem cast_cc {w : Nat} (w1 : 1 ≤ w) (w2 : w ≤ 2) (h : kH) : f_C_breakTie h 1 (nI w) = b_C_breakTie_13 h 1 (nI w) := by
  unfold f_C_breakTie
  have : w = 1 ∨ w = 2 := by omega
  rcases this with rfl | rfl <;> rfl
abbrev tCas (T : kT) (i r w : Nat) : kT := ts (ts (ts T 2 i 2 (nI (2 + w))) 2 i 9 (nI r)) 1 r 4 (T 1 r 4 + 1)
theorem op_cast (I : Iv T nm ni nv) {i r w : Nat} (w1 : 1 ≤ w) (w2 : w ≤ 2) (hi : i < ni) (hr : r < nm) (F : Fst (fun i => decide (T 2 i 2 = 2)) ni (nI i)) (K : ChairIs T nm (nI r)) (hc : sRec T i r = false) : Opn (fun h => f_C_breakTie h 1 (nI w)) T nm ni nv (nI (2 + w)) (tCas T i r w) nm ni nv := by
  have hn := I.n
  unfold tCas
  refine ⟨I.cast hi hr (fst_st (by omega) hn.2.1 F) (by omega), fun h C => ?_⟩
  obtain ⟨f1, f2, f3⟩ := C_firstIn C I 2
  obtain rfl := f3.one F
  obtain ⟨g1, g2, g3⟩ := C_chair C I
  obtain rfl := g3.one I K
  have C1 := (C.slot hn.2.1 hi (k := 2) (j := 2) (Or.inl ⟨rfl, rfl⟩) (nI (2 + w))).slot hn.2.1 hi (k := 4) (j := 9) (Or.inr (Or.inr (Or.inl ⟨rfl, rfl⟩))) (nI r)
  refine ⟨hset (hset h (1 + 10 + 5 * i) 2 (nI (2 + w))) (1 + 10 + 5 * i) 4 (nI r), ?_, fun a p _ _ _ => by rw [hs_of _ _ (by omega), hs_of _ _ (by omega)], ?_⟩
  · try dsimp only
    rw [cast_cc w1 w2]
    unfold b_C_breakTie_13 b_C_breakTie_69
    rw [f2, kBi_s, g2, kBi_s, if_neg (n6_ne (by omega)), if_neg (n6_ne (by omega)), kG_nI (by omega) (by decide), kx_nI (by omega), C_isRecused C I hi hr, hc, kBi_s, if_neg (by decide), kG_nI (by omega) (by decide), kLet_s, kLet_s, kG_nI (by omega) (by decide), kLet_s, kLet_s, kG_nI (by omega) (by decide), kG_nI (by omega) (by decide), kG_nI (by omega) (by decide)]
    have : w = 1 ∨ w = 2 := by omega
    rcases this with rfl | rfl
    · rw [if_pos (by decide), hs_ne _ _ (by omega), hs_eq]
      rfl
    · rw [if_neg (by decide), hs_ne _ _ (by omega), hs_eq]
      rfl
  · refine Com.of ?_ C1.b (fun m hm => ?_) C1.f C1.g
    · have p : ps (ts (ts (ts T 2 i 2 (nI (2 + w))) 2 i 9 (nI r)) 1 r 4 (T 1 r 4 + 1)) = ps (ts (ts T 2 i 2 (nI (2 + w))) 2 i 9 (nI r)) := by
        funext j
        unfold ps
        rw [ts_ne _ (b' := j) (c' := 2) _ (by omega)]
      unfold cA
      rw [p]
      exact C1.a
    · rw [ts_ne _ (b' := m) (c' := 0) _ (by omega), ts_ne _ (b' := m) (c' := 1) _ (by omega), ts_ne _ (b' := m) (c' := 3) _ (by omega)]
      exact C1.d m hm
theorem op_cast_no (I : Iv T nm ni nv) {w : Nat} (w1 : 1 ≤ w) (w2 : w ≤ 2) (z : ∀ i r, i < ni → r < nm → Fst (fun i => decide (T 2 i 2 = 2)) ni (nI i) → ChairIs T nm (nI r) → sRec T i r = true) : Opn (fun h => f_C_breakTie h 1 (nI w)) T nm ni nv (-5) T nm ni nv := Opn.err I fun h C => by
  have hn := I.n
  obtain ⟨f1, f2, f3⟩ := C_firstIn C I 2
  obtain ⟨g1, g2, g3⟩ := C_chair C I
  try dsimp only
  rw [cast_cc w1 w2]
  unfold b_C_breakTie_13
  rw [f2, kBi_s, g2, kBi_s]
  rcases f3.no with q | ⟨i, hi, rfl⟩
  · rw [if_pos q]
  · rw [if_neg (n6_ne (by omega))]
    rcases g3.no with q | ⟨r, hr, rfl⟩
    · rw [if_pos q]
    · rw [if_neg (n6_ne (by omega)), kG_nI (by omega) (by decide), kx_nI (by omega), C_isRecused C I hi hr, kBi_s, if_pos (z i r hi hr f3 g3)]
/-- what time leaves: no movement of the past; nobody is changed but by movements -/
theorem mdlN_f : ∀ (x t : Nat) (P : Nat → Bool) (L : kQ), (mdlN t x P L).2.length ≤ L.length ∧ ((mdlN t x P L).2.length = L.length → (mdlN t x P L).1 = P) ∧ ∀ e, e ∈ (mdlN t x P L).2 → e ∈ L
  | 0, t, P, L => ⟨Nat.le_refl _, fun _ => rfl, fun e he => he⟩
  | x + 1, t, P, L => by
    obtain ⟨a1, a2, a3⟩ := mdlN_f x (t + 1) (mdl (t + 1) P L).1 (mdl (t + 1) P L).2
    have l1 : (mdl (t + 1) P L).2.length ≤ L.length := List.length_filter_le _ _
    rw [mdlN]
    refine ⟨by omega, fun q => ?_, fun e he => (List.mem_filter.mp (a3 e he)).1⟩
    rw [a2 (by omega)]
    have l2 : (L.filter (fun e => !decide (e.1 = t + 1))).length = L.length := by
      show (mdl (t + 1) P L).2.length = L.length
      omega
    have l3 := List.length_filter_eq_length_iff.mp l2
    exact fold_id (t + 1) L P (fun e he z => by have := l3 e he; simp [z] at this)
theorem op_pass (I : Iv T nm ni nv) {t w bd : Nat} (t2 : T 0 6 0 = nI t) (hw : 1 ≤ w ∧ w ≤ 600) (z : t + w ≤ 9000) (hbd : bd ≤ 10000) (hb : ∀ k, k < nv → ∃ a, a ≤ bd ∧ T 6 k 0 = nI a) : ∃ T' nv', Opn (fun h => f_C_letPass h 1 (nI w)) T nm ni nv (nI (t + w)) T' nm ni nv' ∧ T' 0 6 0 = nI (t + w) ∧ nv' ≤ nv ∧ (nv' = nv → ∀ m, m < 12 → ps T' m = ps T m) ∧ (∀ k, k < nv' → ∃ a, t + w < a ∧ a ≤ bd ∧ T' 6 k 0 = nI a) ∧ T' 2 = T 2 := by
  have hn := I.n
  obtain ⟨t', P, L, t1, t2', hl, K, hp, hq⟩ := queue_of I
  have tt : t' = t := by
    rw [t2', eqI (by omega) (by omega)] at t2
    exact t2
  subst tt
  have c1 : ¬ nI w < 1 := by rw [show (1 : Int32) = nI 1 from rfl, ltI (by omega) (by omega)]; omega
  have c2 : nI w ≤ 600 := by rw [show (600 : Int32) = nI 600 from rfl, leI (by omega) (by omega)]; omega
  have c9 : (nI (t' + w) ≤ 9000) = (t' + w ≤ 9000) := leI (a := t' + w) (b := 9000) (by omega) (by decide)
  have mp : Qk nm (t' + w) (mdlN t' w P L).1 (mdlN t' w P L).2 := by
    have key : ∀ (d k : Nat) (P : Nat → Bool) (L : kQ), Qk nm (t' + k) P L → Qk nm (t' + k + d) (mdlN (t' + k) d P L).1 (mdlN (t' + k) d P L).2 := by
      intro d
      induction d with
      | zero => intro k P L K; exact K
      | succ d ih =>
        intro k P L K
        rw [mdlN]
        have := ih (k + 1) _ _ K.md
        rw [show t' + k + (d + 1) = t' + (k + 1) + d by omega]
        exact this
    exact key w 0 P L K
  obtain ⟨f1, f2, f3⟩ := mdlN_f w t' P L
  refine ⟨tQ T (mdlN t' w P L).1 (t' + w) (mdlN t' w P L).2, (mdlN t' w P L).2.length, ⟨I.queue mp z, fun h C => ?_⟩, tQ_06, by omega, fun q m hm => ?_, fun k hk => ?_, tQ_a (by decide) (by decide) (by decide)⟩
  · have C1 := C.q hn.1 t2' I.c.2.2 hl hp hq
    obtain ⟨P', L', h', r1, r2, r3, r4, r5, r6, r7, -⟩ := C_move_loop (T := T) I z L.length kFuel t' P L h rfl (kF_lt (by omega)) K C1
    have e := Cls.eq L.length P L P' L' (fun e he => (K.2.1 e he).1) r2
    rw [e]
    refine ⟨h', ?_, fun a a0 _ _ _ => r3 a (by omega), r4⟩
    try dsimp only
    unfold f_C_letPass f_C_moveTo
    rw [if_neg c1, if_pos c2, C.a.1, t2', nI_add, if_pos (by rw [c9]; exact z), show 1 + 6 = 7 from rfl, show h 7 0 = nI L.length from by rw [hl]; exact C.a.2.2.2.2.2.trans I.c.2.2, r1, kBi_s, r5]
  · rw [tQ_ps, f2 (by omega)]
    unfold ps
    rw [hp m hm]
    cases P m <;> decide
  · have hm := f3 _ (nth_mem hk)
    obtain ⟨j, j1, j2⟩ := mem_nth hm
    obtain ⟨a, a1, a2⟩ := hb j (by omega)
    have e := hq j 0 (by omega) (by decide)
    rw [a2, j2] at e
    obtain ⟨k1, k2, _⟩ := mp.2.1 _ (nth_mem hk)
    have e' : a = (nth (mdlN t' w P L).2 k).1 := by
      have : nI a = nI (nth (mdlN t' w P L).2 k).1 := e
      rw [eqI (by omega) (by omega)] at this
      exact this
    refine ⟨(nth (mdlN t' w P L).2 k).1, k1, by omega, ?_⟩
    rw [tQ_6]
    rfl
end
