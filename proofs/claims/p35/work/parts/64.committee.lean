/-! CONSTRUCTOR of the committee. -/
def mRefs (b s n m : Nat) : List Value := (List.range n).map (fun j => if j < m then .ref (b + s * j) else .null)
theorem mRefs_len (b s n m : Nat) : (mRefs b s n m).length = n := by simp [mRefs]
theorem mRefs_0 (b s n : Nat) : mRefs b s n 0 = List.replicate n .null := by
  apply List.ext_getElem?
  intro j
  by_cases h : j < n <;> simp [mRefs, List.getElem?_replicate, h]
theorem mRefs_set {b s n m : Nat} (h : m < n) : (mRefs b s n m).set m (.ref (b + s * m)) = mRefs b s n (m + 1) := by
  apply List.ext_getElem?
  intro j
  rw [List.getElem?_set, mRefs_len]
  by_cases q : m = j
  · subst q
    rw [if_pos rfl, if_pos h]
    simp [mRefs, h]
  · rw [if_neg q]
    by_cases w : j < n
    · have e : (j < m) = (j < m + 1) := propext ⟨fun a => by omega, fun a => by omega⟩
      simp [mRefs, w, e]
    · simp [mRefs, w]
def cItems (b : Nat) : Nat → List kC
  | 0 => []
  | n + 1 => cItems b n ++ cells_I (b + 5 * n)
theorem cItems_len (b : Nat) : ∀ n, (cItems b n).length = 5 * n
  | 0 => rfl
  | n + 1 => by
    rw [cItems, List.length_append, cItems_len b n]
    show 5 * n + 5 = 5 * (n + 1)
    omega
abbrev kF6 : List Value := [.int 50, .int 34, .int 240, .int 2, .int 1, .int 1]
def cCom (b n : Nat) : List kC := (0, [.int 0, .int 0, .int 0, .int 0, .int (-6), .ref (b + 1), .ref (b + 2), .ref (b + 3), .ref (b + 4), .ref (b + 5), .ref (b + 6)]) :: (10, kF6) :: (10, List.replicate 12 (.int 0)) :: (10, List.replicate 12 (.int 0)) :: (10, List.replicate 12 (.int 0)) :: (13, mRefs (b + 10) 5 12 n) :: (cells_V (b + 6) ++ cItems (b + 10) n)
theorem cCom_len (b n : Nat) : (cCom b n).length = 10 + 5 * n := by
  unfold cCom
  rw [List.length_cons, List.length_cons, List.length_cons, List.length_cons, List.length_cons, List.length_cons, List.length_append, cItems_len]
  show 4 + 5 * n + 1 + 1 + 1 + 1 + 1 + 1 = _
  omega
theorem cCom_s {b i : Nat} (h : i < 12) : (cCom b i ++ cells_I (b + 10 + 5 * i)).set 5 (13, (mRefs (b + 10) 5 12 i).set i (.ref (b + 10 + 5 * i))) = cCom b (i + 1) := by
  rw [mRefs_set h]
  unfold cCom
  rw [cItems]
  simp only [List.cons_append, List.append_assoc, List.set_cons_succ, List.set_cons_zero]
section ROWS
variable {E : kE} {M : kM} {r : Option Int32} {g' : List kC} {fc fs pc : Nat} {lv : kLv} {st : List Value} {g0 L : List kC} {b : Nat}
theorem kN_init (pc' : Nat) (N : kM) (st' : List Value) (i fc' fs' a : Nat) (L' : List kC) {ix ci : Nat} {vs : List Value} {cells : List kC} (hb : g0.length = b) (hd : decode (kB M) pc = .ok (.invokespecial ix, 3)) (hc : kCall (kY M).cls ix N 0) (hv : kR N = none ∧ (kY N).name = "<init>" ∧ Cond.instanceMethod (kY N) ∈ kWG) (hcat : (st'.map fun v => v.category).sum ≤ 8) (hrm : kRoom M N) (hi : L.length = i) (ha : b + i = a) (hJ : ∀ g1 : List kC, g1.length = a → JM E N [.ref a] (g1 ++ [(ci, vs)]) none (g1 ++ cells)) (hL : L ++ cells = L') (hc' : fc + kMC N = fc') (hs' : fs + kMS N = fs') (hfc : fc' ≤ kMC M) (hfs : fs' ≤ kMS M) (hp : pc + 3 = pc') (kk : kJ E M r g' fc' fs' pc' lv st' (g0 ++ L')) : kJ E M r g' fc fs pc lv (.ref a :: st') (g0 ++ (L ++ [(ci, vs)])) := by
  subst hc' hs' hL
  have e := hJ (g0 ++ L) (by rw [List.length_append, hb, hi, ha])
  rw [List.append_assoc, List.append_assoc] at e
  exact kJ_calln pc' N [] st' hd hc hv rfl rfl hcat hrm ⟨hfc, hfs⟩ e hp kk
theorem kN_first (pc' i a : Nat) (L' : List kC) {Ls : Nat} {xs : Nat → Int32} {ix : Nat} (hro : kRo E Ls xs) (hb : g0.length = b) (hd : decode (kB M) pc = .ok (.invokestatic ix, 3)) (hw : kCpW (kY M).cls ix) (ha : b + i = a) (he : L[i]? = some (10, List.replicate 6 (.int 0))) (hst : st = []) (hrm : 1 ≤ (krm M).frames ∧ nativeFrameWords "java/lang/System" "arraycopy" 5 + 11 ≤ (krm M).locals) (hL : L.set i (10, kF6) = L') (hp : pc + 3 = pc') (kk : kJ E M r g' fc fs pc' lv st (g0 ++ L')) : kJ E M r g' fc fs pc lv (.int 6 :: .int 0 :: .ref a :: .int 0 :: .retAddr 0 :: st) (g0 ++ L) := by
  subst hL ha hst
  obtain ⟨h1, h2, _⟩ := hro
  refine kJ_rcopy (k := 0) pc' hd hw (by decide) (by rw [kApp_get hb]; exact he) (by decide) (by decide) (by decide) (by rw [h2]; decide) (by rw [List.length_replicate]; decide) (by rw [List.map_nil, List.sum_nil, Nat.zero_add]; exact hrm) hp ?_
  rw [kApp_set hb]
  have e : kCpF (E.2.2.2 0).2.2 (kFn (List.replicate 6 (.int 0))) (List.replicate 6 (Value.int 0)).length (Int32.toNatClampNeg 0) (Int32.toNatClampNeg 0) (Int32.toNatClampNeg 6) = kF6 := by
    have c : ∀ j, j < 6 → va_cpy (E.2.2.2 0).2.2 (kFn (List.replicate 6 (.int 0))) (Int32.toNatClampNeg 0) (Int32.toNatClampNeg 0) (Int32.toNatClampNeg 6) j = kFirst j := by
      intro j hj
      have e0 : Int32.toNatClampNeg 0 = 0 := by decide
      have e6 : Int32.toNatClampNeg 6 = 6 := by decide
      unfold va_cpy
      rw [e0, e6, if_pos (by omega), ← h1 j hj]
      exact congrArg (E.2.2.2 0).2.2 (show 0 + (j - 0) = j by omega)
    unfold kCpF
    rw [List.length_replicate]
    show [Value.int _, .int _, .int _, .int _, .int _, .int _] = _
    rw [c 0 (by decide), c 1 (by decide), c 2 (by decide), c 3 (by decide), c 4 (by decide), c 5 (by decide)]
    rfl
  rw [e]
  exact kk
end ROWS
theorem j_C_init {E : kE} {Ls : Nat} {xs : Nat → Int32} (hro : kRo E Ls xs) {g0 : List kC} {b : Nat} (hb : g0.length = b) : JM E m_C_init [.ref b] (g0 ++ [(0, kDc)]) none (g0 ++ cCom b 12) := by
  -- the loop over the items
  have loop : ∀ (d i : Nat), i + d = 12 → kJ E m_C_init none (g0 ++ cCom b 12) (9 + 5 * i) (118 + 52 * i) 78 [(0, .ref b), (1, .int (nI i))] [] (g0 ++ cCom b i) := by
    intro d
    induction d with
    | zero =>
      intro i hi
      obtain rfl : i = 12 := hi
      refine kJ_iload_n 79 1 d_C_init_78 rfl rfl rfl ?_
      refine kJ_bipush 81 12 d_C_init_79 kb_12 rfl ?_
      refine kJ_icmp_ge 84 103 d_C_init_81 rfl rfl (fun hc => ?_) (fun hc => ?_)
      · exact kJ_ret d_C_init_103 rfl (Nat.le_of_ble_eq_true rfl) (Nat.le_of_ble_eq_true rfl)
      · exact absurd (show (12 : Int32) ≤ nI 12 from by decide) hc
    | succ d ih =>
      intro i hi
      have e5 : b + (10 + 5 * i) = b + 10 + 5 * i := by omega
      refine kJ_iload_n 79 1 d_C_init_78 rfl rfl rfl ?_
      refine kJ_bipush 81 12 d_C_init_79 kb_12 rfl ?_
      refine kJ_icmp_ge 84 103 d_C_init_81 rfl rfl (fun hc => ?_) (fun hc => ?_)
      · exact absurd hc (show ¬ (12 : Int32) ≤ nI i from by rw [show (12 : Int32) = nI 12 from rfl, leI (by omega) (by omega)]; omega)
      refine kJ_aload_n 85 0 d_C_init_84 rfl rfl rfl rfl ?_
      refine kN_getf 88 0 hb d_C_init_85 l_C_30 rfl rfl rfl rfl ?_
      refine kJ_iload_n 89 1 d_C_init_88 rfl rfl rfl ?_
      refine kN_new 92 3 10 (10 + 5 * i) (10 + 5 * i) (128 + 52 * i) (b + 10 + 5 * i) _ hb d_C_init_89 nw_I (cCom_len b i) e5 rfl (by omega) (by omega) (show 10 + 5 * i ≤ 69 from by omega) (show 128 + 52 * i ≤ 742 from by omega) rfl ?_
      refine kJ_dup 93 d_C_init_92 rfl rfl ?_
      refine kN_init 96 m_I_init _ (10 + 5 * i) (14 + 5 * i) (170 + 52 * i) (b + 10 + 5 * i) _ hb d_C_init_93 cl_C_50 ⟨rfl, rfl, w_109⟩ (Nat.le_of_ble_eq_true rfl) ⟨Nat.le_of_ble_eq_true rfl, Nat.le_of_ble_eq_true rfl⟩ (cCom_len b i) e5 (fun g1 h1 => j_I_init h1) rfl (show 10 + 5 * i + 4 = 14 + 5 * i from by omega) (show 128 + 52 * i + 42 = 170 + 52 * i from by omega) (show 14 + 5 * i ≤ 69 from by omega) (show 170 + 52 * i ≤ 742 from by omega) rfl ?_
      refine kN_aast 97 5 (10 + 5 * i) (cCom b (i + 1)) (vs := mRefs (b + 10) 5 12 i) (ws := [.int 0, .int 0, .int 0, .int 0, .int 0, .int 0, .ref (b + 10 + 5 * i + 1), .ref (b + 10 + 5 * i + 2), .ref (b + 10 + 5 * i + 3), .ref (b + 10 + 5 * i + 4)]) hb d_C_init_96 13 rfl e5 rfl ?_ (Or.inl ⟨rfl, rfl⟩) (by rw [mRefs_len]; exact vp_in_nI (by omega) (by decide)) ?_ rfl ?_
      · rw [List.getElem?_append_right (by rw [cCom_len]; exact Nat.le_refl _), cCom_len, Nat.sub_self]
        rfl
      · rw [show (nI i).toNatClampNeg = i from kx_nI (by omega)]
        exact cCom_s (by omega)
      refine kJ_iinc 100 1 [(1, .int (nI i + 1)), (0, .ref b)] d_C_init_97 rfl ki_1 (Nat.le_of_ble_eq_true rfl) rfl rfl ?_
      refine kJ_goto 78 d_C_init_100 rfl ?_
      refine kJ_sub [1, 0] rfl ?_
      rw [nI_1]
      have k := ih (i + 1) (by omega)
      rw [show 9 + 5 * (i + 1) = 14 + 5 * i by omega, show 118 + 52 * (i + 1) = 170 + 52 * i by omega] at k
      exact k
  refine JM.of pn_C (Nat.le_of_ble_eq_true rfl) ?_
  refine kJ_aload_n 1 0 d_C_init_0 rfl rfl rfl rfl ?_
  refine kJ_objInit 4 d_C_init_1 ⟨w_74, w_67, w_68⟩ rfl ⟨by decide, by decide⟩ rfl ?_
  refine kJ_aload_n 5 0 d_C_init_4 rfl rfl rfl rfl ?_
  refine kJ_bipush 7 (-6) d_C_init_5 kb_m6 rfl ?_
  refine kN_putf 10 0 [(0, [.int 0, .int 0, .int 0, .int 0, .int (-6), .null, .null, .null, .null, .null, .null])] hb d_C_init_7 l_C_9 rfl rfl (kFit_int _) (Nat.le_of_ble_eq_true rfl) rfl rfl ?_
  refine kJ_aload_n 11 0 d_C_init_10 rfl rfl rfl rfl ?_
  refine kJ_bipush 13 6 d_C_init_11 kb_6 rfl ?_
  refine kN_newa 15 10 6 1 1 6 (b + 1) [(0, [.int 0, .int 0, .int 0, .int 0, .int (-6), .null, .null, .null, .null, .null, .null]), (10, List.replicate 6 (.int 0))] hb d_C_init_13 (Or.inl ⟨rfl, rfl⟩) w_101 rfl rfl rfl (by decide) rfl (Nat.le_of_ble_eq_true rfl) rfl rfl (Nat.le_of_ble_eq_true rfl) (Nat.le_of_ble_eq_true rfl) rfl ?_
  refine kN_putF 18 0 [(0, [.int 0, .int 0, .int 0, .int 0, .int (-6), .ref (b + 1), .null, .null, .null, .null, .null]), (10, List.replicate 6 (.int 0))] hb d_C_init_15 l_C_15 (by decide) (fun C T N h => by cases h; rfl) rfl rfl rfl (kFit_arr _ _) (Nat.le_of_ble_eq_true rfl) rfl rfl ?_
  refine kJ_aload_n 19 0 d_C_init_18 rfl rfl rfl rfl ?_
  refine kJ_bipush 21 12 d_C_init_19 kb_12 rfl ?_
  refine kN_newa 23 10 12 2 2 18 (b + 2) [(0, [.int 0, .int 0, .int 0, .int 0, .int (-6), .ref (b + 1), .null, .null, .null, .null, .null]), (10, List.replicate 6 (.int 0)), (10, List.replicate 12 (.int 0))] hb d_C_init_21 (Or.inl ⟨rfl, rfl⟩) w_101 rfl rfl rfl (by decide) rfl (Nat.le_of_ble_eq_true rfl) rfl rfl (Nat.le_of_ble_eq_true rfl) (Nat.le_of_ble_eq_true rfl) rfl ?_
  refine kN_putF 26 0 [(0, [.int 0, .int 0, .int 0, .int 0, .int (-6), .ref (b + 1), .ref (b + 2), .null, .null, .null, .null]), (10, List.replicate 6 (.int 0)), (10, List.replicate 12 (.int 0))] hb d_C_init_23 l_C_19 (by decide) (fun C T N h => by cases h; rfl) rfl rfl rfl (kFit_arr _ _) (Nat.le_of_ble_eq_true rfl) rfl rfl ?_
  refine kJ_aload_n 27 0 d_C_init_26 rfl rfl rfl rfl ?_
  refine kJ_bipush 29 12 d_C_init_27 kb_12 rfl ?_
  refine kN_newa 31 10 12 3 3 30 (b + 3) [(0, [.int 0, .int 0, .int 0, .int 0, .int (-6), .ref (b + 1), .ref (b + 2), .null, .null, .null, .null]), (10, List.replicate 6 (.int 0)), (10, List.replicate 12 (.int 0)), (10, List.replicate 12 (.int 0))] hb d_C_init_29 (Or.inl ⟨rfl, rfl⟩) w_101 rfl rfl rfl (by decide) rfl (Nat.le_of_ble_eq_true rfl) rfl rfl (Nat.le_of_ble_eq_true rfl) (Nat.le_of_ble_eq_true rfl) rfl ?_
  refine kN_putF 34 0 [(0, [.int 0, .int 0, .int 0, .int 0, .int (-6), .ref (b + 1), .ref (b + 2), .ref (b + 3), .null, .null, .null]), (10, List.replicate 6 (.int 0)), (10, List.replicate 12 (.int 0)), (10, List.replicate 12 (.int 0))] hb d_C_init_31 l_C_22 (by decide) (fun C T N h => by cases h; rfl) rfl rfl rfl (kFit_arr _ _) (Nat.le_of_ble_eq_true rfl) rfl rfl ?_
  refine kJ_aload_n 35 0 d_C_init_34 rfl rfl rfl rfl ?_
  refine kJ_bipush 37 12 d_C_init_35 kb_12 rfl ?_
  refine kN_newa 39 10 12 4 4 42 (b + 4) [(0, [.int 0, .int 0, .int 0, .int 0, .int (-6), .ref (b + 1), .ref (b + 2), .ref (b + 3), .null, .null, .null]), (10, List.replicate 6 (.int 0)), (10, List.replicate 12 (.int 0)), (10, List.replicate 12 (.int 0)), (10, List.replicate 12 (.int 0))] hb d_C_init_37 (Or.inl ⟨rfl, rfl⟩) w_101 rfl rfl rfl (by decide) rfl (Nat.le_of_ble_eq_true rfl) rfl rfl (Nat.le_of_ble_eq_true rfl) (Nat.le_of_ble_eq_true rfl) rfl ?_
  refine kN_putF 42 0 [(0, [.int 0, .int 0, .int 0, .int 0, .int (-6), .ref (b + 1), .ref (b + 2), .ref (b + 3), .ref (b + 4), .null, .null]), (10, List.replicate 6 (.int 0)), (10, List.replicate 12 (.int 0)), (10, List.replicate 12 (.int 0)), (10, List.replicate 12 (.int 0))] hb d_C_init_39 l_C_25 (by decide) (fun C T N h => by cases h; rfl) rfl rfl rfl (kFit_arr _ _) (Nat.le_of_ble_eq_true rfl) rfl rfl ?_
  refine kJ_aload_n 43 0 d_C_init_42 rfl rfl rfl rfl ?_
  refine kJ_bipush 45 12 d_C_init_43 kb_12 rfl ?_
  refine kN_newq 48 13 12 5 5 54 (b + 5) 0 [(0, [.int 0, .int 0, .int 0, .int 0, .int (-6), .ref (b + 1), .ref (b + 2), .ref (b + 3), .ref (b + 4), .null, .null]), (10, List.replicate 6 (.int 0)), (10, List.replicate 12 (.int 0)), (10, List.replicate 12 (.int 0)), (10, List.replicate 12 (.int 0)), (13, List.replicate 12 .null)] hb d_C_init_45 (Or.inl ⟨rfl, rfl⟩) w_75 rfl rfl rfl rfl (by decide) rfl (Nat.le_of_ble_eq_true rfl) rfl rfl (Nat.le_of_ble_eq_true rfl) (Nat.le_of_ble_eq_true rfl) rfl ?_
  refine kN_putF 51 0 [(0, [.int 0, .int 0, .int 0, .int 0, .int (-6), .ref (b + 1), .ref (b + 2), .ref (b + 3), .ref (b + 4), .ref (b + 5), .null]), (10, List.replicate 6 (.int 0)), (10, List.replicate 12 (.int 0)), (10, List.replicate 12 (.int 0)), (10, List.replicate 12 (.int 0)), (13, List.replicate 12 .null)] hb d_C_init_48 l_C_30 (by decide) (fun C T N h => by cases h; rfl) rfl rfl rfl (kFit_arr _ _) (Nat.le_of_ble_eq_true rfl) rfl rfl ?_
  refine kJ_aload_n 52 0 d_C_init_51 rfl rfl rfl rfl ?_
  refine kN_new 55 4 4 6 6 58 (b + 6) _ hb d_C_init_52 nw_V rfl rfl rfl rfl rfl (Nat.le_of_ble_eq_true rfl) (Nat.le_of_ble_eq_true rfl) rfl ?_
  refine kJ_dup 56 d_C_init_55 rfl rfl ?_
  refine kN_init 59 m_V_init _ 6 9 118 (b + 6) ([(0, [.int 0, .int 0, .int 0, .int 0, .int (-6), .ref (b + 1), .ref (b + 2), .ref (b + 3), .ref (b + 4), .ref (b + 5), .null]), (10, List.replicate 6 (.int 0)), (10, List.replicate 12 (.int 0)), (10, List.replicate 12 (.int 0)), (10, List.replicate 12 (.int 0)), (13, List.replicate 12 .null)] ++ cells_V (b + 6)) hb d_C_init_56 cl_C_36 ⟨rfl, rfl, w_80⟩ (Nat.le_of_ble_eq_true rfl) ⟨Nat.le_of_ble_eq_true rfl, Nat.le_of_ble_eq_true rfl⟩ rfl rfl (fun g1 h1 => j_V_init h1) rfl rfl rfl (Nat.le_of_ble_eq_true rfl) (Nat.le_of_ble_eq_true rfl) rfl ?_
  refine kN_putF 62 0 ([(0, [.int 0, .int 0, .int 0, .int 0, .int (-6), .ref (b + 1), .ref (b + 2), .ref (b + 3), .ref (b + 4), .ref (b + 5), .ref (b + 6)]), (10, List.replicate 6 (.int 0)), (10, List.replicate 12 (.int 0)), (10, List.replicate 12 (.int 0)), (10, List.replicate 12 (.int 0)), (13, List.replicate 12 .null)] ++ cells_V (b + 6)) hb d_C_init_59 l_C_37 (by decide) (fun C T N h => by cases h; rfl) rfl rfl rfl (kFit_obj _ _) (Nat.le_of_ble_eq_true rfl) rfl rfl ?_
  refine kJ_gets0 65 d_C_init_62 wn_102 rfl ?_
  refine kJ_iconst 66 0 d_C_init_65 ki_0 rfl ?_
  refine kJ_aload_n 67 0 d_C_init_66 rfl rfl rfl rfl ?_
  refine kN_getf 70 0 hb d_C_init_67 l_C_15 rfl rfl rfl rfl ?_
  refine kJ_iconst 71 0 d_C_init_70 ki_0 rfl ?_
  refine kJ_bipush 73 6 d_C_init_71 kb_6 rfl ?_
  refine kN_first 76 1 (b + 1) (cCom b 0) hro hb d_C_init_73 cp_C_44 rfl rfl rfl ⟨Nat.le_of_ble_eq_true rfl, Nat.le_of_ble_eq_true rfl⟩ ?_ rfl ?_
  · unfold cCom
    rw [mRefs_0]
    rfl
  refine kJ_iconst 77 0 d_C_init_76 ki_0 rfl ?_
  refine kJ_istore_n 78 [(1, .int 0), (0, .ref b)] d_C_init_77 rfl (Nat.le_of_ble_eq_true rfl) rfl rfl ?_
  refine kJ_sub [1, 0] rfl ?_
  exact loop 12 0 rfl
