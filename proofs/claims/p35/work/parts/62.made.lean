/-! CONSTRUCTORS: rows over a list of cells g0 ++ L, its first part of length b. -/
def kFP : List (String × Nat) := [(RX4, 9), (RX4, 15), (RX4, 18), (RX3, 9), (RX3, 15), (RX3, 18), (RX3, 21), (RX1, 9), (RX1, 15), (RX1, 18), (RX5, 9), (RX5, 15), (RX5, 18), (RX5, 22), (RX0, 15), (RX0, 19), (RX0, 22), (RX0, 25), (RX0, 30), (RX0, 37), (RX2, 11), (RX6, 10), (RX6, 16), (RX6, 22), (RX6, 29), (RX6, 36), (RX6, 40), (RX6, 44), (RX6, 48), (RX6, 52)]
def kFPt (w : Cond) : Bool := match w with
  | .fieldLinkNest o i _ _ _ _ => !(kFP.contains (o, i))
  | _ => true
theorem kFP_all : kNest.all kFPt = true := by decide +kernel
theorem kFP_no {own : String} {ix : Nat} (h : kFP.contains (own, ix) = true) (C nm ds host : String) : Cond.fieldLinkNest own ix C nm ds host ∉ kNest := by
  intro hm
  have := List.all_eq_true.mp kFP_all _ hm
  simp only [kFPt, h] at this
  cases this
section ROWS
variable {E : kE} {M : kM} {r : Option Int32} {g' : List kC} {fc fs pc : Nat} {lv : kLv} {st : List Value} {g0 L : List kC} {b : Nat}
theorem kApp_get (hb : g0.length = b) (i : Nat) : (g0 ++ L)[b + i]? = L[i]? := by
  subst hb
  rw [List.getElem?_append_right (Nat.le_add_right _ _), Nat.add_sub_cancel_left]
theorem kApp_set (hb : g0.length = b) (i : Nat) (c : kC) : (g0 ++ L).set (b + i) c = g0 ++ L.set i c := by
  subst hb
  rw [List.set_append_right _ _ (Nat.le_add_right _ _), Nat.add_sub_cancel_left]
theorem kN_newa (pc' tg N i fc' fs' a : Nat) (L' : List kC) {at_ : ArrayType} {n : Int32} (hb : g0.length = b) (hd : decode (kB M) pc = .ok (.newarray at_, 2)) (ht : (tg = 10 ∧ at_ = .int) ∨ (tg = 11 ∧ at_ = .char) ∨ (tg = 12 ∧ at_ = .boolean)) (hw : Cond.arrayClass (newarray.typeOf at_) ∈ kWG) (hi : L.length = i) (ha : b + i = a) (hL : L ++ [(tg, List.replicate N (.int 0))] = L') (hn : ¬ n < 0) (hN : n.toNatClampNeg = N) (hb8 : N * 4 ≤ 536870912) (hc' : fc + 1 = fc') (hs' : fs + N = fs') (hfc : fc' ≤ kMC M) (hfs : fs' ≤ kMS M) (hp : pc + 2 = pc') (kk : kJ E M r g' fc' fs' pc' lv (.ref a :: st) (g0 ++ L')) : kJ E M r g' fc fs pc lv (.int n :: st) (g0 ++ L) := by
  subst hc' hs' hL ha hi
  refine kJ_newa pc' tg N hd ht hw hn hN hb8 hfc hfs hp ?_
  rw [List.length_append, hb, List.append_assoc]
  exact kk
theorem kN_newq (pc' tg N i fc' fs' a ci : Nat) (L' : List kC) {ix : Nat} {n : Int32} {C : String} (hb : g0.length = b) (hd : decode (kB M) pc = .ok (.anewarray ix, 3)) (ht : (tg = 13 ∧ C = RX3) ∨ (tg = 14 ∧ C = RX0)) (hw : Cond.classLink (kY M).cls ix C ∈ kWG) (hci : ci = 0) (hi : L.length = i) (ha : b + i = a) (hL : L ++ [(tg, List.replicate N .null)] = L') (hn : ¬ n < 0) (hN : n.toNatClampNeg = N) (hb8 : N * 4 ≤ 536870912) (hc' : fc + 1 = fc') (hs' : fs + N = fs') (hfc : fc' ≤ kMC M) (hfs : fs' ≤ kMS M) (hp : pc + 3 = pc') (kk : kJ E M r g' fc' fs' pc' lv (.ref a :: st) (g0 ++ L')) : kJ E M r g' fc fs pc lv (.int n :: st) (g0 ++ L) := by
  subst hc' hs' hL ha hi
  refine kJ_newq pc' tg N ci hd ht hw hn hN hb8 hfc hfs hp ?_
  rw [List.length_append, hb, List.append_assoc]
  exact kk
theorem kN_new (pc' ci N i fc' fs' a : Nat) (L' : List kC) {ix : Nat} {vs : List Value} (hb : g0.length = b) (hd : decode (kB M) pc = .ok (.new ix, 3)) (hn : kNew (kY M).cls ix ci N vs) (hi : L.length = i) (ha : b + i = a) (hL : L ++ [(ci, vs)] = L') (hc' : fc + 1 = fc') (hs' : fs + N = fs') (hfc : fc' ≤ kMC M) (hfs : fs' ≤ kMS M) (hp : pc + 3 = pc') (kk : kJ E M r g' fc' fs' pc' lv (.ref a :: st) (g0 ++ L')) : kJ E M r g' fc fs pc lv st (g0 ++ L) := by
  subst hc' hs' hL ha hi
  refine kJ_new pc' hd hn hfc hfs hp ?_
  rw [List.length_append, hb, List.append_assoc]
  exact kk
theorem kN_putF (pc' i : Nat) (L' : List kC) {ix ci k a : Nat} {t : FieldType} {vs : List Value} {v : Value} (hb : g0.length = b) (hd : decode (kB M) pc = .ok (.putfield ix, 3)) (hf : kFl (kY M).cls ix ci k t true) (hP : kFP.contains ((kY M).cls, ix) = true) (hC : ∀ C T N, kCl[ci]? = some (C, T, N) → C = (kY M).cls) (hini : (kY M).name = "<init>") (ha : b + i = a) (he : L[i]? = some (ci, vs)) (hv : kFit t v) (hlen : k < vs.length) (hL : L.set i (ci, vs.set k v) = L') (hp : pc + 3 = pc') (kk : kJ E M r g' fc fs pc' lv st (g0 ++ L')) : kJ E M r g' fc fs pc lv (v :: .ref a :: st) (g0 ++ L) := by
  subst hL ha
  refine kJ_putF pc' hd hf hC (fun C T N host _ => kFP_no hP _ _ _ _) hini (by rw [kApp_get hb]; exact he) hv hlen hp ?_
  rw [kApp_set hb]
  exact kk
theorem kN_putf (pc' i : Nat) (L' : List kC) {ix ci k a : Nat} {t : FieldType} {vs : List Value} {v : Value} (hb : g0.length = b) (hd : decode (kB M) pc = .ok (.putfield ix, 3)) (hf : kFl (kY M).cls ix ci k t false) (ha : b + i = a) (he : L[i]? = some (ci, vs)) (hv : kFit t v) (hlen : k < vs.length) (hL : L.set i (ci, vs.set k v) = L') (hp : pc + 3 = pc') (kk : kJ E M r g' fc fs pc' lv st (g0 ++ L')) : kJ E M r g' fc fs pc lv (v :: .ref a :: st) (g0 ++ L) := by
  subst hL ha
  refine kJ_putf pc' hd hf (by rw [kApp_get hb]; exact he) hv hlen hp ?_
  rw [kApp_set hb]
  exact kk
theorem kN_getf (pc' i : Nat) {ix ci k a : Nat} {t : FieldType} {fin : Bool} {vs : List Value} {v : Value} (hb : g0.length = b) (hd : decode (kB M) pc = .ok (.getfield ix, 3)) (hf : kFl (kY M).cls ix ci k t fin) (ha : b + i = a) (he : L[i]? = some (ci, vs)) (hv : vs[k]? = some v) (hp : pc + 3 = pc') (kk : kJ E M r g' fc fs pc' lv (v :: st) (g0 ++ L)) : kJ E M r g' fc fs pc lv (.ref a :: st) (g0 ++ L) := by
  subst ha
  exact kJ_getf pc' hd hf (by rw [kApp_get hb]; exact he) hv hp kk
theorem kN_aast (pc' i j : Nat) (L' : List kC) {a ci y : Nat} {vs ws : List Value} {x : Int32} (hb : g0.length = b) (hd : decode (kB M) pc = .ok (.aastore, 1)) (tg : Nat) (ha : b + i = a) (hy : b + j = y) (he : L[i]? = some (tg, vs)) (hj : L[j]? = some (ci, ws)) (ht : (tg = 13 ∧ ci = 3) ∨ (tg = 14 ∧ ci = 0)) (hin : vp_in x vs.length) (hL : L.set i (tg, vs.set x.toNatClampNeg (.ref y)) = L') (hp : pc + 1 = pc') (kk : kJ E M r g' fc fs pc' lv st (g0 ++ L')) : kJ E M r g' fc fs pc lv (.ref y :: .int x :: .ref a :: st) (g0 ++ L) := by
  subst hL ha hy
  refine kJ_aast pc' hd tg (by rw [kApp_get hb]; exact he) (by rw [kApp_get hb]; exact hj) ht hin hp ?_
  rw [kApp_set hb]
  exact kk
end ROWS
theorem nw_V : kNew RX0 34 4 4 [.int 0, .null, .null, .null] := ⟨RX4, TX4, tyX4, rfl, by decide, in_V, tyX4_ok, w_77, w_78, w_52, fun _ j hj => by
  match j, hj with
  | 0, _ => rfl
  | 1, _ => rfl
  | 2, _ => rfl
  | 3, _ => rfl
  | k + 4, h => exact absurd h (by omega)⟩
theorem nw_I : kNew RX0 28 3 10 [.int 0, .int 0, .int 0, .int 0, .int 0, .int 0, .null, .null, .null, .null] := ⟨RX3, TX3, tyX3, rfl, by decide, in_I, tyX3_ok, w_75, w_107, w_54, fun _ j hj => by
  match j, hj with
  | 0, _ => rfl
  | 1, _ => rfl
  | 2, _ => rfl
  | 3, _ => rfl
  | 4, _ => rfl
  | 5, _ => rfl
  | 6, _ => rfl
  | 7, _ => rfl
  | 8, _ => rfl
  | 9, _ => rfl
  | k + 10, h => exact absurd h (by omega)⟩
abbrev kDc : List Value := [.int 0, .int 0, .int 0, .int 0, .int 0, .null, .null, .null, .null, .null, .null]
theorem kDc_ok (E : kE) : ∀ j, j < 11 → defaultValue (tyX0 j) = vp_V (kDc.map (kTv E)) j := fun j hj => by
  match j, hj with
  | 0, _ => rfl
  | 1, _ => rfl
  | 2, _ => rfl
  | 3, _ => rfl
  | 4, _ => rfl
  | 5, _ => rfl
  | 6, _ => rfl
  | 7, _ => rfl
  | 8, _ => rfl
  | 9, _ => rfl
  | 10, _ => rfl
  | k + 11, h => exact absurd h (by omega)
theorem nw_C : kNew RX6 7 0 11 kDc := ⟨RX0, TX0, tyX0, rfl, by decide, in_C, tyX0_ok, w_69, w_70, w_51, kDc_ok⟩
theorem nw_C2 : kNew RX2 9 0 11 kDc := ⟨RX0, TX0, tyX0, rfl, by decide, in_C, tyX0_ok, w_236, w_70, w_51, kDc_ok⟩
theorem nw_H : kNew RX6 19 1 3 [.null, .null, .null] := ⟨RX1, TX1, tyX1, rfl, by decide, in_H, tyX1_ok, w_211, w_212, w_55, fun _ j hj => by
  match j, hj with
  | 0, _ => rfl
  | 1, _ => rfl
  | 2, _ => rfl
  | k + 3, h => exact absurd h (by omega)⟩
theorem nw_Y : kNew RX6 26 2 3 [.null, .int 0, .int 0] := ⟨RX2, TX2, tyX2, rfl, by decide, in_Y, tyX2_ok, w_230, w_231, w_56, fun _ j hj => by
  match j, hj with
  | 0, _ => rfl
  | 1, _ => rfl
  | 2, _ => rfl
  | k + 3, h => exact absurd h (by omega)⟩
theorem nw_D : kNew RX6 33 5 7 [.null, .int 0, .int 0, .int 0, .null, .null, .null] := ⟨RX5, TX5, tyX5, rfl, by decide, in_D, tyX5_ok, w_250, w_251, w_57, fun _ j hj => by
  match j, hj with
  | 0, _ => rfl
  | 1, _ => rfl
  | 2, _ => rfl
  | 3, _ => rfl
  | 4, _ => rfl
  | 5, _ => rfl
  | 6, _ => rfl
  | k + 7, h => exact absurd h (by omega)⟩
theorem nw_P : kNew "ProxyVotesLaw" 9 6 9 (List.replicate 9 .null) := ⟨RX6, TX6, tyX6, rfl, by decide, in_P, tyX6_ok, w_61, w_62, w_50, fun _ j hj => by
  match j, hj with
  | 0, _ => rfl
  | 1, _ => rfl
  | 2, _ => rfl
  | 3, _ => rfl
  | 4, _ => rfl
  | 5, _ => rfl
  | 6, _ => rfl
  | 7, _ => rfl
  | 8, _ => rfl
  | k + 9, h => exact absurd h (by omega)⟩
