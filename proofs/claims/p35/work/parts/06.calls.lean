/-! ROWS of the small machine that make cells, copy arrays, or call. -/
def kNew (own : String) (ix ci N : Nat) (vs : List Value) : Prop := ∃ (C : String) (T : u_T) (ty : Nat → FieldType), kCl[ci]? = some (C, T, N) ∧ ci < 10 ∧ (∀ w ∈ u_ws C T N, w ∈ kWG) ∧ (∀ k, k < N → parseFieldDescriptor (T k).2.2.1 = some (ty k)) ∧ Cond.classLink own ix C ∈ kWG ∧ Cond.instantiable C N ∈ kWG ∧ Cond.initialized C ∈ kWG ∧ ∀ E : kE, ∀ j, j < N → defaultValue (ty j) = vp_V (vs.map (kTv E)) j
def kCpF (f h : Nat → Int32) (len sp dp n : Nat) : List Value := (List.range len).map (fun j => .int (va_cpy f h sp dp n j))
def kFn (vs : List Value) : Nat → Int32 := fun j => kInt (vs.getD j .null)
theorem kFn_big {vs : List Value} {j : Nat} (h : vs.length ≤ j) : kFn vs j = 0 := by simp [kFn, List.getD_eq_getElem?_getD, h, kInt]
theorem kCpF_fn {f h : Nat → Int32} {len sp dp n : Nat} (h5 : dp + n ≤ len) (hb : ∀ j, len ≤ j → h j = 0) : kFn (kCpF f h len sp dp n) = va_cpy f h sp dp n := by
  funext j
  by_cases hj : j < len
  · simp [kFn, kCpF, List.getD_eq_getElem?_getD, hj, kInt]
  · have h1 : kFn (kCpF f h len sp dp n) j = 0 := kFn_big (by simp [kCpF]; omega)
    have h2 : ¬ (dp ≤ j ∧ j < dp + n) := by omega
    rw [h1]
    simp only [va_cpy, if_neg h2]
    exact (hb j (by omega)).symm
def kCall (own : String) (ix : Nat) (N : kM) (n : Nat) : Prop := Cond.code (kY N) (kB N) (kL N) (kR N) ∈ kWG ∧ Cond.initialized (kY N).cls ∈ kWG ∧ (kY N).cls ≠ "java/lang/invoke/MethodHandle" ∧ (kY N).cls ≠ "java/lang/invoke/VarHandle" ∧ (parseMethodDescriptor (kY N).desc).map (fun d => d.parameters.length) = some n ∧ (Cond.methodLink own ix (kY N) ∈ kWG ∨ ∃ host, Cond.methodLinkNest own ix (kY N) host ∈ kNest)
def kRoom (M N : kM) : Prop := N.2.2.2.2.1 + 1 ≤ M.2.2.2.2.1 ∧ 8 + (kL N + 11) + N.2.2.2.2.2.2.2 ≤ M.2.2.2.2.2.2.2
theorem kWG_good {w : Cond} (h : w ∈ kWG) : goodWord w = true := (List.mem_filter.mp h).2
theorem kws_good {N : kM} (h : Cond.code (kY N) (kB N) (kL N) (kR N) ∈ kWG) : GoodIn kWG (kws N) := by
  intro w hw
  rcases List.mem_cons.mp hw with rfl | hw
  · exact ⟨h, good_of_word (kWG_good h)⟩
  · exact ⟨hw, good_of_word (kWG_good hw)⟩
section GO
variable {p : Program} {l : Launch} {e : Env} {R : Room} {s : State} {m : MethodId} {args : Array Value} {below : List Frame} {meth : Method} {c : Code} {H : Heap} {locs : List Loc} {cells slots : Nat} {Q : State → Prop}
variable {pc : Nat} {ls : Array Slot} {rest st0 : List Value} {a : Array Value} {mc ms : Nat}
theorem kGo {E : kE} {r1 : Option Int32} {g1 : List kC} (hr : va_Run p l e R s m args below meth c H locs cells slots mc ms (F0 m pc ls st0) rest (kPost E r1 g1 a) (kA E)) (hS : va_S (kA E) s.heap H locs) (kk : ∀ (H1 : Heap) (locs1 : List Loc), kW E g1 H1 → va_S (kA E) s.heap H1 locs1 → W p l e R s m args below meth c H1 locs1 (cells + mc) (slots + ms) Q (F0 m (pc + 3) ls ((r1.map Value.int).toList ++ rest))) : W p l e R s m args below meth c H locs cells slots Q (F0 m pc ls st0) := by
  intro T hT X
  obtain ⟨v, st₀, t, T', L, h0, X', hL, e1, e2, ⟨⟨hv, hW⟩, hz, hk⟩, st⟩ := hr T hT X
  cases hv
  rw [h0] at hz hk
  obtain ⟨t2, a1, b1⟩ := kk T'.heap (locs ++ L) (by rw [e1]; exact hW)
    ⟨Nat.le_trans hS.1 (by rw [e1]; exact hz), fun q h1 h2 => by rw [e1, hk q (Nat.lt_of_lt_of_le h1 hS.1) h2]; exact hS.2.1 q h1 h2, fun q hq => by
      rcases List.mem_append.mp hq with h | h
      · exact hS.2.2 q h
      · exact hL q h⟩ T' rfl X'
  exact ⟨t2, st t2 a1, b1⟩
end GO
section ROWS
variable {E : kE} {M : kM} {r : Option Int32} {g' : List kC} {fc fs pc : Nat} {lv : kLv} {st : List Value} {g : List kC}
theorem kJ_new (pc' : Nat) {ix ci N : Nat} {vs : List Value} (hd : decode (kB M) pc = .ok (.new ix, 3)) (hn : kNew (kY M).cls ix ci N vs) (hfc : fc + 1 ≤ kMC M) (hfs : fs + N ≤ kMS M) (hp : pc + 3 = pc') (kk : kJ E M r g' (fc + 1) (fs + N) pc' lv (.ref g.length :: st) (g ++ [(ci, vs)])) : kJ E M r g' fc fs pc lv st g := by
  subst hp
  intro p l e s m args below meth c hF R hR PQ hEx H locs ls hl hW hS
  have k2 := kk p l e s m args below meth c hF R hR PQ hEx
  obtain ⟨hx, hb, hml, hr, hlk, hown, hts, hnm, hE⟩ := hF
  obtain ⟨C, T, ty, hc, hci, hin, htys, w1, w2, w3, hdf⟩ := hn
  subst hR
  have hKn := hE.1.1 ci _ hc
  refine W.newcK hx hb hown (hts _ w1) (hts _ w2) (hts _ w3) rfl hd hfc hfs hKn.2.1 hW.2 fun H1 kC1 hkC e1 z1 o1 => ?_
  refine k2 H1 _ ls hl (hW.push (by rw [z1, hW.2]) (fun q hq => o1 q (by rw [← hW.2]; exact hq)) ?_) ⟨Nat.le_trans hS.1 (by rw [z1, hW.2]; omega), fun x h1 h2 => (o1 x (by rw [← hW.2]; exact Nat.lt_of_lt_of_le h1 hS.1)).trans (hS.2.1 x h1 h2), hS.2.2⟩
  rw [kTc_o E hci, hW.2]
  exact ⟨_, hc, (u_born ty hts hin hKn hkC e1 htys).to (hdf E)⟩
theorem kRep (n : Nat) : (fun j => kInt ((List.replicate n (Value.int 0)).getD j .null)) = fun _ => 0 := by
  funext j
  by_cases h : j < n <;> simp [List.getD_eq_getElem?_getD, List.getElem?_replicate, h, kInt]
theorem kRepR (E : kE) (n : Nat) : (fun j => kRef E ((List.replicate n Value.null).getD j .null)) = fun _ => none := by
  funext j
  by_cases h : j < n <;> simp [List.getD_eq_getElem?_getD, List.getElem?_replicate, h, kRef]
theorem kJ_newa (pc' tg N : Nat) {at_ : ArrayType} {n : Int32} (hd : decode (kB M) pc = .ok (.newarray at_, 2)) (ht : (tg = 10 ∧ at_ = .int) ∨ (tg = 11 ∧ at_ = .char) ∨ (tg = 12 ∧ at_ = .boolean)) (hw : Cond.arrayClass (newarray.typeOf at_) ∈ kWG) (hn : ¬ n < 0) (hN : n.toNatClampNeg = N) (hb8 : N * 4 ≤ 536870912) (hfc : fc + 1 ≤ kMC M) (hfs : fs + N ≤ kMS M) (hp : pc + 2 = pc') (kk : kJ E M r g' (fc + 1) (fs + N) pc' lv (.ref g.length :: st) (g ++ [(tg, List.replicate N (.int 0))])) : kJ E M r g' fc fs pc lv (.int n :: st) g := by
  subst hp
  intro p l e s m args below meth c hF R hR PQ hEx H locs ls hl hW hS
  have k2 := kk p l e s m args below meth c hF R hR PQ hEx
  obtain ⟨hx, hb, hml, hr, hlk, hown, hts, hnm, hE⟩ := hF
  subst hR
  refine va_newaK hx hb (hts _ hw) rfl hd rfl hn hN ?_ hfc hfs hW.2 fun H1 cA1 e1 z1 o1 hAr hNm => ?_
  · rcases ht with ⟨-, rfl⟩ | ⟨-, rfl⟩ | ⟨-, rfl⟩ <;> (have h9 : ∀ z : Nat, N * z ≤ N * 4 ∨ 4 < z := fun z => by rcases Nat.lt_or_ge 4 z with h | h; exact Or.inr h; exact Or.inl (Nat.mul_le_mul_left N h)) <;> exact (h9 _).elim (fun h => Nat.le_trans h hb8) (fun h => absurd h (by decide))
  · refine k2 H1 _ ls hl (hW.push (by rw [z1, hW.2]) (fun q hq => o1 q (by rw [← hW.2]; exact hq)) ?_) ⟨Nat.le_trans hS.1 (by rw [z1, hW.2]; omega), fun x h1 h2 => (o1 x (by rw [← hW.2]; exact Nat.lt_of_lt_of_le h1 hS.1)).trans (hS.2.1 x h1 h2), hS.2.2⟩
    rcases ht with ⟨rfl, rfl⟩ | ⟨rfl, rfl⟩ | ⟨rfl, rfl⟩
    · have hA : cA1 = E.2.2.1 0 := Option.some.inj (hNm.symm.trans (hE.1.2 0 _ rfl).2)
      rw [kTc_i, kRep, List.length_replicate, hW.2, ← hA]
      exact e1
    · have hA : cA1 = E.2.2.1 1 := Option.some.inj (hNm.symm.trans (hE.1.2 1 _ rfl).2)
      rw [kTc_c, kRep, List.length_replicate, hW.2, ← hA]
      exact e1
    · have hA : cA1 = E.2.2.1 2 := Option.some.inj (hNm.symm.trans (hE.1.2 2 _ rfl).2)
      rw [kTc_z, kRep, List.length_replicate, hW.2, ← hA]
      exact e1
theorem kJ_newq (pc' tg N ci : Nat) {ix : Nat} {n : Int32} {C : String} (hd : decode (kB M) pc = .ok (.anewarray ix, 3)) (ht : (tg = 13 ∧ C = RX3) ∨ (tg = 14 ∧ C = RX0)) (hw : Cond.classLink (kY M).cls ix C ∈ kWG) (hn : ¬ n < 0) (hN : n.toNatClampNeg = N) (hb8 : N * 4 ≤ 536870912) (hfc : fc + 1 ≤ kMC M) (hfs : fs + N ≤ kMS M) (hp : pc + 3 = pc') (kk : kJ E M r g' (fc + 1) (fs + N) pc' lv (.ref g.length :: st) (g ++ [(tg, List.replicate N .null)])) : kJ E M r g' fc fs pc lv (.int n :: st) g := by
  subst hp
  intro p l e s m args below meth c hF R hR PQ hEx H locs ls hl hW hS
  have k2 := kk p l e s m args below meth c hF R hR PQ hEx
  obtain ⟨hx, hb, hml, hr, hlk, hown, hts, hnm, hE⟩ := hF
  subst hR
  subst hN
  have hAO : va_AO C s := by
    rcases ht with ⟨-, rfl⟩ | ⟨-, rfl⟩
    · exact hE.2.2.1.1
    · exact hE.2.2.1.2
  refine W.anew hx hb hown (hts _ hw) (va_AO.use hAO) rfl hd rfl hn hb8 hfc hfs fun cA1 kA1 comp f1 f2 f3 f4 => ?_
  generalize hH1 : H.push ({ cls := cA1, slots := Array.replicate n.toNatClampNeg .null, vm := .none } : Cell) = H1
  have z1 : H1.size = H.size + 1 := by rw [← hH1, Array.size_push]
  have e1 : H1[H.size]? = some (arrV cA1 n.toNatClampNeg (fun _ => .null)) := by rw [← hH1, Array.getElem?_push_size, ← arrV_new]
  have o1 : ∀ q : Nat, q < H.size → H1[q]? = H[q]? := fun q hq => by rw [← hH1, Array.getElem?_push, if_neg (Nat.ne_of_lt hq)]
  have k3 := k2 H1 locs ls hl
  rw [List.map_cons, show kTv E (.ref g.length) = .ref H.size from by rw [hW.2]; rfl] at k3
  refine k3 (hW.push z1 o1 ?_) ⟨Nat.le_trans hS.1 (by rw [z1]; omega), fun x h1 h2 => (o1 x (Nat.lt_of_lt_of_le h1 hS.1)).trans (hS.2.1 x h1 h2), hS.2.2⟩
  rcases ht with ⟨rfl, rfl⟩ | ⟨rfl, rfl⟩
  · obtain ⟨-, kA2, comp2, j1, j2, j3, j4⟩ := hE.1.2 3 _ rfl
    have hA : cA1 = E.2.2.1 3 := Option.some.inj (f1.symm.trans j4)
    rw [kTc_q, kRepR, List.length_replicate, ← hA]
    exact e1
  · obtain ⟨-, kA2, comp2, j1, j2, j3, j4⟩ := hE.1.2 4 _ rfl
    have hA : cA1 = E.2.2.1 4 := Option.some.inj (f1.symm.trans j4)
    rw [kTc_m, kRepR, List.length_replicate, ← hA]
    exact e1
def kCpW (own : String) (ix : Nat) : Prop := Cond.methodLink own ix arraycopyName ∈ kWG ∧ Cond.native arraycopyName ∈ kWG ∧ Cond.static arraycopyName ∈ kWG ∧ Cond.initialized "java/lang/System" ∈ kWG
theorem kNn (z : Int32) (hz : ¬ z < 0) : z.toInt = (z.toNatClampNeg : Int) := by
  have hz0 : (0 : Int) ≤ z.toInt := by
    have := Int32.not_lt.mp hz
    simpa using Int32.le_iff_toInt_le.mp this
  show z.toInt = ((z.toInt.toNat : Nat) : Int)
  omega
theorem kJ_copy (pc' : Nat) {ix a0 a : Nat} {vs0 vs : List Value} {sp dp n : Int32} (hd : decode (kB M) pc = .ok (.invokestatic ix, 3)) (hw : kCpW (kY M).cls ix) (he0 : g[a0]? = some (10, vs0)) (he : g[a]? = some (10, vs)) (h1 : ¬ sp < 0) (h2 : ¬ dp < 0) (h3 : ¬ n < 0) (h4 : sp.toNatClampNeg + n.toNatClampNeg ≤ vs0.length) (h5 : dp.toNatClampNeg + n.toNatClampNeg ≤ vs.length) (hrm : 1 ≤ (krm M).frames ∧ (st.map fun v => v.category).sum + (nativeFrameWords "java/lang/System" "arraycopy" 5 + 11) ≤ (krm M).locals) (hp : pc + 3 = pc') (kk : kJ E M r g' fc fs pc' lv st (g.set a (10, kCpF (kFn vs0) (kFn vs) vs.length sp.toNatClampNeg dp.toNatClampNeg n.toNatClampNeg))) : kJ E M r g' fc fs pc lv (.int n :: .int dp :: .ref a :: .int sp :: .ref a0 :: st) g := by
  subst hp
  intro p l e s m args below meth c hF R hR PQ hEx H locs ls hl hW hS
  have k2 := kk p l e s m args below meth c hF R hR PQ hEx
  obtain ⟨hx, hb, hml, hr, hlk, hown, hts, hnm, hE⟩ := hF
  subst hR
  intro T hT X
  have hc0 : H[E.1 + a0]? = some (vp_cell (E.2.2.1 0) (vs0.length, .inl (kFn vs0))) := hW.1 a0 (E.1 + a0, .inl (E.2.2.1 0, vs0.length, .inl (kFn vs0))) ((kWs_at he0).trans rfl)
  have hc1 : H[E.1 + a]? = some (vp_cell (E.2.2.1 0) (vs.length, .inl (kFn vs))) := hW.1 a (E.1 + a, .inl (E.2.2.1 0, vs.length, .inl (kFn vs))) ((kWs_at he).trans rfl)
  obtain ⟨-, k0, hk0, cm0, hkk0⟩ := (hE.1.2 0 _ rfl).1 vs0.length (fun j => .int (kFn vs0 j))
  obtain ⟨-, k1, hk1, cm1, hkk1⟩ := (hE.1.2 0 _ rfl).1 vs.length (fun j => .int (kFn vs j))
  obtain ⟨vm', X', step⟩ := X.arraycopy hx hown (hts _ hw.1) (hts _ hw.2.1) (hts _ hw.2.2.1) (hts _ hw.2.2.2) (src := E.1 + a0) (dst := E.1 + a) (cs := vp_cell (E.2.2.1 0) (vs0.length, .inl (kFn vs0))) (cd := vp_cell (E.2.2.1 0) (vs.length, .inl (kFn vs))) (srcPos := sp) (destPos := dp) (n := n) (by rw [hT]; exact hc0) (by rw [hT]; exact hc1)
    (fun _ h => by cases h) (fun _ h => by cases h) (fun h => by cases h) (fun h => by cases h) hk0 hk1 hkk0 hkk1 (by simp [refKind]) h1 h2 h3
    (by rw [kNn sp h1, kNn n h3]; show ¬ _ > ((arrV (E.2.2.1 0) vs0.length (fun j => .int (kFn vs0 j))).slots.size : Int); rw [arrV_size]; omega)
    (by rw [kNn dp h2, kNn n h3]; show ¬ _ > ((arrV (E.2.2.1 0) vs.length (fun j => .int (kFn vs j))).slots.size : Int); rw [arrV_size]; omega)
    (fun vm₁ _ i hi => by
      have e : (vp_cell (E.2.2.1 0) (vs0.length, .inl (kFn vs0))).slots.getD (sp.toNatClampNeg + i) .null = .int (kFn vs0 (sp.toNatClampNeg + i)) := by
        show (arrV (E.2.2.1 0) vs0.length (fun j => .int (kFn vs0 j))).slots.getD _ _ = _
        rw [Array.getD_eq_getD_getElem?, arrV_read _ _ (by omega)]
        rfl
      refine ⟨?_, ?_⟩
      · rw [e]; rfl
      · rw [e]
        exact trivial)
    (g := F0 m pc ls ((Value.int n :: .int dp :: .ref a :: .int sp :: .ref a0 :: st).map (kTv E))) rfl (by rw [hml, hl.1]) (rest := st.map (kTv E)) rfl (by rw [hb]; exact hd) hrm.1 (by
      show 2 * 0 + _ + _ ≤ _
      have e9 : ((st.map (kTv E)).map fun v => v.category) = st.map fun v => v.category := by simp [kTv_cat, Function.comp_def]
      rw [e9]; have := hrm.2; omega)
  have e1 : copied (vp_cell (E.2.2.1 0) (vs0.length, .inl (kFn vs0))) (vp_cell (E.2.2.1 0) (vs.length, .inl (kFn vs))) sp dp n = vp_cell (E.2.2.1 0) (vs.length, .inl (va_cpy (kFn vs0) (kFn vs) sp.toNatClampNeg dp.toNatClampNeg n.toNatClampNeg)) := va_copied (fun z => .int z) _ _ (kFn vs0) (kFn vs) h4
  rw [e1] at X' step
  have hlt : E.1 + a < H.size := (Array.getElem?_eq_some_iff.mp hc1).1
  generalize hcn : vp_cell (E.2.2.1 0) (vs.length, .inl (va_cpy (kFn vs0) (kFn vs) sp.toNatClampNeg dp.toNatClampNeg n.toNatClampNeg)) = cn at X' step
  have hheap : ((T.setVm vm').setCell (E.1 + a) cn).heap = H.setIfInBounds (E.1 + a) cn := by rw [← hT]; rfl
  have oq : ∀ q : Nat, q ≠ E.1 + a → (H.setIfInBounds (E.1 + a) cn)[q]? = H[q]? := fun q hq => by simp [Array.getElem?_setIfInBounds, Ne.symm hq]
  have hzz : (H.setIfInBounds (E.1 + a) cn).size = H.size := by simp
  obtain ⟨t, a1, b1⟩ := k2 _ _ ls hl (hW.put (c := (10, kCpF (kFn vs0) (kFn vs) vs.length sp.toNatClampNeg dp.toNatClampNeg n.toNatClampNeg)) he hzz oq (by
      rw [kTc_i]
      show (H.setIfInBounds (E.1 + a) cn)[E.1 + a]? = some (vp_cell _ (_, .inl (kFn (kCpF _ _ _ _ _ _))))
      rw [kCpF_fn h5 (fun j hj => kFn_big hj), show (kCpF (kFn vs0) (kFn vs) vs.length sp.toNatClampNeg dp.toNatClampNeg n.toNatClampNeg).length = vs.length from by simp [kCpF], hcn]
      simp [Array.getElem?_setIfInBounds, hlt]))
    ⟨by simp; exact hS.1, fun q g1 g2 => by
      rw [oq q (fun e => g2 (by rw [e]; exact Nat.le_add_right _ _))]
      exact hS.2.1 q g1 g2, fun q hq => by
      rcases List.mem_append.mp hq with h | h
      · exact hS.2.2 q h
      · obtain ⟨z, -, hz⟩ := List.mem_map.mp h
        rw [← hz]
        exact Nat.le_add_right _ _⟩ _ hheap X'
  exact ⟨t, step t a1, b1⟩
theorem kJ_rcopy (pc' : Nat) {ix k a : Nat} {vs : List Value} {sp dp n : Int32} (hd : decode (kB M) pc = .ok (.invokestatic ix, 3)) (hw : kCpW (kY M).cls ix) (hk : k < 3) (he : g[a]? = some (10, vs)) (h1 : ¬ sp < 0) (h2 : ¬ dp < 0) (h3 : ¬ n < 0) (h4 : sp.toNatClampNeg + n.toNatClampNeg ≤ (E.2.2.2 k).2.1) (h5 : dp.toNatClampNeg + n.toNatClampNeg ≤ vs.length) (hrm : 1 ≤ (krm M).frames ∧ (st.map fun v => v.category).sum + (nativeFrameWords "java/lang/System" "arraycopy" 5 + 11) ≤ (krm M).locals) (hp : pc + 3 = pc') (kk : kJ E M r g' fc fs pc' lv st (g.set a (10, kCpF (E.2.2.2 k).2.2 (kFn vs) vs.length sp.toNatClampNeg dp.toNatClampNeg n.toNatClampNeg))) : kJ E M r g' fc fs pc lv (.int n :: .int dp :: .ref a :: .int sp :: .retAddr k :: st) g := by
  subst hp
  intro p l e s m args below meth c hF R hR PQ hEx H locs ls hl hW hS
  have k2 := kk p l e s m args below meth c hF R hR PQ hEx
  obtain ⟨hx, hb, hml, hr, hlk, hown, hts, hnm, hE⟩ := hF
  subst hR
  obtain ⟨hX, hXl⟩ := hE.2.2.2.1 k hk
  have hbl : (E.2.2.2 k).1 < s.heap.size := Nat.lt_of_lt_of_le hXl hE.2.2.2.2.2
  have hbA : ¬ kA E (E.2.2.2 k).1 := Nat.not_le.mpr hXl
  intro T hT X
  obtain ⟨scr, hs1, hs2, hs3, hs4, hs5⟩ := hX
  have hc0 : H[(E.2.2.2 k).1]? = some scr := by rw [hS.2.1 _ hbl hbA]; exact hs1
  have hc1 : H[E.1 + a]? = some (vp_cell (E.2.2.1 0) (vs.length, .inl (kFn vs))) := hW.1 a (E.1 + a, .inl (E.2.2.1 0, vs.length, .inl (kFn vs))) ((kWs_at he).trans rfl)
  obtain ⟨hob, k0, hk0, cm0, hkk0⟩ := hs2
  obtain ⟨-, k1, hk1, cm1, hkk1⟩ := (hE.1.2 0 _ rfl).1 vs.length (fun j => .int (kFn vs j))
  obtain ⟨vm', X', step⟩ := X.arraycopy hx hown (hts _ hw.1) (hts _ hw.2.1) (hts _ hw.2.2.1) (hts _ hw.2.2.2) (src := (E.2.2.2 k).1) (dst := E.1 + a) (cs := scr) (cd := vp_cell (E.2.2.1 0) (vs.length, .inl (kFn vs))) (srcPos := sp) (destPos := dp) (n := n) (by rw [hT]; exact hc0) (by rw [hT]; exact hc1)
    hob (fun _ h => by cases h) hs3 (fun h => by cases h) hk0 hk1 hkk0 hkk1 (by simp [refKind]) h1 h2 h3
    (by rw [kNn sp h1, kNn n h3, hs4]; omega)
    (by rw [kNn dp h2, kNn n h3]; show ¬ _ > ((arrV (E.2.2.1 0) vs.length (fun j => .int (kFn vs j))).slots.size : Int); rw [arrV_size]; omega)
    (fun vm₁ _ i hi => by
      have e : scr.slots.getD (sp.toNatClampNeg + i) .null = .int ((E.2.2.2 k).2.2 (sp.toNatClampNeg + i)) := by
        rw [Array.getD_eq_getD_getElem?, hs5 _ (by omega)]
        rfl
      refine ⟨?_, ?_⟩
      · rw [e]; rfl
      · rw [e]
        exact trivial)
    (g := F0 m pc ls ((Value.int n :: .int dp :: .ref a :: .int sp :: .retAddr k :: st).map (kTv E))) rfl (by rw [hml, hl.1]) (rest := st.map (kTv E)) rfl (by rw [hb]; exact hd) hrm.1 (by
      show 2 * 0 + _ + _ ≤ _
      have e9 : ((st.map (kTv E)).map fun v => v.category) = st.map fun v => v.category := by simp [kTv_cat, Function.comp_def]
      rw [e9]; have := hrm.2; omega)
  have e1 : copied scr (vp_cell (E.2.2.1 0) (vs.length, .inl (kFn vs))) sp dp n = vp_cell (E.2.2.1 0) (vs.length, .inl (va_cpy (E.2.2.2 k).2.2 (kFn vs) sp.toNatClampNeg dp.toNatClampNeg n.toNatClampNeg)) := va_copiedX (fun z => .int z) scr _ (E.2.2.2 k).2.2 (kFn vs) hs5 h4
  rw [e1] at X' step
  have hlt : E.1 + a < H.size := (Array.getElem?_eq_some_iff.mp hc1).1
  generalize hcn : vp_cell (E.2.2.1 0) (vs.length, .inl (va_cpy (E.2.2.2 k).2.2 (kFn vs) sp.toNatClampNeg dp.toNatClampNeg n.toNatClampNeg)) = cn at X' step
  have hheap : ((T.setVm vm').setCell (E.1 + a) cn).heap = H.setIfInBounds (E.1 + a) cn := by rw [← hT]; rfl
  have oq : ∀ q : Nat, q ≠ E.1 + a → (H.setIfInBounds (E.1 + a) cn)[q]? = H[q]? := fun q hq => by simp [Array.getElem?_setIfInBounds, Ne.symm hq]
  have hzz : (H.setIfInBounds (E.1 + a) cn).size = H.size := by simp
  obtain ⟨t, a1, b1⟩ := k2 _ _ ls hl (hW.put (c := (10, kCpF (E.2.2.2 k).2.2 (kFn vs) vs.length sp.toNatClampNeg dp.toNatClampNeg n.toNatClampNeg)) he hzz oq (by
      rw [kTc_i]
      show (H.setIfInBounds (E.1 + a) cn)[E.1 + a]? = some (vp_cell _ (_, .inl (kFn (kCpF _ _ _ _ _ _))))
      rw [kCpF_fn h5 (fun j hj => kFn_big hj), show (kCpF (E.2.2.2 k).2.2 (kFn vs) vs.length sp.toNatClampNeg dp.toNatClampNeg n.toNatClampNeg).length = vs.length from by simp [kCpF], hcn]
      simp [Array.getElem?_setIfInBounds, hlt]))
    ⟨by simp; exact hS.1, fun q g1 g2 => by
      rw [oq q (fun e => g2 (by rw [e]; exact Nat.le_add_right _ _))]
      exact hS.2.1 q g1 g2, fun q hq => by
      rcases List.mem_append.mp hq with h | h
      · exact hS.2.2 q h
      · obtain ⟨z, -, hz⟩ := List.mem_map.mp h
        rw [← hz]
        exact Nat.le_add_right _ _⟩ _ hheap X'
  exact ⟨t, step t a1, b1⟩
theorem kJ_objInit (pc' : Nat) {ix a : Nat} (hd : decode (kB M) pc = .ok (.invokespecial ix, 3)) (hw : Cond.methodLink (kY M).cls ix Lib.objectInit ∈ kWG ∧ Cond.instanceMethod Lib.objectInit ∈ kWG ∧ Cond.code Lib.objectInit ⟨#[0xb1]⟩ 1 none ∈ kWG) (hst : st = []) (hrm : 1 ≤ (krm M).frames ∧ 12 ≤ (krm M).locals) (hp : pc + 3 = pc') (kk : kJ E M r g' fc fs pc' lv st g) : kJ E M r g' fc fs pc lv (.ref a :: st) g := by
  subst hp
  subst hst
  intro p l e s m args below meth c hF R hR PQ hEx H locs ls hl hW hS
  have k2 := kk p l e s m args below meth c hF R hR PQ hEx H locs ls hl hW hS
  obtain ⟨hx, hb, hml, hr, hlk, hown, hts, hnm, hE⟩ := hF
  subst hR
  refine W.objInit hx hb hown (hts _ hw.1) (hts _ hw.2.1) (hts _ hw.2.2) rfl (by rw [hml]; exact hl.1) rfl hd hrm.1 ?_ k2
  show 2 * 0 + 0 + 12 ≤ _
  exact hrm.2
theorem kCats (E : kE) (st : List Value) : ((st.map (kTv E)).map fun v => v.category) = st.map fun v => v.category := by simp [kTv_cat, Function.comp_def]
theorem kJ_callv (pc' : Nat) (N : kM) (as : List Value) (st' : List Value) {ix n a ci : Nat} {ws : List Value} {r1 : Option Int32} {g1 : List kC} (hd : decode (kB M) pc = .ok (.invokevirtual ix, 3)) (hc : kCall (kY M).cls ix N n) (hv : Cond.instanceMethod (kY N) ∈ kWG ∧ Cond.selects (kY N).cls (kY N) (kY N) ∈ kWG) (he : g[a]? = some (ci, ws)) (hci : ci < 10 ∧ ∃ T k, kCl[ci]? = some ((kY N).cls, T, k)) (hst : st = as.reverse ++ .ref a :: st') (hn : as.length = n) (hcat : (st'.map fun v => v.category).sum ≤ 8) (hrm : kRoom M N) (hf : fc + kMC N ≤ kMC M ∧ fs + kMS N ≤ kMS M) (hJ : JM E N (.ref a :: as) g r1 g1) (hp : pc + 3 = pc') (kk : kJ E M r g' (fc + kMC N) (fs + kMS N) pc' lv ((r1.map Value.int).toList ++ st') g1) : kJ E M r g' fc fs pc lv st g := by
  subst hp
  subst hst
  intro p l e s m args below meth c hF R hR PQ hEx H locs ls hl hW hS
  have k2 := kk p l e s m args below meth c hF R hR PQ hEx
  obtain ⟨hx, hb, hml, hr, hlk, hown, hts, hnm, hE⟩ := hF
  subst hR
  obtain ⟨c1, c2, c3, c4, c5, c6⟩ := hc
  obtain ⟨hci1, T, k, hck⟩ := hci
  have hre := va_recv hE.1 hW.1 hck ((kWs_at he).trans (by rw [kTc_o E hci1]))
  have hpre : PreV s H (kY N).cls (E.1 + a) (kPre E g (.ref a :: as)) (as.map (kTv E)) := ⟨kPre_blind _ _ _, hre, fun U hU hWm => ⟨rfl, hE.warm hWm (by rw [hU]; exact hS), by rw [hU]; exact hW⟩⟩
  have hstk : ((as.reverse ++ .ref a :: st').map (kTv E)) = (as.map (kTv E)).reverse ++ .ref (E.1 + a) :: st'.map (kTv E) := by simp [kTv]
  have hroom : 2 * (F0 m pc ls ((as.reverse ++ .ref a :: st').map (kTv E))).monitorRoom + ((st'.map (kTv E)).map fun v => v.category).sum ≤ 8 := lv_room (by rw [kCats]; exact hcat)
  have c5' : ∀ sig, parseMethodDescriptor (kY N).desc = some sig → n = sig.parameters.length := fun sig h => by
    rw [h] at c5; exact (Option.some.inj c5).symm
  have hpay := pay_in hts (kws_good c1)
  rcases c6 with c6 | ⟨host, c6⟩
  · refine kGo (va_runV (Pc := kPre E g (.ref a :: as)) (C := (kY N).cls) (As := as.map (kTv E)) (rest := st'.map (kTv E)) ⟨hx, hb, hml, hown, hts⟩ (hJ l) ⟨⟨rfl, rfl, hrm.1, hrm.2, hpay, List.mem_cons_self, hts _ c1, hts _ c2, ⟨c3, c4⟩, c5', hts _ c6⟩, hts _ hv.1, hts _ hv.2⟩ hpre rfl (by rw [List.length_map]; exact hn) hl.1 hstk hroom hd hf) hS (fun H1 locs1 hW1 hS1 => ?_)
    have k3 := k2 H1 locs1 ls hl hW1 hS1
    rw [List.map_append] at k3
    cases r1 <;> exact k3
  · refine kGo (va_runVN (Pc := kPre E g (.ref a :: as)) (C := (kY N).cls) (As := as.map (kTv E)) (rest := st'.map (kTv E)) ⟨hx, hb, hml, hown, hts⟩ (hJ l) ⟨⟨⟨rfl, rfl, hrm.1, hrm.2, hpay, List.mem_cons_self⟩, hts _ c1, hts _ c2, ⟨c3, c4⟩, c5', va_Nw.use rfl (hE.2.1 _ c6)⟩, hts _ hv.1, hts _ hv.2⟩ hpre rfl (by rw [List.length_map]; exact hn) hl.1 hstk hroom hd hf) hS (fun H1 locs1 hW1 hS1 => ?_)
    have k3 := k2 H1 locs1 ls hl hW1 hS1
    rw [List.map_append] at k3
    cases r1 <;> exact k3
theorem kJ_calls (pc' : Nat) (N : kM) (as : List Value) (st' : List Value) {ix n : Nat} {r1 : Option Int32} {g1 : List kC} (hd : decode (kB M) pc = .ok (.invokestatic ix, 3)) (hc : kCall (kY M).cls ix N n) (hv : Cond.static (kY N) ∈ kWG) (hst : st = as.reverse ++ st') (hn : as.length = n) (hcat : (st'.map fun v => v.category).sum ≤ 8) (hrm : kRoom M N) (hf : fc + kMC N ≤ kMC M ∧ fs + kMS N ≤ kMS M) (hJ : JM E N as g r1 g1) (hp : pc + 3 = pc') (kk : kJ E M r g' (fc + kMC N) (fs + kMS N) pc' lv ((r1.map Value.int).toList ++ st') g1) : kJ E M r g' fc fs pc lv st g := by
  subst hp
  subst hst
  intro p l e s m args below meth c hF R hR PQ hEx H locs ls hl hW hS
  have k2 := kk p l e s m args below meth c hF R hR PQ hEx
  obtain ⟨hx, hb, hml, hr, hlk, hown, hts, hnm, hE⟩ := hF
  subst hR
  obtain ⟨c1, c2, c3, c4, c5, c6⟩ := hc
  have hpre : PreS s H (kPre E g as) (as.map (kTv E)) := ⟨kPre_blind _ _ _, fun U hU hWm => ⟨rfl, hE.warm hWm (by rw [hU]; exact hS), by rw [hU]; exact hW⟩⟩
  have hstk : ((as.reverse ++ st').map (kTv E)) = (as.map (kTv E)).reverse ++ st'.map (kTv E) := by simp
  have hroom : 2 * (F0 m pc ls ((as.reverse ++ st').map (kTv E))).monitorRoom + ((st'.map (kTv E)).map fun v => v.category).sum ≤ 8 := lv_room (by rw [kCats]; exact hcat)
  have c5' : ∀ sig, parseMethodDescriptor (kY N).desc = some sig → n = sig.parameters.length := fun sig h => by
    rw [h] at c5; exact (Option.some.inj c5).symm
  have hpay := pay_in hts (kws_good c1)
  rcases c6 with c6 | ⟨host, c6⟩
  · refine kGo (va_runS (Pc := kPre E g as) (As := as.map (kTv E)) (rest := st'.map (kTv E)) ⟨hx, hb, hml, hown, hts⟩ (hJ l) ⟨⟨rfl, rfl, hrm.1, hrm.2, hpay, List.mem_cons_self, hts _ c1, hts _ c2, ⟨c3, c4⟩, c5', hts _ c6⟩, hts _ hv⟩ hpre rfl (by rw [List.length_map]; exact hn) hl.1 hstk hroom hd hf) hS (fun H1 locs1 hW1 hS1 => ?_)
    have k3 := k2 H1 locs1 ls hl hW1 hS1
    rw [List.map_append] at k3
    cases r1 <;> exact k3
  · refine kGo (va_runSN (Pc := kPre E g as) (As := as.map (kTv E)) (rest := st'.map (kTv E)) ⟨hx, hb, hml, hown, hts⟩ (hJ l) ⟨⟨⟨rfl, rfl, hrm.1, hrm.2, hpay, List.mem_cons_self⟩, hts _ c1, hts _ c2, ⟨c3, c4⟩, c5', va_Nw.use rfl (hE.2.1 _ c6)⟩, hts _ hv, trivial⟩ hpre rfl (by rw [List.length_map]; exact hn) hl.1 hstk hroom hd hf) hS (fun H1 locs1 hW1 hS1 => ?_)
    have k3 := k2 H1 locs1 ls hl hW1 hS1
    rw [List.map_append] at k3
    cases r1 <;> exact k3
theorem kJ_calln (pc' : Nat) (N : kM) (as : List Value) (st' : List Value) {ix n a : Nat} {g1 : List kC} (hd : decode (kB M) pc = .ok (.invokespecial ix, 3)) (hc : kCall (kY M).cls ix N n) (hv : kR N = none ∧ (kY N).name = "<init>" ∧ Cond.instanceMethod (kY N) ∈ kWG) (hst : st = as.reverse ++ .ref a :: st') (hn : as.length = n) (hcat : (st'.map fun v => v.category).sum ≤ 8) (hrm : kRoom M N) (hf : fc + kMC N ≤ kMC M ∧ fs + kMS N ≤ kMS M) (hJ : JM E N (.ref a :: as) g none g1) (hp : pc + 3 = pc') (kk : kJ E M r g' (fc + kMC N) (fs + kMS N) pc' lv st' g1) : kJ E M r g' fc fs pc lv st g := by
  subst hp
  subst hst
  intro p l e s m args below meth c hF R hR PQ hEx H locs ls hl hW hS
  have k2 := kk p l e s m args below meth c hF R hR PQ hEx
  obtain ⟨hx, hb, hml, hr, hlk, hown, hts, hnm, hE⟩ := hF
  subst hR
  obtain ⟨c1, c2, c3, c4, c5, c6⟩ := hc
  have hpre : PreS s H (kPre E g (.ref a :: as)) (.ref (E.1 + a) :: as.map (kTv E)) := ⟨kPre_blind _ _ _, fun U hU hWm => ⟨rfl, hE.warm hWm (by rw [hU]; exact hS), by rw [hU]; exact hW⟩⟩
  have hstk : ((as.reverse ++ .ref a :: st').map (kTv E)) = (as.map (kTv E)).reverse ++ .ref (E.1 + a) :: st'.map (kTv E) := by simp [kTv]
  have hroom : 2 * (F0 m pc ls ((as.reverse ++ .ref a :: st').map (kTv E))).monitorRoom + ((st'.map (kTv E)).map fun v => v.category).sum ≤ 8 := lv_room (by rw [kCats]; exact hcat)
  have c5' : ∀ sig, parseMethodDescriptor (kY N).desc = some sig → n = sig.parameters.length := fun sig h => by
    rw [h] at c5; exact (Option.some.inj c5).symm
  have hpay := pay_in hts (kws_good c1)
  have hcode := hts _ c1
  rw [hv.1] at hcode
  have hmem : Cond.code (kY N) (kB N) (kL N) none ∈ kws N := by rw [← hv.1]; exact List.mem_cons_self
  rcases c6 with c6 | ⟨host, c6⟩
  · exact kGo (va_runI (Pc := kPre E g (.ref a :: as)) (b := E.1 + a) (bytes := kB N) (maxL := kL N) (As := as.map (kTv E)) (rest := st'.map (kTv E)) ⟨hx, hb, hml, hown, hts⟩ (hJ l) ⟨⟨rfl, rfl, hrm.1, hrm.2, hpay, hmem, hcode, hts _ c2, ⟨c3, c4⟩, c5', hts _ c6⟩, hv.2.1, hts _ hv.2.2⟩ hpre rfl (by rw [List.length_map]; exact hn) hl.1 hstk hroom hd hf) hS (fun H1 locs1 hW1 hS1 => k2 H1 locs1 ls hl hW1 hS1)
  · exact kGo (va_runIN (Pc := kPre E g (.ref a :: as)) (b := E.1 + a) (bytes := kB N) (maxL := kL N) (As := as.map (kTv E)) (rest := st'.map (kTv E)) ⟨hx, hb, hml, hown, hts⟩ (hJ l) ⟨⟨⟨rfl, rfl, hrm.1, hrm.2, hpay, hmem⟩, hcode, hts _ c2, ⟨c3, c4⟩, c5', va_Nw.use rfl (hE.2.1 _ c6)⟩, hv.2.1, hts _ hv.2.2⟩ hpre rfl (by rw [List.length_map]; exact hn) hl.1 hstk hroom hd hf) hS (fun H1 locs1 hW1 hS1 => k2 H1 locs1 ls hl hW1 hS1)
end ROWS
