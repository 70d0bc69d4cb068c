/-! THE SHAPE of the objects once they are made: object number, kind, what its places hold (0: a number; d: the object d further on). mk h: the cells that hold the numbers h. -/
abbrev kH : Type := Nat → Nat → Int32
def kSh (κ : Nat) : Nat × List Nat := match κ with
  | 0 => (0, [0, 0, 0, 0, 0, 1, 2, 3, 4, 5, 6])
  | 1 => (1, [1, 2, 3])
  | 2 => (2, [1, 0, 0])
  | 3 => (3, [0, 0, 0, 0, 0, 0, 1, 2, 3, 4])
  | 4 => (4, [0, 1, 2, 3])
  | 5 => (5, [1, 0, 0, 0, 2, 3, 4])
  | 6 => (6, [1, 71, 141, 145, 637, 642, 643, 644, 645])
  | 7 => (7, [1, 2, 3, 0, 4, 5, 6, 0, 0, 7, 8, 9, 10, 0, 0, 0])
  | 8 => (10, List.replicate 6 0)
  | 9 => (10, List.replicate 12 0)
  | 10 => (10, List.replicate 20 0)
  | 11 => (10, List.replicate 80 0)
  | 12 => (10, List.replicate 109 0)
  | 13 => (10, List.replicate 760 0)
  | 14 => (10, List.replicate 4560 0)
  | 15 => (10, List.replicate 1520 0)
  | 16 => (10, List.replicate 240 0)
  | 17 => (11, List.replicate 80 0)
  | 18 => (12, List.replicate 2 0)
  | 19 => (13, (List.range 12).map (fun j => 5 + 5 * j))
  | 20 => (14, (List.range 7).map (fun j => 1 + 70 * j))
  | _ => (14, (List.range 2).map (fun j => 4 + 70 * j))
def kKc : List Nat := [0, 8, 9, 9, 9, 19, 4, 10, 10, 10] ++ (List.replicate 12 [3, 8, 9, 9, 9]).flatten
def kKinds : List Nat := [6] ++ kKc ++ kKc ++ [1, 9, 9, 8] ++ [2, 20] ++ (List.replicate 7 kKc).flatten ++ [5, 17, 17, 11, 11] ++ [21, 18, 9, 12] ++ kKc ++ kKc
def kIs (a κ : Nat) : Prop := kKinds[a]? = some κ
def kCell (h : kH) (a κ : Nat) : kC := ((kSh κ).1, (kSh κ).2.mapIdx (fun k o => if o = 0 then .int (h a k) else .ref (a + o)))
/-- all places of an array filled -/
def hfill (h : kH) (a n : Nat) (v : Int32) : kH := fun b j => if b = a ∧ j < n then v else h b j
/-- the object a is of kind κ, where K are the kinds of the rows that the law has made so far -/
def kX (K : List Nat) (a κ : Nat) : Prop := (kKinds ++ K)[a]? = some κ
theorem kKinds_len : kKinds.length = 786 := by decide +kernel
theorem kIs.x {K : List Nat} {a κ : Nat} (h : kIs a κ) : kX K a κ := by
  have h1 := (List.getElem?_eq_some_iff.mp h).1
  unfold kX
  rw [List.getElem?_append_left h1]
  exact h
theorem kX.app {K : List Nat} {a κ : Nat} (h : kX K a κ) (K' : List Nat) : kX (K ++ K') a κ := by
  have h1 := (List.getElem?_eq_some_iff.mp h).1
  unfold kX at h ⊢
  rw [← List.append_assoc, List.getElem?_append_left h1]
  exact h
theorem kX_new (K : List Nat) (κ : Nat) : kX (K ++ [κ]) (786 + K.length) κ := by
  unfold kX
  rw [← List.append_assoc, List.getElem?_append_right (by rw [List.length_append, kKinds_len]; exact Nat.le_refl _), List.length_append, kKinds_len, Nat.sub_self]
  rfl
theorem kX_lt {K : List Nat} {a κ : Nat} (h : kX K a κ) : a < 786 + K.length := by
  have h1 := (List.getElem?_eq_some_iff.mp h).1
  rw [List.length_append, kKinds_len] at h1
  exact h1
def mk (K : List Nat) (h : kH) : List kC := (kKinds ++ K).mapIdx (fun a κ => kCell h a κ)
theorem mk_len (K : List Nat) (h : kH) : (mk K h).length = 786 + K.length := by
  unfold mk
  rw [List.length_mapIdx, List.length_append, kKinds_len]
def hset (h : kH) (a k : Nat) (v : Int32) : kH := fun b j => if b = a ∧ j = k then v else h b j
def hcpy (h : kH) (a0 a sp dp n : Nat) : kH := fun b j => if b = a then va_cpy (h a0) (h a) sp dp n j else h b j
theorem mk_get {K : List Nat} (h : kH) {a κ : Nat} (hk : kX K a κ) : (mk K h)[a]? = some (kCell h a κ) := by
  unfold mk
  rw [List.getElem?_mapIdx, show (kKinds ++ K)[a]? = some κ from hk]
  rfl
theorem kCell_get (h : kH) (a κ k : Nat) : (kCell h a κ).2[k]? = (kSh κ).2[k]?.map (fun o => if o = 0 then .int (h a k) else .ref (a + o)) := by
  simp [kCell, List.getElem?_mapIdx]
theorem mk_set {K : List Nat} (h h' : kH) {a κ : Nat} (hk : kX K a κ) {c : kC} (hc : c = kCell h' a κ) (hr : ∀ b, b ≠ a → h' b = h b) : (mk K h).set a c = mk K h' := by
  apply List.ext_getElem?
  intro b
  rw [List.getElem?_set]
  unfold mk
  rw [List.getElem?_mapIdx, List.getElem?_mapIdx]
  by_cases hb : a = b
  · subst hb
    have hl : a < (kKinds ++ K).length := (List.getElem?_eq_some_iff.mp hk).1
    rw [if_pos rfl, if_pos (by rw [List.length_mapIdx]; exact hl), show (kKinds ++ K)[a]? = some κ from hk, hc]
    rfl
  · rw [if_neg hb]
    congr 1
    funext κ'
    simp only [kCell, hr b (Ne.symm hb)]
theorem kCell_set (h : kH) {a κ k : Nat} (v : Int32) (hs : (kSh κ).2[k]? = some 0) : ((kSh κ).1, (kCell h a κ).2.set k (.int v)) = kCell (hset h a k v) a κ := by
  refine Prod.ext rfl ?_
  apply List.ext_getElem?
  intro j
  rw [kCell_get, List.getElem?_set, kCell_get]
  by_cases hj : k = j
  · subst hj
    have hl : k < (kCell h a κ).2.length := by simpa [kCell] using (List.getElem?_eq_some_iff.mp hs).1
    rw [if_pos rfl, if_pos hl, hs]
    simp [hset]
  · rw [if_neg hj]
    have : ∀ o, (if o = 0 then Value.int (h a j) else .ref (a + o)) = if o = 0 then Value.int (hset h a k v a j) else .ref (a + o) := fun o => by simp [hset, Ne.symm hj]
    congr 1
    funext o
    exact this o
theorem mk_put {K : List Nat} (h : kH) {a κ k : Nat} (v : Int32) (hk : kX K a κ) (hs : (kSh κ).2[k]? = some 0) : (mk K h).set a ((kSh κ).1, (kCell h a κ).2.set k (.int v)) = mk K (hset h a k v) :=
  mk_set h (hset h a k v) hk (kCell_set h v hs) (fun b hb => by funext j; simp [hset, hb])
theorem kIs_lt {a κ : Nat} (h : kIs a κ) : a < 786 := by
  have h1 := (List.getElem?_eq_some_iff.mp h).1
  have h2 := kKinds_len
  omega
theorem kRepl {κ tg n : Nat} (hs : kSh κ = (tg, List.replicate n 0)) (h : kH) (a : Nat) : kCell h a κ = (tg, (List.range n).map (fun k => .int (h a k))) := by
  unfold kCell
  rw [hs]
  refine Prod.ext rfl ?_
  apply List.ext_getElem?
  intro j
  by_cases hj : j < n
  · simp [List.getElem?_mapIdx, List.getElem?_replicate, hj]
  · simp [List.getElem?_mapIdx, List.getElem?_replicate, hj]
section ROWS
variable {E : kE} {M : kM} {r : Option Int32} {g' : List kC} {fc fs pc : Nat} {lv : kLv} {st : List Value} {h : kH} {K : List Nat}
theorem kM_getI (pc' : Nat) {ix k a κ : Nat} {t : FieldType} {fin : Bool} (hd : decode (kB M) pc = .ok (.getfield ix, 3)) (hf : kFl (kY M).cls ix κ k t fin) (hk : kX K a κ) (hκ : (kSh κ).1 = κ) (hs : (kSh κ).2[k]? = some 0) (hp : pc + 3 = pc') (kk : kJ E M r g' fc fs pc' lv (.int (h a k) :: st) (mk K h)) : kJ E M r g' fc fs pc lv (.ref a :: st) (mk K h) := by
  refine kJ_getf pc' (vs := (kCell h a κ).2) hd hf ((mk_get h hk).trans ?_) ?_ hp kk
  · exact congrArg some (Prod.ext hκ rfl)
  · rw [kCell_get, hs]; rfl
theorem kM_getR (pc' o y : Nat) {ix k a κ : Nat} {t : FieldType} {fin : Bool} (hd : decode (kB M) pc = .ok (.getfield ix, 3)) (hf : kFl (kY M).cls ix κ k t fin) (hk : kX K a κ) (hκ : (kSh κ).1 = κ) (hs : (kSh κ).2[k]? = some (o + 1)) (hy : a + (o + 1) = y) (hp : pc + 3 = pc') (kk : kJ E M r g' fc fs pc' lv (.ref y :: st) (mk K h)) : kJ E M r g' fc fs pc lv (.ref a :: st) (mk K h) := by
  subst hy
  refine kJ_getf pc' (vs := (kCell h a κ).2) hd hf ((mk_get h hk).trans ?_) ?_ hp kk
  · exact congrArg some (Prod.ext hκ rfl)
  · rw [kCell_get, hs]; rfl
theorem kM_put (pc' : Nat) {ix k a κ : Nat} {t : FieldType} {v : Int32} (hd : decode (kB M) pc = .ok (.putfield ix, 3)) (hf : kFl (kY M).cls ix κ k t false) (hk : kX K a κ) (hκ : (kSh κ).1 = κ) (hs : (kSh κ).2[k]? = some 0) (hv : kFit t (.int v)) (hp : pc + 3 = pc') (kk : kJ E M r g' fc fs pc' lv st (mk K (hset h a k v))) : kJ E M r g' fc fs pc lv (.int v :: .ref a :: st) (mk K h) := by
  refine kJ_putf pc' (vs := (kCell h a κ).2) hd hf ((mk_get h hk).trans ?_) hv ?_ hp ?_
  · exact congrArg some (Prod.ext hκ rfl)
  · simpa [kCell] using (List.getElem?_eq_some_iff.mp hs).1
  · have e := mk_put h v hk hs
    rw [hκ] at e
    rw [e]
    exact kk
theorem kRange_get {α : Type} {f : Nat → α} {n k : Nat} (hk : k < n) : ((List.range n).map f)[k]? = some (f k) := by simp [hk]
theorem kM_iald (pc' n : Nat) {a κ : Nat} {i : Int32} (hd : decode (kB M) pc = .ok (.iaload, 1)) (hk : kX K a κ) (hs : kSh κ = (10, List.replicate n 0)) (hin : vp_in i n) (hp : pc + 1 = pc') (kk : kJ E M r g' fc fs pc' lv (.int (h a i.toNatClampNeg) :: st) (mk K h)) : kJ E M r g' fc fs pc lv (.int i :: .ref a :: st) (mk K h) :=
  kJ_iald pc' (vs := (List.range n).map (fun k => .int (h a k))) hd ((mk_get h hk).trans (congrArg some (kRepl hs h a))) (by simpa using hin) (kRange_get (kIn_lt hin)) hp kk
theorem kM_cald (pc' n : Nat) {a κ : Nat} {i : Int32} (hd : decode (kB M) pc = .ok (.caload, 1)) (hk : kX K a κ) (hs : kSh κ = (11, List.replicate n 0)) (hin : vp_in i n) (hp : pc + 1 = pc') (kk : kJ E M r g' fc fs pc' lv (.int (h a i.toNatClampNeg) :: st) (mk K h)) : kJ E M r g' fc fs pc lv (.int i :: .ref a :: st) (mk K h) :=
  kJ_cald pc' (vs := (List.range n).map (fun k => .int (h a k))) hd ((mk_get h hk).trans (congrArg some (kRepl hs h a))) (by simpa using hin) (kRange_get (kIn_lt hin)) hp kk
theorem kM_zald (pc' n : Nat) {a κ : Nat} {i : Int32} (hd : decode (kB M) pc = .ok (.baload, 1)) (hk : kX K a κ) (hs : kSh κ = (12, List.replicate n 0)) (hin : vp_in i n) (hp : pc + 1 = pc') (kk : kJ E M r g' fc fs pc' lv (.int (h a i.toNatClampNeg) :: st) (mk K h)) : kJ E M r g' fc fs pc lv (.int i :: .ref a :: st) (mk K h) :=
  kJ_zald pc' (vs := (List.range n).map (fun k => .int (h a k))) hd ((mk_get h hk).trans (congrArg some (kRepl hs h a))) (by simpa using hin) (kRange_get (kIn_lt hin)) hp kk
theorem kPutA {κ tg n : Nat} (hs : kSh κ = (tg, List.replicate n 0)) {a k : Nat} (hk : kX K a κ) (hn : k < n) (v : Int32) : (mk K h).set a (tg, ((List.range n).map (fun k => Value.int (h a k))).set k (.int v)) = mk K (hset h a k v) := by
  have e := mk_put (k := k) h v hk (by rw [hs]; simp [List.getElem?_replicate, hn])
  rw [kRepl hs, hs] at e
  exact e
theorem kM_iast (pc' n : Nat) {a κ : Nat} {i x : Int32} (hd : decode (kB M) pc = .ok (.iastore, 1)) (hk : kX K a κ) (hs : kSh κ = (10, List.replicate n 0)) (hin : vp_in i n) (hp : pc + 1 = pc') (kk : kJ E M r g' fc fs pc' lv st (mk K (hset h a i.toNatClampNeg x))) : kJ E M r g' fc fs pc lv (.int x :: .int i :: .ref a :: st) (mk K h) :=
  kJ_iast pc' (vs := (List.range n).map (fun k => .int (h a k))) hd ((mk_get h hk).trans (congrArg some (kRepl hs h a))) (by simpa using hin) hp (by rw [kPutA hs hk (kIn_lt hin)]; exact kk)
theorem kM_cast (pc' n : Nat) {a κ : Nat} {i x : Int32} (hd : decode (kB M) pc = .ok (.castore, 1)) (hk : kX K a κ) (hs : kSh κ = (11, List.replicate n 0)) (hin : vp_in i n) (hp : pc + 1 = pc') (kk : kJ E M r g' fc fs pc' lv st (mk K (hset h a i.toNatClampNeg (vp_nar .char x)))) : kJ E M r g' fc fs pc lv (.int x :: .int i :: .ref a :: st) (mk K h) :=
  kJ_cast pc' (vs := (List.range n).map (fun k => .int (h a k))) hd ((mk_get h hk).trans (congrArg some (kRepl hs h a))) (by simpa using hin) hp (by rw [kPutA hs hk (kIn_lt hin)]; exact kk)
theorem kM_zast (pc' n : Nat) {a κ : Nat} {i x : Int32} (hd : decode (kB M) pc = .ok (.bastore, 1)) (hk : kX K a κ) (hs : kSh κ = (12, List.replicate n 0)) (hin : vp_in i n) (hp : pc + 1 = pc') (kk : kJ E M r g' fc fs pc' lv st (mk K (hset h a i.toNatClampNeg (vp_nar .boolean x)))) : kJ E M r g' fc fs pc lv (.int x :: .int i :: .ref a :: st) (mk K h) :=
  kJ_zast pc' (vs := (List.range n).map (fun k => .int (h a k))) hd ((mk_get h hk).trans (congrArg some (kRepl hs h a))) (by simpa using hin) hp (by rw [kPutA hs hk (kIn_lt hin)]; exact kk)
theorem kM_aald (pc' n b s y : Nat) {a κ tg : Nat} {i : Int32} (hd : decode (kB M) pc = .ok (.aaload, 1)) (hk : kX K a κ) (hs : kSh κ = (tg, (List.range n).map (fun j => b + s * j))) (hb : 0 < b) (ht : tg = 13 ∨ tg = 14) (hin : vp_in i n) (hy : a + (b + s * i.toNatClampNeg) = y) (hp : pc + 1 = pc') (kk : kJ E M r g' fc fs pc' lv (.ref y :: st) (mk K h)) : kJ E M r g' fc fs pc lv (.int i :: .ref a :: st) (mk K h) := by
  subst hy
  have hlt := kIn_lt hin
  have e : kCell h a κ = (tg, (kCell h a κ).2) := Prod.ext (by show (kSh κ).1 = tg; rw [hs]) rfl
  have hlen : (kCell h a κ).2.length = n := by simp [kCell, hs]
  refine kJ_aald pc' (vs := (kCell h a κ).2) hd ((mk_get h hk).trans (congrArg some e)) ht (by rw [hlen]; exact hin) ?_ hp kk
  rw [kCell_get, hs]
  simp only [kRange_get hlt, Option.map_some]
  rw [if_neg (by omega)]
theorem kM_alen (pc' n : Nat) {a κ : Nat} (hd : decode (kB M) pc = .ok (.arraylength, 1)) (hk : kX K a κ) (hs : kSh κ = (10, List.replicate n 0)) (hp : pc + 1 = pc') (kk : kJ E M r g' fc fs pc' lv (.int (Int32.ofNat n) :: st) (mk K h)) : kJ E M r g' fc fs pc lv (.ref a :: st) (mk K h) :=
  kJ_alen pc' (vs := (List.range n).map (fun k => .int (h a k))) hd ((mk_get h hk).trans (congrArg some (kRepl hs h a))) (Or.inl rfl) hp (by simpa using kk)
theorem kM_alenM (pc' n : Nat) {a κ : Nat} {f : Nat → Nat} (hd : decode (kB M) pc = .ok (.arraylength, 1)) (hk : kX K a κ) (hs : kSh κ = (14, (List.range n).map f)) (hp : pc + 1 = pc') (kk : kJ E M r g' fc fs pc' lv (.int (Int32.ofNat n) :: st) (mk K h)) : kJ E M r g' fc fs pc lv (.ref a :: st) (mk K h) := by
  have e : kCell h a κ = (14, (kCell h a κ).2) := Prod.ext (by show (kSh κ).1 = 14; rw [hs]) rfl
  have hlen : (kCell h a κ).2.length = n := by simp [kCell, hs]
  exact kJ_alen pc' (vs := (kCell h a κ).2) hd ((mk_get h hk).trans (congrArg some e)) (Or.inr (Or.inr rfl)) hp (by rw [hlen]; exact kk)
theorem kM_copy (pc' n0 n1 : Nat) {ix a0 a κ0 κ : Nat} {sp dp n : Int32} (hd : decode (kB M) pc = .ok (.invokestatic ix, 3)) (hw : kCpW (kY M).cls ix) (hk0 : kX K a0 κ0) (hs0 : kSh κ0 = (10, List.replicate n0 0)) (hk : kX K a κ) (hs : kSh κ = (10, List.replicate n1 0)) (h1 : ¬ sp < 0) (h2 : ¬ dp < 0) (h3 : ¬ n < 0) (h4 : sp.toNatClampNeg + n.toNatClampNeg ≤ n0) (h5 : dp.toNatClampNeg + n.toNatClampNeg ≤ n1) (hrm : 1 ≤ (krm M).frames ∧ (st.map fun v => v.category).sum + (nativeFrameWords "java/lang/System" "arraycopy" 5 + 11) ≤ (krm M).locals) (hp : pc + 3 = pc') (kk : kJ E M r g' fc fs pc' lv st (mk K (hcpy h a0 a sp.toNatClampNeg dp.toNatClampNeg n.toNatClampNeg))) : kJ E M r g' fc fs pc lv (.int n :: .int dp :: .ref a :: .int sp :: .ref a0 :: st) (mk K h) := by
  refine kJ_copy pc' (vs0 := (List.range n0).map (fun k => .int (h a0 k))) (vs := (List.range n1).map (fun k => .int (h a k))) hd hw ((mk_get h hk0).trans (congrArg some (kRepl hs0 h a0))) ((mk_get h hk).trans (congrArg some (kRepl hs h a))) h1 h2 h3 (by simpa using h4) (by simpa using h5) hrm hp ?_
  rw [mk_set h (hcpy h a0 a sp.toNatClampNeg dp.toNatClampNeg n.toNatClampNeg) hk _ (fun b hb => by funext j; simp [hcpy, hb])]
  · exact kk
  · rw [kRepl hs]
    refine Prod.ext rfl ?_
    unfold kCpF
    simp only [List.length_map, List.length_range]
    apply List.map_congr_left
    intro j hj
    have hj' : j < n1 := List.mem_range.mp hj
    have ef : ∀ (b m k : Nat), k < m → kFn ((List.range m).map (fun k => Value.int (h b k))) k = h b k := fun b m k hkm => by simp [kFn, List.getD_eq_getElem?_getD, hkm, kInt]
    simp only [hcpy, if_pos, va_cpy]
    by_cases hr : dp.toNatClampNeg ≤ j ∧ j < dp.toNatClampNeg + n.toNatClampNeg
    · rw [if_pos hr, if_pos hr, ef _ _ _ (by omega)]
    · rw [if_neg hr, if_neg hr, ef _ _ _ hj']
theorem kX_newa (pc' N κ : Nat) {n : Int32} (hd : decode (kB M) pc = .ok (.newarray .int, 2)) (hw : Cond.arrayClass (newarray.typeOf .int) ∈ kWG) (hn : ¬ n < 0) (hN : n.toNatClampNeg = N) (hb8 : N * 4 ≤ 536870912) (hs : kSh κ = (10, List.replicate N 0)) (hfc : fc + 1 ≤ kMC M) (hfs : fs + N ≤ kMS M) (hp : pc + 2 = pc') (kk : kJ E M r g' (fc + 1) (fs + N) pc' lv (.ref (786 + K.length) :: st) (mk (K ++ [κ]) (hfill h (786 + K.length) N 0))) : kJ E M r g' fc fs pc lv (.int n :: st) (mk K h) := by
  refine kJ_newa pc' 10 N hd (Or.inl ⟨rfl, rfl⟩) hw hn hN hb8 hfc hfs hp ?_
  rw [mk_len]
  have e : mk K h ++ [(10, List.replicate N (.int 0))] = mk (K ++ [κ]) (hfill h (786 + K.length) N 0) := by
    apply List.ext_getElem?
    intro a
    unfold mk
    rw [← List.append_assoc, List.getElem?_append, List.length_mapIdx, List.getElem?_mapIdx, List.getElem?_mapIdx]
    have hl : (kKinds ++ K).length = 786 + K.length := by rw [List.length_append, kKinds_len]
    by_cases ha : a < (kKinds ++ K).length
    · rw [if_pos ha, List.getElem?_append_left ha]
      congr 1
      funext κ'
      unfold kCell
      have hne : a ≠ 786 + K.length := by omega
      have ef : hfill h (786 + K.length) N 0 a = h a := by
        funext j
        exact if_neg (fun q => hne q.1)
      rw [ef]
    · rw [if_neg ha]
      by_cases hb : a = 786 + K.length
      · subst hb
        rw [hl, Nat.sub_self, List.getElem?_append_right (by omega), hl, Nat.sub_self]
        show some (10, List.replicate N (Value.int 0)) = some (kCell _ _ κ)
        rw [kRepl hs]
        congr 2
        apply List.ext_getElem?
        intro j
        by_cases hj : j < N
        · simp [List.getElem?_replicate, hj, hfill]
        · simp [List.getElem?_replicate, hj]
      · rw [List.getElem?_eq_none (by rw [hl]; show 1 ≤ _; omega), List.getElem?_eq_none (by rw [List.length_append, hl]; show 786 + K.length + 1 ≤ a; omega)]
        rfl
  rw [e]
  exact kk
end ROWS
