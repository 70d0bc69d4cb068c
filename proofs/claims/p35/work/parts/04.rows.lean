/-! ROWS of the small machine: an instruction each. -/
section ROWS
variable {E : kE} {M : kM} {r : Option Int32} {g' : List kC} {fc fs pc : Nat} {lv : kLv} {st : List Value} {g : List kC}
theorem kJ_iconst (pc' : Nat) (v : Int32) {n : Int} (hd : decode (kB M) pc = .ok (.iconst n, 1)) (hv : Int32.ofInt n = v) (hp : pc + 1 = pc') (k : kJ E M r g' fc fs pc' lv (.int v :: st) g) : kJ E M r g' fc fs pc lv st g := by
  subst hp
  intro p l e s m args below meth c hF R hR PQ hEx H locs ls hl hW hS
  exact lv_iconst hF.1 hF.2.1 hd hv (k p l e s m args below meth c hF R hR PQ hEx H locs ls hl hW hS)
theorem kJ_bipush (pc' : Nat) (v : Int32) {n : Int} (hd : decode (kB M) pc = .ok (.bipush n, 2)) (hv : (Int8.ofInt n).toInt32 = v) (hp : pc + 2 = pc') (k : kJ E M r g' fc fs pc' lv (.int v :: st) g) : kJ E M r g' fc fs pc lv st g := by
  subst hp
  intro p l e s m args below meth c hF R hR PQ hEx H locs ls hl hW hS
  exact lv_bipush hF.1 hF.2.1 hd hv (k p l e s m args below meth c hF R hR PQ hEx H locs ls hl hW hS)
theorem kJ_sipush (pc' : Nat) (v : Int32) {n : Int} (hd : decode (kB M) pc = .ok (.sipush n, 3)) (hv : (Int16.ofInt n).toInt32 = v) (hp : pc + 3 = pc') (k : kJ E M r g' fc fs pc' lv (.int v :: st) g) : kJ E M r g' fc fs pc lv st g := by
  subst hp
  intro p l e s m args below meth c hF R hR PQ hEx H locs ls hl hW hS
  exact lv_sipush hF.1 hF.2.1 hd hv (k p l e s m args below meth c hF R hR PQ hEx H locs ls hl hW hS)
theorem kJ_lconst (pc' : Nat) (v : Int64) {n : Fin 2} (hd : decode (kB M) pc = .ok (.lconst n, 1)) (hv : Int64.ofNat (n : Nat) = v) (hp : pc + 1 = pc') (k : kJ E M r g' fc fs pc' lv (.long v :: st) g) : kJ E M r g' fc fs pc lv st g := by
  subst hp
  intro p l e s m args below meth c hF R hR PQ hEx H locs ls hl hW hS
  exact lv_lconst hF.1 hF.2.1 hd hv (k p l e s m args below meth c hF R hR PQ hEx H locs ls hl hW hS)
theorem kJ_ldcw (pc' : Nat) (v : Int32) {i : Nat} (hd : decode (kB M) pc = .ok (.ldc_w i, 3)) (hc : Cond.constant (kY M).cls i v ∈ kWG) (hp : pc + 3 = pc') (k : kJ E M r g' fc fs pc' lv (.int v :: st) g) : kJ E M r g' fc fs pc lv st g := by
  subst hp
  intro p l e s m args below meth c hF R hR PQ hEx H locs ls hl hW hS
  have k2 := k p l e s m args below meth c hF R hR PQ hEx H locs ls hl hW hS
  obtain ⟨hx, hb, hml, hr, hlk, hown, hts, hnm, hE⟩ := hF
  exact lv_ldcw hx hb hown (hts _ hc) hd k2
theorem kJ_ldc2 (pc' : Nat) (v : Int64) {i : Nat} (hd : decode (kB M) pc = .ok (.ldc2_w i, 3)) (hc : Cond.constantLong (kY M).cls i v ∈ kWG) (hp : pc + 3 = pc') (k : kJ E M r g' fc fs pc' lv (.long v :: st) g) : kJ E M r g' fc fs pc lv st g := by
  subst hp
  intro p l e s m args below meth c hF R hR PQ hEx H locs ls hl hW hS
  have k2 := k p l e s m args below meth c hF R hR PQ hEx H locs ls hl hW hS
  obtain ⟨hx, hb, hml, hr, hlk, hown, hts, hnm, hE⟩ := hF
  exact lv_ldc2 hx hb hown (hts _ hc) hd k2
theorem kTl_at {ls : Array Slot} {nL : Nat} (hl : lv_has ls nL (kTl E lv)) (q : Nat) {i : Nat} {v : Value} (h : lv[q]? = some (i, v)) : ls[i]? = some (.val (kTv E v)) := by
  refine lv_at hl q ?_
  simp [kTl, h]
theorem kJ_iload_n (pc' q : Nat) {n : Fin 4} {i : Nat} {x : Int32} (hd : decode (kB M) pc = .ok (.iload_n n, 1)) (hi : (n : Nat) = i) (h : lv[q]? = some (i, .int x)) (hp : pc + 1 = pc') (k : kJ E M r g' fc fs pc' lv (.int x :: st) g) : kJ E M r g' fc fs pc lv st g := by
  subst hp
  intro p l e s m args below meth c hF R hR PQ hEx H locs ls hl hW hS
  exact lv_iload_n hF.1 hF.2.1 hd hi (kTl_at hl q h) (k p l e s m args below meth c hF R hR PQ hEx H locs ls hl hW hS)
theorem kJ_iload (pc' q : Nat) {i : Nat} {x : Int32} (hd : decode (kB M) pc = .ok (.iload i, 2)) (h : lv[q]? = some (i, .int x)) (hp : pc + 2 = pc') (k : kJ E M r g' fc fs pc' lv (.int x :: st) g) : kJ E M r g' fc fs pc lv st g := by
  subst hp
  intro p l e s m args below meth c hF R hR PQ hEx H locs ls hl hW hS
  exact lv_iload hF.1 hF.2.1 hd (kTl_at hl q h) (k p l e s m args below meth c hF R hR PQ hEx H locs ls hl hW hS)
theorem kJ_lload_n (pc' q : Nat) {n : Fin 4} {i : Nat} {x : Int64} (hd : decode (kB M) pc = .ok (.lload_n n, 1)) (hi : (n : Nat) = i) (h : lv[q]? = some (i, .long x)) (hp : pc + 1 = pc') (k : kJ E M r g' fc fs pc' lv (.long x :: st) g) : kJ E M r g' fc fs pc lv st g := by
  subst hp
  intro p l e s m args below meth c hF R hR PQ hEx H locs ls hl hW hS
  exact lv_lload_n hF.1 hF.2.1 hd hi (kTl_at hl q h) (k p l e s m args below meth c hF R hR PQ hEx H locs ls hl hW hS)
theorem kJ_lload (pc' q : Nat) {i : Nat} {x : Int64} (hd : decode (kB M) pc = .ok (.lload i, 2)) (h : lv[q]? = some (i, .long x)) (hp : pc + 2 = pc') (k : kJ E M r g' fc fs pc' lv (.long x :: st) g) : kJ E M r g' fc fs pc lv st g := by
  subst hp
  intro p l e s m args below meth c hF R hR PQ hEx H locs ls hl hW hS
  exact lv_lload hF.1 hF.2.1 hd (kTl_at hl q h) (k p l e s m args below meth c hF R hR PQ hEx H locs ls hl hW hS)
def kIsRef (v : Value) : Bool := match v with
  | .ref _ => true
  | .retAddr _ => true
  | _ => false
theorem kIsRef_tv {v : Value} (h : kIsRef v = true) (E : kE) : ∃ a : Nat, kTv E v = .ref a := by
  cases v <;> first | exact ⟨_, rfl⟩ | (simp [kIsRef] at h)
theorem kJ_aload_n (pc' q : Nat) {n : Fin 4} {i : Nat} {v : Value} (hd : decode (kB M) pc = .ok (.aload_n n, 1)) (hi : (n : Nat) = i) (h : lv[q]? = some (i, v)) (hv : kIsRef v = true) (hp : pc + 1 = pc') (k : kJ E M r g' fc fs pc' lv (v :: st) g) : kJ E M r g' fc fs pc lv st g := by
  subst hp
  intro p l e s m args below meth c hF R hR PQ hEx H locs ls hl hW hS
  have k2 := k p l e s m args below meth c hF R hR PQ hEx H locs ls hl hW hS
  have h2 := kTl_at hl q h
  obtain ⟨a, ha⟩ := kIsRef_tv hv E
  rw [List.map_cons, ha] at k2
  rw [ha] at h2
  exact lv_aload_n hF.1 hF.2.1 hd hi h2 k2
theorem kJ_aload (pc' q : Nat) {i : Nat} {v : Value} (hd : decode (kB M) pc = .ok (.aload i, 2)) (h : lv[q]? = some (i, v)) (hv : kIsRef v = true) (hp : pc + 2 = pc') (k : kJ E M r g' fc fs pc' lv (v :: st) g) : kJ E M r g' fc fs pc lv st g := by
  subst hp
  intro p l e s m args below meth c hF R hR PQ hEx H locs ls hl hW hS
  have k2 := k p l e s m args below meth c hF R hR PQ hEx H locs ls hl hW hS
  have h2 := kTl_at hl q h
  obtain ⟨a, ha⟩ := kIsRef_tv hv E
  rw [List.map_cons, ha] at k2
  rw [ha] at h2
  exact lv_aload hF.1 hF.2.1 hd h2 k2
def kSt (lv : kLv) (i : Nat) (v : Value) : kLv := (i, v) :: lv.filter (fun q => !(q.1 == i) && !(q.1 + 1 == i && q.2.category == 2))
def kSt2 (lv : kLv) (i : Nat) (v : Value) : kLv := (i, v) :: lv.filter (fun q => !(q.1 == i) && (!(q.1 == i + 1) && !(q.1 + 1 == i && q.2.category == 2)))
theorem kTl_st (E : kE) (lv : kLv) (i : Nat) (v : Value) : (i, kTv E v) :: (kTl E lv).filter (fun q => !(q.1 == i) && !(q.1 + 1 == i && q.2.category == 2)) = kTl E (kSt lv i v) := by
  simp only [kTl, kSt, List.map_cons, List.filter_map]
  congr 3
  funext q
  simp only [Function.comp, kTv_cat]
theorem kTl_st2 (E : kE) (lv : kLv) (i : Nat) (v : Value) : (i, kTv E v) :: (kTl E lv).filter (fun q => !(q.1 == i) && (!(q.1 == i + 1) && !(q.1 + 1 == i && q.2.category == 2))) = kTl E (kSt2 lv i v) := by
  simp only [kTl, kSt2, List.map_cons, List.filter_map]
  congr 3
  funext q
  simp only [Function.comp, kTv_cat]
theorem kJ_istore_n (pc' : Nat) (lv' : kLv) {n : Fin 4} {i : Nat} {x : Int32} (hd : decode (kB M) pc = .ok (.istore_n n, 1)) (hi : (n : Nat) = i) (hn : i < kL M) (hl' : kSt lv i (.int x) = lv') (hp : pc + 1 = pc') (k : kJ E M r g' fc fs pc' lv' st g) : kJ E M r g' fc fs pc lv (.int x :: st) g := by
  subst hp; subst hl'
  intro p l e s m args below meth c hF R hR PQ hEx H locs ls hl hW hS
  exact lv_istore_n hF.1 hF.2.1 hd hi hl hn (kTl_st E lv i (.int x)) (fun ls' hl' => k p l e s m args below meth c hF R hR PQ hEx H locs ls' hl' hW hS)
theorem kJ_istore (pc' : Nat) (lv' : kLv) {i : Nat} {x : Int32} (hd : decode (kB M) pc = .ok (.istore i, 2)) (hn : i < kL M) (hl' : kSt lv i (.int x) = lv') (hp : pc + 2 = pc') (k : kJ E M r g' fc fs pc' lv' st g) : kJ E M r g' fc fs pc lv (.int x :: st) g := by
  subst hp; subst hl'
  intro p l e s m args below meth c hF R hR PQ hEx H locs ls hl hW hS
  exact lv_istore hF.1 hF.2.1 hd hl hn (kTl_st E lv i (.int x)) (fun ls' hl' => k p l e s m args below meth c hF R hR PQ hEx H locs ls' hl' hW hS)
theorem kJ_lstore_n (pc' : Nat) (lv' : kLv) {n : Fin 4} {i : Nat} {x : Int64} (hd : decode (kB M) pc = .ok (.lstore_n n, 1)) (hi : (n : Nat) = i) (hn : i + 1 < kL M) (hl' : kSt2 lv i (.long x) = lv') (hp : pc + 1 = pc') (k : kJ E M r g' fc fs pc' lv' st g) : kJ E M r g' fc fs pc lv (.long x :: st) g := by
  subst hp; subst hl'
  intro p l e s m args below meth c hF R hR PQ hEx H locs ls hl hW hS
  exact lv_lstore_n hF.1 hF.2.1 hd hi hl hn (kTl_st2 E lv i (.long x)) (fun ls' hl' => k p l e s m args below meth c hF R hR PQ hEx H locs ls' hl' hW hS)
theorem kJ_lstore (pc' : Nat) (lv' : kLv) {i : Nat} {x : Int64} (hd : decode (kB M) pc = .ok (.lstore i, 2)) (hn : i + 1 < kL M) (hl' : kSt2 lv i (.long x) = lv') (hp : pc + 2 = pc') (k : kJ E M r g' fc fs pc' lv' st g) : kJ E M r g' fc fs pc lv (.long x :: st) g := by
  subst hp; subst hl'
  intro p l e s m args below meth c hF R hR PQ hEx H locs ls hl hW hS
  exact lv_lstore hF.1 hF.2.1 hd hl hn (kTl_st2 E lv i (.long x)) (fun ls' hl' => k p l e s m args below meth c hF R hR PQ hEx H locs ls' hl' hW hS)
theorem kJ_astore_n (pc' : Nat) (lv' : kLv) {n : Fin 4} {i : Nat} {v : Value} (hd : decode (kB M) pc = .ok (.astore_n n, 1)) (hi : (n : Nat) = i) (hn : i < kL M) (hv : kIsRef v = true) (hl' : kSt lv i v = lv') (hp : pc + 1 = pc') (k : kJ E M r g' fc fs pc' lv' st g) : kJ E M r g' fc fs pc lv (v :: st) g := by
  subst hp; subst hl'
  intro p l e s m args below meth c hF R hR PQ hEx H locs ls hl hW hS
  have h3 := kTl_st E lv i v
  rw [List.map_cons]
  obtain ⟨a, ha⟩ := kIsRef_tv hv E
  rw [ha] at h3 ⊢
  exact lv_astore_n hF.1 hF.2.1 hd hi hl hn h3 (fun ls' hl' => k p l e s m args below meth c hF R hR PQ hEx H locs ls' hl' hW hS)
theorem kJ_astore (pc' : Nat) (lv' : kLv) {i : Nat} {v : Value} (hd : decode (kB M) pc = .ok (.astore i, 2)) (hn : i < kL M) (hv : kIsRef v = true) (hl' : kSt lv i v = lv') (hp : pc + 2 = pc') (k : kJ E M r g' fc fs pc' lv' st g) : kJ E M r g' fc fs pc lv (v :: st) g := by
  subst hp; subst hl'
  intro p l e s m args below meth c hF R hR PQ hEx H locs ls hl hW hS
  have h3 := kTl_st E lv i v
  rw [List.map_cons]
  obtain ⟨a, ha⟩ := kIsRef_tv hv E
  rw [ha] at h3 ⊢
  exact lv_astore hF.1 hF.2.1 hd hl hn h3 (fun ls' hl' => k p l e s m args below meth c hF R hR PQ hEx H locs ls' hl' hW hS)
theorem kJ_iinc (pc' q : Nat) (lv' : kLv) {i : Nat} {n : Int} {x d : Int32} (hd : decode (kB M) pc = .ok (.iinc i n, 3)) (h : lv[q]? = some (i, .int x)) (hv : Int32.ofInt n = d) (hn : i < kL M) (hl' : kSt lv i (.int (x + d)) = lv') (hp : pc + 3 = pc') (k : kJ E M r g' fc fs pc' lv' st g) : kJ E M r g' fc fs pc lv st g := by
  subst hp; subst hl'; subst hv
  intro p l e s m args below meth c hF R hR PQ hEx H locs ls hl hW hS
  exact lv_iinc (k := q) (x := x) (v := x + Int32.ofInt n) hF.1 hF.2.1 hd hl (by simp [kTl, h, kTv]) rfl hn (kTl_st E lv i (.int (x + Int32.ofInt n))) (fun ls' hl' => k p l e s m args below meth c hF R hR PQ hEx H locs ls' hl' hW hS)
theorem kJ_iadd (pc' : Nat) {x y : Int32} (hd : decode (kB M) pc = .ok (.iadd, 1)) (hp : pc + 1 = pc') (k : kJ E M r g' fc fs pc' lv (.int (x + y) :: st) g) : kJ E M r g' fc fs pc lv (.int y :: .int x :: st) g := by
  subst hp
  intro p l e s m args below meth c hF R hR PQ hEx H locs ls hl hW hS
  exact lv_iadd hF.1 hF.2.1 hd (k p l e s m args below meth c hF R hR PQ hEx H locs ls hl hW hS)
theorem kJ_isub (pc' : Nat) {x y : Int32} (hd : decode (kB M) pc = .ok (.isub, 1)) (hp : pc + 1 = pc') (k : kJ E M r g' fc fs pc' lv (.int (x - y) :: st) g) : kJ E M r g' fc fs pc lv (.int y :: .int x :: st) g := by
  subst hp
  intro p l e s m args below meth c hF R hR PQ hEx H locs ls hl hW hS
  exact lv_isub hF.1 hF.2.1 hd (k p l e s m args below meth c hF R hR PQ hEx H locs ls hl hW hS)
theorem kJ_imul (pc' : Nat) {x y : Int32} (hd : decode (kB M) pc = .ok (.imul, 1)) (hp : pc + 1 = pc') (k : kJ E M r g' fc fs pc' lv (.int (x * y) :: st) g) : kJ E M r g' fc fs pc lv (.int y :: .int x :: st) g := by
  subst hp
  intro p l e s m args below meth c hF R hR PQ hEx H locs ls hl hW hS
  exact lv_imul hF.1 hF.2.1 hd (k p l e s m args below meth c hF R hR PQ hEx H locs ls hl hW hS)
theorem kJ_iand (pc' : Nat) {x y : Int32} (hd : decode (kB M) pc = .ok (.iand, 1)) (hp : pc + 1 = pc') (k : kJ E M r g' fc fs pc' lv (.int (x &&& y) :: st) g) : kJ E M r g' fc fs pc lv (.int y :: .int x :: st) g := by
  subst hp
  intro p l e s m args below meth c hF R hR PQ hEx H locs ls hl hW hS
  exact lv_iand hF.1 hF.2.1 hd (k p l e s m args below meth c hF R hR PQ hEx H locs ls hl hW hS)
theorem kJ_ior (pc' : Nat) {x y : Int32} (hd : decode (kB M) pc = .ok (.ior, 1)) (hp : pc + 1 = pc') (k : kJ E M r g' fc fs pc' lv (.int (x ||| y) :: st) g) : kJ E M r g' fc fs pc lv (.int y :: .int x :: st) g := by
  subst hp
  intro p l e s m args below meth c hF R hR PQ hEx H locs ls hl hW hS
  exact lv_ior hF.1 hF.2.1 hd (k p l e s m args below meth c hF R hR PQ hEx H locs ls hl hW hS)
theorem kJ_ixor (pc' : Nat) {x y : Int32} (hd : decode (kB M) pc = .ok (.ixor, 1)) (hp : pc + 1 = pc') (k : kJ E M r g' fc fs pc' lv (.int (x ^^^ y) :: st) g) : kJ E M r g' fc fs pc lv (.int y :: .int x :: st) g := by
  subst hp
  intro p l e s m args below meth c hF R hR PQ hEx H locs ls hl hW hS
  exact lv_ixor hF.1 hF.2.1 hd (k p l e s m args below meth c hF R hR PQ hEx H locs ls hl hW hS)
theorem kJ_ishl (pc' : Nat) {x y : Int32} (hd : decode (kB M) pc = .ok (.ishl, 1)) (hp : pc + 1 = pc') (k : kJ E M r g' fc fs pc' lv (.int (x <<< (y &&& 31)) :: st) g) : kJ E M r g' fc fs pc lv (.int y :: .int x :: st) g := by
  subst hp
  intro p l e s m args below meth c hF R hR PQ hEx H locs ls hl hW hS
  exact lv_ishl hF.1 hF.2.1 hd (k p l e s m args below meth c hF R hR PQ hEx H locs ls hl hW hS)
theorem kJ_ishr (pc' : Nat) {x y : Int32} (hd : decode (kB M) pc = .ok (.ishr, 1)) (hp : pc + 1 = pc') (k : kJ E M r g' fc fs pc' lv (.int (x >>> (y &&& 31)) :: st) g) : kJ E M r g' fc fs pc lv (.int y :: .int x :: st) g := by
  subst hp
  intro p l e s m args below meth c hF R hR PQ hEx H locs ls hl hW hS
  exact lv_ishr hF.1 hF.2.1 hd (k p l e s m args below meth c hF R hR PQ hEx H locs ls hl hW hS)
theorem kJ_iushr (pc' : Nat) {x y : Int32} (hd : decode (kB M) pc = .ok (.iushr, 1)) (hp : pc + 1 = pc') (k : kJ E M r g' fc fs pc' lv (.int ((x.toUInt32 >>> (y.toUInt32 &&& Int32.toUInt32 31)).toInt32) :: st) g) : kJ E M r g' fc fs pc lv (.int y :: .int x :: st) g := by
  subst hp
  intro p l e s m args below meth c hF R hR PQ hEx H locs ls hl hW hS
  exact lv_iushr hF.1 hF.2.1 hd rfl (k p l e s m args below meth c hF R hR PQ hEx H locs ls hl hW hS)
theorem kJ_land (pc' : Nat) {x y : Int64} (hd : decode (kB M) pc = .ok (.land, 1)) (hp : pc + 1 = pc') (k : kJ E M r g' fc fs pc' lv (.long (x &&& y) :: st) g) : kJ E M r g' fc fs pc lv (.long y :: .long x :: st) g := by
  subst hp
  intro p l e s m args below meth c hF R hR PQ hEx H locs ls hl hW hS
  exact lv_land hF.1 hF.2.1 hd (k p l e s m args below meth c hF R hR PQ hEx H locs ls hl hW hS)
theorem kJ_lor (pc' : Nat) {x y : Int64} (hd : decode (kB M) pc = .ok (.lor, 1)) (hp : pc + 1 = pc') (k : kJ E M r g' fc fs pc' lv (.long (x ||| y) :: st) g) : kJ E M r g' fc fs pc lv (.long y :: .long x :: st) g := by
  subst hp
  intro p l e s m args below meth c hF R hR PQ hEx H locs ls hl hW hS
  exact lv_lor hF.1 hF.2.1 hd (k p l e s m args below meth c hF R hR PQ hEx H locs ls hl hW hS)
theorem kJ_lshl (pc' : Nat) {x : Int64} {y : Int32} (hd : decode (kB M) pc = .ok (.lshl, 1)) (hp : pc + 1 = pc') (k : kJ E M r g' fc fs pc' lv (.long (x <<< (y.toInt64 &&& 63)) :: st) g) : kJ E M r g' fc fs pc lv (.int y :: .long x :: st) g := by
  subst hp
  intro p l e s m args below meth c hF R hR PQ hEx H locs ls hl hW hS
  exact lv_lshl hF.1 hF.2.1 hd rfl (k p l e s m args below meth c hF R hR PQ hEx H locs ls hl hW hS)
theorem kJ_lushr (pc' : Nat) {x : Int64} {y : Int32} (hd : decode (kB M) pc = .ok (.lushr, 1)) (hp : pc + 1 = pc') (k : kJ E M r g' fc fs pc' lv (.long ((x.toUInt64 >>> (y.toInt64.toUInt64 &&& Int64.toUInt64 63)).toInt64) :: st) g) : kJ E M r g' fc fs pc lv (.int y :: .long x :: st) g := by
  subst hp
  intro p l e s m args below meth c hF R hR PQ hEx H locs ls hl hW hS
  exact lv_lushr hF.1 hF.2.1 hd rfl (k p l e s m args below meth c hF R hR PQ hEx H locs ls hl hW hS)
theorem kJ_lcmp (pc' : Nat) {x y : Int64} (hd : decode (kB M) pc = .ok (.lcmp, 1)) (hp : pc + 1 = pc') (k : kJ E M r g' fc fs pc' lv (.int (lg_cmp x y) :: st) g) : kJ E M r g' fc fs pc lv (.long y :: .long x :: st) g := by
  subst hp
  intro p l e s m args below meth c hF R hR PQ hEx H locs ls hl hW hS
  exact W.lcmp hF.1 hF.2.1 hd (k p l e s m args below meth c hF R hR PQ hEx H locs ls hl hW hS)
theorem kJ_i2l (pc' : Nat) {x : Int32} (hd : decode (kB M) pc = .ok (.i2l, 1)) (hp : pc + 1 = pc') (k : kJ E M r g' fc fs pc' lv (.long x.toInt64 :: st) g) : kJ E M r g' fc fs pc lv (.int x :: st) g := by
  subst hp
  intro p l e s m args below meth c hF R hR PQ hEx H locs ls hl hW hS
  exact lv_i2l hF.1 hF.2.1 hd rfl (k p l e s m args below meth c hF R hR PQ hEx H locs ls hl hW hS)
theorem kJ_l2i (pc' : Nat) {x : Int64} (hd : decode (kB M) pc = .ok (.l2i, 1)) (hp : pc + 1 = pc') (k : kJ E M r g' fc fs pc' lv (.int x.toInt32 :: st) g) : kJ E M r g' fc fs pc lv (.long x :: st) g := by
  subst hp
  intro p l e s m args below meth c hF R hR PQ hEx H locs ls hl hW hS
  exact lv_l2i hF.1 hF.2.1 hd rfl (k p l e s m args below meth c hF R hR PQ hEx H locs ls hl hW hS)
theorem kJ_i2c (pc' : Nat) {x : Int32} (hd : decode (kB M) pc = .ok (.i2c, 1)) (hp : pc + 1 = pc') (k : kJ E M r g' fc fs pc' lv (.int (x.toUInt32 % 65536).toInt32 :: st) g) : kJ E M r g' fc fs pc lv (.int x :: st) g := by
  subst hp
  intro p l e s m args below meth c hF R hR PQ hEx H locs ls hl hW hS
  exact lv_i2c hF.1 hF.2.1 hd rfl (k p l e s m args below meth c hF R hR PQ hEx H locs ls hl hW hS)
theorem kJ_dup (pc' : Nat) {v : Value} (hd : decode (kB M) pc = .ok (.dup, 1)) (hv : v.category = 1) (hp : pc + 1 = pc') (k : kJ E M r g' fc fs pc' lv (v :: v :: st) g) : kJ E M r g' fc fs pc lv (v :: st) g := by
  subst hp
  intro p l e s m args below meth c hF R hR PQ hEx H locs ls hl hW hS
  exact lv_dup hF.1 hF.2.1 hd (by rw [kTv_cat]; exact hv) (k p l e s m args below meth c hF R hR PQ hEx H locs ls hl hW hS)
theorem kJ_pop (pc' : Nat) {v : Value} (hd : decode (kB M) pc = .ok (.pop, 1)) (hv : v.category = 1) (hp : pc + 1 = pc') (k : kJ E M r g' fc fs pc' lv st g) : kJ E M r g' fc fs pc lv (v :: st) g := by
  subst hp
  intro p l e s m args below meth c hF R hR PQ hEx H locs ls hl hW hS
  exact lv_pop hF.1 hF.2.1 hd (by rw [kTv_cat]; exact hv) (k p l e s m args below meth c hF R hR PQ hEx H locs ls hl hW hS)
theorem kJ_dup_x1 (pc' : Nat) {v w : Value} (hd : decode (kB M) pc = .ok (.dup_x1, 1)) (hv : v.category = 1) (hw : w.category = 1) (hp : pc + 1 = pc') (k : kJ E M r g' fc fs pc' lv (v :: w :: v :: st) g) : kJ E M r g' fc fs pc lv (v :: w :: st) g := by
  subst hp
  intro p l e s m args below meth c hF R hR PQ hEx H locs ls hl hW hS
  exact lv_dup_x1 hF.1 hF.2.1 hd (by rw [kTv_cat]; exact hv) (by rw [kTv_cat]; exact hw) (k p l e s m args below meth c hF R hR PQ hEx H locs ls hl hW hS)
theorem kJ_dup2 (pc' : Nat) {v w : Value} (hd : decode (kB M) pc = .ok (.dup2, 1)) (hv : v.category = 1) (hw : w.category = 1) (hp : pc + 1 = pc') (k : kJ E M r g' fc fs pc' lv (v :: w :: v :: w :: st) g) : kJ E M r g' fc fs pc lv (v :: w :: st) g := by
  subst hp
  intro p l e s m args below meth c hF R hR PQ hEx H locs ls hl hW hS
  exact lv_dup2_11 hF.1 hF.2.1 hd (by rw [kTv_cat]; exact hv) (by rw [kTv_cat]; exact hw) (k p l e s m args below meth c hF R hR PQ hEx H locs ls hl hW hS)
theorem kJ_goto (pc' : Nat) {o : Int} (hd : decode (kB M) pc = .ok (.goto o, 3)) (hp : (pc : Int) + o = (pc' : Int)) (k : kJ E M r g' fc fs pc' lv st g) : kJ E M r g' fc fs pc lv st g := by
  intro p l e s m args below meth c hF R hR PQ hEx H locs ls hl hW hS
  exact lv_goto hF.1 hF.2.1 hd hp (k p l e s m args below meth c hF R hR PQ hEx H locs ls hl hW hS)
theorem kJ_if_eq (pc' pt : Nat) {x : Int32} {o : Int} (hd : decode (kB M) pc = .ok (.ifCond .eq o, 3)) (ht : (pc : Int) + o = (pt : Int)) (hp : pc + 3 = pc') (kt : x = 0 → kJ E M r g' fc fs pt lv st g) (kf : ¬ x = 0 → kJ E M r g' fc fs pc' lv st g) : kJ E M r g' fc fs pc lv (.int x :: st) g := by
  subst hp
  intro p l e s m args below meth c hF R hR PQ hEx H locs ls hl hW hS
  exact lv_if_eq hF.1 hF.2.1 hd ht (fun z => kt z p l e s m args below meth c hF R hR PQ hEx H locs ls hl hW hS) (fun z => kf z p l e s m args below meth c hF R hR PQ hEx H locs ls hl hW hS)
theorem kJ_icmp_eq (pc' pt : Nat) {x y : Int32} {o : Int} (hd : decode (kB M) pc = .ok (.if_icmp .eq o, 3)) (ht : (pc : Int) + o = (pt : Int)) (hp : pc + 3 = pc') (kt : x = y → kJ E M r g' fc fs pt lv st g) (kf : ¬ x = y → kJ E M r g' fc fs pc' lv st g) : kJ E M r g' fc fs pc lv (.int y :: .int x :: st) g := by
  subst hp
  intro p l e s m args below meth c hF R hR PQ hEx H locs ls hl hW hS
  exact lv_icmp_eq hF.1 hF.2.1 hd ht (fun z => kt z p l e s m args below meth c hF R hR PQ hEx H locs ls hl hW hS) (fun z => kf z p l e s m args below meth c hF R hR PQ hEx H locs ls hl hW hS)
theorem kJ_if_ne (pc' pt : Nat) {x : Int32} {o : Int} (hd : decode (kB M) pc = .ok (.ifCond .ne o, 3)) (ht : (pc : Int) + o = (pt : Int)) (hp : pc + 3 = pc') (kt : ¬ x = 0 → kJ E M r g' fc fs pt lv st g) (kf : x = 0 → kJ E M r g' fc fs pc' lv st g) : kJ E M r g' fc fs pc lv (.int x :: st) g := by
  subst hp
  intro p l e s m args below meth c hF R hR PQ hEx H locs ls hl hW hS
  exact lv_if_ne hF.1 hF.2.1 hd ht (fun z => kt z p l e s m args below meth c hF R hR PQ hEx H locs ls hl hW hS) (fun z => kf z p l e s m args below meth c hF R hR PQ hEx H locs ls hl hW hS)
theorem kJ_icmp_ne (pc' pt : Nat) {x y : Int32} {o : Int} (hd : decode (kB M) pc = .ok (.if_icmp .ne o, 3)) (ht : (pc : Int) + o = (pt : Int)) (hp : pc + 3 = pc') (kt : ¬ x = y → kJ E M r g' fc fs pt lv st g) (kf : x = y → kJ E M r g' fc fs pc' lv st g) : kJ E M r g' fc fs pc lv (.int y :: .int x :: st) g := by
  subst hp
  intro p l e s m args below meth c hF R hR PQ hEx H locs ls hl hW hS
  exact lv_icmp_ne hF.1 hF.2.1 hd ht (fun z => kt z p l e s m args below meth c hF R hR PQ hEx H locs ls hl hW hS) (fun z => kf z p l e s m args below meth c hF R hR PQ hEx H locs ls hl hW hS)
theorem kJ_if_lt (pc' pt : Nat) {x : Int32} {o : Int} (hd : decode (kB M) pc = .ok (.ifCond .lt o, 3)) (ht : (pc : Int) + o = (pt : Int)) (hp : pc + 3 = pc') (kt : x < 0 → kJ E M r g' fc fs pt lv st g) (kf : ¬ x < 0 → kJ E M r g' fc fs pc' lv st g) : kJ E M r g' fc fs pc lv (.int x :: st) g := by
  subst hp
  intro p l e s m args below meth c hF R hR PQ hEx H locs ls hl hW hS
  exact lv_if_lt hF.1 hF.2.1 hd ht (fun z => kt z p l e s m args below meth c hF R hR PQ hEx H locs ls hl hW hS) (fun z => kf z p l e s m args below meth c hF R hR PQ hEx H locs ls hl hW hS)
theorem kJ_icmp_lt (pc' pt : Nat) {x y : Int32} {o : Int} (hd : decode (kB M) pc = .ok (.if_icmp .lt o, 3)) (ht : (pc : Int) + o = (pt : Int)) (hp : pc + 3 = pc') (kt : x < y → kJ E M r g' fc fs pt lv st g) (kf : ¬ x < y → kJ E M r g' fc fs pc' lv st g) : kJ E M r g' fc fs pc lv (.int y :: .int x :: st) g := by
  subst hp
  intro p l e s m args below meth c hF R hR PQ hEx H locs ls hl hW hS
  exact lv_icmp_lt hF.1 hF.2.1 hd ht (fun z => kt z p l e s m args below meth c hF R hR PQ hEx H locs ls hl hW hS) (fun z => kf z p l e s m args below meth c hF R hR PQ hEx H locs ls hl hW hS)
theorem kJ_if_ge (pc' pt : Nat) {x : Int32} {o : Int} (hd : decode (kB M) pc = .ok (.ifCond .ge o, 3)) (ht : (pc : Int) + o = (pt : Int)) (hp : pc + 3 = pc') (kt : 0 ≤ x → kJ E M r g' fc fs pt lv st g) (kf : ¬ 0 ≤ x → kJ E M r g' fc fs pc' lv st g) : kJ E M r g' fc fs pc lv (.int x :: st) g := by
  subst hp
  intro p l e s m args below meth c hF R hR PQ hEx H locs ls hl hW hS
  exact lv_if_ge hF.1 hF.2.1 hd ht (fun z => kt z p l e s m args below meth c hF R hR PQ hEx H locs ls hl hW hS) (fun z => kf z p l e s m args below meth c hF R hR PQ hEx H locs ls hl hW hS)
theorem kJ_icmp_ge (pc' pt : Nat) {x y : Int32} {o : Int} (hd : decode (kB M) pc = .ok (.if_icmp .ge o, 3)) (ht : (pc : Int) + o = (pt : Int)) (hp : pc + 3 = pc') (kt : y ≤ x → kJ E M r g' fc fs pt lv st g) (kf : ¬ y ≤ x → kJ E M r g' fc fs pc' lv st g) : kJ E M r g' fc fs pc lv (.int y :: .int x :: st) g := by
  subst hp
  intro p l e s m args below meth c hF R hR PQ hEx H locs ls hl hW hS
  exact lv_icmp_ge hF.1 hF.2.1 hd ht (fun z => kt z p l e s m args below meth c hF R hR PQ hEx H locs ls hl hW hS) (fun z => kf z p l e s m args below meth c hF R hR PQ hEx H locs ls hl hW hS)
theorem kJ_if_gt (pc' pt : Nat) {x : Int32} {o : Int} (hd : decode (kB M) pc = .ok (.ifCond .gt o, 3)) (ht : (pc : Int) + o = (pt : Int)) (hp : pc + 3 = pc') (kt : 0 < x → kJ E M r g' fc fs pt lv st g) (kf : ¬ 0 < x → kJ E M r g' fc fs pc' lv st g) : kJ E M r g' fc fs pc lv (.int x :: st) g := by
  subst hp
  intro p l e s m args below meth c hF R hR PQ hEx H locs ls hl hW hS
  exact lv_if_gt hF.1 hF.2.1 hd ht (fun z => kt z p l e s m args below meth c hF R hR PQ hEx H locs ls hl hW hS) (fun z => kf z p l e s m args below meth c hF R hR PQ hEx H locs ls hl hW hS)
theorem kJ_icmp_gt (pc' pt : Nat) {x y : Int32} {o : Int} (hd : decode (kB M) pc = .ok (.if_icmp .gt o, 3)) (ht : (pc : Int) + o = (pt : Int)) (hp : pc + 3 = pc') (kt : y < x → kJ E M r g' fc fs pt lv st g) (kf : ¬ y < x → kJ E M r g' fc fs pc' lv st g) : kJ E M r g' fc fs pc lv (.int y :: .int x :: st) g := by
  subst hp
  intro p l e s m args below meth c hF R hR PQ hEx H locs ls hl hW hS
  exact lv_icmp_gt hF.1 hF.2.1 hd ht (fun z => kt z p l e s m args below meth c hF R hR PQ hEx H locs ls hl hW hS) (fun z => kf z p l e s m args below meth c hF R hR PQ hEx H locs ls hl hW hS)
theorem kJ_if_le (pc' pt : Nat) {x : Int32} {o : Int} (hd : decode (kB M) pc = .ok (.ifCond .le o, 3)) (ht : (pc : Int) + o = (pt : Int)) (hp : pc + 3 = pc') (kt : x ≤ 0 → kJ E M r g' fc fs pt lv st g) (kf : ¬ x ≤ 0 → kJ E M r g' fc fs pc' lv st g) : kJ E M r g' fc fs pc lv (.int x :: st) g := by
  subst hp
  intro p l e s m args below meth c hF R hR PQ hEx H locs ls hl hW hS
  exact lv_if_le hF.1 hF.2.1 hd ht (fun z => kt z p l e s m args below meth c hF R hR PQ hEx H locs ls hl hW hS) (fun z => kf z p l e s m args below meth c hF R hR PQ hEx H locs ls hl hW hS)
theorem kJ_icmp_le (pc' pt : Nat) {x y : Int32} {o : Int} (hd : decode (kB M) pc = .ok (.if_icmp .le o, 3)) (ht : (pc : Int) + o = (pt : Int)) (hp : pc + 3 = pc') (kt : x ≤ y → kJ E M r g' fc fs pt lv st g) (kf : ¬ x ≤ y → kJ E M r g' fc fs pc' lv st g) : kJ E M r g' fc fs pc lv (.int y :: .int x :: st) g := by
  subst hp
  intro p l e s m args below meth c hF R hR PQ hEx H locs ls hl hW hS
  exact lv_icmp_le hF.1 hF.2.1 hd ht (fun z => kt z p l e s m args below meth c hF R hR PQ hEx H locs ls hl hW hS) (fun z => kf z p l e s m args below meth c hF R hR PQ hEx H locs ls hl hW hS)
theorem kJ_lookup (pt : Nat) {d off : Int} {ps : Array (Int × Int)} {len : Nat} {x : Int32} (hd : decode (kB M) pc = .ok (.lookupswitch d ps, len)) (hs : (ps.toList.zip (ps.toList.drop 1)).all (fun (a, next) => a.1 < next.1) = true) (ho : Op.lookupswitch.offset ps.toList d x.toInt = off) (ht : (pc : Int) + off = (pt : Int)) (k : kJ E M r g' fc fs pt lv st g) : kJ E M r g' fc fs pc lv (.int x :: st) g := by
  intro p l e s m args below meth c hF R hR PQ hEx H locs ls hl hW hS
  exact lv_lookup hF.1 hF.2.1 hd hs ho ht (k p l e s m args below meth c hF R hR PQ hEx H locs ls hl hW hS)
theorem kJ_tabOut (pt : Nat) {d lo hi : Int} {offs : Array Int} {len : Nat} {x : Int32} (hd : decode (kB M) pc = .ok (.tableswitch d lo hi offs, len)) (h : x.toInt < lo ∨ hi < x.toInt) (ht : (pc : Int) + d = (pt : Int)) (k : kJ E M r g' fc fs pt lv st g) : kJ E M r g' fc fs pc lv (.int x :: st) g := by
  intro p l e s m args below meth c hF R hR PQ hEx H locs ls hl hW hS
  exact lv_tableOut hF.1 hF.2.1 hd h ht (k p l e s m args below meth c hF R hR PQ hEx H locs ls hl hW hS)
theorem kJ_tabIn (pt : Nat) {d lo hi off : Int} {offs : Array Int} {len : Nat} {x : Int32} (hd : decode (kB M) pc = .ok (.tableswitch d lo hi offs, len)) (h1 : ¬ x.toInt < lo) (h2 : ¬ hi < x.toInt) (ho : offs[(x.toInt - lo).toNat]? = some off) (ht : (pc : Int) + off = (pt : Int)) (k : kJ E M r g' fc fs pt lv st g) : kJ E M r g' fc fs pc lv (.int x :: st) g := by
  intro p l e s m args below meth c hF R hR PQ hEx H locs ls hl hW hS
  exact lv_tableIn hF.1 hF.2.1 hd h1 h2 ho ht (k p l e s m args below meth c hF R hR PQ hEx H locs ls hl hW hS)
theorem kJ_ret (hd : decode (kB M) pc = .ok (.return_, 1)) (hr : kR M = none) (hfc : fc ≤ kMC M) (hfs : fs ≤ kMS M) : kJ E M none g fc fs pc lv [] g := by
  intro p l e s m args below meth c hF R hR PQ hEx H locs ls hl hW hS
  exact hEx H locs pc ls fc fs hW hS hfc hfs (Or.inl ⟨rfl, hr, hd⟩)
theorem kJ_iret {v : Int32} {ty : FieldType} (hd : decode (kB M) pc = .ok (.ireturn, 1)) (hr : kR M = some ty) (hn : narrow ty (.int v) = .int v) (hfc : fc ≤ kMC M) (hfs : fs ≤ kMS M) : kJ E M (some v) g fc fs pc lv [.int v] g := by
  intro p l e s m args below meth c hF R hR PQ hEx H locs ls hl hW hS
  exact hEx H locs pc ls fc fs hW hS hfc hfs (Or.inr ⟨v, ty, rfl, hr, hn, hd⟩)
end ROWS
