/-! THE FRAME: a small machine over lists of cells. A cell: its class's number (below 10) or 10 int[], 11 char[], 12 boolean[], 13 Item[], 14 Committee[]; its values. A reference is a cell's place in the list; 'retAddr k' stands for the read-only array k (0, 1: the two static ones, 2: the script). kJ: a frame at pc comes to the method's end with r and the cells g'. JM: a method's contract. -/
abbrev kE : Type := Nat × va_G × (Nat → ClassId) × (Nat → Nat × Nat × (Nat → Int32))
abbrev kC : Type := Nat × List Value
abbrev kM : Type := MethodName × ByteArray × Nat × Option FieldType × Nat × Nat × Nat × Nat
def kTv (E : kE) (v : Value) : Value := match v with
  | .ref i => .ref (E.1 + i)
  | .retAddr k => .ref (E.2.2.2 k).1
  | .int x => .int x
  | .long x => .long x
  | .float x => .float x
  | .double x => .double x
  | .null => .null
theorem kTv_cat (E : kE) (v : Value) : (kTv E v).category = v.category := by cases v <;> rfl
def kInt (v : Value) : Int32 := match v with
  | .int x => x
  | _ => 0
def kRef (E : kE) (v : Value) : Option Nat := match v with
  | .ref i => some (E.1 + i)
  | _ => none
def kTc (E : kE) (c : kC) : va_E := if c.1 < 10 then .inr (c.1, c.2.map (kTv E)) else if c.1 < 13 then .inl (E.2.2.1 (c.1 - 10), c.2.length, .inl (fun j => kInt (c.2.getD j .null))) else .inl (E.2.2.1 (c.1 - 10), c.2.length, .inr (.inr (.inr (.inr (fun j => kRef E (c.2.getD j .null))))))
def kWs (E : kE) (g : List kC) : va_W := g.mapIdx (fun i c => (E.1 + i, kTc E c))
theorem kWs_get (E : kE) (g : List kC) (i : Nat) : (kWs E g)[i]? = g[i]?.map (fun c => (E.1 + i, kTc E c)) := by
  simp [kWs, List.getElem?_mapIdx]
theorem kWs_at {E : kE} {g : List kC} {i : Nat} {c : kC} (h : g[i]? = some c) : (kWs E g)[i]? = some (E.1 + i, kTc E c) := by
  rw [kWs_get, h]; rfl
theorem kWs_set {E : kE} {g : List kC} {i : Nat} {c c0 : kC} (h : g[i]? = some c0) : kWs E (g.set i c) = (kWs E g).set i (E.1 + i, kTc E c) := by
  apply List.ext_getElem?
  intro j
  have hl : i < g.length := (List.getElem?_eq_some_iff.mp h).1
  rw [kWs_get, List.getElem?_set, List.getElem?_set]
  by_cases hj : i = j
  · subst hj
    have hl2 : i < (kWs E g).length := by simp [kWs, hl]
    simp [hl, hl2]
  · simp [hj, kWs_get]
theorem kWs_push (E : kE) (g : List kC) (c : kC) : kWs E (g ++ [c]) = kWs E g ++ [(E.1 + g.length, kTc E c)] := by
  simp [kWs]
abbrev kA (E : kE) : Nat → Prop := fun q => E.1 ≤ q
theorem kWs_D (E : kE) (g : List kC) : va_D (kA E) (kWs E g) := by
  have key : ∀ (k : Nat) (q : Nat × va_E), (kWs E g)[k]? = some q → q.1 = E.1 + k := by
    intro k q h
    rw [kWs_get] at h
    cases hc : g[k]? with
    | none => rw [hc] at h; cases h
    | some c => rw [hc] at h; cases h; rfl
  refine ⟨fun i j p q hp hq e => ?_, fun k q h => ?_⟩
  · rw [key i p hp, key j q hq] at e
    omega
  · show E.1 ≤ q.1
    rw [key k q h]
    omega
abbrev kCl : List vw_C := [(RX0, TX0, 11), (RX1, TX1, 3), (RX2, TX2, 3), (RX3, TX3, 10), (RX4, TX4, 4), (RX5, TX5, 7), (RX6, TX6, 9)]
def kTys (E : kE) : List (ClassId × FieldType) := [(E.2.2.1 0, .int), (E.2.2.1 1, .char), (E.2.2.1 2, .boolean), (E.2.2.1 3, .object RX3), (E.2.2.1 4, .object RX0)]
def kWG : List Cond := lw_tbl.filter goodWord
def kIsNest (w : Cond) : Bool := match w with
  | .fieldLinkNest .. => true
  | .methodLinkNest .. => true
  | _ => false
def kNest : List Cond := lw_tbl.filter kIsNest
/-- what holds of the tables and of the read-only arrays at a method's entry -/
def kEnv (E : kE) (U : State) : Prop := va_K E.2.1 kCl (kTys E) U ∧ (∀ w ∈ kNest, va_Nw w U) ∧ (va_AO RX3 U ∧ va_AO RX0 U) ∧ (∀ k, k < 3 → va_X (E.2.2.2 k).1 (E.2.2.2 k).2.1 (E.2.2.2 k).2.2 U U.heap ∧ (E.2.2.2 k).1 < E.1) ∧ (va_Z RX6 "FIRST_VALUES" "[I" (.ref (E.2.2.2 0).1) (kA E) U U.heap ∧ va_Z RX6 "HIGHEST_VALUES" "[I" (.ref (E.2.2.2 1).1) (kA E) U U.heap) ∧ E.1 ≤ U.heap.size
theorem kNest_is {w : Cond} (h : w ∈ kNest) : kIsNest w = true := (List.mem_filter.mp h).2
theorem kEnv.moved {E : kE} {u U : State} (h : kEnv E u) (hal : u.vm.Alike U.vm) (hn : ∀ w ∈ kNest, va_Nw w u → va_Nw w U) (hz : u.heap.size ≤ U.heap.size) (hk : ∀ q : Nat, q < u.heap.size → ¬ kA E q → U.heap[q]? = u.heap[q]?) : kEnv E U := by
  obtain ⟨h1, h2, h3, h4, h5, h6⟩ := h
  refine ⟨va_K.moved hal h1, fun w hw => hn w hw (h2 w hw), ⟨h3.1.moved hal, h3.2.moved hal⟩, fun k hk3 => ?_, ⟨?_, ?_⟩, Nat.le_trans h6 hz⟩
  · obtain ⟨a, b⟩ := h4 k hk3
    exact ⟨(a.moved hal).kept (hk _ (Nat.lt_of_lt_of_le b h6) (Nat.not_le.mpr b)), b⟩
  · exact (h5.1.moved hal).kept (fun a ha hb => hk a ha hb)
  · exact (h5.2.moved hal).kept (fun a ha hb => hk a ha hb)
theorem kNw_warm {w : Cond} (hw : w ∈ kNest) {s U : State} (hW : s.WarmedH U.vm) (h : va_Nw w s) : va_Nw w U := by
  have hn := kNest_is hw
  cases w <;> first | exact va_Nw.warmF hW h | exact va_Nw.warmM hW h | (simp [kIsNest] at hn)
theorem kNw_same {w : Cond} (hw : w ∈ kNest) {u U : State} (e : u.vm = U.vm) (h : va_Nw w u) : va_Nw w U := by
  have hn := kNest_is hw
  cases w <;> first | exact va_Nw.same rfl e h | (simp [kIsNest] at hn)
theorem kEnv.warm {E : kE} {s U : State} {locs : List Loc} (h : kEnv E s) (hW : s.WarmedH U.vm) (hS : va_S (kA E) s.heap U.heap locs) : kEnv E U :=
  h.moved hW.alike (fun _ hw hn => kNw_warm hw hW hn) hS.1 (fun q h1 h2 => hS.2.1 q h1 h2)
theorem kEnv.same {E : kE} {u U : State} (h : kEnv E u) (e : u.vm = U.vm) (eh : u.heap = U.heap) : kEnv E U :=
  h.moved (by rw [e]; exact Vm.Alike.refl U.vm) (fun _ hw hn => kNw_same hw e hn) (by rw [eh]; exact Nat.le_refl _) (fun q _ _ => by rw [eh])
/-- the cells of the heap -/
def kW (E : kE) (g : List kC) (H : Heap) : Prop := va_P E.2.1 kCl (kWs E g) H ∧ H.size = E.1 + g.length
theorem kW.put {E : kE} {g : List kC} {i : Nat} {c0 c : kC} {H H1 : Heap} (h : kW E g H) (hi : g[i]? = some c0) (z : H1.size = H.size) (oq : ∀ q : Nat, q ≠ E.1 + i → H1[q]? = H[q]?) (hc : va_at E.2.1 kCl (E.1 + i, kTc E c) H1) : kW E (g.set i c) H1 := by
  refine ⟨?_, by rw [z, h.2, List.length_set]⟩
  rw [kWs_set hi]
  exact h.1.set (kWs_D E g) (kWs_at hi) hc oq
theorem kW.push {E : kE} {g : List kC} {c : kC} {H H1 : Heap} (h : kW E g H) (z : H1.size = H.size + 1) (oq : ∀ q : Nat, q < H.size → H1[q]? = H[q]?) (hc : va_at E.2.1 kCl (H.size, kTc E c) H1) : kW E (g ++ [c]) H1 := by
  refine ⟨?_, by rw [z, h.2, List.length_append]; rfl⟩
  rw [kWs_push, ← h.2]
  refine (h.1.kept (fun k x hx => oq x.1 ((h.1 k x hx).lt))).app (fun k x hx => ?_)
  have hz : k < 1 := (List.getElem?_eq_some_iff.mp hx).1
  rw [show k = 0 by omega] at hx
  cases hx
  exact hc
abbrev kY (M : kM) : MethodName := M.1
abbrev kB (M : kM) : ByteArray := M.2.1
abbrev kL (M : kM) : Nat := M.2.2.1
abbrev kR (M : kM) : Option FieldType := M.2.2.2.1
abbrev kMC (M : kM) : Nat := M.2.2.2.2.2.1
abbrev kMS (M : kM) : Nat := M.2.2.2.2.2.2.1
abbrev krm (M : kM) : Room := { frames := M.2.2.2.2.1, cells := M.2.2.2.2.2.1, slots := M.2.2.2.2.2.2.1, locals := M.2.2.2.2.2.2.2 }
def kws (M : kM) : List Cond := .code (kY M) (kB M) (kL M) (kR M) :: kWG
def kPre (E : kE) (g : List kC) (av : List Value) : Array Value → State → Prop := va_Pc (av.map (kTv E)) (fun U => kEnv E U ∧ kW E g U.heap)
def kPost (E : kE) (r : Option Int32) (g' : List kC) : Array Value → State → Outcome → State → Prop := fun _ st oc t => (oc = .returned (r.map Value.int) ∧ kW E g' t.heap) ∧ va_F (kA E) st t
/-- a method's contract: called with av over the cells g, it returns r and leaves the cells g' -/
def JM (E : kE) (M : kM) (av : List Value) (g : List kC) (r : Option Int32) (g' : List kC) : Prop := ∀ l : Launch, Met l (kY M) (kws M) (krm M) (kPre E g av) (kPost E r g') (kMC M) (kMS M) (kA E)
theorem kPre_blind (E : kE) (g : List kC) (av : List Value) : FrameBlind (kPre E g av) := by
  intro a U f mk h
  obtain ⟨h1, h2, h3⟩ := h
  exact ⟨h1, h2.same rfl rfl, h3⟩
def kFr (E : kE) (M : kM) (p : Program) (s : State) (m : MethodId) (args : Array Value) (meth : Method) (c : Code) : Prop :=
  p.tables.exec = Jvm.exec ∧ c.code = kB M ∧ c.maxLocals = kL M ∧ meth.sig.returnType = kR M ∧ meth.locks = false ∧ s.vm.findClass (kY M).cls = some m.cls ∧ (∀ w ∈ kWG, w.before args s = true) ∧ meth.name = (kY M).name ∧ kEnv E s
def kEx (E : kE) (M : kM) (r : Option Int32) (g' : List kC) (p : Program) (l : Launch) (e : Env) (R : Room) (s : State) (m : MethodId) (args : Array Value) (below : List Frame) (meth : Method) (c : Code) (PQ : State → Prop) : Prop :=
  ∀ (H : Heap) (locs : List Loc) (pc : Nat) (ls : Array Slot) (fc fs : Nat), kW E g' H → va_S (kA E) s.heap H locs → fc ≤ kMC M → fs ≤ kMS M → ((r = none ∧ kR M = none ∧ decode (kB M) pc = .ok (.return_, 1)) ∨ (∃ v ty, r = some v ∧ kR M = some ty ∧ narrow ty (.int v) = .int v ∧ decode (kB M) pc = .ok (.ireturn, 1))) →
    W p l e R s m args below meth c H locs fc fs PQ (F0 m pc ls (r.map Value.int).toList)
abbrev kLv : Type := List (Nat × Value)
def kTl (E : kE) (lv : kLv) : kLv := lv.map (fun q => (q.1, kTv E q.2))
/-- a frame of the method M, at pc, comes to its end with r and the cells g' -/
def kJ (E : kE) (M : kM) (r : Option Int32) (g' : List kC) (fc fs pc : Nat) (lv : kLv) (st : List Value) (g : List kC) : Prop :=
  ∀ (p : Program) (l : Launch) (e : Env) (s : State) (m : MethodId) (args : Array Value) (below : List Frame) (meth : Method) (c : Code), kFr E M p s m args meth c →
  ∀ (R : Room), R = krm M → ∀ (PQ : State → Prop), kEx E M r g' p l e R s m args below meth c PQ →
  ∀ (H : Heap) (locs : List Loc) (ls : Array Slot), lv_has ls (kL M) (kTl E lv) → kW E g H → va_S (kA E) s.heap H locs →
  W p l e R s m args below meth c H locs fc fs PQ (F0 m pc ls (st.map (kTv E)))
theorem kTl_args (E : kE) : ∀ (i : Nat) (av : List Value), lv_args i (av.map (kTv E)) = kTl E (lv_args i av)
  | _, [] => rfl
  | i, v :: vs => by
    simp only [List.map_cons, lv_args, kTl, kTv_cat]
    rw [kTl_args E]
    rfl
theorem lg_sl_kTv (E : kE) (av : List Value) : (lg_sl (av.map (kTv E))).length = (lg_sl av).length := by
  induction av with
  | nil => rfl
  | cons v vs ih => cases v <;> simp_all [lg_sl, kTv, Value.category]
theorem JM.of {E : kE} {M : kM} {av : List Value} {g : List kC} {r : Option Int32} {g' : List kC} (hp : plainName (kY M).cls = true) (hn : (lg_sl av).length ≤ kL M) (k : kJ E M r g' 0 0 0 (lv_args 0 av) [] g) : JM E M av g r g' := by
  intro l
  refine Met.ofW (ws := kws M) (ws' := kWG) (cc := kB M) (maxL := kL M) (ret := kR M) hp rfl ?_
  intro p e s m args below meth c s₁ B hml hv
  obtain ⟨rfl, hE, hW⟩ := hv
  have hts := atoms_spec (ws := kws M) B.pre
  have hlk : meth.locks = false := B.notSynchronized
  have hl := lv_entry (av.map (kTv E)) (n := kL M) (by rw [lg_sl_kTv]; exact hn)
  rw [kTl_args] at hl
  rw [lg_entry_eq]
  refine k p l e s m _ below meth c ⟨B.exec, B.bytes, hml, B.returns, hlk, findClass_of_methodNamed B.named, fun w hw => hts w (List.mem_cons_of_mem _ hw), (name_of_methodNamed B.named B.method).1, hE⟩ (krm M) rfl _ ?_ s.heap [] _ hl hW va_S.rf
  intro H locs pc ls fc fs hW2 hS hfc hfs hd
  refine W.widen (k := kMC M) (n := kMS M) hfc hfs ?_
  rcases hd with ⟨rfl, hr, hd⟩ | ⟨v, ty, rfl, hr, hnw, hd⟩
  · exact W.vret B.exec B.bytes (B.returns.trans hr) (fun t ht hWt => ⟨⟨rfl, by rw [ht]; exact hW2⟩, hS.F ht⟩) (fun q hq => hS.2.2 q hq) hd
  · exact W.zret B.exec B.bytes (B.returns.trans hr) hnw (fun t ht hWt => ⟨⟨rfl, by rw [ht]; exact hW2⟩, hS.F ht⟩) (fun q hq => hS.2.2 q hq) hd
