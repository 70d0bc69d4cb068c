/-! WORDS of the code that is read off the methods: guards, binds, lets; and their rows. -/
abbrev kx (i : Int32) : Nat := i.toNatClampNeg
/-- an index that must lie in 0 .. n - 1 -/
def kG {α : Type} (i : Int32) (n : Nat) (k : Option α) : Option α := if i < 0 ∨ n ≤ i.toNatClampNeg then none else k
theorem kG_some {α : Type} {i : Int32} {n : Nat} {k : Option α} {r : α} (h : kG i n k = some r) : vp_in i n ∧ k = some r := by
  unfold kG at h
  by_cases c : i < 0 ∨ n ≤ i.toNatClampNeg
  · rw [if_pos c] at h; cases h
  · rw [if_neg c] at h; exact ⟨c, h⟩
theorem kG_in {α : Type} {i : Int32} {n : Nat} {k : Option α} (h : vp_in i n) : kG i n k = k := if_neg h
def kCg {α : Type} (sp dp n : Int32) (n0 n1 : Nat) (k : Option α) : Option α := if sp < 0 ∨ dp < 0 ∨ n < 0 ∨ n0 < kx sp + kx n ∨ n1 < kx dp + kx n then none else k
theorem kCg_some {α : Type} {sp dp n : Int32} {n0 n1 : Nat} {k : Option α} {r : α} (h : kCg sp dp n n0 n1 k = some r) : (¬ sp < 0 ∧ ¬ dp < 0 ∧ ¬ n < 0 ∧ kx sp + kx n ≤ n0 ∧ kx dp + kx n ≤ n1) ∧ k = some r := by
  unfold kCg at h
  by_cases c : sp < 0 ∨ dp < 0 ∨ n < 0 ∨ n0 < kx sp + kx n ∨ n1 < kx dp + kx n
  · rw [if_pos c] at h; cases h
  · rw [if_neg c] at h
    refine ⟨⟨fun q => c (Or.inl q), fun q => c (Or.inr (Or.inl q)), fun q => c (Or.inr (Or.inr (Or.inl q))), ?_, ?_⟩, h⟩
    · exact Nat.not_lt.mp (fun q => c (Or.inr (Or.inr (Or.inr (Or.inl q)))))
    · exact Nat.not_lt.mp (fun q => c (Or.inr (Or.inr (Or.inr (Or.inr q)))))
def kLet {α β : Type} (a : α) (f : α → β) : β := f a
theorem kLet_e {α β : Type} {a : α} {f : α → β} {r : β} (h : kLet a f = r) : ∃ v, v = a ∧ f v = r := ⟨a, rfl, h⟩
def kBi {α β : Type} (x : Option α) (k : α → Option β) : Option β := match x with
  | none => none
  | some a => k a
theorem kBi_some {α β : Type} {x : Option α} {k : α → Option β} {r : β} (h : kBi x k = some r) : ∃ a, x = some a ∧ k a = some r := by
  cases x with
  | none => cases h
  | some a => exact ⟨a, rfl, h⟩
def kBd {α β γ : Type} (x : Option (α × β)) (k : α → β → Option γ) : Option γ := match x with
  | none => none
  | some p => k p.1 p.2
theorem kBd_some {α β γ : Type} {x : Option (α × β)} {k : α → β → Option γ} {r : γ} (h : kBd x k = some r) : ∃ a b, x = some (a, b) ∧ k a b = some r := by
  cases x with
  | none => cases h
  | some p => exact ⟨p.1, p.2, rfl, h⟩
theorem kIf_t {α : Type} {c : Prop} [Decidable c] {a b r : α} (h : (if c then a else b) = r) (hc : c) : a = r := by rw [if_pos hc] at h; exact h
theorem kIf_f {α : Type} {c : Prop} [Decidable c] {a b r : α} (h : (if c then a else b) = r) (hc : ¬ c) : b = r := by rw [if_neg hc] at h; exact h
def kB2 (b : Bool) : Int32 := match b with
  | true => 1
  | false => 0
theorem kB2_0 {b : Bool} (h : kB2 b = 0) : ¬ (b = true) := by cases b <;> first | decide | (revert h; decide)
theorem kB2_1 {b : Bool} (h : ¬ kB2 b = 0) : b = true := by cases b <;> first | rfl | exact absurd rfl h
theorem kB2_z (b : Bool) : narrow .boolean (.int (kB2 b)) = .int (kB2 b) := by cases b <;> rfl
theorem kB2_fit (b : Bool) : kFit .boolean (.int (kB2 b)) := by cases b <;> first | exact kFit_b0 | exact kFit_b1
/-- a boolean answer that is a number -/
def kRz (v : Int32) : Option Bool := if v = 0 then some false else if v = 1 then some true else none
theorem kRz_some {v : Int32} {b : Bool} (h : kRz v = some b) : v = kB2 b := by
  unfold kRz at h
  by_cases c : v = 0
  · rw [if_pos c] at h; cases h; exact c
  · rw [if_neg c] at h
    by_cases d : v = 1
    · rw [if_pos d] at h; cases h; exact d
    · rw [if_neg d] at h; cases h
def kRc (v : Int32) : Option Int32 := if narrow .char (.int v) = .int v then some v else none
theorem kRc_some {v r : Int32} (h : kRc v = some r) : v = r ∧ narrow .char (.int r) = .int r := by
  unfold kRc at h
  by_cases c : narrow .char (.int v) = .int v
  · rw [if_pos c] at h; cases h; exact ⟨rfl, c⟩
  · rw [if_neg c] at h; cases h
def kFz {α : Type} (v : Int32) (k : Option α) : Option α := if v = 0 ∨ v = 1 then k else none
theorem kFz_some {α : Type} {v : Int32} {k : Option α} {r : α} (h : kFz v k = some r) : kFit .boolean (.int v) ∧ k = some r := by
  unfold kFz at h
  by_cases c : v = 0 ∨ v = 1
  · rw [if_pos c] at h
    rcases c with rfl | rfl
    · exact ⟨kFit_b0, h⟩
    · exact ⟨kFit_b1, h⟩
  · rw [if_neg c] at h; cases h
theorem kne {x k : Int32} (n : Int) (h : ¬ x = k) (hk : k.toInt = n) : x.toInt ≠ n := fun e => h (Int32.toInt_inj.mp (e.trans hk.symm))
abbrev kUshr (x y : Int32) : Int32 := (x.toUInt32 >>> (y.toUInt32 &&& Int32.toUInt32 31)).toInt32
abbrev kLushr (x : Int64) (y : Int32) : Int64 := (x.toUInt64 >>> (y.toInt64.toUInt64 &&& Int64.toUInt64 63)).toInt64
abbrev kChar (x : Int32) : Int32 := (x.toUInt32 % 65536).toInt32
/-- turns of a loop that are allowed; every loop ends long before -/
def kFuel : Nat := 20000
def kHigh (j : Nat) : Int32 := match j with
  | 0 => 100
  | 1 => 100
  | 2 => 600
  | 3 => 6
  | _ => 1
def kFirst (j : Nat) : Int32 := match j with
  | 0 => 50
  | 1 => 34
  | 2 => 240
  | 3 => 2
  | _ => 1
def kRo (E : kE) (L : Nat) (xs : Nat → Int32) : Prop := (∀ j, j < 6 → (E.2.2.2 0).2.2 j = kFirst j) ∧ (E.2.2.2 0).2.1 = 6 ∧ (∀ j, j < 6 → (E.2.2.2 1).2.2 j = kHigh j) ∧ (E.2.2.2 1).2.1 = 6 ∧ (E.2.2.2 2).2 = (L, xs)
section ROWS
variable {E : kE} {M : kM} {r : Option Int32} {g' : List kC} {fc fs pc : Nat} {lv : kLv} {st : List Value} {g : List kC} {h : kH} {K : List Nat}
theorem kM_high (pc' : Nat) {L : Nat} {xs : Nat → Int32} {i : Int32} (hro : kRo E L xs) (hd : decode (kB M) pc = .ok (.iaload, 1)) (hin : vp_in i 6) (hp : pc + 1 = pc') (kk : kJ E M r g' fc fs pc' lv (.int (kHigh (kx i)) :: st) g) : kJ E M r g' fc fs pc lv (.int i :: .retAddr 1 :: st) g :=
  kJ_rald pc' hd (by decide) (by rw [hro.2.2.2.1]; exact hin) hp (by rw [hro.2.2.1 _ (kIn_lt hin)]; exact kk)
theorem kM_scr (pc' : Nat) {L : Nat} {xs : Nat → Int32} {i : Int32} (hro : kRo E L xs) (hd : decode (kB M) pc = .ok (.iaload, 1)) (hin : vp_in i L) (hp : pc + 1 = pc') (kk : kJ E M r g' fc fs pc' lv (.int (xs (kx i)) :: st) g) : kJ E M r g' fc fs pc lv (.int i :: .retAddr 2 :: st) g :=
  kJ_rald pc' hd (by decide) (by rw [hro.2.2.2.2]; exact hin) hp (by rw [hro.2.2.2.2]; exact kk)
theorem kM_scrl (pc' : Nat) {L : Nat} {xs : Nat → Int32} (hro : kRo E L xs) (hd : decode (kB M) pc = .ok (.arraylength, 1)) (hp : pc + 1 = pc') (kk : kJ E M r g' fc fs pc' lv (.int (Int32.ofNat L) :: st) g) : kJ E M r g' fc fs pc lv (.retAddr 2 :: st) g :=
  kJ_ralen pc' hd (by decide) hp (by rw [hro.2.2.2.2]; exact kk)
theorem kJ_sub {lv' : kLv} (ks : List Nat) (hk : lv_pick lv ks = lv') (kk : kJ E M r g' fc fs pc lv' st g) : kJ E M r g' fc fs pc lv st g := by
  subst hk
  intro p l e s m args below meth c hF R hR PQ hEx H locs ls hl hW hS
  refine kk p l e s m args below meth c hF R hR PQ hEx H locs ls ?_ hW hS
  refine lv_sub hl ks ?_
  simp [lv_pick, kTl, List.filterMap_map, List.map_filterMap, List.getElem?_map]
theorem kM_callv (pc' : Nat) (N : kM) (as : List Value) (st' : List Value) {ix n a κ : Nat} {r1 : Option Int32} {h1 : kH} (hd : decode (kB M) pc = .ok (.invokevirtual ix, 3)) (hc : kCall (kY M).cls ix N n) (hv : Cond.instanceMethod (kY N) ∈ kWG ∧ Cond.selects (kY N).cls (kY N) (kY N) ∈ kWG) (hk : kX K a κ) (hκ : (kSh κ).1 = κ ∧ κ < 10) (hci : ∃ T k, kCl[κ]? = some ((kY N).cls, T, k)) (hst : st = as.reverse ++ .ref a :: st') (hn : as.length = n) (hcat : (st'.map fun v => v.category).sum ≤ 8) (hrm : kRoom M N) (hz : kMC N = 0 ∧ kMS N = 0) (hf : fc ≤ kMC M ∧ fs ≤ kMS M) (hJ : JM E N (.ref a :: as) (mk K h) r1 (mk K h1)) (hp : pc + 3 = pc') (kk : kJ E M r g' fc fs pc' lv ((r1.map Value.int).toList ++ st') (mk K h1)) : kJ E M r g' fc fs pc lv st (mk K h) := by
  have e : kCell h a κ = (κ, (kCell h a κ).2) := Prod.ext hκ.1 rfl
  exact kJ_callv pc' N as st' (ws := (kCell h a κ).2) hd hc hv ((mk_get h hk).trans (congrArg some e)) ⟨hκ.2, hci⟩ hst hn hcat hrm (by rw [hz.1, hz.2]; exact hf) hJ hp (by rw [hz.1, hz.2]; exact kk)
theorem kM_calls (pc' : Nat) (N : kM) (as : List Value) (st' : List Value) {ix n : Nat} {r1 : Option Int32} {h1 : kH} (hd : decode (kB M) pc = .ok (.invokestatic ix, 3)) (hc : kCall (kY M).cls ix N n) (hv : Cond.static (kY N) ∈ kWG) (hst : st = as.reverse ++ st') (hn : as.length = n) (hcat : (st'.map fun v => v.category).sum ≤ 8) (hrm : kRoom M N) (hz : kMC N = 0 ∧ kMS N = 0) (hf : fc ≤ kMC M ∧ fs ≤ kMS M) (hJ : JM E N as (mk K h) r1 (mk K h1)) (hp : pc + 3 = pc') (kk : kJ E M r g' fc fs pc' lv ((r1.map Value.int).toList ++ st') (mk K h1)) : kJ E M r g' fc fs pc lv st (mk K h) :=
  kJ_calls pc' N as st' hd hc hv hst hn hcat hrm (by rw [hz.1, hz.2]; exact hf) hJ hp (by rw [hz.1, hz.2]; exact kk)
end ROWS
/-- the same as JM.of, for a method of a class of the JDK's that has entries of the machine's own -/
theorem JM.ofF {E : kE} {M : kM} {av : List Value} {g : List kC} {r : Option Int32} {g' : List kC} (hp : plainFor (kY M) = true) (hn : (lg_sl av).length ≤ kL M) (k : kJ E M r g' 0 0 0 (lv_args 0 av) [] g) : JM E M av g r g' := by
  intro l
  refine va_MetF (ws := kws M) (ws' := kWG) (cc := kB M) (maxL := kL M) (ret := kR M) hp rfl ?_
  intro p e s m args below meth c s₁ B hml hv
  obtain ⟨rfl, hE, hW⟩ := hv
  have hts := atoms_spec (ws := kws M) B.pre
  have hlk : meth.locks = false := B.notSynchronized
  have hl := lv_entry (av.map (kTv E)) (n := kL M) (by rw [lg_sl_kTv]; exact hn)
  rw [kTl_args] at hl
  rw [lg_entry_eq]
  refine k p l e s m _ below meth c ⟨B.exec, B.bytes, hml, B.returns, hlk, findClass_of_methodNamed B.named, fun w hw => hts w (List.mem_cons_of_mem _ hw), (name_of_methodNamed B.named B.method).1, hE⟩ (krm M) rfl _ ?_ s.heap [] _ hl hW va_S.rf
  intro H locs pc ls fc fs hW2 hS hfc hfs hd
  refine W.widen (k := kMC M) (n := kMS M) hfc hfs ?_
  rcases hd with ⟨rfl, hr, hd⟩ | ⟨v, ty, rfl, hr, hnw, hd⟩
  · exact W.vret B.exec B.bytes (B.returns.trans hr) (fun t ht hWt => ⟨⟨rfl, by rw [ht]; exact hW2⟩, hS.F ht⟩) (fun q hq => hS.2.2 q hq) hd
  · exact W.zret B.exec B.bytes (B.returns.trans hr) hnw (fun t ht hWt => ⟨⟨rfl, by rw [ht]; exact hW2⟩, hS.F ht⟩) (fun q hq => hS.2.2 q hq) hd
/-- a divisor -/
def kNz {α : Type} (y : Int32) (k : Option α) : Option α := if y = 0 then none else k
theorem kNz_some {α : Type} {y : Int32} {k : Option α} {r : α} (h : kNz y k = some r) : ¬ y = 0 ∧ k = some r := by
  unfold kNz at h
  by_cases c : y = 0
  · rw [if_pos c] at h; cases h
  · rw [if_neg c] at h; exact ⟨c, h⟩
abbrev kRem (x y : Int32) : Int32 := x - x / y * y
def kBt {α β γ δ : Type} (x : Option (α × β × γ)) (k : α → β → γ → Option δ) : Option δ := match x with
  | none => none
  | some p => k p.1 p.2.1 p.2.2
theorem kBt_some {α β γ δ : Type} {x : Option (α × β × γ)} {k : α → β → γ → Option δ} {r : δ} (h : kBt x k = some r) : ∃ a b c, x = some (a, b, c) ∧ k a b c = some r := by
  cases x with
  | none => cases h
  | some p => exact ⟨p.1, p.2.1, p.2.2, rfl, h⟩
section ROWS
variable {E : kE} {M : kM} {r : Option Int32} {g' : List kC} {fc fs pc : Nat} {lv : kLv} {st : List Value} {g : List kC}
theorem kJ_irem (pc' : Nat) {x y : Int32} (hd : decode (kB M) pc = .ok (.irem, 1)) (hy : ¬ y = 0) (hp : pc + 1 = pc') (k : kJ E M r g' fc fs pc' lv (.int (kRem x y) :: st) g) : kJ E M r g' fc fs pc lv (.int y :: .int x :: st) g := by
  subst hp
  intro p l e s m args below meth c hF R hR PQ hEx H locs ls hl hW hS
  exact lv_irem hF.1 hF.2.1 hd hy (k p l e s m args below meth c hF R hR PQ hEx H locs ls hl hW hS)
theorem kJ_ldc (pc' : Nat) (v : Int32) {i : Nat} (hd : decode (kB M) pc = .ok (.ldc i, 2)) (hc : Cond.constant (kY M).cls i v ∈ kWG) (hp : pc + 2 = pc') (k : kJ E M r g' fc fs pc' lv (.int v :: st) g) : kJ E M r g' fc fs pc lv st g := by
  subst hp
  intro p l e s m args below meth c hF R hR PQ hEx H locs ls hl hW hS
  have k2 := k p l e s m args below meth c hF R hR PQ hEx H locs ls hl hW hS
  obtain ⟨hx, hb, hml, hr, hlk, hown, hts, hnm, hE⟩ := hF
  exact lv_ldc hx hb hown (hts _ hc) hd k2
theorem kX_calls (pc' : Nat) (N : kM) (as : List Value) (st' : List Value) (fc' fs' : Nat) {ix n : Nat} {r1 : Option Int32} {hp0 hp1 : kH} {K K1 : List Nat} (hd : decode (kB M) pc = .ok (.invokestatic ix, 3)) (hc : kCall (kY M).cls ix N n) (hv : Cond.static (kY N) ∈ kWG) (hst : st = as.reverse ++ st') (hn : as.length = n) (hcat : (st'.map fun v => v.category).sum ≤ 8) (hrm : kRoom M N) (h1 : fc + kMC N = fc') (h2 : fs + kMS N = fs') (hfc : fc' ≤ kMC M) (hfs : fs' ≤ kMS M) (hJ : JM E N as (mk K hp0) r1 (mk K1 hp1)) (hp : pc + 3 = pc') (kk : kJ E M r g' fc' fs' pc' lv ((r1.map Value.int).toList ++ st') (mk K1 hp1)) : kJ E M r g' fc fs pc lv st (mk K hp0) := by
  subst h1 h2
  exact kJ_calls pc' N as st' hd hc hv hst hn hcat hrm ⟨hfc, hfs⟩ hJ hp kk
end ROWS
