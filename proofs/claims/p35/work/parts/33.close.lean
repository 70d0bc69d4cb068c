/-! PURE: opening and closing. -/
/-- what the voices of an item hang on -/
def Same (T T' : kT) (i : Nat) : Prop := T' 0 = T 0 ∧ T' 1 = T 1 ∧ T' 2 i 1 = T 2 i 1 ∧ T' 2 i 11 = T 2 i 11 ∧ T' 3 i = T 3 i
section
variable {T T' : kT} {i : Nat}
theorem Same.rec (S : Same T T' i) (m : Nat) : sRec T' i m = sRec T i m := by
  obtain ⟨a0, a1, a2, a3, a4⟩ := S
  unfold sRec
  rw [a1, a2, a3]
theorem Same.hol (S : Same T T' i) (m : Nat) : sHol T' i m = sHol T i m := by
  obtain ⟨a0, a1, a2, a3, a4⟩ := S
  unfold sHol
  rw [a1, a4]
theorem Same.end (S : Same T T' i) : ∀ (k m : Nat), sEnd T' i k m = sEnd T i k m
  | 0, _ => rfl
  | k + 1, m => by
    rw [sEnd, sEnd, S.hol, ps_cong S.2.1, S.rec, Same.end S k]
theorem Same.step (S : Same T T' i) (v : Nat → Int32) (k : Nat) : sStep T' i v k = sStep T i v k := by
  unfold sStep sCnt sSteps
  rw [S.rec, ps_cong S.2.1, S.end, S.1]
theorem Same.vo (S : Same T T' i) : ∀ (k m : Nat), sVo T' i k m = sVo T i k m
  | 0, _ => rfl
  | k + 1, m => by
    have e : sVo T' i k = sVo T i k := funext (Same.vo S k)
    rw [sVo, sVo, e, S.step]
theorem Same.v (S : Same T T' i) (nm : Nat) : sV T' i nm = sV T i nm := funext (S.vo nm)
theorem Same.thr (S : Same T T' i) (nm : Nat) : ∀ k, sThr T' i nm k = sThr T i nm k := by
  intro k
  unfold sThr
  rw [ps_cong S.2.1, S.v, S.2.1]
end
theorem thr_n {T : kT} {nm ni nv : Nat} (I : Iv T nm ni nv) (i : Nat) : ∀ k, k ≤ nm → ∃ n, n ≤ 9 * k ∧ sThr T i nm k = nI n := by
  have hn := I.n
  intro k
  induction k with
  | zero => intro _; exact ⟨0, by omega, rfl⟩
  | succ k ih =>
    intro hk
    obtain ⟨n, n1, n2⟩ := ih (by omega)
    obtain ⟨⟨w, w1, w2, w3⟩, _⟩ := (I.m (show k < 12 by omega)).2.2.2.1 (by omega)
    have es : sThr T i nm (k + 1) = sThr T i nm k + (if ps T k = true then T 1 k 0 else if sV T i nm k = -6 then 0 else T 1 k 0) := rfl
    rw [es, n2, w3]
    split
    · exact ⟨n + w, by omega, by rw [nI_add]⟩
    · split
      · exact ⟨n, by omega, Int32.add_zero _⟩
      · exact ⟨n + w, by omega, by rw [nI_add]⟩
theorem CFe.com {h h' : kH} {T : kT} {nm ni nv : Nat} (x : CFe h h') (C : Com h 1 T nm ni nv) (hn : ni ≤ 12) : Com h' 1 T nm ni nv := C.cong hn fun a a1 a2 => x a (by omega) (by omega) (by omega)
/-- an item's six sums laid down -/
def tSum (T : kT) (i : Nat) (s : Nat → Int32) : kT := fun a b c => if a = 2 ∧ b = i ∧ 3 ≤ c ∧ c < 9 then s (c - 3) else T a b c
/-- an item put off: its votes gone -/
def tOff (T : kT) (i k : Nat) : kT := fun a b c => if a = 4 ∧ b = i ∧ c < k then -6 else T a b c
theorem tSum_o (T : kT) (i : Nat) (s : Nat → Int32) {a : Nat} (h : a ≠ 2) : tSum T i s a = T a := by
  funext b c
  exact if_neg (fun z => h z.1)
theorem tSum_ne (T : kT) (i : Nat) (s : Nat → Int32) {b c : Nat} (h : b ≠ i ∨ c < 3 ∨ 9 ≤ c) : tSum T i s 2 b c = T 2 b c := if_neg (by omega)
theorem tSum_in (T : kT) (i : Nat) (s : Nat → Int32) {k : Nat} (h : k < 6) : tSum T i s 2 i (3 + k) = s k := by
  unfold tSum
  rw [if_pos (by omega), show 3 + k - 3 = k by omega]
theorem tOff_o (T : kT) (i k : Nat) {a : Nat} (h : a ≠ 4) : tOff T i k a = T a := by
  funext b c
  exact if_neg (fun z => h z.1)
theorem Iv.sums {T : kT} {nm ni nv i : Nat} (I : Iv T nm ni nv) (hi : i < ni) (s : Nat → Int32) : Iv (tSum T i s) nm ni nv := by
  refine I.of2 (fun a q => tSum_o T _ _ q) (fun j => tSum_ne _ _ _ (by omega)) (fun j hj => ?_) (fun j hj => ?_)
  · by_cases q : j = i
    · obtain ⟨b1, b2, b3, b4, b5⟩ := I.i1 hj
      rw [q] at b1 b2 b3 b4 b5 ⊢
      unfold iI1
      rw [tSum_ne _ _ _ (c := 0) (by omega), tSum_ne _ _ _ (c := 1) (by omega), tSum_ne _ _ _ (c := 2) (by omega), tSum_ne _ _ _ (c := 11) (by omega), tSum_ne _ _ _ (c := 9) (by omega), tSum_ne _ _ _ (c := 10) (by omega)]
      exact ⟨b1, b2, b3, b4, fun z => by omega⟩
    · exact (I.i1 hj).cong (by funext k; exact tSum_ne _ _ _ (by omega))
  · unfold iB
    rw [tSum_ne _ _ _ (c := 9) (by omega), tSum_ne _ _ _ (c := 2) (by omega)]
    exact I.b hj
theorem Iv.off {T : kT} {nm ni nv i : Nat} (I : Iv T nm ni nv) (hi : i < ni) (k : Nat) : Iv (tOff T i k) nm ni nv := by
  refine I.of3 (fun a _ a1 _ => tOff_o T _ _ a1) (fun i' h' m' hm' => ?_)
  obtain ⟨b1, b2, b3, b4⟩ := I.i2 h' m' hm'
  rw [tOff_o T i k (show 3 ≠ 4 by decide), tOff_o T i k (show 5 ≠ 4 by decide)]
  unfold tOff
  by_cases q : 4 = 4 ∧ i' = i ∧ m' < k
  · rw [if_pos q]
    exact ⟨b1, Or.inl rfl, b3, fun z => by omega⟩
  · rw [if_neg q]
    exact ⟨b1, b2, b3, b4⟩
theorem Iv.put {T : kT} {nm ni nv i : Nat} (I : Iv T nm ni nv) (hi : i < ni) (v : Int32) : Iv (ts T 2 i 10 v) nm ni nv := by
  refine I.of2 (fun a q => ts_o T _ q) (fun j => ts_ne _ _ (by omega)) (fun j hj => ?_) (fun j hj => ?_)
  · by_cases q : j = i
    · obtain ⟨b1, b2, b3, b4, b5⟩ := I.i1 hj
      rw [q] at b1 b2 b3 b4 b5 ⊢
      unfold iI1
      rw [ts_ne T (c' := 0) _ (by omega), ts_ne T (c' := 1) _ (by omega), ts_eq, ts_ne T (c' := 2) _ (by omega), ts_ne T (c' := 9) _ (by omega), ts_ne T (c' := 11) _ (by omega)]
      exact ⟨b1, b2, b3, b4, fun z => by omega⟩
    · exact (I.i1 hj).cong (by funext k; exact ts_ne _ _ (by omega))
  · unfold iB
    rw [ts_ne T (c' := 9) _ (by omega), ts_ne T (c' := 2) _ (by omega)]
    exact I.b hj
theorem Com.sums {h h' : kH} {T : kT} {nm ni nv i : Nat} (C : Com h 1 T nm ni nv) (hn : ni ≤ 12) (hi : i < ni) (s : Nat → Int32) (o : ∀ a, a ≠ 12 + 5 * i → h' a = h a) (e : ∀ k, k < 6 → h' (12 + 5 * i) k = s k) : Com h' 1 (tSum T i s) nm ni nv := by
  refine C.item hn hi ?_ (fun a a1 a2 a3 => o a (by omega)) (tSum_o _ _ _ (by decide)) (fun j => ⟨rfl, rfl, rfl, rfl⟩) (tSum_o _ _ _ (by decide)) (fun i' j q => ⟨tSum_ne _ _ _ (by omega), rfl, rfl, rfl⟩)
  obtain ⟨a1, a2, a3, a4, a5, a6, a7, a8⟩ := C.f i hi
  unfold cI
  rw [tSum_ne _ _ _ (c := 0) (by omega), tSum_ne _ _ _ (c := 1) (by omega), tSum_ne _ _ _ (c := 2) (by omega), tSum_ne _ _ _ (c := 11) (by omega), tSum_ne _ _ _ (c := 9) (by omega), tSum_ne _ _ _ (c := 10) (by omega), o (1 + 10 + 5 * i) (by omega), o (1 + 10 + 5 * i + 2) (by omega), o (1 + 10 + 5 * i + 3) (by omega), o (1 + 10 + 5 * i + 4) (by omega), tSum_o _ _ _ (show 3 ≠ 2 by decide), tSum_o _ _ _ (show 4 ≠ 2 by decide), tSum_o _ _ _ (show 5 ≠ 2 by decide)]
  refine ⟨a1, a2, a3, a4, a5, a6, fun k hk => ?_, a8⟩
  rw [tSum_in _ _ _ hk, show 1 + 10 + 5 * i + 1 = 12 + 5 * i by omega]
  exact e k hk
theorem Com.off {h h' : kH} {T : kT} {nm ni nv i : Nat} (C : Com h 1 T nm ni nv) (hn : ni ≤ 12) (hi : i < ni) (o : ∀ a, a ≠ 13 + 5 * i → h' a = h a) (e : ∀ m, m < 12 → h' (13 + 5 * i) m = -6) : Com h' 1 (tOff T i 12) nm ni nv := by
  refine C.item hn hi ?_ (fun a a1 a2 a3 => o a (by omega)) (tOff_o _ _ _ (by decide)) (fun j => ⟨rfl, rfl, rfl, rfl⟩) (tOff_o _ _ _ (by decide)) (fun i' j q => ⟨rfl, rfl, if_neg (by omega), rfl⟩)
  obtain ⟨a1, a2, a3, a4, a5, a6, a7, a8⟩ := C.f i hi
  unfold cI
  rw [o (1 + 10 + 5 * i) (by omega), o (1 + 10 + 5 * i + 1) (by omega), o (1 + 10 + 5 * i + 3) (by omega), o (1 + 10 + 5 * i + 4) (by omega), tOff_o _ _ _ (show 2 ≠ 4 by decide), tOff_o _ _ _ (show 3 ≠ 4 by decide), tOff_o _ _ _ (show 5 ≠ 4 by decide)]
  refine ⟨a1, a2, a3, a4, a5, a6, a7, fun m hm => ⟨?_, (a8 m hm).2.1, (a8 m hm).2.2⟩⟩
  rw [show 1 + 10 + 5 * i + 2 = 13 + 5 * i by omega, e m hm]
  exact (if_pos (by omega)).symm
theorem sOut_n (T : kT) (i : Nat) (y a z : Int32) : ∃ n, 2 ≤ n ∧ n ≤ 4 ∧ sOut T i y a z = nI n := by
  unfold sOut
  repeat' split
  all_goals first | exact ⟨2, by decide, by decide, rfl⟩ | exact ⟨3, by decide, by decide, rfl⟩ | exact ⟨4, by decide, by decide, rfl⟩
