/-! PURE: changes of the state, of the reference's row, of the class's committee; the reference's record. -/
theorem ts_eq (T : kT) (a b c : Nat) (v : Int32) : ts T a b c v a b c = v := if_pos ⟨rfl, rfl, rfl⟩
theorem ts_ne (T : kT) {a b c a' b' c' : Nat} (v : Int32) (h : ¬ (a' = a ∧ b' = b ∧ c' = c)) : ts T a b c v a' b' c' = T a' b' c' := if_neg h
theorem ts_o (T : kT) {a b c a' : Nat} (v : Int32) (h : a' ≠ a) : ts T a b c v a' = T a' := by
  funext b' c'
  exact if_neg fun z => h z.1
/-- one place of a row changed -/
def ru (r : Nat → Int32) (k : Nat) (v : Int32) : Nat → Int32 := fun x => if x = k then v else r x
theorem ru_eq (r : Nat → Int32) (k : Nat) (v : Int32) : ru r k v k = v := if_pos rfl
theorem ru_ne (r : Nat → Int32) {k j : Nat} (v : Int32) (h : j ≠ k) : ru r k v j = r j := if_neg h
theorem hs_ru (h : kH) (a k : Nat) (v : Int32) : hset h a k v a = ru (h a) k v := by
  funext j
  unfold hset ru
  simp

abbrev cA (h : kH) (c : Nat) (T : kT) (nm : Nat) : Prop := h c 0 = T 0 6 0 ∧ h c 1 = T 0 7 0 ∧ h c 2 = T 0 8 0 ∧ h c 3 = nI (msk (ps T) nm) ∧ h c 4 = T 0 9 0 ∧ h (c + 6) 0 = T 0 10 0
abbrev cB (h : kH) (c : Nat) (T : kT) : Prop := ∀ k, k < 6 → h (c + 1) k = T 0 k 0
abbrev cD (h : kH) (c : Nat) (T : kT) (nm : Nat) : Prop := ∀ m, m < nm → h (c + 2) m = T 1 m 0 ∧ h (c + 3) m = T 1 m 1 ∧ h (c + 4) m = T 1 m 3
abbrev cI (h : kH) (c : Nat) (T : kT) (i : Nat) : Prop := h (c + 10 + 5 * i) 0 = T 2 i 0 ∧ h (c + 10 + 5 * i) 1 = T 2 i 1 ∧ h (c + 10 + 5 * i) 2 = T 2 i 2 ∧ h (c + 10 + 5 * i) 3 = T 2 i 11 ∧ h (c + 10 + 5 * i) 4 = T 2 i 9 ∧ h (c + 10 + 5 * i) 5 = T 2 i 10 ∧
    (∀ k, k < 6 → h (c + 10 + 5 * i + 1) k = T 2 i (3 + k)) ∧ ∀ m, m < 12 → h (c + 10 + 5 * i + 2) m = T 4 i m ∧ h (c + 10 + 5 * i + 3) m = T 5 i m ∧ h (c + 10 + 5 * i + 4) m = T 3 i m
abbrev cF (h : kH) (c : Nat) (T : kT) (ni : Nat) : Prop := ∀ i, i < ni → cI h c T i
abbrev cG (h : kH) (c : Nat) (T : kT) (nv : Nat) : Prop := ∀ k, k < nv → h (c + 7) k = T 6 k 0 ∧ h (c + 8) k = T 6 k 1 ∧ h (c + 9) k = T 6 k 2
theorem Com.of {h : kH} {c : Nat} {T : kT} {nm ni nv : Nat} (a : cA h c T nm) (b : cB h c T) (d : cD h c T nm) (f : cF h c T ni) (g : cG h c T nv) : Com h c T nm ni nv := ⟨a, b, d, f, g⟩
section
variable {h h' : kH} {c : Nat} {T T' : kT} {nm ni nv : Nat}
theorem Com.a (C : Com h c T nm ni nv) : cA h c T nm := C.1
theorem Com.b (C : Com h c T nm ni nv) : cB h c T := C.2.1
theorem Com.d (C : Com h c T nm ni nv) : cD h c T nm := C.2.2.1
theorem Com.f (C : Com h c T nm ni nv) : cF h c T ni := C.2.2.2.1
theorem Com.g (C : Com h c T nm ni nv) : cG h c T nv := C.2.2.2.2
theorem ps_cong (t : T' 1 = T 1) : ps T' = ps T := by
  funext m
  unfold ps
  rw [t]
theorem cA.cong (x : cA h c T nm) (e : h' c = h c) (e6 : h' (c + 6) = h (c + 6)) (t : T' 0 = T 0) (t1 : T' 1 = T 1) : cA h' c T' nm := by
  unfold cA
  rw [e, e6, t, ps_cong t1]
  exact x
theorem cB.cong (x : cB h c T) (e : h' (c + 1) = h (c + 1)) (t : ∀ k, k < 6 → T' 0 k 0 = T 0 k 0) : cB h' c T' := fun k hk => by rw [e, t k hk]; exact x k hk
theorem cD.cong (x : cD h c T nm) (e2 : h' (c + 2) = h (c + 2)) (e3 : h' (c + 3) = h (c + 3)) (e4 : h' (c + 4) = h (c + 4)) (t : ∀ m, m < nm → T' 1 m 0 = T 1 m 0 ∧ T' 1 m 1 = T 1 m 1 ∧ T' 1 m 3 = T 1 m 3) : cD h' c T' nm := fun m hm => by
  rw [e2, e3, e4, (t m hm).1, (t m hm).2.1, (t m hm).2.2]; exact x m hm
theorem cI.cong {i : Nat} (x : cI h c T i) (e : ∀ d, d < 5 → h' (c + 10 + 5 * i + d) = h (c + 10 + 5 * i + d)) (t : ∀ j, T' 2 i j = T 2 i j) (t3 : ∀ m, T' 3 i m = T 3 i m) (t4 : ∀ m, T' 4 i m = T 4 i m) (t5 : ∀ m, T' 5 i m = T 5 i m) : cI h' c T' i := by
  unfold cI
  have e0 := e 0 (by decide)
  rw [Nat.add_zero] at e0
  simp only [e0, e 1 (by decide), e 2 (by decide), e 3 (by decide), e 4 (by decide), t, t3, t4, t5]
  exact x
theorem cF.cong (x : cF h c T ni) (e : ∀ i d, i < ni → d < 5 → h' (c + 10 + 5 * i + d) = h (c + 10 + 5 * i + d)) (t : T' 2 = T 2) (t3 : T' 3 = T 3) (t4 : T' 4 = T 4) (t5 : T' 5 = T 5) : cF h' c T' ni :=
  fun i hi => cI.cong (x i hi) (fun d hd => e i d hi hd) (fun j => by rw [t]) (fun j => by rw [t3]) (fun j => by rw [t4]) (fun j => by rw [t5])
/-- all items but one stay -/
theorem cF.one {i : Nat} (x : cF h c T ni) (y : cI h' c T' i) (e : ∀ i' d, i' < ni → i' ≠ i → d < 5 → h' (c + 10 + 5 * i' + d) = h (c + 10 + 5 * i' + d)) (t : ∀ i' j, i' ≠ i → T' 2 i' j = T 2 i' j ∧ T' 3 i' j = T 3 i' j ∧ T' 4 i' j = T 4 i' j ∧ T' 5 i' j = T 5 i' j) : cF h' c T' ni :=
  fun i' hi => if q : i' = i then by rw [q]; exact y else cI.cong (x i' hi) (fun d hd => e i' d hi q hd) (fun j => (t i' j q).1) (fun j => (t i' j q).2.1) (fun j => (t i' j q).2.2.1) (fun j => (t i' j q).2.2.2)
theorem cG.cong (x : cG h c T nv) (e7 : h' (c + 7) = h (c + 7)) (e8 : h' (c + 8) = h (c + 8)) (e9 : h' (c + 9) = h (c + 9)) (t : T' 6 = T 6) : cG h' c T' nv := fun k hk => by rw [e7, e8, e9, t]; exact x k hk
/-- an item's own changes: the rest stays -/
theorem Com.item (C : Com h c T nm ni nv) {i : Nat} (hn : ni ≤ 12) (hi : i < ni) (y : cI h' c T' i) (e : ∀ a, (a < c + 10 + 5 * i ∨ c + 10 + 5 * i + 5 ≤ a) → a < c + 70 → c ≤ a → h' a = h a) (t0 : T' 0 = T 0) (t1 : ∀ m, T' 1 m 0 = T 1 m 0 ∧ T' 1 m 1 = T 1 m 1 ∧ T' 1 m 2 = T 1 m 2 ∧ T' 1 m 3 = T 1 m 3) (t6 : T' 6 = T 6)
    (t : ∀ i' j, i' ≠ i → T' 2 i' j = T 2 i' j ∧ T' 3 i' j = T 3 i' j ∧ T' 4 i' j = T 4 i' j ∧ T' 5 i' j = T 5 i' j) : Com h' c T' nm ni nv := by
  refine Com.of ?_ (C.b.cong (e _ (by omega) (by omega) (by omega)) fun k _ => by rw [t0]) (C.d.cong (e _ (by omega) (by omega) (by omega)) (e _ (by omega) (by omega) (by omega)) (e _ (by omega) (by omega) (by omega)) fun m _ => ⟨(t1 m).1, (t1 m).2.1, (t1 m).2.2.2⟩) (C.f.one y (fun i' d a1 a2 a3 => e _ (by omega) (by omega) (by omega)) t) (C.g.cong (e _ (by omega) (by omega) (by omega)) (e _ (by omega) (by omega) (by omega)) (e _ (by omega) (by omega) (by omega)) t6)
  have p : ps T' = ps T := by
    funext m
    unfold ps
    rw [(t1 m).2.2.1]
  unfold cA
  rw [e c (by omega) (by omega) (by omega), e (c + 6) (by omega) (by omega) (by omega), t0, p]
  exact C.a
/-- the scalars' own changes -/
theorem Com.scal (C : Com h c T nm ni nv) (y : cA h' c T' nm) (e : ∀ a, a ≠ c → h' a = h a) (t0 : ∀ k, k < 6 → T' 0 k 0 = T 0 k 0) (t1 : ∀ m, T' 1 m 0 = T 1 m 0 ∧ T' 1 m 1 = T 1 m 1 ∧ T' 1 m 3 = T 1 m 3) (t2 : T' 2 = T 2) (t3 : T' 3 = T 3) (t4 : T' 4 = T 4) (t5 : T' 5 = T 5) (t6 : T' 6 = T 6) : Com h' c T' nm ni nv :=
  Com.of y (C.b.cong (e _ (by omega)) t0) (C.d.cong (e _ (by omega)) (e _ (by omega)) (e _ (by omega)) fun m _ => t1 m) (C.f.cong (fun i d _ _ => e _ (by omega)) t2 t3 t4 t5) (C.g.cong (e _ (by omega)) (e _ (by omega)) (e _ (by omega)) t6)
end
-- the reference's record
