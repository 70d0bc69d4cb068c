/-! PURE: what is kept by changes (Iv by its groups); one step of both sides. -/
abbrev iTB (bt : Nat) (T : kT) (nv : Nat) : Prop := ∃ t, t ≤ bt ∧ T 0 6 0 = nI t ∧ ∀ k, k < nv → ∃ a, t < a ∧ a ≤ 9600 ∧ T 6 k 0 = nI a
abbrev iT (T : kT) (nv : Nat) : Prop := iTB 9000 T nv
abbrev iS (T : kT) : Prop := (∃ a, a ≤ 100 ∧ T 0 0 0 = nI a) ∧ (∃ a, a ≤ 100 ∧ T 0 1 0 = nI a) ∧ (∃ a, a ≤ 600 ∧ T 0 2 0 = nI a) ∧ (∃ a, a ≤ 6 ∧ T 0 3 0 = nI a) ∧ (T 0 4 0 = 0 ∨ T 0 4 0 = 1) ∧ (T 0 5 0 = 0 ∨ T 0 5 0 = 1)
abbrev iH (T : kT) (nm : Nat) : Prop := no (T 0 9 0) nm ∧ (0 < nm → ¬ T 0 9 0 = -6)
abbrev iM (T : kT) (nm ni m : Nat) : Prop := (T 1 m 2 = 0 ∨ (T 1 m 2 = 1 ∧ m < nm)) ∧ no (T 1 m 3) nm ∧ (nm ≤ m → T 1 m 3 = -6) ∧ (m < nm → (∃ w, 1 ≤ w ∧ w ≤ 9 ∧ T 1 m 0 = nI w) ∧ ∃ q, q ≤ 3 ∧ T 1 m 1 = nI q) ∧ T 1 m 4 = nI (fb_ct (fun i => decide (T 2 i 9 = nI m)) ni)
abbrev iI1 (T : kT) (nm ni i : Nat) : Prop := (i < ni → (∃ a, a ≤ 2 ∧ T 2 i 0 = nI a) ∧ ∃ a, a ≤ 15 ∧ T 2 i 1 = nI a) ∧ (∃ a, a ≤ 4 ∧ T 2 i 2 = nI a) ∧ no (T 2 i 9) nm ∧ (∃ a, a < 4096 ∧ T 2 i 11 = nI a) ∧
    (ni ≤ i → T 2 i 2 = 0 ∧ T 2 i 9 = -6 ∧ T 2 i 10 = 0 ∧ T 2 i 11 = 0 ∧ ∀ k, k < 6 → T 2 i (3 + k) = 0)
abbrev iI2 (T : kT) (nm ni i : Nat) : Prop := ∀ m, m < 12 → no (T 3 i m) nm ∧ no (T 4 i m) 3 ∧ no (T 5 i m) 3 ∧ (ni ≤ i → T 3 i m = -6 ∧ T 4 i m = -6 ∧ T 5 i m = -6)
abbrev iV (T : kT) (nm k : Nat) : Prop := (∃ j, j < nm ∧ T 6 k 1 = nI j) ∧ (T 6 k 2 = 0 ∨ T 6 k 2 = 1)
abbrev iB (T : kT) (i : Nat) : Prop := T 2 i 9 = -6 ∨ T 2 i 2 = 3 ∨ T 2 i 2 = 4
section
variable {T T' : kT} {nm ni nv : Nat}
theorem Iv.n (I : Iv T nm ni nv) : nm ≤ 12 ∧ ni ≤ 12 ∧ nv ≤ 20 := I.1
theorem Iv.c (I : Iv T nm ni nv) : T 0 7 0 = nI nm ∧ T 0 8 0 = nI ni ∧ T 0 10 0 = nI nv := I.2.1
theorem Iv.t (I : Iv T nm ni nv) : iT T nv := I.2.2.1
theorem Iv.s (I : Iv T nm ni nv) : iS T := I.2.2.2.1
theorem Iv.h (I : Iv T nm ni nv) : iH T nm := I.2.2.2.2.1
theorem Iv.m (I : Iv T nm ni nv) {m : Nat} (hm : m < 12) : iM T nm ni m := I.2.2.2.2.2.1 m hm
theorem Iv.i1 (I : Iv T nm ni nv) {i : Nat} (hi : i < 12) : iI1 T nm ni i := by
  obtain ⟨a, b, c, d, e, _⟩ := I.2.2.2.2.2.2.1 i hi
  exact ⟨a, b, c, d, e⟩
theorem Iv.i2 (I : Iv T nm ni nv) {i : Nat} (hi : i < 12) : iI2 T nm ni i := (I.2.2.2.2.2.2.1 i hi).2.2.2.2.2
theorem Iv.v (I : Iv T nm ni nv) {k : Nat} (hk : k < nv) : iV T nm k := I.2.2.2.2.2.2.2.1 k hk
theorem Iv.b (I : Iv T nm ni nv) {i : Nat} (hi : i < 12) : iB T i := I.2.2.2.2.2.2.2.2 i hi
theorem Iv.of {bt : Nat} (n : nm ≤ 12 ∧ ni ≤ 12 ∧ nv ≤ 20) (c : T 0 7 0 = nI nm ∧ T 0 8 0 = nI ni ∧ T 0 10 0 = nI nv) (t : iTB bt T nv) (s : iS T) (h : iH T nm) (m : ∀ m, m < 12 → iM T nm ni m) (i1 : ∀ i, i < 12 → iI1 T nm ni i) (i2 : ∀ i, i < 12 → iI2 T nm ni i) (v : ∀ k, k < nv → iV T nm k) (b : ∀ i, i < 12 → iB T i) : IvB bt T nm ni nv :=
  ⟨n, c, t, s, h, m, fun i hi => ⟨(i1 i hi).1, (i1 i hi).2.1, (i1 i hi).2.2.1, (i1 i hi).2.2.2.1, (i1 i hi).2.2.2.2, i2 i hi⟩, v, b⟩
theorem iT.cong (x : iT T nv) (e : T' 0 6 0 = T 0 6 0) (e6 : T' 6 = T 6) : iT T' nv := by unfold iT iTB; rw [e, e6]; exact x
theorem iS.cong (x : iS T) (e : T' 0 = T 0) : iS T' := by unfold iS; rw [e]; exact x
theorem iM.cong {m : Nat} (x : iM T nm ni m) (e : T' 1 = T 1) (e2 : ∀ i, T' 2 i 9 = T 2 i 9) : iM T' nm ni m := by unfold iM; simp only [e, e2]; exact x
theorem iI1.cong {i : Nat} (x : iI1 T nm ni i) (e : T' 2 i = T 2 i) : iI1 T' nm ni i := by unfold iI1; rw [e]; exact x
theorem iI2.cong {i : Nat} (x : iI2 T nm ni i) (e3 : T' 3 i = T 3 i) (e4 : T' 4 i = T 4 i) (e5 : T' 5 i = T 5 i) : iI2 T' nm ni i := by unfold iI2; rw [e3, e4, e5]; exact x
theorem iV.cong {k : Nat} (x : iV T nm k) (e : T' 6 = T 6) : iV T' nm k := by unfold iV; rw [e]; exact x
theorem iB.cong {i : Nat} (x : iB T i) (e : T' 2 i = T 2 i) : iB T' i := by unfold iB; rw [e]; exact x
/-- only the row's numbers changed -/
theorem Iv.of0 (I : Iv T nm ni nv) (e : ∀ a, a ≠ 0 → T' a = T a) (c : T' 0 7 0 = nI nm ∧ T' 0 8 0 = nI ni ∧ T' 0 10 0 = nI nv) (t : T' 0 6 0 = T 0 6 0) (s : iS T') (h : iH T' nm) : Iv T' nm ni nv :=
  Iv.of I.n c (I.t.cong t (e 6 (by decide))) s h (fun m hm => (I.m hm).cong (e 1 (by decide)) (fun i => by rw [e 2 (by decide)])) (fun i hi => (I.i1 hi).cong (by rw [e 2 (by decide)])) (fun i hi => (I.i2 hi).cong (by rw [e 3 (by decide)]) (by rw [e 4 (by decide)]) (by rw [e 5 (by decide)])) (fun k hk => (I.v hk).cong (e 6 (by decide))) (fun i hi => (I.b hi).cong (by rw [e 2 (by decide)]))
/-- only members changed -/
theorem Iv.of1 (I : Iv T nm ni nv) (e : ∀ a, a ≠ 1 → T' a = T a) (m : ∀ m, m < 12 → iM T' nm ni m) : Iv T' nm ni nv :=
  Iv.of I.n (by rw [e 0 (by decide)]; exact I.c) (I.t.cong (by rw [e 0 (by decide)]) (e 6 (by decide))) (I.s.cong (e 0 (by decide))) (by unfold iH; rw [e 0 (by decide)]; exact I.h) m (fun i hi => (I.i1 hi).cong (by rw [e 2 (by decide)])) (fun i hi => (I.i2 hi).cong (by rw [e 3 (by decide)]) (by rw [e 4 (by decide)]) (by rw [e 5 (by decide)])) (fun k hk => (I.v hk).cong (e 6 (by decide))) (fun i hi => (I.b hi).cong (by rw [e 2 (by decide)]))
/-- only items' own numbers changed, none of their breakers -/
theorem Iv.of2 (I : Iv T nm ni nv) (e : ∀ a, a ≠ 2 → T' a = T a) (e9 : ∀ i, T' 2 i 9 = T 2 i 9) (i1 : ∀ i, i < 12 → iI1 T' nm ni i) (b : ∀ i, i < 12 → iB T' i) : Iv T' nm ni nv :=
  Iv.of I.n (by rw [e 0 (by decide)]; exact I.c) (I.t.cong (by rw [e 0 (by decide)]) (e 6 (by decide))) (I.s.cong (e 0 (by decide))) (by unfold iH; rw [e 0 (by decide)]; exact I.h) (fun m hm => (I.m hm).cong (e 1 (by decide)) e9) i1 (fun i hi => (I.i2 hi).cong (by rw [e 3 (by decide)]) (by rw [e 4 (by decide)]) (by rw [e 5 (by decide)])) (fun k hk => (I.v hk).cong (e 6 (by decide))) b
/-- only holders, votes, told choices changed -/
theorem Iv.of3 (I : Iv T nm ni nv) (e : ∀ a, a ≠ 3 → a ≠ 4 → a ≠ 5 → T' a = T a) (i2 : ∀ i, i < 12 → iI2 T' nm ni i) : Iv T' nm ni nv :=
  Iv.of I.n (by rw [e 0 (by decide) (by decide) (by decide)]; exact I.c) (I.t.cong (by rw [e 0 (by decide) (by decide) (by decide)]) (e 6 (by decide) (by decide) (by decide))) (I.s.cong (e 0 (by decide) (by decide) (by decide))) (by unfold iH; rw [e 0 (by decide) (by decide) (by decide)]; exact I.h) (fun m hm => (I.m hm).cong (e 1 (by decide) (by decide) (by decide)) (fun i => by rw [e 2 (by decide) (by decide) (by decide)])) (fun i hi => (I.i1 hi).cong (by rw [e 2 (by decide) (by decide) (by decide)])) i2 (fun k hk => (I.v hk).cong (e 6 (by decide) (by decide) (by decide))) (fun i hi => (I.b hi).cong (by rw [e 2 (by decide) (by decide) (by decide)]))
end
-- one step
def CFe (h h' : kH) : Prop := ∀ a, a ≠ 142 → a ≠ 143 → a ≠ 144 → h' a = h a
def CFs (h h' : kH) : Prop := ∀ a, (a = 0 ∨ 71 ≤ a) → a ≠ 142 → a ≠ 143 → a ≠ 144 → h' a = h a
theorem CFe.s {h h' : kH} (x : CFe h h') : CFs h h' := fun a _ a1 a2 a3 => x a a1 a2 a3
abbrev nng (v : Int32) : Prop := ¬ v < 0
abbrev nn6 (v : Int32) : Prop := ¬ v < 0 ∨ v = -6
theorem er_1 : f_P_isError (-1) = true := by decide
theorem er_2 : f_P_isError (-2) = true := by decide
theorem er_3 : f_P_isError (-3) = true := by decide
theorem er_4 : f_P_isError (-4) = true := by decide
theorem er_5 : f_P_isError (-5) = true := by decide
theorem er_6 : f_P_isError (-6) = false := by decide
theorem er_n {j : Nat} (h : j < 2 ^ 31) : f_P_isError (nI j) = false := by
  unfold f_P_isError
  rw [if_neg, if_pos]
  · rw [fa_lt, nI_toInt h]
    have : (-1 : Int32).toInt = -1 := by decide
    omega
  · rw [fa_lt, nI_toInt h]
    have : (-5 : Int32).toInt = -5 := by decide
    omega
theorem er_no {v : Int32} {n : Nat} (h : no v n) (hn : n < 2 ^ 31) : f_P_isError v = false := by
  rcases h with rfl | ⟨j, hj, rfl⟩
  · exact er_6
  · exact er_n (by omega)
theorem nlt_le {a b : Int32} : (¬ b < a) ↔ a ≤ b := by rw [fa_lt, fa_le]; omega
/-- a number between two literals -/
theorem lit {x : Int32} {a b : Nat} (ha : a < 2 ^ 31) (hb : b < 2 ^ 31) (h1 : ¬ x < nI a) (h2 : ¬ nI b < x) : ∃ j, a ≤ j ∧ j ≤ b ∧ x = nI j := by
  rw [fa_lt, nI_toInt ha] at h1
  rw [fa_lt, nI_toInt hb] at h2
  refine ⟨x.toInt.toNat, by omega, by omega, ?_⟩
  apply Int32.toInt_inj.mp
  rw [nI_toInt (by omega)]
  omega
