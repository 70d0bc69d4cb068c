/-! PURE: a member, an item, a movement is added. -/
theorem in_cases {x : Int32} {a b : Nat} (ha : a < 2 ^ 31) (hb : b < 2 ^ 31) : (x < nI a ∨ nI b < x) ∨ ∃ j, a ≤ j ∧ j ≤ b ∧ x = nI j := by
  by_cases p : x < nI a
  · exact Or.inl (Or.inl p)
  · by_cases q : nI b < x
    · exact Or.inl (Or.inr q)
    · exact Or.inr (lit ha hb p q)
theorem cA.m {h : kH} {c : Nat} {T : kT} {nm : Nat} (x : cA h c T nm) : h c 3 = nI (msk (ps T) nm) := x.2.2.2.1
theorem msk_new {T : kT} {nm ni nv : Nat} (I : Iv T nm ni nv) (hn : nm < 12) : msk (ps T) (nm + 1) = msk (ps T) nm := by
  apply nor_msk
  unfold ps
  rcases (I.m hn).1 with e | ⟨_, e⟩
  · rw [e]; decide
  · omega
def tMem (T : kT) (nm w q : Nat) : kT := ts (ts (ts (ts T 1 nm 0 (nI w)) 1 nm 1 (nI q)) 0 9 0 (if nm = 0 then 0 else T 0 9 0)) 0 7 0 (nI (nm + 1))
theorem tMem_o (T : kT) (nm w q : Nat) {a : Nat} (h0 : a ≠ 0) (h1 : a ≠ 1) : tMem T nm w q a = T a := by
  unfold tMem
  rw [ts_o _ _ h0, ts_o _ _ h0, ts_o _ _ h1, ts_o _ _ h1]
theorem tMem_ps (T : kT) (nm w q : Nat) : ps (tMem T nm w q) = ps T := by
  funext m
  unfold ps tMem
  rw [ts_ne _ _ (by omega), ts_ne _ _ (by omega), ts_ne _ _ (by omega), ts_ne _ _ (by omega)]
theorem Iv.member {T : kT} {nm ni nv w q : Nat} (I : Iv T nm ni nv) (hn : nm < 12) (hw : 1 ≤ w ∧ w ≤ 9) (hq : q ≤ 3) : Iv (tMem T nm w q) (nm + 1) ni nv := by
  have e2 := tMem_o T nm w q (a := 2) (by decide) (by decide)
  refine Iv.of ⟨by omega, I.n.2.1, I.n.2.2⟩ ?_ (I.t.cong (by simp [tMem, ts]) (tMem_o _ _ _ _ (by decide) (by decide))) ?_ ?_ (fun m hm => ?_) (fun i hi => ?_) (fun i hi => ?_) (fun k hk => ?_) (fun i hi => (I.b hi).cong (by rw [e2]))
  · refine ⟨by simp [tMem, ts], ?_, ?_⟩
    · rw [← I.c.2.1]; simp [tMem, ts]
    · rw [← I.c.2.2]; simp [tMem, ts]
  · have := I.s
    unfold iS
    simpa [tMem, ts] using this
  · unfold iH
    have e : tMem T nm w q 0 9 0 = if nm = 0 then 0 else T 0 9 0 := by simp [tMem, ts]
    rw [e]
    by_cases z : nm = 0
    · rw [if_pos z]
      exact ⟨Or.inr ⟨0, by omega, rfl⟩, fun _ => by decide⟩
    · rw [if_neg z]
      exact ⟨I.h.1.mono (by omega), fun _ => I.h.2 (by omega)⟩
  · obtain ⟨b1, b2, b3, b4, b5⟩ := I.m hm
    unfold iM
    rw [e2]
    have x2 : tMem T nm w q 1 m 2 = T 1 m 2 := by simp [tMem, ts]
    have x3 : tMem T nm w q 1 m 3 = T 1 m 3 := by simp [tMem, ts]
    have x4 : tMem T nm w q 1 m 4 = T 1 m 4 := by simp [tMem, ts]
    rw [x2, x3, x4]
    refine ⟨b1.imp id (fun z => ⟨z.1, by omega⟩), b2.mono (by omega), fun z => b3 (by omega), fun z => ?_, b5⟩
    by_cases y : m = nm
    · subst y
      exact ⟨⟨w, hw.1, hw.2, by simp [tMem, ts]⟩, q, hq, by simp [tMem, ts]⟩
    · have x0 : tMem T nm w q 1 m 0 = T 1 m 0 := by simp [tMem, ts, y]
      have x1 : tMem T nm w q 1 m 1 = T 1 m 1 := by simp [tMem, ts, y]
      rw [x0, x1]
      exact b4 (by omega)
  · obtain ⟨a1, a2, a3, a4, a5⟩ := I.i1 hi
    unfold iI1
    rw [e2]
    exact ⟨a1, a2, a3.mono (by omega), a4, a5⟩
  · intro m hm
    obtain ⟨a1, a2, a3, a4⟩ := I.i2 hi m hm
    rw [tMem_o _ _ _ _ (by decide) (by decide), tMem_o _ _ _ _ (by decide) (by decide), tMem_o _ _ _ _ (by decide) (by decide)]
    exact ⟨a1.mono (by omega), a2, a3, a4⟩
  · obtain ⟨⟨j, j1, j2⟩, a2⟩ := I.v hk
    unfold iV
    rw [tMem_o _ _ _ _ (by decide) (by decide)]
    exact ⟨⟨j, by omega, j2⟩, a2⟩
theorem n12 {nm : Nat} (h : nm ≤ 12) : (nI nm < 12) = (nm < 12) := ltI (a := nm) (b := 12) (by omega) (by decide)
theorem e12 {nm : Nat} (h : nm ≤ 12) : (nI nm = 12) = (nm = 12) := eqI (a := nm) (b := 12) (by omega) (by decide)
theorem z12 {nm : Nat} (h : nm ≤ 12) : (nI nm = 0) = (nm = 0) := eqI (a := nm) (b := 0) (by omega) (by decide)
theorem C_mem {h : kH} {T : kT} {nm ni nv w q : Nat} (C : Com h 1 T nm ni nv) (I : Iv T nm ni nv) (hn : nm < 12) {h' : kH} (o : ∀ a, a ≠ 1 → a ≠ 3 → a ≠ 4 → a ≠ 5 → h' a = h a)
    (s : ∀ k, k ≠ 1 → k ≠ 4 → h' 1 k = h 1 k) (s1 : h' 1 1 = nI (nm + 1)) (s4 : h' 1 4 = if nm = 0 then 0 else T 0 9 0) (w0 : h' 3 = ru (h 3) nm (nI w)) (w1 : h' 4 = ru (h 4) nm (nI q)) (w2 : h' 5 = ru (h 5) nm (-6)) : Com h' 1 (tMem T nm w q) (nm + 1) ni nv := by
  refine Com.of ?_ (C.b.cong (o _ (by omega) (by omega) (by omega) (by omega)) fun k hk => by simp [tMem, ts, show k ≠ 9 by omega, show k ≠ 7 by omega]) (fun m hm => ?_) (C.f.cong (fun i d _ _ => o _ (by omega) (by omega) (by omega) (by omega)) (tMem_o _ _ _ _ (by decide) (by decide)) (tMem_o _ _ _ _ (by decide) (by decide)) (tMem_o _ _ _ _ (by decide) (by decide)) (tMem_o _ _ _ _ (by decide) (by decide))) (C.g.cong (o _ (by omega) (by omega) (by omega) (by omega)) (o _ (by omega) (by omega) (by omega) (by omega)) (o _ (by omega) (by omega) (by omega) (by omega)) (tMem_o _ _ _ _ (by decide) (by decide)))
  · obtain ⟨a1, a2, a3, a4, a5, a6⟩ := C.a
    unfold cA
    rw [s 0 (by decide) (by decide), s 2 (by decide) (by decide), s 3 (by decide) (by decide), s1, s4, o (1 + 6) (by omega) (by omega) (by omega) (by omega), tMem_ps, msk_new I hn]
    refine ⟨?_, ?_, ?_, a4, ?_, ?_⟩
    · rw [a1]; simp [tMem, ts]
    · simp [tMem, ts]
    · rw [a3]; simp [tMem, ts]
    · simp [tMem, ts]
    · rw [a6]; simp [tMem, ts]
  · rw [show (1 : Nat) + 2 = 3 from rfl, show (1 : Nat) + 3 = 4 from rfl, show (1 : Nat) + 4 = 5 from rfl, w0, w1, w2]
    by_cases y : m = nm
    · rw [y, ru_eq, ru_eq, ru_eq]
      refine ⟨by simp [tMem, ts], by simp [tMem, ts], ?_⟩
      have e := (I.m (show nm < 12 by omega)).2.2.1 (Nat.le_refl _)
      simp [tMem, ts, e]
    · rw [ru_ne _ _ y, ru_ne _ _ y, ru_ne _ _ y]
      have := C.d m (by omega)
      simpa [tMem, ts, y] using this
