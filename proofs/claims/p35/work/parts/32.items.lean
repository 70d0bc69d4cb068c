/-! PURE: recusals by hand, opening, casting. -/
section
variable {T : kT} {nm ni nv i : Nat} {h : kH} {c : Nat}
def slot (k j : Nat) : Prop := (k = 2 ∧ j = 2) ∨ (k = 3 ∧ j = 11) ∨ (k = 4 ∧ j = 9) ∨ (k = 5 ∧ j = 10)
theorem Com.slot {k j : Nat} (C : Com h c T nm ni nv) (hn : ni ≤ 12) (hi : i < ni) (hk : slot k j) (v : Int32) : Com (hset h (c + 10 + 5 * i) k v) c (ts T 2 i j v) nm ni nv := by
  refine C.item hn hi ?_ (fun a a1 a2 a3 => hs_of _ _ (by omega)) (ts_o _ _ (by decide)) (fun j => ⟨rfl, rfl, rfl, rfl⟩) (ts_o _ _ (by decide)) (fun i' j q => ⟨ts_ne _ _ (by omega), rfl, rfl, rfl⟩)
  obtain ⟨a1, a2, a3, a4, a5, a6, a7, a8⟩ := C.f i hi
  unfold cI
  rw [hs_of h v (show c + 10 + 5 * i + 1 ≠ c + 10 + 5 * i by omega), hs_of h v (show c + 10 + 5 * i + 2 ≠ c + 10 + 5 * i by omega), hs_of h v (show c + 10 + 5 * i + 3 ≠ c + 10 + 5 * i by omega), hs_of h v (show c + 10 + 5 * i + 4 ≠ c + 10 + 5 * i by omega), ts_o T v (show 3 ≠ 2 by decide), ts_o T v (show 4 ≠ 2 by decide), ts_o T v (show 5 ≠ 2 by decide)]
  rcases hk with ⟨rfl, rfl⟩ | ⟨rfl, rfl⟩ | ⟨rfl, rfl⟩ | ⟨rfl, rfl⟩
  · rw [hs_ne h v (show ¬ (c + 10 + 5 * i = c + 10 + 5 * i ∧ 0 = 2) by omega), hs_ne h v (show ¬ (c + 10 + 5 * i = c + 10 + 5 * i ∧ 1 = 2) by omega), hs_eq, hs_ne h v (show ¬ (c + 10 + 5 * i = c + 10 + 5 * i ∧ 3 = 2) by omega), hs_ne h v (show ¬ (c + 10 + 5 * i = c + 10 + 5 * i ∧ 4 = 2) by omega), hs_ne h v (show ¬ (c + 10 + 5 * i = c + 10 + 5 * i ∧ 5 = 2) by omega)]
    rw [ts_ne T (c' := 0) _ (by omega), ts_ne T (c' := 1) _ (by omega), ts_eq, ts_ne T (c' := 11) _ (by omega), ts_ne T (c' := 9) _ (by omega), ts_ne T (c' := 10) _ (by omega)]
    exact ⟨a1, a2, rfl, a4, a5, a6, fun j hj => by rw [ts_ne _ _ (by omega)]; exact a7 j hj, a8⟩
  · rw [hs_ne h v (show ¬ (c + 10 + 5 * i = c + 10 + 5 * i ∧ 0 = 3) by omega), hs_ne h v (show ¬ (c + 10 + 5 * i = c + 10 + 5 * i ∧ 1 = 3) by omega), hs_eq, hs_ne h v (show ¬ (c + 10 + 5 * i = c + 10 + 5 * i ∧ 2 = 3) by omega), hs_ne h v (show ¬ (c + 10 + 5 * i = c + 10 + 5 * i ∧ 4 = 3) by omega), hs_ne h v (show ¬ (c + 10 + 5 * i = c + 10 + 5 * i ∧ 5 = 3) by omega)]
    rw [ts_ne T (c' := 0) _ (by omega), ts_ne T (c' := 1) _ (by omega), ts_eq, ts_ne T (c' := 2) _ (by omega), ts_ne T (c' := 9) _ (by omega), ts_ne T (c' := 10) _ (by omega)]
    exact ⟨a1, a2, a3, rfl, a5, a6, fun j hj => by rw [ts_ne _ _ (by omega)]; exact a7 j hj, a8⟩
  · rw [hs_ne h v (show ¬ (c + 10 + 5 * i = c + 10 + 5 * i ∧ 0 = 4) by omega), hs_ne h v (show ¬ (c + 10 + 5 * i = c + 10 + 5 * i ∧ 1 = 4) by omega), hs_eq, hs_ne h v (show ¬ (c + 10 + 5 * i = c + 10 + 5 * i ∧ 2 = 4) by omega), hs_ne h v (show ¬ (c + 10 + 5 * i = c + 10 + 5 * i ∧ 3 = 4) by omega), hs_ne h v (show ¬ (c + 10 + 5 * i = c + 10 + 5 * i ∧ 5 = 4) by omega)]
    rw [ts_ne T (c' := 0) _ (by omega), ts_ne T (c' := 1) _ (by omega), ts_eq, ts_ne T (c' := 2) _ (by omega), ts_ne T (c' := 11) _ (by omega), ts_ne T (c' := 10) _ (by omega)]
    exact ⟨a1, a2, a3, a4, rfl, a6, fun j hj => by rw [ts_ne _ _ (by omega)]; exact a7 j hj, a8⟩
  · rw [hs_ne h v (show ¬ (c + 10 + 5 * i = c + 10 + 5 * i ∧ 0 = 5) by omega), hs_ne h v (show ¬ (c + 10 + 5 * i = c + 10 + 5 * i ∧ 1 = 5) by omega), hs_eq, hs_ne h v (show ¬ (c + 10 + 5 * i = c + 10 + 5 * i ∧ 2 = 5) by omega), hs_ne h v (show ¬ (c + 10 + 5 * i = c + 10 + 5 * i ∧ 3 = 5) by omega), hs_ne h v (show ¬ (c + 10 + 5 * i = c + 10 + 5 * i ∧ 4 = 5) by omega)]
    rw [ts_ne T (c' := 0) _ (by omega), ts_ne T (c' := 1) _ (by omega), ts_eq, ts_ne T (c' := 2) _ (by omega), ts_ne T (c' := 11) _ (by omega), ts_ne T (c' := 9) _ (by omega)]
    exact ⟨a1, a2, a3, a4, a5, rfl, fun j hj => by rw [ts_ne _ _ (by omega)]; exact a7 j hj, a8⟩
/-- an item's state changed: as long as no breaker stands there -/
theorem Iv.state (I : Iv T nm ni nv) (hi : i < ni) {a : Nat} (ha : a ≤ 4) (hb : T 2 i 9 = -6 ∨ a = 3 ∨ a = 4) : Iv (ts T 2 i 2 (nI a)) nm ni nv := by
  refine I.of2 (fun a q => ts_o T _ q) (fun j => ts_ne _ _ (by omega)) (fun j hj => ?_) (fun j hj => ?_)
  · by_cases q : j = i
    · obtain ⟨b1, b2, b3, b4, b5⟩ := I.i1 hj
      rw [q] at b1 b2 b3 b4 b5 ⊢
      unfold iI1
      rw [ts_ne T (c' := 0) _ (by omega), ts_ne T (c' := 1) _ (by omega), ts_eq, ts_ne T (c' := 11) _ (by omega), ts_ne T (c' := 9) _ (by omega), ts_ne T (c' := 10) _ (by omega)]
      exact ⟨b1, ⟨a, ha, rfl⟩, b3, b4, fun z => by omega⟩
    · exact (I.i1 hj).cong (by funext k; exact ts_ne _ _ (by omega))
  · by_cases q : j = i
    · rw [q]
      unfold iB
      rw [ts_eq, ts_ne T (c' := 9) _ (by omega)]
      rcases hb with e | e | e
      · exact Or.inl e
      · exact Or.inr (Or.inl (by rw [e]; rfl))
      · exact Or.inr (Or.inr (by rw [e]; rfl))
    · exact (I.b hj).cong (by funext k; exact ts_ne _ _ (by omega))
theorem Iv.hand (I : Iv T nm ni nv) (hi : i < ni) {a : Nat} (ha : a < 4096) : Iv (ts T 2 i 11 (nI a)) nm ni nv := by
  refine I.of2 (fun a q => ts_o T _ q) (fun j => ts_ne _ _ (by omega)) (fun j hj => ?_) (fun j hj => ?_)
  · by_cases q : j = i
    · obtain ⟨b1, b2, b3, b4, b5⟩ := I.i1 hj
      rw [q] at b1 b2 b3 b4 b5 ⊢
      unfold iI1
      rw [ts_ne T (c' := 0) _ (by omega), ts_ne T (c' := 1) _ (by omega), ts_eq, ts_ne T (c' := 2) _ (by omega), ts_ne T (c' := 9) _ (by omega), ts_ne T (c' := 10) _ (by omega)]
      exact ⟨b1, b2, b3, ⟨a, ha, rfl⟩, fun z => by omega⟩
    · exact (I.i1 hj).cong (by funext k; exact ts_ne _ _ (by omega))
  · unfold iB
    rw [ts_ne T (c' := 9) _ (by omega), ts_ne T (c' := 2) _ (by omega)]
    exact I.b hj
end
theorem sh_0 : ∀ j, j < 31 → (0 : Int32) <<< (nI j &&& 31) = nI 0 := by decide +kernel
theorem hand_val {a m : Nat} (ha : a < 4096) (hm : m < 12) {z : Int32} (hz : z = 0 ∨ z = 1) : ∃ b, b < 4096 ∧ (nI a &&& (((1 : Int32) <<< (nI m &&& 31)) ^^^ (-1))) ||| (z <<< (nI m &&& 31)) = nI b := by
  have l : a &&& (4294967295 - 2 ^ m) < 4096 := Nat.lt_of_le_of_lt Nat.and_le_left ha
  rw [clr_bit (by omega) (by omega)]
  rcases hz with rfl | rfl
  · rw [sh_0 m (by omega), fa_or, Nat.or_zero]
    exact ⟨_, l, rfl⟩
  · rw [sh_1 m (by omega), fa_or]
    exact ⟨_, or_lt l hm, rfl⟩
theorem Iv.cast {T : kT} {nm ni nv i r a : Nat} (I : Iv T nm ni nv) (hi : i < ni) (hr : r < nm) (h2 : T 2 i 2 = 2) (ha : a = 3 ∨ a = 4) : Iv (ts (ts (ts T 2 i 2 (nI a)) 2 i 9 (nI r)) 1 r 4 (T 1 r 4 + 1)) nm ni nv := by
  have hn := I.n
  have b6 : T 2 i 9 = -6 := by
    rcases I.b (show i < 12 by omega) with e | e | e
    · exact e
    · rw [h2] at e; exact absurd e (by decide)
    · rw [h2] at e; exact absurd e (by decide)
  have I1 := I.state hi (a := a) (by omega) (Or.inl b6)
  have e0 : ∀ b, b ≠ 1 → b ≠ 2 → ts (ts (ts T 2 i 2 (nI a)) 2 i 9 (nI r)) 1 r 4 (T 1 r 4 + 1) b = T b := fun b q1 q2 => by
    rw [ts_o _ _ q1, ts_o _ _ q2, ts_o _ _ q2]
  have e2 : ts (ts (ts T 2 i 2 (nI a)) 2 i 9 (nI r)) 1 r 4 (T 1 r 4 + 1) 2 = ts (ts T 2 i 2 (nI a)) 2 i 9 (nI r) 2 := ts_o _ _ (by decide)
  refine Iv.of I.n (by rw [e0 0 (by decide) (by decide)]; exact I.c) (I.t.cong (by rw [e0 0 (by decide) (by decide)]) (e0 6 (by decide) (by decide))) (I.s.cong (e0 0 (by decide) (by decide))) (by unfold iH; rw [e0 0 (by decide) (by decide)]; exact I.h) (fun m hm => ?_) (fun j hj => ?_) (fun j hj => (I.i2 hj).cong (by rw [e0 3 (by decide) (by decide)]) (by rw [e0 4 (by decide) (by decide)]) (by rw [e0 5 (by decide) (by decide)])) (fun k hk => (I.v hk).cong (e0 6 (by decide) (by decide))) (fun j hj => ?_)
  · obtain ⟨b1, b2, b3, b4, b5⟩ := I.m hm
    unfold iM
    rw [e2, ts_ne _ (b' := m) (c' := 2) _ (by omega), ts_ne _ (b' := m) (c' := 3) _ (by omega), ts_ne _ (b' := m) (c' := 0) _ (by omega), ts_ne _ (b' := m) (c' := 1) _ (by omega)]
    refine ⟨b1, b2, b3, b4, ?_⟩
    have key : fb_ct (fun j => decide (ts (ts T 2 i 2 (nI a)) 2 i 9 (nI r) 2 j 9 = nI m)) ni = fb_ct (fun j => decide (T 2 j 9 = nI m)) ni + (if m = r then 1 else 0) := by
      have u := fb_ct_upd (fun j => decide (T 2 j 9 = nI m)) (decide (r = m)) hi
      have z : ¬ decide (T 2 i 9 = nI m) = true := by
        rw [b6]
        intro y
        exact n6_ne (by omega) (of_decide_eq_true y).symm
      rw [if_neg z, Nat.add_zero] at u
      have w : fb_ct (fun j => decide (ts (ts T 2 i 2 (nI a)) 2 i 9 (nI r) 2 j 9 = nI m)) ni = fb_ct (fun k => if k = i then decide (r = m) else decide (T 2 k 9 = nI m)) ni := by
        apply fb_ct_cong
        intro k hk
        by_cases q : k = i
        · rw [q, ts_eq, if_pos rfl]
          exact decide_eq_decide.mpr (by rw [eqI (by omega) (by omega)])
        · rw [ts_ne _ _ (by omega), ts_ne _ _ (by omega), if_neg q]
      rw [w, u]
      by_cases q : m = r
      · simp [q]
      · have q' : ¬ r = m := fun e => q e.symm
        simp [q, q']
    rw [key]
    by_cases q : m = r
    · rw [q, ts_eq, if_pos rfl, ← nI_1, ← q, ← b5, q]
    · rw [ts_ne _ _ (by omega), if_neg q, Nat.add_zero]
      exact b5
  · rw [show ts (ts (ts T 2 i 2 (nI a)) 2 i 9 (nI r)) 1 r 4 (T 1 r 4 + 1) = ts (ts (ts T 2 i 2 (nI a)) 2 i 9 (nI r)) 1 r 4 (T 1 r 4 + 1) from rfl]
    by_cases q : j = i
    · obtain ⟨b1, b2, b3, b4, b5⟩ := I1.i1 hj
      rw [q] at b1 b2 b3 b4 b5 ⊢
      unfold iI1
      rw [e2, ts_ne _ (c' := 0) _ (by omega), ts_ne _ (c' := 1) _ (by omega), ts_eq, ts_ne _ (b := i) (c := 9) (c' := 11) _ (by omega), ts_ne _ (b := i) (c := 9) (c' := 2) _ (by omega), ts_ne _ (b := i) (c := 9) (c' := 10) _ (by omega)]
      exact ⟨b1, b2, Or.inr ⟨r, hr, rfl⟩, b4, fun z => by omega⟩
    · exact (I1.i1 hj).cong (by rw [e2]; funext k; exact ts_ne _ _ (by omega))
  · by_cases q : j = i
    · rw [q]
      unfold iB
      rw [e2, ts_ne _ (c' := 2) _ (by omega), ts_eq T]
      rcases ha with e | e
      · exact Or.inr (Or.inl (by rw [e]; rfl))
      · exact Or.inr (Or.inr (by rw [e]; rfl))
    · exact (I1.b hj).cong (by rw [e2]; funext k; exact ts_ne _ _ (by omega))
