/-! PURE: the whole text is read, on both sides; fault. -/
theorem Er.em {h h' : kH} {k j : Nat} {e : Nat × Nat × Nat} (E : Em h h' k) (hj : j < k) (o : Er h j e) : Er h' j e := by
  unfold Er
  rw [E.2.2 (3 * j) (by omega), E.2.2 (3 * j + 1) (by omega), E.2.2 (3 * j + 2) (by omega)]
  exact o
theorem M_reads {c : Nat → Nat} {l : Nat} (hc : ∀ k, k < l → c k ≤ 126) (hl : l ≤ 80) : ∀ (n k p : Nat) (os : kQ) (r : Option Nat) (f : Nat) (h : kH), RdA c l n p os r → 2 * k ≤ p → p ≤ l → n < f → Ty h c l p → h 786 15 = 0 → h 786 13 = nI k →
    ∃ h', (kBi (f_M_readOne h) fun h4 => b_M_faultOf_19 f h4) = some (rI r, h') ∧ Em h h' k ∧ (r = none → h' 786 13 = nI (k + os.length) ∧ ∀ j, j < os.length → Er h' (k + j) (nth os j)) := by
  intro n
  induction n with
  | zero => intro k p os r f h A; exact False.elim A
  | succ n ih =>
    intro k p os r f h A h2 h3 hf X h15 h13
    obtain ⟨f, rfl⟩ : ∃ g, f = g + 1 := ⟨f - 1, by omega⟩
    obtain ⟨ok, q, s, a, b, D, A⟩ := A
    have le4 := D.le
    obtain ⟨g, g1, g2, g3, g4, g5⟩ := M_order X hc hl (by omega) (by omega) h15 h13 D
    have Xg : Ty g c l q := ⟨(g2.2.1 7 (by decide) (by decide) (by decide)).trans X.1, g3, fun j hj => by rw [g2.1 792 (by decide) (by decide)]; exact X.2.2 j hj⟩
    rw [g1, kBi_s, b_M_faultOf_19]
    dsimp only
    rcases A with ⟨rfl, rfl⟩ | ⟨rfl, A⟩
    · refine ⟨g, ?_, g2, fun u => by cases u⟩
      have w : ¬ g 786 15 = 0 := by rw [g4]; decide
      unfold b_M_faultOf_79
      rw [if_neg w, if_neg w, g3]
      rfl
    · have w : g 786 15 = 0 := by rw [g4]; rfl
      obtain ⟨o1, o2⟩ := g5 rfl
      rw [if_pos w, Xg.1, g3]
      rcases A with ⟨v, rfl, rfl⟩ | ⟨v, y, rfl⟩ | ⟨v, y, os', rfl, A⟩
      · refine ⟨g, ?_, g2, fun _ => ⟨o1, fun j hj => ?_⟩⟩
        · unfold b_M_faultOf_79
          rw [if_pos (show nI l ≤ nI q from by rw [leI (by omega) (by omega)]; exact v), if_pos w]
          rfl
        · obtain rfl : j = 0 := by rw [List.length_singleton] at hj; omega
          exact o2
      · have b126 := hc q v
        have e59 : (nI (c q) = 59) = (c q = 59) := eqI (a := c q) (b := 59) (by omega) (by decide)
        have es : sg c l q = c q := if_pos v
        rw [if_neg (show ¬ nI l ≤ nI q from by rw [leI (by omega) (by omega)]; omega), M_sign Xg hl (by omega), kBi_s, es, if_neg (by rw [e59]; exact y)]
        have z : ¬ hset g 786 15 (kB2 true) 786 15 = 0 := by rw [hs_eq]; decide
        obtain ⟨f, rfl⟩ : ∃ g, f = g + 1 := ⟨f - 1, by omega⟩
        refine ⟨hset g 786 15 (kB2 true), ?_, ⟨fun a a1 a2 => (hs_of _ _ a1).trans (g2.1 a a1 a2), fun j j1 j2 j3 => (hs_ne _ _ (by omega)).trans (g2.2.1 j j1 j2 j3), fun j hj => (hs_o _ _ (by decide) j).trans (g2.2.2 j hj)⟩, fun u => by cases u⟩
        unfold b_M_faultOf_52
        rw [kLet_s, if_neg z]
        show b_M_faultOf_19 (f + 1) (hset g 786 15 (kB2 true)) = _
        rw [b_M_faultOf_19]
        dsimp only
        unfold b_M_faultOf_79
        rw [if_neg z, if_neg z, hs_ne _ _ (by omega), g3]
        rfl
      · have b126 := hc q v
        have e59 : (nI (c q) = 59) = (c q = 59) := eqI (a := c q) (b := 59) (by omega) (by decide)
        have es : sg c l q = c q := if_pos v
        have up := D.up
        rw [if_neg (show ¬ nI l ≤ nI q from by rw [leI (by omega) (by omega)]; omega), M_sign Xg hl (by omega), kBi_s, es, if_pos (by rw [e59]; exact y)]
        have z : hset g 786 15 (kB2 false) 786 15 = 0 := hs_eq _ _ _ _
        have c1 : ∀ a, a ≠ 786 → hset (hset g 786 15 (kB2 false)) 786 14 (nI (q + 1)) a = g a := fun a ha => by rw [hs_of _ _ ha, hs_of _ _ ha]
        have c2 : ∀ j, j ≠ 14 → j ≠ 15 → hset (hset g 786 15 (kB2 false)) 786 14 (nI (q + 1)) 786 j = g 786 j := fun j j1 j2 => by rw [hs_ne _ _ (by omega), hs_ne _ _ (by omega)]
        have c3 : hset (hset g 786 15 (kB2 false)) 786 14 (nI (q + 1)) 786 14 = nI (q + 1) := hs_eq _ _ _ _
        have c4 : hset (hset g 786 15 (kB2 false)) 786 14 (nI (q + 1)) 786 15 = 0 := by rw [hs_ne _ _ (by omega)]; exact z
        unfold b_M_faultOf_52
        rw [kLet_s, if_pos z, hs_ne _ _ (by omega), g3, nI_1, kLet_s]
        generalize hset (hset g 786 15 (kB2 false)) 786 14 (nI (q + 1)) = g6 at c1 c2 c3 c4
        have X6 : Ty g6 c l (q + 1) := ⟨(c2 7 (by decide) (by decide)).trans Xg.1, c3, fun j hj => by rw [c1 792 (by decide)]; exact Xg.2.2 j hj⟩
        have E6 : Em h g6 k := ⟨fun a a1 a2 => (c1 a a1).trans (g2.1 a a1 a2), fun j j1 j2 j3 => (c2 j j2 j3).trans (g2.2.1 j j1 j2 j3), fun j hj => by rw [c1 796 (by decide)]; exact g2.2.2 j hj⟩
        have o6 : Er g6 k (s, a, b) := by
          unfold Er
          rw [c1 796 (by decide)]
          exact o2
        obtain ⟨h', r1, r2, r3⟩ := ih (k + 1) (q + 1) os' r f g6 A (by omega) (by omega) (by omega) X6 c4 ((c2 13 (by decide) (by decide)).trans o1)
        refine ⟨h', r1, ⟨fun a a1 a2 => (r2.1 a a1 a2).trans (E6.1 a a1 a2), fun j j1 j2 j3 => (r2.2.1 j j1 j2 j3).trans (E6.2.1 j j1 j2 j3), fun j hj => (r2.2.2 j (by omega)).trans (E6.2.2 j hj)⟩, fun u => ?_⟩
        obtain ⟨u1, u2⟩ := r3 u
        refine ⟨by rw [u1, List.length_cons]; exact congrArg nI (by omega), fun j hj => ?_⟩
        cases j with
        | zero => exact Er.em (k := k + 1) r2 (by omega) o6
        | succ j =>
          rw [nth_s, show k + (j + 1) = k + 1 + j by omega]
          exact u2 j (by rw [List.length_cons] at hj; omega)
/-- what the class's reading leaves -/
theorem read_C {h : kH} (P : Pd h) : ∃ (c : Nat → Nat) (l : Nat) (os : kQ) (r : Option Nat) (h1 : kH), l ≤ 80 ∧ (∀ k, k < l → c k ≤ 126) ∧ h 786 7 = nI l ∧ (∀ k, k < l → h 792 k = nI (c k)) ∧ RdA c l 81 0 os r ∧ f_D_read h 637 = some (rI r, h1) ∧ (∀ a, a ≠ 637 → a ≠ 639 → a ≠ 640 → a ≠ 641 → h1 a = h a) ∧ h1 637 1 = h 637 1 ∧
    (r = none → h1 637 3 = nI os.length ∧ ∀ j, j < os.length → Eo h1 j (nth os j)) := by
  obtain ⟨l, l1, l2, l3, l4⟩ := P
  have c4 : ∀ k, k < l → h 638 k = nI (kx (h 638 k)) ∧ h 792 k = nI (kx (h 638 k)) ∧ kx (h 638 k) ≤ 126 := fun k hk => by
    obtain ⟨c, a1, a2, a3, a4⟩ := l4 k hk
    rw [a3, a4, kx_nI (by omega)]
    exact ⟨rfl, rfl, a2⟩
  have X : Tx (hset (hset h 637 2 0) 637 3 0) (fun k => kx (h 638 k)) l 0 := ⟨by rw [hs_ne _ _ (by omega), hs_ne _ _ (by omega)]; exact l2, by rw [hs_ne _ _ (by omega), hs_eq]; rfl, fun k hk => by rw [hs_o _ _ (by decide), hs_o _ _ (by decide)]; exact (c4 k hk).1⟩
  obtain ⟨os, r, h', r1, r2, r3, r4⟩ := C_reads (c := fun k => kx (h 638 k)) (fun k hk => (c4 k hk).2.2) l1 81 0 kFuel 0 _ (by omega) (by omega) (by omega) (by have : kFuel = 20000 := rfl; omega) X (hs_eq _ _ _ _)
  refine ⟨fun k => kx (h 638 k), l, os, r, h', l1, fun k hk => (c4 k hk).2.2, l3, fun k hk => (c4 k hk).2.1, r1, ?_, fun a a1 a2 a3 a4 => (r3.1 a a1 a2 a3 a4).trans (by rw [hs_of _ _ a1, hs_of _ _ a1]), r3.2.1.trans (by rw [hs_ne _ _ (by omega), hs_ne _ _ (by omega)]), fun u => ?_⟩
  · unfold f_D_read
    rw [kLet_s, kLet_s]
    exact r2
  · obtain ⟨u1, u2⟩ := r4 u
    rw [Nat.zero_add] at u1
    exact ⟨u1, fun j hj => by
      have := u2 j hj
      rw [Nat.zero_add] at this
      exact this⟩
theorem read_M {h : kH} {c : Nat → Nat} {l : Nat} {os : kQ} {r : Option Nat} (l1 : l ≤ 80) (hc : ∀ k, k < l → c k ≤ 126) (h7 : h 786 7 = nI l) (h2 : ∀ k, k < l → h 792 k = nI (c k)) (A : RdA c l 81 0 os r) : ∃ h1, f_M_faultOf h = some (rI r, h1) ∧ (∀ a, a ≠ 786 → a ≠ 796 → h1 a = h a) ∧ (∀ j, j ≠ 13 → j ≠ 14 → j ≠ 15 → h1 786 j = h 786 j) ∧
    (r = none → h1 786 13 = nI os.length ∧ ∀ j, j < os.length → Er h1 j (nth os j)) := by
  have o : ∀ a, a ≠ 786 → hset (hset (hset h 786 14 0) 786 13 0) 786 15 0 a = h a := fun a ha => by rw [hs_of _ _ ha, hs_of _ _ ha, hs_of _ _ ha]
  have o6 : ∀ j, j ≠ 13 → j ≠ 14 → j ≠ 15 → hset (hset (hset h 786 14 0) 786 13 0) 786 15 0 786 j = h 786 j := fun j j1 j2 j3 => by rw [hs_ne _ _ (by omega), hs_ne _ _ (by omega), hs_ne _ _ (by omega)]
  have X : Ty (hset (hset (hset h 786 14 0) 786 13 0) 786 15 0) c l 0 := ⟨(o6 7 (by decide) (by decide) (by decide)).trans h7, by rw [hs_ne _ _ (by omega), hs_ne _ _ (by omega), hs_eq]; rfl, fun k hk => by rw [o 792 (by decide)]; exact h2 k hk⟩
  obtain ⟨h', r1, r2, r3⟩ := M_reads hc l1 81 0 0 os r kFuel _ A (by omega) (by omega) (kF_lt (by decide)) X (hs_eq _ _ _ _) (by rw [hs_ne _ _ (by omega), hs_eq]; rfl)
  refine ⟨h', ?_, fun a a1 a2 => (r2.1 a a1 a2).trans (o a a1), fun j j1 j2 j3 => (r2.2.1 j j1 j2 j3).trans (o6 j j1 j2 j3), fun u => ?_⟩
  · unfold f_M_faultOf
    rw [kLet_s, kLet_s, kLet_s]
    exact r1
  · obtain ⟨u1, u2⟩ := r3 u
    rw [Nat.zero_add] at u1
    exact ⟨u1, fun j hj => by
      have := u2 j hj
      rw [Nat.zero_add] at this
      exact this⟩
theorem bo_fault : Both (fun h => f_P_fault h) (fun h => f_M_fault h) := by
  refine Both.ask fun h T nm ni nv u sp g => ?_
  obtain ⟨c, l, os, r, h1, q1, q2, q3, q4, q5, q6, q7, q8, q9⟩ := read_C g.2.2.2.2.2.1
  obtain ⟨h2, m1, m2, m3, m4⟩ := read_M (h := h1) q1 q2 (by rw [q7 786 (by decide) (by decide) (by decide) (by decide)]; exact q3) (fun k hk => by rw [q7 792 (by decide) (by decide) (by decide) (by decide)]; exact q4 k hk) q5
  refine ⟨rI r, h1, h2, ?_, ⟨fun a ha => q7 a (by omega) (by omega) (by omega) (by omega), q8, by rw [q7 786 (by decide) (by decide) (by decide) (by decide)], by rw [q7 786 (by decide) (by decide) (by decide) (by decide)], by rw [q7 786 (by decide) (by decide) (by decide) (by decide)]⟩, ?_, ⟨fun a ha => m2 a (by omega) (by omega), by rw [m2 637 (by decide) (by decide)], m3 3 (by decide) (by decide) (by decide), m3 7 (by decide) (by decide) (by decide), m3 8 (by decide) (by decide) (by decide)⟩⟩
  · show f_P_fault h = _
    unfold f_P_fault
    rw [q6, kBd_s]
  · show f_M_fault h1 = _
    unfold f_M_fault
    rw [m1, kBd_s]
