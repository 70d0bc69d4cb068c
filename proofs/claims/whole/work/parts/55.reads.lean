/-! PURE: an order is read from the text, by the class, whole. -/
/-- order k as the class holds it -/
def Eo (h : kH) (k : Nat) (e : Nat × Nat × Nat) : Prop := h 639 k = nI e.1 ∧ (e.1 = 43 ∨ e.1 = 45 ∨ e.1 = 118 → h 640 k = nI e.2.1) ∧ (e.1 = 109 ∨ e.1 = 111 ∨ e.1 = 120 → h 641 k = nI e.2.1) ∧ (e.1 = 118 → h 641 k = nI e.2.2)
theorem C_order {h : kH} {c : Nat → Nat} {l p k : Nat} (X : Tx h c l p) (hc : ∀ k, k < l → c k ≤ 126) (hl : l ≤ 80) (hp : p ≤ 80) (hk : k < 80) :
    ∃ ok q s a b h', f_D_readOrder h 637 (nI k) = some (ok, h') ∧ Rd c l p ok q s a b ∧ Ef h h' k q ∧ (ok = true → Eo h' k (s, a, b)) := by
  have bs := sg_128 hc p
  unfold f_D_readOrder
  rw [C_ahead X hc hl (by omega), kBi_s]
  by_cases z : isg (sg c l p)
  · have sgn : f_D_isSign (nI (sg c l p)) = true := by
      rcases z with z | z | z | z | z | z | z <;> rw [z] <;> decide
    have nar : vp_nar .char (nI (sg c l p)) = nI (sg c l p) := by
      rcases z with z | z | z | z | z | z | z <;> rw [z] <;> decide
    rw [sgn, if_pos rfl, kG_nI hk (by decide), kLet_s, kx_nI (by omega), nar, hs_o _ _ (by decide), X.2.1, nI_1, kLet_s, show 637 + 2 = 639 from rfl]
    have E := Ef.one (h := h) (k := k) (q := p + 1) (a := 639) (by decide) (nI (sg c l p))
    have g9 : hset (hset h 639 k (nI (sg c l p))) 637 2 (nI (p + 1)) 639 k = nI (sg c l p) := by rw [hs_o _ _ (by decide), hs_eq]
    generalize hset (hset h 639 k (nI (sg c l p))) 637 2 (nI (p + 1)) = g at E g9
    have Xg := X.ef E
    -- a member alone
    have mem : sg c l p = 43 ∨ sg c l p = 45 → ∃ ok q s a b h', (kBd (f_D_readMember g 637 (nI k)) fun v6 h5 => some (v6, h5)) = some (ok, h') ∧ Rd c l p ok q s a b ∧ Ef h h' k q ∧ (ok = true → Eo h' k (s, a, b)) := by
      intro w
      by_cases y : 65 ≤ sg c l (p + 1) ∧ sg c l (p + 1) ≤ 76
      · obtain ⟨h', r1, r2, r3, r4, r5⟩ := C_member Xg hc hl (by omega) hk y
        rw [r1, kBd_s]
        exact ⟨true, p + 2, sg c l p, sg c l (p + 1) - 65, 0, h', rfl, ⟨rfl, Or.inr (Or.inr (Or.inl ⟨rfl, rfl, w, y, rfl⟩))⟩, E.trans r2, fun _ => ⟨by rw [r4]; exact g9, fun _ => r3, fun u => by omega, fun u => by omega⟩⟩
      · rw [C_member_no Xg hc hl (by omega) y, kBd_s]
        exact ⟨false, p + 1, sg c l p, 0, 0, g, rfl, ⟨rfl, Or.inr (Or.inl ⟨rfl, rfl, by omega, y⟩)⟩, E, fun u => by cases u⟩
    -- a number alone
    have num : sg c l p = 109 ∨ sg c l p = 111 → ∃ ok q s a b h', (kBd (f_D_readNumber g 637 (nI k)) fun v6 h5 => some (v6, h5)) = some (ok, h') ∧ Rd c l p ok q s a b ∧ Ef h h' k q ∧ (ok = true → Eo h' k (s, a, b)) := by
      intro w
      by_cases y : 48 ≤ sg c l (p + 1) ∧ sg c l (p + 1) ≤ 57
      · obtain ⟨h', r1, r2, r3, r4, r5⟩ := C_number Xg hc hl (by omega) hk y
        rw [r1, kBd_s]
        exact ⟨true, _, sg c l p, _, 0, h', rfl, ⟨rfl, Or.inr (Or.inr (Or.inr (Or.inr (Or.inl ⟨rfl, rfl, w, y, rfl⟩))))⟩, E.trans r2, fun _ => ⟨by rw [r4]; exact g9, fun u => by omega, fun _ => r3, fun u => by omega⟩⟩
      · rw [C_number_no Xg hc hl (by omega) y, kBd_s]
        exact ⟨false, p + 1, sg c l p, 0, 0, g, rfl, ⟨rfl, Or.inr (Or.inr (Or.inr (Or.inl ⟨rfl, rfl, w, y⟩)))⟩, E, fun u => by cases u⟩
    rcases z with z | z | z | z | z | z | z
    · rw [if_pos (nq z (by decide))]
      exact mem (Or.inl z)
    · rw [if_neg (nn z (by decide)), if_pos (nq z (by decide))]
      exact mem (Or.inr z)
    · rw [if_neg (nn z (by decide)), if_neg (nn z (by decide)), if_neg (nn z (by decide)), if_neg (nn z (by decide)), if_neg (nn z (by decide)), if_neg (nn z (by decide))]
      exact ⟨true, p + 1, sg c l p, 0, 0, g, rfl, ⟨rfl, Or.inr (Or.inr (Or.inr (Or.inr (Or.inr (Or.inr (Or.inr (Or.inr (Or.inr ⟨rfl, rfl, z⟩))))))))⟩, E, fun _ => ⟨g9, fun u => by omega, fun u => by omega, fun u => by omega⟩⟩
    · rw [if_neg (nn z (by decide)), if_neg (nn z (by decide)), if_pos (nq z (by decide))]
      exact num (Or.inl z)
    · rw [if_neg (nn z (by decide)), if_neg (nn z (by decide)), if_neg (nn z (by decide)), if_pos (nq z (by decide))]
      exact num (Or.inr z)
    · rw [if_neg (nn z (by decide)), if_neg (nn z (by decide)), if_neg (nn z (by decide)), if_neg (nn z (by decide)), if_pos (nq z (by decide))]
      by_cases y : 65 ≤ sg c l (p + 1) ∧ sg c l (p + 1) ≤ 76
      · obtain ⟨h', r1, r2, r3, r4, r5⟩ := C_member Xg hc hl (by omega) hk y
        have X2 := Xg.ef r2
        rw [r1, kBd_s, if_pos rfl, show (48 : Int32) = nI 48 from rfl]
        by_cases x : 48 ≤ sg c l (p + 2) ∧ sg c l (p + 2) ≤ 50
        · obtain ⟨h4, t1, t2, t3, t4, t5⟩ := C_choice X2 hc hl (by omega) hk (w := 48) (by omega) x
          rw [t1, kBd_s, if_pos rfl]
          exact ⟨true, p + 3, sg c l p, sg c l (p + 1) - 65, sg c l (p + 2) - 48, h4, rfl, ⟨rfl, Or.inr (Or.inr (Or.inr (Or.inr (Or.inr (Or.inr (Or.inl ⟨rfl, rfl, z, y, x, rfl, rfl⟩))))))⟩, (E.trans r2).trans t2, fun _ => ⟨by rw [t4, r4]; exact g9, fun _ => by rw [t5]; exact r3, fun u => by omega, fun _ => t3⟩⟩
        · rw [C_choice_no X2 hc hl (by omega) (w := 48) (by omega) x, kBd_s, if_neg (by decide)]
          exact ⟨false, p + 2, sg c l p, 0, 0, h', rfl, ⟨rfl, Or.inr (Or.inr (Or.inr (Or.inr (Or.inr (Or.inl ⟨rfl, rfl, z, y, x⟩)))))⟩, E.trans r2, fun u => by cases u⟩
      · rw [C_member_no Xg hc hl (by omega) y, kBd_s, if_neg (by decide)]
        exact ⟨false, p + 1, sg c l p, 0, 0, g, rfl, ⟨rfl, Or.inr (Or.inl ⟨rfl, rfl, by omega, y⟩)⟩, E, fun u => by cases u⟩
    · rw [if_neg (nn z (by decide)), if_neg (nn z (by decide)), if_neg (nn z (by decide)), if_neg (nn z (by decide)), if_neg (nn z (by decide)), if_pos (nq z (by decide)), show (49 : Int32) = nI 49 from rfl]
      by_cases x : 49 ≤ sg c l (p + 1) ∧ sg c l (p + 1) ≤ 50
      · obtain ⟨h', r1, r2, r3, r4, r5⟩ := C_choice Xg hc hl (by omega) hk (w := 49) (by omega) x
        rw [r1, kBd_s]
        exact ⟨true, p + 2, sg c l p, sg c l (p + 1) - 48, 0, h', rfl, ⟨rfl, Or.inr (Or.inr (Or.inr (Or.inr (Or.inr (Or.inr (Or.inr (Or.inr (Or.inl ⟨rfl, rfl, z, x, rfl⟩))))))))⟩, E.trans r2, fun _ => ⟨by rw [r4]; exact g9, fun u => by omega, fun _ => r3, fun u => by omega⟩⟩
      · rw [C_choice_no Xg hc hl (by omega) (w := 49) (by omega) x, kBd_s]
        exact ⟨false, p + 1, sg c l p, 0, 0, g, rfl, ⟨rfl, Or.inr (Or.inr (Or.inr (Or.inr (Or.inr (Or.inr (Or.inr (Or.inl ⟨rfl, rfl, z, x⟩)))))))⟩, E, fun u => by cases u⟩
  · have sgn : f_D_isSign (nI (sg c l p)) = false := by
      have key : ∀ s, s < 127 → f_D_isSign (nI s) = decide (isg s) := by decide +kernel
      rw [key _ bs]
      simpa using z
    rw [sgn, if_neg (by decide)]
    exact ⟨false, p, sg c l p, 0, 0, h, rfl, ⟨rfl, Or.inl ⟨rfl, rfl, z⟩⟩, ⟨fun _ _ _ _ _ => rfl, fun _ _ => rfl, X.2.1, fun _ _ _ _ => rfl⟩, fun u => by cases u⟩
/-- the text from p on, an order at a time: the orders, and the fault -/
def RdA (c : Nat → Nat) (l : Nat) : Nat → Nat → kQ → Option Nat → Prop
  | 0, _, _, _ => False
  | n + 1, p, os, r => ∃ ok q s a b, Rd c l p ok q s a b ∧ ((ok = false ∧ r = some q) ∨ (ok = true ∧ ((l ≤ q ∧ r = none ∧ os = [(s, a, b)]) ∨ (q < l ∧ ¬ c q = 59 ∧ r = some q) ∨ (q < l ∧ c q = 59 ∧ ∃ os', os = (s, a, b) :: os' ∧ RdA c l n (q + 1) os' r))))
def rI (r : Option Nat) : Int32 := match r with
  | none => -6
  | some q => nI q
theorem rdN_1 (c : Nat → Nat) (l : Nat) : ∀ n p v, p ≤ (rdN c l n p v).1
  | 0, p, v => Nat.le_refl _
  | n + 1, p, v => by
    rw [rdN]
    split
    · have := rdN_1 c l n (p + 1) (10 * v + sg c l p - 48)
      omega
    · exact Nat.le_refl _
theorem Rd.up {c : Nat → Nat} {l p q s a b : Nat} (R : Rd c l p true q s a b) : p < q := by
  obtain ⟨_, R⟩ := R
  rcases R with ⟨r, _⟩ | ⟨r, _⟩ | ⟨_, r, _⟩ | ⟨r, _⟩ | ⟨_, r, _⟩ | ⟨r, _⟩ | ⟨_, r, _⟩ | ⟨r, _⟩ | ⟨_, r, _⟩ | ⟨_, r, _⟩
  · cases r
  · cases r
  · omega
  · cases r
  · have := rdN_1 c l 2 (p + 2) (sg c l (p + 1) - 48)
    omega
  · cases r
  · omega
  · cases r
  · omega
  · omega
theorem rdN_2 (c : Nat → Nat) (l : Nat) : ∀ n p v, (rdN c l n p v).1 ≤ p + n
  | 0, p, v => Nat.le_refl _
  | n + 1, p, v => by
    rw [rdN]
    split
    · have := rdN_2 c l n (p + 1) (10 * v + sg c l p - 48)
      omega
    · show p ≤ p + (n + 1)
      omega
theorem Rd.le {c : Nat → Nat} {l p q s a b : Nat} {ok : Bool} (R : Rd c l p ok q s a b) : q ≤ p + 4 := by
  obtain ⟨_, R⟩ := R
  rcases R with ⟨_, r, _⟩ | ⟨_, r, _⟩ | ⟨_, r, _⟩ | ⟨_, r, _⟩ | ⟨_, r, _⟩ | ⟨_, r, _⟩ | ⟨_, r, _⟩ | ⟨_, r, _⟩ | ⟨_, r, _⟩ | ⟨_, r, _⟩
  · omega
  · omega
  · omega
  · omega
  · have := rdN_2 c l 2 (p + 2) (sg c l (p + 1) - 48)
    omega
  · omega
  · omega
  · omega
  · omega
  · omega
/-- the class's reading of orders k and on changes no more than this -/
def Ek (h h' : kH) (k : Nat) : Prop := (∀ a, a ≠ 637 → a ≠ 639 → a ≠ 640 → a ≠ 641 → h' a = h a) ∧ h' 637 1 = h 637 1 ∧ ∀ a j, a = 639 ∨ a = 640 ∨ a = 641 → j < k → h' a j = h a j
theorem Eo.ek {h h' : kH} {k j : Nat} {e : Nat × Nat × Nat} (E : Ek h h' k) (hj : j < k) (o : Eo h j e) : Eo h' j e := by
  unfold Eo
  rw [E.2.2 639 j (by decide) hj, E.2.2 640 j (by decide) hj, E.2.2 641 j (by decide) hj]
  exact o
theorem C_reads {c : Nat → Nat} {l : Nat} (hc : ∀ k, k < l → c k ≤ 126) (hl : l ≤ 80) : ∀ (n k f p : Nat) (h : kH), l < p + n → 2 * k ≤ p → p ≤ l → n ≤ f → Tx h c l p → h 637 3 = nI k →
    ∃ os r h', RdA c l n p os r ∧ b_D_read_12 637 f h (nI k) = some (rI r, h') ∧ Ek h h' k ∧ (r = none → h' 637 3 = nI (k + os.length) ∧ ∀ j, j < os.length → Eo h' (k + j) (nth os j)) := by
  intro n
  induction n with
  | zero => intro k f p h h1 h2 h3; omega
  | succ n ih =>
    intro k f p h h1 h2 h3 hf X h6
    obtain ⟨f, rfl⟩ : ∃ g, f = g + 1 := ⟨f - 1, by omega⟩
    obtain ⟨ok, q, s, a, b, g, g1, g2, g3, g4⟩ := C_order (k := k) X hc hl (by omega) (by omega)
    have Xg := X.ef g3
    have e3 : g 637 3 = nI k := (g3.2.1 3 (by decide)).trans h6
    have Eg : Ek h g k := ⟨g3.1, g3.2.1 1 (by decide), fun a j ha hj => g3.2.2.2 a j ha (by omega)⟩
    rw [b_D_read_12]
    dsimp only
    rw [if_neg (show ¬ (80 : Int32) ≤ nI k from by rw [show (80 : Int32) = nI 80 from rfl, leI (by omega) (by omega)]; omega), g1, kBd_s]
    cases ok with
    | false =>
      rw [if_neg (by decide), g3.2.2.1]
      exact ⟨[], some q, g, ⟨false, q, s, a, b, g2, Or.inl ⟨rfl, rfl⟩⟩, rfl, Eg, fun u => by cases u⟩
    | true =>
      have up := g2.up
      have le4 := g2.le
      have o := g4 rfl
      rw [if_pos rfl, e3, nI_1, kLet_s]
      have c1 : ∀ j, j ≠ 3 → hset g 637 3 (nI (k + 1)) 637 j = g 637 j := fun j hj => hs_ne _ _ (by omega)
      have c2 : ∀ a, a ≠ 637 → hset g 637 3 (nI (k + 1)) a = g a := fun a ha => hs_of _ _ ha
      have c3 : hset g 637 3 (nI (k + 1)) 637 3 = nI (k + 1) := hs_eq _ _ _ _
      generalize hset g 637 3 (nI (k + 1)) = g5 at c1 c2 c3
      have X5 : Tx g5 c l q := ⟨(c1 1 (by decide)).trans Xg.1, (c1 2 (by decide)).trans Xg.2.1, fun j hj => by rw [c2 638 (by decide)]; exact Xg.2.2 j hj⟩
      have E5 : Ek h g5 k := ⟨fun a a1 a2 a3 a4 => (c2 a a1).trans (Eg.1 a a1 a2 a3 a4), (c1 1 (by decide)).trans Eg.2.1, fun a j ha hj => by rw [c2 a (by omega)]; exact Eg.2.2 a j ha hj⟩
      have o5 : Eo g5 k (s, a, b) := by
        unfold Eo
        rw [c2 639 (by decide), c2 640 (by decide), c2 641 (by decide)]
        exact o
      rw [X5.2.1, X5.1]
      by_cases w : q < l
      · rw [if_pos (by rw [ltI (by omega) (by omega)]; exact w), kG_nI (by omega) (by decide), kx_nI (by omega), show 637 + 1 = 638 from rfl, X5.2.2 q w]
        have b59 := hc q w
        have e59 : (nI (c q) = 59) = (c q = 59) := eqI (a := c q) (b := 59) (by omega) (by decide)
        by_cases y : c q = 59
        · rw [if_pos (by rw [e59]; exact y), nI_1, kLet_s]
          have X6 : Tx (hset g5 637 2 (nI (q + 1))) c l (q + 1) := ⟨(hs_ne _ _ (by omega)).trans X5.1, hs_eq _ _ _ _, fun j hj => by rw [hs_o _ _ (by decide)]; exact X5.2.2 j hj⟩
          obtain ⟨os, r, h', r1, r2, r3, r4⟩ := ih (k + 1) f (q + 1) (hset g5 637 2 (nI (q + 1))) (by omega) (by omega) (by omega) (by omega) X6 ((hs_ne _ _ (by omega)).trans c3)
          refine ⟨(s, a, b) :: os, r, h', ⟨true, q, s, a, b, g2, Or.inr ⟨rfl, Or.inr (Or.inr ⟨w, y, os, rfl, r1⟩)⟩⟩, r2, ⟨fun a a1 a2 a3 a4 => (r3.1 a a1 a2 a3 a4).trans ((hs_of _ _ a1).trans (E5.1 a a1 a2 a3 a4)), r3.2.1.trans ((hs_ne _ _ (by omega)).trans E5.2.1), fun a j ha hj => (r3.2.2 a j ha (by omega)).trans ((hs_o _ _ (by omega) j).trans (E5.2.2 a j ha hj))⟩, fun u => ?_⟩
          obtain ⟨u1, u2⟩ := r4 u
          refine ⟨by rw [u1, List.length_cons]; exact congrArg nI (by omega), fun j hj => ?_⟩
          cases j with
          | zero =>
            refine Eo.ek (k := k + 1) r3 (by omega) ?_
            unfold Eo
            rw [hs_of _ _ (by decide), hs_of _ _ (by decide), hs_of _ _ (by decide)]
            exact o5
          | succ j =>
            rw [nth_s, show k + (j + 1) = k + 1 + j by omega]
            exact u2 j (by rw [List.length_cons] at hj; omega)
        · rw [if_neg (by rw [e59]; exact y)]
          exact ⟨[], some q, g5, ⟨true, q, s, a, b, g2, Or.inr ⟨rfl, Or.inr (Or.inl ⟨w, y, rfl⟩)⟩⟩, rfl, E5, fun u => by cases u⟩
      · rw [if_neg (by rw [ltI (by omega) (by omega)]; exact w)]
        refine ⟨[(s, a, b)], none, g5, ⟨true, q, s, a, b, g2, Or.inr ⟨rfl, Or.inl ⟨by omega, rfl, rfl⟩⟩⟩, rfl, E5, fun _ => ⟨c3, fun j hj => ?_⟩⟩
        obtain rfl : j = 0 := by rw [List.length_singleton] at hj; omega
        exact o5
