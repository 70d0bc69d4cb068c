/-! PURE: an order is read from the text, by the reference, whole; the whole text. -/
/-- order k as the reference holds it -/
def Er (h : kH) (k : Nat) (e : Nat × Nat × Nat) : Prop := h 796 (3 * k) = nI e.1 ∧ (¬ e.1 = 99 → h 796 (3 * k + 1) = nI e.2.1) ∧ (e.1 = 118 → h 796 (3 * k + 2) = nI e.2.2)
/-- within order k -/
def Ms (h g : kH) (k s q : Nat) (w : Int32) : Prop := (∀ a, a ≠ 786 → a ≠ 796 → g a = h a) ∧ (∀ j, j ≠ 13 → j ≠ 14 → j ≠ 15 → g 786 j = h 786 j) ∧ g 786 13 = nI k ∧ g 786 14 = nI q ∧ g 786 15 = w ∧ g 796 (3 * k) = nI s ∧ ∀ j, j < 3 * k → g 796 j = h 796 j
/-- the reference's reading of orders k and on changes no more than this -/
def Em (h h' : kH) (k : Nat) : Prop := (∀ a, a ≠ 786 → a ≠ 796 → h' a = h a) ∧ (∀ j, j ≠ 13 → j ≠ 14 → j ≠ 15 → h' 786 j = h 786 j) ∧ ∀ j, j < 3 * k → h' 796 j = h 796 j
theorem Ms.st {h g g' : kH} {k s q q' : Nat} {w w' : Int32} (x : Ms h g k s q w) (y : St g g' q' w') : Ms h g' k s q' w' := by
  obtain ⟨x1, x2, x3, x4, x5, x6, x7⟩ := x
  have e : g' 796 = g 796 := y.1 796 (by decide)
  exact ⟨fun a a1 a2 => (y.1 a a1).trans (x1 a a1 a2), fun j j1 j2 j3 => (y.2.1 j j2 j3).trans (x2 j j1 j2 j3), (y.2.1 13 (by decide) (by decide)).trans x3, y.2.2.1, y.2.2.2, by rw [e]; exact x6, fun j hj => by rw [e]; exact x7 j hj⟩
theorem Ms.put {h g : kH} {k s q : Nat} {w : Int32} (x : Ms h g k s q w) {j : Nat} (hj : 3 * k < j) (v : Int32) : Ms h (hset g 796 j v) k s q w := by
  obtain ⟨x1, x2, x3, x4, x5, x6, x7⟩ := x
  have e : hset g 796 j v 786 = g 786 := hs_of _ _ (by decide)
  exact ⟨fun a a1 a2 => (hs_of _ _ a2).trans (x1 a a1 a2), by rw [e]; exact x2, by rw [e]; exact x3, by rw [e]; exact x4, by rw [e]; exact x5, (hs_ne _ _ (by omega)).trans x6, fun i hi => (hs_ne _ _ (by omega)).trans (x7 i hi)⟩
theorem Ms.fin {h g : kH} {k s q : Nat} {w : Int32} (x : Ms h g k s q w) : ∃ h', b_M_readOne_219 g = some h' ∧ Em h h' k ∧ h' 786 14 = nI q ∧ h' 786 15 = w ∧ h' 786 13 = nI (k + 1) ∧ h' 796 = g 796 := by
  obtain ⟨x1, x2, x3, x4, x5, x6, x7⟩ := x
  have e : hset g 786 13 (nI (k + 1)) 796 = g 796 := hs_of _ _ (by decide)
  refine ⟨hset g 786 13 (nI (k + 1)), ?_, ⟨fun a a1 a2 => (hs_of _ _ a1).trans (x1 a a1 a2), fun j j1 j2 j3 => (hs_ne _ _ (by omega)).trans (x2 j j1 j2 j3), fun j hj => by rw [e]; exact x7 j hj⟩, (hs_ne _ _ (by omega)).trans x4, (hs_ne _ _ (by omega)).trans x5, hs_eq _ _ _ _, e⟩
  unfold b_M_readOne_219
  rw [x3, nI_1, kLet_s]
theorem M_go {h : kH} {c : Nat → Nat} {l p k : Nat} (X : Ty h c l p) (hl : l ≤ 80) (hp : p ≤ 80) (hk : k < 80) (h3 : h 786 13 = nI k) (z : isg (sg c l p)) : f_M_readOne h = b_M_readOne_66 (hset h 796 (3 * k) (nI (sg c l p))) (nI (3 * k)) (nI (sg c l p)) 786 := by
  have e3 : 3 * nI k = nI (3 * k) := by rw [show (3 : Int32) = nI 3 from rfl, pk_mul]
  unfold f_M_readOne
  rw [M_sign X hl (by omega), kBi_s, h3, e3, kG_nI (by omega) (by decide), kLet_s, kx_nI (by omega)]
  rcases z with z | z | z | z | z | z | z
  · rw [if_pos (nq z (by decide))]
  · rw [if_neg (nn z (by decide)), if_pos (nq z (by decide))]
  · rw [if_neg (nn z (by decide)), if_neg (nn z (by decide)), if_neg (nn z (by decide)), if_neg (nn z (by decide)), if_pos (nq z (by decide))]
  · rw [if_neg (nn z (by decide)), if_neg (nn z (by decide)), if_neg (nn z (by decide)), if_neg (nn z (by decide)), if_neg (nn z (by decide)), if_neg (nn z (by decide)), if_pos (nq z (by decide))]
  · rw [if_neg (nn z (by decide)), if_neg (nn z (by decide)), if_pos (nq z (by decide))]
  · rw [if_neg (nn z (by decide)), if_neg (nn z (by decide)), if_neg (nn z (by decide)), if_pos (nq z (by decide))]
  · rw [if_neg (nn z (by decide)), if_neg (nn z (by decide)), if_neg (nn z (by decide)), if_neg (nn z (by decide)), if_neg (nn z (by decide)), if_pos (nq z (by decide))]
theorem M_order {h : kH} {c : Nat → Nat} {l p k q s a b : Nat} {ok : Bool} (X : Ty h c l p) (hc : ∀ k, k < l → c k ≤ 126) (hl : l ≤ 80) (hp : p ≤ 80) (hk : k < 79) (h0 : h 786 15 = 0) (h3 : h 786 13 = nI k) (D : Rd c l p ok q s a b) :
    ∃ h', f_M_readOne h = some h' ∧ Em h h' k ∧ h' 786 14 = nI q ∧ h' 786 15 = (if ok = true then 0 else 1) ∧ (ok = true → h' 786 13 = nI (k + 1) ∧ Er h' k (s, a, b)) := by
  have bs := sg_128 hc p
  have e3 : 3 * nI k = nI (3 * k) := by rw [show (3 : Int32) = nI 3 from rfl, pk_mul]
  have e1 : nI (3 * k) + 1 = nI (3 * k + 1) := nI_1 _
  have e2 : nI (3 * k) + 2 = nI (3 * k + 2) := by rw [show (2 : Int32) = nI 2 from rfl, nI_add]
  obtain ⟨rfl, D⟩ := D
  by_cases z : isg (sg c l p)
  · rw [M_go X hl hp (by omega) h3 z]
    unfold b_M_readOne_66 b_M_readOne_67
    have u15 : hset (hset h 796 (3 * k) (nI (sg c l p))) 786 15 (kB2 false) 786 15 = 0 := hs_eq _ _ _ _
    have u14 : hset (hset h 796 (3 * k) (nI (sg c l p))) 786 15 (kB2 false) 786 14 = nI p := by rw [hs_ne _ _ (by omega), hs_o _ _ (by decide)]; exact X.2.1
    rw [kLet_s, if_pos u15, u14, nI_1, kLet_s]
    have M : Ms h (hset (hset (hset h 796 (3 * k) (nI (sg c l p))) 786 15 (kB2 false)) 786 14 (nI (p + 1))) k (sg c l p) (p + 1) 0 := by
      refine ⟨fun a a1 a2 => by rw [hs_of _ _ a1, hs_of _ _ a1, hs_of _ _ a2], fun j j1 j2 j3 => by rw [hs_ne _ _ (by omega), hs_ne _ _ (by omega), hs_o _ _ (by decide)], by rw [hs_ne _ _ (by omega), hs_ne _ _ (by omega), hs_o _ _ (by decide)]; exact h3, hs_eq _ _ _ _, by rw [hs_ne _ _ (by omega)]; exact u15, by rw [hs_o _ _ (by decide), hs_o _ _ (by decide), hs_eq], fun j hj => by rw [hs_o _ _ (by decide), hs_o _ _ (by decide), hs_ne _ _ (by omega)]⟩
    generalize hset (hset (hset h 796 (3 * k) (nI (sg c l p))) 786 15 (kB2 false)) 786 14 (nI (p + 1)) = g at M
    have Xg : Ty g c l (p + 1) := ⟨(M.2.1 7 (by decide) (by decide) (by decide)).trans X.1, M.2.2.2.1, fun j hj => by rw [M.1 792 (by decide) (by decide)]; exact X.2.2 j hj⟩
    have g0 : g 786 15 = 0 := M.2.2.2.2.1
    -- a number alone
    have num : ∀ ok q, sg c l p = 109 ∨ sg c l p = 111 → ((ok = false ∧ q = p + 1 ∧ ¬ (48 ≤ sg c l (p + 1) ∧ sg c l (p + 1) ≤ 57)) ∨ (ok = true ∧ q = (rdN c l 2 (p + 2) (sg c l (p + 1) - 48)).1 ∧ (48 ≤ sg c l (p + 1) ∧ sg c l (p + 1) ≤ 57) ∧ a = (rdN c l 2 (p + 2) (sg c l (p + 1) - 48)).2)) →
        ∃ h', (kBd (f_M_number g) fun v8 h7 => kG (nI (3 * k) + 1) 240 (kLet (hset h7 796 (kx (nI (3 * k) + 1)) v8) fun h9 => b_M_readOne_219 h9)) = some h' ∧ Em h h' k ∧ h' 786 14 = nI q ∧ h' 786 15 = (if ok = true then 0 else 1) ∧ (ok = true → h' 786 13 = nI (k + 1) ∧ Er h' k (sg c l p, a, b)) := by
      intro ok q w d
      rcases d with ⟨rfl, rfl, y⟩ | ⟨rfl, rfl, y, rfl⟩
      · obtain ⟨x, h1, r1, r2⟩ := M_number_bad Xg hc hl (by omega) g0 y
        rw [r1, kBd_s, e1, kG_nI (by omega) (by decide), kLet_s, kx_nI (by omega)]
        obtain ⟨h', f1, f2, f3, f4, f5, f6⟩ := ((M.st r2).put (j := 3 * k + 1) (by omega) x).fin
        exact ⟨h', f1, f2, f3, f4, fun u => by cases u⟩
      · obtain ⟨h1, r1, r2⟩ := M_number Xg hc hl (by omega) g0 y
        rw [r1, kBd_s, e1, kG_nI (by omega) (by decide), kLet_s, kx_nI (by omega)]
        have M2 := (M.st r2).put (j := 3 * k + 1) (by omega) (nI (rdN c l 2 (p + 1 + 1) (sg c l (p + 1) - 48)).2)
        obtain ⟨h', f1, f2, f3, f4, f5, f6⟩ := M2.fin
        refine ⟨h', f1, f2, f3, f4, fun _ => ⟨f5, ?_⟩⟩
        unfold Er
        rw [f6]
        exact ⟨M2.2.2.2.2.2.1, fun _ => hs_eq _ _ _ _, fun u => by simp only at u; omega⟩
    -- a member, or a member and a choice
    have mem : ∀ ok q, sg c l p = 43 ∨ sg c l p = 45 ∨ sg c l p = 118 → ((ok = false ∧ q = p + 1 ∧ ¬ (65 ≤ sg c l (p + 1) ∧ sg c l (p + 1) ≤ 76)) ∨ (ok = true ∧ q = p + 2 ∧ (sg c l p = 43 ∨ sg c l p = 45) ∧ (65 ≤ sg c l (p + 1) ∧ sg c l (p + 1) ≤ 76) ∧ a = sg c l (p + 1) - 65) ∨ (ok = false ∧ q = p + 2 ∧ sg c l p = 118 ∧ (65 ≤ sg c l (p + 1) ∧ sg c l (p + 1) ≤ 76) ∧ ¬ (48 ≤ sg c l (p + 2) ∧ sg c l (p + 2) ≤ 50)) ∨
        (ok = true ∧ q = p + 3 ∧ sg c l p = 118 ∧ (65 ≤ sg c l (p + 1) ∧ sg c l (p + 1) ≤ 76) ∧ (48 ≤ sg c l (p + 2) ∧ sg c l (p + 2) ≤ 50) ∧ a = sg c l (p + 1) - 65 ∧ b = sg c l (p + 2) - 48)) →
        ∃ h', (kBd (f_M_one g 65 0 11) fun v17 h16 => kG (nI (3 * k) + 1) 240 (kLet (hset h16 796 (kx (nI (3 * k) + 1)) v17) fun h18 => if nI (sg c l p) = 118 then (if (h18 786 15) = 0 then (kBd (f_M_one h18 48 0 2) fun v21 h20 => b_M_readOne_218 h20 796 (nI (3 * k) + 2) v21) else (b_M_readOne_217 h18 796 (nI (3 * k) + 2))) else (b_M_readOne_217 h18 796 (nI (3 * k) + 2)))) = some h' ∧ Em h h' k ∧ h' 786 14 = nI q ∧ h' 786 15 = (if ok = true then 0 else 1) ∧ (ok = true → h' 786 13 = nI (k + 1) ∧ Er h' k (sg c l p, a, b)) := by
      intro ok q w d
      by_cases y : 65 ≤ sg c l (p + 1) ∧ sg c l (p + 1) ≤ 76
      · obtain ⟨h1, r1, r2⟩ := M_one_ok Xg hc hl (by omega) g0 (f := 65) (lo := 0) (hi := 11) (x1 := 65) (x2 := 0) (x3 := 11) rfl rfl rfl (by omega) (by omega)
        have M2 := (M.st r2).put (j := 3 * k + 1) (by omega) (nI (sg c l (p + 1) - 65))
        have o1 : hset h1 796 (3 * k + 1) (nI (sg c l (p + 1) - 65)) 796 (3 * k + 1) = nI (sg c l (p + 1) - 65) := hs_eq _ _ _ _
        have X2 : Ty (hset h1 796 (3 * k + 1) (nI (sg c l (p + 1) - 65))) c l (p + 1 + 1) := by
          have X1 := Xg.st r2
          have e : hset h1 796 (3 * k + 1) (nI (sg c l (p + 1) - 65)) 786 = h1 786 := hs_of _ _ (by decide)
          have e' : hset h1 796 (3 * k + 1) (nI (sg c l (p + 1) - 65)) 792 = h1 792 := hs_of _ _ (by decide)
          unfold Ty
          rw [e, e']
          exact X1
        rw [r1, kBd_s, e1, kG_nI (by omega) (by decide), kLet_s, kx_nI (by omega)]
        generalize hset h1 796 (3 * k + 1) (nI (sg c l (p + 1) - 65)) = g2 at M2 o1 X2
        rcases d with ⟨_, _, x⟩ | ⟨rfl, rfl, x, _, rfl⟩ | ⟨rfl, rfl, x, _, v⟩ | ⟨rfl, rfl, x, _, v, rfl, rfl⟩
        · exact absurd y x
        · rw [if_neg (show ¬ nI (sg c l p) = 118 from by rcases x with x | x <;> exact nn x (by decide))]
          unfold b_M_readOne_217 b_M_readOne_218
          rw [e2, kG_nI (by omega) (by decide), kLet_s, kx_nI (by omega)]
          have M3 := M2.put (j := 3 * k + 2) (by omega) 0
          obtain ⟨h', f1, f2, f3, f4, f5, f6⟩ := M3.fin
          refine ⟨h', f1, f2, f3, f4, fun _ => ⟨f5, ?_⟩⟩
          unfold Er
          rw [f6]
          exact ⟨M3.2.2.2.2.2.1, fun _ => (hs_ne _ _ (by omega)).trans o1, fun u => by simp only at u; omega⟩
        · rw [if_pos (nq x (by decide)), if_pos M2.2.2.2.2.1]
          obtain ⟨t, h3, t1, t2⟩ := M_one_bad X2 hc hl (by omega) M2.2.2.2.2.1 (f := 48) (lo := 0) (hi := 2) (x1 := 48) (x2 := 0) (x3 := 2) rfl rfl rfl v (by omega)
          unfold b_M_readOne_218
          rw [t1, kBd_s, e2, kG_nI (by omega) (by decide), kLet_s, kx_nI (by omega)]
          obtain ⟨h', f1, f2, f3, f4, f5, f6⟩ := ((M2.st t2).put (j := 3 * k + 2) (by omega) t).fin
          exact ⟨h', f1, f2, f3, f4, fun u => by cases u⟩
        · rw [if_pos (nq x (by decide)), if_pos M2.2.2.2.2.1]
          obtain ⟨h3, t1, t2⟩ := M_one_ok X2 hc hl (by omega) M2.2.2.2.2.1 (f := 48) (lo := 0) (hi := 2) (x1 := 48) (x2 := 0) (x3 := 2) rfl rfl rfl v (by omega)
          unfold b_M_readOne_218
          rw [t1, kBd_s, e2, kG_nI (by omega) (by decide), kLet_s, kx_nI (by omega)]
          have M3 := (M2.st t2).put (j := 3 * k + 2) (by omega) (nI (sg c l (p + 1 + 1) - 48))
          obtain ⟨h', f1, f2, f3, f4, f5, f6⟩ := M3.fin
          refine ⟨h', f1, f2, f3, f4, fun _ => ⟨f5, ?_⟩⟩
          unfold Er
          rw [f6]
          refine ⟨M3.2.2.2.2.2.1, fun _ => (hs_ne _ _ (by omega)).trans ?_, fun _ => hs_eq _ _ _ _⟩
          rw [t2.1 796 (by decide)]
          exact o1
      · rcases d with ⟨rfl, rfl, _⟩ | ⟨_, _, _, x, _⟩ | ⟨_, _, _, x, _⟩ | ⟨_, _, _, x, _⟩
        · obtain ⟨t, h1, r1, r2⟩ := M_one_bad Xg hc hl (by omega) g0 (f := 65) (lo := 0) (hi := 11) (x1 := 65) (x2 := 0) (x3 := 11) rfl rfl rfl (by omega) (by omega)
          have M2 := (M.st r2).put (j := 3 * k + 1) (by omega) t
          rw [r1, kBd_s, e1, kG_nI (by omega) (by decide), kLet_s, kx_nI (by omega), if_neg (show ¬ hset h1 796 (3 * k + 1) t 786 15 = 0 from by rw [M2.2.2.2.2.1]; decide)]
          have e7 : (if nI (sg c l p) = 118 then b_M_readOne_217 (hset h1 796 (3 * k + 1) t) 796 (nI (3 * k) + 2) else b_M_readOne_217 (hset h1 796 (3 * k + 1) t) 796 (nI (3 * k) + 2)) = b_M_readOne_217 (hset h1 796 (3 * k + 1) t) 796 (nI (3 * k) + 2) := by split <;> rfl
          rw [e7]
          unfold b_M_readOne_217 b_M_readOne_218
          rw [e2, kG_nI (by omega) (by decide), kLet_s, kx_nI (by omega)]
          obtain ⟨h', f1, f2, f3, f4, f5, f6⟩ := (M2.put (j := 3 * k + 2) (by omega) 0).fin
          exact ⟨h', f1, f2, f3, f4, fun u => by cases u⟩
        · exact absurd x y
        · exact absurd x y
        · exact absurd x y
    rcases z with z | z | z | z | z | z | z
    · rw [if_neg (nn z (by decide)), if_neg (nn z (by decide)), if_neg (nn z (by decide)), if_neg (nn z (by decide))]
      refine mem ok q (Or.inl z) ?_
      rcases D with ⟨_, _, y⟩ | ⟨d1, d2, _, y⟩ | ⟨d1, d2, d3, d4, d5⟩ | ⟨_, _, y, _⟩ | ⟨_, _, y, _⟩ | ⟨d1, d2, d3, d4, d5⟩ | ⟨d1, d2, d3, d4, d5, d6, d7⟩ | ⟨_, _, y, _⟩ | ⟨_, _, y, _⟩ | ⟨_, _, y⟩
      · exact absurd (Or.inl z) y
      · exact Or.inl ⟨d1, d2, y⟩
      · exact Or.inr (Or.inl ⟨d1, d2, d3, d4, d5⟩)
      · omega
      · omega
      · omega
      · omega
      · omega
      · omega
      · omega
    · rw [if_neg (nn z (by decide)), if_neg (nn z (by decide)), if_neg (nn z (by decide)), if_neg (nn z (by decide))]
      refine mem ok q (Or.inr (Or.inl z)) ?_
      rcases D with ⟨_, _, y⟩ | ⟨d1, d2, _, y⟩ | ⟨d1, d2, d3, d4, d5⟩ | ⟨_, _, y, _⟩ | ⟨_, _, y, _⟩ | ⟨d1, d2, d3, d4, d5⟩ | ⟨d1, d2, d3, d4, d5, d6, d7⟩ | ⟨_, _, y, _⟩ | ⟨_, _, y, _⟩ | ⟨_, _, y⟩
      · exact absurd (Or.inr (Or.inl z)) y
      · exact Or.inl ⟨d1, d2, y⟩
      · exact Or.inr (Or.inl ⟨d1, d2, d3, d4, d5⟩)
      · omega
      · omega
      · omega
      · omega
      · omega
      · omega
      · omega
    · rw [if_pos (nq z (by decide))]
      rcases D with ⟨_, _, y⟩ | ⟨_, _, y, _⟩ | ⟨_, _, y, _⟩ | ⟨_, _, y, _⟩ | ⟨_, _, y, _⟩ | ⟨_, _, y, _⟩ | ⟨_, _, y, _⟩ | ⟨_, _, y, _⟩ | ⟨_, _, y, _⟩ | ⟨rfl, rfl, _⟩
      · exact absurd (Or.inr (Or.inr (Or.inl z))) y
      · omega
      · omega
      · omega
      · omega
      · omega
      · omega
      · omega
      · omega
      · obtain ⟨h', f1, f2, f3, f4, f5, f6⟩ := M.fin
        refine ⟨h', f1, f2, f3, f4, fun _ => ⟨f5, ?_⟩⟩
        unfold Er
        rw [f6]
        exact ⟨M.2.2.2.2.2.1, fun u => absurd z u, fun u => by simp only at u; omega⟩
    · rw [if_neg (nn z (by decide)), if_pos (nq z (by decide))]
      refine num ok q (Or.inl z) ?_
      rcases D with ⟨_, _, y⟩ | ⟨_, _, y, _⟩ | ⟨_, _, y, _⟩ | ⟨d1, d2, _, y⟩ | ⟨d1, d2, _, d4, d5⟩ | ⟨_, _, y, _⟩ | ⟨_, _, y, _⟩ | ⟨_, _, y, _⟩ | ⟨_, _, y, _⟩ | ⟨_, _, y⟩
      · exact absurd (Or.inr (Or.inr (Or.inr (Or.inl z)))) y
      · omega
      · omega
      · exact Or.inl ⟨d1, d2, y⟩
      · exact Or.inr ⟨d1, d2, d4, d5⟩
      · omega
      · omega
      · omega
      · omega
      · omega
    · rw [if_neg (nn z (by decide)), if_neg (nn z (by decide)), if_pos (nq z (by decide))]
      refine num ok q (Or.inr z) ?_
      rcases D with ⟨_, _, y⟩ | ⟨_, _, y, _⟩ | ⟨_, _, y, _⟩ | ⟨d1, d2, _, y⟩ | ⟨d1, d2, _, d4, d5⟩ | ⟨_, _, y, _⟩ | ⟨_, _, y, _⟩ | ⟨_, _, y, _⟩ | ⟨_, _, y, _⟩ | ⟨_, _, y⟩
      · exact absurd (Or.inr (Or.inr (Or.inr (Or.inr (Or.inl z))))) y
      · omega
      · omega
      · exact Or.inl ⟨d1, d2, y⟩
      · exact Or.inr ⟨d1, d2, d4, d5⟩
      · omega
      · omega
      · omega
      · omega
      · omega
    · rw [if_neg (nn z (by decide)), if_neg (nn z (by decide)), if_neg (nn z (by decide)), if_neg (nn z (by decide))]
      refine mem ok q (Or.inr (Or.inr z)) ?_
      rcases D with ⟨_, _, y⟩ | ⟨d1, d2, _, y⟩ | ⟨d1, d2, d3, d4, d5⟩ | ⟨_, _, y, _⟩ | ⟨_, _, y, _⟩ | ⟨d1, d2, d3, d4, d5⟩ | ⟨d1, d2, d3, d4, d5, d6, d7⟩ | ⟨_, _, y, _⟩ | ⟨_, _, y, _⟩ | ⟨_, _, y⟩
      · exact absurd (Or.inr (Or.inr (Or.inr (Or.inr (Or.inr (Or.inl z)))))) y
      · exact Or.inl ⟨d1, d2, y⟩
      · omega
      · omega
      · omega
      · exact Or.inr (Or.inr (Or.inl ⟨d1, d2, d3, d4, d5⟩))
      · exact Or.inr (Or.inr (Or.inr ⟨d1, d2, d3, d4, d5, d6, d7⟩))
      · omega
      · omega
      · omega
    · rw [if_neg (nn z (by decide)), if_neg (nn z (by decide)), if_neg (nn z (by decide)), if_pos (nq z (by decide))]
      rcases D with ⟨_, _, y⟩ | ⟨_, _, y, _⟩ | ⟨_, _, y, _⟩ | ⟨_, _, y, _⟩ | ⟨_, _, y, _⟩ | ⟨_, _, y, _⟩ | ⟨_, _, y, _⟩ | ⟨rfl, rfl, _, y⟩ | ⟨rfl, rfl, _, y, rfl⟩ | ⟨_, _, y⟩
      · exact absurd (Or.inr (Or.inr (Or.inr (Or.inr (Or.inr (Or.inr z)))))) y
      · omega
      · omega
      · omega
      · omega
      · omega
      · omega
      · obtain ⟨t, h1, r1, r2⟩ := M_one_bad Xg hc hl (by omega) g0 (f := 48) (lo := 1) (hi := 2) (x1 := 48) (x2 := 1) (x3 := 2) rfl rfl rfl y (by omega)
        rw [r1, kBd_s, e1, kG_nI (by omega) (by decide), kLet_s, kx_nI (by omega)]
        obtain ⟨h', f1, f2, f3, f4, f5, f6⟩ := ((M.st r2).put (j := 3 * k + 1) (by omega) t).fin
        exact ⟨h', f1, f2, f3, f4, fun u => by cases u⟩
      · obtain ⟨h1, r1, r2⟩ := M_one_ok Xg hc hl (by omega) g0 (f := 48) (lo := 1) (hi := 2) (x1 := 48) (x2 := 1) (x3 := 2) rfl rfl rfl y (by omega)
        rw [r1, kBd_s, e1, kG_nI (by omega) (by decide), kLet_s, kx_nI (by omega)]
        have M2 := (M.st r2).put (j := 3 * k + 1) (by omega) (nI (sg c l (p + 1) - 48))
        obtain ⟨h', f1, f2, f3, f4, f5, f6⟩ := M2.fin
        refine ⟨h', f1, f2, f3, f4, fun _ => ⟨f5, ?_⟩⟩
        unfold Er
        rw [f6]
        exact ⟨M2.2.2.2.2.2.1, fun _ => hs_eq _ _ _ _, fun u => by simp only at u; omega⟩
      · omega
  · have ns : ∀ (v : Nat) (w : Int32), v < 2 ^ 31 → nI v = w → ¬ sg c l p = v → ¬ nI (sg c l p) = w := fun v w hv e n => by rw [← e, eqI (by omega) hv]; exact n
    have hD : ok = false ∧ q = p := by
      rcases D with ⟨d1, d2, _⟩ | ⟨_, _, y, _⟩ | ⟨_, _, y, _⟩ | ⟨_, _, y, _⟩ | ⟨_, _, y, _⟩ | ⟨_, _, y, _⟩ | ⟨_, _, y, _⟩ | ⟨_, _, y, _⟩ | ⟨_, _, y, _⟩ | ⟨_, _, y⟩
      · exact ⟨d1, d2⟩
      all_goals exact absurd (show isg (sg c l p) from by omega) z
    obtain ⟨rfl, rfl⟩ := hD
    have u15 : hset (hset h 796 (3 * k) (nI (sg c l q))) 786 15 (kB2 true) 786 15 = 1 := hs_eq _ _ _ _
    refine ⟨hset (hset h 796 (3 * k) (nI (sg c l q))) 786 15 (kB2 true), ?_, ⟨fun a a1 a2 => by rw [hs_of _ _ a1, hs_of _ _ a2], fun j j1 j2 j3 => by rw [hs_ne _ _ (by omega), hs_o _ _ (by decide)], fun j hj => by rw [hs_o _ _ (by decide), hs_ne _ _ (by omega)]⟩, by rw [hs_ne _ _ (by omega), hs_o _ _ (by decide)]; exact X.2.1, u15, fun u => by cases u⟩
    unfold f_M_readOne
    rw [M_sign X hl (by omega), kBi_s, h3, e3, kG_nI (by omega) (by decide), kLet_s, kx_nI (by omega), if_neg (ns 43 43 (by decide) rfl (fun e => z (by omega))), if_neg (ns 45 45 (by decide) rfl (fun e => z (by omega))), if_neg (ns 111 111 (by decide) rfl (fun e => z (by omega))), if_neg (ns 118 118 (by decide) rfl (fun e => z (by omega))), if_neg (ns 99 99 (by decide) rfl (fun e => z (by omega))), if_neg (ns 120 120 (by decide) rfl (fun e => z (by omega))), if_neg (ns 109 109 (by decide) rfl (fun e => z (by omega)))]
    unfold b_M_readOne_67
    rw [kLet_s, if_neg (by rw [u15]; decide)]
