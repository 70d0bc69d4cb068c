/-! THE LAW: every turn of it is one of both sides; it answers true. -/
theorem turn2 {FP FM : kH → Option (Int32 × kH)} (B : Both FP FM) {h : kH} (g : G h) {K : kH → Option (Bool × kH)} (IH : ∀ h', G h' → ∃ h2, K h' = some (true, h2)) : ∃ h2, (kBd (FP h) fun v h1 => kBd (FM h1) fun w h3 => if v = w then K h3 else some (false, h3)) = some (true, h2) := by
  obtain ⟨v, h1, h3, e1, e2, g3⟩ := B h g
  obtain ⟨h2, e⟩ := IH h3 g3
  exact ⟨h2, by rw [e1, kBd_s, e2, kBd_s, if_pos rfl]; exact e⟩
theorem turn1 {FP : kH → Option (Int32 × kH)} {FM : kH → Option Int32} (B : Both1 FP FM) {h : kH} (g : G h) {K : kH → Option (Bool × kH)} (IH : ∀ h', G h' → ∃ h2, K h' = some (true, h2)) : ∃ h2, (kBd (FP h) fun v h1 => kBi (FM h1) fun w => if v = w then K h1 else some (false, h1)) = some (true, h2) := by
  obtain ⟨v, h1, e1, e2, g1⟩ := B h g
  obtain ⟨h2, e⟩ := IH h1 g1
  exact ⟨h2, by rw [e1, kBd_s, e2, kBi_s, if_pos rfl]; exact e⟩
theorem turn0 {FP FM : kH → Option Int32} (B : Same2 FP FM) {h : kH} (g : G h) {K : kH → Option (Bool × kH)} (IH : ∀ h', G h' → ∃ h2, K h' = some (true, h2)) : ∃ h2, (kBi (FP h) fun v => kBi (FM h) fun w => if v = w then K h else some (false, h)) = some (true, h2) := by
  obtain ⟨v, e1, e2⟩ := B h g
  obtain ⟨h2, e⟩ := IH h g
  exact ⟨h2, by rw [e1, kBi_s, e2, kBi_s, if_pos rfl]; exact e⟩
theorem law_all {L : Nat} {xs : Nat → Int32} (hL : L ≤ 2048) : ∀ (n k : Nat) (h : kH), L + 4 ≤ k + 4 * n → k ≤ L + 3 → G h → ∃ h2, b_L_law_18 L xs n h (nI k) = some (true, h2) := by
  intro n
  induction n with
  | zero => intro k h h1 h2; omega
  | succ n ih =>
    intro k h h1 h2 g
    have cm : (Int32.ofNat L - 4 < nI k) = (L < k + 4) := by
      show (nI L - nI 4 < nI k) = _
      rw [fa_lt, pk_sub_toInt (by omega) (by omega), nI_toInt (by omega)]
      exact propext ⟨fun _ => by omega, fun _ => by omega⟩
    rw [b_L_law_18]
    dsimp only
    by_cases q : L < k + 4
    · rw [if_pos (by rw [cm]; exact q)]
      exact ⟨h, rfl⟩
    · have p2 : nI k + 2 = nI (k + 2) := by rw [show (2 : Int32) = nI 2 from rfl, nI_add]
      have p3 : nI k + 3 = nI (k + 3) := by rw [show (3 : Int32) = nI 3 from rfl, nI_add]
      have p4 : nI k + 4 = nI (k + 4) := by rw [show (4 : Int32) = nI 4 from rfl, nI_add]
      have g0 : ∀ {α : Type} (X : Option α), kG (nI k) L X = X := fun X => kG_nI (by omega) (by omega)
      have g1 : ∀ {α : Type} (X : Option α), kG (nI k + 1) L X = X := fun X => by rw [nI_1]; exact kG_nI (by omega) (by omega)
      have g2 : ∀ {α : Type} (X : Option α), kG (nI k + 2) L X = X := fun X => by rw [p2]; exact kG_nI (by omega) (by omega)
      have g3 : ∀ {α : Type} (X : Option α), kG (nI k + 3) L X = X := fun X => by rw [p3]; exact kG_nI (by omega) (by omega)
      have IH : ∀ h', G h' → ∃ h2, b_L_law_18 L xs n h' (nI (k + 4)) = some (true, h2) := fun h' g' => ih (k + 4) h' (by omega) (by omega) g'
      rw [if_neg (by rw [cm]; exact q)]
      simp only [g0, g1, g2, g3, p4]
      rw [kLet_s]
      generalize xs (kx (nI k)) &&& 31 = v1
      by_cases c0 : v1 = 0
      · rw [if_pos c0]
        exact turn2 (bo_set _ _) g IH
      rw [if_neg c0]
      by_cases c1 : v1 = 1
      · rw [if_pos c1]
        exact turn2 (bo_member _ _) g IH
      rw [if_neg c1]
      by_cases c2 : v1 = 2
      · rw [if_pos c2]
        exact turn2 (bo_item _ _) g IH
      rw [if_neg c2]
      by_cases c3 : v1 = 3
      · rw [if_pos c3]
        exact turn2 (bo_chair _) g IH
      rw [if_neg c3]
      by_cases c4 : v1 = 4
      · rw [if_pos c4]
        exact turn2 (bo_come _) g IH
      rw [if_neg c4]
      by_cases c5 : v1 = 5
      · rw [if_pos c5]
        exact turn2 (bo_go _) g IH
      rw [if_neg c5]
      by_cases c6 : v1 = 6
      · rw [if_pos c6]
        exact turn2 (bo_later _ _ _) g IH
      rw [if_neg c6]
      by_cases c7 : v1 = 7
      · rw [if_pos c7]
        exact turn2 (bo_proxy _ _ _) g IH
      rw [if_neg c7]
      by_cases c8 : v1 = 8
      · rw [if_pos c8]
        exact turn2 (bo_tell _ _ _) g IH
      rw [if_neg c8]
      by_cases c9 : v1 = 9
      · rw [if_pos c9]
        exact turn2 (bo_recuse _ _ _) g IH
      rw [if_neg c9]
      by_cases c10 : v1 = 10
      · rw [if_pos c10]
        exact turn2 (bo_open _) g IH
      rw [if_neg c10]
      by_cases c11 : v1 = 11
      · rw [if_pos c11]
        exact turn2 (bo_vote _ _) g IH
      rw [if_neg c11]
      by_cases c12 : v1 = 12
      · rw [if_pos c12]
        exact turn2 (bo_close) g IH
      rw [if_neg c12]
      by_cases c13 : v1 = 13
      · rw [if_pos c13]
        exact turn2 (bo_cast _) g IH
      rw [if_neg c13]
      by_cases c14 : v1 = 14
      · rw [if_pos c14]
        exact turn2 (bo_pass _) g IH
      rw [if_neg c14]
      by_cases c15 : v1 = 15
      · rw [if_pos c15]
        exact turn0 (sa_ofMember _ _) g IH
      rw [if_neg c15]
      by_cases c16 : v1 = 16
      · rw [if_pos c16]
        exact turn2 (bo_ofItem _ _) g IH
      rw [if_neg c16]
      by_cases c17 : v1 = 17
      · rw [if_pos c17]
        exact turn2 (bo_at _ _ _) g IH
      rw [if_neg c17]
      by_cases c18 : v1 = 18
      · rw [if_pos c18]
        exact turn0 (sa_count _) g IH
      rw [if_neg c18]
      by_cases c19 : v1 = 19
      · rw [if_pos c19]
        exact turn2 (bo_wouldBe _) g IH
      rw [if_neg c19]
      by_cases c20 : v1 = 20
      · rw [if_pos c20]
        exact turn2 (bo_decisive _) g IH
      rw [if_neg c20]
      by_cases c21 : v1 = 21
      · rw [if_pos c21]
        exact turn2 (bo_needed _ _) g IH
      rw [if_neg c21]
      by_cases c22 : v1 = 22
      · rw [if_pos c22]
        exact turn1 (b1_power _) g IH
      rw [if_neg c22]
      by_cases c23 : v1 = 23
      · rw [if_pos c23]
        exact turn2 (bo_quorumAt _) g IH
      rw [if_neg c23]
      by_cases c24 : v1 = 24
      · rw [if_pos c24]
        exact turn2 (bo_bestHolder _ _) g IH
      rw [if_neg c24]
      by_cases c25 : v1 = 25
      · rw [if_pos c25]
        exact turn2 (bo_put _) g IH
      rw [if_neg c25]
      by_cases c26 : v1 = 26
      · rw [if_pos c26]
        exact turn2 (bo_wipe) g IH
      rw [if_neg c26]
      by_cases c27 : v1 = 27
      · rw [if_pos c27]
        exact turn2 (bo_fault) g IH
      rw [if_neg c27]
      by_cases c28 : v1 = 28
      · rw [if_pos c28]
        exact turn2 (bo_carryOut) g IH
      rw [if_neg c28]
      by_cases c29 : v1 = 29
      · rw [if_pos c29]
        exact turn2 (bo_undo) g IH
      rw [if_neg c29]
      by_cases c30 : v1 = 30
      · rw [if_pos c30]
        exact turn2 (bo_save _) g IH
      rw [if_neg c30]
      by_cases c31 : v1 = 31
      · rw [if_pos c31]
        exact turn2 (bo_restore _) g IH
      rw [if_neg c31]
      exact IH h g
