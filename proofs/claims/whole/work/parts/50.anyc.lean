/-! PURE: the movements of any committee. -/
theorem C_nextc {h : kH} {c : Nat} {f : Nat → Nat} {n : Nat} (hn : n ≤ 20) (h0 : h (c + 6) 0 = nI n) (hf : ∀ k, k < n → h (c + 7) k = nI (f k) ∧ f k < 2 ^ 31) : ∀ (d i k fu : Nat), i + d = n → d < fu → k < i → (∀ j, j < i → f k ≤ f j) → (∀ j, j < k → f k < f j) → ∃ k', b_V_next_5 h (c + 6) fu (nI k) (nI i) = some (nI k') ∧ k' < n ∧ (∀ j, j < n → f k' ≤ f j) ∧ ∀ j, j < k' → f k' < f j := by
  intro d
  induction d with
  | zero =>
    intro i k fu hi hfu hk h1 h2
    obtain ⟨fu, rfl⟩ : ∃ g, fu = g + 1 := ⟨fu - 1, by omega⟩
    obtain rfl : i = n := hi
    rw [b_V_next_5, h0]
    dsimp only
    rw [if_pos (nI_le (Nat.le_refl _) (by omega))]
    exact ⟨k, rfl, hk, h1, h2⟩
  | succ d ih =>
    intro i k fu hi hfu hk h1 h2
    obtain ⟨fu, rfl⟩ : ∃ g, fu = g + 1 := ⟨fu - 1, by omega⟩
    rw [b_V_next_5, h0]
    dsimp only
    rw [if_neg (nI_ge (by omega) (by omega)), if_neg (n6_ne (by omega)), kG_nI (by omega) (by decide), kG_nI (by omega) (by decide), show c + 6 + 1 = c + 7 from rfl, kx_nI (by omega), kx_nI (by omega), (hf k (by omega)).1, (hf i (by omega)).1, nI_1]
    have b1 := (hf k (by omega)).2
    have b2 := (hf i (by omega)).2
    by_cases q : f k ≤ f i
    · rw [if_pos (by rw [leI b1 b2]; exact q)]
      exact ih (i + 1) k fu (by omega) (by omega) (by omega) (fun j hj => by
        by_cases z : j = i
        · rw [z]; exact q
        · exact h1 j (by omega)) h2
    · rw [if_neg (by rw [leI b1 b2]; exact q)]
      exact ih (i + 1) i fu (by omega) (by omega) (by omega) (fun j hj => by
        by_cases z : j = i
        · rw [z]; exact Nat.le_refl _
        · have := h1 j (by omega); omega) (fun j hj => by have := h1 j hj; omega)
theorem C_dropc {h : kH} {c : Nat} {n k : Nat} (hk : k < n) (hn : n ≤ 20) (h0 : h (c + 6) 0 = nI n) : ∃ h', f_V_drop h (c + 6) (nI k) = some h' ∧ (∀ a, a ≠ c + 6 → a ≠ c + 7 → a ≠ c + 8 → a ≠ c + 9 → h' a = h a) ∧ h' (c + 6) 0 = nI (n - 1) ∧ ∀ a, (a = c + 7 ∨ a = c + 8 ∨ a = c + 9) → ∀ j, j < n - 1 → h' a j = if j < k then h a j else h a (j + 1) := by
  have e1 : nI k + 1 = nI (k + 1) := nI_1 k
  have e2 : nI n - nI k - 1 = nI (n - k - 1) := by
    apply Int32.toInt_inj.mp
    rw [show nI n - nI k = nI (n - k) from by
      apply Int32.toInt_inj.mp
      rw [pk_sub_toInt (by omega) (by omega), nI_toInt (by omega)]
      omega, show (1 : Int32) = nI 1 from rfl, pk_sub_toInt (by omega) (by omega), nI_toInt (by omega)]
    omega
  have cg : ∀ {α : Type} (o : Option α), kCg (nI (k + 1)) (nI k) (nI (n - k - 1)) 20 20 o = o := by
    intro α o
    unfold kCg
    rw [if_neg]
    rw [kx_nI (by omega), kx_nI (by omega), kx_nI (by omega)]
    intro w
    rcases w with w | w | w | w | w
    · exact pos_nI (by omega) w
    · exact pos_nI (by omega) w
    · exact pos_nI (by omega) w
    · omega
    · omega
  have co : ∀ (g : kH) (a b : Nat), b ≠ a → hcpy g a a (k + 1) k (n - k - 1) b = g b := by
    intro g a b q
    funext j
    unfold hcpy
    rw [if_neg q]
  have ci : ∀ (g : kH) (a j : Nat), j < n - 1 → hcpy g a a (k + 1) k (n - k - 1) a j = if j < k then g a j else g a (j + 1) := by
    intro g a j hj
    unfold hcpy va_cpy
    rw [if_pos rfl]
    by_cases q : j < k
    · rw [if_neg (by omega), if_pos q]
    · rw [if_pos (by omega), if_neg q]
      congr 1
      omega
  unfold f_V_drop
  rw [h0, e1, e2, show c + 6 + 1 = c + 7 from rfl, show c + 6 + 2 = c + 8 from rfl, show c + 6 + 3 = c + 9 from rfl, cg, kx_nI (by omega), kx_nI (by omega), kx_nI (by omega), kLet_s, cg, kLet_s, cg, kLet_s, kLet_s]
  refine ⟨_, rfl, fun a a7 a8 a9 a10 => ?_, ?_, fun a ha j hj => ?_⟩
  · rw [hs_of _ _ a7, co _ _ _ (by omega), co _ _ _ (by omega), co _ _ _ (by omega)]
  · rw [hs_eq, co _ _ _ (by omega), co _ _ _ (by omega), co _ _ _ (by omega), h0]
    obtain ⟨m, rfl⟩ : ∃ m, n = m + 1 := ⟨n - 1, by omega⟩
    rw [nI_s1, Nat.add_sub_cancel]
  · rw [hs_of _ _ (by omega)]
    rcases ha with rfl | rfl | rfl
    · rw [co _ _ _ (by omega), co _ _ _ (by omega), ci _ _ _ hj]
    · rw [co _ _ _ (by omega), ci _ _ _ hj, co _ _ _ (by omega)]
    · rw [ci _ _ _ hj, co _ _ _ (by omega), co _ _ _ (by omega)]
