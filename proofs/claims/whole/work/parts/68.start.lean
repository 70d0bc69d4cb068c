/-! PURE: all is well when all is made. -/
def T0 : kT := fun c a b => match c with
  | 0 => h0 787 a
  | 1 => h0 787 (20 + 6 * a + b)
  | 2 => h0 787 (100 + 12 * a + b)
  | 3 => h0 787 (250 + 3 * (12 * a + b) + 0)
  | 4 => h0 787 (250 + 3 * (12 * a + b) + 1)
  | 5 => h0 787 (250 + 3 * (12 * a + b) + 2)
  | _ => h0 787 (690 + 3 * a + b)
theorem T0_m : ∀ m, m < 12 → T0 1 m 2 = 0 ∧ T0 1 m 3 = -6 ∧ T0 1 m 4 = 0 := by decide +kernel
theorem T0_i : ∀ i, i < 12 → T0 2 i 2 = 0 ∧ T0 2 i 9 = -6 ∧ T0 2 i 10 = 0 ∧ T0 2 i 11 = 0 ∧ ∀ k, k < 6 → T0 2 i (3 + k) = 0 := by decide +kernel
theorem T0_p : ∀ i, i < 12 → ∀ m, m < 12 → T0 3 i m = -6 ∧ T0 4 i m = -6 ∧ T0 5 i m = -6 := by decide +kernel
theorem Iv_0 : Iv T0 0 0 0 := by
  refine Iv.of ⟨by decide, by decide, by decide⟩ ⟨by decide +kernel, by decide +kernel, by decide +kernel⟩ ⟨0, by decide, by decide +kernel, fun k hk => absurd hk (Nat.not_lt_zero _)⟩ ⟨⟨50, by decide, by decide +kernel⟩, ⟨34, by decide, by decide +kernel⟩, ⟨240, by decide, by decide +kernel⟩, ⟨2, by decide, by decide +kernel⟩, Or.inr (by decide +kernel), Or.inr (by decide +kernel)⟩ ⟨Or.inl (by decide +kernel), fun h => absurd h (Nat.lt_irrefl 0)⟩ (fun m hm => ?_) (fun i hi => ?_) (fun i hi m hm => ?_) (fun k hk => absurd hk (Nat.not_lt_zero _)) (fun i hi => Or.inl (T0_i i hi).2.1)
  · obtain ⟨a, b, c⟩ := T0_m m hm
    exact ⟨Or.inl a, Or.inl b, fun _ => b, fun h => absurd h (Nat.not_lt_zero _), c⟩
  · obtain ⟨a, b, c, d, e⟩ := T0_i i hi
    exact ⟨fun h => absurd h (Nat.not_lt_zero _), ⟨0, by decide, a⟩, Or.inl b, ⟨0, by decide, d⟩, fun _ => ⟨a, b, c, d, e⟩⟩
  · obtain ⟨a, b, c⟩ := T0_p i hi m hm
    exact ⟨Or.inl a, Or.inl b, Or.inl c, fun _ => ⟨a, b, c⟩⟩
theorem Row_0 : Row (h0 787) T0 0 := by
  refine ⟨fun k _ => rfl, fun m j _ _ => rfl, fun i j _ _ => rfl, fun i m j _ _ hj => ?_, fun k j hk => absurd hk (Nat.not_lt_zero _)⟩
  have : j = 0 ∨ j = 1 ∨ j = 2 := by omega
  rcases this with rfl | rfl | rfl <;> rfl
theorem Com_0 : Com h0 1 T0 0 0 0 := by
  refine Com.of ⟨by decide +kernel, by decide +kernel, by decide +kernel, by decide +kernel, by decide +kernel, by decide +kernel⟩ ?_ (fun m hm => absurd hm (Nat.not_lt_zero _)) (fun i hi => absurd hi (Nat.not_lt_zero _)) (fun k hk => absurd hk (Nat.not_lt_zero _))
  have : ∀ k, k < 6 → h0 (1 + 1) k = T0 0 k 0 := by decide +kernel
  exact this
theorem G_0 : G h0 := by
  refine ⟨T0, 0, 0, 0, 0, 0, Iv_0, Com_0, Row_0, ⟨⟨by decide, by decide, by decide +kernel, by decide +kernel, by decide +kernel⟩, fun j hj => absurd hj (Nat.not_lt_zero _)⟩, ?_, ⟨0, by decide, by decide +kernel, by decide +kernel, fun k hk => absurd hk (Nat.not_lt_zero _)⟩, by decide +kernel⟩
  have t : ∀ s, s < 2 → h0 643 s = 0 ∧ h0 791 s = 0 := by decide +kernel
  exact fun s hs => Or.inl (t s hs)
