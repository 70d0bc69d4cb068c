/-! PURE: the next minute at which something may turn. -/
theorem C_nextTurn {h : kH} {c : Nat} {T : kT} {nm ni t c2 : Nat} {P : Nat → Bool} {L : kQ} (C : Com h c (tQ T P t L) nm ni L.length) (K : Qk nm t P L) (ht : t ≤ 9600) (h2 : T 0 2 0 = nI c2 ∧ c2 ≤ 600) :
    ∃ r, f_C_nextTurn h c = some r ∧ ((r = -6 ∧ c2 ≤ t ∧ L = []) ∨ ∃ g, r = nI g ∧ t < g ∧ g ≤ 9600 ∧ (∀ e, e ∈ L → g ≤ e.1) ∧ (t < c2 → g ≤ c2) ∧ ((g = c2 ∧ t < c2) ∨ ∃ e, e ∈ L ∧ e.1 = g)) := by
  have hl := K.1
  have h0 : h (c + 6) 0 = nI L.length := by
    have := C.a.2.2.2.2.2
    rw [tQ_010] at this
    exact this
  have e0 : h c 0 = nI t := C.a.1.trans tQ_06
  have e2 : h (c + 1) 2 = nI c2 := (C.b 2 (by decide)).trans ((tQ_0 (by decide) (by decide)).trans h2.1)
  have hk : ∀ k, k < L.length → h (c + 7) k = nI (nth L k).1 ∧ (nth L k).1 < 2 ^ 31 := fun k hk => by
    have := (C.g k hk).1
    rw [tQ_6] at this
    have b := (K.2.1 _ (nth_mem hk)).2.1
    exact ⟨this, by omega⟩
  have nx : (L = [] ∧ f_V_next h (c + 6) = some (-6)) ∨ ∃ k, k < L.length ∧ f_V_next h (c + 6) = some (nI k) ∧ ∀ j, j < L.length → (nth L k).1 ≤ (nth L j).1 := by
    unfold f_V_next
    obtain ⟨F, hF⟩ : ∃ F, kFuel = F + 1 := ⟨19999, rfl⟩
    rcases Nat.eq_zero_or_pos L.length with z | z
    · left
      refine ⟨List.length_eq_zero_iff.mp z, ?_⟩
      rw [hF, b_V_next_5, h0, z]
      exact if_pos (show nI 0 ≤ 0 from by decide)
    · right
      obtain ⟨n, hn⟩ : ∃ n, L.length = n + 1 := ⟨L.length - 1, by omega⟩
      obtain ⟨k, k1, k2, k3, _⟩ := C_nextc (f := fun k => (nth L k).1) (n := L.length) hl h0 hk n 1 0 F (by omega) (by have : kFuel = 20000 := rfl; omega) (by omega) (fun j hj => by
        obtain rfl : j = 0 := by omega
        exact Nat.le_refl _) (fun j hj => by omega)
      refine ⟨k, k2, ?_, k3⟩
      rw [hF, b_V_next_5, h0]
      dsimp only
      rw [show (0 : Int32) = nI 0 from rfl, if_neg (nI_ge z (by omega)), if_pos rfl, nI_1]
      exact k1
  have cm : (h (c + 1) 2 ≤ h c 0) = (c2 ≤ t) := by rw [e0, e2]; exact leI (by omega) (by omega)
  unfold f_C_nextTurn b_C_nextTurn_24
  rw [g6_2, g6_2, x_2]
  rcases nx with ⟨z, n1⟩ | ⟨k, k1, k2, k3⟩
  · rw [n1, kBi_s, kBi_s, if_pos rfl, if_pos rfl]
    by_cases q : c2 ≤ t
    · rw [if_pos (by rw [cm]; exact q)]
      exact ⟨_, rfl, Or.inl ⟨rfl, q, z⟩⟩
    · rw [if_neg (by rw [cm]; exact q), e2]
      exact ⟨_, rfl, Or.inr ⟨c2, rfl, by omega, by omega, fun e he => by rw [z] at he; exact absurd he List.not_mem_nil, fun _ => Nat.le_refl _, Or.inl ⟨rfl, by omega⟩⟩⟩
  · obtain ⟨b1, b2, _, _⟩ := K.2.1 _ (nth_mem k1)
    have mn : ∀ e, e ∈ L → (nth L k).1 ≤ e.1 := fun e he => by
      obtain ⟨j, j1, j2⟩ := mem_nth he
      have := k3 j j1
      rw [j2] at this
      exact this
    rw [k2, kBi_s, kBi_s, if_neg (n6_ne (by omega)), if_neg (n6_ne (by omega)), kG_nI (by omega) (by decide), kG_nI (by omega) (by decide), kx_nI (by omega), (hk k k1).1, if_pos rfl]
    by_cases q : c2 ≤ t
    · rw [if_pos (by rw [cm]; exact q)]
      exact ⟨_, rfl, Or.inr ⟨(nth L k).1, rfl, b1, b2, mn, fun w => by omega, Or.inr ⟨_, nth_mem k1, rfl⟩⟩⟩
    · rw [if_neg (by rw [cm]; exact q), e2, if_neg (n6_ne (by omega))]
      unfold f_JM_min
      have cl : (nI (nth L k).1 < nI c2) = ((nth L k).1 < c2) := ltI (by omega) (by omega)
      by_cases w : (nth L k).1 < c2
      · rw [if_pos (by rw [cl]; exact w)]
        exact ⟨_, rfl, Or.inr ⟨(nth L k).1, rfl, b1, b2, mn, fun _ => by omega, Or.inr ⟨_, nth_mem k1, rfl⟩⟩⟩
      · rw [if_neg (by rw [cl]; exact w)]
        exact ⟨_, rfl, Or.inr ⟨c2, rfl, by omega, by omega, fun e he => by have := mn e he; omega, fun _ => Nat.le_refl _, Or.inl ⟨rfl, by omega⟩⟩⟩
