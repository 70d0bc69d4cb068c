/-! PURE: a minute passes: what holds of the queue. -/
theorem Qk.md {nm t : Nat} {P : Nat → Bool} {L : kQ} (K : Qk nm t P L) : Qk nm (t + 1) (mdl (t + 1) P L).1 (mdl (t + 1) P L).2 := by
  obtain ⟨k1, k2, k3⟩ := K
  unfold mdl
  refine ⟨Nat.le_trans (List.length_filter_le _ _) k1, fun e he => ?_, ?_⟩
  · obtain ⟨h1, h2⟩ := List.mem_filter.mp he
    have h3 : ¬ e.1 = t + 1 := by simpa using h2
    obtain ⟨q1, q2, q3, q4⟩ := k2 e h1
    exact ⟨by omega, q2, q3, q4⟩
  · have key : ∀ (M : kQ) (Q : Nat → Bool), (∀ e, e ∈ M → e.2.1 < nm) → (∀ m, Q m = true → m < nm) → ∀ m, M.foldl (fun P e => if e.1 = t + 1 then app P e else P) Q m = true → m < nm := by
      intro M
      induction M with
      | nil => intro Q _ h; exact h
      | cons e M ih =>
        intro Q h1 h2
        rw [List.foldl_cons]
        refine ih _ (fun x hx => h1 x (List.mem_cons_of_mem _ hx)) (fun m hm => ?_)
        split at hm
        · unfold app at hm
          by_cases q : m = e.2.1
          · rw [q]; exact h1 e (List.mem_cons_self ..)
          · rw [if_neg q] at hm
            exact h2 m hm
        · exact h2 m hm
    exact key L P (fun e he => (k2 e he).2.2.1) k3
