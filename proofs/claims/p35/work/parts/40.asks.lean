/-! PURE: the plain questions: ofMember, ofItem, at, count, wouldBe. -/
theorem sub_n {a b : Nat} (h : b ≤ a) (ha : a < 2 ^ 30) : nI a - nI b = nI (a - b) := by
  apply Int32.toInt_inj.mp
  rw [pk_sub_toInt (by omega) (by omega), nI_toInt (by omega)]
  omega
theorem C_spoken {h : kH} {c s : Nat} {T : kT} {nm ni nv i e : Nat} (C : Com h c T nm ni nv) (I : Iv T nm ni nv) (L : Hrd h s T i nm) : ∀ (k j f : Nat), j + k = nm → k < f → b_H_spokenForBy_5 h s c (nI e) f (nI (msk (fun m => !ps T m && decide (sV T i nm m = nI e)) j)) (nI j) = some (nI (msk (fun m => !ps T m && decide (sV T i nm m = nI e)) nm)) := by
  have hn := I.1
  intro k
  induction k with
  | zero =>
    intro j f hj hf
    obtain ⟨f, rfl⟩ : ∃ g, f = g + 1 := ⟨f - 1, by omega⟩
    obtain rfl : j = nm := hj
    rw [b_H_spokenForBy_5, C.1.2.1, I.2.1.1]
    exact if_pos (nI_le (Nat.le_refl _) (by omega))
  | succ k ih =>
    intro j f hj hf
    obtain ⟨f, rfl⟩ : ∃ g, f = g + 1 := ⟨f - 1, by omega⟩
    have ih' := ih (j + 1) f (by omega) (by omega)
    rw [b_H_spokenForBy_5, C.1.2.1, I.2.1.1]
    dsimp only
    rw [if_neg (nI_ge (by omega) (by omega)), kG_nI (by omega) (by decide), kx_nI (by omega), L.1 j (by omega), C_isPresent C I (by omega), nI_1]
    by_cases p : (!ps T j && decide (sV T i nm j = nI e)) = true
    · have p1 : ps T j = false := by
        cases q : ps T j
        · rfl
        · rw [q] at p; simp at p
      have p2 : sV T i nm j = nI e := by
        rw [p1] at p
        simpa using p
      rw [if_pos p2, p1, if_neg (by decide), kLet_s, or_msk (fun m => !ps T m && decide (sV T i nm m = nI e)) (by omega) p]
      exact ih'
    · rw [nor_msk (fun m => !ps T m && decide (sV T i nm m = nI e)) p] at ih'
      by_cases p2 : sV T i nm j = nI e
      · rw [if_pos p2]
        have p1 : ps T j = true := by
          cases q : ps T j
          · exact absurd (by rw [q, p2]; simp) p
          · rfl
        rw [p1, if_pos rfl]
        exact ih'
      · rw [if_neg p2]
        exact ih'
