/-! PURE: all is well when all is made. -/
def T0 : kT := fun c a b => match c with
  | 0 => (match a with
    | 0 => 50
    | 1 => 34
    | 2 => 240
    | 3 => 2
    | 4 => 1
    | 5 => 1
    | 9 => -6
    | _ => 0)
  | 1 => if b = 3 then -6 else 0
  | 2 => if b = 9 then -6 else 0
  | 3 => -6
  | 4 => -6
  | 5 => -6
  | _ => 0
theorem Iv_0 : Iv T0 0 0 0 := by
  refine Iv.of ⟨by decide, by decide, by decide⟩ ⟨rfl, rfl, rfl⟩ ⟨0, by decide, rfl, fun k hk => absurd hk (Nat.not_lt_zero _)⟩ ⟨⟨50, by decide, rfl⟩, ⟨34, by decide, rfl⟩, ⟨240, by decide, rfl⟩, ⟨2, by decide, rfl⟩, Or.inr rfl, Or.inr rfl⟩ ⟨Or.inl rfl, fun h => absurd h (Nat.lt_irrefl 0)⟩ (fun m hm => ?_) (fun i hi => ?_) (fun i hi m hm => ?_) (fun k hk => absurd hk (Nat.not_lt_zero _)) (fun i hi => Or.inl rfl)
  · exact ⟨Or.inl rfl, Or.inl rfl, fun _ => rfl, fun h => absurd h (Nat.not_lt_zero _), rfl⟩
  · refine ⟨fun h => absurd h (Nat.not_lt_zero _), ⟨0, by decide, rfl⟩, Or.inl rfl, ⟨0, by decide, rfl⟩, fun _ => ⟨rfl, rfl, rfl, rfl, fun k hk => ?_⟩⟩
    exact if_neg (by omega)
  · exact ⟨Or.inl rfl, Or.inl rfl, Or.inl rfl, fun _ => ⟨rfl, rfl, rfl⟩⟩
theorem Com_0 : Com hz 1 T0 0 0 0 := by
  refine Com.of ⟨by decide +kernel, by decide +kernel, by decide +kernel, by decide +kernel, by decide +kernel, by decide +kernel⟩ ?_ (fun m hm => absurd hm (Nat.not_lt_zero _)) (fun i hi => absurd hi (Nat.not_lt_zero _)) (fun k hk => absurd hk (Nat.not_lt_zero _))
  have : ∀ k, k < 6 → hz (1 + 1) k = T0 0 k 0 := by decide +kernel
  exact this
theorem Z0_0 : Z0 hz T0 0 0 := ⟨⟨Iv_0, Com_0, 0, 0, by decide, by decide, by decide +kernel, by decide +kernel⟩, rfl, fun i => show ¬ (0 : Int32) = 1 by decide⟩
