/-! PURE: time passes for any committee of the class. -/
theorem C_movec {T : kT} {nm ni nv0 g c : Nat} (I : Iv T nm ni nv0) (hg : g ≤ 9600) : ∀ (n f t : Nat) (P : Nat → Bool) (L : kQ) (h : kH), L.length = n → n < f → Qk nm t P L → Com h c (tQ T P t L) nm ni L.length →
    ∃ P' L' h', b_C_moveTo_8 c (nI g) f h (nI n) = some h' ∧ Cls g n P L P' L' ∧ (∀ a, (a < c ∨ c + 70 ≤ a) → h' a = h a) ∧ Com h' c (tQ T P' g L') nm ni L'.length ∧ h' c 0 = nI g ∧ L'.length ≤ 20 ∧ (∀ m, P' m = true → m < nm) ∧ ∀ e, e ∈ L' → e ∈ L := by
  have hn := I.n
  -- the end of the loop
  have fin : ∀ (t : Nat) (P : Nat → Bool) (L : kQ) (h : kH), Com h c (tQ T P t L) nm ni L.length → Com (hset h c 0 (nI g)) c (tQ T P g L) nm ni L.length := by
    intro t P L h C
    refine Com.of ?_ (C.b.cong (hs_of _ _ (by omega)) fun k hk => by rw [tQ_0 (by omega) (by omega), tQ_0 (by omega) (by omega)]) (C.d.cong (hs_of _ _ (by omega)) (hs_of _ _ (by omega)) (hs_of _ _ (by omega)) fun m _ => ⟨by rw [tQ_1 (by decide), tQ_1 (by decide)], by rw [tQ_1 (by decide), tQ_1 (by decide)], by rw [tQ_1 (by decide), tQ_1 (by decide)]⟩) (C.f.cong (fun i d _ _ => hs_of _ _ (by omega)) (by rw [tQ_a (by decide) (by decide) (by decide), tQ_a (by decide) (by decide) (by decide)]) (by rw [tQ_a (by decide) (by decide) (by decide), tQ_a (by decide) (by decide) (by decide)]) (by rw [tQ_a (by decide) (by decide) (by decide), tQ_a (by decide) (by decide) (by decide)]) (by rw [tQ_a (by decide) (by decide) (by decide), tQ_a (by decide) (by decide) (by decide)])) (C.g.cong (hs_of _ _ (by omega)) (hs_of _ _ (by omega)) (hs_of _ _ (by omega)) ?_)
    · obtain ⟨a1, a2, a3, a4, a5, a6⟩ := C.a
      unfold cA
      rw [hs_eq, hs_ne _ _ (by omega), hs_ne _ _ (by omega), hs_ne _ _ (by omega), hs_ne _ _ (by omega), hs_ne _ _ (by omega), tQ_ps, tQ_06, tQ_010, tQ_0 (by decide) (by decide), tQ_0 (by decide) (by decide), tQ_0 (by decide) (by decide)]
      rw [tQ_ps] at a4
      rw [tQ_010] at a6
      rw [tQ_0 (by decide) (by decide)] at a2 a3 a5
      exact ⟨rfl, a2, a3, a4, a5, a6⟩
    · funext b c
      rw [tQ_6, tQ_6]
  intro n
  induction n with
  | zero =>
    intro f t P L h hl hf K C
    obtain ⟨f, rfl⟩ : ∃ g, f = g + 1 := ⟨f - 1, by omega⟩
    rw [b_C_moveTo_8]
    dsimp only
    rw [if_pos (show nI 0 ≤ 0 from by decide)]
    have e0 : L = [] := List.length_eq_zero_iff.mp hl
    refine ⟨P, L, hset h c 0 (nI g), rfl, ⟨fun e he => ?_, rfl, rfl⟩, fun a ha => hs_of _ _ (by omega), fin t P L h C, hs_eq _ _ _ _, K.1, K.2.2, fun e he => he⟩
    rw [e0] at he
    exact absurd he List.not_mem_nil
  | succ n ih =>
    intro f t P L h hl hf K C
    obtain ⟨f, rfl⟩ : ∃ g, f = g + 1 := ⟨f - 1, by omega⟩
    have h0 : h (c + 6) 0 = nI (n + 1) := by
      have := C.a.2.2.2.2.2
      rw [tQ_010, hl] at this
      exact this
    have hk8 : ∀ k, k < n + 1 → h (c + 7) k = nI (nth L k).1 ∧ h (c + 8) k = nI (nth L k).2.1 ∧ h (c + 9) k = nI (nth L k).2.2 := by
      intro k hk
      have := C.g k (by omega)
      rw [tQ_6, tQ_6, tQ_6] at this
      exact this
    have kb : ∀ k, k < n + 1 → t < (nth L k).1 ∧ (nth L k).1 ≤ 9600 ∧ (nth L k).2.1 < nm ∧ (nth L k).2.2 ≤ 1 := fun k hk => K.2.1 _ (nth_mem (by omega))
    have hl20 := K.1
    rw [b_C_moveTo_8]
    dsimp only
    rw [if_neg (show ¬ nI (n + 1) ≤ 0 from by rw [show (0 : Int32) = nI 0 from rfl, leI (by omega) (by omega)]; omega)]
    have nx : ∃ k, f_V_next h (c + 6) = some (nI k) ∧ k < n + 1 ∧ (∀ j, j < n + 1 → (nth L k).1 ≤ (nth L j).1) ∧ ∀ j, j < k → (nth L k).1 < (nth L j).1 := by
      unfold f_V_next
      obtain ⟨F, hF⟩ : ∃ F, kFuel = F + 1 := ⟨19999, rfl⟩
      rw [hF, b_V_next_5, h0]
      dsimp only
      rw [show (0 : Int32) = nI 0 from rfl, if_neg (nI_ge (by omega) (by omega)), if_pos rfl, nI_1]
      exact C_nextc (f := fun k => (nth L k).1) (by omega) h0 (fun k hk => ⟨(hk8 k hk).1, by have := kb k hk; omega⟩) n 1 0 F (by omega) (by have : kFuel = 20000 := rfl; omega) (by omega) (fun j hj => by
        obtain rfl : j = 0 := by omega
        exact Nat.le_refl _) (fun j hj => by omega)
    obtain ⟨k, k1, k2, k3, k4⟩ := nx
    obtain ⟨m1, m2, m3⟩ := hk8 k k2
    obtain ⟨b1, b2, b3, b4⟩ := kb k k2
    rw [k1, kBi_s, if_neg (n6_ne (by omega)), kG_nI (by omega) (by decide), kG_nI (by omega) (by decide), kx_nI (by omega), m1, m2, m3]
    by_cases q : (nth L k).1 ≤ g
    · rw [if_pos (by rw [leI (by omega) (by omega)]; exact q), kLet_s, kG_nI (by omega) (by decide)]
      obtain ⟨A, B, hAB, hA⟩ := split_at (L := L) (k := k) (by omega)
      have hlen : (A ++ B).length = n := by
        have := congrArg List.length hAB
        rw [List.length_append, List.length_cons, hl] at this
        rw [List.length_append]
        omega
      have hmsk : msk P nm < 4096 := msk_12 _ hn.1
      have h3 : h c 3 = nI (msk P nm) := by
        have := C.a.2.2.2.1
        rw [tQ_ps] at this
        exact this
      -- both ways lead to the same mask
      have step : ∀ s1, s1 = nI (msk (app P (nth L k)) nm) → ∃ P' L' h', b_C_moveTo_88 (fun h' x2' => b_C_moveTo_8 c (nI g) f h' x2') h c (nI g) (nI (n + 1)) (nI k) c s1 = some h' ∧ Cls g (n + 1) P L P' L' ∧ (∀ a, (a < c ∨ c + 70 ≤ a) → h' a = h a) ∧ Com h' c (tQ T P' g L') nm ni L'.length ∧ h' c 0 = nI g ∧ L'.length ≤ 20 ∧ (∀ m, P' m = true → m < nm) ∧ ∀ e, e ∈ L' → e ∈ L := by
        intro s1 hs1
        unfold b_C_moveTo_88
        have h0' : hset h c 3 s1 (c + 6) 0 = nI (n + 1) := by rw [hs_of _ _ (by omega)]; exact h0
        obtain ⟨d, d1, d2, d3, d4⟩ := C_dropc (h := hset h c 3 s1) (n := n + 1) (k := k) k2 (by omega) h0'
        rw [kLet_s, d1, kBi_s, nI_m1]
        have o : ∀ a, a ≠ c → a ≠ c + 6 → a ≠ c + 7 → a ≠ c + 8 → a ≠ c + 9 → d a = h a := fun a a1 a7 a8 a9 a10 => (d2 a a7 a8 a9 a10).trans (hs_of _ _ a1)
        have Cd : Com d c (tQ T (app P (nth L k)) t (A ++ B)) nm ni (A ++ B).length := by
          refine Com.of ?_ (C.b.cong (o _ (by omega) (by omega) (by omega) (by omega) (by omega)) fun j hj => by rw [tQ_0 (by omega) (by omega), tQ_0 (by omega) (by omega)]) (C.d.cong (o _ (by omega) (by omega) (by omega) (by omega) (by omega)) (o _ (by omega) (by omega) (by omega) (by omega) (by omega)) (o _ (by omega) (by omega) (by omega) (by omega) (by omega)) fun m _ => ⟨by rw [tQ_1 (by decide), tQ_1 (by decide)], by rw [tQ_1 (by decide), tQ_1 (by decide)], by rw [tQ_1 (by decide), tQ_1 (by decide)]⟩) (C.f.cong (fun i d _ _ => o _ (by omega) (by omega) (by omega) (by omega) (by omega)) (by rw [tQ_a (by decide) (by decide) (by decide), tQ_a (by decide) (by decide) (by decide)]) (by rw [tQ_a (by decide) (by decide) (by decide), tQ_a (by decide) (by decide) (by decide)]) (by rw [tQ_a (by decide) (by decide) (by decide), tQ_a (by decide) (by decide) (by decide)]) (by rw [tQ_a (by decide) (by decide) (by decide), tQ_a (by decide) (by decide) (by decide)])) (fun j hj => ?_)
          · obtain ⟨a1, a2, a3, a4, a5, a6⟩ := C.a
            have e1 : d c = hset h c 3 s1 c := d2 c (by omega) (by omega) (by omega) (by omega)
            unfold cA
            rw [e1, hs_eq, hs_ne _ _ (by omega), hs_ne _ _ (by omega), hs_ne _ _ (by omega), hs_ne _ _ (by omega), tQ_ps, tQ_06, tQ_010, tQ_0 (by decide) (by decide), tQ_0 (by decide) (by decide), tQ_0 (by decide) (by decide), hlen]
            rw [tQ_06] at a1
            rw [tQ_0 (by decide) (by decide)] at a2 a3 a5
            refine ⟨a1, a2, a3, hs1, a5, d3.trans ?_⟩
            rw [Nat.add_sub_cancel]
          · rw [hlen] at hj
            rw [tQ_6, tQ_6, tQ_6, nth_ab (e := nth L k), ← hAB, hA, d4 (c + 7) (by omega) j (by omega), d4 (c + 8) (by omega) j (by omega), d4 (c + 9) (by omega) j (by omega), hs_of _ _ (show c + 7 ≠ c by omega), hs_of _ _ (show c + 8 ≠ c by omega), hs_of _ _ (show c + 9 ≠ c by omega)]
            by_cases w : j < k
            · rw [if_pos w, if_pos w, if_pos w, if_pos w]
              exact hk8 j (by omega)
            · rw [if_neg w, if_neg w, if_neg w, if_neg w]
              exact hk8 (j + 1) (by omega)
        have Kd : Qk nm t (app P (nth L k)) (A ++ B) := by
          rw [hAB] at K
          exact K.ap
        obtain ⟨P', L', h', r1, r2, r3, r4, r5, r6, r7, r8⟩ := ih f t (app P (nth L k)) (A ++ B) d hlen (by omega) Kd Cd
        refine ⟨P', L', h', r1, Or.inr ⟨A, nth L k, B, hAB, q, fun a ha => ?_, fun b hb => ?_, r2⟩, fun a ha => (r3 a ha).trans (o a (by omega) (by omega) (by omega) (by omega) (by omega)), r4, r5, r6, r7, fun e he => ?_⟩
        · obtain ⟨j, j1, j2⟩ := mem_nth ha
          have := k4 j (by omega)
          rw [show nth L j = a from by rw [hAB, nth_l j1, j2]] at this
          exact this
        · obtain ⟨j, j1, j2⟩ := mem_nth hb
          have hl2 : A.length + (B.length + 1) = n + 1 := by
            have := congrArg List.length hAB
            rw [List.length_append, List.length_cons, hl] at this
            omega
          have := k3 (k + (j + 1)) (by omega)
          rw [show nth L (k + (j + 1)) = b from by
            have z : nth (A ++ nth L k :: B) (A.length + (j + 1)) = b := by rw [nth_r, nth_s, j2]
            rw [← hAB, hA] at z
            exact z] at this
          exact this
        · have := r8 e he
          rw [hAB]
          rcases List.mem_append.mp this with z | z
          · simp [z]
          · simp [z]
      by_cases w : nI (nth L k).2.2 = 1
      · have w' : (nth L k).2.2 = 1 := by
          rw [show (1 : Int32) = nI 1 from rfl, eqI (by omega) (by decide)] at w
          exact w
        rw [if_pos w]
        exact step _ (by rw [msk_app P _ b3 hn.1, if_pos w', h3, set_bit (by omega)])
      · have w' : ¬ (nth L k).2.2 = 1 := fun z => w (by rw [z]; rfl)
        rw [if_neg w]
        exact step _ (by rw [msk_app P _ b3 hn.1, if_neg w', h3, clr_bit (by omega) (by omega)])
    · rw [if_neg (by rw [leI (by omega) (by omega)]; exact q)]
      refine ⟨P, L, hset h c 0 (nI g), rfl, Or.inl ⟨fun e he => ?_, rfl, rfl⟩, fun a ha => hs_of _ _ (by omega), fin t P L h C, hs_eq _ _ _ _, K.1, K.2.2, fun e he => he⟩
      obtain ⟨j, j1, j2⟩ := mem_nth he
      have := k3 j (by omega)
      rw [j2] at this
      omega
