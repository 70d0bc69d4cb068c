/-! PURE: time passes, on both sides. -/
section
variable {T : kT} {nm ni nv t : Nat} {P : Nat → Bool} {L : kQ}
theorem Com.q {h : kH} {c : Nat} (C : Com h c T nm ni nv) (hm : nm ≤ 12) (ht : T 0 6 0 = nI t) (hc : T 0 10 0 = nI nv) (hl : L.length = nv) (hp : ∀ m, m < 12 → T 1 m 2 = kB2 (P m)) (hq : ∀ k c, k < nv → c < 3 → T 6 k c = nI (el (nth L k) c)) : Com h c (tQ T P t L) nm ni L.length := by
  have p : msk (ps (tQ T P t L)) nm = msk (ps T) nm := by
    rw [tQ_ps]
    apply msk_cong
    intro j hj
    unfold ps
    rw [hp j (by omega)]
    cases P j <;> decide
  refine Com.of ?_ (C.b.cong rfl fun k hk => tQ_0 (by omega) (by omega)) (C.d.cong rfl rfl rfl fun m _ => ⟨tQ_1 (by decide), tQ_1 (by decide), tQ_1 (by decide)⟩) (C.f.cong (fun _ _ _ _ => rfl) (tQ_a (by decide) (by decide) (by decide)) (tQ_a (by decide) (by decide) (by decide)) (tQ_a (by decide) (by decide) (by decide)) (tQ_a (by decide) (by decide) (by decide))) (fun k hk => ?_)
  · obtain ⟨a1, a2, a3, a4, a5, a6⟩ := C.a
    unfold cA
    rw [p, tQ_06, tQ_010, tQ_0 (by decide) (by decide), tQ_0 (by decide) (by decide), tQ_0 (by decide) (by decide), hl]
    exact ⟨a1.trans ht, a2, a3, a4, a5, a6.trans hc⟩
  · rw [tQ_6, tQ_6, tQ_6, ← hq k 0 (by omega) (by decide), ← hq k 1 (by omega) (by decide), ← hq k 2 (by omega) (by decide)]
    exact C.g k (by omega)
end
-- the class
theorem nth_ab {A B : kQ} {e : Nat × Nat × Nat} (b : Nat) : nth (A ++ B) b = if b < A.length then nth (A ++ e :: B) b else nth (A ++ e :: B) (b + 1) := by
  by_cases q : b < A.length
  · rw [if_pos q, nth_l q, nth_l q]
  · rw [if_neg q]
    obtain ⟨d, rfl⟩ : ∃ d, b = A.length + d := ⟨b - A.length, by omega⟩
    rw [nth_r, Nat.add_assoc, nth_r, nth_s]
theorem C_next {h : kH} {f : Nat → Nat} {n : Nat} (hn : n ≤ 20) (h0 : h 7 0 = nI n) (hf : ∀ k, k < n → h 8 k = nI (f k) ∧ f k < 2 ^ 31) : ∀ (d i k fu : Nat), i + d = n → d < fu → k < i → (∀ j, j < i → f k ≤ f j) → (∀ j, j < k → f k < f j) → ∃ k', b_V_next_5 h 7 fu (nI k) (nI i) = some (nI k') ∧ k' < n ∧ (∀ j, j < n → f k' ≤ f j) ∧ ∀ j, j < k' → f k' < f j := by
  intro d
  induction d with
  | zero =>
    intro i k fu hi hfu hk h1 h2
    obtain ⟨fu, rfl⟩ : ∃ g, fu = g + 1 := ⟨fu - 1, by omega⟩
    obtain rfl : i = n := hi
    rw [b_V_next_5, h0]
    dsimp only
    rw [if_pos (nI_le (Nat.le_refl _) (by omega))]
    exact ⟨k, rfl, hk, h1, h2⟩
  | succ d ih =>
    intro i k fu hi hfu hk h1 h2
    obtain ⟨fu, rfl⟩ : ∃ g, fu = g + 1 := ⟨fu - 1, by omega⟩
    rw [b_V_next_5, h0]
    dsimp only
    rw [if_neg (nI_ge (by omega) (by omega)), if_neg (n6_ne (by omega)), kG_nI (by omega) (by decide), kG_nI (by omega) (by decide), show 7 + 1 = 8 from rfl, kx_nI (by omega), kx_nI (by omega), (hf k (by omega)).1, (hf i (by omega)).1, nI_1]
    have b1 := (hf k (by omega)).2
    have b2 := (hf i (by omega)).2
    by_cases q : f k ≤ f i
    · rw [if_pos (by rw [leI b1 b2]; exact q)]
      exact ih (i + 1) k fu (by omega) (by omega) (by omega) (fun j hj => by
        by_cases z : j = i
        · rw [z]; exact q
        · exact h1 j (by omega)) h2
    · rw [if_neg (by rw [leI b1 b2]; exact q)]
      exact ih (i + 1) i fu (by omega) (by omega) (by omega) (fun j hj => by
        by_cases z : j = i
        · rw [z]; exact Nat.le_refl _
        · have := h1 j (by omega); omega) (fun j hj => by have := h1 j hj; omega)
theorem split_at {L : kQ} {k : Nat} (h : k < L.length) : ∃ A B, L = A ++ nth L k :: B ∧ A.length = k := by
  refine ⟨L.take k, L.drop (k + 1), ?_, by rw [List.length_take]; omega⟩
  rw [nth_get h, ← List.drop_eq_getElem_cons h, List.take_append_drop]
theorem msk_app (P : Nat → Bool) (e : Nat × Nat × Nat) {nm : Nat} (hm : e.2.1 < nm) (hn : nm ≤ 12) : msk (app P e) nm = if e.2.2 = 1 then msk P nm ||| 2 ^ e.2.1 else msk P nm &&& (4294967295 - 2 ^ e.2.1) := by
  apply eq_of_bits
  intro j
  rw [msk_bit]
  unfold app
  by_cases z : e.2.2 = 1
  · rw [if_pos z, tb_or, msk_bit]
    by_cases q : j = e.2.1
    · simp [q, hm, z]
    · simp [q]
  · rw [if_neg z, Nat.testBit_and, msk_bit]
    by_cases w : j < nm
    · rw [clr_tst e.2.1 (by omega) j (by omega)]
      by_cases q : j = e.2.1
      · simp [q, z]
      · simp [q, w]
    · simp [w]
theorem C_drop {h : kH} {n k : Nat} (hk : k < n) (hn : n ≤ 20) (h0 : h 7 0 = nI n) : ∃ h', f_V_drop h 7 (nI k) = some h' ∧ (∀ a, a ≠ 7 → a ≠ 8 → a ≠ 9 → a ≠ 10 → h' a = h a) ∧ h' 7 0 = nI (n - 1) ∧ ∀ a, (a = 8 ∨ a = 9 ∨ a = 10) → ∀ j, j < n - 1 → h' a j = if j < k then h a j else h a (j + 1) := by
  have e1 : nI k + 1 = nI (k + 1) := nI_1 k
  have e2 : nI n - nI k - 1 = nI (n - k - 1) := by
    apply Int32.toInt_inj.mp
    rw [show nI n - nI k = nI (n - k) from by
      apply Int32.toInt_inj.mp
      rw [pk_sub_toInt (by omega) (by omega), nI_toInt (by omega)]
      omega, show (1 : Int32) = nI 1 from rfl, pk_sub_toInt (by omega) (by omega), nI_toInt (by omega)]
    omega
  have cg : ∀ {α : Type} (o : Option α), kCg (nI (k + 1)) (nI k) (nI (n - k - 1)) 20 20 o = o := by
    intro α o
    unfold kCg
    rw [if_neg]
    rw [kx_nI (by omega), kx_nI (by omega), kx_nI (by omega)]
    intro w
    rcases w with w | w | w | w | w
    · exact pos_nI (by omega) w
    · exact pos_nI (by omega) w
    · exact pos_nI (by omega) w
    · omega
    · omega
  have co : ∀ (g : kH) (a b : Nat), b ≠ a → hcpy g a a (k + 1) k (n - k - 1) b = g b := by
    intro g a b q
    funext j
    unfold hcpy
    rw [if_neg q]
  have ci : ∀ (g : kH) (a j : Nat), j < n - 1 → hcpy g a a (k + 1) k (n - k - 1) a j = if j < k then g a j else g a (j + 1) := by
    intro g a j hj
    unfold hcpy va_cpy
    rw [if_pos rfl]
    by_cases q : j < k
    · rw [if_neg (by omega), if_pos q]
    · rw [if_pos (by omega), if_neg q]
      congr 1
      omega
  unfold f_V_drop
  rw [h0, e1, e2, cg, kx_nI (by omega), kx_nI (by omega), kx_nI (by omega), kLet_s, cg, kLet_s, cg, kLet_s, kLet_s]
  refine ⟨_, rfl, fun a a7 a8 a9 a10 => ?_, ?_, fun a ha j hj => ?_⟩
  · rw [hs_of _ _ a7, co _ _ _ (by omega), co _ _ _ (by omega), co _ _ _ (by omega)]
  · rw [hs_eq, co _ _ _ (by omega), co _ _ _ (by omega), co _ _ _ (by omega), h0]
    obtain ⟨m, rfl⟩ : ∃ m, n = m + 1 := ⟨n - 1, by omega⟩
    rw [nI_s1, Nat.add_sub_cancel]
  · rw [hs_of _ _ (by omega)]
    rcases ha with rfl | rfl | rfl
    · rw [co _ _ _ (by decide), co _ _ _ (by decide), ci _ _ _ hj]
    · rw [co _ _ _ (by decide), ci _ _ _ hj, co _ _ _ (by decide)]
    · rw [ci _ _ _ hj, co _ _ _ (by decide), co _ _ _ (by decide)]
theorem C_move_loop {T : kT} {nm ni nv0 g : Nat} (I : Iv T nm ni nv0) (hg : g ≤ 9000) : ∀ (n f t : Nat) (P : Nat → Bool) (L : kQ) (h : kH), L.length = n → n < f → Qk nm t P L → Com h 1 (tQ T P t L) nm ni L.length →
    ∃ P' L' h', b_C_moveTo_8 1 (nI g) f h (nI n) = some h' ∧ Cls g n P L P' L' ∧ (∀ a, 71 ≤ a ∨ a = 0 → h' a = h a) ∧ Com h' 1 (tQ T P' g L') nm ni L'.length ∧ h' 1 0 = nI g ∧ L'.length ≤ 20 ∧ (∀ m, P' m = true → m < nm) ∧ ∀ e, e ∈ L' → e ∈ L := by
  have hn := I.n
  -- the end of the loop
  have fin : ∀ (t : Nat) (P : Nat → Bool) (L : kQ) (h : kH), Com h 1 (tQ T P t L) nm ni L.length → Com (hset h 1 0 (nI g)) 1 (tQ T P g L) nm ni L.length := by
    intro t P L h C
    refine Com.of ?_ (C.b.cong (hs_of _ _ (by decide)) fun k hk => by rw [tQ_0 (by omega) (by omega), tQ_0 (by omega) (by omega)]) (C.d.cong (hs_of _ _ (by decide)) (hs_of _ _ (by decide)) (hs_of _ _ (by decide)) fun m _ => ⟨by rw [tQ_1 (by decide), tQ_1 (by decide)], by rw [tQ_1 (by decide), tQ_1 (by decide)], by rw [tQ_1 (by decide), tQ_1 (by decide)]⟩) (C.f.cong (fun i d _ _ => hs_of _ _ (by omega)) (by rw [tQ_a (by decide) (by decide) (by decide), tQ_a (by decide) (by decide) (by decide)]) (by rw [tQ_a (by decide) (by decide) (by decide), tQ_a (by decide) (by decide) (by decide)]) (by rw [tQ_a (by decide) (by decide) (by decide), tQ_a (by decide) (by decide) (by decide)]) (by rw [tQ_a (by decide) (by decide) (by decide), tQ_a (by decide) (by decide) (by decide)])) (C.g.cong (hs_of _ _ (by decide)) (hs_of _ _ (by decide)) (hs_of _ _ (by decide)) ?_)
    · obtain ⟨a1, a2, a3, a4, a5, a6⟩ := C.a
      unfold cA
      rw [hs_eq, hs_ne _ _ (by omega), hs_ne _ _ (by omega), hs_ne _ _ (by omega), hs_ne _ _ (by omega), hs_ne _ _ (by omega), tQ_ps, tQ_06, tQ_010, tQ_0 (by decide) (by decide), tQ_0 (by decide) (by decide), tQ_0 (by decide) (by decide)]
      rw [tQ_ps] at a4
      rw [tQ_010] at a6
      rw [tQ_0 (by decide) (by decide)] at a2 a3 a5
      exact ⟨rfl, a2, a3, a4, a5, a6⟩
    · funext b c
      rw [tQ_6, tQ_6]
  intro n
  induction n with
  | zero =>
    intro f t P L h hl hf K C
    obtain ⟨f, rfl⟩ : ∃ g, f = g + 1 := ⟨f - 1, by omega⟩
    rw [b_C_moveTo_8]
    dsimp only
    rw [if_pos (show nI 0 ≤ 0 from by decide)]
    have e0 : L = [] := List.length_eq_zero_iff.mp hl
    refine ⟨P, L, hset h 1 0 (nI g), rfl, ⟨fun e he => ?_, rfl, rfl⟩, fun a ha => hs_of _ _ (by omega), fin t P L h C, hs_eq _ _ _ _, K.1, K.2.2, fun e he => he⟩
    rw [e0] at he
    exact absurd he List.not_mem_nil
  | succ n ih =>
    intro f t P L h hl hf K C
    obtain ⟨f, rfl⟩ : ∃ g, f = g + 1 := ⟨f - 1, by omega⟩
    have h0 : h 7 0 = nI (n + 1) := by
      have := C.a.2.2.2.2.2
      rw [tQ_010, hl] at this
      exact this
    have hk8 : ∀ k, k < n + 1 → h 8 k = nI (nth L k).1 ∧ h 9 k = nI (nth L k).2.1 ∧ h 10 k = nI (nth L k).2.2 := by
      intro k hk
      have := C.g k (by omega)
      rw [tQ_6, tQ_6, tQ_6] at this
      exact this
    have kb : ∀ k, k < n + 1 → t < (nth L k).1 ∧ (nth L k).1 ≤ 9600 ∧ (nth L k).2.1 < nm ∧ (nth L k).2.2 ≤ 1 := fun k hk => K.2.1 _ (nth_mem (by omega))
    have hl20 := K.1
    rw [b_C_moveTo_8]
    dsimp only
    rw [if_neg (show ¬ nI (n + 1) ≤ 0 from by rw [show (0 : Int32) = nI 0 from rfl, leI (by omega) (by omega)]; omega)]
    have nx : ∃ k, f_V_next h (1 + 6) = some (nI k) ∧ k < n + 1 ∧ (∀ j, j < n + 1 → (nth L k).1 ≤ (nth L j).1) ∧ ∀ j, j < k → (nth L k).1 < (nth L j).1 := by
      unfold f_V_next
      obtain ⟨F, hF⟩ : ∃ F, kFuel = F + 1 := ⟨19999, rfl⟩
      rw [hF, b_V_next_5, show 1 + 6 = 7 from rfl, h0]
      dsimp only
      rw [show (0 : Int32) = nI 0 from rfl, if_neg (nI_ge (by omega) (by omega)), if_pos rfl, nI_1]
      exact C_next (f := fun k => (nth L k).1) (by omega) h0 (fun k hk => ⟨(hk8 k hk).1, by have := kb k hk; omega⟩) n 1 0 F (by omega) (by have : kFuel = 20000 := rfl; omega) (by omega) (fun j hj => by
        obtain rfl : j = 0 := by omega
        exact Nat.le_refl _) (fun j hj => by omega)
    obtain ⟨k, k1, k2, k3, k4⟩ := nx
    obtain ⟨m1, m2, m3⟩ := hk8 k k2
    obtain ⟨b1, b2, b3, b4⟩ := kb k k2
    rw [k1, kBi_s, if_neg (n6_ne (by omega)), kG_nI (by omega) (by decide), kG_nI (by omega) (by decide), kx_nI (by omega), show 1 + 7 = 8 from rfl, show 1 + 8 = 9 from rfl, show 1 + 9 = 10 from rfl, m1, m2, m3]
    by_cases q : (nth L k).1 ≤ g
    · rw [if_pos (by rw [leI (by omega) (by omega)]; exact q), kLet_s, kG_nI (by omega) (by decide)]
      obtain ⟨A, B, hAB, hA⟩ := split_at (L := L) (k := k) (by omega)
      have hlen : (A ++ B).length = n := by
        have := congrArg List.length hAB
        rw [List.length_append, List.length_cons, hl] at this
        rw [List.length_append]
        omega
      have hmsk : msk P nm < 4096 := msk_12 _ hn.1
      have h3 : h 1 3 = nI (msk P nm) := by
        have := C.a.2.2.2.1
        rw [tQ_ps] at this
        exact this
      -- both ways lead to the same mask
      have step : ∀ s1, s1 = nI (msk (app P (nth L k)) nm) → ∃ P' L' h', b_C_moveTo_88 (fun h' x2' => b_C_moveTo_8 1 (nI g) f h' x2') h 1 (nI g) (nI (n + 1)) (nI k) 1 s1 = some h' ∧ Cls g (n + 1) P L P' L' ∧ (∀ a, 71 ≤ a ∨ a = 0 → h' a = h a) ∧ Com h' 1 (tQ T P' g L') nm ni L'.length ∧ h' 1 0 = nI g ∧ L'.length ≤ 20 ∧ (∀ m, P' m = true → m < nm) ∧ ∀ e, e ∈ L' → e ∈ L := by
        intro s1 hs1
        unfold b_C_moveTo_88
        have h0' : hset h 1 3 s1 7 0 = nI (n + 1) := by rw [hs_of _ _ (by decide)]; exact h0
        obtain ⟨d, d1, d2, d3, d4⟩ := C_drop (h := hset h 1 3 s1) (n := n + 1) (k := k) k2 (by omega) h0'
        rw [kLet_s, show 1 + 6 = 7 from rfl, d1, kBi_s, nI_m1]
        have o : ∀ a, a ≠ 1 → a ≠ 7 → a ≠ 8 → a ≠ 9 → a ≠ 10 → d a = h a := fun a a1 a7 a8 a9 a10 => (d2 a a7 a8 a9 a10).trans (hs_of _ _ a1)
        have Cd : Com d 1 (tQ T (app P (nth L k)) t (A ++ B)) nm ni (A ++ B).length := by
          refine Com.of ?_ (C.b.cong (o _ (by omega) (by omega) (by omega) (by omega) (by omega)) fun j hj => by rw [tQ_0 (by omega) (by omega), tQ_0 (by omega) (by omega)]) (C.d.cong (o _ (by omega) (by omega) (by omega) (by omega) (by omega)) (o _ (by omega) (by omega) (by omega) (by omega) (by omega)) (o _ (by omega) (by omega) (by omega) (by omega) (by omega)) fun m _ => ⟨by rw [tQ_1 (by decide), tQ_1 (by decide)], by rw [tQ_1 (by decide), tQ_1 (by decide)], by rw [tQ_1 (by decide), tQ_1 (by decide)]⟩) (C.f.cong (fun i d _ _ => o _ (by omega) (by omega) (by omega) (by omega) (by omega)) (by rw [tQ_a (by decide) (by decide) (by decide), tQ_a (by decide) (by decide) (by decide)]) (by rw [tQ_a (by decide) (by decide) (by decide), tQ_a (by decide) (by decide) (by decide)]) (by rw [tQ_a (by decide) (by decide) (by decide), tQ_a (by decide) (by decide) (by decide)]) (by rw [tQ_a (by decide) (by decide) (by decide), tQ_a (by decide) (by decide) (by decide)])) (fun j hj => ?_)
          · obtain ⟨a1, a2, a3, a4, a5, a6⟩ := C.a
            have e1 : d 1 = hset h 1 3 s1 1 := d2 1 (by decide) (by decide) (by decide) (by decide)
            unfold cA
            rw [e1, hs_eq, hs_ne _ _ (by omega), hs_ne _ _ (by omega), hs_ne _ _ (by omega), hs_ne _ _ (by omega), tQ_ps, tQ_06, tQ_010, tQ_0 (by decide) (by decide), tQ_0 (by decide) (by decide), tQ_0 (by decide) (by decide), hlen]
            rw [tQ_06] at a1
            rw [tQ_0 (by decide) (by decide)] at a2 a3 a5
            refine ⟨a1, a2, a3, hs1, a5, d3.trans ?_⟩
            rw [Nat.add_sub_cancel]
          · rw [hlen] at hj
            rw [tQ_6, tQ_6, tQ_6, nth_ab (e := nth L k), ← hAB, hA, show 1 + 7 = 8 from rfl, show 1 + 8 = 9 from rfl, show 1 + 9 = 10 from rfl, d4 8 (by omega) j (by omega), d4 9 (by omega) j (by omega), d4 10 (by omega) j (by omega), hs_of _ _ (show 8 ≠ 1 by decide), hs_of _ _ (show 9 ≠ 1 by decide), hs_of _ _ (show 10 ≠ 1 by decide)]
            by_cases w : j < k
            · rw [if_pos w, if_pos w, if_pos w, if_pos w]
              exact hk8 j (by omega)
            · rw [if_neg w, if_neg w, if_neg w, if_neg w]
              exact hk8 (j + 1) (by omega)
        have Kd : Qk nm t (app P (nth L k)) (A ++ B) := by
          rw [hAB] at K
          exact K.ap
        obtain ⟨P', L', h', r1, r2, r3, r4, r5, r6, r7, r8⟩ := ih f t (app P (nth L k)) (A ++ B) d hlen (by omega) Kd Cd
        refine ⟨P', L', h', r1, Or.inr ⟨A, nth L k, B, hAB, q, fun a ha => ?_, fun b hb => ?_, r2⟩, fun a ha => (r3 a ha).trans (o a (by omega) (by omega) (by omega) (by omega) (by omega)), r4, r5, r6, r7, fun e he => ?_⟩
        · obtain ⟨j, j1, j2⟩ := mem_nth ha
          have := k4 j (by omega)
          rw [show nth L j = a from by rw [hAB, nth_l j1, j2]] at this
          exact this
        · obtain ⟨j, j1, j2⟩ := mem_nth hb
          have hl2 : A.length + (B.length + 1) = n + 1 := by
            have := congrArg List.length hAB
            rw [List.length_append, List.length_cons, hl] at this
            omega
          have := k3 (k + (j + 1)) (by omega)
          rw [show nth L (k + (j + 1)) = b from by
            have z : nth (A ++ nth L k :: B) (A.length + (j + 1)) = b := by rw [nth_r, nth_s, j2]
            rw [← hAB, hA] at z
            exact z] at this
          exact this
        · have := r8 e he
          rw [hAB]
          rcases List.mem_append.mp this with z | z
          · simp [z]
          · simp [z]
      by_cases w : nI (nth L k).2.2 = 1
      · have w' : (nth L k).2.2 = 1 := by
          rw [show (1 : Int32) = nI 1 from rfl, eqI (by omega) (by decide)] at w
          exact w
        rw [if_pos w]
        exact step _ (by rw [msk_app P _ b3 hn.1, if_pos w', h3, set_bit (by omega)])
      · have w' : ¬ (nth L k).2.2 = 1 := fun z => w (by rw [z]; rfl)
        rw [if_neg w]
        exact step _ (by rw [msk_app P _ b3 hn.1, if_neg w', h3, clr_bit (by omega) (by omega)])
    · rw [if_neg (by rw [leI (by omega) (by omega)]; exact q)]
      refine ⟨P, L, hset h 1 0 (nI g), rfl, Or.inl ⟨fun e he => ?_, rfl, rfl⟩, fun a ha => hs_of _ _ (by omega), fin t P L h C, hs_eq _ _ _ _, K.1, K.2.2, fun e he => he⟩
      obtain ⟨j, j1, j2⟩ := mem_nth he
      have := k3 j (by omega)
      rw [j2] at this
      omega
