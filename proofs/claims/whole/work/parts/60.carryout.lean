/-! PURE: carryOut. -/
theorem bo_carryOut : Both (fun h => f_P_carryOut h) (fun h => f_M_carryOut h) := by
  intro h g
  obtain ⟨T, nm, ni, nv, u, sp, k⟩ := id g
  obtain ⟨I, C, R, H, S, P, e8⟩ := id k
  have hn := I.n
  obtain ⟨⟨s1, s2, s3, s4, s5⟩, _⟩ := id H
  obtain ⟨c, l, os, r, h1, q1, q2, q3, q4, q5, q6, q7, q8, q9⟩ := read_C P
  have o786 : h1 786 = h 786 := q7 786 (by decide) (by decide) (by decide) (by decide)
  have a1 : Asd h h1 := ⟨fun a ha => q7 a (by omega) (by omega) (by omega) (by omega), q8, by rw [o786], by rw [o786], by rw [o786]⟩
  cases r with
  | some x =>
    have hx := RdA.bad 81 0 os (Nat.zero_le _) q5
    have nx : ¬ rI (some x) = -6 := n6_ne (by omega)
    obtain ⟨h2, m1, m2, m3, m4⟩ := read_M (h := h1) q1 q2 (by rw [o786]; exact q3) (fun k hk => by rw [q7 792 (by decide) (by decide) (by decide) (by decide)]; exact q4 k hk) q5
    have a2 : Asd h1 h2 := ⟨fun a ha => m2 a (by omega) (by omega), by rw [m2 637 (by decide) (by decide)], m3 3 (by decide) (by decide) (by decide), m3 7 (by decide) (by decide) (by decide), m3 8 (by decide) (by decide) (by decide)⟩
    refine ⟨-3, h1, h2, ?_, ?_, T, nm, ni, nv, u, sp, k.aside (a1.trans a2)⟩
    · show f_P_carryOut h = _
      unfold f_P_carryOut
      rw [q6, kBd_s, if_neg nx]
    · show f_M_carryOut h1 = _
      unfold f_M_carryOut
      rw [m1, kBd_s, if_neg nx]
  | none =>
    obtain ⟨b1, b2⟩ := RdA.good 81 0 os q5
    obtain ⟨O1, O2⟩ := q9 rfl
    have k1 := k.aside a1
    obtain ⟨_, C1, R1, H1, _, _, _⟩ := id k1
    obtain ⟨h3, n1, n2, n3⟩ := Y_note C1 I H1
    have C3 : Com h3 1 T nm ni nv := C1.cong hn.2.1 fun a a1 a2 => n2 a (by omega)
    obtain ⟨n, T', nm', ni', nv', hn80, I', cc, mm⟩ := carry_all b2 (by omega) os.length 0 (by omega) T nm ni nv I
    have O3 : Os h3 os := Os.cong ⟨O1, O2⟩ (by rw [n2 637 (by omega)]) (n2 639 (by omega)) (n2 640 (by omega)) (n2 641 (by omega))
    obtain ⟨h4, c1, c2, c3⟩ := cc kFuel h3 (kF_lt (by omega)) C3 O3
    have e145 : hset h4 637 1 0 145 = h 145 := by
      rw [hs_of _ _ (by decide), c2 145 (by omega) (by omega) (by omega) (by omega), n2 145 (by omega)]
      exact q7 145 (by decide) (by decide) (by decide) (by decide)
    obtain ⟨h6, t1, t2, t3, t4⟩ := Y_settle_ok (h := hset h4 637 1 0) (u := u) (sp := sp) (er_n (j := n) (by omega)) (by rw [e145]; exact s3) (by rw [e145]; exact s4) s1 s2
    -- the class's cells then
    have o6 : ∀ a, (a = 0 ∨ 71 ≤ a) → a ≠ 142 → a ≠ 143 → a ≠ 144 → a ≠ 145 → a ≠ 637 → a ≠ 639 → a ≠ 640 → a ≠ 641 → (a < 147 + 70 * sp ∨ 217 + 70 * sp ≤ a) → h6 a = h a := fun a a0 a1 a2 a3 a4 a5 a6 a7 a8 a9 => (t2 a a4).trans ((hs_of _ _ a5).trans ((c2 a a0 a1 a2 a3).trans ((n2 a a9).trans (q7 a a5 a6 a7 a8))))
    have hi6 : ∀ a, 642 ≤ a → h6 a = h a := fun a q => o6 a (by omega) (by omega) (by omega) (by omega) (by omega) (by omega) (by omega) (by omega) (by omega) (by omega)
    obtain ⟨h7, m1, m2, m3, m4⟩ := read_M (h := h6) q1 q2 (by rw [hi6 786 (by omega)]; exact q3) (fun k hk => by rw [hi6 792 (by omega)]; exact q4 k hk) q5
    obtain ⟨M1, M2⟩ := m4 rfl
    have R7 : Row (h7 787) T nv := by rw [m2 787 (by decide) (by decide), hi6 787 (by omega)]; exact R
    have e3 : h7 786 3 = nI u := (m3 3 (by decide) (by decide) (by decide)).trans (by rw [hi6 786 (by omega)]; exact s5)
    have H7 : Hs h7 := ⟨u, s2, e3⟩
    have e88 : h7 786 8 = 0 := (m3 8 (by decide) (by decide) (by decide)).trans (by rw [hi6 786 (by omega)]; exact e8)
    have c8 : ∀ a, a ≠ 786 → hset (recd h7) 786 8 1 a = recd h7 a := fun a q => hs_of _ _ q
    have c9 : ∀ j, j ≠ 8 → hset (recd h7) 786 8 1 786 j = recd h7 786 j := fun j q => hs_ne _ _ (by omega)
    have c10 : hset (recd h7) 786 8 1 786 8 = 1 := hs_eq _ _ _ _
    have r3 : ∃ w, w ≤ 6 ∧ recd h7 786 3 = nI w := by
      unfold recd
      rw [if_pos e88]
      by_cases z : h7 786 3 = 6
      · rw [if_pos z]
        exact ⟨6, by decide, if_pos ⟨rfl, rfl⟩⟩
      · rw [if_neg z]
        have : u ≠ 6 := fun w => z (by rw [e3, w]; rfl)
        exact ⟨u + 1, by omega, (if_pos ⟨rfl, rfl⟩).trans (by rw [e3, nI_1])⟩
    obtain ⟨h9, d1, d2, d3⟩ := mm kFuel (hset (recd h7) 786 8 1) (kF_lt (by omega)) (by rw [c8 787 (by decide)]; exact recd_row R7) (by
      obtain ⟨w, w1, w2⟩ := r3
      exact ⟨w, w1, (c9 3 (by decide)).trans w2⟩) c10 (OsM.cong (h := h7) ⟨M1, M2⟩ ((c9 13 (by decide)).trans (recd_s h7 (by decide))) ((c8 796 (by decide)).trans (recd_o h7 (by decide) (by decide))))
    have g9 : ∀ a, a ≠ 786 → a ≠ 787 → a ≠ 793 → a ≠ 794 → a ≠ 795 → h9 a = recd h7 a := fun a a0 a1 a2 a3 a4 => (d2 a a1 a2 a3 a4).trans (c8 a a0)
    have g96 : ∀ j, j ≠ 8 → h9 786 j = recd h7 786 j := fun j q => by
      rw [d2 786 (by decide) (by decide) (by decide) (by decide)]
      exact c9 j q
    -- the end
    have f1 : ∀ a, a ≠ 786 → hset (hset h9 786 8 0) 786 7 0 a = h9 a := fun a q => by rw [hs_of _ _ q, hs_of _ _ q]
    have f2 : ∀ j, j ≠ 7 → j ≠ 8 → hset (hset h9 786 8 0) 786 7 0 786 j = h9 786 j := fun j j1 j2 => by rw [hs_ne _ _ (by omega), hs_ne _ _ (by omega)]
    have f3 : hset (hset h9 786 8 0) 786 7 0 786 7 = 0 := hs_eq _ _ _ _
    have f4 : hset (hset h9 786 8 0) 786 7 0 786 8 = 0 := by rw [hs_ne _ _ (by omega), hs_eq]
    have pC : f_P_carryOut h = some (nI n, h6) := by
      unfold f_P_carryOut
      rw [q6, kBd_s, if_pos (show rI none = -6 from rfl), n1, kBi_s]
      refine c1.trans ?_
      unfold b_P_carryOut_56 f_D_empty
      rw [kLet_s, kBd_s, t1, kBd_s]
    have pM : f_M_carryOut h6 = some (nI n, hset (hset h9 786 8 0) 786 7 0) := by
      unfold f_M_carryOut
      rw [m1, kBd_s, if_pos (show rI none = -6 from rfl), M_record H7, kBi_s, kLet_s]
      refine d1.trans ?_
      unfold b_M_carryOut_47
      rw [kLet_s, kLet_s]
    refine ⟨nI n, h6, _, pC, pM, ?_⟩
    generalize hset (hset h9 786 8 0) 786 7 0 = h10 at f1 f2 f3 f4
    have lo : ∀ a, a < 786 → h10 a = h6 a := fun a q => (f1 a (by omega)).trans ((g9 a (by omega) (by omega) (by omega) (by omega) (by omega)).trans ((recd_o h7 (by omega) (by omega)).trans (m2 a (by omega) (by omega))))
    have hi : ∀ a, (788 = a ∨ (789 < a ∧ a < 793)) → h10 a = h a := fun a q => (f1 a (by omega)).trans ((g9 a (by omega) (by omega) (by omega) (by omega) (by omega)).trans ((recd_o h7 (by omega) (by omega)).trans ((m2 a (by omega) (by omega)).trans (hi6 a (by omega)))))
    have hsp : ∀ a, 146 ≤ a → a < 637 → (a < 147 + 70 * sp ∨ 217 + 70 * sp ≤ a) → h7 a = h a := fun a a1 a2 a3 => (m2 a (by omega) (by omega)).trans (o6 a (by omega) (by omega) (by omega) (by omega) (by omega) (by omega) (by omega) (by omega) (by omega) a3)
    have ec : ∀ a, a ≠ 145 → (fun j => if a = 145 then h 145 j else h7 a j) = h7 a := fun a q => by
      funext j
      exact if_neg q
    have C4 : Com h4 (147 + 70 * sp) T nm ni nv := n3.cong hn.2.1 fun a a1 a2 => c2 a (by omega) (by omega) (by omega) (by omega)
    have Hm : Hist h10 (min (u + 1) 6) ((sp + 1) % 7) := by
      refine Hist.more (h := fun a j => if a = 145 then h 145 j else h7 a j) (T := T) (nm := nm) (ni := ni) (nv := nv) (u := u) (sp := sp) ?_ I ?_ ?_ ?_ ?_ (fun a a1 a2 a3 => ?_) ?_ ?_ ?_
      · refine H.cong ?_ ?_ ?_ (fun a a1 a2 a3 => ?_)
        · funext j; exact if_pos rfl
        · rw [if_neg (by decide), e3, s5]
        · rw [ec 789 (by decide), m2 789 (by decide) (by decide), hi6 789 (by omega)]
        · rw [ec a (by omega)]; exact hsp a (by omega) a2 a3
      · rw [ec 787 (by decide)]; exact R7
      · rw [if_neg (by decide)]; exact e88
      · rw [lo 145 (by omega)]; exact t3
      · rw [lo 145 (by omega)]; exact t4
      · rw [ec a (by omega), hsp a (by omega) a2 a3, lo a (by omega)]
        exact o6 a (by omega) (by omega) (by omega) (by omega) (by omega) (by omega) (by omega) (by omega) (by omega) a3
      · refine C4.cong hn.2.1 fun a a1 a2 => ?_
        rw [lo a (by omega), t2 a (by omega), hs_of _ _ (by omega)]
      · rw [f2 3 (by decide) (by decide), g96 3 (by decide), recd_cong (h := h7) (h' := fun a j => if a = 145 then h 145 j else h7 a j) (ec 786 (by decide)) (ec 787 (by decide)) (ec 789 (by decide)) (ec 786 (by decide))]
      · rw [f1 789 (by decide), g9 789 (by decide) (by decide) (by decide) (by decide) (by decide), recd_cong (h := h7) (h' := fun a j => if a = 145 then h 145 j else h7 a j) (ec 786 (by decide)) (ec 787 (by decide)) (ec 789 (by decide)) (ec 789 (by decide))]
    refine ⟨T', nm', ni', nv', min (u + 1) 6, (sp + 1) % 7, I', ?_, by rw [f1 787 (by decide)]; exact d3, Hm, ?_, ?_, f4⟩
    · refine c3.cong I'.n.2.1 fun a a1 a2 => ?_
      rw [lo a (by omega), t2 a (by omega), hs_of _ _ (by omega)]
    · exact S.cong (by rw [lo 643 (by omega), hi6 643 (by omega)]) (hi _ (by omega)) (hi _ (by omega)) (fun a a1 a2 => by rw [lo a a2, hi6 a (by omega)])
    · refine ⟨0, by decide, ?_, f3, fun k hk => absurd hk (Nat.not_lt_zero _)⟩
      rw [lo 637 (by omega), t2 637 (by decide), hs_eq]
      rfl
