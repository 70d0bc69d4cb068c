/-! PURE: undo, save, restore. -/
theorem M_undo_loop {u : Nat} (hu : u < 6) : ∀ (d k f : Nat) (h : kH), k + d = 760 → d < f → h 786 3 = nI u → b_M_undo_22 f h (nI k) = some (nI u, fun a j => if a = 787 ∧ k ≤ j ∧ j < 760 then h 789 (u * 760 + j) else h a j) := by
  intro d
  induction d with
  | zero =>
    intro k f h hk hf hs
    obtain ⟨f, rfl⟩ : ∃ g, f = g + 1 := ⟨f - 1, by omega⟩
    obtain rfl : k = 760 := hk
    rw [b_M_undo_22]
    dsimp only
    rw [if_pos (show (760 : Int32) ≤ nI 760 from by decide), hs]
    refine congrArg some (congrArg (Prod.mk _) (funext fun a => funext fun j => ?_))
    rw [if_neg (by omega)]
  | succ d ih =>
    intro k f h hk hf hs
    obtain ⟨f, rfl⟩ : ∃ g, f = g + 1 := ⟨f - 1, by omega⟩
    rw [b_M_undo_22]
    dsimp only
    rw [if_neg (show ¬ (760 : Int32) ≤ nI k from by rw [show (760 : Int32) = nI 760 from rfl, leI (by omega) (by omega)]; omega), hs, show (760 : Int32) = nI 760 from rfl, pk_mul, nI_add, kG_nI (by omega) (by omega), kG_nI (by omega) (by omega), kx_nI (by omega), kx_nI (by omega), nI_1, kLet_s, ih (k + 1) f _ (by omega) (by omega) (by rw [hs_o _ _ (by decide)]; exact hs)]
    refine congrArg some (congrArg (Prod.mk _) (funext fun a => funext fun j => ?_))
    by_cases z : a = 787 ∧ k ≤ j ∧ j < 760
    · rw [if_pos z]
      by_cases y : j = k
      · rw [if_neg (by omega), z.1, y, hs_eq]
      · rw [if_pos (by omega), hs_o _ _ (by decide)]
    · rw [if_neg z, if_neg (by omega), hs_ne _ _ (by omega)]
theorem M_save_loop {s : Nat} (hs : s < 2) : ∀ (d k f : Nat) (h : kH), k + d = 760 → d < f → b_M_save_14 (nI s) f h (nI k) = some (h 787 6, hset (fun a j => if a = 790 ∧ s * 760 + k ≤ j ∧ j < s * 760 + 760 then h 787 (j - s * 760) else h a j) 791 s 1) := by
  intro d
  induction d with
  | zero =>
    intro k f h hk hf
    obtain ⟨f, rfl⟩ : ∃ g, f = g + 1 := ⟨f - 1, by omega⟩
    obtain rfl : k = 760 := hk
    rw [b_M_save_14]
    dsimp only
    rw [if_pos (show (760 : Int32) ≤ nI 760 from by decide), kG_nI hs (by decide), kx_nI (by omega), kLet_s, g760_6, x_6, hs_o _ _ (by decide), show vp_nar .boolean 1 = 1 from by decide]
    refine congrArg some (congrArg (Prod.mk _) ?_)
    refine congrArg (fun g => hset g 791 s 1) (funext fun a => funext fun j => ?_)
    rw [if_neg (by omega)]
  | succ d ih =>
    intro k f h hk hf
    obtain ⟨f, rfl⟩ : ∃ g, f = g + 1 := ⟨f - 1, by omega⟩
    rw [b_M_save_14]
    dsimp only
    rw [if_neg (show ¬ (760 : Int32) ≤ nI k from by rw [show (760 : Int32) = nI 760 from rfl, leI (by omega) (by omega)]; omega), show (760 : Int32) = nI 760 from rfl, pk_mul, nI_add, kG_nI (by omega) (by omega), kG_nI (by omega) (by omega), kx_nI (by omega), kx_nI (by omega), nI_1, kLet_s, ih (k + 1) f _ (by omega) (by omega)]
    rw [hs_o _ _ (by decide)]
    refine congrArg some (congrArg (Prod.mk _) ?_)
    refine congrArg (fun g => hset g 791 s 1) (funext fun a => funext fun j => ?_)
    by_cases z : a = 790 ∧ s * 760 + k ≤ j ∧ j < s * 760 + 760
    · rw [if_pos z]
      by_cases y : j = s * 760 + k
      · rw [if_neg (by omega), z.1, y, hs_eq]
        exact congrArg (h 787) (by omega)
      · rw [if_pos (by omega), hs_o _ _ (by decide)]
    · rw [if_neg z, if_neg (by omega), hs_ne _ _ (by omega)]
theorem M_rest_loop {s : Nat} (hs : s < 2) : ∀ (d k f : Nat) (h : kH), k + d = 760 → d < f → (k ≤ 6 ∨ h 787 6 = h 790 (s * 760 + 6)) → b_M_restore_30 (nI s) f h (nI k) = some (h 790 (s * 760 + 6), fun a j => if a = 787 ∧ k ≤ j ∧ j < 760 then h 790 (s * 760 + j) else h a j) := by
  intro d
  induction d with
  | zero =>
    intro k f h hk hf h6
    obtain ⟨f, rfl⟩ : ∃ g, f = g + 1 := ⟨f - 1, by omega⟩
    obtain rfl : k = 760 := hk
    rw [b_M_restore_30]
    dsimp only
    rw [if_pos (show (760 : Int32) ≤ nI 760 from by decide), g760_6, x_6, h6.resolve_left (by decide)]
    refine congrArg some (congrArg (Prod.mk _) (funext fun a => funext fun j => ?_))
    rw [if_neg (by omega)]
  | succ d ih =>
    intro k f h hk hf h6
    obtain ⟨f, rfl⟩ : ∃ g, f = g + 1 := ⟨f - 1, by omega⟩
    rw [b_M_restore_30]
    dsimp only
    rw [if_neg (show ¬ (760 : Int32) ≤ nI k from by rw [show (760 : Int32) = nI 760 from rfl, leI (by omega) (by omega)]; omega), show (760 : Int32) = nI 760 from rfl, pk_mul, nI_add, kG_nI (by omega) (by omega), kG_nI (by omega) (by omega), kx_nI (by omega), kx_nI (by omega), nI_1, kLet_s, ih (k + 1) f _ (by omega) (by omega) (by
      rw [hs_o (b := 790) _ _ (by decide)]
      by_cases q : k = 6
      · right; rw [q, hs_eq]
      · rcases h6 with w | w
        · left; omega
        · right; rw [hs_ne _ _ (by omega)]; exact w)]
    rw [hs_o _ _ (by decide)]
    refine congrArg some (congrArg (Prod.mk _) (funext fun a => funext fun j => ?_))
    by_cases z : a = 787 ∧ k ≤ j ∧ j < 760
    · rw [if_pos z]
      by_cases y : j = k
      · rw [if_neg (by omega), z.1, y, hs_eq]
      · rw [if_pos (by omega), hs_o _ _ (by decide)]
    · rw [if_neg z, if_neg (by omega), hs_ne _ _ (by omega)]
theorem bo_undo : Both (fun h => f_P_undo h) (fun h => f_M_undo h) := by
  intro h g
  obtain ⟨T, nm, ni, nv, u, sp, I, C, R, H, S, P, e8⟩ := g
  obtain ⟨⟨s1, s2, s3, s4, s5⟩, s⟩ := id H
  have z6 : (nI u = 0) = (u = 0) := eqI (a := u) (b := 0) (by omega) (by decide)
  by_cases z : u = 0
  · refine ⟨-5, h, h, ?_, ?_, T, nm, ni, nv, u, sp, I, C, R, H, S, P, e8⟩
    · dsimp only
      unfold f_P_undo f_Y_takeBack
      rw [s4, if_pos (by rw [z6]; exact z), kBd_s]
    · dsimp only
      unfold f_M_undo
      rw [s5, if_pos (by rw [z6]; exact z)]
  · obtain ⟨w, rfl⟩ : ∃ w, u = w + 1 := ⟨u - 1, by omega⟩
    obtain ⟨T', nm', ni', nv', I', C', R'⟩ := s w (by omega)
    have ei : (sp + 7 - (w + 1) + w) % 7 = (sp + 6) % 7 := by omega
    rw [ei] at C'
    have e0 : (nI sp = 0) = (sp = 0) := eqI (a := sp) (b := 0) (by omega) (by decide)
    -- the ring's step back
    obtain ⟨g1, y1, y2, y3⟩ : ∃ g1, f_Y_takeBack h 145 1 = b_Y_takeBack_29 h 145 1 145 (nI ((sp + 6) % 7)) ∧ g1 = hset h 145 1 (nI ((sp + 6) % 7)) ∧ True := by
      refine ⟨_, ?_, rfl, trivial⟩
      unfold f_Y_takeBack
      rw [s4, if_neg (by rw [z6]; exact z), s3]
      by_cases q : sp = 0
      · rw [if_pos (by rw [e0]; exact q), q]; rfl
      · rw [if_neg (by rw [e0]; exact q)]
        obtain ⟨p, rfl⟩ : ∃ p, sp = p + 1 := ⟨sp - 1, by omega⟩
        rw [nI_s1, show (p + 1 + 6) % 7 = p by omega]
    have o1 : ∀ a, a ≠ 145 → g1 a = h a := fun a q => by rw [y2, hs_of _ _ q]
    have C1 : Com g1 (147 + 70 * ((sp + 6) % 7)) T' nm' ni' nv' := C'.cong I'.n.2.1 fun a a1 a2 => o1 a (by omega)
    obtain ⟨g2, c1, c2, c3⟩ := C_copyFrom (o := 1) C1 I' (by omega)
    have e2 : g2 145 2 = nI (w + 1) := by
      rw [c2 145 (by omega), y2, hs_ne _ _ (by omega)]
      exact s4
    have fp : f_P_undo h = some (nI w, hset g2 145 2 (nI w)) := by
      unfold f_P_undo
      rw [y1]
      unfold b_Y_takeBack_29
      rw [← y2, kLet_s, show g1 145 1 = nI ((sp + 6) % 7) from by rw [y2, hs_eq], kG_nI (by omega) (by decide), kx_nI (by omega), show 145 + 2 + 70 * ((sp + 6) % 7) = 147 + 70 * ((sp + 6) % 7) by omega, c1, kBi_s, e2, nI_s1, kLet_s, hs_eq, kBd_s]
    have o3 : ∀ a, 71 ≤ a → a ≠ 145 → hset g2 145 2 (nI w) a = h a := fun a q q' => by rw [hs_of _ _ q', c2 a (by omega), o1 a q']
    have e3 : hset (hset g2 145 2 (nI w)) 786 3 (nI w) 786 3 = nI w := hs_eq _ _ _ _
    have fm := M_undo_loop (u := w) (by omega) 760 0 kFuel (hset (hset g2 145 2 (nI w)) 786 3 (nI w)) rfl (kF_lt (by omega)) e3
    generalize hq : (fun a j => if a = 787 ∧ 0 ≤ j ∧ j < 760 then hset (hset g2 145 2 (nI w)) 786 3 (nI w) 789 (w * 760 + j) else hset (hset g2 145 2 (nI w)) 786 3 (nI w) a j) = q at fm
    refine ⟨nI w, hset g2 145 2 (nI w), q, fp, ?_, ?_⟩
    · dsimp only
      unfold f_M_undo
      rw [o3 786 (by omega) (by omega), s5, if_neg (by rw [z6]; exact z), nI_s1, kLet_s]
      exact fm
    · have q7 : ∀ j, j < 760 → q 787 j = h 789 (w * 760 + j) := fun j hj => by
        rw [← hq]
        dsimp only
        rw [if_pos (by omega), hs_of _ _ (by decide), o3 789 (by omega) (by omega)]
      have qo : ∀ a, a ≠ 787 → a ≠ 786 → q a = hset g2 145 2 (nI w) a := fun a q1 q2 => by
        rw [← hq]
        funext j
        dsimp only
        rw [if_neg (by omega), hs_of _ _ q2]
      have q6 : ∀ j, j ≠ 3 → q 786 j = h 786 j := fun j hj => by
        rw [← hq]
        dsimp only
        rw [if_neg (by omega), hs_ne _ _ (by omega), o3 786 (by omega) (by omega)]
      have q63 : q 786 3 = nI w := by
        rw [← hq]
        dsimp only
        rw [if_neg (by omega), hs_eq]
      have qh : ∀ a, 71 ≤ a → a ≠ 145 → a ≠ 786 → a ≠ 787 → q a = h a := fun a p1 p2 p3 p4 => (qo a p4 p3).trans (o3 a p1 p2)
      refine ⟨T', nm', ni', nv', w, (sp + 6) % 7, I', ?_, ?_, ⟨⟨by omega, by omega, ?_, ?_, q63⟩, fun j hj => ?_⟩, ?_, ?_, ?_⟩
      · exact c3.cong I'.n.2.1 fun a a1 a2 => (qo a (by omega) (by omega)).trans (hs_of _ _ (by omega))
      · exact R'.cong I'.n.2.2 fun k hk => q7 k hk
      · rw [qo 145 (by decide) (by decide), hs_ne _ _ (by omega), c2 145 (by omega), y2, hs_eq]
      · rw [qo 145 (by decide) (by decide), hs_eq]
      · obtain ⟨T2, nm2, ni2, nv2, i2, c2', r2⟩ := s j (by omega)
        refine ⟨T2, nm2, ni2, nv2, i2, ?_, ?_⟩
        · rw [show ((sp + 6) % 7 + 7 - w + j) % 7 = (sp + 7 - (w + 1) + j) % 7 by omega]
          exact c2'.cong i2.n.2.1 fun a a1 a2 => qh a (by omega) (by omega) (by omega) (by omega)
        · rw [qh 789 (by omega) (by omega) (by omega) (by omega)]
          exact r2
      · exact S.cong (qh _ (by omega) (by omega) (by omega) (by omega)) (qh _ (by omega) (by omega) (by omega) (by omega)) (qh _ (by omega) (by omega) (by omega) (by omega)) (fun a a1 a2 => qh a (by omega) (by omega) (by omega) (by omega))
      · exact P.cong (by rw [qh 637 (by omega) (by omega) (by omega) (by omega)]) (q6 7 (by decide)) (qh _ (by omega) (by omega) (by omega) (by omega)) (qh _ (by omega) (by omega) (by omega) (by omega))
      · rw [q6 8 (by decide)]; exact e8
theorem slot_2 {x : Int32} : (x < 0 ∨ 1 < x) ∨ ∃ s, s < 2 ∧ x = nI s := by
  rcases in_cases (x := x) (a := 0) (b := 1) (by decide) (by decide) with a | ⟨s, _, h, e⟩
  · exact Or.inl a
  · exact Or.inr ⟨s, by omega, e⟩
theorem lt2_of {x : Int32} (h : 1 < x) : ¬ x < 2 := by
  rw [fa_lt] at h ⊢
  have h1 : (1 : Int32).toInt = 1 := by decide
  have h2 : (2 : Int32).toInt = 2 := by decide
  omega
theorem bo_save (x : Int32) : Both (fun h => f_P_save h x) (fun h => f_M_save h x) := by
  intro h g
  obtain ⟨T, nm, ni, nv, u, sp, I, C, R, H, S, P, e8⟩ := g
  rcases slot_2 (x := x) with a | ⟨s, hs, rfl⟩
  · refine ⟨-2, h, h, ?_, ?_, T, nm, ni, nv, u, sp, I, C, R, H, S, P, e8⟩
    · dsimp only
      unfold f_P_save
      by_cases b : x < 0
      · rw [if_pos b]
      · rw [if_neg b, if_neg (lt2_of (a.resolve_left b))]
    · dsimp only
      unfold f_M_save
      rw [in_f a, if_neg (by decide)]
  · obtain ⟨g1, c1, c2, c3⟩ := C_copyFrom (o := 646 + 70 * s) C I (by omega)
    have t1 : h 1 0 = T 0 6 0 := C.a.1
    have t2 : h 787 6 = T 0 6 0 := R.1 6 (by decide)
    have fp : f_P_save h (nI s) = some (T 0 6 0, hset g1 643 s 1) := by
      unfold f_P_save
      rw [if_neg (pos_nI (by omega)), if_pos (by rw [show (2 : Int32) = nI 2 from rfl, ltI (by omega) (by omega)]; exact hs), kG_nI hs (by decide), kx_nI (by omega), c1, kBi_s, kG_nI hs (by decide), show vp_nar .boolean 1 = 1 from by decide, kLet_s, hs_o _ _ (by decide), c2 1 (by omega), t1]
    have o1 : ∀ a, a ≠ 643 → (a < 646 + 70 * s ∨ 716 + 70 * s ≤ a) → hset g1 643 s 1 a = h a := fun a q q' => by rw [hs_of _ _ q, c2 a (by omega)]
    have fm := M_save_loop hs 760 0 kFuel (hset g1 643 s 1) rfl (kF_lt (by omega))
    generalize hq : hset (fun a j => if a = 790 ∧ s * 760 + 0 ≤ j ∧ j < s * 760 + 760 then hset g1 643 s 1 787 (j - s * 760) else hset g1 643 s 1 a j) 791 s 1 = q at fm
    refine ⟨T 0 6 0, hset g1 643 s 1, q, fp, ?_, ?_⟩
    · dsimp only
      unfold f_M_save
      rw [show f_M_in (nI s) 0 1 = true from in_nI (a := 0) (by omega) (show s ≤ 1 by omega) (by decide), if_pos rfl]
      rw [o1 787 (by omega) (by omega), t2] at fm
      exact fm
    · have q0 : ∀ k, k < 760 → q 790 (s * 760 + k) = h 787 k := fun k hk => by
        rw [← hq, hs_o _ _ (by decide), if_pos (by omega), o1 787 (by omega) (by omega), Nat.add_sub_cancel_left]
      have q0' : ∀ j, ¬ (s * 760 ≤ j ∧ j < s * 760 + 760) → q 790 j = h 790 j := fun j hj => by
        rw [← hq, hs_o _ _ (by decide), if_neg (by omega), o1 790 (by omega) (by omega)]
      have q1 : ∀ j, q 791 j = if j = s then 1 else h 791 j := fun j => by
        rw [← hq]
        by_cases z : j = s
        · rw [z, hs_eq, if_pos rfl]
        · rw [hs_ne _ _ (by omega), if_neg (by omega), o1 791 (by omega) (by omega), if_neg z]
      have qo : ∀ a, a ≠ 790 → a ≠ 791 → q a = hset g1 643 s 1 a := fun a p1 p2 => by
        rw [← hq, hs_of _ _ p2]
        funext j
        rw [if_neg (by omega)]
      have qh : ∀ a, a ≠ 643 → (a < 646 + 70 * s ∨ 716 + 70 * s ≤ a) → a ≠ 790 → a ≠ 791 → q a = h a := fun a p1 p2 p3 p4 => (qo a p3 p4).trans (o1 a p1 p2)
      refine ⟨T, nm, ni, nv, u, sp, I, C.cong I.n.2.1 fun a a1 a2 => qh a (by omega) (by omega) (by omega) (by omega), by rw [qh 787 (by omega) (by omega) (by omega) (by omega)]; exact R, H.cong (qh _ (by omega) (by omega) (by omega) (by omega)) (by rw [qh 786 (by omega) (by omega) (by omega) (by omega)]) (qh _ (by omega) (by omega) (by omega) (by omega)) (fun a a1 a2 a3 => qh a (by omega) (by omega) (by omega) (by omega)), fun s' hs' => ?_, P.cong (by rw [qh 637 (by omega) (by omega) (by omega) (by omega)]) (by rw [qh 786 (by omega) (by omega) (by omega) (by omega)]) (qh _ (by omega) (by omega) (by omega) (by omega)) (qh _ (by omega) (by omega) (by omega) (by omega)), by rw [qh 786 (by omega) (by omega) (by omega) (by omega)]; exact e8⟩
      by_cases z : s' = s
      · refine Or.inr ⟨?_, by rw [q1, if_pos z], T, nm, ni, nv, I, ?_, R.cong I.n.2.2 fun k hk => ?_⟩
        · rw [z, qo 643 (by decide) (by decide), hs_eq]
        · rw [z]
          exact c3.cong I.n.2.1 fun a a1 a2 => (qo a (by omega) (by omega)).trans (hs_of _ _ (by omega))
        · rw [z]
          exact q0 k hk
      · have e643 : q 643 s' = h 643 s' := by rw [qo 643 (by decide) (by decide), hs_ne _ _ (by omega), c2 643 (by omega)]
        rcases S s' hs' with ⟨a, b⟩ | ⟨a, b, T2, nm2, ni2, nv2, i2, cc, r2⟩
        · exact Or.inl ⟨e643.trans a, by rw [q1, if_neg z]; exact b⟩
        · refine Or.inr ⟨e643.trans a, by rw [q1, if_neg z]; exact b, T2, nm2, ni2, nv2, i2, cc.cong i2.n.2.1 fun a a1 a2 => qh a (by omega) (by omega) (by omega) (by omega), r2.cong i2.n.2.2 fun k hk => q0' _ ?_⟩
          have : (s = 0 ∧ s' = 1) ∨ (s = 1 ∧ s' = 0) := by omega
          omega
theorem bo_restore (x : Int32) : Both (fun h => f_P_restore h x) (fun h => f_M_restore h x) := by
  intro h g
  obtain ⟨T, nm, ni, nv, u, sp, I, C, R, H, S, P, e8⟩ := id g
  rcases slot_2 (x := x) with a | ⟨s, hs, rfl⟩
  · refine ⟨-2, h, h, ?_, ?_, g⟩
    · dsimp only
      unfold f_P_restore
      by_cases b : x < 0
      · rw [if_pos b]
      · rw [if_neg b, if_neg (lt2_of (a.resolve_left b))]
    · dsimp only
      unfold f_M_restore
      rw [in_f a, if_neg (by decide)]
  · have l2 : nI s < 2 := by rw [show (2 : Int32) = nI 2 from rfl, ltI (by omega) (by omega)]; exact hs
    have m2 : f_M_in (nI s) 0 1 = true := in_nI (a := 0) (by omega) (show s ≤ 1 by omega) (by decide)
    rcases S s hs with ⟨a, b⟩ | ⟨a, b, T', nm', ni', nv', I', C', R'⟩
    · refine ⟨-5, h, h, ?_, ?_, g⟩
      · dsimp only
        unfold f_P_restore
        rw [if_neg (pos_nI (by omega)), if_pos l2, kG_nI hs (by decide), kx_nI (by omega), if_pos a]
      · dsimp only
        unfold f_M_restore
        rw [m2, if_pos rfl, kG_nI hs (by decide), kx_nI (by omega), if_pos b]
    · obtain ⟨t, t1, t2, _⟩ := I'.t
      obtain ⟨h1, h2, h3, h4, n1, c1, y1, w1, g4⟩ := turnX (FC := fun h1 => kBi (f_C_copyFrom h1 1 (646 + 70 * s)) fun h3 => some (h3 1 0, h3)) (FM := fun h => f_M_restore h (nI s)) ⟨I, C, R, H, S, P, e8⟩ (v := nI t) (er_n (by omega)) I' (fun h1 e C1 => by
          have Cs : Com h1 (646 + 70 * s) T' nm' ni' nv' := C'.cong I'.n.2.1 fun a a1 a2 => e a (by omega)
          obtain ⟨g2, c1, c2, c3⟩ := C_copyFrom (o := 1) Cs I' (by omega)
          refine ⟨g2, ?_, fun a a0 _ _ _ => c2 a (by omega), c3⟩
          rw [c1, kBi_s, c3.a.1, t2]) (fun h3 e R3 Hs3 => by
          have rl := M_rest_loop hs 760 0 kFuel (recd h3) rfl (kF_lt (by omega)) (Or.inl (by omega))
          have r0 : recd h3 790 = h 790 := (recd_o h3 (by decide) (by decide)).trans (e 790 (by omega))
          rw [r0] at rl
          refine ⟨fun a j => if a = 787 ∧ 0 ≤ j ∧ j < 760 then h 790 (s * 760 + j) else recd h3 a j, ?_, MFs.one fun a p => ?_, ?_⟩
          · unfold f_M_restore
            rw [m2, if_pos rfl, kG_nI hs (by decide), kx_nI (by omega), e 791 (by omega), b, if_neg (by decide), M_record Hs3, kBi_s, ← t2, ← R'.1 6 (by decide)]
            exact rl
          · funext j
            exact if_neg (by omega)
          · exact R'.cong I'.n.2.2 fun k hk => if_pos (by omega))
      refine ⟨nI t, h3, h4, ?_, w1, g4⟩
      dsimp only
      unfold f_P_restore
      rw [if_neg (pos_nI (by omega)), if_pos l2, kG_nI hs (by decide), kx_nI (by omega), a, if_neg (by decide), n1, kBi_s, kG_nI hs (by decide)]
      have : ∀ (o : Option kH), kBi o (fun h3 => some (h3 1 0, h3)) = some (nI t, h2) → kBi o (fun h3 => kBd (f_Y_settle h3 145 (h3 1 0)) fun v5 h4 => some (v5, h4)) = kBd (f_Y_settle h2 145 (nI t)) fun v5 h4 => some (v5, h4) := by
        intro o ho
        cases o with
        | none => cases ho
        | some z =>
          have ho' : some (z 1 0, z) = some (nI t, h2) := ho
          have e1 := congrArg Prod.fst (Option.some.inj ho')
          have e2 := congrArg Prod.snd (Option.some.inj ho')
          dsimp only at e1 e2
          rw [kBi_s, e1, e2]
      rw [this _ c1, y1, kBd_s]
