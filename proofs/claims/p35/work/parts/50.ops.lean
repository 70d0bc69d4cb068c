/-! PURE: the class's calls, each with its answer and its new state. -/
/-- what the law has made for itself stays as it is -/
def Fr (h h' : kH) : Prop := ∀ a, 786 ≤ a → h' a = h a
theorem Fr.rfl' {h : kH} : Fr h h := fun _ _ => rfl
theorem Fr.trans {h g k : kH} (a : Fr h g) (b : Fr g k) : Fr h k := fun x q => (b x q).trans (a x q)
def St (h : kH) (T : kT) (nm ni nv : Nat) : Prop := Iv T nm ni nv ∧ Com h 1 T nm ni nv ∧ ∃ sp u, sp < 7 ∧ u ≤ 6 ∧ h 145 1 = nI sp ∧ h 145 2 = nI u
/-- a call of the committee: answers v, and makes T' of T -/
def Opn (F : kH → Option (Int32 × kH)) (T : kT) (nm ni nv : Nat) (v : Int32) (T' : kT) (nm' ni' nv' : Nat) : Prop := Iv T' nm' ni' nv' ∧ ∀ h, Com h 1 T nm ni nv → ∃ h', F h = some (v, h') ∧ CFs h h' ∧ Com h' 1 T' nm' ni' nv'
theorem CFe.rfl' {h : kH} : CFe h h := fun _ _ _ _ => rfl
theorem CFe.trans {h g k : kH} (a : CFe h g) (b : CFe g k) : CFe h k := fun x x1 x2 x3 => (b x x1 x2 x3).trans (a x x1 x2 x3)
theorem CFe.fr {h g : kH} (a : CFe h g) : Fr h g := fun x q => a x (by omega) (by omega) (by omega)
theorem Opn.same {F : kH → Option (Int32 × kH)} {T : kT} {nm ni nv : Nat} {v : Int32} (I : Iv T nm ni nv) (c : ∀ h, Com h 1 T nm ni nv → ∃ h', F h = some (v, h') ∧ CFe h h') : Opn F T nm ni nv v T nm ni nv :=
  ⟨I, fun h C => by
    obtain ⟨h', e1, e2⟩ := c h C
    exact ⟨h', e1, e2.s, e2.com C I.n.2.1⟩⟩
theorem Opn.err {F : kH → Option (Int32 × kH)} {T : kT} {nm ni nv : Nat} {v : Int32} (I : Iv T nm ni nv) (c : ∀ h, Com h 1 T nm ni nv → F h = some (v, h)) : Opn F T nm ni nv v T nm ni nv := Opn.same I fun h C => ⟨h, c h C, CFe.rfl'⟩
theorem Y_noteS {h : kH} {T : kT} {nm ni nv sp : Nat} (C : Com h 1 T nm ni nv) (I : Iv T nm ni nv) (s1 : sp < 7) (s3 : h 145 1 = nI sp) : ∃ h', f_Y_note h 145 1 = some h' ∧ ∀ a, (a < 147 + 70 * sp ∨ 217 + 70 * sp ≤ a) → h' a = h a := by
  obtain ⟨h', r1, r2, r3⟩ := C_copyFrom (o := 147 + 70 * sp) C I (by omega)
  refine ⟨h', ?_, fun a ha => r2 a (by omega)⟩
  unfold f_Y_note
  rw [s3, kG_nI s1 (by decide), kx_nI (by omega), show 145 + 2 + 70 * sp = 147 + 70 * sp by omega, r1, kBi_s]
theorem St.turn {FC FP : kH → Option (Int32 × kH)} {T T' : kT} {nm ni nv nm' ni' nv' : Nat} {v : Int32} {h : kH} (O : Opn FC T nm ni nv v T' nm' ni' nv') (e : ∀ h, FP h = kBi (f_Y_note h 145 1) fun h1 => kBd (FC h1) fun v3 h2 => kBd (f_Y_settle h2 145 v3) fun v5 h4 => some (v5, h4)) (S : St h T nm ni nv) : ∃ h', FP h = some (v, h') ∧ St h' T' nm' ni' nv' ∧ Fr h h' := by
  obtain ⟨I, C, sp, u, s1, s2, s3, s4⟩ := S
  obtain ⟨I', O⟩ := O
  obtain ⟨h1, n1, n2⟩ := Y_noteS C I s1 s3
  have C1 : Com h1 1 T nm ni nv := C.cong I.n.2.1 fun a a1 a2 => n2 a (by omega)
  obtain ⟨h2, c1, c2, c3⟩ := O h1 C1
  have o2 : ∀ a, (a = 0 ∨ 71 ≤ a) → a ≠ 142 → a ≠ 143 → a ≠ 144 → (a < 147 + 70 * sp ∨ 217 + 70 * sp ≤ a) → h2 a = h a := fun a a0 a1 a2 a3 a4 => (c2 a a0 a1 a2 a3).trans (n2 a a4)
  have e145 : h2 145 = h 145 := o2 145 (by omega) (by omega) (by omega) (by omega) (by omega)
  rw [e h, n1, kBi_s, c1, kBd_s]
  cases w1 : f_P_isError v with
  | true =>
    rw [Y_settle_err w1, kBd_s]
    exact ⟨h2, rfl, ⟨I', c3, sp, u, s1, s2, by rw [e145]; exact s3, by rw [e145]; exact s4⟩, fun a q => o2 a (by omega) (by omega) (by omega) (by omega) (by omega)⟩
  | false =>
    obtain ⟨h3, t1, t2, t3, t4⟩ := Y_settle_ok (h := h2) (u := u) (sp := sp) w1 (by rw [e145]; exact s3) (by rw [e145]; exact s4) s1 s2
    rw [t1, kBd_s]
    refine ⟨h3, rfl, ⟨I', c3.cong I'.n.2.1 fun a a1 a2 => t2 a (by omega), (sp + 1) % 7, min (u + 1) 6, Nat.mod_lt _ (by decide), Nat.min_le_right _ _, t3, t4⟩, fun a q => (t2 a (by omega)).trans (o2 a (by omega) (by omega) (by omega) (by omega) (by omega))⟩
theorem St.ask {h h' : kH} {T : kT} {nm ni nv : Nat} (S : St h T nm ni nv) (e : CFe h h') : St h' T nm ni nv := by
  obtain ⟨I, C, sp, u, s1, s2, s3, s4⟩ := S
  have e145 := e 145 (by decide) (by decide) (by decide)
  exact ⟨I, e.com C I.n.2.1, sp, u, s1, s2, by rw [e145]; exact s3, by rw [e145]; exact s4⟩
section
variable {T : kT} {nm ni nv : Nat}
theorem op_set (I : Iv T nm ni nv) {j y : Nat} (hj : j < 6) (hy : y ≤ sHi j) : Opn (fun h => f_C_changeSetting h 1 (nI j) (nI y)) T nm ni nv (T 0 j 0) (ts T 0 j 0 (nI y)) nm ni nv := by
  have hn := I.n
  have hs := sHi_le j
  refine ⟨I.of0 (fun a q => ts_o T _ q) ?_ (ts_ne _ _ (by omega)) (set_S I.s hj hy) ?_, fun h C => ?_⟩
  · rw [ts_ne _ _ (by omega), ts_ne _ _ (by omega), ts_ne _ _ (by omega)]; exact I.c
  · unfold iH
    rw [ts_ne _ _ (by omega)]; exact I.h
  · refine ⟨hset h 2 j (nI y), ?_, fun a q _ _ _ => hs_of h _ (by omega), C.setting hn.2.1 hj _⟩
    try dsimp only
    unfold f_C_changeSetting
    rw [if_neg (pos_nI (by omega)), if_neg (by rw [show (6 : Int32) = nI 6 from rfl, leI (by omega) (by omega)]; omega), if_neg (pos_nI (by omega)), kG_nI hj (by decide), kG_nI hj (by decide), kG_nI hj (by decide), kx_nI (by omega), kHigh_n, if_pos (by rw [leI (by omega) (by omega)]; exact hy), C.b j hj]
    rfl
theorem op_chair (I : Iv T nm ni nv) {j : Nat} (hj : j < nm) : Opn (fun h => f_C_nameChair h 1 (nI j)) T nm ni nv (T 0 9 0) (ts T 0 9 0 (nI j)) nm ni nv := by
  have hn := I.n
  refine ⟨I.of0 (fun a q => ts_o T _ q) ?_ (ts_ne _ _ (by omega)) ?_ ?_, fun h C => ?_⟩
  · rw [ts_ne _ _ (by omega), ts_ne _ _ (by omega), ts_ne _ _ (by omega)]; exact I.c
  · unfold iS
    rw [ts_ne _ _ (by omega), ts_ne _ _ (by omega), ts_ne _ _ (by omega), ts_ne _ _ (by omega), ts_ne _ _ (by omega), ts_ne _ _ (by omega)]
    exact I.s
  · unfold iH
    rw [ts_eq]
    exact ⟨Or.inr ⟨j, hj, rfl⟩, fun _ => n6_ne (by omega)⟩
  · refine ⟨hset h 1 4 (nI j), ?_, fun a q _ _ _ => hs_of h _ (by omega), C.scal ?_ (fun a q => hs_of h _ q) (fun k hk => ts_ne _ _ (by omega)) (fun m => ⟨rfl, rfl, rfl⟩) (ts_o T _ (by decide)) (ts_o T _ (by decide)) (ts_o T _ (by decide)) (ts_o T _ (by decide)) (ts_o T _ (by decide))⟩
    · try dsimp only
      unfold f_C_nameChair
      rw [C_hasMember_ok C I hj, if_pos rfl, C.a.2.2.2.2.1]
      rfl
    · obtain ⟨a1, a2, a3, a4, a5, a6⟩ := C.a
      unfold cA
      rw [hs_eq, hs_ne _ _ (by omega), hs_ne _ _ (by omega), hs_ne _ _ (by omega), hs_ne _ _ (by omega), hs_ne _ _ (by omega), ts_eq, ps_cong (ts_o T _ (by decide)), ts_ne _ _ (by omega), ts_ne _ _ (by omega), ts_ne _ _ (by omega), ts_ne _ _ (by omega)]
      exact ⟨a1, a2, a3, a4, rfl, a6⟩
abbrev fTurn (come : Bool) (m : Nat) : kH → Option (Int32 × kH) := fun h => if come = true then f_C_bringIn h 1 (nI m) else f_C_sendAway h 1 (nI m)
theorem op_turn_no (I : Iv T nm ni nv) {come : Bool} {m : Nat} (hm : m < nm) (q : ps T m = come) : Opn (fTurn come m) T nm ni nv (-5) T nm ni nv := Opn.err I fun h C => by
  show (if come = true then f_C_bringIn h 1 (nI m) else f_C_sendAway h 1 (nI m)) = _
  unfold f_C_bringIn f_C_sendAway
  rw [C_hasMember_ok C I hm, C_isPresent C I hm, q]
  cases come <;> rfl
theorem op_turn (I : Iv T nm ni nv) {come : Bool} {m : Nat} (hm : m < nm) (q : ¬ ps T m = come) : Opn (fTurn come m) T nm ni nv (nI (fb_ct (fun j => (msk (ps (ts T 1 m 2 (kB2 come))) nm).testBit j) 12)) (ts T 1 m 2 (kB2 come)) nm ni nv := by
  have hn := I.n
  have hv : (kB2 come = 1) = (come = true) := by cases come <;> simp <;> decide
  have mk' : msk (ps (ts T 1 m 2 (kB2 come))) nm = if come = true then msk (ps T) nm ||| 2 ^ m else msk (ps T) nm &&& (4294967295 - 2 ^ m) := by
    rw [msk_ps T nm m (kB2 come) hm hn.1]
    simp only [hv]
  have h4 : msk (ps (ts T 1 m 2 (kB2 come))) nm < 4096 := msk_12 _ hn.1
  have h4' : msk (ps T) nm < 4096 := msk_12 _ hn.1
  have I1 : Iv (ts T 1 m 2 (kB2 come)) nm ni nv := by
    refine I.of1 (fun a q => ts_o T _ q) (fun j hj => ?_)
    obtain ⟨b1, b2, b3, b4, b5⟩ := I.m hj
    unfold iM
    rw [ts_o T _ (show 2 ≠ 1 by decide), ts_ne T (b' := j) (c' := 3) _ (by omega), ts_ne T (b' := j) (c' := 0) _ (by omega), ts_ne T (b' := j) (c' := 1) _ (by omega), ts_ne T (b' := j) (c' := 4) _ (by omega)]
    refine ⟨?_, b2, b3, b4, b5⟩
    by_cases z : j = m
    · rw [z, ts_eq]
      cases come
      · exact Or.inl rfl
      · exact Or.inr ⟨rfl, hm⟩
    · rw [ts_ne _ _ (by omega)]
      exact b1
  refine ⟨I1, fun h C => ?_⟩
  refine ⟨hset h 1 3 (nI (msk (ps (ts T 1 m 2 (kB2 come))) nm)), ?_, fun a q _ _ _ => hs_of h _ (by omega), C.scal ?_ (fun a q => hs_of h _ q) (fun k hk => rfl) (fun j => ⟨ts_ne _ _ (by omega), ts_ne _ _ (by omega), ts_ne _ _ (by omega)⟩) (ts_o T _ (by decide)) (ts_o T _ (by decide)) (ts_o T _ (by decide)) (ts_o T _ (by decide)) (ts_o T _ (by decide))⟩
  · have e3 := C.a.2.2.2.1
    show (if come = true then f_C_bringIn h 1 (nI m) else f_C_sendAway h 1 (nI m)) = _
    unfold f_C_bringIn f_C_sendAway
    rw [C_hasMember_ok C I hm, C_isPresent C I hm, e3, if_pos rfl, if_pos rfl]
    cases come with
    | true =>
      rw [if_pos rfl, if_neg q, set_bit (by omega), kLet_s, hs_eq, mk', if_pos rfl, bc_small _ (by rw [mk', if_pos rfl] at h4; exact h4)]
    | false =>
      rw [if_neg (by decide), if_pos (by simpa using q), clr_bit (by omega) (by omega), kLet_s, hs_eq, mk', if_neg (by decide), bc_small _ (by rw [mk', if_neg (by decide)] at h4; exact h4)]
  · obtain ⟨a1, a2, a3, a4, a5, a6⟩ := C.a
    unfold cA
    rw [hs_eq, hs_ne _ _ (by omega), hs_ne _ _ (by omega), hs_ne _ _ (by omega), hs_ne _ _ (by omega), hs_ne _ _ (by omega)]
    exact ⟨a1, a2, a3, rfl, a5, a6⟩
theorem op_member (I : Iv T nm ni nv) {w q : Nat} (hm : nm < 12) (hw : 1 ≤ w ∧ w ≤ 9) (hq : q ≤ 3) : Opn (fun h => f_C_addMember h 1 (nI w) (nI q)) T nm ni nv (nI nm) (tMem T nm w q) (nm + 1) ni nv := by
  have hn := I.n
  have c1 : ¬ nI w < 1 := by rw [show (1 : Int32) = nI 1 from rfl, ltI (by omega) (by omega)]; omega
  have c2 : ¬ (9 : Int32) < nI w := by rw [show (9 : Int32) = nI 9 from rfl, ltI (by omega) (by omega)]; omega
  have d1 : ¬ nI q < 0 := pos_nI (by omega)
  have d2 : nI q ≤ 3 := by rw [show (3 : Int32) = nI 3 from rfl, leI (by omega) (by omega)]; omega
  refine ⟨I.member hm hw hq, fun h C => ?_⟩
  have e1 : h 1 1 = nI nm := C.a.2.1.trans I.c.1
  try dsimp only
  unfold f_C_addMember b_C_addMember_78
  rw [if_neg c1, if_neg c2, if_neg d1, if_pos d2, e1, if_pos (by rw [n12 hn.1]; exact hm)]
  simp only [kLet, show (1 : Nat) + 2 = 3 from rfl, show (1 : Nat) + 3 = 4 from rfl, show (1 : Nat) + 4 = 5 from rfl, hs_o _ _ (show (1 : Nat) ≠ 3 by decide), hs_o _ _ (show (1 : Nat) ≠ 4 by decide), hs_o _ _ (show (1 : Nat) ≠ 5 by decide), e1, kG_nI hm (show 12 < 2 ^ 31 by decide), kx_nI (show nm < 2 ^ 31 by omega), hs_ne _ _ (show ¬ ((1 : Nat) = 1 ∧ 1 = 4) by decide), nI_1]
  by_cases z : nm = 0
  · rw [if_pos (by rw [z12 hn.1]; exact z)]
    refine ⟨_, rfl, fun a p _ _ _ => ?_, C_mem C I hm (fun a p1 p3 p4 p5 => ?_) (fun k k1 k4 => ?_) (hs_eq _ _ _ _) ?_ ?_ ?_ ?_⟩
    · rw [hs_of _ _ (by omega), hs_of _ _ (by omega), hs_of _ _ (by omega), hs_of _ _ (by omega), hs_of _ _ (by omega)]
    · rw [hs_of _ _ (by omega), hs_of _ _ (by omega), hs_of _ _ (by omega), hs_of _ _ (by omega), hs_of _ _ (by omega)]
    · rw [hs_ne _ _ (by omega), hs_ne _ _ (by omega), hs_o _ _ (by omega), hs_o _ _ (by omega), hs_o _ _ (by omega)]
    · rw [hs_ne _ _ (by omega), hs_eq, if_pos z]
    · rw [hs_of _ _ (by omega), hs_of _ _ (by omega), hs_of _ _ (by omega), hs_of _ _ (by omega), hs_ru]
    · rw [hs_of _ _ (by omega), hs_of _ _ (by omega), hs_of _ _ (by omega), hs_ru, hs_of _ _ (by omega)]
    · rw [hs_of _ _ (by omega), hs_of _ _ (by omega), hs_ru, hs_of _ _ (by omega), hs_of _ _ (by omega)]
  · rw [if_neg (by rw [z12 hn.1]; exact z)]
    refine ⟨_, rfl, fun a p _ _ _ => ?_, C_mem C I hm (fun a p1 p3 p4 p5 => ?_) (fun k k1 k4 => ?_) (hs_eq _ _ _ _) ?_ ?_ ?_ ?_⟩
    · rw [hs_of _ _ (by omega), hs_of _ _ (by omega), hs_of _ _ (by omega), hs_of _ _ (by omega)]
    · rw [hs_of _ _ (by omega), hs_of _ _ (by omega), hs_of _ _ (by omega), hs_of _ _ (by omega)]
    · rw [hs_ne _ _ (by omega), hs_o _ _ (by omega), hs_o _ _ (by omega), hs_o _ _ (by omega)]
    · rw [hs_ne _ _ (by omega), hs_o _ _ (by omega), hs_o _ _ (by omega), hs_o _ _ (by omega), if_neg z]
      exact C.a.2.2.2.2.1
    · rw [hs_of _ _ (by omega), hs_of _ _ (by omega), hs_of _ _ (by omega), hs_ru]
    · rw [hs_of _ _ (by omega), hs_of _ _ (by omega), hs_ru, hs_of _ _ (by omega)]
    · rw [hs_of _ _ (by omega), hs_ru, hs_of _ _ (by omega), hs_of _ _ (by omega)]
theorem op_item (I : Iv T nm ni nv) {w q : Nat} (hm : ni < 12) (hw : w ≤ 2) (hq : q ≤ 15) : Opn (fun h => f_C_addItem h 1 (nI w) (nI q)) T nm ni nv (nI ni) (tIt T ni w q) nm (ni + 1) nv := by
  have hn := I.n
  have c1 : ¬ nI w < 0 := pos_nI (by omega)
  have c2 : ¬ (2 : Int32) < nI w := by rw [show (2 : Int32) = nI 2 from rfl, ltI (by omega) (by omega)]; omega
  have d1 : ¬ nI q < 0 := pos_nI (by omega)
  have d2 : nI q ≤ 15 := by rw [show (15 : Int32) = nI 15 from rfl, leI (by omega) (by omega)]; omega
  refine ⟨I.item hm hw hq, fun h C => ?_⟩
  have e1 : h 1 2 = nI ni := C.a.2.2.1.trans I.c.2.1
  obtain ⟨g, g1, g2, g3⟩ := I_begin h (1 + 10 + 5 * ni) (nI w) (nI q)
  rw [show 1 + 10 + 5 * ni = 11 + 5 * ni by omega] at g1 g2 g3
  have e2 : g 1 2 = nI ni := by rw [g2 1 (by omega) (by omega) (by omega) (by omega) (by omega)]; exact e1
  try dsimp only
  unfold f_C_addItem
  rw [if_neg c1, if_neg c2, if_neg d1, if_pos d2, e1, if_pos (by rw [n12 hn.2.1]; exact hm), kG_nI hm (by decide), kx_nI (by omega), show 1 + 10 + 5 * ni = 11 + 5 * ni by omega, g1, kBi_s, e2, kLet_s, nI_1]
  refine ⟨_, rfl, fun a p _ _ _ => ?_, C_it C I hm (fun a p1 p2 p3 => ?_) (fun j j1 => ?_) (hs_eq _ _ _ _) ?_⟩
  · rw [hs_of _ _ (by omega)]
    exact g2 a (by omega) (by omega) (by omega) (by omega) (by omega)
  · rw [hs_of _ _ (by omega)]
    exact g2 a (by omega) (by omega) (by omega) (by omega) (by omega)
  · rw [hs_ne _ _ (by omega), g2 1 (by omega) (by omega) (by omega) (by omega) (by omega)]
  · rw [hs_of _ _ (by omega), hs_of _ _ (by omega), hs_of _ _ (by omega), hs_of _ _ (by omega), hs_of _ _ (by omega)]
    exact g3
theorem op_later_no (I : Iv T nm ni nv) {t a m d : Nat} (t1 : t ≤ 9000) (t2 : T 0 6 0 = nI t) (ha : t + 1 ≤ a ∧ a ≤ t + 600) (hm : m < nm) (hd : d ≤ 1) (f : nv = 20) : Opn (fun h => f_C_addMovement h 1 (nI a) (nI m) (nI d)) T nm ni nv (-4) T nm ni nv := Opn.err I fun h C => by
  have k6 : (600 : Int32) = nI 600 := rfl
  have c1 : ¬ nI a ≤ nI t := by rw [leI (by omega) (by omega)]; omega
  have c2 : ¬ nI (t + 600) < nI a := by rw [ltI (by omega) (by omega)]; omega
  have d1 : ¬ nI d < 0 := pos_nI (by omega)
  have d2 : nI d ≤ 1 := by rw [show (1 : Int32) = nI 1 from rfl, leI (by omega) (by omega)]; omega
  have l20 : (nI nv < 20) = (nv < 20) := ltI (a := nv) (b := 20) (by omega) (by decide)
  try dsimp only
  unfold f_C_addMovement
  rw [C_hasMember_ok C I hm, if_pos rfl, C.a.1, t2, k6, nI_add, if_neg c1, if_neg c2, if_neg d1, if_pos d2, C.a.2.2.2.2.2, I.c.2.2, if_neg (by rw [l20]; omega)]
theorem op_later (I : Iv T nm ni nv) {t a m d : Nat} (t1 : t ≤ 9000) (t2 : T 0 6 0 = nI t) (ha : t + 1 ≤ a ∧ a ≤ t + 600) (hm : m < nm) (hd : d ≤ 1) (hv : nv < 20) : Opn (fun h => f_C_addMovement h 1 (nI a) (nI m) (nI d)) T nm ni nv (nI (nv + 1)) (tMv T nv a m d) nm ni (nv + 1) := by
  have hn := I.n
  have k6 : (600 : Int32) = nI 600 := rfl
  have c1 : ¬ nI a ≤ nI t := by rw [leI (by omega) (by omega)]; omega
  have c2 : ¬ nI (t + 600) < nI a := by rw [ltI (by omega) (by omega)]; omega
  have d1 : ¬ nI d < 0 := pos_nI (by omega)
  have d2 : nI d ≤ 1 := by rw [show (1 : Int32) = nI 1 from rfl, leI (by omega) (by omega)]; omega
  have l20 : (nI nv < 20) = (nv < 20) := ltI (a := nv) (b := 20) (by omega) (by decide)
  refine ⟨I.move hv ⟨t2, t1⟩ ⟨by omega, ha.2⟩ hm hd, fun h C => ?_⟩
  have e1 : h 7 0 = nI nv := C.a.2.2.2.2.2.trans I.c.2.2
  try dsimp only
  unfold f_C_addMovement f_V_append
  rw [C_hasMember_ok C I hm, if_pos rfl, C.a.1, t2, k6, nI_add, if_neg c1, if_neg c2, if_neg d1, if_pos d2, show (1 : Nat) + 6 = 7 from rfl, e1, if_pos (by rw [l20]; exact hv)]
  simp only [kLet, show (7 : Nat) + 1 = 8 from rfl, show (7 : Nat) + 2 = 9 from rfl, show (7 : Nat) + 3 = 10 from rfl, hs_o _ _ (show (7 : Nat) ≠ 8 by decide), hs_o _ _ (show (7 : Nat) ≠ 9 by decide), hs_o _ _ (show (7 : Nat) ≠ 10 by decide), e1, kG_nI hv (show 20 < 2 ^ 31 by decide), kx_nI (show nv < 2 ^ 31 by omega), nI_1, kBi_s, hs_eq]
  refine ⟨_, rfl, fun b p _ _ _ => ?_, C_mv C (fun b b1 b2 b3 b4 => ?_) (hs_eq _ _ _ _) ?_ ?_ ?_⟩
  · rw [hs_of _ _ (by omega), hs_of _ _ (by omega), hs_of _ _ (by omega), hs_of _ _ (by omega)]
  · rw [hs_of _ _ (by omega), hs_of _ _ (by omega), hs_of _ _ (by omega), hs_of _ _ (by omega)]
  · rw [hs_of _ _ (by omega), hs_of _ _ (by omega), hs_of _ _ (by omega), hs_ru]
  · rw [hs_of _ _ (by omega), hs_of _ _ (by omega), hs_ru, hs_of _ _ (by omega)]
  · rw [hs_of _ _ (by omega), hs_ru, hs_of _ _ (by omega), hs_of _ _ (by omega)]
/-- the open item: the first one whose state is 1 -/
theorem op_vote (I : Iv T nm ni nv) {i m w : Nat} (hm : m < nm) (hw : w ≤ 2) (hi : i < ni) (F : Fst (fun i => decide (T 2 i 2 = 1)) ni (nI i)) (hc : sCan T i m = true) : Opn (fun h => f_C_giveVote h 1 (nI m) (nI w)) T nm ni nv (T 4 i m) (ts T 4 i m (nI w)) nm ni nv := by
  have hn := I.n
  have c2 : ¬ (2 : Int32) < nI w := by rw [show (2 : Int32) = nI 2 from rfl, ltI (by omega) (by omega)]; omega
  have e : f_P_isChoice (nI w) = true := by
    unfold f_P_isChoice
    rw [if_neg (pos_nI (by omega)), if_neg c2]
  refine ⟨I.pair4 hi (Or.inr ⟨w, by omega, rfl⟩), fun h C => ?_⟩
  obtain ⟨r, r1, r2⟩ := C_firstIn C I 1
  obtain rfl := r2.one F
  refine ⟨hset h (1 + 10 + 5 * i + 2) m (nI w), ?_, fun a p _ _ _ => hs_of _ _ (by omega), C.pair4 hn.2.1 hi _⟩
  try dsimp only
  unfold f_C_giveVote
  rw [C_hasMember_ok C I hm, if_pos rfl, e, if_pos rfl, r1, kBi_s, if_neg (n6_ne (by omega)), kG_nI (by omega) (by decide), kx_nI (by omega), C_canVote C I hi hm, hc, kBi_s, if_pos rfl, kG_nI (by omega) (by decide), kG_nI (by omega) (by decide), kx_nI (by omega), kLet_s, kG_nI (by omega) (by decide), kG_nI (by omega) (by decide), kLet_s, ((C.f i hi).2.2.2.2.2.2.2 m (by omega)).1]
theorem op_vote_no (I : Iv T nm ni nv) {m w : Nat} (hm : m < nm) (hw : w ≤ 2) (hc : ∀ i, i < ni → Fst (fun i => decide (T 2 i 2 = 1)) ni (nI i) → ¬ sCan T i m = true) : Opn (fun h => f_C_giveVote h 1 (nI m) (nI w)) T nm ni nv (-5) T nm ni nv := Opn.err I fun h C => by
  have hn := I.n
  have c2 : ¬ (2 : Int32) < nI w := by rw [show (2 : Int32) = nI 2 from rfl, ltI (by omega) (by omega)]; omega
  have e : f_P_isChoice (nI w) = true := by
    unfold f_P_isChoice
    rw [if_neg (pos_nI (by omega)), if_neg c2]
  obtain ⟨r, r1, r2⟩ := C_firstIn C I 1
  try dsimp only
  unfold f_C_giveVote
  rw [C_hasMember_ok C I hm, if_pos rfl, e, if_pos rfl, r1, kBi_s]
  rcases r2.no with q | ⟨i, hi, rfl⟩
  · rw [if_pos q]
  · rw [if_neg (n6_ne (by omega)), kG_nI (by omega) (by decide), kx_nI (by omega), C_canVote C I hi hm, kBi_s, if_neg (hc i hi r2)]
theorem tell_cc (I : Iv T nm ni nv) {i m : Nat} {z : Int32} (hm : m < nm) (hi : i < ni) (hz : no z 3) {h : kH} (C : Com h 1 T nm ni nv) : f_C_tellChoice h 1 (nI m) (nI i) z = b_C_tellChoice_34 h 1 (nI m) (nI i) z := by
  unfold f_C_tellChoice
  rw [C_hasMember_ok C I hm, if_pos rfl, C_hasItem_ok C I hi, if_pos rfl]
  rcases hz with q | ⟨w, hw, rfl⟩
  · rw [if_pos q]
  · have e : f_P_isChoice (nI w) = true := by
      unfold f_P_isChoice
      rw [if_neg (pos_nI (by omega)), if_neg (by rw [show (2 : Int32) = nI 2 from rfl, ltI (by omega) (by omega)]; omega)]
    rw [if_neg (n6_ne (by omega)), e, if_pos rfl]
theorem op_tell (I : Iv T nm ni nv) {i m : Nat} {z : Int32} (hm : m < nm) (hi : i < ni) (hz : no z 3) (a : sAhead T i = true) : Opn (fun h => f_C_tellChoice h 1 (nI m) (nI i) z) T nm ni nv (T 5 i m) (ts T 5 i m z) nm ni nv := by
  have hn := I.n
  refine ⟨I.pair5 hi hz, fun h C => ⟨hset h (1 + 10 + 5 * i + 3) m z, ?_, fun a p _ _ _ => hs_of _ _ (by omega), C.pair5 hn.2.1 hi _⟩⟩
  try dsimp only
  rw [tell_cc I hm hi hz C]
  unfold b_C_tellChoice_34
  rw [kG_nI (by omega) (by decide), kx_nI (by omega), C_isPending C hi, if_pos a, kG_nI (by omega) (by decide), kG_nI (by omega) (by decide), kx_nI (by omega), kLet_s, kG_nI (by omega) (by decide), kG_nI (by omega) (by decide), kLet_s, ((C.f i hi).2.2.2.2.2.2.2 m (by omega)).2.1]
theorem op_tell_no (I : Iv T nm ni nv) {i m : Nat} {z : Int32} (hm : m < nm) (hi : i < ni) (hz : no z 3) (a : ¬ sAhead T i = true) : Opn (fun h => f_C_tellChoice h 1 (nI m) (nI i) z) T nm ni nv (-5) T nm ni nv := Opn.err I fun h C => by
  have hn := I.n
  try dsimp only
  rw [tell_cc I hm hi hz C]
  unfold b_C_tellChoice_34
  rw [kG_nI (by omega) (by decide), kx_nI (by omega), C_isPending C hi, if_neg a]
end
