/-! PURE: the law's own reading: the holder, the end of a way, who speaks for whom. -/
section
variable {T : kT} {nm ni nv : Nat}
theorem ps_if (b : Bool) : ((if b = true then (1 : Int32) else 0) = 1) = (b = true) := by cases b <;> simp <;> decide
theorem ps_if0 (b : Bool) : ((if b = true then (1 : Int32) else 0) = 0) = (b = false) := by cases b <;> simp <;> decide
theorem L_holder {h : kH} (S : St h T nm ni nv) {i m : Nat} (hi : i < ni) (hm : m < nm) : ∃ g, f_L_holder h (nI m) (nI i) = some (sHol T i m, g) ∧ CFe h g := by
  have hn := S.1.n
  obtain ⟨g, g1, g2⟩ := q_at4 S hi hm
  refine ⟨g, ?_, g2⟩
  unfold f_L_holder sHol
  rw [g1, kBd_s, q_of3 (S.ask g2) hm, kBi_s]
  simp only [(S.1.i2 (show i < 12 by omega) m (by omega)).1.neg (show nm < 2 ^ 31 by omega)]
  split <;> rfl
theorem L_has {x j : Nat} (hx : x < 2 ^ 31) (hj : j < 31) : f_L_has (nI x) (nI j) = x.testBit j := M_has hx hj
theorem one_of {x : Int32} (h : x = 0 ∨ x = 1) (q : ¬ x = 0) : x = 1 := h.resolve_left q
theorem L_end_loop {i : Nat} (hi : i < ni) (hc : ¬ T 0 4 0 = 0) : ∀ (k j M last f : Nat) (h : kH), St h T nm ni nv → j + k = 12 → M < 4096 → fb_ct (fun a => M.testBit a) 12 + k = 13 → k < f → M.testBit last = true → (∀ j, M.testBit j = true → j < nm ∧ ps T j = false) → (∀ j, M.testBit j = true → j ≠ last → ∃ l, sHol T i j = nI l ∧ M.testBit l = true) →
    ∃ g, b_L_end_15 (nI i) f h (sHol T i last) (nI M) (nI j) = some (sEnd T i k last, g) ∧ CFe h g := by
  intro k
  induction k with
  | zero =>
    intro j M last f h S hj hM hct
    have := fb_ct_le (fun a => M.testBit a) 12
    omega
  | succ k ih =>
    intro j M last f h S hj hM hct hf hlast hin hcl
    have hn := S.1.n
    obtain ⟨f, rfl⟩ : ∃ g, f = g + 1 := ⟨f - 1, by omega⟩
    have hlt := (hin last hlast).1
    rw [b_L_end_15, sEnd]
    dsimp only
    rw [if_neg (show ¬ (12 : Int32) ≤ nI j from by rw [show (12 : Int32) = nI 12 from rfl, leI (by omega) (by omega)]; omega)]
    rcases sHol_no S.1 (show i < 12 by omega) (show last < 12 by omega) with q | ⟨l, hl, q⟩
    · rw [q, if_pos n6_lt, if_pos rfl]
      exact ⟨h, rfl, CFe.rfl'⟩
    · rw [q, if_neg (pos_nI (by omega)), if_neg (n6_ne (by omega)), kx_nI (by omega), L_has (by omega) (by omega)]
      by_cases z : M.testBit l = true
      · rw [if_pos z, if_neg (by rw [(hin l z).2]; decide)]
        have e : sEnd T i k l = -6 := by
          refine sEnd_closed (A := fun j => M.testBit j = true) (fun j hj => ⟨by have := (hin j hj).1; omega, (hin j hj).2, ?_⟩) k l z
          by_cases hjl : j = last
          · subst hjl
            exact ⟨l, q, z⟩
          · exact hcl j hj hjl
        rw [e]
        exact ⟨h, rfl, CFe.rfl'⟩
      · rw [if_neg z, q_of2 S hl, kBi_s]
        simp only [ps_if]
        by_cases y : ps T l = true
        · rw [if_pos y, if_pos y]
          obtain ⟨g, g1, g2⟩ := q_at5 S hi hl
          refine ⟨g, ?_, g2⟩
          rw [g1, kBd_s]
          simp only [ps_if]
          by_cases w : sRec T i l = true
          · rw [if_pos w, if_pos w]
          · rw [if_neg w, if_neg w]
        · rw [if_neg y, if_neg y, kLet_s, set_bit (by omega), q_c20 S, kBi_s, if_pos (one_of S.1.s.2.2.2.2.1 hc)]
          obtain ⟨g, g1, g2⟩ := L_holder S hi hl
          rw [g1, kBd_s, nI_1]
          obtain ⟨g', e1, e2⟩ := ih (j + 1) (M ||| 2 ^ l) l f g (S.ask g2) (by omega) (or_lt hM (by omega)) (by rw [ct_or (by omega) (by simpa using z)]; omega) (by omega) (by rw [tb_or]; simp) (fun j hj => by
            rw [tb_or] at hj
            by_cases w : j = l
            · subst w
              exact ⟨hl, by simpa using y⟩
            · exact hin j (by simpa [w] using hj)) (fun j hj hjl => by
            rw [tb_or] at hj
            have hj' : M.testBit j = true := by simpa [hjl] using hj
            by_cases w : j = last
            · subst w
              exact ⟨l, q, by rw [tb_or]; simp⟩
            · obtain ⟨b, b1, b2⟩ := hcl j hj' w
              exact ⟨b, b1, by rw [tb_or, b2]; rfl⟩)
          exact ⟨g', e1, g2.trans e2⟩
theorem L_end {h : kH} (S : St h T nm ni nv) {i m : Nat} (hi : i < ni) (hm : m < nm) (hp : ps T m = false) : ∃ g, f_L_end h (nI m) (nI i) = some (sEnd T i (sSteps T) m, g) ∧ CFe h g := by
  have hn := S.1.n
  have h2 : 2 ^ m < 4096 := Nat.pow_lt_pow_right (a := 2) (n := 12) (by decide) (by omega)
  obtain ⟨g, g1, g2⟩ := L_holder S hi hm
  have Sg := S.ask g2
  unfold f_L_end sSteps
  rw [g1, kBd_s, sh_1 m (by omega)]
  by_cases q : T 0 4 0 = 0
  · rw [if_pos q]
    obtain ⟨f, hf⟩ : ∃ f, kFuel = f + 2 := ⟨kFuel - 2, by unfold kFuel; rfl⟩
    rw [hf, b_L_end_15, sEnd]
    dsimp only
    rw [if_neg (show ¬ (12 : Int32) ≤ 0 from by decide)]
    rcases sHol_no S.1 (show i < 12 by omega) (show m < 12 by omega) with e | ⟨l, hl, e⟩
    · rw [e, if_pos n6_lt, if_pos rfl]
      exact ⟨g, rfl, g2⟩
    · rw [e, if_neg (pos_nI (by omega)), if_neg (n6_ne (by omega)), kx_nI (by omega), L_has (by omega) (by omega), tb_two]
      by_cases z : m = l
      · subst z
        rw [if_pos (by simp), if_neg (by rw [hp]; decide)]
        exact ⟨g, rfl, g2⟩
      · rw [if_neg (by simpa using z), q_of2 Sg hl, kBi_s]
        simp only [ps_if]
        by_cases y : ps T l = true
        · rw [if_pos y, if_pos y]
          obtain ⟨g', e1, e2⟩ := q_at5 Sg hi hl
          refine ⟨g', ?_, g2.trans e2⟩
          rw [e1, kBd_s]
          simp only [ps_if]
          by_cases w : sRec T i l = true
          · rw [if_pos w, if_pos w]
          · rw [if_neg w, if_neg w]
        · rw [if_neg y, if_neg y, kLet_s, q_c20 Sg, kBi_s, q, if_neg (by decide), b_L_end_15]
          dsimp only
          rw [if_neg (by decide), if_pos n6_lt]
          exact ⟨g, rfl, g2⟩
  · rw [if_neg q]
    obtain ⟨g', e1, e2⟩ := L_end_loop hi q 12 0 (2 ^ m) m kFuel g Sg rfl h2 (by rw [ct_two m (by omega)]) (kF_lt (by omega)) (by rw [tb_two]; simp) (fun j hj => by
      rw [tb_two] at hj
      obtain rfl : m = j := by simpa using hj
      exact ⟨hm, hp⟩) (fun j hj hjm => by
      rw [tb_two] at hj
      exact absurd (show m = j by simpa using hj).symm hjm)
    exact ⟨g', e1, g2.trans e2⟩
theorem sVo_st (T : kT) (i : Nat) {k : Nat} : ∀ n, k < n → sVo T i n k = sStep T i (sVo T i k) k := by
  intro n
  induction n with
  | zero => intro h; omega
  | succ n ih =>
    intro h
    by_cases q : k = n
    · subst q
      exact sVo_eq T i k
    · rw [sVo_lt T i (by omega)]
      exact ih (by omega)
/-- the state is told the same by h', and the law's own rows but a, b, c are as they were -/
def Ke (h h' : kH) (T : kT) (nm ni nv a b c : Nat) : Prop := St h' T nm ni nv ∧ ∀ x, 786 ≤ x → x ≠ a → x ≠ b → x ≠ c → h' x = h x
theorem St.set {h : kH} (S : St h T nm ni nv) {a k : Nat} (ha : 786 ≤ a) (v : Int32) : St (hset h a k v) T nm ni nv := by
  obtain ⟨I, C, sp, u, s1, s2, s3, s4⟩ := S
  exact ⟨I, C.cong I.n.2.1 fun b b1 b2 => hs_of _ _ (by omega), sp, u, s1, s2, by rw [hs_o _ _ (by omega)]; exact s3, by rw [hs_o _ _ (by omega)]; exact s4⟩
theorem St.fill {h : kH} (S : St h T nm ni nv) {a n : Nat} (ha : 786 ≤ a) (v : Int32) : St (hfill h a n v) T nm ni nv := by
  obtain ⟨I, C, sp, u, s1, s2, s3, s4⟩ := S
  exact ⟨I, C.cong I.n.2.1 fun b b1 b2 => hf_of _ _ (by omega), sp, u, s1, s2, by rw [hf_o _ _ (by omega)]; exact s3, by rw [hf_o _ _ (by omega)]; exact s4⟩
theorem L_set_loop {i c : Nat} (hi : i < ni) (hc : 786 ≤ c) : ∀ (d k f : Nat) (h : kH), k + d = nm → d < f → St h T nm ni nv → (∀ e, e < 12 → h c e = nI (msk (fun m => !ps T m && decide (sV T i nm m = nI e)) nm)) → ∃ g, b_L_areVoices_194 (nI i) c f h (nI k) = some (true, g) ∧ CFe h g := by
  intro d
  induction d with
  | zero =>
    intro k f h hk hf S hx
    have hn := S.1.n
    obtain ⟨f, rfl⟩ : ∃ g, f = g + 1 := ⟨f - 1, by omega⟩
    obtain rfl : k = nm := hk
    rw [b_L_areVoices_194]
    dsimp only
    rw [q_c1 S, kBi_s, if_pos (nI_le (Nat.le_refl _) (by omega))]
    exact ⟨h, rfl, CFe.rfl'⟩
  | succ d ih =>
    intro k f h hk hf S hx
    have hn := S.1.n
    obtain ⟨f, rfl⟩ : ∃ g, f = g + 1 := ⟨f - 1, by omega⟩
    have hkm : k < nm := by omega
    rw [b_L_areVoices_194]
    dsimp only
    obtain ⟨g, g1, g2⟩ := q_at6 S hi hkm
    rw [q_c1 S, kBi_s, if_neg (nI_ge hkm (by omega)), g1, kBd_s, kG_nI (by omega) (by decide), kx_nI (by omega), g2.fr c hc, hx k (by omega), if_pos rfl, nI_1]
    obtain ⟨g', e1, e2⟩ := ih (k + 1) f g (by omega) (by omega) (S.ask g2) (fun e he => by rw [g2.fr c hc]; exact hx e he)
    exact ⟨g', e1, g2.trans e2⟩
theorem L_voices_loop {i a b c : Nat} (hi : i < ni) (ha : 786 ≤ a) (hb : 786 ≤ b) (hc : 786 ≤ c) (ab : a ≠ b) (ac : a ≠ c) (bc : b ≠ c) : ∀ (d k f : Nat) (h : kH), k + d = nm → d < f → St h T nm ni nv → (∀ m, m < k → h a m = sVo T i k m) → (∀ e, e < 12 → h b e = nI (sCnt T (sVo T i k) k e)) → (∀ e, e < 12 → h c e = nI (msk (fun m => !ps T m && decide (sVo T i k m = nI e)) k)) →
    ∃ h', b_L_areVoices_14 (nI i) a b c f h (nI k) = some (true, h') ∧ Ke h h' T nm ni nv a b c ∧ ∀ m, m < nm → h' a m = sV T i nm m := by
  intro d
  induction d with
  | zero =>
    intro k f h hk hf S h1 h2 h3
    have hn := S.1.n
    obtain ⟨f, rfl⟩ : ∃ g, f = g + 1 := ⟨f - 1, by omega⟩
    obtain rfl : k = nm := hk
    rw [b_L_areVoices_14]
    dsimp only
    rw [q_c1 S, kBi_s, if_pos (nI_le (Nat.le_refl _) (by omega))]
    obtain ⟨g, g1, g2⟩ := L_set_loop hi hc k 0 kFuel h (by omega) (kF_lt (by omega)) S h3
    exact ⟨g, g1, ⟨S.ask g2, fun x x1 _ _ _ => g2.fr x x1⟩, fun m hm => by rw [g2.fr a ha]; exact h1 m hm⟩
  | succ d ih =>
    intro k f h hk hf S h1 h2 h3
    have hn := S.1.n
    obtain ⟨f, rfl⟩ : ∃ g, f = g + 1 := ⟨f - 1, by omega⟩
    have hkm : k < nm := by omega
    rw [b_L_areVoices_14]
    dsimp only
    rw [q_c1 S, kBi_s, if_neg (nI_ge hkm (by omega)), kG_nI (by omega) (by decide), kx_nI (by omega), kLet_s]
    -- the voice is laid, it is told the same, and the next turn follows
    have fin : ∀ (g : kH) (x : Int32), sStep T i (sVo T i k) k = x → St g T nm ni nv → (∀ y, 786 ≤ y → y ≠ a → y ≠ b → y ≠ c → g y = h y) → (∀ m, m < k → g a m = h a m) → g a k = x → (∀ e, e < 12 → g b e = nI (sCnt T (sVo T i (k + 1)) (k + 1) e)) → (∀ e, e < 12 → g c e = nI (msk (fun m => !ps T m && decide (sVo T i (k + 1) m = nI e)) (k + 1))) →
        ∃ h', b_L_areVoices_168 (fun h' x5' => b_L_areVoices_14 (nI i) a b c f h' x5') g (nI i) a b c (nI k) = some (true, h') ∧ Ke h h' T nm ni nv a b c ∧ ∀ m, m < nm → h' a m = sV T i nm m := by
      intro g x hx Sg g0 g1 g2 g3 g4
      unfold b_L_areVoices_168
      obtain ⟨g', e1, e2⟩ := q_at0 Sg hi hkm
      have v1 : sV T i nm k = x := (sVo_st T i nm hkm).trans hx
      rw [e1, kBd_s, kG_nI (by omega) (by decide), kx_nI (by omega), e2.fr a ha, g2, v1, if_pos rfl, nI_1]
      obtain ⟨h', r1, r2, r3⟩ := ih (k + 1) f g' (by omega) (by omega) (Sg.ask e2) (fun m hm => by
        rw [e2.fr a ha]
        by_cases z : m = k
        · rw [z, g2, sVo_eq, hx]
        · rw [sVo_lt T i (show m < k by omega), g1 m (by omega)]
          exact h1 m (by omega)) (fun e he => by rw [e2.fr b hb]; exact g3 e he) (fun e he => by rw [e2.fr c hc]; exact g4 e he)
      exact ⟨h', r1, ⟨r2.1, fun y y1 y2 y3 y4 => (r2.2 y y1 y2 y3 y4).trans ((e2.fr y y1).trans (g0 y y1 y2 y3 y4))⟩, r3⟩
    -- with the voice put down
    have put : ∀ (g : kH) (x : Int32), sStep T i (sVo T i k) k = x → St g T nm ni nv → (∀ y, 786 ≤ y → y ≠ a → y ≠ b → y ≠ c → g y = h y) → (∀ m, m < k → g a m = h a m) → (∀ e, e < 12 → g b e = nI (sCnt T (sVo T i (k + 1)) (k + 1) e)) → (∀ e, e < 12 → g c e = nI (msk (fun m => !ps T m && decide (sVo T i (k + 1) m = nI e)) (k + 1))) →
        ∃ h', b_L_areVoices_162 (fun h' x5' => b_L_areVoices_14 (nI i) a b c f h' x5') g (nI i) a b c (nI k) x = some (true, h') ∧ Ke h h' T nm ni nv a b c ∧ ∀ m, m < nm → h' a m = sV T i nm m := by
      intro g x hx Sg g0 g1 g3 g4
      unfold b_L_areVoices_162
      rw [kG_nI (by omega) (by decide), kx_nI (by omega), kLet_s]
      exact fin (hset g a k x) x hx (Sg.set ha x) (fun y y1 y2 y3 y4 => (hs_of _ _ y2).trans (g0 y y1 y2 y3 y4)) (fun m hm => by rw [hs_ne _ _ (by omega)]; exact g1 m hm) (hs_eq _ _ _ _) (fun e he => by rw [hs_of _ _ (Ne.symm ab)]; exact g3 e he) (fun e he => by rw [hs_of _ _ (Ne.symm ac)]; exact g4 e he)
    -- where nothing is added to the counts
    have same2 : ∀ x, sStep T i (sVo T i k) k = x → (ps T k = true ∨ x = -6) → ∀ e, e < 12 → h b e = nI (sCnt T (sVo T i (k + 1)) (k + 1) e) := by
      intro x hx q e he
      rw [sCnt_succ, hx, h2 e he]
      rcases q with q | q
      · simp [q]
      · rw [q, show decide ((-6 : Int32) = nI e) = false from decide_eq_false (fun z => n6_ne (by omega) z.symm)]
        simp
    have same3 : ∀ x, sStep T i (sVo T i k) k = x → (ps T k = true ∨ x = -6) → ∀ e, e < 12 → h c e = nI (msk (fun m => !ps T m && decide (sVo T i (k + 1) m = nI e)) (k + 1)) := by
      intro x hx q e he
      rw [msk_sp, hx, h3 e he]
      rcases q with q | q
      · simp [q]
      · rw [q, show decide ((-6 : Int32) = nI e) = false from decide_eq_false (fun z => n6_ne (by omega) z.symm)]
        simp
    -- behind the first look
    have go : ∀ g : kH, CFe (hset h a k (-6)) g → ∃ h', b_L_areVoices_67 (fun h' x5' => b_L_areVoices_14 (nI i) a b c f h' x5') g (nI i) a b c (nI k) = some (true, h') ∧ Ke h h' T nm ni nv a b c ∧ ∀ m, m < nm → h' a m = sV T i nm m := by
      intro g0 c0
      have Sg0 : St g0 T nm ni nv := (S.set ha (-6)).ask c0
      unfold b_L_areVoices_67
      obtain ⟨g, g1, g2⟩ := q_at5 Sg0 hi hkm
      have cg := c0.trans g2
      have Sg := Sg0.ask g2
      rw [g1, kBd_s]
      simp only [ps_if0]
      have fo : ∀ g, CFe (hset h a k (-6)) g → (∀ y, 786 ≤ y → y ≠ a → y ≠ b → y ≠ c → g y = h y) ∧ (∀ m, m < k → g a m = h a m) ∧ g a k = -6 ∧ g b = h b ∧ g c = h c := fun g cg => ⟨fun y y1 y2 _ _ => (cg.fr y y1).trans (hs_of _ _ y2), fun m hm => by rw [cg.fr a ha, hs_ne _ _ (by omega)], by rw [cg.fr a ha, hs_eq], (cg.fr b hb).trans (hs_of _ _ (Ne.symm ab)), (cg.fr c hc).trans (hs_of _ _ (Ne.symm ac))⟩
      obtain ⟨o1, o2, o3, o4, o5⟩ := fo g cg
      by_cases q : sRec T i k = true
      · have st : sStep T i (sVo T i k) k = -6 := by unfold sStep; rw [if_pos q]
        rw [if_neg (by rw [q]; decide)]
        exact fin g (-6) st Sg o1 o2 o3 (fun e he => by rw [o4]; exact same2 _ st (Or.inr rfl) e he) (fun e he => by rw [o5]; exact same3 _ st (Or.inr rfl) e he)
      · rw [if_pos (by simpa using q), q_of2 Sg hkm, kBi_s]
        simp only [ps_if]
        by_cases y : ps T k = true
        · have st : sStep T i (sVo T i k) k = nI k := by unfold sStep; rw [if_neg q, if_pos y]
          rw [if_pos y]
          unfold b_L_areVoices_101
          rw [if_neg (pos_nI (by omega)), if_pos rfl]
          exact put g (nI k) st Sg o1 o2 (fun e he => by rw [o4]; exact same2 _ st (Or.inl y) e he) (fun e he => by rw [o5]; exact same3 _ st (Or.inl y) e he)
        · rw [if_neg y]
          obtain ⟨w, w1, w2⟩ := L_end Sg hi hkm (by simpa using y)
          have cw := cg.trans w2
          have Sw := Sg.ask w2
          obtain ⟨p1, p2, p3, p4, p5⟩ := fo w cw
          rw [w1, kBd_s]
          unfold b_L_areVoices_101
          rcases sEnd_no S.1 (show i < 12 by omega) (sSteps T) k hkm with e | ⟨l, hl1, e⟩
          · have st : sStep T i (sVo T i k) k = -6 := by unfold sStep; rw [if_neg q, if_neg y, if_pos e]
            rw [e, if_pos n6_lt]
            exact put w (-6) st Sw p1 p2 (fun e he => by rw [p4]; exact same2 _ st (Or.inr rfl) e he) (fun e he => by rw [p5]; exact same3 _ st (Or.inr rfl) e he)
          · have hlk : ¬ l = k := by
              intro z
              rw [z] at e
              exact y (sEnd_ps S.1 (show i < 12 by omega) _ k k hkm e hkm)
            rw [e, if_neg (pos_nI (by omega)), if_neg (by rw [eqI (by omega) (by omega)]; exact hlk), kG_nI (by omega) (by decide), kx_nI (by omega), p4, h2 l (by omega), q_c19 Sw, kBi_s]
            unfold b_L_areVoices_135
            by_cases z : nI (sCnt T (sVo T i k) k l) < T 0 3 0
            · have st : sStep T i (sVo T i k) k = nI l := by
                unfold sStep
                rw [if_neg q, if_neg y, e, if_neg (n6_ne (by omega)), kx_nI (by omega), if_pos z]
              rw [if_neg (fun w => (fa_of_lt z).2.1 w), if_neg (pos_nI (by omega)), kG_nI (by omega) (by decide), kG_nI (by omega) (by decide), kLet_s, kG_nI (by omega) (by decide), kG_nI (by omega) (by decide), kx_nI (by omega), kLet_s]
              have hm := msk_lt (fun m => !ps T m && decide (sVo T i k m = nI l)) k
              refine put _ (nI l) st ((Sw.set hb _).set hc _) (fun y y1 y2 y3 y4 => by rw [hs_of _ _ y4, hs_of _ _ y3]; exact p1 y y1 y2 y3 y4) (fun m hm => by rw [hs_of _ _ ac, hs_of _ _ ab]; exact p2 m hm) (fun x hx => ?_) (fun x hx => ?_)
              · rw [hs_of _ _ bc, sCnt_succ, st]
                by_cases v : l = x
                · subst v
                  rw [hs_eq, p4, h2 l (by omega), nI_1]
                  simp [y]
                · rw [hs_ne _ _ (fun u => v u.2.symm), p4, h2 x hx, show decide (nI l = nI x) = false from decide_eq_false (by rw [eqI (by omega) (by omega)]; exact v)]
                  simp
              · rw [msk_sp, st]
                by_cases v : l = x
                · subst v
                  rw [hs_eq, hs_of _ _ (Ne.symm bc), p5, h3 l (by omega), set_bit (by omega), or_bit hm]
                  simp [y]
                · rw [hs_ne _ _ (fun u => v u.2.symm), hs_of _ _ (Ne.symm bc), p5, h3 x hx, show decide (nI l = nI x) = false from decide_eq_false (by rw [eqI (by omega) (by omega)]; exact v)]
                  simp
            · have st : sStep T i (sVo T i k) k = -6 := by
                unfold sStep
                rw [if_neg q, if_neg y, e, if_neg (n6_ne (by omega)), kx_nI (by omega), if_neg z]
              rw [if_pos (fa_of_nlt z), if_pos n6_lt]
              exact put w (-6) st Sw p1 p2 (fun e he => by rw [p4]; exact same2 _ st (Or.inr rfl) e he) (fun e he => by rw [p5]; exact same3 _ st (Or.inr rfl) e he)
    -- the first look
    have S6 := S.set (k := k) ha (-6)
    rw [q_it1 S6 hi, kBd_s, q_of1 S6 hkm, kBi_s]
    by_cases z : f_L_has (T 2 i 1) (T 1 k 1) = true
    · rw [if_pos z]
      obtain ⟨g, g1, g2⟩ := q_at5 S6 hi hkm
      have r : sRec T i k = true := by
        unfold sRec
        rw [← L_has_eq, z]
        rfl
      rw [g1, kBd_s, if_pos r, if_pos rfl]
      exact go g g2
    · rw [if_neg z]
      exact go _ CFe.rfl'
theorem L_voices {h : kH} (S : St h T nm ni nv) {i : Nat} (hi : i < ni) (K : List Nat) {a : Nat} (ha : 786 ≤ a) (hK : a < 786 + K.length) : ∃ h', f_L_areVoices K h (nI i) a = some (true, h') ∧ St h' T nm ni nv ∧ (∀ x, 786 ≤ x → x < 786 + K.length → x ≠ a → h' x = h x) ∧ ∀ m, m < nm → h' a m = sV T i nm m := by
  have hn := S.1.n
  have e9 : 786 + (K ++ [9]).length = 786 + K.length + 1 := by rw [List.length_append]; rfl
  unfold f_L_areVoices
  rw [e9, kLet_s, kLet_s]
  obtain ⟨h', r1, r2, r3⟩ := L_voices_loop (i := i) (a := a) (b := 786 + K.length) (c := 786 + K.length + 1) hi ha (by omega) (by omega) (by omega) (by omega) (by omega) nm 0 kFuel (hfill (hfill h (786 + K.length) 12 0) (786 + K.length + 1) 12 0) (by omega) (kF_lt (by omega)) ((S.fill (by omega) 0).fill (by omega) 0) (fun m hm => absurd hm (Nat.not_lt_zero _)) (fun e he => by rw [hf_o _ _ (by omega), hf_in _ _ he]; rfl) (fun e he => by rw [hf_in _ _ he]; rfl)
  exact ⟨h', r1, r2.1, fun x x1 x2 x3 => by rw [r2.2 x x1 x3 (by omega) (by omega), hf_of _ _ (by omega), hf_of _ _ (by omega)], r3⟩
end
