/-! PURE: decisive. -/
/-- as Asd, but for the reference's row -/
def Asr (h h' : kH) : Prop := (∀ a, (a ≤ 70 ∨ (145 ≤ a ∧ a < 637) ∨ a = 638 ∨ a = 643 ∨ (646 ≤ a ∧ a < 786) ∨ (789 ≤ a ∧ a ≤ 792)) → h' a = h a) ∧ h' 637 1 = h 637 1 ∧ h' 786 3 = h 786 3 ∧ h' 786 7 = h 786 7 ∧ h' 786 8 = h 786 8
theorem Gk.asr {h h' : kH} {T : kT} {nm ni nv u sp : Nat} (g : Gk h T nm ni nv u sp) (e : Asr h h') (R' : Row (h' 787) T nv) : Gk h' T nm ni nv u sp := by
  obtain ⟨I, C, R, H, S, P, e8⟩ := g
  obtain ⟨o, o1, o3, o7, o8⟩ := e
  refine ⟨I, C.cong I.n.2.1 fun a a1 a2 => o a (by omega), R', H.cong (o _ (by omega)) o3 (o _ (by omega)) fun a a1 a2 _ => o a (by omega), S.cong (o _ (by omega)) (o _ (by omega)) (o _ (by omega)) fun a a1 a2 => o a (by omega), P.cong o1 o7 (o _ (by omega)) (o _ (by omega)), o8.trans e8⟩
theorem Asr.of {h h' : kH} (e : ∀ a, (a ≤ 70 ∨ (145 ≤ a ∧ a < 639) ∨ a = 643 ∨ (646 ≤ a ∧ a < 787) ∨ (789 ≤ a ∧ a ≤ 792)) → h' a = h a) : Asr h h' := ⟨fun a q => e a (by omega), by rw [e 637 (by omega)], by rw [e 786 (by omega)], by rw [e 786 (by omega)], by rw [e 786 (by omega)]⟩
theorem Both.asr {FP FM : kH → Option (Int32 × kH)} (W : ∀ h T nm ni nv u sp, Gk h T nm ni nv u sp → ∃ v h1 h2, FP h = some (v, h1) ∧ Asd h h1 ∧ FM h1 = some (v, h2) ∧ Asr h1 h2 ∧ Row (h2 787) T nv) : Both FP FM := by
  intro h g
  obtain ⟨T, nm, ni, nv, u, sp, k⟩ := g
  obtain ⟨v, h1, h2, a, b, c, d, e⟩ := W h T nm ni nv u sp k
  exact ⟨v, h1, h2, a, c, T, nm, ni, nv, u, sp, (k.aside b).asr d e⟩
theorem ts_ts (T : kT) (a b c : Nat) (v w : Int32) : ts (ts T a b c v) a b c w = ts T a b c w := by
  funext x y z
  unfold ts
  by_cases q : x = a ∧ y = b ∧ z = c
  · rw [if_pos q, if_pos q]
  · rw [if_neg q, if_neg q, if_neg q]
theorem ts_id (T : kT) (a b c : Nat) : ts T a b c (T a b c) = T := by
  funext x y z
  unfold ts
  by_cases q : x = a ∧ y = b ∧ z = c
  · rw [if_pos q, q.1, q.2.1, q.2.2]
  · rw [if_neg q]
theorem Same.vote (T : kT) (i m : Nat) (v : Int32) : Same T (ts T 4 i m v) i := ⟨ts_o _ _ (by decide), ts_o _ _ (by decide), rfl, rfl, by rw [ts_o _ _ (by decide)]⟩
theorem Same.hrd {T T' : kT} {i nm s : Nat} {h : kH} (S : Same T T' i) (H : Hrd h s T i nm) : Hrd h s T' i nm := by
  refine ⟨fun m hm => by rw [S.v]; exact H.1 m hm, fun e he => ?_⟩
  have : sCnt T' (sV T' i nm) nm e = sCnt T (sV T i nm) nm e := by
    unfold sCnt
    rw [S.v, ps_cong S.2.1]
  rw [this]
  exact H.2 e he
theorem Same.can {T T' : kT} {i : Nat} (S : Same T T' i) (m : Nat) : sCan T' i m = sCan T i m := by
  unfold sCan
  rw [ps_cong S.2.1, S.rec]
/-- the outcome of an item as things stand -/
def sO (T : kT) (i nm : Nat) : Int32 := sOut T i (sTal T i nm nm 1) (sTal T i nm nm 2) (sTal T i nm nm 0)
/-- would another choice of m's turn the outcome? -/
def sTurn (T : kT) (i nm m : Nat) : Bool := !decide (sO (ts T 4 i m (nI 0)) i nm = sO T i nm) || !decide (sO (ts T 4 i m (nI 1)) i nm = sO T i nm) || !decide (sO (ts T 4 i m (nI 2)) i nm = sO T i nm)
theorem kB2_or0 (b : Bool) : kB2 b ||| 0 = kB2 b := by cases b <;> decide
theorem kB2_or1 (b : Bool) : kB2 b ||| 1 = kB2 true := by cases b <;> decide
theorem kRz_b (b : Bool) : kRz (kB2 b) = some b := by cases b <;> rfl
section
variable {T : kT} {nm ni nv i m : Nat}
/-- one try of the class's -/
theorem C_try (I : Iv T nm ni nv) (hi : i < ni) (hm : m < nm) {w : Int32} {v : Nat} (hv : v < 3) {g : kH} (hw : no w 3) (C : Com g 71 (ts T 4 i m w) nm ni nv) (H : Hrd g 141 T i nm) :
    ∃ g', f_H_tally (hset g (71 + 10 + 5 * i + 2) m (nI v)) 141 71 (71 + 10 + 5 * i) = some g' ∧ f_H_outcome g' 141 71 (71 + 10 + 5 * i) 0 = some (sO (ts T 4 i m (nI v)) i nm) ∧ Com g' 71 (ts T 4 i m (nI v)) nm ni nv ∧ Hrd g' 141 T i nm ∧ ∀ a, a ≠ 71 + 10 + 5 * i + 2 → a ≠ 144 → g' a = g a := by
  have hn := I.n
  have C1 := C.pair4 (m := m) hn.2.1 hi (nI v)
  rw [ts_ts] at C1
  have I1 : Iv (ts T 4 i m (nI v)) nm ni nv := I.pair4 hi (Or.inr ⟨v, hv, rfl⟩)
  have S := Same.vote T i m (nI v)
  have H1 : Hrd (hset g (71 + 10 + 5 * i + 2) m (nI v)) 141 (ts T 4 i m (nI v)) i nm := S.hrd (H.cong (hs_of _ _ (by omega)) (hs_of _ _ (by omega)))
  obtain ⟨g', t1, t2, t3⟩ := C_tally (s := 141) C1 I1 hi (Or.inr (by decide)) H1
  have C2 : Com g' 71 (ts T 4 i m (nI v)) nm ni nv := C1.cong hn.2.1 fun a a1 a2 => t2 a (by omega)
  refine ⟨g', t1, ?_, C2, H.cong ?_ ?_, fun a a1 a2 => (t2 a a2).trans (hs_of _ _ a1)⟩
  · rw [C_outcome (s := 141) C2 hi, t3 1 (by decide), t3 2 (by decide), t3 0 (by decide), Int32.add_zero]
    rfl
  · rw [t2 _ (by decide), hs_of _ _ (by omega)]
  · rw [t2 _ (by decide), hs_of _ _ (by omega)]
theorem C_canTurn (I : Iv T nm ni nv) (hi : i < ni) (hm : m < nm) {g : kH} (C : Com g 71 T nm ni nv) (H : Hrd g 141 T i nm) :
    ∃ g', f_P_canTurn g (nI m) (71 + 10 + 5 * i) (sO T i nm) = some (sTurn T i nm m, g') ∧ Com g' 71 T nm ni nv ∧ Hrd g' 141 T i nm ∧ ∀ a, a ≠ 71 + 10 + 5 * i + 2 → a ≠ 144 → g' a = g a := by
  have hn := I.n
  have hm2 : m < 12 := by omega
  obtain ⟨F, hF⟩ : ∃ F, kFuel = F + 4 := ⟨19996, rfl⟩
  have o4 := ((I.i2 (show i < 12 by omega) m hm2).2.1)
  have ev : g (71 + 10 + 5 * i + 2) m = T 4 i m := ((C.f i hi).2.2.2.2.2.2.2 m hm2).1
  have step : ∀ (v f : Nat) (b : Bool) (w : Int32) (q : kH), v < 3 → no w 3 → Com q 71 (ts T 4 i m w) nm ni nv → Hrd q 141 T i nm → ∃ q', b_P_canTurn_14 (nI m) (71 + 10 + 5 * i) (sO T i nm) (T 4 i m) (f + 1) q (kB2 b) (nI v) = b_P_canTurn_14 (nI m) (71 + 10 + 5 * i) (sO T i nm) (T 4 i m) f q' (kB2 (b || !decide (sO (ts T 4 i m (nI v)) i nm = sO T i nm))) (nI (v + 1)) ∧ Com q' 71 (ts T 4 i m (nI v)) nm ni nv ∧ Hrd q' 141 T i nm ∧ ∀ a, a ≠ 71 + 10 + 5 * i + 2 → a ≠ 144 → q' a = q a := by
    intro v f b w q hv hw Cq Hq
    obtain ⟨q', t1, t2, t3, t4, t5⟩ := C_try I hi hm hv hw Cq Hq
    refine ⟨q', ?_, t3, t4, t5⟩
    rw [b_P_canTurn_14]
    dsimp only
    rw [if_neg (show ¬ (2 : Int32) < nI v by rw [show (2 : Int32) = nI 2 from rfl, ltI (by omega) (by omega)]; omega), kG_nI hm2 (by decide), kx_nI (by omega), kLet_s, t1, kBi_s, t2, kBi_s, nI_1]
    by_cases z : sO (ts T 4 i m (nI v)) i nm = sO T i nm
    · rw [if_pos z, kB2_or0]
      simp [z]
    · rw [if_neg z, kB2_or1]
      simp [z]
  unfold f_P_canTurn
  rw [kG_nI hm2 (by decide), kx_nI (by omega), ev, hF]
  have C0 : Com g 71 (ts T 4 i m (T 4 i m)) nm ni nv := by rw [ts_id]; exact C
  obtain ⟨g1, a1, a2, a3, a4⟩ := step 0 (F + 3) false _ g (by decide) o4 C0 H
  obtain ⟨g2, b1, b2, b3, b4⟩ := step 1 (F + 2) _ _ g1 (by decide) (Or.inr ⟨0, by decide, rfl⟩) a2 a3
  obtain ⟨g3, c1, c2, c3, c4⟩ := step 2 (F + 1) _ _ g2 (by decide) (Or.inr ⟨1, by decide, rfl⟩) b2 b3
  have C4 := c2.pair4 (m := m) hn.2.1 hi (T 4 i m)
  rw [ts_ts, ts_id] at C4
  refine ⟨hset g3 (71 + 10 + 5 * i + 2) m (T 4 i m), ?_, C4, c3.cong (hs_of _ _ (by omega)) (hs_of _ _ (by omega)), fun a p q => by rw [hs_of _ _ p, c4 a p q, b4 a p q, a4 a p q]⟩
  have a1' : b_P_canTurn_14 (nI m) (71 + 10 + 5 * i) (sO T i nm) (T 4 i m) (F + 4) g 0 0 = b_P_canTurn_14 (nI m) (71 + 10 + 5 * i) (sO T i nm) (T 4 i m) (F + 3) g1 (kB2 (false || !decide (sO (ts T 4 i m (nI 0)) i nm = sO T i nm))) (nI (0 + 1)) := a1
  rw [a1', b1, c1, b_P_canTurn_14]
  dsimp only
  rw [if_pos (show (2 : Int32) < nI (2 + 1) from by decide), kG_nI hm2 (by decide), kx_nI (by omega), kLet_s, kRz_b, kBi_s]
  rfl
theorem C_dec_loop (I : Iv T nm ni nv) (hi : i < ni) : ∀ (d k f : Nat) (g : kH), k + d = nm → d < f → Com g 71 T nm ni nv → Hrd g 141 T i nm → ∃ g', b_P_decisive_96 (71 + 10 + 5 * i) (sO T i nm) f g (nI (msk (fun m => sCan T i m && sTurn T i nm m) k)) (nI k) = some (nI (msk (fun m => sCan T i m && sTurn T i nm m) nm), g') ∧ ∀ a, a ≠ 71 + 10 + 5 * i + 2 → a ≠ 144 → g' a = g a := by
  have hn := I.n
  intro d
  induction d with
  | zero =>
    intro k f g hk hf C H
    obtain ⟨f, rfl⟩ : ∃ g, f = g + 1 := ⟨f - 1, by omega⟩
    obtain rfl : k = nm := hk
    rw [b_P_decisive_96, C.1.2.1, I.2.1.1]
    exact ⟨g, if_pos (nI_le (Nat.le_refl _) (by omega)), fun _ _ _ => rfl⟩
  | succ d ih =>
    intro k f g hk hf C H
    obtain ⟨f, rfl⟩ : ∃ g, f = g + 1 := ⟨f - 1, by omega⟩
    have hkm : k < nm := by omega
    rw [b_P_decisive_96, C.1.2.1, I.2.1.1]
    dsimp only
    rw [if_neg (nI_ge hkm (by omega)), C_canVote C I hi hkm, kBi_s, nI_1]
    by_cases c : sCan T i k = true
    · rw [if_pos c]
      obtain ⟨g1, t1, t2, t3, t4⟩ := C_canTurn I hi hkm C H
      rw [t1, kBd_s]
      obtain ⟨g', r1, r2⟩ := ih (k + 1) f g1 (by omega) (by omega) t2 t3
      refine ⟨g', ?_, fun a p q => (r2 a p q).trans (t4 a p q)⟩
      by_cases s : sTurn T i nm k = true
      · rw [if_pos s, kLet_s, or_msk (fun m => sCan T i m && sTurn T i nm m) (by omega) (by rw [c, s]; rfl)]
        exact r1
      · rw [if_neg s]
        rw [nor_msk (fun m => sCan T i m && sTurn T i nm m) (by simp [s])] at r1
        exact r1
    · rw [if_neg c]
      obtain ⟨g', r1, r2⟩ := ih (k + 1) f g (by omega) (by omega) C H
      rw [nor_msk (fun m => sCan T i m && sTurn T i nm m) (by simp [c])] at r1
      exact ⟨g', r1, r2⟩
-- the reference's
theorem row_vote {h : kH} {w : Int32} (R : Row (h 787) (ts T 4 i m w) nv) (hi : i < 12) (hm : m < 12) (v : Int32) : Row (hset h 787 (250 + 3 * (12 * i + m) + 1) v 787) (ts T 4 i m v) nv := by
  rw [hs_ru]
  have := R.set3 (i := i) (m := m) (j := 1) hi hm (by decide) v
  rw [show 3 + 1 = 4 from rfl, ts_ts] at this
  exact this
theorem or_again (x k : Nat) : (x ||| 2 ^ k) ||| 2 ^ k = x ||| 2 ^ k := by
  apply eq_of_bits
  intro j
  rw [tb_or, tb_or]
  cases x.testBit j <;> cases decide (j = k) <;> rfl
theorem M_dec_try (I : Iv T nm ni nv) (hi : i < ni) (hm : m < nm) (rec : kH → Int32 → Int32 → Option (Int32 × kH)) (hc : sCan T i m = true) {x : Nat} (hx : x < 2 ^ m) : ∀ (d v f : Nat) (g : kH) (b : Bool) (w : Int32), v + d = 3 → d < f → no w 3 → Row (g 787) (ts T 4 i m w) nv →
    ∃ g', b_M_decisive_73 rec (nI i) (sO T i nm) (nI m) (nI (250 + 3 * (12 * i + m) + 1)) (T 4 i m) f g (nI (x ||| (if b then 2 ^ m else 0))) (nI v) = rec g' (nI (x ||| (if (b || (decide (v ≤ 0) && !decide (sO (ts T 4 i m (nI 0)) i nm = sO T i nm)) || (decide (v ≤ 1) && !decide (sO (ts T 4 i m (nI 1)) i nm = sO T i nm)) || (decide (v ≤ 2) && !decide (sO (ts T 4 i m (nI 2)) i nm = sO T i nm))) then 2 ^ m else 0))) (nI (m + 1)) ∧ Row (g' 787) T nv ∧ ∀ a, a ≠ 787 → a ≠ 793 → a ≠ 794 → a ≠ 795 → g' a = g a := by
  have hn := I.n
  have hi2 : i < 12 := by omega
  have hm2 : m < 12 := by omega
  intro d
  induction d with
  | zero =>
    intro v f g b w hv hf hw R
    obtain ⟨f, rfl⟩ : ∃ g, f = g + 1 := ⟨f - 1, by omega⟩
    obtain rfl : v = 3 := hv
    have R1 := row_vote R hi2 hm2 (T 4 i m)
    rw [ts_id] at R1
    rw [b_M_decisive_73]
    dsimp only
    unfold b_M_decisive_124
    rw [if_pos (show (3 : Int32) ≤ nI 3 from by decide), kG_nI (by omega) (by decide), kx_nI (by omega), kLet_s, nI_1]
    refine ⟨_, ?_, R1, fun a a1 _ _ _ => hs_of _ _ a1⟩
    simp
  | succ d ih =>
    intro v f g b w hv hf hw R
    obtain ⟨f, rfl⟩ : ∃ g, f = g + 1 := ⟨f - 1, by omega⟩
    have Iw : Iv (ts T 4 i m w) nm ni nv := I.pair4 hi hw
    have I1 : Iv (ts T 4 i m (nI v)) nm ni nv := I.pair4 hi (Or.inr ⟨v, by omega, rfl⟩)
    have R1 := row_vote R hi2 hm2 (nI v)
    obtain ⟨g1, m1, m2, m3, m4⟩ := M_outcome R1 I1 hi2
    have cv : f_M_canVote g (nI m) (nI i) = some true := by rw [M_canVote R hi2 hm2, (Same.vote T i m w).can, hc]
    rw [b_M_decisive_73]
    dsimp only
    rw [if_neg (show ¬ (3 : Int32) ≤ nI v by rw [show (3 : Int32) = nI 3 from rfl, leI (by omega) (by omega)]; omega), cv, kBi_s, if_pos rfl, kG_nI (by omega) (by decide), kx_nI (by omega), kLet_s, m1, kBd_s, nI_1]
    have so : sOut (ts T 4 i m (nI v)) i (sTal (ts T 4 i m (nI v)) i nm nm 1) (sTal (ts T 4 i m (nI v)) i nm nm 2) (sTal (ts T 4 i m (nI v)) i nm nm 0) = sO (ts T 4 i m (nI v)) i nm := rfl
    rw [so]
    have z0 : ∀ y : Nat, nI y ||| 0 = nI y := fun y => by rw [show (0 : Int32) = nI 0 from rfl, fa_or, Nat.or_zero]
    by_cases z : sO (ts T 4 i m (nI v)) i nm = sO T i nm
    · rw [if_pos z, z0]
      obtain ⟨g', r1, r2, r3⟩ := ih (v + 1) f g1 b (nI v) (by omega) (by omega) (Or.inr ⟨v, by omega, rfl⟩) (m2.row R1)
      refine ⟨g', ?_, r2, fun a a1 a2 a3 a4 => (r3 a a1 a2 a3 a4).trans ((m2 a a2 a3 a4).trans (hs_of _ _ a1))⟩
      rw [r1]
      have : v = 0 ∨ v = 1 ∨ v = 2 := by omega
      rcases this with rfl | rfl | rfl <;> simp [z]
    · rw [if_neg z, kLet_s, set_bit (by omega)]
      have e : x ||| (if b = true then 2 ^ m else 0) ||| 2 ^ m = x ||| (if true = true then 2 ^ m else 0) := by
        cases b
        · simp
        · simp [or_again]
      rw [e]
      obtain ⟨g', r1, r2, r3⟩ := ih (v + 1) f g1 true (nI v) (by omega) (by omega) (Or.inr ⟨v, by omega, rfl⟩) (m2.row R1)
      refine ⟨g', ?_, r2, fun a a1 a2 a3 a4 => (r3 a a1 a2 a3 a4).trans ((m2 a a2 a3 a4).trans (hs_of _ _ a1))⟩
      rw [r1]
      have : v = 0 ∨ v = 1 ∨ v = 2 := by omega
      rcases this with rfl | rfl | rfl <;> simp [z]
theorem M_dec_loop (I : Iv T nm ni nv) (hi : i < ni) : ∀ (d k f : Nat) (g : kH), k + d = nm → d < f → Row (g 787) T nv → ∃ g', b_M_decisive_32 (nI i) (sO T i nm) f g (nI (msk (fun m => sCan T i m && sTurn T i nm m) k)) (nI k) = some (nI (msk (fun m => sCan T i m && sTurn T i nm m) nm), g') ∧ Row (g' 787) T nv ∧ ∀ a, a ≠ 787 → a ≠ 793 → a ≠ 794 → a ≠ 795 → g' a = g a := by
  have hn := I.n
  have hi2 : i < 12 := by omega
  intro d
  induction d with
  | zero =>
    intro k f g hk hf R
    obtain ⟨f, rfl⟩ : ∃ g, f = g + 1 := ⟨f - 1, by omega⟩
    obtain rfl : k = nm := hk
    rw [b_M_decisive_32]
    dsimp only
    rw [g760_7, x_7, R.1 7 (by decide), I.2.1.1, if_pos (nI_le (Nat.le_refl _) (by omega))]
    exact ⟨g, rfl, R, fun _ _ _ _ _ => rfl⟩
  | succ d ih =>
    intro k f g hk hf R
    obtain ⟨f, rfl⟩ : ∃ g, f = g + 1 := ⟨f - 1, by omega⟩
    have hkm : k < nm := by omega
    have hk2 : k < 12 := by omega
    have o4 := ((I.i2 hi2 k hk2).2.1)
    have e4 : g 787 (250 + 3 * (12 * i + k) + 1) = T 4 i k := R.2.2.2.1 i k 1 hi2 hk2 (by decide)
    rw [b_M_decisive_32]
    dsimp only
    rw [g760_7, x_7, R.1 7 (by decide), I.2.1.1, if_neg (nI_ge hkm (by omega)), show (1 : Int32) = nI 1 from rfl, e3, kLet_s, kG_nI (by omega) (by decide), kx_nI (by omega), e4]
    by_cases c : sCan T i k = true
    · have R0 : Row (g 787) (ts T 4 i k (T 4 i k)) nv := by rw [ts_id]; exact R
      obtain ⟨g1, r1, r2, r3⟩ := M_dec_try I hi hkm (fun h' x3' x4' => b_M_decisive_32 (nI i) (sO T i nm) f h' x3' x4') c (msk_lt (fun m => sCan T i m && sTurn T i nm m) k) 3 0 kFuel g false (T 4 i k) rfl (kF_lt (by omega)) o4 R0
      obtain ⟨g', q1, q2, q3⟩ := ih (k + 1) f g1 (by omega) (by omega) r2
      refine ⟨g', ?_, q2, fun a a1 a2 a3 a4 => (q3 a a1 a2 a3 a4).trans (r3 a a1 a2 a3 a4)⟩
      have e0 : nI (msk (fun m => sCan T i m && sTurn T i nm m) k ||| (if false = true then 2 ^ k else 0)) = nI (msk (fun m => sCan T i m && sTurn T i nm m) k) := by simp
      rw [e0] at r1
      rw [show (0 : Int32) = nI 0 from rfl, r1]
      have e9 : (false || (decide (0 ≤ 0) && !decide (sO (ts T 4 i k (nI 0)) i nm = sO T i nm)) || (decide (0 ≤ 1) && !decide (sO (ts T 4 i k (nI 1)) i nm = sO T i nm)) || (decide (0 ≤ 2) && !decide (sO (ts T 4 i k (nI 2)) i nm = sO T i nm))) = sTurn T i nm k := by
        unfold sTurn
        simp
      rw [e9]
      have em : msk (fun m => sCan T i m && sTurn T i nm m) k ||| (if sTurn T i nm k = true then 2 ^ k else 0) = msk (fun m => sCan T i m && sTurn T i nm m) (k + 1) := by
        rw [msk, c]
        by_cases s : sTurn T i nm k = true
        · rw [if_pos s, or_bit (msk_lt _ k)]
          simp [s]
        · rw [if_neg s, Nat.or_zero]
          simp [s]
      rw [em]
      exact q1
    · have R1 : Row (hset g 787 (250 + 3 * (12 * i + k) + 1) (T 4 i k) 787) T nv := by
        have := row_vote (T := T) (i := i) (m := k) (w := T 4 i k) (h := g) (nv := nv) (by rw [ts_id]; exact R) hi2 hk2 (T 4 i k)
        rw [ts_id] at this
        exact this
      obtain ⟨g', q1, q2, q3⟩ := ih (k + 1) f _ (by omega) (by omega) R1
      refine ⟨g', ?_, q2, fun a a1 a2 a3 a4 => (q3 a a1 a2 a3 a4).trans (hs_of _ _ a1)⟩
      obtain ⟨F, hF⟩ : ∃ F, kFuel = F + 1 := ⟨19999, rfl⟩
      rw [hF, b_M_decisive_73]
      dsimp only
      unfold b_M_decisive_124
      rw [if_neg (by decide), M_canVote R hi2 hk2, kBi_s, if_neg c, kG_nI (by omega) (by decide), kx_nI (by omega), kLet_s, nI_1]
      rw [nor_msk (fun m => sCan T i m && sTurn T i nm m) (by simp [c])] at q1
      exact q1
end
theorem bo_decisive (x : Int32) : Both (fun h => f_P_decisive h x) (fun h => f_M_decisive h x) := by
  refine Both.asr fun h T nm ni nv u sp g => ?_
  obtain ⟨I, C, R, -⟩ := g
  have hn := I.n
  have ar : ∀ h : kH, Asr h h := fun h => Asr.of fun _ _ => rfl
  rcases ixc x (n := ni) (by omega) with q | ⟨i, hi, rfl⟩
  · refine ⟨-1, h, h, ?_, Asd.rfl', ?_, ar h, R⟩
    · unfold f_P_decisive; rw [C_hasItem_bad C I q, if_neg (by decide)]
    · unfold f_M_decisive; rw [M_isItem_bad R I q, kBi_s, if_neg (by decide)]
  have hi2 : i < 12 := by omega
  by_cases a : sAhead T i = true
  · obtain ⟨g1, c1, c2, c3⟩ := C_copyFrom (o := 71) C I (by omega)
    obtain ⟨g2, l1, l2, l3⟩ := C_listen (s := 141) c3 I hi (Or.inr (by decide))
    have C2 : Com g2 71 T nm ni nv := c3.cong hn.2.1 fun b b1 b2 => l2 b (by omega) (by omega)
    obtain ⟨g3, t1, t2, t3⟩ := C_tally (s := 141) C2 I hi (Or.inr (by decide)) l3
    have C3 : Com g3 71 T nm ni nv := C2.cong hn.2.1 fun b b1 b2 => t2 b (by omega)
    have H3 : Hrd g3 141 T i nm := l3.cong (t2 _ (by decide)) (t2 _ (by decide))
    obtain ⟨g4, r1, r2⟩ := C_dec_loop I hi nm 0 kFuel g3 (by omega) (kF_lt (by omega)) C3 H3
    have o : ∀ b, (b < 71 ∨ 145 ≤ b) → g4 b = h b := fun b hb => by rw [r2 b (by omega) (by omega), t2 b (by omega), l2 b (by omega) (by omega), c2 b (by omega)]
    have R4 : Row (g4 787) T nv := by rw [o 787 (by omega)]; exact R
    obtain ⟨g5, m1, m2, m3, m4⟩ := M_outcome R4 I hi2
    obtain ⟨g6, n1, n2, n3⟩ := M_dec_loop I hi nm 0 kFuel g5 (by omega) (kF_lt (by omega)) (m2.row R4)
    refine ⟨nI (msk (fun m => sCan T i m && sTurn T i nm m) nm), g4, g6, ?_, Asd.of fun b hb => o b (by omega), ?_, Asr.of fun b hb => (n3 b (by omega) (by omega) (by omega) (by omega)).trans (m2 b (by omega) (by omega) (by omega)), n2⟩
    · unfold f_P_decisive
      rw [C_hasItem_ok C I hi, if_pos rfl, kG_nI hi2 (by decide), kx_nI (by omega), C_isPending C hi, if_pos a, c1, kBi_s, kG_nI hi2 (by decide), l1, kBi_s, t1, kBi_s, C_outcome (s := 141) C3 hi, kBi_s, t3 1 (by decide), t3 2 (by decide), t3 0 (by decide), Int32.add_zero]
      exact r1
    · unfold f_M_decisive
      rw [M_isItem_ok R4 I hi, kBi_s, if_pos rfl, M_isAhead R4 I hi2, kBi_s, if_pos a, m1, kBd_s]
      exact n1
  · refine ⟨-5, h, h, ?_, Asd.rfl', ?_, ar h, R⟩
    · unfold f_P_decisive
      rw [C_hasItem_ok C I hi, if_pos rfl, kG_nI hi2 (by decide), kx_nI (by omega), C_isPending C hi, if_neg a]
    · unfold f_M_decisive
      rw [M_isItem_ok R I hi, kBi_s, if_pos rfl, M_isAhead R I hi2, kBi_s, if_neg a]
