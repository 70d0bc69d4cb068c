/-! PURE: bestHolder. -/
abbrev tH (T : kT) (m k : Nat) : kT := ts T 1 m 3 (nI k)
def cnH (T : kT) (i nm m k : Nat) : Nat := sCnt (tH T m k) (sV (tH T m k) i nm) nm k
def goodH (T : kT) (i nm m k : Nat) : Bool := sCan T i k && decide (sV (tH T m k) i nm m = nI k)
def bh (T : kT) (i nm m : Nat) : Nat → Int32
  | 0 => -6
  | k + 1 => if goodH T i nm m k = true ∧ (bh T i nm m k = -6 ∨ cnH T i nm m k < cnH T i nm m (kx (bh T i nm m k))) then nI k else bh T i nm m k
theorem bh_no (T : kT) (i nm m : Nat) : ∀ k, no (bh T i nm m k) k
  | 0 => Or.inl rfl
  | k + 1 => by
    rw [bh]
    split
    · exact Or.inr ⟨k, by omega, rfl⟩
    · exact (bh_no T i nm m k).mono (by omega)
theorem cnH_le (T : kT) (i nm m k : Nat) : cnH T i nm m k ≤ nm := fb_ct_le _ nm
theorem ps_h (T : kT) (m : Nat) (v : Int32) : ps (ts T 1 m 3 v) = ps T := by
  funext j
  unfold ps
  rw [ts_ne _ _ (by omega)]
theorem rec_h (T : kT) (i m : Nat) (v : Int32) (k : Nat) : sRec (ts T 1 m 3 v) i k = sRec T i k := by
  unfold sRec
  rw [ts_ne _ _ (by omega), ts_ne _ _ (by omega), ts_ne _ _ (by omega)]
theorem can_h (T : kT) (i m : Nat) (v : Int32) (k : Nat) : sCan (ts T 1 m 3 v) i k = sCan T i k := by
  unfold sCan
  rw [ps_h, rec_h]
section
variable {T : kT} {nm ni nv i m : Nat}
theorem C_best (I : Iv T nm ni nv) (hi : i < ni) (hm : m < nm) : ∀ (d k f : Nat) (g : kH) (w : Int32), k + d = nm → d < f → Com g 71 (ts T 1 m 3 w) nm ni nv → no w nm →
    ∃ g', b_P_bestHolder_93 (nI m) (71 + 10 + 5 * i) f g (bh T i nm m k) (if bh T i nm m k = -6 then 13 else nI (cnH T i nm m (kx (bh T i nm m k)))) (nI k) = some (bh T i nm m nm, g') ∧ ∀ a, (a < 71 ∨ 145 ≤ a) → g' a = g a := by
  have hn := I.n
  have hm2 : m < 12 := by omega
  intro d
  induction d with
  | zero =>
    intro k f g w hk hf C hw
    obtain ⟨f, rfl⟩ : ∃ g, f = g + 1 := ⟨f - 1, by omega⟩
    obtain rfl : k = nm := hk
    have I' := I.holder hm hw
    rw [b_P_bestHolder_93, C.1.2.1, I'.2.1.1]
    exact ⟨g, if_pos (nI_le (Nat.le_refl _) (by omega)), fun _ _ => rfl⟩
  | succ d ih =>
    intro k f g w hk hf C hw
    obtain ⟨f, rfl⟩ : ∃ g, f = g + 1 := ⟨f - 1, by omega⟩
    have hkm : k < nm := by omega
    have I' := I.holder hm hw
    have Ik : Iv (tH T m k) nm ni nv := I.holder hm (Or.inr ⟨k, hkm, rfl⟩)
    rw [b_P_bestHolder_93, C.1.2.1, I'.2.1.1]
    dsimp only
    rw [if_neg (nI_ge hkm (by omega)), C_canVote C I' hi hkm, can_h, kBi_s, nI_1]
    have keep : ∀ (g1 : kH) (w1 : Int32), no w1 nm → Com g1 71 (ts T 1 m 3 w1) nm ni nv → (∀ a, (a < 71 ∨ 145 ≤ a) → g1 a = g a) → ¬ (goodH T i nm m k = true ∧ (bh T i nm m k = -6 ∨ cnH T i nm m k < cnH T i nm m (kx (bh T i nm m k)))) → ∃ g', b_P_bestHolder_93 (nI m) (71 + 10 + 5 * i) f g1 (bh T i nm m k) (if bh T i nm m k = -6 then 13 else nI (cnH T i nm m (kx (bh T i nm m k)))) (nI (k + 1)) = some (bh T i nm m nm, g') ∧ ∀ a, (a < 71 ∨ 145 ≤ a) → g' a = g a := by
      intro g1 w1 hw1 C1 o1 q
      have e : bh T i nm m (k + 1) = bh T i nm m k := if_neg q
      obtain ⟨g', r1, r2⟩ := ih (k + 1) f g1 w1 (by omega) (by omega) C1 hw1
      rw [e] at r1
      exact ⟨g', r1, fun a ha => (r2 a ha).trans (o1 a ha)⟩
    by_cases c : sCan T i k = true
    · have C1 : Com (hset g 75 m (nI k)) 71 (tH T m k) nm ni nv := by
        have := C.holder (m := m) (nI k)
        rw [ts_ts] at this
        exact this
      obtain ⟨g1, l1, l2, l3⟩ := C_listen (s := 141) C1 Ik hi (Or.inr (by decide))
      have C2 : Com g1 71 (tH T m k) nm ni nv := C1.cong hn.2.1 fun a a1 a2 => l2 a (by omega) (by omega)
      have o1 : ∀ a, (a < 71 ∨ 145 ≤ a) → g1 a = g a := fun a ha => by rw [l2 a (by omega) (by omega), hs_of _ _ (by omega)]
      rw [if_pos c, kG_nI hm2 (by decide), kx_nI (by omega), kLet_s, l1, kBi_s, kG_nI hm2 (by decide), show g1 142 m = sV (tH T m k) i nm m from l3.1 m hm2, kG_nI (by omega) (by decide), kG_nI (by omega) (by decide), kx_nI (by omega), show g1 143 k = nI (cnH T i nm m k) from l3.2 k (by omega)]
      have cl := cnH_le T i nm m k
      have cl2 := cnH_le T i nm m (kx (bh T i nm m k))
      by_cases v : sV (tH T m k) i nm m = nI k
      · have gd : goodH T i nm m k = true := by unfold goodH; rw [c, v]; simp
        rw [if_pos v]
        have cmp : ((if bh T i nm m k = -6 then 13 else nI (cnH T i nm m (kx (bh T i nm m k)))) ≤ nI (cnH T i nm m k)) = ¬ (bh T i nm m k = -6 ∨ cnH T i nm m k < cnH T i nm m (kx (bh T i nm m k))) := by
          by_cases z : bh T i nm m k = -6
          · rw [if_pos z, show (13 : Int32) = nI 13 from rfl, leI (by omega) (by omega)]
            exact propext ⟨fun u => by omega, fun u => absurd (Or.inl z) u⟩
          · rw [if_neg z, leI (by omega) (by omega)]
            exact propext ⟨fun u => by rintro (a | a); exact z a; omega, fun u => Nat.not_lt.mp fun a => u (Or.inr a)⟩
        by_cases z : bh T i nm m k = -6 ∨ cnH T i nm m k < cnH T i nm m (kx (bh T i nm m k))
        · have e : bh T i nm m (k + 1) = nI k := if_pos ⟨gd, z⟩
          obtain ⟨g', r1, r2⟩ := ih (k + 1) f g1 (nI k) (by omega) (by omega) C2 (Or.inr ⟨k, hkm, rfl⟩)
          rw [e, if_neg (n6_ne (by omega)), kx_nI (by omega)] at r1
          rw [if_neg (by rw [cmp]; exact fun u => u z)]
          exact ⟨g', r1, fun a ha => (r2 a ha).trans (o1 a ha)⟩
        · rw [if_pos (by rw [cmp]; exact z)]
          exact keep g1 (nI k) (Or.inr ⟨k, hkm, rfl⟩) C2 o1 fun u => z u.2
      · rw [if_neg v]
        refine keep g1 (nI k) (Or.inr ⟨k, hkm, rfl⟩) C2 o1 fun u => v ?_
        have := u.1
        unfold goodH at this
        rw [c] at this
        simpa using this
    · rw [if_neg c]
      refine keep g w hw C (fun _ _ => rfl) fun u => c ?_
      have := u.1
      unfold goodH at this
      simp only [Bool.and_eq_true] at this
      exact this.1
theorem row_h {h : kH} {w : Int32} (R : Row (h 787) (ts T 1 m 3 w) nv) (hm : m < 12) (v : Int32) : Row (hset h 787 (20 + 6 * m + 3) v 787) (ts T 1 m 3 v) nv := by
  rw [hs_ru]
  have := R.set1 (m := m) (j := 3) hm (by decide) v
  rw [ts_ts] at this
  exact this
theorem M_best' (I : Iv T nm ni nv) (hi : i < ni) (hm : m < nm) : ∀ (d k f : Nat) (g : kH) (w c0 : Int32), k + d = nm → d < f → Row (g 787) (ts T 1 m 3 w) nv → no w nm → (bh T i nm m k = -6 ∨ c0 = nI (cnH T i nm m (kx (bh T i nm m k)))) →
    ∃ g', b_M_bestHolder_76 (nI m) (nI i) (nI (20 + 6 * m + 3)) (T 1 m 3) f g (bh T i nm m k) c0 (nI k) = some (bh T i nm m nm, g') ∧ Mo g g' ∧ Row (g' 787) T nv := by
  have hn := I.n
  have hm2 : m < 12 := by omega
  have hi2 : i < 12 := by omega
  intro d
  induction d with
  | zero =>
    intro k f g w c0 hk hf R hw hc
    obtain ⟨f, rfl⟩ : ∃ g, f = g + 1 := ⟨f - 1, by omega⟩
    obtain rfl : k = nm := hk
    have I' := I.holder hm hw
    have R1 := row_h R hm2 (T 1 m 3)
    rw [ts_id] at R1
    rw [b_M_bestHolder_76]
    dsimp only
    rw [g760_7, x_7, R.1 7 (by decide), I'.2.1.1, if_pos (nI_le (Nat.le_refl _) (by omega)), kG_nI (by omega) (by decide), kx_nI (by omega), kLet_s]
    exact ⟨_, rfl, fun a a1 _ _ _ => hs_of _ _ a1, R1⟩
  | succ d ih =>
    intro k f g w c0 hk hf R hw hc
    obtain ⟨f, rfl⟩ : ∃ g, f = g + 1 := ⟨f - 1, by omega⟩
    have hkm : k < nm := by omega
    have I' := I.holder hm hw
    have Ik : Iv (tH T m k) nm ni nv := I.holder hm (Or.inr ⟨k, hkm, rfl⟩)
    rw [b_M_bestHolder_76]
    dsimp only
    rw [g760_7, x_7, R.1 7 (by decide), I'.2.1.1, if_neg (nI_ge hkm (by omega)), M_canVote R hi2 (by omega), can_h, kBi_s, nI_1]
    unfold b_M_bestHolder_142 b_M_bestHolder_146 b_M_bestHolder_147 b_M_bestHolder_161
    have keep : ∀ (g1 : kH) (w1 : Int32), no w1 nm → Row (g1 787) (ts T 1 m 3 w1) nv → Mo g g1 → ¬ (goodH T i nm m k = true ∧ (bh T i nm m k = -6 ∨ cnH T i nm m k < cnH T i nm m (kx (bh T i nm m k)))) → ∃ g', b_M_bestHolder_76 (nI m) (nI i) (nI (20 + 6 * m + 3)) (T 1 m 3) f g1 (bh T i nm m k) c0 (nI (k + 1)) = some (bh T i nm m nm, g') ∧ Mo g g' ∧ Row (g' 787) T nv := by
      intro g1 w1 hw1 R1 o1 q
      have e : bh T i nm m (k + 1) = bh T i nm m k := if_neg q
      obtain ⟨g', r1, r2, r3⟩ := ih (k + 1) f g1 w1 c0 (by omega) (by omega) R1 hw1 (by rw [e]; exact hc)
      rw [e] at r1
      exact ⟨g', r1, o1.trans r2, r3⟩
    by_cases c : sCan T i k = true
    · have R1 := row_h R hm2 (nI k)
      obtain ⟨g1, v1, v2, v3⟩ := M_layVoices R1 Ik hi2
      have R2 : Row (g1 787) (tH T m k) nv := by rw [v2 787 (by decide) (by decide)]; exact R1
      have o1 : Mo g g1 := fun a a1 a2 a3 a4 => (v2 a a2 a3).trans (hs_of _ _ a1)
      have cl := cnH_le T i nm m k
      have b4 : f_M_bits (g1 794 k) = some (nI (cnH T i nm m k)) := by
        rw [v3.2 k (by omega), M_bits (msk_12 _ hn.1), ct_msk _ hn.1]
        rfl
      rw [if_pos c, kG_nI (by omega) (by decide), kx_nI (by omega), kLet_s, v1, kBi_s, kG_nI hm2 (by decide), kx_nI (by omega), v3.1 m hm, kG_nI (by omega) (by decide), kG_nI (by omega) (by decide), kx_nI (by omega), b4, kBi_s, kBi_s, show kB2 true = 1 from rfl, show kB2 false = 0 from rfl, if_neg (show ¬ (1 : Int32) = 0 by decide), if_pos (show (0 : Int32) = 0 from rfl), if_pos rfl, if_neg (show ¬ (false = true) by decide), nI_1]
      have upd : (goodH T i nm m k = true ∧ (bh T i nm m k = -6 ∨ cnH T i nm m k < cnH T i nm m (kx (bh T i nm m k)))) → ∃ g', b_M_bestHolder_76 (nI m) (nI i) (nI (20 + 6 * m + 3)) (T 1 m 3) f g1 (nI k) (nI (cnH T i nm m k)) (nI (k + 1)) = some (bh T i nm m nm, g') ∧ Mo g g' ∧ Row (g' 787) T nv := by
        intro q
        have e : bh T i nm m (k + 1) = nI k := if_pos q
        obtain ⟨g', r1, r2, r3⟩ := ih (k + 1) f g1 (nI k) (nI (cnH T i nm m k)) (by omega) (by omega) R2 (Or.inr ⟨k, hkm, rfl⟩) (Or.inr (by rw [e, kx_nI (by omega)]))
        rw [e] at r1
        exact ⟨g', r1, o1.trans r2, r3⟩
      by_cases v : sV (tH T m k) i nm m = nI k
      · have gd : goodH T i nm m k = true := by unfold goodH; rw [c, v]; simp
        rw [if_pos v]
        rcases bh_no T i nm m k with e | ⟨y, hy, e⟩
        · rw [if_pos (by rw [e]; exact n6_lt)]
          exact upd ⟨gd, Or.inl e⟩
        · have n6 : ¬ bh T i nm m k = -6 := by rw [e]; exact n6_ne (by omega)
          have hc' := hc.resolve_left n6
          have cl2 := cnH_le T i nm m (kx (bh T i nm m k))
          have cmp : (c0 ≤ nI (cnH T i nm m k)) = (cnH T i nm m (kx (bh T i nm m k)) ≤ cnH T i nm m k) := by rw [hc']; exact leI (by omega) (by omega)
          rw [if_neg (by rw [e]; exact pos_nI (by omega))]
          by_cases z : cnH T i nm m (kx (bh T i nm m k)) ≤ cnH T i nm m k
          · rw [kG_nI (by omega) (by decide), kBi_s, if_pos (by rw [cmp]; exact z)]
            exact keep g1 (nI k) (Or.inr ⟨k, hkm, rfl⟩) R2 o1 fun u => by
              rcases u.2 with a | a
              · exact n6 a
              · omega
          · rw [kG_nI (by omega) (by decide), kBi_s, if_neg (by rw [cmp]; exact z)]
            exact upd ⟨gd, Or.inr (by omega)⟩
      · rw [if_neg v]
        refine keep g1 (nI k) (Or.inr ⟨k, hkm, rfl⟩) R2 o1 fun u => v ?_
        have := u.1
        unfold goodH at this
        rw [c] at this
        simpa using this
    · rw [if_neg c]
      refine keep g w hw R (fun _ _ _ _ _ => rfl) fun u => c ?_
      have := u.1
      unfold goodH at this
      simp only [Bool.and_eq_true] at this
      exact this.1
end
theorem bo_bestHolder (x y : Int32) : Both (fun h => f_P_bestHolder h x y) (fun h => f_M_bestHolder h x y) := by
  refine Both.asr fun h T nm ni nv u sp g => ?_
  obtain ⟨I, C, R, -⟩ := g
  have hn := I.n
  have ar : ∀ h : kH, Asr h h := fun h => Asr.of fun _ _ => rfl
  rcases ixc x (n := nm) (by omega) with q | ⟨m, hm, rfl⟩
  · refine ⟨-1, h, h, ?_, Asd.rfl', ?_, ar h, R⟩
    · unfold f_P_bestHolder; rw [C_hasMember_bad C I q, if_neg (by decide)]
    · unfold f_M_bestHolder; rw [M_isMember_bad R I q, kBi_s, if_neg (by decide)]
  rcases ixc y (n := ni) (by omega) with q | ⟨i, hi, rfl⟩
  · refine ⟨-1, h, h, ?_, Asd.rfl', ?_, ar h, R⟩
    · unfold f_P_bestHolder; rw [C_hasMember_ok C I hm, if_pos rfl, C_hasItem_bad C I q, if_neg (by decide)]
    · unfold f_M_bestHolder; rw [M_isMember_ok R I hm, kBi_s, if_pos rfl, M_isItem_bad R I q, kBi_s, if_neg (by decide)]
  have hi2 : i < 12 := by omega
  have hm2 : m < 12 := by omega
  obtain ⟨g1, c1, c2, c3⟩ := C_copyFrom (o := 71) C I (by omega)
  have o : ∀ b, (b < 71 ∨ 145 ≤ b) → g1 b = h b := fun b hb => c2 b (by omega)
  have R1 : Row (g1 787) T nv := by rw [o 787 (by omega)]; exact R
  have cP : f_P_bestHolder h (nI m) (nI i) = if ps T m = true then some (-5, g1) else if sRec T i m = true then some (-5, g1) else if T 3 i m = -6 then b_P_bestHolder_93 (nI m) (71 + 10 + 5 * i) kFuel g1 (-6) 13 0 else some (-5, g1) := by
    unfold f_P_bestHolder
    rw [C_hasMember_ok C I hm, if_pos rfl, C_hasItem_ok C I hi, if_pos rfl, c1, kBi_s, kG_nI hi2 (by decide), kx_nI (by omega), C_isPresent c3 I hm, C_isRecused c3 I hi hm, kBi_s, kG_nI hm2 (by decide), kx_nI (by omega), ((c3.f i hi).2.2.2.2.2.2.2 m hm2).2.2]
  have o3 := (I.i2 hi2 m hm2).1
  have cM : f_M_bestHolder g1 (nI m) (nI i) = if ps T m = true then some (-5, g1) else if sRec T i m = true then some (-5, g1) else if T 3 i m < 0 then b_M_bestHolder_76 (nI m) (nI i) (nI (20 + 6 * m + 3)) (T 1 m 3) kFuel g1 (-6) 0 0 else some (-5, g1) := by
    have e9 : g1 787 (20 + 6 * m + 3) = T 1 m 3 := R1.2.1 m 3 hm2 (by decide)
    unfold f_M_bestHolder
    rw [M_isMember_ok R1 I hm, kBi_s, if_pos rfl, M_isItem_ok R1 I hi, kBi_s, if_pos rfl, M_isPresent R1 hm2, kBi_s, M_isRecused R1 hi2 hm2, kBi_s, M_pair0 R1 hi2 hm2, kBi_s, show (3 : Int32) = nI 3 from rfl, e1, kG_nI (by omega) (by decide), kx_nI (by omega), e9, kLet_s]
  have fin : ∀ v h2, f_P_bestHolder h (nI m) (nI i) = some (v, g1) → f_M_bestHolder g1 (nI m) (nI i) = some (v, h2) → h2 = g1 → ∃ v h1 h2, f_P_bestHolder h (nI m) (nI i) = some (v, h1) ∧ Asd h h1 ∧ f_M_bestHolder h1 (nI m) (nI i) = some (v, h2) ∧ Asr h1 h2 ∧ Row (h2 787) T nv := fun v h2 a b e => ⟨v, g1, h2, a, Asd.of fun q hq => o q (by omega), b, by rw [e]; exact ar g1, by rw [e]; exact R1⟩
  by_cases p : ps T m = true
  · exact fin (-5) g1 (cP.trans (if_pos p)) (cM.trans (if_pos p)) rfl
  rw [if_neg p] at cP cM
  by_cases r : sRec T i m = true
  · exact fin (-5) g1 (cP.trans (if_pos r)) (cM.trans (if_pos r)) rfl
  rw [if_neg r] at cP cM
  by_cases t : T 3 i m = -6
  · have C0 : Com g1 71 (ts T 1 m 3 (T 1 m 3)) nm ni nv := by rw [ts_id]; exact c3
    obtain ⟨g2, r1, r2⟩ := C_best I hi hm nm 0 kFuel g1 (T 1 m 3) (by omega) (kF_lt (by omega)) C0 (I.m hm2).2.1
    have o2 : ∀ b, (b < 71 ∨ 145 ≤ b) → g2 b = h b := fun b hb => (r2 b hb).trans (o b hb)
    have R2 : Row (g2 787) T nv := by rw [o2 787 (by omega)]; exact R
    have e9 : g2 787 (20 + 6 * m + 3) = T 1 m 3 := R2.2.1 m 3 hm2 (by decide)
    obtain ⟨g3, s1, s2, s3⟩ := M_best' I hi hm nm 0 kFuel g2 (T 1 m 3) 0 (by omega) (kF_lt (by omega)) (by rw [ts_id]; exact R2) (I.m hm2).2.1 (Or.inl rfl)
    refine ⟨bh T i nm m nm, g2, g3, ?_, Asd.of fun b hb => o2 b (by omega), ?_, Asr.of fun b hb => s2 b (by omega) (by omega) (by omega) (by omega), s3⟩
    · rw [cP, if_pos t]
      exact r1
    · unfold f_M_bestHolder
      rw [M_isMember_ok R2 I hm, kBi_s, if_pos rfl, M_isItem_ok R2 I hi, kBi_s, if_pos rfl, M_isPresent R2 hm2, kBi_s, if_neg p, M_isRecused R2 hi2 hm2, kBi_s, if_neg r, M_pair0 R2 hi2 hm2, kBi_s, if_pos (by rw [t]; exact n6_lt), show (3 : Int32) = nI 3 from rfl, e1, kG_nI (by omega) (by decide), kx_nI (by omega), e9, kLet_s]
      exact s1
  · have t' : ¬ T 3 i m < 0 := by
      rw [o3.neg (by omega)]
      exact t
    exact fin (-5) g1 (cP.trans (if_neg t)) (cM.trans (if_neg t')) rfl
