/-! PURE: needed, on both sides. -/
theorem xor_all {M : Nat} (h : M < 2 ^ 31) : nI M ^^^ (-1) = nI (4294967295 - M) := by
  apply Int32.toBitVec_inj.mp
  rw [Int32.toBitVec_xor]
  show BitVec.ofNat 32 M ^^^ BitVec.allOnes 32 = BitVec.ofNat 32 (4294967295 - M)
  rw [BitVec.xor_allOnes]
  apply BitVec.eq_of_toNat_eq
  rw [BitVec.toNat_not, BitVec.toNat_ofNat, BitVec.toNat_ofNat]
  omega
def sub' (x M : Nat) : Bool := decide (nI x &&& (nI M ^^^ (-1)) = 0)
theorem sub_of {x M : Nat} (hx : x < 4096) (hM : M < 4096) (h : sub' x M = true) : ∀ j, x.testBit j = true → M.testBit j = true := by
  intro j hj
  unfold sub' at h
  rw [xor_all (by omega), fa_and] at h
  have h0 := of_decide_eq_true h
  have l : x &&& (4294967295 - M) < 4096 := Nat.lt_of_le_of_lt Nat.and_le_left hx
  rw [show (0 : Int32) = nI 0 from rfl, eqI (by omega) (by omega)] at h0
  have hb : (x &&& (4294967295 - M)).testBit j = false := by rw [h0, Nat.zero_testBit]
  rw [Nat.testBit_and, hj, Bool.true_and, show 4294967295 - M = 2 ^ 32 - (M + 1) by omega, Nat.testBit_two_pow_sub_succ (by omega)] at hb
  have hj12 : j < 32 := by
    rcases Nat.lt_or_ge j 32 with q | q
    · exact q
    · have h1 : 2 ^ 32 ≤ 2 ^ j := Nat.pow_le_pow_right (by decide) q
      rw [Nat.testBit_lt_two_pow (by omega)] at hj
      cases hj
  simpa [hj12] using hb
theorem sub_le {x M : Nat} (hx : x < 4096) (hM : M < 4096) (h : sub' x M = true) : x ≤ M := by
  have e : x &&& M = x := by
    apply eq_of_bits
    intro j
    rw [Nat.testBit_and]
    cases q : x.testBit j
    · rfl
    · rw [sub_of hx hM h j q]; rfl
  rw [← e]
  exact Nat.and_le_right
def ct (x : Nat) : Nat := fb_ct (fun j => x.testBit j) 12
theorem ct_le (x : Nat) : ct x ≤ 12 := fb_ct_le _ 12
/-- the best of the sets below x -/
def bst (T : kT) (i nm : Nat) : Nat → Int32
  | 0 => -6
  | x + 1 => if sub' x (msk (cand T i) nm) = true ∧ (bst T i nm x = -6 ∨ ct x < ct (kx (bst T i nm x))) ∧ carries T i nm (fun j => x.testBit j) = true then nI x else bst T i nm x
theorem bst_no (T : kT) (i nm : Nat) : ∀ x, no (bst T i nm x) x
  | 0 => Or.inl rfl
  | x + 1 => by
    rw [bst]
    split
    · exact Or.inr ⟨x, by omega, rfl⟩
    · exact (bst_no T i nm x).mono (by omega)
section
variable {T : kT} {nm ni nv i : Nat}
theorem bst_end (hn : nm ≤ 12) : ∀ d, msk (cand T i) nm + 1 + d ≤ 4096 → bst T i nm (msk (cand T i) nm + 1 + d) = bst T i nm (msk (cand T i) nm + 1)
  | 0, _ => rfl
  | d + 1, h => by
    have hM : msk (cand T i) nm < 4096 := msk_12 _ hn
    rw [← Nat.add_assoc, bst, if_neg, bst_end hn d (by omega)]
    intro q
    have := sub_le (by omega) hM q.1
    omega
theorem sub_x (hn : nm ≤ 12) {x : Nat} (hx : x < 4096) (h : sub' x (msk (cand T i) nm) = true) : ∀ m, x.testBit m = true → m < nm ∧ cand T i m = true := by
  intro m hm
  have := sub_of hx (msk_12 _ hn) h m hm
  rw [msk_bit] at this
  simpa using this
theorem gS_one {m : Nat} (hm : m < nm) : gS T i nm (fun c => decide (c = m)) = gN T i nm m := by
  unfold gS
  have e : ∀ k, k < nm → (if (fun c => decide (c = m)) k = true then gN T i nm k else 0) = if k = m then gN T i nm m else 0 := by
    intro k _
    by_cases q : k = m
    · rw [q]; simp
    · simp [q]
  rw [sumN_cong e, sumN_one, if_pos hm]
theorem C_gains (I : Iv T nm ni nv) (hi : i < ni) : ∀ (d k f : Nat) (g : kH), k + d = nm → d < f → Com g 71 T nm ni nv → Hrd g 141 T i nm → (∀ m, m < k → cand T i m = true → g 644 m = nI (gN T i nm m)) →
    ∃ g', b_P_findGains_39 (71 + 10 + 5 * i) (nI (sTN T i nm 1)) f g (nI (msk (cand T i) k)) (nI k) = some (nI (msk (cand T i) nm), g') ∧ Com g' 71 T nm ni nv ∧ (∀ w, w < 6 → g' 144 w = sTal T i nm nm w) ∧ (∀ m, m < nm → cand T i m = true → g' 644 m = nI (gN T i nm m)) ∧ ∀ a, a ≠ 71 + 10 + 5 * i + 2 → a ≠ 144 → a ≠ 644 → g' a = g a := by
  have hn := I.n
  have hi2 : i < 12 := by omega
  intro d
  induction d with
  | zero =>
    intro k f g hk hf C H G'
    obtain ⟨f, rfl⟩ : ∃ g, f = g + 1 := ⟨f - 1, by omega⟩
    obtain rfl : k = nm := hk
    obtain ⟨g', t1, t2, t3⟩ := C_tally (s := 141) C I hi (Or.inr (by decide)) H
    rw [b_P_findGains_39, C.1.2.1, I.2.1.1]
    dsimp only
    rw [if_pos (nI_le (Nat.le_refl _) (by omega)), t1, kBi_s]
    exact ⟨g', rfl, C.cong hn.2.1 fun a a1 a2 => t2 a (by omega), t3, fun m hm hc => by rw [t2 644 (by decide)]; exact G' m hm hc, fun a _ p _ => t2 a p⟩
  | succ d ih =>
    intro k f g hk hf C H G'
    obtain ⟨f, rfl⟩ : ∃ g, f = g + 1 := ⟨f - 1, by omega⟩
    have hkm : k < nm := by omega
    have hk2 : k < 12 := by omega
    rw [b_P_findGains_39, C.1.2.1, I.2.1.1]
    dsimp only
    rw [if_neg (nI_ge hkm (by omega)), C_canVote C I hi hkm, kBi_s, nI_1]
    by_cases c : cand T i k = true
    · have c1 : sCan T i k = true := by
        unfold cand at c
        cases q : sCan T i k
        · rw [q] at c; simp at c
        · rfl
      have c4 := (cand_of c).2.2
      have C1 := C.pair4 (m := k) hn.2.1 hi 1
      rw [← tV_one] at C1
      have I1 : Iv (tV T i (fun c => decide (c = k))) nm ni nv := I.votes hi
      have S := Same.votes T i (fun c => decide (c = k))
      obtain ⟨g1, t1, t2, t3⟩ := C_tally (s := 141) C1 I1 hi (Or.inr (by decide)) (S.hrd (H.cong (hs_of _ _ (by omega)) (hs_of _ _ (by omega))))
      have hx : ∀ m, (fun c => decide (c = k)) m = true → m < nm ∧ cand T i m = true := fun m hm => by
        have : m = k := by simpa using hm
        rw [this]; exact ⟨hkm, c⟩
      obtain ⟨s1, _, _⟩ := sTN_x I hi2 hx
      have e1 : g1 144 1 = nI (sTN T i nm 1 + gN T i nm k) := by
        rw [show 144 = 141 + 3 from rfl, t3 1 (by decide), (sTal_N I1 1).1, s1, gS_one hkm]
      have b1 : sTN T i nm 1 + gN T i nm k ≤ 108 := by
        have := (sTal_N (i := i) I1 1).2
        rw [s1, gS_one hkm] at this
        exact this
      have ev : g (71 + 10 + 5 * i + 2) k = -6 := ((C.f i hi).2.2.2.2.2.2.2 k hk2).1.trans c4
      rw [if_pos c1, kG_nI hk2 (by decide), kx_nI (by omega), ev, if_pos rfl, or_msk (cand T i) (by omega) c, kLet_s, kG_nI hk2 (by decide), kLet_s, show (1 : Int32) = nI 1 from rfl] 
      rw [show nI 1 = 1 from rfl, t1, kBi_s, g6_1, x_1, kG_nI hk2 (by decide), e1, sub_n (by omega) (by omega), Nat.add_sub_cancel_left, kLet_s, kG_nI hk2 (by decide), kLet_s]
      have C2 : Com (hset g1 644 k (nI (gN T i nm k))) 71 (ts T 4 i k 1) nm ni nv := by
        rw [← tV_one]
        exact C1.cong hn.2.1 fun a a1 a2 => by rw [hs_of _ _ (by omega), t2 a (by omega)]
      have C3 := C2.pair4 (m := k) hn.2.1 hi (-6)
      rw [ts_ts, ← c4, ts_id, c4] at C3
      obtain ⟨g', r1, r2, r3, r4, r5⟩ := ih (k + 1) f _ (by omega) (by omega) C3 (H.cong (by rw [hs_of _ _ (by omega), hs_of _ _ (by omega), t2 _ (by omega), hs_of _ _ (by omega)]) (by rw [hs_of _ _ (by omega), hs_of _ _ (by omega), t2 _ (by omega), hs_of _ _ (by omega)])) (fun m hm hc => by
        rw [hs_o _ _ (by omega)]
        by_cases z : m = k
        · rw [z, hs_eq]
        · rw [hs_ne _ _ (by omega), t2 644 (by decide), hs_o _ _ (by omega)]
          exact G' m (by omega) hc)
      exact ⟨g', r1, r2, r3, r4, fun a p q w => by rw [r5 a p q w, hs_of _ _ p, hs_of _ _ w, t2 a q, hs_of _ _ p]⟩
    · obtain ⟨g', r1, r2, r3, r4, r5⟩ := ih (k + 1) f g (by omega) (by omega) C H (fun m hm hc => G' m (by
        by_cases z : m = k
        · rw [z] at hc; exact absurd hc c
        · omega) hc)
      rw [nor_msk (cand T i) c] at r1
      refine ⟨g', ?_, r2, r3, r4, r5⟩
      by_cases c1 : sCan T i k = true
      · rw [if_pos c1, kG_nI hk2 (by decide), kx_nI (by omega), ((C.f i hi).2.2.2.2.2.2.2 k hk2).1, if_neg (fun z => c (by unfold cand; rw [c1, z]; rfl))]
        exact r1
      · rw [if_neg c1]
        exact r1
theorem C_gainOf {h : kH} {x : Nat} (C : Com h 71 T nm ni nv) (I : Iv T nm ni nv) (hx : x < 4096) (hg : ∀ m, m < nm → x.testBit m = true → h 644 m = nI (gN T i nm m)) : ∀ (d k f : Nat), k + d = nm → d < f → b_P_gainOf_4 h (nI x) f (nI (sumN (fun m => if x.testBit m = true then gN T i nm m else 0) k)) (nI k) = some (nI (gS T i nm (fun j => x.testBit j))) := by
  have hn := I.n
  intro d
  induction d with
  | zero =>
    intro k f hk hf
    obtain ⟨f, rfl⟩ : ∃ g, f = g + 1 := ⟨f - 1, by omega⟩
    obtain rfl : k = nm := hk
    rw [b_P_gainOf_4, C.1.2.1, I.2.1.1]
    exact if_pos (nI_le (Nat.le_refl _) (by omega))
  | succ d ih =>
    intro k f hk hf
    obtain ⟨f, rfl⟩ : ∃ g, f = g + 1 := ⟨f - 1, by omega⟩
    have hkm : k < nm := by omega
    have i1 := ih (k + 1) f (by omega) (by omega)
    rw [sumN] at i1
    have bc : ((nI x >>> (nI k &&& 31)) &&& 1 = 1) = (x.testBit k = true) := bit_code (by omega) (by omega)
    rw [b_P_gainOf_4, C.1.2.1, I.2.1.1]
    dsimp only
    rw [if_neg (nI_ge hkm (by omega)), nI_1]
    by_cases b : x.testBit k = true
    · rw [if_pos (by rw [bc]; exact b), kG_nI (by omega) (by decide), kx_nI (by omega), hg k hkm b, nI_add]
      rw [if_pos b] at i1
      exact i1
    · rw [if_neg (by rw [bc]; exact b)]
      rw [if_neg b, Nat.add_zero] at i1
      exact i1
/-- the class's count beside its best -/
def bc (T : kT) (i nm x : Nat) : Int32 := if bst T i nm x = -6 then 13 else nI (ct (kx (bst T i nm x)))
theorem C_few {h : kH} (C : Com h 71 T nm ni nv) (I : Iv T nm ni nv) (hi : i < ni) (hs : ∀ w, w < 6 → h 144 w = sTal T i nm nm w) (hg : ∀ m, m < nm → cand T i m = true → h 644 m = nI (gN T i nm m)) : ∀ (d x f : Nat), x + d = msk (cand T i) nm + 1 → d < f → b_P_fewestToCarry_10 h (71 + 10 + 5 * i) (nI (msk (cand T i) nm)) f (bst T i nm x) (bc T i nm x) (nI x) = some (bst T i nm (msk (cand T i) nm + 1)) := by
  have hn := I.n
  have hM : msk (cand T i) nm < 4096 := msk_12 _ hn.1
  intro d
  induction d with
  | zero =>
    intro x f hx hf
    obtain ⟨f, rfl⟩ : ∃ g, f = g + 1 := ⟨f - 1, by omega⟩
    obtain rfl : x = msk (cand T i) nm + 1 := hx
    rw [b_P_fewestToCarry_10]
    dsimp only
    rw [if_pos (by rw [ltI (by omega) (by omega)]; omega)]
  | succ d ih =>
    intro x f hx hf
    obtain ⟨f, rfl⟩ : ∃ g, f = g + 1 := ⟨f - 1, by omega⟩
    have i1 := ih (x + 1) f (by omega) (by omega)
    have cx := ct_le x
    rw [b_P_fewestToCarry_10]
    dsimp only
    rw [if_neg (show ¬ nI (msk (cand T i) nm) < nI x by rw [ltI (by omega) (by omega)]; omega), nI_1]
    have keep : ∀ {P : Prop}, ¬ (sub' x (msk (cand T i) nm) = true ∧ (bst T i nm x = -6 ∨ ct x < ct (kx (bst T i nm x))) ∧ carries T i nm (fun j => x.testBit j) = true) → b_P_fewestToCarry_10 h (71 + 10 + 5 * i) (nI (msk (cand T i) nm)) f (bst T i nm x) (bc T i nm x) (nI (x + 1)) = some (bst T i nm (msk (cand T i) nm + 1)) := by
      intro _ q
      have e : bst T i nm (x + 1) = bst T i nm x := if_neg q
      have e2 : bc T i nm (x + 1) = bc T i nm x := by unfold bc; rw [e]
      rw [e, e2] at i1
      exact i1
    by_cases s : sub' x (msk (cand T i) nm) = true
    · rw [if_pos (of_decide_eq_true s), bc_small x (by omega)]
      have hx' := sub_x hn.1 (show x < 4096 by omega) s
      have cmp : (bc T i nm x ≤ nI (ct x)) = ¬ (bst T i nm x = -6 ∨ ct x < ct (kx (bst T i nm x))) := by
        unfold bc
        by_cases z : bst T i nm x = -6
        · rw [if_pos z, show (13 : Int32) = nI 13 from rfl, leI (by omega) (by omega)]
          apply propext
          constructor
          · intro w; omega
          · intro w; exact absurd (Or.inl z) w
        · have := ct_le (kx (bst T i nm x))
          rw [if_neg z, leI (by omega) (by omega)]
          apply propext
          constructor
          · rintro w (v | v)
            · exact z v
            · omega
          · intro w
            rcases Nat.lt_or_ge (ct x) (ct (kx (bst T i nm x))) with v | v
            · exact absurd (Or.inr v) w
            · exact v
      have cmp' : (bc T i nm x ≤ nI (fb_ct (fun j => x.testBit j) 12)) = ¬ (bst T i nm x = -6 ∨ ct x < ct (kx (bst T i nm x))) := cmp
      by_cases z : bst T i nm x = -6 ∨ ct x < ct (kx (bst T i nm x))
      · rw [if_neg (by rw [cmp']; exact fun w => w z)]
        have gg := C_gainOf (i := i) (x := x) C I (by omega) (fun m hm hb => hg m hm (hx' m hb).2) nm 0 kFuel (by omega) (kF_lt (by omega))
        have gg' : f_P_gainOf h (nI x) = some (nI (gS T i nm (fun j => x.testBit j))) := gg
        rw [gg', kBi_s, C_outcome (s := 141) C hi, kBi_s, show 141 + 3 = 144 from rfl, hs 1 (by decide), hs 2 (by decide), hs 0 (by decide), (sTal_N I 1).1, (sTal_N I 2).1, (sTal_N I 0).1, carries_eq I hi hx']
        by_cases w : sO (tV T i (fun j => x.testBit j)) i nm = 3
        · have e : bst T i nm (x + 1) = nI x := if_pos ⟨s, z, decide_eq_true w⟩
          have e2 : bc T i nm (x + 1) = nI (ct x) := by unfold bc; rw [e, if_neg (n6_ne (by omega)), kx_nI (by omega)]
          rw [if_pos w]
          rw [e, e2] at i1
          exact i1
        · rw [if_neg w]
          exact keep (P := True) fun v => w (of_decide_eq_true v.2.2)
      · rw [if_pos (by rw [cmp']; exact z)]
        exact keep (P := True) fun v => z v.2.1
    · rw [if_neg (fun w => s (decide_eq_true w))]
      exact keep (P := True) fun v => s v.1
end
