/-! PURE: who speaks for whom, the six sums, the quorum, the outcome: laid by the class in its Hearing (s), by the reference in its rows. -/
theorem hs_eq (h : kH) (a k : Nat) (v : Int32) : hset h a k v a k = v := by simp [hset]
theorem hs_ne (h : kH) {a k b j : Nat} (v : Int32) (q : ¬ (b = a ∧ j = k)) : hset h a k v b j = h b j := if_neg q
theorem hs_o (h : kH) {a k b : Nat} (v : Int32) (q : b ≠ a) (j : Nat) : hset h a k v b j = h b j := if_neg (fun z => q z.1)
theorem hs_of (h : kH) {a k b : Nat} (v : Int32) (q : b ≠ a) : hset h a k v b = h b := by funext j; exact hs_o h v q j
theorem hf_o (h : kH) {a n b : Nat} (v : Int32) (q : b ≠ a) (j : Nat) : hfill h a n v b j = h b j := if_neg (fun z => q z.1)
theorem hf_of (h : kH) {a n b : Nat} (v : Int32) (q : b ≠ a) : hfill h a n v b = h b := by funext j; exact hf_o h v q j
theorem hf_in (h : kH) {a n j : Nat} (v : Int32) (q : j < n) : hfill h a n v a j = v := if_pos ⟨rfl, q⟩
def sV (T : kT) (i nm : Nat) : Nat → Int32 := sVo T i nm
theorem ct_msk (p : Nat → Bool) {k : Nat} (hk : k ≤ 12) : fb_ct (fun j => (msk p k).testBit j) 12 = fb_ct p k := by
  have key : ∀ d, fb_ct (fun j => (msk p k).testBit j) (k + d) = fb_ct p k := by
    intro d
    induction d with
    | zero =>
      apply fb_ct_cong
      intro j hj
      rw [msk_bit]
      simp [show j < k from hj]
    | succ d ih =>
      rw [← Nat.add_assoc, fb_ct_succ, ih, msk_bit]
      simp
      intro q
      omega
  have := key (12 - k)
  rwa [show k + (12 - k) = 12 by omega] at this
section C
variable {c s : Nat} {T : kT} {nm ni nv : Nat}
theorem C_takenUp {h : kH} (C : Com h c T nm ni nv) {bt : Nat} (I : IvB bt T nm ni nv) {i k : Nat} (hi : i < ni) (hk : k < nm) (hp : ps T k = false) (hr : sRec T i k = false) (hl : ∀ e, e < 12 → h (s + 2) e = nI (sCnt T (sVo T i k) k e)) :
    ∃ h', f_H_takenUp h s c (c + 10 + 5 * i) (nI k) = some (sStep T i (sVo T i k) k, h') ∧ (∀ a, a ≠ s + 2 → h' a = h a) ∧ ∀ e, e < 12 → h' (s + 2) e = nI (sCnt T (sVo T i (k + 1)) (k + 1) e) := by
  have hn := I.1
  unfold f_H_takenUp
  rw [C_endOfWay C I hi hk]
  dsimp only [kBi]
  have hsp : ∀ x, sStep T i (sVo T i k) k = x → ∀ e, sCnt T (sVo T i (k + 1)) (k + 1) e = sCnt T (sVo T i k) k e + (if x = nI e then 1 else 0) := by
    intro x hx e
    rw [sCnt_succ, hp, hx]
    by_cases q : x = nI e <;> simp [q]
  have h6 : sStep T i (sVo T i k) k = -6 → ∀ e, e < 12 → sCnt T (sVo T i (k + 1)) (k + 1) e = sCnt T (sVo T i k) k e := by
    intro q e he
    rw [hsp _ q, if_neg (fun z => n6_ne (show e < 2 ^ 31 by omega) z.symm)]
    rfl
  rcases sEnd_no I (show i < 12 by omega) (sSteps T) k hk with e | ⟨l, hl1, e⟩
  · have st : sStep T i (sVo T i k) k = -6 := by unfold sStep; rw [hr, hp]; simp [e]
    rw [e, if_pos rfl, st]
    exact ⟨h, rfl, fun a _ => rfl, fun x hx => by rw [h6 st x hx]; exact hl x hx⟩
  · rw [e, if_neg (n6_ne (by omega)), kG_nI (by omega) (by omega), kG_nI (by omega) (by omega), kG_nI (by omega) (by omega), g6_3, x_3, kx_nI (by omega), C.2.1 3 (by decide), hl l (by omega)]
    by_cases q : nI (sCnt T (sVo T i k) k l) < T 0 3 0
    · have st : sStep T i (sVo T i k) k = nI l := by
        unfold sStep
        rw [hr, hp, e, if_neg (by decide), if_neg (by decide), if_neg (n6_ne (by omega)), kx_nI (by omega), if_pos q]
      rw [if_pos q, st]
      dsimp only [kLet]
      refine ⟨_, rfl, fun a ha => hs_of h _ ha, fun x hx => ?_⟩
      rw [hsp _ st]
      by_cases z : l = x
      · subst z
        rw [hs_eq, if_pos rfl, nI_1]
      · rw [hs_ne _ _ (fun w => z w.2.symm), if_neg (by rw [eqI (by omega) (by omega)]; exact z)]
        exact hl x hx
    · have st : sStep T i (sVo T i k) k = -6 := by
        unfold sStep
        rw [hr, hp, e, if_neg (by decide), if_neg (by decide), if_neg (n6_ne (by omega)), kx_nI (by omega), if_neg q]
      rw [if_neg q, st]
      exact ⟨h, rfl, fun a _ => rfl, fun x hx => by rw [h6 st x hx]; exact hl x hx⟩
theorem C_listen_loop {bt : Nat} (I : IvB bt T nm ni nv) {i : Nat} (hi : i < ni) (hsc : s + 3 < c ∨ c + 70 ≤ s) : ∀ (d k f : Nat) (h : kH), k + d = nm → d < f → Com h c T nm ni nv → (∀ m, m < 12 → h (s + 1) m = sVo T i k m) → (∀ e, e < 12 → h (s + 2) e = nI (sCnt T (sVo T i k) k e)) →
    ∃ h', b_H_listen_19 s c (c + 10 + 5 * i) f h (nI k) = some h' ∧ (∀ a, a ≠ s + 1 → a ≠ s + 2 → h' a = h a) ∧ (∀ m, m < 12 → h' (s + 1) m = sV T i nm m) ∧ ∀ e, e < 12 → h' (s + 2) e = nI (sCnt T (sV T i nm) nm e) := by
  have hn := I.1
  intro d
  induction d with
  | zero =>
    intro k f h hk hf C h1 h2
    obtain ⟨f, rfl⟩ : ∃ g, f = g + 1 := ⟨f - 1, by omega⟩
    obtain rfl : k = nm := hk
    rw [b_H_listen_19, C.1.2.1, I.2.1.1]
    exact ⟨h, if_pos (nI_le (Nat.le_refl _) (by omega)), fun a _ _ => rfl, h1, h2⟩
  | succ d ih =>
    intro k f h hk hf C h1 h2
    obtain ⟨f, rfl⟩ : ∃ g, f = g + 1 := ⟨f - 1, by omega⟩
    have hkm : k < nm := by omega
    rw [b_H_listen_19, C.1.2.1, I.2.1.1]
    dsimp only
    rw [if_neg (nI_ge hkm (by omega)), C_isRecused C I hi hkm, nI_1]
    dsimp only [kBi]
    have cong : ∀ h' : kH, (∀ a, a ≠ s + 1 → a ≠ s + 2 → h' a = h a) → Com h' c T nm ni nv := fun h' e => C.cong hn.2.1 fun a a1 a2 => e a (by omega) (by omega)
    have vo : ∀ (h' : kH) (x : Int32), sStep T i (sVo T i k) k = x → (∀ m, h' (s + 1) m = if m = k then x else h (s + 1) m) → ∀ m, m < 12 → h' (s + 1) m = sVo T i (k + 1) m := by
      intro h' x hx e m hm
      rw [e m, sVo, hx]
      split
      · rfl
      · exact h1 m hm
    by_cases q : sRec T i k = true
    · rw [if_pos q]
      have st : sStep T i (sVo T i k) k = -6 := by unfold sStep; rw [if_pos q]
      refine ih (k + 1) f h (by omega) (by omega) C (fun m hm => ?_) (fun e he => ?_)
      · rw [sVo, st]
        split
        · next z => rw [h1 m hm, z]; exact sVo_big T i k k (Nat.le_refl _)
        · exact h1 m hm
      · rw [sCnt_succ, st, show decide ((-6 : Int32) = nI e) = false from decide_eq_false (fun z => n6_ne (by omega) z.symm), h2 e he]
        simp
    · rw [if_neg q, C_isPresent C I hkm]
      by_cases y : ps T k = true
      · rw [if_pos y, kG_nI (by omega) (by omega), kx_nI (by omega)]
        dsimp only [kLet]
        have st : sStep T i (sVo T i k) k = nI k := by unfold sStep; rw [if_neg q, if_pos y]
        obtain ⟨h', e1, e2, e3, e4⟩ := ih (k + 1) f (hset h (s + 1) k (nI k)) (by omega) (by omega) (cong _ fun a a1 a2 => hs_of h _ a1) (vo _ _ st fun m => by simp [hset]) (fun e he => by
          rw [hs_o _ _ (by omega), sCnt_succ, y, h2 e he]
          simp)
        exact ⟨h', e1, fun a a1 a2 => (e2 a a1 a2).trans (hs_of h _ a1), e3, e4⟩
      · rw [if_neg y]
        obtain ⟨g, g1, g2, g3⟩ := C_takenUp (s := s) C I hi hkm (by simpa using y) (by simpa using q) h2
        rw [g1]
        dsimp only [kBd, kLet]
        rw [kG_nI (by omega) (by omega), kx_nI (by omega)]
        obtain ⟨h', e1, e2, e3, e4⟩ := ih (k + 1) f (hset g (s + 1) k (sStep T i (sVo T i k) k)) (by omega) (by omega) (cong _ fun a a1 a2 => (hs_of g _ a1).trans (g2 a a2)) (vo _ _ rfl fun m => by
          unfold hset
          by_cases z : m = k
          · simp [z]
          · simp [z, g2 (s + 1) (by omega)]) (fun e he => by
          rw [hs_o _ _ (by omega)]
          exact g3 e he)
        exact ⟨h', e1, fun a a1 a2 => (e2 a a1 a2).trans ((hs_of g _ a1).trans (g2 a a2)), e3, e4⟩
/-- the class's Hearing s has listened to item i -/
def Hrd (h : kH) (s : Nat) (T : kT) (i nm : Nat) : Prop := (∀ m, m < 12 → h (s + 1) m = sV T i nm m) ∧ ∀ e, e < 12 → h (s + 2) e = nI (sCnt T (sV T i nm) nm e)
theorem C_listen {h : kH} (C : Com h c T nm ni nv) {bt : Nat} (I : IvB bt T nm ni nv) {i : Nat} (hi : i < ni) (hsc : s + 3 < c ∨ c + 70 ≤ s) :
    ∃ h', f_H_listen h s c (c + 10 + 5 * i) = some h' ∧ (∀ a, a ≠ s + 1 → a ≠ s + 2 → h' a = h a) ∧ Hrd h' s T i nm := by
  have hn := I.1
  unfold f_H_listen
  dsimp only [kLet]
  obtain ⟨h', e1, e2, e3, e4⟩ := C_listen_loop (s := s) I hi hsc nm 0 kFuel (hfill (hfill h (s + 1) 12 (-6)) (s + 2) 12 0) (by omega) (kF_lt (by omega)) (C.cong hn.2.1 fun a a1 a2 => by rw [hf_of _ _ (by omega), hf_of _ _ (by omega)]) (fun m hm => by
    rw [hf_o _ _ (by omega), hf_in _ _ hm]; rfl) (fun e he => by rw [hf_in _ _ he]; rfl)
  exact ⟨h', e1, fun a a1 a2 => by rw [e2 a a1 a2, hf_of _ _ a2, hf_of _ _ a1], e3, e4⟩
end C
section M
variable {T : kT} {nm ni nv : Nat}
theorem msk_sp (T : kT) (i k e : Nat) : msk (fun m => !ps T m && decide (sVo T i (k + 1) m = nI e)) (k + 1) = msk (fun m => !ps T m && decide (sVo T i k m = nI e)) k + (if (!ps T k && decide (sStep T i (sVo T i k) k = nI e)) = true then 2 ^ k else 0) := by
  rw [msk, sVo_eq]
  congr 1
  exact msk_cong fun j hj => by rw [sVo_lt T i hj]
end M
