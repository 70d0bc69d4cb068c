/-! PURE: time passes, the reference's side. -/
theorem Qk.md {nm t : Nat} {P : Nat → Bool} {L : kQ} (K : Qk nm t P L) : Qk nm (t + 1) (mdl (t + 1) P L).1 (mdl (t + 1) P L).2 := by
  obtain ⟨k1, k2, k3⟩ := K
  unfold mdl
  refine ⟨Nat.le_trans (List.length_filter_le _ _) k1, fun e he => ?_, ?_⟩
  · obtain ⟨h1, h2⟩ := List.mem_filter.mp he
    have h3 : ¬ e.1 = t + 1 := by simpa using h2
    obtain ⟨q1, q2, q3, q4⟩ := k2 e h1
    exact ⟨by omega, q2, q3, q4⟩
  · have key : ∀ (M : kQ) (Q : Nat → Bool), (∀ e, e ∈ M → e.2.1 < nm) → (∀ m, Q m = true → m < nm) → ∀ m, M.foldl (fun P e => if e.1 = t + 1 then app P e else P) Q m = true → m < nm := by
      intro M
      induction M with
      | nil => intro Q _ h; exact h
      | cons e M ih =>
        intro Q h1 h2
        rw [List.foldl_cons]
        refine ih _ (fun x hx => h1 x (List.mem_cons_of_mem _ hx)) (fun m hm => ?_)
        split at hm
        · unfold app at hm
          by_cases q : m = e.2.1
          · rw [q]; exact h1 e (List.mem_cons_self ..)
          · rw [if_neg q] at hm
            exact h2 m hm
        · exact h2 m hm
    exact key L P (fun e he => (k2 e he).2.2.1) k3
theorem tQ_same {T T' : kT} (h : ∀ a b c, ¬ (a = 0 ∧ (b = 6 ∨ b = 10) ∧ c = 0) → ¬ (a = 1 ∧ c = 2) → a ≠ 6 → T' a b c = T a b c) (P : Nat → Bool) (t : Nat) (L : kQ) : tQ T' P t L = tQ T P t L := by
  funext a b c
  unfold tQ
  by_cases a1 : a = 0 ∧ b = 6 ∧ c = 0
  · rw [if_pos a1, if_pos a1]
  · rw [if_neg a1, if_neg a1]
    by_cases a2 : a = 0 ∧ b = 10 ∧ c = 0
    · rw [if_pos a2, if_pos a2]
    · rw [if_neg a2, if_neg a2]
      by_cases a3 : a = 1 ∧ c = 2
      · rw [if_pos a3, if_pos a3]
      · rw [if_neg a3, if_neg a3]
        by_cases a4 : a = 6
        · rw [if_pos a4, if_pos a4]
        · rw [if_neg a4, if_neg a4]
          exact h a b c (by omega) a3 a4
theorem M_copy3 {w r : Nat} (hw : w ≤ r) (hr : r < 20) (k : kH → Int32 → Int32 → Option kH) (h : kH) : b_M_nextMinute_85 k (nI w) (nI r) (nI (690 + 3 * r)) kFuel h (nI 0) = k (hset (hset (hset h 787 (690 + 3 * w + 0) (h 787 (690 + 3 * r + 0))) 787 (690 + 3 * w + 1) (h 787 (690 + 3 * r + 1))) 787 (690 + 3 * w + 2) (h 787 (690 + 3 * r + 2))) (nI (w + 1)) (nI (r + 1)) := by
  obtain ⟨F, hF⟩ : ∃ F, kFuel = F + 4 := ⟨19996, rfl⟩
  have st : ∀ (f j : Nat) (g : kH), j < 3 → b_M_nextMinute_85 k (nI w) (nI r) (nI (690 + 3 * r)) (f + 1) g (nI j) = b_M_nextMinute_85 k (nI w) (nI r) (nI (690 + 3 * r)) f (hset g 787 (690 + 3 * w + j) (g 787 (690 + 3 * r + j))) (nI (j + 1)) := by
    intro f j g hj
    rw [b_M_nextMinute_85]
    dsimp only
    rw [if_neg (show ¬ (3 : Int32) ≤ nI j from by rw [show (3 : Int32) = nI 3 from rfl, leI (by omega) (by omega)]; omega), nI_add, e6_0, nI_add, kG_nI (by omega) (by decide), kG_nI (by omega) (by decide), kx_nI (by omega), kx_nI (by omega), nI_1]
    rfl
  rw [hF, st _ 0 _ (by decide), st _ 1 _ (by decide), st _ 2 _ (by decide), b_M_nextMinute_85]
  dsimp only
  rw [if_pos (show (3 : Int32) ≤ nI (2 + 1) from by decide), nI_1, nI_1, hs_ne h _ (show ¬ (787 = 787 ∧ 690 + 3 * r + 1 = 690 + 3 * w + 0) by omega), hs_ne _ _ (show ¬ (787 = 787 ∧ 690 + 3 * r + 2 = 690 + 3 * w + 1) by omega), hs_ne _ _ (show ¬ (787 = 787 ∧ 690 + 3 * r + 2 = 690 + 3 * w + 0) by omega)]
/-- the state within a minute: w kept of the r movements looked at -/
def Mid (T : kT) (s : Nat) (P : Nat → Bool) (L : kQ) (r : Nat) (T' : kT) : Prop :=
  (T' 0 6 0 = nI s ∧ T' 0 10 0 = nI L.length) ∧ (∀ a b c, ¬ (a = 0 ∧ (b = 6 ∨ b = 10) ∧ c = 0) → ¬ (a = 1 ∧ c = 2) → a ≠ 6 → T' a b c = T a b c) ∧ (∀ m, m < 12 → T' 1 m 2 = kB2 ((L.take r).foldl (fun P e => if e.1 = s then app P e else P) P m)) ∧
  (∀ k c, k < ((L.take r).filter (fun e => !decide (e.1 = s))).length → c < 3 → T' 6 k c = nI (el (nth ((L.take r).filter (fun e => !decide (e.1 = s))) k) c)) ∧ ∀ k c, r ≤ k → k < L.length → c < 3 → T' 6 k c = nI (el (nth L k) c)
theorem take_s {L : kQ} {r : Nat} (h : r < L.length) : L.take (r + 1) = L.take r ++ [nth L r] := by
  rw [nth_get h, List.take_succ, List.getElem?_eq_getElem h]
  rfl
theorem fr787 {X Y : kH → Prop} {h g : kH} (e : ∀ a, a ≠ 787 → g a = h a) (x : ∃ h', X h' ∧ (∀ a, a ≠ 787 → h' a = g a) ∧ Y h') : ∃ h', X h' ∧ (∀ a, a ≠ 787 → h' a = h a) ∧ Y h' := by
  obtain ⟨h', x1, x2, x3⟩ := x
  exact ⟨h', x1, fun a a1 => (x2 a a1).trans (e a a1), x3⟩
theorem M_minute_loop {T : kT} {nm t : Nat} {P : Nat → Bool} {L : kQ} (K : Qk nm t P L) (hm : nm ≤ 12) (ht : t ≤ 9600) : ∀ (d r f : Nat) (h : kH) (T' : kT), r + d = L.length → d < f → Row (h 787) T' L.length → Mid T (t + 1) P L r T' →
    ∃ h', b_M_nextMinute_15 f h (nI ((L.take r).filter (fun e => !decide (e.1 = t + 1))).length) (nI r) = some h' ∧ (∀ a, a ≠ 787 → h' a = h a) ∧ Row (h' 787) (tQ T (mdl (t + 1) P L).1 (t + 1) (mdl (t + 1) P L).2) (mdl (t + 1) P L).2.length := by
  intro d
  have hl := K.1
  induction d with
  | zero =>
    intro r f h T' hr hf R M
    obtain ⟨f, rfl⟩ : ∃ g, f = g + 1 := ⟨f - 1, by omega⟩
    obtain rfl : r = L.length := hr
    obtain ⟨⟨m1, m2⟩, m3, m4, m5, m6⟩ := M
    rw [List.take_length] at *
    have e10 : h 787 10 = nI L.length := (R.1 10 (by decide)).trans m2
    have hk : (L.filter (fun e => !decide (e.1 = t + 1))).length ≤ L.length := List.length_filter_le _ _
    rw [b_M_nextMinute_15]
    dsimp only
    rw [g760_10, x_10, e10, if_pos (nI_le (Nat.le_refl _) (by omega)), g760_10, kLet_s]
    refine ⟨_, rfl, fun a a1 => hs_of _ _ a1, ?_⟩
    have R1 := R.set0 (k := 10) (by decide) (nI (L.filter (fun e => !decide (e.1 = t + 1))).length)
    have R2 : Row (ru (h 787) 10 (nI (L.filter (fun e => !decide (e.1 = t + 1))).length)) (ts T' 0 10 0 (nI (L.filter (fun e => !decide (e.1 = t + 1))).length)) (L.filter (fun e => !decide (e.1 = t + 1))).length := ⟨R1.1, R1.2.1, R1.2.2.1, R1.2.2.2.1, fun k j hk' hj => R1.2.2.2.2 k j (by omega) hj⟩
    have R3 := R2.q (t := t + 1) (P := (mdl (t + 1) P L).1) (L := (mdl (t + 1) P L).2) (by rw [ts_ne _ _ (by omega)]; exact m1) (ts_eq _ _ _ _ _) rfl (fun m h12 => by rw [ts_ne _ _ (by omega)]; exact m4 m h12) (fun k c h1 h2 => by rw [ts_ne _ _ (by omega)]; exact m5 k c h1 h2)
    rw [tQ_same (T := T) (fun a b c q1 q2 q3 => by rw [ts_ne _ _ (by omega)]; exact m3 a b c q1 q2 q3)] at R3
    rw [hs_ru]
    exact R3
  | succ d ih =>
    intro r f h T' hr hf R M
    obtain ⟨f, rfl⟩ : ∃ g, f = g + 1 := ⟨f - 1, by omega⟩
    have hrl : r < L.length := by omega
    obtain ⟨⟨m1, m2⟩, m3, m4, m5, m6⟩ := M
    have e10 : h 787 10 = nI L.length := (R.1 10 (by decide)).trans m2
    have e6 : h 787 6 = nI (t + 1) := (R.1 6 (by decide)).trans m1
    have q0 : h 787 (690 + 3 * r + 0) = nI (nth L r).1 := (R.2.2.2.2 r 0 hrl (by decide)).trans (m6 r 0 (Nat.le_refl _) hrl (by decide))
    have q1 : h 787 (690 + 3 * r + 1) = nI (nth L r).2.1 := (R.2.2.2.2 r 1 hrl (by decide)).trans (m6 r 1 (Nat.le_refl _) hrl (by decide))
    have q2 : h 787 (690 + 3 * r + 2) = nI (nth L r).2.2 := (R.2.2.2.2 r 2 hrl (by decide)).trans (m6 r 2 (Nat.le_refl _) hrl (by decide))
    obtain ⟨b1, b2, b3, b4⟩ := K.2.1 _ (nth_mem hrl)
    have hw : ((L.take r).filter (fun e => !decide (e.1 = t + 1))).length ≤ r := Nat.le_trans (List.length_filter_le _ _) (by rw [List.length_take]; omega)
    have q0' : h 787 (690 + 3 * r) = nI (nth L r).1 := q0
    rw [b_M_nextMinute_15]
    dsimp only
    rw [g760_10, x_10, e10, if_neg (nI_ge hrl (by omega)), e6_0, kG_nI (by omega) (by decide), kx_nI (by omega), g760_6, x_6, e6, q0']
    by_cases z : (nth L r).1 = t + 1
    · have fl : (L.take (r + 1)).filter (fun e => !decide (e.1 = t + 1)) = (L.take r).filter (fun e => !decide (e.1 = t + 1)) := by
        rw [take_s hrl, List.filter_append, List.filter_cons, if_neg (by simp [z]), List.filter_nil, List.append_nil]
      have fo : ∀ m, (L.take (r + 1)).foldl (fun P e => if e.1 = t + 1 then app P e else P) P m = if m = (nth L r).2.1 then decide ((nth L r).2.2 = 1) else (L.take r).foldl (fun P e => if e.1 = t + 1 then app P e else P) P m := by
        intro m
        rw [take_s hrl, List.foldl_append, List.foldl_cons, List.foldl_nil, if_pos z]
        rfl
      rw [if_pos (by rw [z]), show (1 : Int32) = nI 1 from rfl, nI_add, show (2 : Int32) = nI 2 from rfl, nI_add, kG_nI (by omega) (by decide), kG_nI (by omega) (by decide), kx_nI (by omega), q1, e1, kG_nI (by omega) (by decide), kx_nI (by omega), kx_nI (by omega), q2, kLet_s, nI_add, ← fl]
      refine fr787 (fun a a1 => hs_of _ _ a1) (ih (r + 1) f (hset h 787 (20 + 6 * (nth L r).2.1 + 2) (nI (nth L r).2.2)) (ts T' 1 (nth L r).2.1 2 (nI (nth L r).2.2)) (by omega) (by omega) ?_ ⟨⟨?_, ?_⟩, fun a b c p1 p2 p3 => ?_, fun m h12 => ?_, fun k c p1 p2 => ?_, fun k c p1 p2 p3 => ?_⟩)
      · rw [hs_ru]
        exact R.set1 (by omega) (by decide) _
      · rw [ts_ne _ _ (by omega)]; exact m1
      · rw [ts_ne _ _ (by omega)]; exact m2
      · rw [ts_ne _ _ (by omega)]; exact m3 a b c p1 p2 p3
      · rw [fo]
        by_cases y : m = (nth L r).2.1
        · rw [if_pos y, y, ts_eq]
          have : (nth L r).2.2 = 0 ∨ (nth L r).2.2 = 1 := by omega
          rcases this with e | e <;> rw [e] <;> rfl
        · rw [if_neg y, ts_ne _ _ (by omega)]
          exact m4 m h12
      · rw [fl] at p1 ⊢
        rw [ts_ne _ _ (by omega)]
        exact m5 k c p1 p2
      · rw [ts_ne _ _ (by omega)]
        exact m6 k c (by omega) p2 p3
    · have fl : (L.take (r + 1)).filter (fun e => !decide (e.1 = t + 1)) = (L.take r).filter (fun e => !decide (e.1 = t + 1)) ++ [nth L r] := by
        rw [take_s hrl, List.filter_append, List.filter_cons, if_pos (by simp [z]), List.filter_nil]
      have fo : ∀ m, (L.take (r + 1)).foldl (fun P e => if e.1 = t + 1 then app P e else P) P m = (L.take r).foldl (fun P e => if e.1 = t + 1 then app P e else P) P m := by
        intro m
        rw [take_s hrl, List.foldl_append, List.foldl_cons, List.foldl_nil, if_neg z]
      have fn : ((L.take (r + 1)).filter (fun e => !decide (e.1 = t + 1))).length = ((L.take r).filter (fun e => !decide (e.1 = t + 1))).length + 1 := by
        rw [fl, List.length_append]
        rfl
      generalize hwd : ((L.take r).filter (fun e => !decide (e.1 = t + 1))).length = w at *
      rw [if_neg (by rw [eqI (by omega) (by omega)]; exact z), show (0 : Int32) = nI 0 from rfl, M_copy3 hw (by omega), q0, q1, q2, ← fn]
      refine fr787 (fun a a1 => by rw [hs_of _ _ a1, hs_of _ _ a1, hs_of _ _ a1]) (ih (r + 1) f (hset (hset (hset h 787 (690 + 3 * w + 0) (nI (nth L r).1)) 787 (690 + 3 * w + 1) (nI (nth L r).2.1)) 787 (690 + 3 * w + 2) (nI (nth L r).2.2)) (ts (ts (ts T' 6 w 0 (nI (nth L r).1)) 6 w 1 (nI (nth L r).2.1)) 6 w 2 (nI (nth L r).2.2)) (by omega) (by omega) ?_ ⟨⟨?_, ?_⟩, fun a b c p1 p2 p3 => ?_, fun m h12 => ?_, fun k c p1 p2 => ?_, fun k c p1 p2 p3 => ?_⟩)
      · rw [hs_ru, hs_ru, hs_ru]
        exact ((R.set6 (k := w) (j := 0) (by omega) (by decide) hl _).set6 (k := w) (j := 1) (by omega) (by decide) hl _).set6 (k := w) (j := 2) (by omega) (by decide) hl _
      · rw [ts_ne _ _ (by omega), ts_ne _ _ (by omega), ts_ne _ _ (by omega)]; exact m1
      · rw [ts_ne _ _ (by omega), ts_ne _ _ (by omega), ts_ne _ _ (by omega)]; exact m2
      · rw [ts_ne _ _ (by omega), ts_ne _ _ (by omega), ts_ne _ _ (by omega)]; exact m3 a b c p1 p2 p3
      · rw [fo, ts_ne _ _ (by omega), ts_ne _ _ (by omega), ts_ne _ _ (by omega)]
        exact m4 m h12
      · rw [fn] at p1
        rw [fl]
        by_cases y : k = w
        · have e : nth ((L.take r).filter (fun e => !decide (e.1 = t + 1)) ++ [nth L r]) k = nth L r := by
            have := nth_r ((L.take r).filter (fun e => !decide (e.1 = t + 1))) [nth L r] 0
            rw [Nat.add_zero, hwd] at this
            rw [y]
            exact this
          rw [e, y]
          have : c = 0 ∨ c = 1 ∨ c = 2 := by omega
          rcases this with rfl | rfl | rfl
          · rw [ts_ne _ _ (by omega), ts_ne _ _ (by omega), ts_eq]; rfl
          · rw [ts_ne _ _ (by omega), ts_eq]; rfl
          · rw [ts_eq]; rfl
        · rw [nth_l (by omega), ts_ne _ _ (by omega), ts_ne _ _ (by omega), ts_ne _ _ (by omega)]
          exact m5 k c (by omega) p2
      · rw [ts_ne _ _ (by omega), ts_ne _ _ (by omega), ts_ne _ _ (by omega)]
        exact m6 k c (by omega) p2 p3
theorem M_minute {T : kT} {nm t : Nat} {P : Nat → Bool} {L : kQ} {h : kH} (K : Qk nm t P L) (hm : nm ≤ 12) (ht : t ≤ 9600) (R : Row (h 787) (tQ T P t L) L.length) : ∃ h', f_M_nextMinute h = some h' ∧ (∀ a, a ≠ 787 → h' a = h a) ∧ Row (h' 787) (tQ T (mdl (t + 1) P L).1 (t + 1) (mdl (t + 1) P L).2) (mdl (t + 1) P L).2.length := by
  have hl := K.1
  have e6 : h 787 6 = nI t := (R.1 6 (by decide)).trans tQ_06
  have R1 : Row (hset h 787 6 (nI (t + 1)) 787) (ts (tQ T P t L) 0 6 0 (nI (t + 1))) L.length := by
    rw [hs_ru]
    exact R.set0 (by decide) _
  obtain ⟨h', h1, h2, h3⟩ := M_minute_loop (T := T) K hm ht L.length 0 kFuel (hset h 787 6 (nI (t + 1))) _ (Nat.zero_add _) (kF_lt (by omega)) R1 ⟨⟨ts_eq _ _ _ _ _, by rw [ts_ne _ _ (by omega)]; exact tQ_010⟩, fun a b c p1 p2 p3 => by
      rw [ts_ne _ _ (by omega)]
      unfold tQ
      rw [if_neg (by omega), if_neg (by omega), if_neg p2, if_neg p3], fun m h12 => by
      rw [ts_ne _ _ (by omega), tQ_12]
      rfl, fun k c p1 p2 => absurd p1 (Nat.not_lt_zero _), fun k c _ p2 p3 => by rw [ts_ne _ _ (by omega), tQ_6]⟩
  refine ⟨h', ?_, fun a a1 => (h2 a a1).trans (hs_of _ _ a1), h3⟩
  unfold f_M_nextMinute
  rw [g760_6, g760_6, x_6, e6, nI_1, kLet_s]
  exact h1
theorem M_pass_loop {T : kT} {nm x t0 : Nat} (hm : nm ≤ 12) (hx : t0 + x ≤ 9000) : ∀ (d k f : Nat) (P : Nat → Bool) (L : kQ) (h : kH), k + d = x → d < f → Qk nm (t0 + k) P L → Row (h 787) (tQ T P (t0 + k) L) L.length →
    ∃ h', b_M_pass_38 (nI x) f h (nI k) = some (nI (t0 + x), h') ∧ (∀ a, a ≠ 787 → h' a = h a) ∧ Qk nm (t0 + x) (mdlN (t0 + k) d P L).1 (mdlN (t0 + k) d P L).2 ∧ Row (h' 787) (tQ T (mdlN (t0 + k) d P L).1 (t0 + x) (mdlN (t0 + k) d P L).2) (mdlN (t0 + k) d P L).2.length := by
  intro d
  induction d with
  | zero =>
    intro k f P L h hk hf K R
    obtain ⟨f, rfl⟩ : ∃ g, f = g + 1 := ⟨f - 1, by omega⟩
    obtain rfl : k = x := hk
    rw [b_M_pass_38]
    dsimp only
    rw [if_pos (nI_le (Nat.le_refl _) (by omega)), g760_6, x_6, (R.1 6 (by decide)).trans tQ_06]
    exact ⟨h, rfl, fun a _ => rfl, K, R⟩
  | succ d ih =>
    intro k f P L h hk hf K R
    obtain ⟨f, rfl⟩ : ∃ g, f = g + 1 := ⟨f - 1, by omega⟩
    obtain ⟨g, g1, g2, g3⟩ := M_minute K hm (by omega) R
    rw [b_M_pass_38]
    dsimp only
    rw [if_neg (nI_ge (by omega) (by omega)), g1, kBi_s, nI_1, mdlN]
    obtain ⟨h', h1, h2, h3, h4⟩ := ih (k + 1) f _ _ g (by omega) (by omega) K.md g3
    exact ⟨h', h1, fun a a1 => (h2 a a1).trans (g2 a a1), h3, h4⟩
theorem twv_pass (x : Int32) : TwV nng (fun h => f_C_letPass h 1 x) (fun h => f_M_pass h x) := by
  intro T nm ni nv I
  have hn := I.n
  obtain ⟨t, P, L, t1, t2, hl, K, hp, hq⟩ := queue_of I
  rcases in_cases (x := x) (a := 1) (b := 600) (by decide) (by decide) with (a : x < 1 ∨ 600 < x) | ⟨w, w1, w2, rfl⟩
  · refine Or.inl ⟨-2, StpE.same er_2 (fun h _ => ?_) (fun h R => ?_)⟩
    · unfold f_C_letPass
      by_cases b : x < 1
      · rw [if_pos b]
      · rw [if_neg b, if_neg (fun z => nlt_le.mpr z (a.resolve_left b))]
    · unfold f_M_pass
      rw [in_f a, if_neg (by decide)]
  have c1 : ¬ nI w < 1 := by rw [show (1 : Int32) = nI 1 from rfl, ltI (by omega) (by omega)]; omega
  have c2 : nI w ≤ 600 := by rw [show (600 : Int32) = nI 600 from rfl, leI (by omega) (by omega)]; omega
  have c3 : f_M_in (nI w) 1 600 = true := in_nI w1 w2 (by decide)
  have c9 : (nI (t + w) ≤ 9000) = (t + w ≤ 9000) := leI (a := t + w) (b := 9000) (by omega) (by decide)
  by_cases z : t + w ≤ 9000
  · -- what the reference comes to
    have mp : Qk nm (t + w) (mdlN t w P L).1 (mdlN t w P L).2 := by
      have key : ∀ (d k : Nat) (P : Nat → Bool) (L : kQ), Qk nm (t + k) P L → Qk nm (t + k + d) (mdlN (t + k) d P L).1 (mdlN (t + k) d P L).2 := by
        intro d
        induction d with
        | zero => intro k P L K; exact K
        | succ d ih =>
          intro k P L K
          rw [mdlN]
          have := ih (k + 1) _ _ K.md
          rw [show t + k + (d + 1) = t + (k + 1) + d by omega]
          exact this
      exact key w 0 P L K
    refine Or.inr ⟨nI (t + w), tQ T (mdlN t w P L).1 (t + w) (mdlN t w P L).2, nm, ni, (mdlN t w P L).2.length, pos_nI (by omega), StpO.of (er_n (by omega)) (I.queue mp z) (fun h C => ?_) (fun h R H => ?_)⟩
    · have C1 := C.q hn.1 t2 I.c.2.2 hl hp hq
      obtain ⟨P', L', h', r1, r2, r3, r4, r5, -, -, -⟩ := C_move_loop (T := T) I z L.length kFuel t P L h rfl (kF_lt (by omega)) K C1
      have e := Cls.eq L.length P L P' L' (fun e he => (K.2.1 e he).1) r2
      rw [e]
      refine ⟨h', ?_, fun a a0 _ _ _ => r3 a (by omega), r4⟩
      unfold f_C_letPass f_C_moveTo
      rw [if_neg c1, if_pos c2, C.a.1, t2, nI_add, if_pos (by rw [c9]; exact z), show 1 + 6 = 7 from rfl, show h 7 0 = nI L.length from by rw [hl]; exact C.a.2.2.2.2.2.trans I.c.2.2, r1, kBi_s, r5]
    · have R1 := (recd_row R).q t2 I.c.2.2 hl hp hq
      obtain ⟨h', r1, r2, r3, r4⟩ := M_pass_loop (T := T) (x := w) (t0 := t) hn.1 z w 0 kFuel P L (recd h) (by omega) (kF_lt (by omega)) K R1
      refine ⟨h', ?_, MFs.one fun a p => r2 a p, r4⟩
      unfold f_M_pass
      rw [c3, if_pos rfl, g760_6, x_6, R.1 6 (by decide), t2, nI_add, if_pos (by rw [c9]; exact z), M_record H, kBi_s, show (0 : Int32) = nI 0 from rfl, r1]
  · refine Or.inl ⟨-5, StpE.same er_5 (fun h C => ?_) (fun h R => ?_)⟩
    · unfold f_C_letPass
      rw [if_neg c1, if_pos c2, C.a.1, t2, nI_add, if_neg (by rw [c9]; exact z)]
    · unfold f_M_pass
      rw [c3, if_pos rfl, g760_6, x_6, R.1 6 (by decide), t2, nI_add, if_neg (by rw [c9]; exact z)]
theorem tw_pass (x : Int32) : Tw (fun h => f_C_letPass h 1 x) (fun h => f_M_pass h x) := (twv_pass x).tw
