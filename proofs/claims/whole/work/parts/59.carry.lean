/-! PURE: the orders of a text are carried out, on both sides. -/
theorem Rd.sign {c : Nat → Nat} {l p q s a b : Nat} (R : Rd c l p true q s a b) : isg s ∧ p < l := by
  obtain ⟨e, R⟩ := R
  have i : isg s := by
    rcases R with ⟨r, _⟩ | ⟨r, _⟩ | ⟨_, _, r, _⟩ | ⟨r, _⟩ | ⟨_, _, r, _⟩ | ⟨r, _⟩ | ⟨_, _, r, _⟩ | ⟨r, _⟩ | ⟨_, _, r, _⟩ | ⟨_, _, r⟩
    · cases r
    · cases r
    · omega
    · cases r
    · omega
    · cases r
    · omega
    · cases r
    · omega
    · omega
  refine ⟨i, ?_⟩
  rcases Nat.lt_or_ge p l with w | w
  · exact w
  · have : sg c l p = 0 := if_neg (by omega)
    rw [e, this] at i
    omega
theorem RdA.good {c : Nat → Nat} {l : Nat} : ∀ (n p : Nat) (os : kQ), RdA c l n p os none → p + 2 * os.length ≤ l + 1 ∧ ∀ j, j < os.length → isg (nth os j).1
  | 0, _, _, A => False.elim A
  | n + 1, p, os, A => by
    obtain ⟨ok, q, s, a, b, D, A⟩ := A
    rcases A with ⟨_, e⟩ | ⟨rfl, A⟩
    · cases e
    · obtain ⟨d1, d2⟩ := D.sign
      have up := D.up
      rcases A with ⟨_, _, rfl⟩ | ⟨_, _, e⟩ | ⟨v, _, os', rfl, A⟩
      · refine ⟨by rw [List.length_singleton]; omega, fun j hj => ?_⟩
        obtain rfl : j = 0 := by rw [List.length_singleton] at hj; omega
        exact d1
      · cases e
      · obtain ⟨i1, i2⟩ := RdA.good n (q + 1) os' A
        refine ⟨by rw [List.length_cons]; omega, fun j hj => ?_⟩
        cases j with
        | zero => exact d1
        | succ j =>
          rw [nth_s]
          exact i2 j (by rw [List.length_cons] at hj; omega)
theorem RdA.bad {c : Nat → Nat} {l x : Nat} : ∀ (n p : Nat) (os : kQ), p ≤ l → RdA c l n p os (some x) → x ≤ l + 4
  | 0, _, _, _, A => False.elim A
  | n + 1, p, os, hp, A => by
    obtain ⟨ok, q, s, a, b, D, A⟩ := A
    have le4 := D.le
    rcases A with ⟨_, e⟩ | ⟨rfl, A⟩
    · cases e
      omega
    · rcases A with ⟨_, e, _⟩ | ⟨_, _, e⟩ | ⟨v, _, os', rfl, A⟩
      · cases e
      · cases e
        omega
      · exact RdA.bad n (q + 1) os' (by omega) A
def opC (e : Nat × Nat × Nat) (h : kH) : Option (Int32 × kH) := if e.1 = 43 then f_C_bringIn h 1 (nI e.2.1) else if e.1 = 45 then f_C_sendAway h 1 (nI e.2.1) else if e.1 = 99 then f_C_closeItem h 1 141 else if e.1 = 109 then f_C_letPass h 1 (nI e.2.1) else if e.1 = 111 then f_C_openItem h 1 (nI e.2.1) 141 else if e.1 = 118 then f_C_giveVote h 1 (nI e.2.1) (nI e.2.2) else f_C_breakTie h 1 (nI e.2.1)
def opM (e : Nat × Nat × Nat) (h : kH) : Option (Int32 × kH) := if e.1 = 43 then f_M_come h (nI e.2.1) else if e.1 = 45 then f_M_go h (nI e.2.1) else if e.1 = 99 then f_M_close h else if e.1 = 109 then f_M_pass h (nI e.2.1) else if e.1 = 111 then f_M_open h (nI e.2.1) else if e.1 = 118 then f_M_vote h (nI e.2.1) (nI e.2.2) else f_M_cast h (nI e.2.1)
/-- an answer that the reference takes for none of the errors -/
def okv (e : Nat × Nat × Nat) (v : Int32) : Prop := ¬ v < 0 ∨ (e.1 = 118 ∧ v = -6)
theorem TwV.mono {Q Q' : Int32 → Prop} {FC FM : kH → Option (Int32 × kH)} (W : TwV Q FC FM) (m : ∀ v, Q v → Q' v) : TwV Q' FC FM := by
  intro T nm ni nv I
  rcases W T nm ni nv I with a | ⟨v, T', nm', ni', nv', q, b⟩
  · exact Or.inl a
  · exact Or.inr ⟨v, T', nm', ni', nv', m v q, b⟩
theorem twv_come (x : Int32) : TwV nng (fun h => f_C_bringIn h 1 x) (fun h => f_M_come h x) := by
  have e : (fun h => f_M_come h x) = fun h => f_M_turnTo h x (kB2 true) := by
    funext h
    unfold f_M_come
    show kBd (f_M_turnTo h x 1) _ = f_M_turnTo h x 1
    cases f_M_turnTo h x 1 with
    | none => rfl
    | some p => rfl
  rw [e]
  exact twv_turn true x
theorem twv_go (x : Int32) : TwV nng (fun h => f_C_sendAway h 1 x) (fun h => f_M_go h x) := by
  have e : (fun h => f_M_go h x) = fun h => f_M_turnTo h x (kB2 false) := by
    funext h
    unfold f_M_go
    show kBd (f_M_turnTo h x 0) _ = f_M_turnTo h x 0
    cases f_M_turnTo h x 0 with
    | none => rfl
    | some p => rfl
  rw [e]
  exact twv_turn false x
theorem twv_op (e : Nat × Nat × Nat) (s : isg e.1) : TwV (okv e) (opC e) (opM e) := by
  have L : ∀ v, nng v → okv e v := fun v q => Or.inl q
  unfold opC opM
  rcases s with z | z | z | z | z | z | z
  · simp only [z, if_pos]
    exact (twv_come _).mono L
  · simp only [z, show ¬ (45 : Nat) = 43 by decide, if_false, if_true]
    exact (twv_go _).mono L
  · simp only [z, show ¬ (99 : Nat) = 43 by decide, show ¬ (99 : Nat) = 45 by decide, if_false, if_true]
    exact twv_close.mono L
  · simp only [z, show ¬ (109 : Nat) = 43 by decide, show ¬ (109 : Nat) = 45 by decide, show ¬ (109 : Nat) = 99 by decide, if_false, if_true]
    exact (twv_pass _).mono L
  · simp only [z, show ¬ (111 : Nat) = 43 by decide, show ¬ (111 : Nat) = 45 by decide, show ¬ (111 : Nat) = 99 by decide, show ¬ (111 : Nat) = 109 by decide, if_false, if_true]
    exact (twv_open _).mono L
  · simp only [z, show ¬ (118 : Nat) = 43 by decide, show ¬ (118 : Nat) = 45 by decide, show ¬ (118 : Nat) = 99 by decide, show ¬ (118 : Nat) = 109 by decide, show ¬ (118 : Nat) = 111 by decide, if_false, if_true]
    exact (twv_vote _ _).mono fun v q => q.elim Or.inl fun w => Or.inr ⟨z, w⟩
  · simp only [z, show ¬ (120 : Nat) = 43 by decide, show ¬ (120 : Nat) = 45 by decide, show ¬ (120 : Nat) = 99 by decide, show ¬ (120 : Nat) = 109 by decide, show ¬ (120 : Nat) = 111 by decide, show ¬ (120 : Nat) = 118 by decide, if_false]
    exact (twv_cast _).mono L
theorem kBd_id {α β : Type} (x : Option (α × β)) : (kBd x fun v h => some (v, h)) = x := by
  cases x with
  | none => rfl
  | some p => rfl
theorem C_carry {h : kH} {j : Nat} {e : Nat × Nat × Nat} (hj : j < 80) (s : isg e.1) (o : Eo h j e) : f_P_carry h (nI j) = opC e h := by
  obtain ⟨o1, o2, o3, o4⟩ := o
  unfold f_P_carry opC
  rw [kG_nI hj (by decide), kG_nI hj (by decide), kG_nI hj (by decide), kLet_s, kx_nI (by omega), o1]
  simp only [kBd_id]
  rcases s with z | z | z | z | z | z | z
  · rw [if_pos (nq z (by decide)), if_pos z, o2 (by omega)]
  · rw [if_neg (nn z (by decide)), if_pos (nq z (by decide)), if_neg (by omega), if_pos z, o2 (by omega)]
  · rw [if_neg (nn z (by decide)), if_neg (nn z (by decide)), if_pos (nq z (by decide)), if_neg (by omega), if_neg (by omega), if_pos z]
  · rw [if_neg (nn z (by decide)), if_neg (nn z (by decide)), if_neg (nn z (by decide)), if_pos (nq z (by decide)), if_neg (by omega), if_neg (by omega), if_neg (by omega), if_pos z, o3 (by omega)]
  · rw [if_neg (nn z (by decide)), if_neg (nn z (by decide)), if_neg (nn z (by decide)), if_neg (nn z (by decide)), if_pos (nq z (by decide)), if_neg (by omega), if_neg (by omega), if_neg (by omega), if_neg (by omega), if_pos z, o3 (by omega)]
  · rw [if_neg (nn z (by decide)), if_neg (nn z (by decide)), if_neg (nn z (by decide)), if_neg (nn z (by decide)), if_neg (nn z (by decide)), if_pos (nq z (by decide)), if_neg (by omega), if_neg (by omega), if_neg (by omega), if_neg (by omega), if_neg (by omega), if_pos z, o2 (by omega), o4 z]
  · rw [if_neg (nn z (by decide)), if_neg (nn z (by decide)), if_neg (nn z (by decide)), if_neg (nn z (by decide)), if_neg (nn z (by decide)), if_neg (nn z (by decide)), if_pos (nq z (by decide)), if_neg (by omega), if_neg (by omega), if_neg (by omega), if_neg (by omega), if_neg (by omega), if_neg (by omega), o3 (by omega)]
theorem err_lt {v : Int32} (e : f_P_isError v = true) : v < 0 ∧ ¬ v = -6 := by
  unfold f_P_isError at e
  by_cases a : v < -5
  · rw [if_pos a] at e; cases e
  · rw [if_neg a] at e
    by_cases b : -1 < v
    · rw [if_pos b] at e; cases e
    · rw [fa_lt] at a b
      have h5 : (-5 : Int32).toInt = -5 := by decide
      have h1 : (-1 : Int32).toInt = -1 := by decide
      have h0 : (0 : Int32).toInt = 0 := by decide
      have h6 : (-6 : Int32).toInt = -6 := by decide
      refine ⟨by rw [fa_lt]; omega, fun q => ?_⟩
      rw [q] at a
      omega
theorem M_carry {h h' : kH} {j : Nat} {e : Nat × Nat × Nat} {v : Int32} (hj : j < 80) (s : isg e.1) (o : Er h j e) (r : opM e h = some (v, h')) : (f_P_isError v = true → f_M_carry h (3 * nI j) = some (false, h')) ∧ (okv e v → f_M_carry h (3 * nI j) = some (true, h')) := by
  obtain ⟨o1, o2, o3⟩ := o
  have e3 : 3 * nI j = nI (3 * j) := by rw [show (3 : Int32) = nI 3 from rfl, pk_mul]
  have e2 : nI (3 * j) + 2 = nI (3 * j + 2) := by rw [show (2 : Int32) = nI 2 from rfl, nI_add]
  have c0 : ¬ v < 0 → 0 ≤ v := fun q => nlt_le.mp q
  have B : ∀ F : kH → Option (Int32 × kH), F h = some (v, h') → ¬ e.1 = 118 → (f_P_isError v = true → (kBd (F h) fun v3 h2 => if v3 < 0 then some (false, h2) else some (true, h2)) = some (false, h')) ∧ (okv e v → (kBd (F h) fun v3 h2 => if v3 < 0 then some (false, h2) else some (true, h2)) = some (true, h')) := by
    intro F hF n
    rw [hF, kBd_s]
    exact ⟨fun q => if_pos (err_lt q).1, fun q => if_neg (q.resolve_right fun w => n w.1)⟩
  unfold opM at r
  unfold f_M_carry
  rw [e3, nI_1, e2, kG_nI (by omega) (by decide), kG_nI (by omega) (by decide), kLet_s, kx_nI (by omega), kx_nI (by omega), o1]
  rcases s with z | z | z | z | z | z | z
  · rw [if_pos z] at r
    rw [if_pos (nq z (by decide)), o2 (by omega)]
    exact B (fun h => f_M_come h (nI e.2.1)) r (by omega)
  · rw [if_neg (by omega), if_pos z] at r
    rw [if_neg (nn z (by decide)), if_pos (nq z (by decide)), o2 (by omega)]
    exact B (fun h => f_M_go h (nI e.2.1)) r (by omega)
  · rw [if_neg (by omega), if_neg (by omega), if_pos z] at r
    rw [if_neg (nn z (by decide)), if_neg (nn z (by decide)), if_pos (nq z (by decide))]
    exact B (fun h => f_M_close h) r (by omega)
  · rw [if_neg (by omega), if_neg (by omega), if_neg (by omega), if_pos z] at r
    rw [if_neg (nn z (by decide)), if_neg (nn z (by decide)), if_neg (nn z (by decide)), if_neg (nn z (by decide)), if_neg (nn z (by decide)), if_neg (nn z (by decide)), o2 (by omega)]
    exact B (fun h => f_M_pass h (nI e.2.1)) r (by omega)
  · rw [if_neg (by omega), if_neg (by omega), if_neg (by omega), if_neg (by omega), if_pos z] at r
    rw [if_neg (nn z (by decide)), if_neg (nn z (by decide)), if_neg (nn z (by decide)), if_pos (nq z (by decide)), o2 (by omega)]
    exact B (fun h => f_M_open h (nI e.2.1)) r (by omega)
  · rw [if_neg (by omega), if_neg (by omega), if_neg (by omega), if_neg (by omega), if_neg (by omega), if_pos z] at r
    rw [if_neg (nn z (by decide)), if_neg (nn z (by decide)), if_neg (nn z (by decide)), if_neg (nn z (by decide)), if_pos (nq z (by decide)), kG_nI (by omega) (by decide), kx_nI (by omega), o2 (by omega), o3 z, r, kBd_s]
    refine ⟨fun q => ?_, fun q => ?_⟩
    · obtain ⟨a, b⟩ := err_lt q
      rw [if_neg (fun w => nlt_le.mpr w a), if_neg b]
    · rcases q with q | ⟨_, q⟩
      · rw [if_pos (c0 q)]
      · rw [if_neg (show ¬ 0 ≤ v from by rw [q]; decide), if_pos q]
  · rw [if_neg (by omega), if_neg (by omega), if_neg (by omega), if_neg (by omega), if_neg (by omega), if_neg (by omega)] at r
    rw [if_neg (nn z (by decide)), if_neg (nn z (by decide)), if_neg (nn z (by decide)), if_neg (nn z (by decide)), if_neg (nn z (by decide)), if_pos (nq z (by decide)), o2 (by omega)]
    exact B (fun h => f_M_cast h (nI e.2.1)) r (by omega)
def Os (h : kH) (os : kQ) : Prop := h 637 3 = nI os.length ∧ ∀ j, j < os.length → Eo h j (nth os j)
def OsM (h : kH) (os : kQ) : Prop := h 786 13 = nI os.length ∧ ∀ j, j < os.length → Er h j (nth os j)
theorem Os.cong {h h' : kH} {os : kQ} (x : Os h os) (e : h' 637 3 = h 637 3) (e9 : h' 639 = h 639) (e0 : h' 640 = h 640) (e1 : h' 641 = h 641) : Os h' os := ⟨e.trans x.1, fun j hj => by unfold Eo; rw [e9, e0, e1]; exact x.2 j hj⟩
theorem OsM.cong {h h' : kH} {os : kQ} (x : OsM h os) (e : h' 786 13 = h 786 13) (e6 : h' 796 = h 796) : OsM h' os := ⟨e.trans x.1, fun j hj => by unfold Er; rw [e6]; exact x.2 j hj⟩
theorem carry_all {os : kQ} (hs : ∀ j, j < os.length → isg (nth os j).1) (hl : os.length ≤ 80) : ∀ (d j : Nat), j + d = os.length → ∀ (T : kT) (nm ni nv : Nat), Iv T nm ni nv → ∃ n T' nm' ni' nv', n ≤ 80 ∧ Iv T' nm' ni' nv' ∧
    (∀ f h, d < f → Com h 1 T nm ni nv → Os h os → ∃ h', b_P_carryOut_28 f h (nI j) = b_P_carryOut_56 h' (nI n) ∧ CFs h h' ∧ Com h' 1 T' nm' ni' nv') ∧
    ∀ f h, d < f → Row (h 787) T nv → Hs h → h 786 8 = 1 → OsM h os → ∃ h', b_M_carryOut_23 f h (nI j) = b_M_carryOut_47 h' (nI n) ∧ Mo h h' ∧ Row (h' 787) T' nv' := by
  intro d
  induction d with
  | zero =>
    intro j hj T nm ni nv I
    refine ⟨j, T, nm, ni, nv, by omega, I, fun f h hf C O => ?_, fun f h hf R H h8 O => ?_⟩
    · obtain ⟨f, rfl⟩ : ∃ g, f = g + 1 := ⟨f - 1, by omega⟩
      refine ⟨h, ?_, fun _ _ _ _ _ => rfl, C⟩
      rw [b_P_carryOut_28]
      dsimp only
      rw [O.1, if_pos (show nI os.length ≤ nI j from by rw [leI (by omega) (by omega)]; omega)]
    · obtain ⟨f, rfl⟩ : ∃ g, f = g + 1 := ⟨f - 1, by omega⟩
      refine ⟨h, ?_, fun _ _ _ _ _ => rfl, R⟩
      rw [b_M_carryOut_23]
      dsimp only
      rw [O.1, if_pos (show nI os.length ≤ nI j from by rw [leI (by omega) (by omega)]; omega)]
  | succ d ih =>
    intro j hj T nm ni nv I
    have hjl : j < os.length := by omega
    have sj := hs j hjl
    have lt : ¬ nI os.length ≤ nI j := by rw [leI (by omega) (by omega)]; omega
    rcases twv_op (nth os j) sj T nm ni nv I with ⟨e, w1, w2, w3⟩ | ⟨v, T1, nm1, ni1, nv1, ov, w1, I1, w2, w3⟩
    · refine ⟨j, T, nm, ni, nv, by omega, I, fun f h hf C O => ?_, fun f h hf R H h8 O => ?_⟩
      · obtain ⟨f, rfl⟩ : ∃ g, f = g + 1 := ⟨f - 1, by omega⟩
        obtain ⟨h', r1, r2⟩ := w2 h C
        refine ⟨h', ?_, r2.s, C.cong I.n.2.1 fun a a1 a2 => r2 a (by omega) (by omega) (by omega)⟩
        rw [b_P_carryOut_28]
        dsimp only
        rw [O.1, if_neg lt, C_carry (by omega) sj (O.2 j hjl), r1, kBd_s, w1, if_pos rfl]
      · obtain ⟨f, rfl⟩ : ∃ g, f = g + 1 := ⟨f - 1, by omega⟩
        obtain ⟨h', r1, r2⟩ := w3 h R H
        refine ⟨h', ?_, fun a _ a2 a3 a4 => r2 a a2 a3 a4, r2.row R⟩
        rw [b_M_carryOut_23]
        dsimp only
        rw [O.1, if_neg lt, (M_carry (by omega) sj (O.2 j hjl) r1).1 w1, kBd_s, if_neg (by decide)]
    · obtain ⟨n, T', nm', ni', nv', hn, I', c, m⟩ := ih (j + 1) (by omega) T1 nm1 ni1 nv1 I1
      refine ⟨n, T', nm', ni', nv', hn, I', fun f h hf C O => ?_, fun f h hf R H h8 O => ?_⟩
      · obtain ⟨f, rfl⟩ : ∃ g, f = g + 1 := ⟨f - 1, by omega⟩
        obtain ⟨h1, r1, r2, r3⟩ := w2 h C
        obtain ⟨h', t1, t2, t3⟩ := c f h1 (by omega) r3 (O.cong (by rw [r2 637 (by omega) (by omega) (by omega) (by omega)]) (r2 639 (by omega) (by omega) (by omega) (by omega)) (r2 640 (by omega) (by omega) (by omega) (by omega)) (r2 641 (by omega) (by omega) (by omega) (by omega)))
        refine ⟨h', ?_, fun a a0 a1 a2 a3 => (t2 a a0 a1 a2 a3).trans (r2 a a0 a1 a2 a3), t3⟩
        rw [b_P_carryOut_28]
        dsimp only
        rw [O.1, if_neg lt, C_carry (by omega) sj (O.2 j hjl), r1, kBd_s, w1, if_neg (by decide), nI_1]
        exact t1
      · obtain ⟨f, rfl⟩ : ∃ g, f = g + 1 := ⟨f - 1, by omega⟩
        obtain ⟨h1, r1, r2, r3⟩ := w3 h R H
        have rh : recd h = h := by
          unfold recd
          rw [if_neg (by rw [h8]; decide)]
        have r4 : Mo h h1 := fun a a1 a2 a3 a4 => by
          have := r2 a a1 a2 a3 a4
          rw [rh] at this
          exact this
        have e6 := r4 786 (by decide) (by decide) (by decide) (by decide)
        obtain ⟨u, u1, u2⟩ := H
        obtain ⟨h', t1, t2, t3⟩ := m f h1 (by omega) r3 ⟨u, u1, by rw [e6]; exact u2⟩ (by rw [e6]; exact h8) (O.cong (by rw [e6]) (r4 796 (by decide) (by decide) (by decide) (by decide)))
        refine ⟨h', ?_, r4.trans t2, t3⟩
        rw [b_M_carryOut_23]
        dsimp only
        rw [O.1, if_neg lt, (M_carry (by omega) sj (O.2 j hjl) r1).2 ov, kBd_s, if_pos rfl, nI_1]
        exact t1
