/-! PURE: quorumAt: the class goes from turn to turn, the reference from minute to minute. -/
theorem q_quo {T : kT} {P : Nat → Bool} {t t' : Nat} (L L' : kQ) (nm : Nat) (x : Int32) (e : nI t < T 0 2 0 ↔ nI t' < T 0 2 0) : sQuo (tQ T P t L) nm x = sQuo (tQ T P t' L') nm x := by
  have e1 : ∀ (t : Nat) (L : kQ), (fun m => tQ T P t L 1 m 0) = fun m => T 1 m 0 := fun t L => funext fun m => tQ_1 (by decide)
  have z : ∀ (t : Nat) (L : kQ), tQ T P t L 0 2 0 = T 0 2 0 ∧ tQ T P t L 0 0 0 = T 0 0 0 ∧ tQ T P t L 0 1 0 = T 0 1 0 := fun t L => ⟨tQ_0 (by decide) (by decide), tQ_0 (by decide) (by decide), tQ_0 (by decide) (by decide)⟩
  unfold sQuo sAll
  rw [e1, e1, tQ_06, tQ_06, (z t L).1, (z t L).2.1, (z t L).2.2, (z t' L').1, (z t' L').2.1, (z t' L').2.2]
  by_cases a : nI t < T 0 2 0
  · rw [if_pos a, if_pos (e.mp a)]
  · rw [if_neg a, if_neg (fun y => a (e.mpr y))]
theorem qAt_L (T : kT) (i nm t : Nat) (P : Nat → Bool) (L : kQ) : sQuo (tQ T P t L) nm (sThr (tQ T P t L) i nm nm) = qAt T i nm t P := by
  unfold qAt
  rw [q_thr T P t t L [] i nm nm]
  exact q_quo L [] nm _ Iff.rfl
theorem qAt_t {T : kT} {i nm t t' c2 : Nat} {P : Nat → Bool} (h2 : T 0 2 0 = nI c2 ∧ c2 ≤ 600) (ht : t ≤ 20000) (ht' : t' ≤ 20000) (e : t < c2 ↔ t' < c2) : qAt T i nm t P = qAt T i nm t' P := by
  unfold qAt
  rw [q_thr T P t t' [] [] i nm nm]
  refine q_quo [] [] nm _ ?_
  rw [h2.1, ltI (by omega) (by omega), ltI (by omega) (by omega)]
  exact e
/-- the first minute with a quorum, as the reference goes: d minutes at most -/
def rq (T : kT) (i nm : Nat) : Nat → Nat → (Nat → Bool) → kQ → Int32
  | 0, t, P, _ => if qAt T i nm t P = true then nI t else -6
  | d + 1, t, P, L => if qAt T i nm t P = true then nI t else rq T i nm d (t + 1) (mdl (t + 1) P L).1 (mdl (t + 1) P L).2
theorem rq_t {T : kT} {i nm t : Nat} {P : Nat → Bool} (q : qAt T i nm t P = true) (d : Nat) (L : kQ) : rq T i nm d t P L = nI t := by
  cases d with
  | zero => exact if_pos q
  | succ d => exact if_pos q
theorem rq_skip {T : kT} {i nm : Nat} {P : Nat → Bool} {L : kQ} (d : Nat) : ∀ x t, (∀ e, e ∈ L → t + x < e.1) → (∀ s, t ≤ s → s ≤ t + x → ¬ qAt T i nm s P = true) → rq T i nm (d + x + 1) t P L = rq T i nm d (t + x + 1) (mdl (t + x + 1) P L).1 (mdl (t + x + 1) P L).2
  | 0, t, _, hq => if_neg (hq t (Nat.le_refl _) (Nat.le_refl _))
  | x + 1, t, hL, hq => by
    have a : rq T i nm (d + (x + 1) + 1) t P L = rq T i nm (d + (x + 1)) (t + 1) (mdl (t + 1) P L).1 (mdl (t + 1) P L).2 := if_neg (hq t (Nat.le_refl _) (by omega))
    rw [a, mdl_id P fun e he => by have := hL e he; omega]
    have b := rq_skip d x (t + 1) (fun e he => by have := hL e he; omega) (fun s h1 h2 => hq s (by omega) (by omega))
    rw [show t + 1 + x + 1 = t + (x + 1) + 1 by omega] at b
    exact b
theorem mdlN_skip {P : Nat → Bool} {L : kQ} : ∀ x t, (∀ e, e ∈ L → t + x < e.1) → mdlN t (x + 1) P L = mdl (t + x + 1) P L
  | 0, _, _ => rfl
  | x + 1, t, hL => by
    have b := mdlN_skip (P := P) x (t + 1) (fun e he => by have := hL e he; omega)
    rw [show t + 1 + x + 1 = t + (x + 1) + 1 by omega] at b
    rw [mdlN, mdl_id P fun e he => by have := hL e he; omega]
    exact b
theorem rq_none {T : kT} {i nm : Nat} {P : Nat → Bool} : ∀ d t, (∀ s, t ≤ s → s ≤ t + d → ¬ qAt T i nm s P = true) → rq T i nm d t P [] = -6
  | 0, t, h => if_neg (h t (Nat.le_refl _) (Nat.le_refl _))
  | d + 1, t, h => by
    have a : rq T i nm (d + 1) t P [] = rq T i nm d (t + 1) P [] := if_neg (h t (Nat.le_refl _) (by omega))
    rw [a]
    exact rq_none d (t + 1) fun s h1 h2 => h s (by omega) (by omega)
theorem Cls.len {g : Nat} : ∀ (n : Nat) (P : Nat → Bool) (L : kQ) (P' : Nat → Bool) (L' : kQ), Cls g n P L P' L' → L'.length ≤ L.length
  | 0, P, L, P', L', c => by
    obtain ⟨_, _, rfl⟩ := c
    exact Nat.le_refl _
  | n + 1, P, L, P', L', c => by
    rcases c with ⟨_, _, rfl⟩ | ⟨A, e, B, rfl, _, _, _, c4⟩
    · exact Nat.le_refl _
    · have := Cls.len n _ _ _ _ c4
      rw [List.length_append] at this ⊢
      rw [List.length_cons]
      omega
theorem Cls.less {g : Nat} {P : Nat → Bool} {L : kQ} {P' : Nat → Bool} {L' : kQ} (c : Cls g L.length P L P' L') {e : Nat × Nat × Nat} (he : e ∈ L) (hg : e.1 ≤ g) : L'.length < L.length := by
  have hp := List.length_pos_of_mem he
  obtain ⟨n, hn⟩ : ∃ n, L.length = n + 1 := ⟨L.length - 1, by omega⟩
  rw [hn] at c
  rcases c with ⟨c1, _, _⟩ | ⟨A, x, B, w, _, _, _, c4⟩
  · have := c1 e he; omega
  · have a := Cls.len n _ _ _ _ c4
    rw [w, List.length_append, List.length_cons]
    rw [List.length_append] at a
    omega
theorem C_turns {T : kT} {nm ni nv0 i c2 last : Nat} (I : Iv T nm ni nv0) (hi : i < ni) (h2 : T 0 2 0 = nI c2 ∧ c2 ≤ 600) (h3 : c2 ≤ last ∧ last ≤ 9600) : ∀ (n k f t : Nat) (P : Nat → Bool) (L : kQ) (h : kH), L.length + (if t < c2 then 1 else 0) < n → n + k ≤ 22 → n ≤ f → Qk nm t P L → t ≤ 9600 → Com h 71 (tQ T P t L) nm ni L.length → (∀ e, e ∈ L → e.1 ≤ last) →
    ∃ h', b_P_quorumAt_36 (71 + 10 + 5 * i) f h (nI k) = some (rq T i nm (last - t) t P L, h') ∧ ∀ a, (a < 71 ∨ 145 ≤ a) → h' a = h a := by
  have hn := I.n
  intro n
  induction n with
  | zero => intro k f t P L h hm; omega
  | succ n ih =>
    intro k f t P L h hm hk hf K ht C hl
    obtain ⟨f, rfl⟩ : ∃ g, f = g + 1 := ⟨f - 1, by omega⟩
    have I1 : IvB 9600 (tQ T P t L) nm ni L.length := I.queue K ht
    obtain ⟨g1, l1, l2, l3⟩ := C_listen (s := 141) C I1 hi (Or.inr (by decide))
    have C2 : Com g1 71 (tQ T P t L) nm ni L.length := C.cong hn.2.1 fun a a1 a2 => l2 a (by omega) (by omega)
    have o1 : ∀ a, (a < 71 ∨ 145 ≤ a) → g1 a = h a := fun a ha => l2 a (by omega) (by omega)
    rw [b_P_quorumAt_36]
    dsimp only
    rw [if_neg (show ¬ (22 : Int32) ≤ nI k from by rw [show (22 : Int32) = nI 22 from rfl, leI (by omega) (by omega)]; omega), l1, kBi_s, C_weightThere C2 I1 hi l3, kBi_s, C_isQuorum C2 I1, kBi_s, qAt_L]
    by_cases q : qAt T i nm t P = true
    · rw [if_pos q, rq_t q, C2.a.1, tQ_06]
      exact ⟨g1, rfl, o1⟩
    · rw [if_neg q]
      obtain ⟨r, r1, r2⟩ := C_nextTurn C2 K ht h2
      rw [r1, kBi_s]
      rcases r2 with ⟨rfl, z1, rfl⟩ | ⟨g, rfl, z1, z2, z3, z4, z5⟩
      · rw [if_pos rfl, rq_none (last - t) t fun s s1 s2 => by rw [qAt_t (t' := t) h2 (by omega) (by omega) (by omega)]; exact q]
        exact ⟨g1, rfl, o1⟩
      · obtain ⟨x, rfl⟩ : ∃ x, g = t + x + 1 := ⟨g - t - 1, by omega⟩
        obtain ⟨P', L', h', m1, m2, m3, m4, m5, m6, m7, m8⟩ := C_movec (c := 71) I z2 L.length kFuel t P L g1 rfl (kF_lt (by have := K.1; omega)) K C2
        have gl : t + x + 1 ≤ last := by
          rcases z5 with ⟨w, _⟩ | ⟨e, he, w⟩
          · omega
          · have := hl e he; omega
        have lt : ∀ e, e ∈ L → t + x < e.1 := fun e he => by have := z3 e he; omega
        have nq : ∀ s, t ≤ s → s ≤ t + x → ¬ qAt T i nm s P = true := fun s s1 s2 => by
          rw [qAt_t (t' := t) h2 (by omega) (by omega) (by omega)]; exact q
        have e1 : mdl (t + x + 1) P L = (P', L') := by
          rw [← mdlN_skip x t lt]
          exact Cls.eq L.length P L P' L' (fun e he => (K.2.1 e he).1) m2
        have e2 := rq_skip (T := T) (i := i) (nm := nm) (last - (t + x + 1)) x t lt nq
        rw [show last - (t + x + 1) + x + 1 = last - t by omega, e1] at e2
        have K' : Qk nm (t + x + 1) P' L' := by
          refine ⟨m6, fun e he => ?_, m7⟩
          have b := K.2.1 e (m8 e he)
          have d := z3 e (m8 e he)
          have w : e ∈ (mdl (t + x + 1) P L).2 := by rw [e1]; exact he
          have w2 := (List.mem_filter.mp w).2
          have w3 : ¬ e.1 = t + x + 1 := by simpa using w2
          exact ⟨by omega, b.2⟩
        have less : L'.length + (if t + x + 1 < c2 then 1 else 0) < L.length + (if t < c2 then 1 else 0) := by
          rcases z5 with ⟨w1, w2⟩ | ⟨e, he, w⟩
          · have := Cls.len _ _ _ _ _ m2
            rw [if_neg (by omega), if_pos w2]
            omega
          · have := Cls.less m2 he (by omega)
            split
            · rw [if_pos (by omega)]; omega
            · split
              · omega
              · omega
        obtain ⟨h4, n1, n2⟩ := ih (k + 1) f (t + x + 1) P' L' h' (by omega) (by omega) (by omega) K' z2 m4 (fun e he => hl e (m8 e he))
        refine ⟨h4, ?_, fun a ha => (n2 a ha).trans ((m3 a (by omega)).trans (o1 a ha))⟩
        rw [if_neg (n6_ne (by omega)), e2]
        unfold f_C_moveTo
        rw [C2.a.2.2.2.2.2, tQ_010, m1, kBi_s, nI_1]
        exact n1
theorem M_turns {T : kT} {nm ni nv0 i last : Nat} (I : Iv T nm ni nv0) (hi : i < 12) (hl : last ≤ 9600) : ∀ (d f t : Nat) (P : Nat → Bool) (L : kQ) (h : kH), d = last - t → d < f → Qk nm t P L → t ≤ 9600 → Row (h 787) (tQ T P t L) L.length →
    ∃ h', b_M_quorumAt_73 (nI i) (nI last) f h = b_M_quorumAt_119 h' (rq T i nm d t P L) ∧ Mo h h' := by
  have hn := I.n
  intro d
  induction d with
  | zero =>
    intro f t P L h hd hf K ht R
    obtain ⟨f, rfl⟩ : ∃ g, f = g + 1 := ⟨f - 1, by omega⟩
    have I1 : IvB 9600 (tQ T P t L) nm ni L.length := I.queue K ht
    obtain ⟨g, g1, g2, g3⟩ := M_isQuorum R I1 hi
    have R1 := g2.row R
    obtain ⟨g', g4, g5, g6⟩ := M_isQuorum R1 I1 hi
    have R2 := g5.row R1
    have e9 : b_M_quorumAt_99 g (nI i) = b_M_quorumAt_119 g' (rq T i nm 0 t P L) := by
      unfold b_M_quorumAt_99
      rw [g4, kBd_s, qAt_L]
      by_cases q : qAt T i nm t P = true
      · rw [if_pos q, g760_6, x_6, R2.1 6 (by decide), tQ_06, rq_t q]
      · rw [if_neg q]
        exact congrArg _ (if_neg q).symm
    refine ⟨g', ?_, fun a _ a2 a3 a4 => (g5 a a2 a3 a4).trans (g2 a a2 a3 a4)⟩
    rw [b_M_quorumAt_73]
    dsimp only
    rw [g1, kBd_s, g760_6, x_6, R1.1 6 (by decide), tQ_06, if_pos (show nI last ≤ nI t from by rw [leI (by omega) (by omega)]; omega), e9]
    split <;> rfl
  | succ d ih =>
    intro f t P L h hd hf K ht R
    obtain ⟨f, rfl⟩ : ∃ g, f = g + 1 := ⟨f - 1, by omega⟩
    have I1 : IvB 9600 (tQ T P t L) nm ni L.length := I.queue K ht
    obtain ⟨g, g1, g2, g3⟩ := M_isQuorum R I1 hi
    have R1 := g2.row R
    rw [b_M_quorumAt_73]
    dsimp only
    rw [g1, kBd_s, qAt_L]
    by_cases q : qAt T i nm t P = true
    · obtain ⟨g', g4, g5, g6⟩ := M_isQuorum R1 I1 hi
      have R2 := g5.row R1
      refine ⟨g', ?_, fun a _ a2 a3 a4 => (g5 a a2 a3 a4).trans (g2 a a2 a3 a4)⟩
      unfold b_M_quorumAt_99
      rw [if_pos q, g4, kBd_s, qAt_L, if_pos q, g760_6, x_6, R2.1 6 (by decide), tQ_06, rq_t q]
    · obtain ⟨g', m1, m2, m3⟩ := M_minute K hn.1 ht R1
      obtain ⟨h', n1, n2⟩ := ih f (t + 1) _ _ g' (by omega) (by omega) K.md (by omega) m3
      refine ⟨h', ?_, fun a a1 a2 a3 a4 => (n2 a a1 a2 a3 a4).trans ((m2 a a1).trans (g2 a a2 a3 a4))⟩
      rw [if_neg q, g760_6, x_6, R1.1 6 (by decide), tQ_06, if_neg (show ¬ nI last ≤ nI t from by rw [leI (by omega) (by omega)]; omega), m1, kBi_s, n1]
      exact congrArg _ (if_neg q).symm
theorem M_last {T : kT} {nm i t : Nat} {P : Nat → Bool} {L : kQ} {h : kH} (K : Qk nm t P L) (R : Row (h 787) (tQ T P t L) L.length) : ∀ (d k f x : Nat), k + d = L.length → d < f → x ≤ 9600 →
    ∃ last, b_M_quorumAt_23 (nI i) f h (nI x) (nI k) = b_M_quorumAt_73 (nI i) (nI last) kFuel h ∧ x ≤ last ∧ last ≤ 9600 ∧ ∀ j, k ≤ j → j < L.length → (nth L j).1 ≤ last := by
  have hl := K.1
  have e10 : h 787 10 = nI L.length := (R.1 10 (by decide)).trans tQ_010
  intro d
  induction d with
  | zero =>
    intro k f x hk hf hx
    obtain ⟨f, rfl⟩ : ∃ g, f = g + 1 := ⟨f - 1, by omega⟩
    refine ⟨x, ?_, Nat.le_refl _, hx, fun j j1 j2 => by omega⟩
    rw [b_M_quorumAt_23]
    dsimp only
    rw [g760_10, x_10, e10, if_pos (show nI L.length ≤ nI k from by rw [leI (by omega) (by omega)]; omega)]
  | succ d ih =>
    intro k f x hk hf hx
    obtain ⟨f, rfl⟩ : ∃ g, f = g + 1 := ⟨f - 1, by omega⟩
    have ek : h 787 (690 + 3 * k) = nI (nth L k).1 := (R.2.2.2.2 k 0 (by omega) (by decide)).trans tQ_6
    have b := K.2.1 _ (nth_mem (show k < L.length by omega))
    rw [b_M_quorumAt_23]
    dsimp only
    rw [g760_10, x_10, e10, if_neg (show ¬ nI L.length ≤ nI k from by rw [leI (by omega) (by omega)]; omega), e6_0, kG_nI (by omega) (by decide), kx_nI (by omega), ek, kG_nI (by omega) (by decide), kLet_s, nI_1]
    by_cases q : (nth L k).1 ≤ x
    · obtain ⟨last, r1, r2, r3, r4⟩ := ih (k + 1) f x (by omega) (by omega) hx
      refine ⟨last, ?_, r2, r3, fun j j1 j2 => ?_⟩
      · rw [if_pos (by rw [leI (by omega) (by omega)]; exact q)]
        exact r1
      · by_cases w : j = k
        · rw [w]; omega
        · exact r4 j (by omega) j2
    · obtain ⟨last, r1, r2, r3, r4⟩ := ih (k + 1) f (nth L k).1 (by omega) (by omega) (by omega)
      refine ⟨last, ?_, by omega, r3, fun j j1 j2 => ?_⟩
      · rw [if_neg (by rw [leI (by omega) (by omega)]; exact q)]
        exact r1
      · by_cases w : j = k
        · rw [w]; omega
        · exact r4 j (by omega) j2
theorem bo_quorumAt (y : Int32) : Both (fun h => f_P_quorumAt h y) (fun h => f_M_quorumAt h y) := by
  refine Both.asr fun h T nm ni nv u sp g => ?_
  obtain ⟨I, C, R, -⟩ := g
  have hn := I.n
  have ar : ∀ h : kH, Asr h h := fun h => Asr.of fun _ _ => rfl
  rcases ixc y (n := ni) (by omega) with q | ⟨i, hi, rfl⟩
  · refine ⟨-1, h, h, ?_, Asd.rfl', ?_, ar h, R⟩
    · unfold f_P_quorumAt; rw [C_hasItem_bad C I q, if_neg (by decide)]
    · unfold f_M_quorumAt; rw [M_isItem_bad R I q, kBi_s, if_neg (by decide)]
  have hi2 : i < 12 := by omega
  obtain ⟨c2, b2, e2⟩ := I.s.2.2.1
  obtain ⟨t, P, L, t1, t2, tl, K, hp, hq⟩ := queue_of I
  obtain ⟨g1, c1, c3, c4⟩ := C_copyFrom (o := 71) C I (by omega)
  have C1 := c4.q hn.1 t2 I.c.2.2 tl hp hq
  have hlen := K.1
  have tr : ∀ last, c2 ≤ last → last ≤ 9600 → (∀ e, e ∈ L → e.1 ≤ last) → ∃ h', b_P_quorumAt_36 (71 + 10 + 5 * i) kFuel g1 (nI 0) = some (rq T i nm (last - t) t P L, h') ∧ ∀ a, (a < 71 ∨ 145 ≤ a) → h' a = g1 a := by
    intro last w1 w2 w3
    refine C_turns I hi ⟨e2, b2⟩ ⟨w1, w2⟩ 22 0 kFuel t P L g1 ?_ (by omega) (by have : kFuel = 20000 := rfl; omega) K (by omega) C1 w3
    split <;> omega
  obtain ⟨g2, d1, d2⟩ := tr 9600 (by omega) (Nat.le_refl _) fun e he => (K.2.1 e he).2.1
  have o2 : ∀ a, (a < 71 ∨ 145 ≤ a) → g2 a = h a := fun a ha => (d2 a ha).trans (c3 a (by omega))
  obtain ⟨g3, k1, k2, k3⟩ := M_keep g2
  have e787 : g3 787 = h 787 := (k2 787 (by decide)).trans (o2 787 (by omega))
  have R2 : Row (g2 787) T nv := by rw [o2 787 (by omega)]; exact R
  have R3 : Row (g3 787) T nv := by rw [e787]; exact R
  have Rq : Row (g3 787) (tQ T P t L) L.length := R3.q t2 I.c.2.2 tl hp hq
  obtain ⟨last, l1, l2, l3, l4⟩ := M_last (i := i) K Rq L.length 0 kFuel c2 (by omega) (kF_lt (by omega)) (by omega)
  obtain ⟨g2', d1', -⟩ := tr last l2 l3 fun e he => by
    obtain ⟨b, hb, hb2⟩ := mem_nth he
    rw [← hb2]
    exact l4 b (Nat.zero_le _) hb
  have e3 : g2 = g2' := (Prod.mk.inj (Option.some.inj (d1.symm.trans d1'))).2
  obtain ⟨g4, m1, m2⟩ := M_turns I hi2 l3 (last - t) kFuel t P L g3 rfl (kF_lt (by omega)) K (by omega) Rq
  obtain ⟨g5, n1, n2, n3⟩ := M_comeBack g4
  refine ⟨rq T i nm (last - t) t P L, g2, g5, ?_, Asd.of fun b hb => o2 b (by omega), ?_, Asr.of fun b hb => (n2 b (by omega)).trans ((m2 b (by omega) (by omega) (by omega) (by omega)).trans (k2 b (by omega))), R.cong hn.2.2 fun k hk => ?_⟩
  · unfold f_P_quorumAt
    rw [C_hasItem_ok C I hi, if_pos rfl, c1, kBi_s, kG_nI hi2 (by decide), kx_nI (by omega), e3]
    exact d1'
  · unfold f_M_quorumAt
    rw [M_isItem_ok R2 I hi, kBi_s, if_pos rfl, k1, kBi_s, g760_2, x_2, R3.1 2 (by decide), e2]
    refine l1.trans ?_
    rw [m1]
    unfold b_M_quorumAt_119
    rw [n1, kBi_s]
  · rw [n3 k hk, m2 788 (by decide) (by decide) (by decide) (by decide), k3 k hk, o2 787 (by omega)]
