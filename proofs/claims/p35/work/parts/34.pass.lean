/-! PURE: time passes: the class takes the earliest movement first, the reference goes from minute to minute. -/
abbrev kQ : Type := List (Nat × Nat × Nat)
def nth (L : kQ) (b : Nat) : Nat × Nat × Nat := L.getD b (0, 0, 0)
def el (e : Nat × Nat × Nat) (c : Nat) : Nat := match c with
  | 0 => e.1
  | 1 => e.2.1
  | _ => e.2.2
def tQ (T : kT) (P : Nat → Bool) (t : Nat) (L : kQ) : kT := fun a b c => if a = 0 ∧ b = 6 ∧ c = 0 then nI t else if a = 0 ∧ b = 10 ∧ c = 0 then nI L.length else if a = 1 ∧ c = 2 then kB2 (P b) else if a = 6 then nI (el (nth L b) c) else T a b c
def app (P : Nat → Bool) (e : Nat × Nat × Nat) : Nat → Bool := fun m => if m = e.2.1 then decide (e.2.2 = 1) else P m
theorem nth_l {A X : kQ} {b : Nat} (h : b < A.length) : nth (A ++ X) b = nth A b := by
  unfold nth
  rw [List.getD_eq_getElem?_getD, List.getD_eq_getElem?_getD, List.getElem?_append_left h]
theorem nth_r (A X : kQ) (b : Nat) : nth (A ++ X) (A.length + b) = nth X b := by
  unfold nth
  rw [List.getD_eq_getElem?_getD, List.getD_eq_getElem?_getD, List.getElem?_append_right (by omega), Nat.add_sub_cancel_left]
theorem nth_0 (e : Nat × Nat × Nat) (B : kQ) : nth (e :: B) 0 = e := rfl
theorem nth_s (e : Nat × Nat × Nat) (B : kQ) (b : Nat) : nth (e :: B) (b + 1) = nth B b := by
  unfold nth
  rw [List.getD_eq_getElem?_getD, List.getD_eq_getElem?_getD, List.getElem?_cons_succ]
theorem nth_get {L : kQ} {b : Nat} (h : b < L.length) : nth L b = L[b] := by
  unfold nth
  rw [List.getD_eq_getElem?_getD, List.getElem?_eq_getElem h, Option.getD_some]
theorem nth_mem {L : kQ} {b : Nat} (h : b < L.length) : nth L b ∈ L := by
  rw [nth_get h]
  exact List.getElem_mem h
theorem mem_nth {L : kQ} {e : Nat × Nat × Nat} (h : e ∈ L) : ∃ b, b < L.length ∧ nth L b = e := by
  obtain ⟨b, hb, e'⟩ := List.mem_iff_getElem.mp h
  exact ⟨b, hb, by rw [nth_get hb, e']⟩
-- the two orders agree
def mdl (s : Nat) (P : Nat → Bool) (L : kQ) : (Nat → Bool) × kQ := (L.foldl (fun P e => if e.1 = s then app P e else P) P, L.filter (fun e => !decide (e.1 = s)))
def mdlN : Nat → Nat → (Nat → Bool) → kQ → (Nat → Bool) × kQ
  | _, 0, P, L => (P, L)
  | t, x + 1, P, L => mdlN (t + 1) x (mdl (t + 1) P L).1 (mdl (t + 1) P L).2
def Cls (g : Nat) : Nat → (Nat → Bool) → kQ → (Nat → Bool) → kQ → Prop
  | 0, P, L, P', L' => (∀ e, e ∈ L → g < e.1) ∧ P' = P ∧ L' = L
  | n + 1, P, L, P', L' => ((∀ e, e ∈ L → g < e.1) ∧ P' = P ∧ L' = L) ∨ ∃ A e B, L = A ++ e :: B ∧ e.1 ≤ g ∧ (∀ a, a ∈ A → e.1 < a.1) ∧ (∀ b, b ∈ B → e.1 ≤ b.1) ∧ Cls g n (app P e) (A ++ B) P' L'
theorem fold_id (s : Nat) : ∀ (L : kQ) (P : Nat → Bool), (∀ e, e ∈ L → ¬ e.1 = s) → L.foldl (fun P e => if e.1 = s then app P e else P) P = P
  | [], _, _ => rfl
  | e :: L, P, h => by
    rw [List.foldl_cons, if_neg (h e (List.mem_cons_self ..))]
    exact fold_id s L P fun x hx => h x (List.mem_cons_of_mem _ hx)
theorem mdl_id {s : Nat} {L : kQ} (P : Nat → Bool) (h : ∀ e, e ∈ L → ¬ e.1 = s) : mdl s P L = (P, L) := by
  unfold mdl
  rw [fold_id s L P h, List.filter_eq_self.mpr fun e he => by simp [h e he]]
theorem mdlN_id : ∀ (x t : Nat) (P : Nat → Bool) (L : kQ), (∀ e, e ∈ L → t + x < e.1) → mdlN t x P L = (P, L)
  | 0, _, _, _, _ => rfl
  | x + 1, t, P, L, h => by
    rw [mdlN, mdl_id P fun e he => by have := h e he; omega]
    exact mdlN_id x (t + 1) P L fun e he => by have := h e he; omega
theorem mdl_first {e : Nat × Nat × Nat} {A B : kQ} (P : Nat → Bool) (hA : ∀ a, a ∈ A → e.1 < a.1) : mdl e.1 P (A ++ e :: B) = mdl e.1 (app P e) (A ++ B) := by
  unfold mdl
  rw [List.foldl_append, List.foldl_append, fold_id e.1 A P (fun a ha => by have := hA a ha; omega), fold_id e.1 A (app P e) (fun a ha => by have := hA a ha; omega), List.foldl_cons, if_pos rfl, List.filter_append, List.filter_append, List.filter_cons, if_neg (by simp)]
theorem mdlN_first {e : Nat × Nat × Nat} {A B : kQ} (hA : ∀ a, a ∈ A → e.1 < a.1) (hB : ∀ b, b ∈ B → e.1 ≤ b.1) : ∀ (x t : Nat) (P : Nat → Bool), t < e.1 → e.1 ≤ t + x → mdlN t x P (A ++ e :: B) = mdlN t x (app P e) (A ++ B)
  | 0, t, P, h1, h2 => by omega
  | x + 1, t, P, h1, h2 => by
    rw [mdlN, mdlN]
    by_cases q : t + 1 = e.1
    · rw [q, mdl_first P hA]
    · have k1 : ∀ y, y ∈ A ++ e :: B → ¬ y.1 = t + 1 := by
        intro y hy
        rcases List.mem_append.mp hy with z | z
        · have := hA y z; omega
        · rcases List.mem_cons.mp z with z | z
          · rw [z]; omega
          · have := hB y z; omega
      have k2 : ∀ y, y ∈ A ++ B → ¬ y.1 = t + 1 := by
        intro y hy
        rcases List.mem_append.mp hy with z | z
        · have := hA y z; omega
        · have := hB y z; omega
      rw [mdl_id P k1, mdl_id (app P e) k2]
      exact mdlN_first hA hB x (t + 1) P (by omega) (by omega)
theorem Cls.eq {t x : Nat} : ∀ (n : Nat) (P : Nat → Bool) (L : kQ) (P' : Nat → Bool) (L' : kQ), (∀ e, e ∈ L → t < e.1) → Cls (t + x) n P L P' L' → mdlN t x P L = (P', L')
  | 0, P, L, P', L', h, c => by
    obtain ⟨c1, rfl, rfl⟩ := c
    exact mdlN_id x t _ _ c1
  | n + 1, P, L, P', L', h, c => by
    rcases c with ⟨c1, rfl, rfl⟩ | ⟨A, e, B, rfl, c1, c2, c3, c4⟩
    · exact mdlN_id x t _ _ c1
    · rw [mdlN_first c2 c3 x t P (h e (by simp)) c1]
      exact Cls.eq n (app P e) (A ++ B) P' L' (fun y hy => h y (by
        rcases List.mem_append.mp hy with z | z
        · simp [z]
        · simp [z])) c4
/-- what holds of a queue -/
def Qk (nm t : Nat) (P : Nat → Bool) (L : kQ) : Prop := L.length ≤ 20 ∧ (∀ e, e ∈ L → t < e.1 ∧ e.1 ≤ 9600 ∧ e.2.1 < nm ∧ e.2.2 ≤ 1) ∧ ∀ m, P m = true → m < nm
theorem Qk.ap {nm t : Nat} {P : Nat → Bool} {A B : kQ} {e : Nat × Nat × Nat} (K : Qk nm t P (A ++ e :: B)) : Qk nm t (app P e) (A ++ B) := by
  obtain ⟨k1, k2, k3⟩ := K
  refine ⟨by rw [List.length_append] at *; rw [List.length_cons] at k1; omega, fun y hy => k2 y (by
    rcases List.mem_append.mp hy with z | z
    · simp [z]
    · simp [z]), fun m hm => ?_⟩
  unfold app at hm
  by_cases q : m = e.2.1
  · rw [q]; exact (k2 e (by simp)).2.2.1
  · rw [if_neg q] at hm
    exact k3 m hm
section
variable {T : kT} {nm ni nv t : Nat} {P : Nat → Bool} {L : kQ}
theorem tQ_a {a : Nat} (h0 : a ≠ 0) (h1 : a ≠ 1) (h6 : a ≠ 6) : tQ T P t L a = T a := by
  funext b c
  unfold tQ
  rw [if_neg (by omega), if_neg (by omega), if_neg (by omega), if_neg h6]
theorem tQ_0 {b c : Nat} (h : b ≠ 6) (h' : b ≠ 10) : tQ T P t L 0 b c = T 0 b c := by
  unfold tQ
  rw [if_neg (by omega), if_neg (by omega), if_neg (by omega), if_neg (by decide)]
theorem tQ_06 : tQ T P t L 0 6 0 = nI t := if_pos ⟨rfl, rfl, rfl⟩
theorem tQ_010 : tQ T P t L 0 10 0 = nI L.length := by
  unfold tQ
  rw [if_neg (by decide), if_pos ⟨rfl, rfl, rfl⟩]
theorem tQ_1 {b c : Nat} (h : c ≠ 2) : tQ T P t L 1 b c = T 1 b c := by
  unfold tQ
  rw [if_neg (by omega), if_neg (by omega), if_neg (by omega), if_neg (by decide)]
theorem tQ_12 {b : Nat} : tQ T P t L 1 b 2 = kB2 (P b) := by
  unfold tQ
  rw [if_neg (by omega), if_neg (by omega), if_pos ⟨rfl, rfl⟩]
theorem tQ_6 {b c : Nat} : tQ T P t L 6 b c = nI (el (nth L b) c) := by
  unfold tQ
  rw [if_neg (by omega), if_neg (by omega), if_neg (by omega), if_pos rfl]
theorem tQ_ps : ps (tQ T P t L) = P := by
  funext m
  unfold ps
  rw [tQ_12]
  cases P m <;> decide
theorem Iv.queue {bt : Nat} (I : Iv T nm ni nv) (K : Qk nm t P L) (ht : t ≤ bt) : IvB bt (tQ T P t L) nm ni L.length := by
  obtain ⟨k1, k2, k3⟩ := K
  have e2 : tQ T P t L 2 = T 2 := tQ_a (by decide) (by decide) (by decide)
  refine Iv.of ⟨I.n.1, I.n.2.1, k1⟩ ⟨?_, ?_, tQ_010⟩ ?_ ?_ ?_ (fun m hm => ?_) (fun i hi => (I.i1 hi).cong (by rw [e2])) (fun i hi => (I.i2 hi).cong (by rw [tQ_a (by decide) (by decide) (by decide)]) (by rw [tQ_a (by decide) (by decide) (by decide)]) (by rw [tQ_a (by decide) (by decide) (by decide)])) (fun k hk => ?_) (fun i hi => (I.b hi).cong (by rw [e2]))
  · rw [tQ_0 (by decide) (by decide)]; exact I.c.1
  · rw [tQ_0 (by decide) (by decide)]; exact I.c.2.1
  · refine ⟨t, ht, tQ_06, fun k hk => ?_⟩
    rw [tQ_6]
    obtain ⟨q1, q2, _⟩ := k2 _ (nth_mem hk)
    exact ⟨_, q1, q2, rfl⟩
  · unfold iS
    rw [tQ_0 (by decide) (by decide), tQ_0 (by decide) (by decide), tQ_0 (by decide) (by decide), tQ_0 (by decide) (by decide), tQ_0 (by decide) (by decide), tQ_0 (by decide) (by decide)]
    exact I.s
  · unfold iH
    rw [tQ_0 (by decide) (by decide)]
    exact I.h
  · obtain ⟨b1, b2, b3, b4, b5⟩ := I.m hm
    unfold iM
    rw [tQ_12, tQ_1 (by decide), tQ_1 (by decide), tQ_1 (by decide), tQ_1 (by decide), e2]
    refine ⟨?_, b2, b3, b4, b5⟩
    cases p : P m with
    | false => exact Or.inl rfl
    | true => exact Or.inr ⟨rfl, k3 m p⟩
  · unfold iV
    rw [tQ_6, tQ_6]
    obtain ⟨_, _, q3, q4⟩ := k2 _ (nth_mem hk)
    refine ⟨⟨_, q3, rfl⟩, ?_⟩
    have : (nth L k).2.2 = 0 ∨ (nth L k).2.2 = 1 := by omega
    exact this.imp (fun e => by show nI (nth L k).2.2 = 0; rw [e]; rfl) (fun e => by show nI (nth L k).2.2 = 1; rw [e]; rfl)
end
/-- the same state, its queue as a list -/
theorem queue_of {T : kT} {nm ni nv : Nat} (I : Iv T nm ni nv) : ∃ (t : Nat) (P : Nat → Bool) (L : kQ), t ≤ 9000 ∧ T 0 6 0 = nI t ∧ L.length = nv ∧ Qk nm t P L ∧ (∀ m, m < 12 → T 1 m 2 = kB2 (P m)) ∧ ∀ k c, k < nv → c < 3 → T 6 k c = nI (el (nth L k) c) := by
  have hn := I.n
  obtain ⟨t, t1, t2, t3⟩ := I.t
  have key : ∀ n, n ≤ nv → ∃ L : kQ, L.length = n ∧ (∀ e, e ∈ L → t < e.1 ∧ e.1 ≤ 9600 ∧ e.2.1 < nm ∧ e.2.2 ≤ 1) ∧ ∀ k c, k < n → c < 3 → T 6 k c = nI (el (nth L k) c) := by
    intro n
    induction n with
    | zero => intro _; exact ⟨[], rfl, fun e he => absurd he (List.not_mem_nil), fun k c hk => by omega⟩
    | succ n ih =>
      intro h
      obtain ⟨L, l1, l2, l3⟩ := ih (by omega)
      obtain ⟨a, a1, a2, a3⟩ := t3 n (by omega)
      obtain ⟨⟨j, j1, j2⟩, d⟩ := I.v (show n < nv by omega)
      obtain ⟨d, d1, d2⟩ : ∃ x, x ≤ 1 ∧ T 6 n 2 = nI x := d.elim (fun e => ⟨0, by decide, e⟩) (fun e => ⟨1, by decide, e⟩)
      refine ⟨L ++ [(a, j, d)], by rw [List.length_append, l1]; rfl, fun e he => ?_, fun k c hk hc => ?_⟩
      · rcases List.mem_append.mp he with z | z
        · exact l2 e z
        · rw [List.mem_singleton.mp z]
          exact ⟨a1, a2, j1, d1⟩
      · by_cases q : k = n
        · have e : nth (L ++ [(a, j, d)]) k = (a, j, d) := by
            have := nth_r L [(a, j, d)] 0
            rw [Nat.add_zero, l1] at this
            rw [q]
            exact this
          rw [e, q]
          have : c = 0 ∨ c = 1 ∨ c = 2 := by omega
          rcases this with rfl | rfl | rfl
          · exact a3
          · exact j2
          · exact d2
        · rw [nth_l (by omega)]
          exact l3 k c (by omega) hc
  obtain ⟨L, l1, l2, l3⟩ := key nv (Nat.le_refl _)
  refine ⟨t, fun m => decide (m < 12) && ps T m, L, t1, t2, l1, ⟨by omega, l2, fun m hm => ?_⟩, fun m hm => ?_, l3⟩
  · simp only [Bool.and_eq_true, decide_eq_true_eq] at hm
    rcases (I.m hm.1).1 with e | e
    · have := hm.2
      unfold ps at this
      rw [e] at this
      exact absurd this (by decide)
    · exact e.2
  · simp only [hm, decide_true, Bool.true_and]
    unfold ps
    rcases (I.m hm).1 with e | e
    · rw [e]; decide
    · rw [e.1]; decide
