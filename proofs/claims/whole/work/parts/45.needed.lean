/-! PURE: needed: gains of single voices add up. -/
/-- the state with votes for of the set x on item i -/
def tV (T : kT) (i : Nat) (x : Nat → Bool) : kT := fun a b c => if a = 4 ∧ b = i ∧ x c = true then 1 else T a b c
def spk (T : kT) (i nm j : Nat) : Nat := if ps T j = true then j else kx (sV T i nm j)
def cand (T : kT) (i m : Nat) : Bool := sCan T i m && decide (T 4 i m = -6)
theorem tV_o (T : kT) (i : Nat) (x : Nat → Bool) {a : Nat} (h : a ≠ 4) : tV T i x a = T a := by
  funext b c
  exact if_neg fun z => h z.1
theorem Same.votes (T : kT) (i : Nat) (x : Nat → Bool) : Same T (tV T i x) i := ⟨tV_o _ _ _ (by decide), tV_o _ _ _ (by decide), by rw [tV_o _ _ _ (by decide)], by rw [tV_o _ _ _ (by decide)], by rw [tV_o _ _ _ (by decide)]⟩
theorem tV_one (T : kT) (i m : Nat) : tV T i (fun c => decide (c = m)) = ts T 4 i m 1 := by
  funext a b c
  unfold tV ts
  by_cases q : a = 4 ∧ b = i ∧ c = m
  · rw [if_pos q, if_pos ⟨q.1, q.2.1, by simp [q.2.2]⟩]
  · rw [if_neg q, if_neg (fun z => q ⟨z.1, z.2.1, by simpa using z.2.2⟩)]
theorem cand_of {T : kT} {i m : Nat} (h : cand T i m = true) : ps T m = true ∧ sRec T i m = false ∧ T 4 i m = -6 := by
  unfold cand sCan at h
  cases p : ps T m <;> cases r : sRec T i m <;> simp_all
section
variable {T : kT} {nm ni nv i : Nat}
theorem way_x (I : Iv T nm ni nv) (hi : i < 12) {x : Nat → Bool} (hx : ∀ m, x m = true → m < nm ∧ cand T i m = true) {j : Nat} (hj : j < nm) : sWay (tV T i x) i nm j = if sWay T i nm j = 3 ∧ x (spk T i nm j) = true then 1 else sWay T i nm j := by
  have hn := I.n
  have S := Same.votes T i x
  have e4 : ∀ m, tV T i x 4 i m = if x m = true then 1 else T 4 i m := by
    intro m
    unfold tV
    by_cases q : x m = true
    · rw [if_pos ⟨rfl, rfl, q⟩, if_pos q]
    · rw [if_neg (fun z => q z.2.2), if_neg q]
  have n3 : ∀ {v : Int32}, no v 3 → ¬ v = 3 := by
    rintro v (rfl | ⟨a, ha, rfl⟩) e
    · exact absurd e (by decide)
    · rw [show (3 : Int32) = nI 3 from rfl, eqI (by omega) (by omega)] at e
      omega
  have ip := I.i2 hi
  have xj : x j = true → ps T j = true ∧ T 4 i j = -6 := fun z => ⟨(cand_of (hx j z).2).1, (cand_of (hx j z).2).2.2⟩
  unfold sWay
  rw [S.rec, ps_cong S.2.1, S.v, e4, tV_o T i x (show 5 ≠ 4 by decide)]
  by_cases r : sRec T i j = true
  · rw [if_pos r, if_pos r, if_neg (fun z => absurd z.1 (by decide))]
  rw [if_neg r, if_neg r]
  by_cases a : T 4 i j = -6
  · rw [if_pos a]
    by_cases p : ps T j = true
    · have sp : spk T i nm j = j := if_pos p
      rw [sp]
      by_cases z : x j = true
      · rw [if_pos z, if_neg (show ¬ (1 : Int32) = -6 by decide), if_pos p, if_pos ⟨rfl, z⟩]
      · rw [if_neg z, if_pos a, if_pos p, if_pos p, if_neg (fun w => z w.2)]
    · have z : ¬ x j = true := fun z => p (xj z).1
      rw [if_neg z, if_pos a, if_neg p, if_neg p]
      by_cases s : sV T i nm j = -6
      · rw [if_pos s, if_pos s, if_neg (fun w => absurd w.1 (by decide))]
      · rw [if_neg s, if_neg s]
        by_cases t : T 5 i j = -6
        · rw [if_pos t, if_pos t]
          obtain ⟨l, l1, l2⟩ := (sV_no I hi j).of s
          have sp : spk T i nm j = l := by unfold spk; rw [if_neg p, l2, kx_nI (by omega)]
          rw [sp, l2, kx_nI (by omega), e4]
          by_cases w : x l = true
          · have a4 := (cand_of (hx l w).2).2.2
            rw [if_pos w, if_neg (by decide), if_pos a4, if_pos ⟨rfl, w⟩]
          · rw [if_neg w]
            exact (if_neg (fun v => w v.2)).symm
        · rw [if_neg t, if_neg t, if_neg (fun w => n3 (ip j (by omega)).2.2.1 w.1)]
  · have z : ¬ x j = true := fun z => a (xj z).2
    rw [if_neg z, if_neg a, if_neg a, if_neg (fun w => n3 (ip j (by omega)).2.1 w.1)]
def sTN (T : kT) (i nm w : Nat) : Nat := sumN (fun j => if sWay T i nm j = nI w then wt T j else 0) nm
def gN (T : kT) (i nm m : Nat) : Nat := sumN (fun j => if sWay T i nm j = 3 ∧ spk T i nm j = m then wt T j else 0) nm
theorem sumN_swap (A : Nat → Nat → Nat) (n : Nat) : ∀ m, sumN (fun k => sumN (fun j => A j k) n) m = sumN (fun j => sumN (fun k => A j k) m) n
  | 0 => by
    have : ∀ n, sumN (fun _ => 0) n = 0 := by
      intro n
      induction n with
      | zero => rfl
      | succ n ih => rw [sumN, ih]
    exact (this n).symm
  | m + 1 => by
    rw [sumN, sumN_swap A n m, ← sumN_add]
    rfl
theorem sumN_0 : ∀ n, sumN (fun _ => 0) n = 0
  | 0 => rfl
  | n + 1 => by rw [sumN, sumN_0 n]
/-- the gains of a set -/
def gS (T : kT) (i nm : Nat) (x : Nat → Bool) : Nat := sumN (fun m => if x m = true then gN T i nm m else 0) nm
theorem gS_eq {x : Nat → Bool} (hx : ∀ m, x m = true → m < nm) : gS T i nm x = sumN (fun j => if sWay T i nm j = 3 ∧ x (spk T i nm j) = true then wt T j else 0) nm := by
  unfold gS gN
  have e : ∀ m, m < nm → (if x m = true then sumN (fun j => if sWay T i nm j = 3 ∧ spk T i nm j = m then wt T j else 0) nm else 0) = sumN (fun j => if x m = true then (if sWay T i nm j = 3 ∧ spk T i nm j = m then wt T j else 0) else 0) nm := by
    intro m _
    by_cases q : x m = true
    · rw [if_pos q]
      exact sumN_cong fun j _ => by rw [if_pos q]
    · rw [if_neg q, sumN_cong (g := fun _ => 0) fun j _ => by rw [if_neg q], sumN_0]
  rw [sumN_cong e, sumN_swap (fun j m => if x m = true then (if sWay T i nm j = 3 ∧ spk T i nm j = m then wt T j else 0) else 0)]
  apply sumN_cong
  intro j _
  have e2 : ∀ m, m < nm → (if x m = true then (if sWay T i nm j = 3 ∧ spk T i nm j = m then wt T j else 0) else 0) = if m = spk T i nm j then (if sWay T i nm j = 3 ∧ x (spk T i nm j) = true then wt T j else 0) else 0 := by
    intro m _
    by_cases q : m = spk T i nm j
    · rw [if_pos q, ← q]
      by_cases z : x m = true
      · rw [if_pos z]
        by_cases w : sWay T i nm j = 3
        · rw [if_pos ⟨w, rfl⟩, if_pos ⟨w, z⟩]
        · rw [if_neg (fun v => w v.1), if_neg (fun v => w v.1)]
      · rw [if_neg z, if_neg (fun v => z v.2)]
    · have w : ¬ (sWay T i nm j = 3 ∧ spk T i nm j = m) := fun v => q v.2.symm
      rw [if_neg q, if_neg w, ite_self]
  rw [sumN_cong e2, sumN_one]
  by_cases q : spk T i nm j < nm
  · rw [if_pos q]
  · rw [if_neg q, if_neg (fun v => q (hx _ v.2))]
theorem sTN_x (I : Iv T nm ni nv) (hi : i < 12) {x : Nat → Bool} (hx : ∀ m, x m = true → m < nm ∧ cand T i m = true) : sTN (tV T i x) i nm 1 = sTN T i nm 1 + gS T i nm x ∧ sTN (tV T i x) i nm 2 = sTN T i nm 2 ∧ sTN (tV T i x) i nm 0 = sTN T i nm 0 := by
  have ew : ∀ j, wt (tV T i x) j = wt T j := fun j => by
    unfold wt
    rw [tV_o _ _ _ (by decide)]
  rw [gS_eq (fun m z => (hx m z).1)]
  unfold sTN
  refine ⟨?_, ?_, ?_⟩
  · rw [← sumN_add]
    apply sumN_cong
    intro j hj
    rw [way_x I hi hx hj, ew]
    by_cases q : sWay T i nm j = 3 ∧ x (spk T i nm j) = true
    · rw [if_pos q, if_pos q, if_pos (show (1 : Int32) = nI 1 from rfl), if_neg (by rw [q.1]; decide), Nat.zero_add]
    · rw [if_neg q, if_neg q, Nat.add_zero]
  · apply sumN_cong
    intro j hj
    rw [way_x I hi hx hj, ew]
    by_cases q : sWay T i nm j = 3 ∧ x (spk T i nm j) = true
    · rw [if_pos q, if_neg (by decide), if_neg (by rw [q.1]; decide)]
    · rw [if_neg q]
  · apply sumN_cong
    intro j hj
    rw [way_x I hi hx hj, ew]
    by_cases q : sWay T i nm j = 3 ∧ x (spk T i nm j) = true
    · rw [if_pos q, if_neg (by decide), if_neg (by rw [q.1]; decide)]
    · rw [if_neg q]
theorem Iv.votes (I : Iv T nm ni nv) (hi : i < ni) {x : Nat → Bool} : Iv (tV T i x) nm ni nv := by
  refine I.of3 (fun a _ a1 _ => tV_o T _ _ a1) (fun i' h' m' hm' => ?_)
  obtain ⟨b1, b2, b3, b4⟩ := I.i2 h' m' hm'
  rw [tV_o T i x (show 3 ≠ 4 by decide), tV_o T i x (show 5 ≠ 4 by decide)]
  unfold tV
  by_cases q : 4 = 4 ∧ i' = i ∧ x m' = true
  · rw [if_pos q]
    exact ⟨b1, Or.inr ⟨1, by decide, rfl⟩, b3, fun z => by omega⟩
  · rw [if_neg q]
    exact ⟨b1, b2, b3, b4⟩
theorem sTal_N (I : Iv T nm ni nv) (w : Nat) : sTal T i nm nm w = nI (sTN T i nm w) ∧ sTN T i nm w ≤ 108 := by
  have hn := I.n
  have key : ∀ k, k ≤ nm → sTal T i nm k w = nI (sumN (fun j => if sWay T i nm j = nI w then wt T j else 0) k) ∧ sumN (fun j => if sWay T i nm j = nI w then wt T j else 0) k ≤ 9 * k := by
    intro k
    induction k with
    | zero => intro _; exact ⟨rfl, Nat.le_refl _⟩
    | succ k ih =>
      intro hk
      obtain ⟨a, b⟩ := ih (by omega)
      obtain ⟨c, _, d⟩ := wt_n I (show k < nm by omega)
      rw [sTal_s, a, sumN]
      by_cases q : sWay T i nm k = nI w
      · rw [if_pos q, if_pos q, c, nI_add]
        exact ⟨rfl, by omega⟩
      · rw [if_neg q, if_neg q, Int32.add_zero, Nat.add_zero]
        exact ⟨rfl, by omega⟩
  obtain ⟨a, b⟩ := key nm (Nat.le_refl _)
  exact ⟨a, by unfold sTN; omega⟩
/-- does the set x carry the item? -/
def carries (T : kT) (i nm : Nat) (x : Nat → Bool) : Bool := decide (sO (tV T i x) i nm = 3)
theorem carries_eq (I : Iv T nm ni nv) (hi : i < ni) {x : Nat → Bool} (hx : ∀ m, x m = true → m < nm ∧ cand T i m = true) : sOut T i (nI (sTN T i nm 1) + nI (gS T i nm x)) (nI (sTN T i nm 2)) (nI (sTN T i nm 0)) = sO (tV T i x) i nm := by
  have hn := I.n
  obtain ⟨a, b, c⟩ := sTN_x I (show i < 12 by omega) hx
  have I' := I.votes hi (x := x)
  unfold sO
  rw [(sTal_N I' 1).1, (sTal_N I' 2).1, (sTal_N I' 0).1, a, b, c, nI_add]
  unfold sOut
  rw [tV_o T i x (show 2 ≠ 4 by decide), tV_o T i x (show 0 ≠ 4 by decide)]
end
