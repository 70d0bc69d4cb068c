/-! PURE: opening and closing. -/
/-- what the voices of an item hang on -/
def Same (T T' : kT) (i : Nat) : Prop := T' 0 = T 0 ∧ T' 1 = T 1 ∧ T' 2 i 1 = T 2 i 1 ∧ T' 2 i 11 = T 2 i 11 ∧ T' 3 i = T 3 i
section
variable {T T' : kT} {i : Nat}
theorem Same.rec (S : Same T T' i) (m : Nat) : sRec T' i m = sRec T i m := by
  obtain ⟨a0, a1, a2, a3, a4⟩ := S
  unfold sRec
  rw [a1, a2, a3]
theorem Same.hol (S : Same T T' i) (m : Nat) : sHol T' i m = sHol T i m := by
  obtain ⟨a0, a1, a2, a3, a4⟩ := S
  unfold sHol
  rw [a1, a4]
theorem Same.end (S : Same T T' i) : ∀ (k m : Nat), sEnd T' i k m = sEnd T i k m
  | 0, _ => rfl
  | k + 1, m => by
    rw [sEnd, sEnd, S.hol, ps_cong S.2.1, S.rec, Same.end S k]
theorem Same.step (S : Same T T' i) (v : Nat → Int32) (k : Nat) : sStep T' i v k = sStep T i v k := by
  unfold sStep sCnt sSteps
  rw [S.rec, ps_cong S.2.1, S.end, S.1]
theorem Same.vo (S : Same T T' i) : ∀ (k m : Nat), sVo T' i k m = sVo T i k m
  | 0, _ => rfl
  | k + 1, m => by
    have e : sVo T' i k = sVo T i k := funext (Same.vo S k)
    rw [sVo, sVo, e, S.step]
theorem Same.v (S : Same T T' i) (nm : Nat) : sV T' i nm = sV T i nm := funext (S.vo nm)
theorem Same.thr (S : Same T T' i) (nm : Nat) : ∀ k, sThr T' i nm k = sThr T i nm k := by
  intro k
  unfold sThr
  rw [ps_cong S.2.1, S.v, S.2.1]
end
theorem thr_n {T : kT} {nm ni nv : Nat} (I : Iv T nm ni nv) (i : Nat) : ∀ k, k ≤ nm → ∃ n, n ≤ 9 * k ∧ sThr T i nm k = nI n := by
  have hn := I.n
  intro k
  induction k with
  | zero => intro _; exact ⟨0, by omega, rfl⟩
  | succ k ih =>
    intro hk
    obtain ⟨n, n1, n2⟩ := ih (by omega)
    obtain ⟨⟨w, w1, w2, w3⟩, _⟩ := (I.m (show k < 12 by omega)).2.2.2.1 (by omega)
    have es : sThr T i nm (k + 1) = sThr T i nm k + (if ps T k = true then T 1 k 0 else if sV T i nm k = -6 then 0 else T 1 k 0) := rfl
    rw [es, n2, w3]
    split
    · exact ⟨n + w, by omega, by rw [nI_add]⟩
    · split
      · exact ⟨n, by omega, Int32.add_zero _⟩
      · exact ⟨n + w, by omega, by rw [nI_add]⟩
theorem row_2 {h : kH} {T : kT} {nv i : Nat} (R : Row (h 787) T nv) (hi : i < 12) {j : Nat} (hj : j < 12) : h 787 (100 + 12 * i + j) = T 2 i j := R.2.2.1 i j hi hj
theorem Sc.hs {h g : kH} (S : Sc h g) (H : Hs h) : Hs g := by
  obtain ⟨u, a, b⟩ := H
  exact ⟨u, a, by rw [S 786 (by decide) (by decide) (by decide)]; exact b⟩
theorem Sc.rcd {h g : kH} (S : Sc h g) {a : Nat} (a1 : a ≠ 793) (a2 : a ≠ 794) (a3 : a ≠ 795) : recd g a = recd h a := by
  have e6 : g 786 = h 786 := S 786 (by decide) (by decide) (by decide)
  have e9 : g 789 = h 789 := S 789 (by decide) (by decide) (by decide)
  have e7 : g 787 = h 787 := S 787 (by decide) (by decide) (by decide)
  have ea : g a = h a := S a a1 a2 a3
  funext j
  unfold recd
  rw [e6, e9, e7]
  by_cases p : h 786 8 = 0
  · rw [if_pos p, if_pos p]
    by_cases q : h 786 3 = 6
    · rw [if_pos q, if_pos q, ea]
    · rw [if_neg q, if_neg q, ea]
  · rw [if_neg p, if_neg p, ea]
theorem MFs.sc {h g h' : kH} (S : Sc h g) (M : MFs g h') : MFs h h' := fun a a0 a1 a2 a3 => (M a a0 a1 a2 a3).trans (S.rcd a1 a2 a3)
theorem MFs.then {h g h' : kH} (M : MFs h g) (S : Sc g h') : MFs h h' := fun a a0 a1 a2 a3 => (S a a1 a2 a3).trans (M a a0 a1 a2 a3)
theorem CFe.com {h h' : kH} {T : kT} {nm ni nv : Nat} (x : CFe h h') (C : Com h 1 T nm ni nv) (hn : ni ≤ 12) : Com h' 1 T nm ni nv := C.cong hn fun a a1 a2 => x a (by omega) (by omega) (by omega)
theorem twv_open (x : Int32) : TwV nng (fun h => f_C_openItem h 1 x 141) (fun h => f_M_open h x) := by
  intro T nm ni nv I
  have hn := I.n
  rcases ixc x (n := ni) (by omega) with q | ⟨i, hi, rfl⟩
  · refine Or.inl ⟨-1, StpE.same er_1 (fun h C => ?_) (fun h R => ?_)⟩
    · unfold f_C_openItem; rw [C_hasItem_bad C I q, if_neg (by decide)]
    · unfold f_M_open; rw [M_isItem_bad R I q, kBi_s, if_neg (by decide)]
  have hi2 : i < 12 := by omega
  -- the class's part up to its questions
  have cc : ∀ h, Com h 1 T nm ni nv → ∃ g, CFe h g ∧ Com g 1 T nm ni nv ∧ f_C_openItem h 1 (nI i) 141 = if T 2 i 2 = 0 then (kBi (f_C_firstIn g 1 1) fun v4 => if v4 = (-6) then (if sQuo T nm (sThr T i nm nm) = true then some (sThr T i nm nm, hset g (1 + 10 + 5 * i) 2 1) else some (-5, g)) else some (-5, g)) else some (-5, g) := by
    intro h C
    obtain ⟨g, g1, g2, g3⟩ := C_listen (s := 141) C I hi (Or.inr (by decide))
    have fe : CFe h g := fun a a1 a2 a3 => g2 a (by omega) (by omega)
    have C' := fe.com C hn.2.1
    refine ⟨g, fe, C', ?_⟩
    unfold f_C_openItem
    rw [C_hasItem_ok C I hi, if_pos rfl, kG_nI (by omega) (by decide), kx_nI (by omega), g1, kBi_s, C_weightThere C' I hi g3, kBi_s, (C'.f i hi).2.2.1, C_isQuorum C' I]
    rfl
  by_cases z : T 2 i 2 = 0 ∧ (∀ j, j < ni → ¬ T 2 j 2 = 1) ∧ sQuo T nm (sThr T i nm nm) = true
  · obtain ⟨z0, z1, z2⟩ := z
    have b6 : T 2 i 9 = -6 := by
      rcases I.b hi2 with e | e | e
      · exact e
      · rw [z0] at e; exact absurd e (by decide)
      · rw [z0] at e; exact absurd e (by decide)
    have I' := I.state hi (a := 1) (by decide) (Or.inl b6)
    obtain ⟨n, n1, n2⟩ := thr_n I i nm (Nat.le_refl _)
    refine Or.inr ⟨sThr T i nm nm, ts T 2 i 2 (nI 1), nm, ni, nv, (by rw [n2]; exact pos_nI (by omega)), StpO.of (by rw [n2]; exact er_n (by omega)) I' (fun h C => ?_) (fun h R H => ?_)⟩
    · obtain ⟨g, g1, g2, g3⟩ := cc h C
      obtain ⟨r, r1, r2⟩ := C_firstIn g2 I 1
      have rr : r = -6 := by
        rcases r2 with ⟨e, _⟩ | ⟨k, k1, k2, _⟩
        · exact e
        · exact absurd (of_decide_eq_true k2) (z1 k k1)
      rw [g3, if_pos z0, r1, kBi_s, if_pos rr, if_pos z2]
      exact ⟨_, rfl, fun a a0 a1 a2 a3 => (hs_of _ _ (by omega)).trans (g1 a a1 a2 a3), g2.slot hn.2.1 hi (k := 2) (j := 2) (Or.inl ⟨rfl, rfl⟩) (nI 1)⟩
    · obtain ⟨r, r1, r2⟩ := M_itemIn R I 1
      have rr : r = -6 := by
        rcases r2 with ⟨e, _⟩ | ⟨k, k1, k2, _⟩
        · exact e
        · exact absurd (of_decide_eq_true k2) (z1 k k1)
      obtain ⟨g, g1, g2, g3⟩ := M_isQuorum R I hi2
      have Rg := g2.row R
      have R' : Row (hset (recd g) 787 (100 + 12 * i + 2) (nI 1) 787) (ts T 2 i 2 (nI 1)) nv := by
        rw [hs_ru]
        exact (recd_row Rg).set2 (by omega) (by omega) _
      obtain ⟨g', w1, w2, w3⟩ := M_weightThere R' I' hi2
      have S : Same T (ts T 2 i 2 (nI 1)) i := ⟨ts_o _ _ (by decide), ts_o _ _ (by decide), ts_ne _ _ (by omega), ts_ne _ _ (by omega), by rw [ts_o _ _ (by decide)]⟩
      rw [S.thr] at w1
      refine ⟨g', ?_, MFs.sc g2 (MFs.then (MFs.one fun a p => hs_of _ _ p) w2), w2.row R'⟩
      unfold f_M_open
      rw [M_isItem_ok R I hi, kBi_s, if_pos rfl, M_stateOf R hi2, kBi_s, if_pos z0, r1, kBi_s, rr, if_neg (by decide), g1, kBd_s, if_pos z2, M_record (g2.hs H), kBi_s, show (2 : Int32) = nI 2 from rfl, e2, kG_nI (by omega) (by decide), kx_nI (by omega), kLet_s, show (1 : Int32) = nI 1 from rfl, w1, kBd_s]
  · refine Or.inl ⟨-5, er_5, fun h C => ?_, fun h R _ => ?_⟩
    · obtain ⟨g, g1, g2, g3⟩ := cc h C
      refine ⟨g, ?_, g1⟩
      dsimp only
      rw [g3]
      by_cases a : T 2 i 2 = 0
      · rw [if_pos a]
        obtain ⟨r, r1, r2⟩ := C_firstIn g2 I 1
        rw [r1, kBi_s]
        by_cases b : r = -6
        · rw [if_pos b]
          by_cases d : sQuo T nm (sThr T i nm nm) = true
          · refine absurd ⟨a, fun j hj e => ?_, d⟩ z
            rcases r2 with ⟨_, y⟩ | ⟨k, k1, _, _, e'⟩
            · have := y j hj
              simp [e] at this
            · exact n6_ne (show k < 2 ^ 31 by omega) (e'.symm.trans b)
          · rw [if_neg d]
        · rw [if_neg b]
      · rw [if_neg a]
    · dsimp only
      unfold f_M_open
      rw [M_isItem_ok R I hi, kBi_s, if_pos rfl, M_stateOf R hi2, kBi_s]
      by_cases a : T 2 i 2 = 0
      · rw [if_pos a]
        obtain ⟨r, r1, r2⟩ := M_itemIn R I 1
        rw [r1, kBi_s]
        by_cases b : r = -6
        · rw [if_neg (by rw [b]; decide)]
          obtain ⟨g, g1, g2, g3⟩ := M_isQuorum R I hi2
          rw [g1, kBd_s]
          by_cases d : sQuo T nm (sThr T i nm nm) = true
          · refine absurd ⟨a, fun j hj e => ?_, d⟩ z
            rcases r2 with ⟨_, y⟩ | ⟨k, k1, _, _, e'⟩
            · have := y j hj
              simp [e] at this
            · exact n6_ne (show k < 2 ^ 31 by omega) (e'.symm.trans b)
          · rw [if_neg d]
            exact ⟨g, rfl, g2⟩
        · obtain ⟨k, k1, k2⟩ := r2.no.of b
          rw [k2, if_pos (nI_pos' (by omega))]
          exact ⟨h, rfl, Sc.rfl'⟩
      · rw [if_neg a]
        exact ⟨h, rfl, Sc.rfl'⟩
theorem tw_open (x : Int32) : Tw (fun h => f_C_openItem h 1 x 141) (fun h => f_M_open h x) := (twv_open x).tw
-- closing
/-- an item's six sums laid down -/
def tSum (T : kT) (i : Nat) (s : Nat → Int32) : kT := fun a b c => if a = 2 ∧ b = i ∧ 3 ≤ c ∧ c < 9 then s (c - 3) else T a b c
/-- an item put off: its votes gone -/
def tOff (T : kT) (i k : Nat) : kT := fun a b c => if a = 4 ∧ b = i ∧ c < k then -6 else T a b c
theorem tSum_o (T : kT) (i : Nat) (s : Nat → Int32) {a : Nat} (h : a ≠ 2) : tSum T i s a = T a := by
  funext b c
  exact if_neg (fun z => h z.1)
theorem tSum_ne (T : kT) (i : Nat) (s : Nat → Int32) {b c : Nat} (h : b ≠ i ∨ c < 3 ∨ 9 ≤ c) : tSum T i s 2 b c = T 2 b c := if_neg (by omega)
theorem tSum_in (T : kT) (i : Nat) (s : Nat → Int32) {k : Nat} (h : k < 6) : tSum T i s 2 i (3 + k) = s k := by
  unfold tSum
  rw [if_pos (by omega), show 3 + k - 3 = k by omega]
theorem tOff_o (T : kT) (i k : Nat) {a : Nat} (h : a ≠ 4) : tOff T i k a = T a := by
  funext b c
  exact if_neg (fun z => h z.1)
theorem Iv.sums {T : kT} {nm ni nv i : Nat} (I : Iv T nm ni nv) (hi : i < ni) (s : Nat → Int32) : Iv (tSum T i s) nm ni nv := by
  refine I.of2 (fun a q => tSum_o T _ _ q) (fun j => tSum_ne _ _ _ (by omega)) (fun j hj => ?_) (fun j hj => ?_)
  · by_cases q : j = i
    · obtain ⟨b1, b2, b3, b4, b5⟩ := I.i1 hj
      rw [q] at b1 b2 b3 b4 b5 ⊢
      unfold iI1
      rw [tSum_ne _ _ _ (c := 0) (by omega), tSum_ne _ _ _ (c := 1) (by omega), tSum_ne _ _ _ (c := 2) (by omega), tSum_ne _ _ _ (c := 11) (by omega), tSum_ne _ _ _ (c := 9) (by omega), tSum_ne _ _ _ (c := 10) (by omega)]
      exact ⟨b1, b2, b3, b4, fun z => by omega⟩
    · exact (I.i1 hj).cong (by funext k; exact tSum_ne _ _ _ (by omega))
  · unfold iB
    rw [tSum_ne _ _ _ (c := 9) (by omega), tSum_ne _ _ _ (c := 2) (by omega)]
    exact I.b hj
theorem Iv.off {T : kT} {nm ni nv i : Nat} (I : Iv T nm ni nv) (hi : i < ni) (k : Nat) : Iv (tOff T i k) nm ni nv := by
  refine I.of3 (fun a _ a1 _ => tOff_o T _ _ a1) (fun i' h' m' hm' => ?_)
  obtain ⟨b1, b2, b3, b4⟩ := I.i2 h' m' hm'
  rw [tOff_o T i k (show 3 ≠ 4 by decide), tOff_o T i k (show 5 ≠ 4 by decide)]
  unfold tOff
  by_cases q : 4 = 4 ∧ i' = i ∧ m' < k
  · rw [if_pos q]
    exact ⟨b1, Or.inl rfl, b3, fun z => by omega⟩
  · rw [if_neg q]
    exact ⟨b1, b2, b3, b4⟩
theorem Iv.put {T : kT} {nm ni nv i : Nat} (I : Iv T nm ni nv) (hi : i < ni) (v : Int32) : Iv (ts T 2 i 10 v) nm ni nv := by
  refine I.of2 (fun a q => ts_o T _ q) (fun j => ts_ne _ _ (by omega)) (fun j hj => ?_) (fun j hj => ?_)
  · by_cases q : j = i
    · obtain ⟨b1, b2, b3, b4, b5⟩ := I.i1 hj
      rw [q] at b1 b2 b3 b4 b5 ⊢
      unfold iI1
      rw [ts_ne T (c' := 0) _ (by omega), ts_ne T (c' := 1) _ (by omega), ts_eq, ts_ne T (c' := 2) _ (by omega), ts_ne T (c' := 9) _ (by omega), ts_ne T (c' := 11) _ (by omega)]
      exact ⟨b1, b2, b3, b4, fun z => by omega⟩
    · exact (I.i1 hj).cong (by funext k; exact ts_ne _ _ (by omega))
  · unfold iB
    rw [ts_ne T (c' := 9) _ (by omega), ts_ne T (c' := 2) _ (by omega)]
    exact I.b hj
theorem Com.sums {h h' : kH} {T : kT} {nm ni nv i : Nat} (C : Com h 1 T nm ni nv) (hn : ni ≤ 12) (hi : i < ni) (s : Nat → Int32) (o : ∀ a, a ≠ 12 + 5 * i → h' a = h a) (e : ∀ k, k < 6 → h' (12 + 5 * i) k = s k) : Com h' 1 (tSum T i s) nm ni nv := by
  refine C.item hn hi ?_ (fun a a1 a2 a3 => o a (by omega)) (tSum_o _ _ _ (by decide)) (fun j => ⟨rfl, rfl, rfl, rfl⟩) (tSum_o _ _ _ (by decide)) (fun i' j q => ⟨tSum_ne _ _ _ (by omega), rfl, rfl, rfl⟩)
  obtain ⟨a1, a2, a3, a4, a5, a6, a7, a8⟩ := C.f i hi
  unfold cI
  rw [tSum_ne _ _ _ (c := 0) (by omega), tSum_ne _ _ _ (c := 1) (by omega), tSum_ne _ _ _ (c := 2) (by omega), tSum_ne _ _ _ (c := 11) (by omega), tSum_ne _ _ _ (c := 9) (by omega), tSum_ne _ _ _ (c := 10) (by omega), o (1 + 10 + 5 * i) (by omega), o (1 + 10 + 5 * i + 2) (by omega), o (1 + 10 + 5 * i + 3) (by omega), o (1 + 10 + 5 * i + 4) (by omega), tSum_o _ _ _ (show 3 ≠ 2 by decide), tSum_o _ _ _ (show 4 ≠ 2 by decide), tSum_o _ _ _ (show 5 ≠ 2 by decide)]
  refine ⟨a1, a2, a3, a4, a5, a6, fun k hk => ?_, a8⟩
  rw [tSum_in _ _ _ hk, show 1 + 10 + 5 * i + 1 = 12 + 5 * i by omega]
  exact e k hk
theorem Com.off {h h' : kH} {T : kT} {nm ni nv i : Nat} (C : Com h 1 T nm ni nv) (hn : ni ≤ 12) (hi : i < ni) (o : ∀ a, a ≠ 13 + 5 * i → h' a = h a) (e : ∀ m, m < 12 → h' (13 + 5 * i) m = -6) : Com h' 1 (tOff T i 12) nm ni nv := by
  refine C.item hn hi ?_ (fun a a1 a2 a3 => o a (by omega)) (tOff_o _ _ _ (by decide)) (fun j => ⟨rfl, rfl, rfl, rfl⟩) (tOff_o _ _ _ (by decide)) (fun i' j q => ⟨rfl, rfl, if_neg (by omega), rfl⟩)
  obtain ⟨a1, a2, a3, a4, a5, a6, a7, a8⟩ := C.f i hi
  unfold cI
  rw [o (1 + 10 + 5 * i) (by omega), o (1 + 10 + 5 * i + 1) (by omega), o (1 + 10 + 5 * i + 3) (by omega), o (1 + 10 + 5 * i + 4) (by omega), tOff_o _ _ _ (show 2 ≠ 4 by decide), tOff_o _ _ _ (show 3 ≠ 4 by decide), tOff_o _ _ _ (show 5 ≠ 4 by decide)]
  refine ⟨a1, a2, a3, a4, a5, a6, a7, fun m hm => ⟨?_, (a8 m hm).2.1, (a8 m hm).2.2⟩⟩
  rw [show 1 + 10 + 5 * i + 2 = 13 + 5 * i by omega, e m hm]
  exact (if_pos (by omega)).symm
theorem sOut_n (T : kT) (i : Nat) (y a z : Int32) : ∃ n, 2 ≤ n ∧ n ≤ 4 ∧ sOut T i y a z = nI n := by
  unfold sOut
  repeat' split
  all_goals first | exact ⟨2, by decide, by decide, rfl⟩ | exact ⟨3, by decide, by decide, rfl⟩ | exact ⟨4, by decide, by decide, rfl⟩
theorem M_cl_sums {T : kT} {nv i : Nat} (hi : i < 12) : ∀ (d k f : Nat) (h : kH), k + d = 6 → d < f → Row (h 787) (tSum T i (fun j => if j < k then h 795 j else T 2 i (3 + j))) nv → ∃ h', b_M_close_107 (nI (100 + 12 * i)) f h (nI k) = some (T 2 i 2, h') ∧ (∀ a, a ≠ 787 → h' a = h a) ∧ Row (h' 787) (tSum T i (h 795)) nv := by
  intro d
  induction d with
  | zero =>
    intro k f h hk hf R
    obtain ⟨f, rfl⟩ : ∃ g, f = g + 1 := ⟨f - 1, by omega⟩
    obtain rfl : k = 6 := hk
    have es : tSum T i (fun j => if j < 6 then h 795 j else T 2 i (3 + j)) = tSum T i (h 795) := by
      funext a b c
      unfold tSum
      by_cases q : a = 2 ∧ b = i ∧ 3 ≤ c ∧ c < 9
      · rw [if_pos q, if_pos q]
        exact if_pos (by omega)
      · rw [if_neg q, if_neg q]
    rw [es] at R
    have e := row_2 R hi (show 2 < 12 by decide)
    rw [tSum_ne _ _ _ (by omega)] at e
    rw [b_M_close_107]
    dsimp only
    rw [if_pos (show (6 : Int32) ≤ nI 6 from by decide), show (2 : Int32) = nI 2 from rfl, nI_add, kG_nI (by omega) (by decide), kx_nI (by omega), e]
    exact ⟨h, rfl, fun a _ => rfl, R⟩
  | succ d ih =>
    intro k f h hk hf R
    obtain ⟨f, rfl⟩ : ∃ g, f = g + 1 := ⟨f - 1, by omega⟩
    rw [b_M_close_107]
    dsimp only
    rw [if_neg (show ¬ (6 : Int32) ≤ nI k from by rw [show (6 : Int32) = nI 6 from rfl, leI (by omega) (by omega)]; omega), show (3 : Int32) = nI 3 from rfl, nI_add, nI_add, kG_nI (by omega) (by decide), kG_nI (by omega) (by decide), kx_nI (by omega), kx_nI (by omega), nI_1, kLet_s]
    have R' : Row (hset h 787 (100 + 12 * i + 3 + k) (h 795 k) 787) (tSum T i (fun j => if j < k + 1 then h 795 j else T 2 i (3 + j))) nv := by
      rw [hs_ru, show 100 + 12 * i + 3 + k = 100 + 12 * i + (3 + k) by omega]
      have := R.set2 (i := i) (j := 3 + k) hi (by omega) (h 795 k)
      have e : ts (tSum T i (fun j => if j < k then h 795 j else T 2 i (3 + j))) 2 i (3 + k) (h 795 k) = tSum T i (fun j => if j < k + 1 then h 795 j else T 2 i (3 + j)) := by
        funext a b c
        unfold ts tSum
        dsimp only
        by_cases q : a = 2 ∧ b = i ∧ c = 3 + k
        · rw [if_pos q, if_pos (by omega), if_pos (by omega), show c - 3 = k by omega]
        · rw [if_neg q]
          by_cases p : a = 2 ∧ b = i ∧ 3 ≤ c ∧ c < 9
          · rw [if_pos p, if_pos p]
            by_cases w : c - 3 < k
            · rw [if_pos w, if_pos (by omega)]
            · rw [if_neg w, if_neg (by omega)]
          · rw [if_neg p, if_neg p]
      rw [e] at this
      exact this
    have e795 : hset h 787 (100 + 12 * i + 3 + k) (h 795 k) 795 = h 795 := hs_of _ _ (by decide)
    obtain ⟨h', e1, e2, e3⟩ := ih (k + 1) f (hset h 787 (100 + 12 * i + 3 + k) (h 795 k)) (by omega) (by omega) (by rw [e795]; exact R')
    rw [e795] at e3
    exact ⟨h', e1, fun a a1 => (e2 a a1).trans (hs_of _ _ a1), e3⟩
theorem M_cl_off {T : kT} {nv i : Nat} (hi : i < 12) : ∀ (d k f : Nat) (h : kH), k + d = 12 → d < f → Row (h 787) (tOff T i k) nv → ∃ h', b_M_close_57 (nI i) f h (nI k) = some (0, h') ∧ (∀ a, a ≠ 787 → h' a = h a) ∧ Row (h' 787) (tOff T i 12) nv := by
  intro d
  induction d with
  | zero =>
    intro k f h hk hf R
    obtain ⟨f, rfl⟩ : ∃ g, f = g + 1 := ⟨f - 1, by omega⟩
    obtain rfl : k = 12 := hk
    rw [b_M_close_57]
    dsimp only
    rw [if_pos (show (12 : Int32) ≤ nI 12 from by decide)]
    exact ⟨h, rfl, fun a _ => rfl, R⟩
  | succ d ih =>
    intro k f h hk hf R
    obtain ⟨f, rfl⟩ : ∃ g, f = g + 1 := ⟨f - 1, by omega⟩
    rw [b_M_close_57]
    dsimp only
    rw [if_neg (show ¬ (12 : Int32) ≤ nI k from by rw [show (12 : Int32) = nI 12 from rfl, leI (by omega) (by omega)]; omega), show (1 : Int32) = nI 1 from rfl, e3, kG_nI (by omega) (by decide), kx_nI (by omega), nI_add, kLet_s]
    have R' : Row (hset h 787 (250 + 3 * (12 * i + k) + 1) (-6) 787) (tOff T i (k + 1)) nv := by
      rw [hs_ru]
      have := R.set3 (i := i) (m := k) (j := 1) hi (by omega) (by decide) (-6)
      have e : ts (tOff T i k) (3 + 1) i k (-6) = tOff T i (k + 1) := by
        funext a b c
        unfold ts tOff
        by_cases q : a = 3 + 1 ∧ b = i ∧ c = k
        · rw [if_pos q, if_pos (by omega)]
        · rw [if_neg q]
          by_cases p : a = 4 ∧ b = i ∧ c < k
          · rw [if_pos p, if_pos (by omega)]
          · rw [if_neg p, if_neg (by omega)]
      rw [e] at this
      exact this
    obtain ⟨h', e1, e2, e3⟩ := ih (k + 1) f (hset h 787 (250 + 3 * (12 * i + k) + 1) (-6)) (by omega) (by omega) R'
    exact ⟨h', e1, fun a a1 => (e2 a a1).trans (hs_of _ _ a1), e3⟩
theorem twv_close : TwV nng (fun h => f_C_closeItem h 1 141) (fun h => f_M_close h) := by
  intro T nm ni nv I
  have hn := I.n
  by_cases z : ∃ i, i < ni ∧ Fst (fun i => decide (T 2 i 2 = 1)) ni (nI i)
  · obtain ⟨i, hi, F⟩ := z
    have hi2 : i < 12 := by omega
    have h1 : T 2 i 2 = 1 := by
      rcases F with ⟨e, _⟩ | ⟨k, _, k2, _, e⟩
      · exact absurd e (n6_ne (by omega))
      · rw [eqI (by omega) (by omega)] at e
        rw [e]
        exact of_decide_eq_true k2
    have b6 : T 2 i 9 = -6 := by
      rcases I.b hi2 with e | e | e
      · exact e
      · rw [h1] at e; exact absurd e (by decide)
      · rw [h1] at e; exact absurd e (by decide)
    -- the class up to the question of the quorum
    have cc : ∀ h, Com h 1 T nm ni nv → ∃ g, CFe h g ∧ Com g 1 T nm ni nv ∧ Hrd g 141 T i nm ∧ f_C_closeItem h 1 141 = if sQuo T nm (sThr T i nm nm) = true then (kBi (f_H_tally g 141 1 (1 + 10 + 5 * i)) fun h7 => kCg 0 0 6 6 6 (kLet (hcpy h7 (141 + 3) ((1 + 10 + 5 * i) + 1) (kx 0) (kx 0) (kx 6)) fun h8 => kBi (f_H_outcome h8 141 1 (1 + 10 + 5 * i) 0) fun v9 => kLet (hset h8 (1 + 10 + 5 * i) 2 v9) fun h10 => some ((h10 (1 + 10 + 5 * i) 2), h10))) else (kBi (f_I_putOff g (1 + 10 + 5 * i)) fun h6 => some ((h6 (1 + 10 + 5 * i) 2), h6)) := by
      intro h C
      obtain ⟨g, g1, g2, g3⟩ := C_listen (s := 141) C I hi (Or.inr (by decide))
      have fe : CFe h g := fun a a1 a2 a3 => g2 a (by omega) (by omega)
      have C' := fe.com C hn.2.1
      obtain ⟨r, r1, r2⟩ := C_firstIn C I 1
      obtain rfl := r2.one F
      refine ⟨g, fe, C', g3, ?_⟩
      unfold f_C_closeItem
      rw [r1, kBi_s, if_neg (n6_ne (by omega)), kG_nI (by omega) (by decide), kx_nI (by omega), g1, kBi_s, C_weightThere C' I hi g3, kBi_s, C_isQuorum C' I, kBi_s]
    by_cases d : sQuo T nm (sThr T i nm nm) = true
    · obtain ⟨o, o1, o2, o3⟩ := sOut_n T i (sTal T i nm nm 1) (sTal T i nm nm 2) (sTal T i nm nm 0)
      have It : Iv (ts T 2 i 2 (nI o)) nm ni nv := I.state hi o2 (Or.inl b6)
      have I' := It.sums hi (sTal T i nm nm)
      have swap : tSum (ts T 2 i 2 (nI o)) i (sTal T i nm nm) = ts (tSum T i (sTal T i nm nm)) 2 i 2 (nI o) := by
        funext a b c
        unfold ts tSum
        dsimp only
        by_cases q : a = 2 ∧ b = i ∧ c = 2
        · rw [if_pos q, if_neg (by omega), if_pos q]
        · rw [if_neg q, if_neg q]
      refine Or.inr ⟨nI o, tSum (ts T 2 i 2 (nI o)) i (sTal T i nm nm), nm, ni, nv, pos_nI (by omega), StpO.of (er_n (by omega)) I' (fun h C => ?_) (fun h R H => ?_)⟩
      · obtain ⟨g, g1, g2, g3, g4⟩ := cc h C
        obtain ⟨h7, t1, t2, t3⟩ := C_tally (s := 141) g2 I hi (Or.inr (by decide)) g3
        have C7 : Com h7 1 T nm ni nv := g2.cong hn.2.1 fun a a1 a2 => t2 a (by omega)
        have o8 : ∀ a, a ≠ 12 + 5 * i → hcpy h7 (141 + 3) ((1 + 10 + 5 * i) + 1) 0 0 6 a = h7 a := by
          intro a q
          funext j
          unfold hcpy
          rw [if_neg (by omega)]
        have e8 : ∀ k, k < 6 → hcpy h7 (141 + 3) ((1 + 10 + 5 * i) + 1) 0 0 6 (12 + 5 * i) k = sTal T i nm nm k := by
          intro k hk
          unfold hcpy va_cpy
          rw [if_pos (by omega), if_pos (by omega), Nat.zero_add, Nat.sub_zero, t3 k hk]
        have C8 := C7.sums hn.2.1 hi (sTal T i nm nm) o8 e8
        have C9 := C8.slot hn.2.1 hi (k := 2) (j := 2) (Or.inl ⟨rfl, rfl⟩) (nI o)
        have oo : sOut (tSum T i (sTal T i nm nm)) i (sTal T i nm nm 1 + 0) (sTal T i nm nm 2) (sTal T i nm nm 0) = nI o := by
          rw [← o3, Int32.add_zero]
          unfold sOut
          rw [tSum_ne _ _ _ (by omega), tSum_o _ _ _ (show 0 ≠ 2 by decide)]
        have e144 : ∀ k, k < 6 → hcpy h7 (141 + 3) ((1 + 10 + 5 * i) + 1) 0 0 6 (141 + 3) k = sTal T i nm nm k := by
          intro k hk
          rw [o8 _ (by omega)]
          exact t3 k hk
        refine ⟨hset (hcpy h7 (141 + 3) ((1 + 10 + 5 * i) + 1) 0 0 6) (1 + 10 + 5 * i) 2 (nI o), ?_, fun a a0 a1 a2 a3 => ?_, by rw [swap]; exact C9⟩
        · have cg : ∀ {α : Type} (k : Option α), kCg 0 0 6 6 6 k = k := fun k => if_neg (by decide)
          rw [g4, if_pos d, t1, kBi_s, cg, show kx 0 = 0 from x_0, show kx 6 = 6 from x_6, kLet_s, C_outcome (s := 141) C8 hi, kBi_s, e144 1 (by decide), e144 2 (by decide), e144 0 (by decide), oo, kLet_s, hs_eq]
        · rw [hs_of _ _ (by omega), o8 a (by omega), t2 a (by omega)]
          exact g1 a a1 a2 a3
      · obtain ⟨r, r1, r2⟩ := M_itemIn R I 1
        obtain rfl := r2.one F
        have Rr := recd_row R
        obtain ⟨g, g1, g2, g3⟩ := M_isQuorum Rr I hi2
        obtain ⟨g', w1, w2, w3, w4⟩ := M_outcome (g2.row Rr) I hi2
        have Rw := w2.row (g2.row Rr)
        have R1 : Row (hset g' 787 (100 + 12 * i + 2) (nI o) 787) (ts T 2 i 2 (nI o)) nv := by
          rw [hs_ru]
          exact Rw.set2 (by omega) (by omega) _
        have R1' : Row (hset g' 787 (100 + 12 * i + 2) (nI o) 787) (tSum (ts T 2 i 2 (nI o)) i (fun j => if j < 0 then hset g' 787 (100 + 12 * i + 2) (nI o) 795 j else ts T 2 i 2 (nI o) 2 i (3 + j))) nv := by
          have e : tSum (ts T 2 i 2 (nI o)) i (fun j => if j < 0 then hset g' 787 (100 + 12 * i + 2) (nI o) 795 j else ts T 2 i 2 (nI o) 2 i (3 + j)) = ts T 2 i 2 (nI o) := by
            funext a b c
            unfold tSum
            by_cases q : a = 2 ∧ b = i ∧ 3 ≤ c ∧ c < 9
            · rw [if_pos q]
              dsimp only
              rw [if_neg (Nat.not_lt_zero _), show 3 + (c - 3) = c by omega, q.1, q.2.1]
            · rw [if_neg q]
          rw [e]
          exact R1
        obtain ⟨h', y1, y2, y3⟩ := M_cl_sums hi2 6 0 kFuel (hset g' 787 (100 + 12 * i + 2) (nI o)) rfl (kF_lt (by omega)) R1'
        have e795 : tSum (ts T 2 i 2 (nI o)) i (hset g' 787 (100 + 12 * i + 2) (nI o) 795) = tSum (ts T 2 i 2 (nI o)) i (sTal T i nm nm) := by
          rw [hs_of _ _ (show 795 ≠ 787 by decide)]
          funext a b c
          unfold tSum
          by_cases q : a = 2 ∧ b = i ∧ 3 ≤ c ∧ c < 9
          · rw [if_pos q, if_pos q]
            exact w4 _ (by omega)
          · rw [if_neg q, if_neg q]
        rw [e795] at y3
        refine ⟨h', ?_, fun a a0 a1 a2 a3 => ?_, y3⟩
        · unfold f_M_close
          rw [r1, kBi_s, if_pos (nI_pos' (by omega)), M_record H, kBi_s, g1, kBd_s, if_pos d, w1, kBd_s, o3, show (2 : Int32) = nI 2 from rfl, e2, kG_nI (by omega) (by decide), kx_nI (by omega), kLet_s, e2_0, show (0 : Int32) = nI 0 from rfl, y1, ts_eq]
        · rw [y2 a a0, hs_of _ _ a0, w2 a a1 a2 a3, g2 a a1 a2 a3]
    · have Ia := (((I.state hi (a := 0) (by decide) (Or.inl b6)).put hi (T 2 i 10 + 1)).off hi 12)
      refine Or.inr ⟨0, tOff (ts (ts T 2 i 2 (nI 0)) 2 i 10 (T 2 i 10 + 1)) i 12, nm, ni, nv, pos_nI (j := 0) (by decide), StpO.of (er_n (j := 0) (by decide)) Ia (fun h C => ?_) (fun h R H => ?_)⟩
      · obtain ⟨g, g1, g2, g3, g4⟩ := cc h C
        have C1 := g2.slot hn.2.1 hi (k := 2) (j := 2) (Or.inl ⟨rfl, rfl⟩) (nI 0)
        have C2 := C1.slot hn.2.1 hi (k := 5) (j := 10) (Or.inr (Or.inr (Or.inr ⟨rfl, rfl⟩))) (T 2 i 10 + 1)
        have C3 := C2.off (h' := hfill (hset (hset g (1 + 10 + 5 * i) 2 (nI 0)) (1 + 10 + 5 * i) 5 (T 2 i 10 + 1)) (1 + 10 + 5 * i + 2) 12 (-6)) hn.2.1 hi (fun a q => hf_of _ _ (by omega)) (fun m hm => by
          rw [show 13 + 5 * i = 1 + 10 + 5 * i + 2 by omega]
          exact hf_in _ _ hm)
        refine ⟨_, ?_, fun a a0 a1 a2 a3 => ?_, C3⟩
        · rw [g4, if_neg d]
          unfold f_I_putOff
          rw [kLet_s, hs_ne _ _ (by omega), (g2.f i hi).2.2.2.2.2.1, kLet_s, kLet_s, kBi_s, hf_o _ _ (by omega), hs_ne _ _ (by omega), hs_eq]
          rfl
        · rw [hf_of _ _ (by omega), hs_of _ _ (by omega), hs_of _ _ (by omega)]
          exact g1 a a1 a2 a3
      · obtain ⟨r, r1, r2⟩ := M_itemIn R I 1
        obtain rfl := r2.one F
        have Rr := recd_row R
        obtain ⟨g, g1, g2, g3⟩ := M_isQuorum Rr I hi2
        have Rw := g2.row Rr
        have R1 := (Rw.set2 (i := i) (j := 2) (by omega) (by decide) (nI 0)).set2 (i := i) (j := 10) (by omega) (by decide) (T 2 i 10 + 1)
        have R2 : Row (hset (hset g 787 (100 + 12 * i + 2) (nI 0)) 787 (100 + 12 * i + 10) (T 2 i 10 + 1) 787) (tOff (ts (ts T 2 i 2 (nI 0)) 2 i 10 (T 2 i 10 + 1)) i 0) nv := by
          have e : tOff (ts (ts T 2 i 2 (nI 0)) 2 i 10 (T 2 i 10 + 1)) i 0 = ts (ts T 2 i 2 (nI 0)) 2 i 10 (T 2 i 10 + 1) := by
            funext a b c
            exact if_neg (by omega)
          rw [e, hs_ru, hs_ru]
          exact R1
        obtain ⟨h', y1, y2, y3⟩ := M_cl_off hi2 12 0 kFuel _ rfl (kF_lt (by omega)) R2
        have e10 : hset g 787 (100 + 12 * i + 2) (nI 0) 787 (100 + 12 * i + 10) = T 2 i 10 := by
          rw [hs_ne _ _ (by omega)]
          exact row_2 Rw hi2 (by decide)
        refine ⟨h', ?_, fun a a0 a1 a2 a3 => ?_, y3⟩
        · unfold f_M_close
          rw [r1, kBi_s, if_pos (nI_pos' (by omega)), M_record H, kBi_s, g1, kBd_s, if_neg d, show (2 : Int32) = nI 2 from rfl, e2, show (10 : Int32) = nI 10 from rfl, e2, kG_nI (by omega) (by decide), kx_nI (by omega), show (0 : Int32) = nI 0 from rfl, kLet_s, kG_nI (by omega) (by decide), kG_nI (by omega) (by decide), kx_nI (by omega), e10, kLet_s, y1]
          rfl
        · rw [y2 a a0, hs_of _ _ a0, hs_of _ _ a0, g2 a a1 a2 a3]
  · refine Or.inl ⟨-5, StpE.same er_5 (fun h C => ?_) (fun h R => ?_)⟩
    · obtain ⟨r, r1, r2⟩ := C_firstIn C I 1
      unfold f_C_closeItem
      rw [r1, kBi_s]
      rcases r2.no with q | ⟨i, hi, rfl⟩
      · rw [if_pos q]
      · exact absurd ⟨i, hi, r2⟩ z
    · obtain ⟨r, r1, r2⟩ := M_itemIn R I 1
      unfold f_M_close
      rw [r1, kBi_s]
      rcases r2.no with q | ⟨i, hi, rfl⟩
      · rw [q, if_neg (by decide)]
      · exact absurd ⟨i, hi, r2⟩ z
theorem tw_close : Tw (fun h => f_C_closeItem h 1 141) (fun h => f_M_close h) := (twv_close).tw
