/-! PURE: what the class answers when it is asked. -/
section
variable {h : kH} {T : kT} {nm ni nv : Nat}
theorem q_of0 (S : St h T nm ni nv) {m : Nat} (hm : m < nm) : f_P_ofMember h (nI m) 0 = some (T 1 m 0) := by
  obtain ⟨I, C, _⟩ := S
  have hn := I.n
  unfold f_P_ofMember
  rw [C_hasMember_ok C I hm, if_pos rfl, if_pos rfl, kG_nI (by omega) (by decide), kx_nI (by omega), show h 3 m = T 1 m 0 from (C.d m hm).1]
theorem q_of1 (S : St h T nm ni nv) {m : Nat} (hm : m < nm) : f_P_ofMember h (nI m) 1 = some (T 1 m 1) := by
  obtain ⟨I, C, _⟩ := S
  have hn := I.n
  unfold f_P_ofMember
  rw [C_hasMember_ok C I hm, if_pos rfl, if_neg (by decide), if_pos rfl, kG_nI (by omega) (by decide), kx_nI (by omega), show h 4 m = T 1 m 1 from (C.d m hm).2.1]
theorem q_of2 (S : St h T nm ni nv) {m : Nat} (hm : m < nm) : f_P_ofMember h (nI m) 2 = some (if ps T m = true then 1 else 0) := by
  obtain ⟨I, C, _⟩ := S
  have hn := I.n
  unfold f_P_ofMember
  rw [C_hasMember_ok C I hm, if_pos rfl, if_neg (by decide), if_neg (by decide), if_pos rfl, C_isPresent C I hm]
  cases ps T m <;> rfl
theorem q_of3 (S : St h T nm ni nv) {m : Nat} (hm : m < nm) : f_P_ofMember h (nI m) 3 = some (T 1 m 3) := by
  obtain ⟨I, C, _⟩ := S
  have hn := I.n
  unfold f_P_ofMember
  rw [C_hasMember_ok C I hm, if_pos rfl, if_neg (by decide), if_neg (by decide), if_neg (by decide), if_pos rfl, kG_nI (by omega) (by decide), kx_nI (by omega), show h 5 m = T 1 m 3 from (C.d m hm).2.2]
theorem q_of4 (S : St h T nm ni nv) {m : Nat} (hm : m < nm) : f_P_ofMember h (nI m) 4 = some (nI (fb_ct (fun i => !decide (T 4 i m = -6)) ni)) := by
  obtain ⟨I, C, _⟩ := S
  unfold f_P_ofMember
  rw [C_hasMember_ok C I hm, if_pos rfl, if_neg (by decide), if_neg (by decide), if_neg (by decide), if_neg (by decide), if_pos rfl, C_votesOf C I hm, kBi_s]
theorem q_of5 (S : St h T nm ni nv) {m : Nat} (hm : m < nm) : f_P_ofMember h (nI m) 5 = some (T 1 m 4) := by
  obtain ⟨I, C, _⟩ := S
  unfold f_P_ofMember
  rw [C_hasMember_ok C I hm, if_pos rfl, if_neg (by decide), if_neg (by decide), if_neg (by decide), if_neg (by decide), if_neg (by decide), if_pos rfl, C_tiesBrokenBy C I hm, kBi_s]
theorem q_c0 (S : St h T nm ni nv) : f_P_count h 0 = some (T 0 6 0) := congrArg some S.2.1.1.1
theorem q_c1 (S : St h T nm ni nv) : f_P_count h 1 = some (nI nm) := congrArg some (S.2.1.1.2.1.trans S.1.c.1)
theorem q_c2 (S : St h T nm ni nv) : f_P_count h 2 = some (nI ni) := congrArg some (S.2.1.1.2.2.1.trans S.1.c.2.1)
theorem q_c3 (S : St h T nm ni nv) : f_P_count h 3 = some (nI (msk (ps T) nm)) := congrArg some S.2.1.1.2.2.2.1
theorem q_c4 (S : St h T nm ni nv) : ∃ r, f_P_count h 4 = some r ∧ Fst (fun i => decide (T 2 i 2 = 1)) ni r := by
  obtain ⟨r, r1, r2⟩ := C_firstIn S.2.1 S.1 1
  refine ⟨r, ?_, r2⟩
  show (kBi (f_C_firstIn h 1 1) fun v2 => some v2) = _
  rw [r1, kBi_s]
theorem q_c5 (S : St h T nm ni nv) : f_P_count h 5 = some (T 0 9 0) := congrArg some S.2.1.1.2.2.2.2.1
theorem q_c6 (S : St h T nm ni nv) : ∃ r, f_P_count h 6 = some r ∧ ChairIs T nm r := by
  obtain ⟨r, r1, r2⟩ := C_chair S.2.1 S.1
  refine ⟨r, ?_, r2⟩
  show (kBi (f_C_chairOfTheMoment h 1) fun v2 => some v2) = _
  rw [r1, kBi_s]
theorem q_c7 (S : St h T nm ni nv) : f_P_count h 7 = some (sAll T nm) := by
  show (kBi (f_C_weightOfAll h 1) fun v2 => some v2) = _
  rw [C_weightOfAll S.2.1 S.1, kBi_s]
  rfl
theorem q_items (S : St h T nm ni nv) {k : Nat} (hk : k ≤ 4) : f_P_count h (nI (8 + k)) = some (nI (fb_ct (fun i => decide (T 2 i 2 = nI k)) ni)) := by
  have e : f_P_count h (nI (8 + k)) = kBi (f_C_itemsIn h 1 (nI k)) fun v5 => some v5 := by
    have : k = 0 ∨ k = 1 ∨ k = 2 ∨ k = 3 ∨ k = 4 := by omega
    rcases this with rfl | rfl | rfl | rfl | rfl <;> rfl
  rw [e, C_itemsIn S.2.1 S.1, kBi_s]
theorem q_c13 (S : St h T nm ni nv) : f_P_count h 13 = some (nI nv) := congrArg some (S.2.1.1.2.2.2.2.2.trans S.1.c.2.2)
theorem q_set (S : St h T nm ni nv) {k : Nat} (hk : k < 6) : f_P_count h (nI (16 + k)) = some (T 0 k 0) := by
  have e : f_P_count h (nI (16 + k)) = some (h 2 k) := by
    have : k = 0 ∨ k = 1 ∨ k = 2 ∨ k = 3 ∨ k = 4 ∨ k = 5 := by omega
    rcases this with rfl | rfl | rfl | rfl | rfl | rfl <;> rfl
  rw [e]
  exact congrArg some (S.2.1.2.1 k hk)
theorem q_c16 (S : St h T nm ni nv) : f_P_count h 16 = some (T 0 0 0) := q_set S (k := 0) (by decide)
theorem q_c17 (S : St h T nm ni nv) : f_P_count h 17 = some (T 0 1 0) := q_set S (k := 1) (by decide)
theorem q_c18 (S : St h T nm ni nv) : f_P_count h 18 = some (T 0 2 0) := q_set S (k := 2) (by decide)
theorem q_c19 (S : St h T nm ni nv) : f_P_count h 19 = some (T 0 3 0) := q_set S (k := 3) (by decide)
theorem q_c20 (S : St h T nm ni nv) : f_P_count h 20 = some (T 0 4 0) := q_set S (k := 4) (by decide)
theorem q_c21 (S : St h T nm ni nv) : f_P_count h 21 = some (T 0 5 0) := q_set S (k := 5) (by decide)
/-- the answer of at() -/
def aAt (T : kT) (i nm m k : Nat) : Int32 := match k with
  | 0 => sV T i nm m
  | 1 => T 4 i m
  | 2 => T 5 i m
  | 3 => sWay T i nm m
  | 4 => T 3 i m
  | 5 => if sRec T i m = true then 1 else 0
  | _ => nI (msk (fun m' => !ps T m' && decide (sV T i nm m' = nI m)) nm)
theorem q_at (S : St h T nm ni nv) {i m k : Nat} (hi : i < ni) (hm : m < nm) (hk : k ≤ 6) : ∃ g, f_P_at h (nI m) (nI i) (nI k) = some (aAt T i nm m k, g) ∧ CFe h g := by
  obtain ⟨I, C, _⟩ := S
  have hn := I.n
  have hi2 : i < 12 := by omega
  have hm2 : m < 12 := by omega
  obtain ⟨g1, l1, l2, l3⟩ := C_listen (s := 141) C I hi (Or.inr (by decide))
  have C1 : Com g1 1 T nm ni nv := C.cong hn.2.1 fun b b1 b2 => l2 b (by omega) (by omega)
  have o : CFe h g1 := fun b b1 b2 b3 => l2 b (by omega) (by omega)
  obtain ⟨_, _, _, _, _, _, _, q0⟩ := C1.f i hi
  obtain ⟨q1, q2, q3⟩ := q0 m hm2
  have sp' : f_H_spokenForBy g1 141 1 (nI m) = some (nI (msk (fun m' => !ps T m' && decide (sV T i nm m' = nI m)) nm)) := C_spoken C1 I l3 nm 0 kFuel (by omega) (kF_lt (by omega))
  refine ⟨g1, ?_, o⟩
  unfold f_P_at
  rw [C_hasMember_ok C I hm, if_pos rfl, C_hasItem_ok C I hi, if_pos rfl, kG_nI hi2 (by decide), kx_nI (by omega), l1, kBi_s, kG_nI hm2 (by decide), kG_nI hm2 (by decide), kG_nI hm2 (by decide), kG_nI hm2 (by decide), kx_nI (by omega), show g1 142 m = sV T i nm m from l3.1 m hm2, q1, q2, q3, C_wayOf C1 I hi hm l3, kBi_s, C_isRecused C1 I hi hm, kBi_s, sp', kBi_s]
  have : k = 0 ∨ k = 1 ∨ k = 2 ∨ k = 3 ∨ k = 4 ∨ k = 5 ∨ k = 6 := by omega
  rcases this with rfl | rfl | rfl | rfl | rfl | rfl | rfl
  · rfl
  · rfl
  · rfl
  · rfl
  · rfl
  · show (if sRec T i m = true then some (1, g1) else some (0, g1)) = some ((if sRec T i m = true then 1 else 0), g1)
    split <;> rfl
  · rfl
theorem q_at0 (S : St h T nm ni nv) {i m : Nat} (hi : i < ni) (hm : m < nm) : ∃ g, f_P_at h (nI m) (nI i) 0 = some (sV T i nm m, g) ∧ CFe h g := q_at S hi hm (k := 0) (by decide)
theorem q_at1 (S : St h T nm ni nv) {i m : Nat} (hi : i < ni) (hm : m < nm) : ∃ g, f_P_at h (nI m) (nI i) 1 = some (T 4 i m, g) ∧ CFe h g := q_at S hi hm (k := 1) (by decide)
theorem q_at2 (S : St h T nm ni nv) {i m : Nat} (hi : i < ni) (hm : m < nm) : ∃ g, f_P_at h (nI m) (nI i) 2 = some (T 5 i m, g) ∧ CFe h g := q_at S hi hm (k := 2) (by decide)
theorem q_at3 (S : St h T nm ni nv) {i m : Nat} (hi : i < ni) (hm : m < nm) : ∃ g, f_P_at h (nI m) (nI i) 3 = some (sWay T i nm m, g) ∧ CFe h g := q_at S hi hm (k := 3) (by decide)
theorem q_at4 (S : St h T nm ni nv) {i m : Nat} (hi : i < ni) (hm : m < nm) : ∃ g, f_P_at h (nI m) (nI i) 4 = some (T 3 i m, g) ∧ CFe h g := q_at S hi hm (k := 4) (by decide)
theorem q_at5 (S : St h T nm ni nv) {i m : Nat} (hi : i < ni) (hm : m < nm) : ∃ g, f_P_at h (nI m) (nI i) 5 = some ((if sRec T i m = true then 1 else 0), g) ∧ CFe h g := q_at S hi hm (k := 5) (by decide)
theorem q_at6 (S : St h T nm ni nv) {i m : Nat} (hi : i < ni) (hm : m < nm) : ∃ g, f_P_at h (nI m) (nI i) 6 = some (nI (msk (fun m' => !ps T m' && decide (sV T i nm m' = nI m)) nm), g) ∧ CFe h g := q_at S hi hm (k := 6) (by decide)
theorem q_it (S : St h T nm ni nv) {i j : Nat} (hi : i < ni) (hj : j = 0 ∨ j = 1 ∨ j = 2 ∨ j = 9 ∨ j = 10) : f_P_ofItem h (nI i) (nI j) = some (T 2 i j, h) := by
  obtain ⟨I, C, _⟩ := S
  have hn := I.n
  have hi2 : i < 12 := by omega
  obtain ⟨q0, q1, q2, q3, q4, q5, q6, _⟩ := C.f i hi
  unfold f_P_ofItem
  rw [C_hasItem_ok C I hi, if_pos rfl, kG_nI hi2 (by decide), kx_nI (by omega), q0, q1, q2, q4, q5]
  rcases hj with rfl | rfl | rfl | rfl | rfl <;> rfl
theorem q_it0 (S : St h T nm ni nv) {i : Nat} (hi : i < ni) : f_P_ofItem h (nI i) 0 = some (T 2 i 0, h) := q_it S hi (j := 0) (by decide)
theorem q_it1 (S : St h T nm ni nv) {i : Nat} (hi : i < ni) : f_P_ofItem h (nI i) 1 = some (T 2 i 1, h) := q_it S hi (j := 1) (by decide)
theorem q_it2 (S : St h T nm ni nv) {i : Nat} (hi : i < ni) : f_P_ofItem h (nI i) 2 = some (T 2 i 2, h) := q_it S hi (j := 2) (by decide)
theorem q_it9 (S : St h T nm ni nv) {i : Nat} (hi : i < ni) : f_P_ofItem h (nI i) 9 = some (T 2 i 9, h) := q_it S hi (j := 9) (by decide)
theorem q_it10 (S : St h T nm ni nv) {i : Nat} (hi : i < ni) : f_P_ofItem h (nI i) 10 = some (T 2 i 10, h) := q_it S hi (j := 10) (by decide)
theorem q_it11 (S : St h T nm ni nv) {i : Nat} (hi : i < ni) : ∃ g, f_P_ofItem h (nI i) 11 = some (kB2 (sQuo T nm (sThr T i nm nm)), g) ∧ CFe h g := by
  obtain ⟨I, C, _⟩ := S
  have hn := I.n
  have hi2 : i < 12 := by omega
  obtain ⟨g1, l1, l2, l3⟩ := C_listen (s := 141) C I hi (Or.inr (by decide))
  have C1 : Com g1 1 T nm ni nv := C.cong hn.2.1 fun b b1 b2 => l2 b (by omega) (by omega)
  have o : CFe h g1 := fun b b1 b2 b3 => l2 b (by omega) (by omega)
  refine ⟨g1, ?_, o⟩
  have e : f_P_ofItem h (nI i) 11 = kBi (f_H_listen h 141 1 (1 + 10 + 5 * i)) fun h15 => kBi (f_H_weightThere h15 141 1) fun v16 => kBi (f_C_isQuorum h15 1 v16) fun v17 => if v17 = true then (some (1, h15)) else (some (0, h15)) := by
    unfold f_P_ofItem
    rw [C_hasItem_ok C I hi, if_pos rfl, kG_nI hi2 (by decide), kx_nI (by omega)]
    rfl
  rw [e, l1, kBi_s, C_weightThere C1 I hi l3, kBi_s, C_isQuorum C1 I, kBi_s]
  cases sQuo T nm (sThr T i nm nm) <;> rfl
theorem q_sum (S : St h T nm ni nv) {i k : Nat} (hi : i < ni) (hk : k < 6) : ∃ g, f_P_ofItem h (nI i) (nI (3 + k)) = some ((if sAhead T i = true then sTal T i nm nm k else T 2 i (3 + k)), g) ∧ CFe h g := by
  obtain ⟨I, C, _⟩ := S
  have hn := I.n
  have hi2 : i < 12 := by omega
  have e : f_P_ofItem h (nI i) (nI (3 + k)) = kBd (f_P_sumOf h (1 + 10 + 5 * i) (nI k)) fun v19 h18 => some (v19, h18) := by
    unfold f_P_ofItem
    rw [C_hasItem_ok C I hi, if_pos rfl, kG_nI hi2 (by decide), kx_nI (by omega)]
    have : k = 0 ∨ k = 1 ∨ k = 2 ∨ k = 3 ∨ k = 4 ∨ k = 5 := by omega
    rcases this with rfl | rfl | rfl | rfl | rfl | rfl <;> rfl
  rw [e]
  by_cases a : sAhead T i = true
  · obtain ⟨g1, l1, l2, l3⟩ := C_listen (s := 141) C I hi (Or.inr (by decide))
    have C1 : Com g1 1 T nm ni nv := C.cong hn.2.1 fun b b1 b2 => l2 b (by omega) (by omega)
    obtain ⟨g2, t1, t2, t3⟩ := C_tally (s := 141) C1 I hi (Or.inr (by decide)) l3
    refine ⟨g2, ?_, fun b b1 b2 b3 => (t2 b (by omega)).trans (l2 b (by omega) (by omega))⟩
    unfold f_P_sumOf
    rw [C_isPending C hi, if_pos a, if_pos a, l1, kBi_s, t1, kBi_s, kG_nI hk (by decide), kx_nI (by omega), show g2 144 k = sTal T i nm nm k from t3 k hk, kBd_s]
  · refine ⟨h, ?_, CFe.rfl'⟩
    unfold f_P_sumOf
    rw [C_isPending C hi, if_neg a, if_neg a, kG_nI hk (by decide), kx_nI (by omega), (C.f i hi).2.2.2.2.2.2.1 k hk, kBd_s]
theorem q_would (S : St h T nm ni nv) {i : Nat} (hi : i < ni) : ∃ g, f_P_wouldBe h (nI i) = some ((if sAhead T i = true then sBec T i nm else -5), g) ∧ CFe h g := by
  obtain ⟨I, C, _⟩ := S
  have hn := I.n
  have hi2 : i < 12 := by omega
  by_cases a : sAhead T i = true
  · obtain ⟨g1, l1, l2, l3⟩ := C_listen (s := 141) C I hi (Or.inr (by decide))
    have C1 : Com g1 1 T nm ni nv := C.cong hn.2.1 fun b b1 b2 => l2 b (by omega) (by omega)
    obtain ⟨g2, t1, t2, t3⟩ := C_tally (s := 141) C1 I hi (Or.inr (by decide)) l3
    have C2 : Com g2 1 T nm ni nv := C1.cong hn.2.1 fun b b1 b2 => t2 b (by omega)
    refine ⟨g2, ?_, fun b b1 b2 b3 => (t2 b (by omega)).trans (l2 b (by omega) (by omega))⟩
    unfold f_P_wouldBe
    rw [C_hasItem_ok C I hi, if_pos rfl, kG_nI hi2 (by decide), kx_nI (by omega), C_isPending C hi, if_pos a, if_pos a, l1, kBi_s, t1, kBi_s, C_outcome (s := 141) C2 hi, kBi_s, t3 1 (by decide), t3 2 (by decide), t3 0 (by decide), Int32.add_zero]
  · refine ⟨h, ?_, CFe.rfl'⟩
    unfold f_P_wouldBe
    rw [C_hasItem_ok C I hi, if_pos rfl, kG_nI hi2 (by decide), kx_nI (by omega), C_isPending C hi, if_neg a, if_neg a]
end
