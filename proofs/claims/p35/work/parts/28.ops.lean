/-! PURE: the changes that both sides carry out: set, chair, come, go, member, item. -/
theorem le_lit {x : Int32} {b : Nat} (hb : b < 2 ^ 31) (h1 : ¬ x < 0) (h2 : x ≤ nI b) : ∃ j, j ≤ b ∧ x = nI j := by
  obtain ⟨j, _, q, e⟩ := lit (a := 0) (by decide) hb h1 (nlt_le.mpr h2)
  exact ⟨j, q, e⟩
/-- the highest value of a setting -/
def sHi (k : Nat) : Nat := match k with
  | 0 => 100
  | 1 => 100
  | 2 => 600
  | 3 => 6
  | _ => 1
theorem kHigh_n (k : Nat) : kHigh k = nI (sHi k) := by
  unfold kHigh sHi
  split <;> simp_all <;> rfl
theorem Com.setting {h : kH} {c : Nat} {T : kT} {nm ni nv k : Nat} (C : Com h c T nm ni nv) (hn : ni ≤ 12) (hk : k < 6) (v : Int32) : Com (hset h (c + 1) k v) c (ts T 0 k 0 v) nm ni nv := by
  have o : ∀ a, a ≠ c + 1 → hset h (c + 1) k v a = h a := fun a q => hs_of h v q
  refine Com.of ?_ (fun j hj => ?_) (C.d.cong (o _ (by omega)) (o _ (by omega)) (o _ (by omega)) fun m _ => ⟨rfl, rfl, rfl⟩) (C.f.cong (fun i d _ _ => o _ (by omega)) (ts_o T v (by decide)) (ts_o T v (by decide)) (ts_o T v (by decide)) (ts_o T v (by decide))) (C.g.cong (o _ (by omega)) (o _ (by omega)) (o _ (by omega)) (ts_o T v (by decide)))
  · obtain ⟨a1, a2, a3, a4, a5, a6⟩ := C.a
    unfold cA
    rw [o c (by omega), o (c + 6) (by omega), ps_cong (ts_o T v (by decide)), ts_ne _ _ (by omega), ts_ne _ _ (by omega), ts_ne _ _ (by omega), ts_ne _ _ (by omega), ts_ne _ _ (by omega)]
    exact ⟨a1, a2, a3, a4, a5, a6⟩
  · by_cases q : j = k
    · rw [q, hs_eq, ts_eq]
    · rw [hs_ne _ _ (by omega), ts_ne _ _ (by omega)]
      exact C.b j hj
theorem set_S {T : kT} {k j : Nat} (x : iS T) (hk : k < 6) (hj : j ≤ sHi k) : iS (ts T 0 k 0 (nI j)) := by
  obtain ⟨a, b, c, d, e, f⟩ := x
  have : k = 0 ∨ k = 1 ∨ k = 2 ∨ k = 3 ∨ k = 4 ∨ k = 5 := by omega
  rcases this with rfl | rfl | rfl | rfl | rfl | rfl
  · exact ⟨⟨j, hj, rfl⟩, b, c, d, e, f⟩
  · exact ⟨a, ⟨j, hj, rfl⟩, c, d, e, f⟩
  · exact ⟨a, b, ⟨j, hj, rfl⟩, d, e, f⟩
  · exact ⟨a, b, c, ⟨j, hj, rfl⟩, e, f⟩
  · have : j = 0 ∨ j = 1 := by have : j ≤ 1 := hj; omega
    exact ⟨a, b, c, d, this.imp (fun q => by rw [q]; rfl) (fun q => by rw [q]; rfl), f⟩
  · have : j = 0 ∨ j = 1 := by have : j ≤ 1 := hj; omega
    exact ⟨a, b, c, d, e, this.imp (fun q => by rw [q]; rfl) (fun q => by rw [q]; rfl)⟩
theorem set_old {T : kT} {k : Nat} (x : iS T) (hk : k < 6) : ∃ j, j < 601 ∧ T 0 k 0 = nI j := by
  obtain ⟨⟨a, a1, a2⟩, ⟨b, b1, b2⟩, ⟨c, c1, c2⟩, ⟨d, d1, d2⟩, e, f⟩ := x
  have : k = 0 ∨ k = 1 ∨ k = 2 ∨ k = 3 ∨ k = 4 ∨ k = 5 := by omega
  rcases this with rfl | rfl | rfl | rfl | rfl | rfl
  · exact ⟨a, by omega, a2⟩
  · exact ⟨b, by omega, b2⟩
  · exact ⟨c, by omega, c2⟩
  · exact ⟨d, by omega, d2⟩
  · exact e.elim (fun q => ⟨0, by decide, q⟩) (fun q => ⟨1, by decide, q⟩)
  · exact f.elim (fun q => ⟨0, by decide, q⟩) (fun q => ⟨1, by decide, q⟩)
theorem sHi_le (k : Nat) : sHi k ≤ 600 := by
  unfold sHi
  split <;> omega
theorem big6 {x : Int32} (h : (6 : Int32) ≤ x) : (2 : Int32) ≤ x ∧ ¬ x = 2 ∧ ¬ x = 3 ∧ (5 : Int32) < x := by
  rw [fa_le] at h
  have h6 : (6 : Int32).toInt = 6 := by decide
  have h5 : (5 : Int32).toInt = 5 := by decide
  have h2 : (2 : Int32).toInt = 2 := by decide
  have h3 : (3 : Int32).toInt = 3 := by decide
  refine ⟨by rw [fa_le]; omega, fun e => ?_, fun e => ?_, by rw [fa_lt]; omega⟩ <;> rw [e] at h <;> omega
theorem msk_ps (T : kT) (nm m : Nat) (v : Int32) (hm : m < nm) (h13 : nm ≤ 12) : msk (ps (ts T 1 m 2 v)) nm = if v = 1 then msk (ps T) nm ||| 2 ^ m else msk (ps T) nm &&& (4294967295 - 2 ^ m) := by
  have e : ∀ j, ps (ts T 1 m 2 v) j = if j = m then decide (v = 1) else ps T j := by
    intro j
    unfold ps
    by_cases q : j = m
    · rw [q, ts_eq, if_pos rfl]
    · rw [ts_ne _ _ (by omega), if_neg q]
  apply eq_of_bits
  intro j
  rw [msk_bit, e]
  by_cases z : v = 1
  · rw [if_pos z, tb_or, msk_bit]
    by_cases q : j = m
    · simp [q, hm, z]
    · simp [q]
  · rw [if_neg z, Nat.testBit_and, msk_bit]
    by_cases w : j < nm
    · rw [clr_tst m (by omega) j (by omega)]
      by_cases q : j = m
      · simp [q, z]
      · simp [q, w]
    · simp [w]
