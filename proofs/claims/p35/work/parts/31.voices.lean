/-! PURE: holders named, choices told, votes given, recusals by hand. -/
section
variable {T : kT} {nm ni nv i m : Nat}
theorem Iv.pair3 (I : Iv T nm ni nv) (hi : i < ni) {v : Int32} (hv : no v nm) : Iv (ts T 3 i m v) nm ni nv := by
  refine I.of3 (fun a a1 _ _ => ts_o T v a1) (fun i' h' m' hm' => ?_)
  obtain ⟨b1, b2, b3, b4⟩ := I.i2 h' m' hm'
  rw [ts_o T v (show 4 ≠ 3 by decide), ts_o T v (show 5 ≠ 3 by decide)]
  by_cases q : i' = i ∧ m' = m
  · rw [q.1, q.2, ts_eq]
    rw [q.1, q.2] at b2 b3
    exact ⟨hv, b2, b3, fun z => by omega⟩
  · rw [ts_ne _ _ (by omega)]
    exact ⟨b1, b2, b3, b4⟩
theorem Iv.pair4 (I : Iv T nm ni nv) (hi : i < ni) {v : Int32} (hv : no v 3) : Iv (ts T 4 i m v) nm ni nv := by
  refine I.of3 (fun a _ a1 _ => ts_o T v a1) (fun i' h' m' hm' => ?_)
  obtain ⟨b1, b2, b3, b4⟩ := I.i2 h' m' hm'
  rw [ts_o T v (show 3 ≠ 4 by decide), ts_o T v (show 5 ≠ 4 by decide)]
  by_cases q : i' = i ∧ m' = m
  · rw [q.1, q.2, ts_eq]
    rw [q.1, q.2] at b1 b3
    exact ⟨b1, hv, b3, fun z => by omega⟩
  · rw [ts_ne _ _ (by omega)]
    exact ⟨b1, b2, b3, b4⟩
theorem Iv.pair5 (I : Iv T nm ni nv) (hi : i < ni) {v : Int32} (hv : no v 3) : Iv (ts T 5 i m v) nm ni nv := by
  refine I.of3 (fun a _ _ a1 => ts_o T v a1) (fun i' h' m' hm' => ?_)
  obtain ⟨b1, b2, b3, b4⟩ := I.i2 h' m' hm'
  rw [ts_o T v (show 3 ≠ 5 by decide), ts_o T v (show 4 ≠ 5 by decide)]
  by_cases q : i' = i ∧ m' = m
  · rw [q.1, q.2, ts_eq]
    rw [q.1, q.2] at b1 b2
    exact ⟨b1, b2, hv, fun z => by omega⟩
  · rw [ts_ne _ _ (by omega)]
    exact ⟨b1, b2, b3, b4⟩
theorem Iv.holder (I : Iv T nm ni nv) (hm : m < nm) {v : Int32} (hv : no v nm) : Iv (ts T 1 m 3 v) nm ni nv := by
  refine I.of1 (fun a q => ts_o T _ q) (fun j hj => ?_)
  obtain ⟨b1, b2, b3, b4, b5⟩ := I.m hj
  unfold iM
  rw [ts_o T _ (show 2 ≠ 1 by decide), ts_ne T (b' := j) (c' := 2) _ (by omega), ts_ne T (b' := j) (c' := 0) _ (by omega), ts_ne T (b' := j) (c' := 1) _ (by omega), ts_ne T (b' := j) (c' := 4) _ (by omega)]
  by_cases z : j = m
  · rw [z, ts_eq]
    rw [z] at b1 b4 b5
    exact ⟨b1, hv, fun y => by omega, b4, b5⟩
  · rw [ts_ne _ _ (by omega)]
    exact ⟨b1, b2, b3, b4, b5⟩
variable {h : kH} {c : Nat}
theorem Com.pair3 (C : Com h c T nm ni nv) (hn : ni ≤ 12) (hi : i < ni) (v : Int32) : Com (hset h (c + 10 + 5 * i + 4) m v) c (ts T 3 i m v) nm ni nv := by
  refine C.item hn hi ?_ (fun a a1 a2 a3 => hs_of _ _ (by omega)) (ts_o _ _ (by decide)) (fun j => ⟨rfl, rfl, rfl, rfl⟩) (ts_o _ _ (by decide)) (fun i' j q => ⟨rfl, ts_ne _ _ (by omega), rfl, rfl⟩)
  obtain ⟨a1, a2, a3, a4, a5, a6, a7, a8⟩ := C.f i hi
  unfold cI
  rw [hs_of h v (show c + 10 + 5 * i ≠ c + 10 + 5 * i + 4 by omega), hs_of h v (show c + 10 + 5 * i + 1 ≠ c + 10 + 5 * i + 4 by omega), hs_of h v (show c + 10 + 5 * i + 2 ≠ c + 10 + 5 * i + 4 by omega), hs_of h v (show c + 10 + 5 * i + 3 ≠ c + 10 + 5 * i + 4 by omega), ts_o T v (show 2 ≠ 3 by decide), ts_o T v (show 4 ≠ 3 by decide), ts_o T v (show 5 ≠ 3 by decide)]
  refine ⟨a1, a2, a3, a4, a5, a6, a7, fun j hj => ⟨(a8 j hj).1, (a8 j hj).2.1, ?_⟩⟩
  by_cases q : j = m
  · rw [q, hs_eq, ts_eq]
  · rw [hs_ne _ _ (by omega), ts_ne _ _ (by omega)]
    exact (a8 j hj).2.2
theorem Com.pair4 (C : Com h c T nm ni nv) (hn : ni ≤ 12) (hi : i < ni) (v : Int32) : Com (hset h (c + 10 + 5 * i + 2) m v) c (ts T 4 i m v) nm ni nv := by
  refine C.item hn hi ?_ (fun a a1 a2 a3 => hs_of _ _ (by omega)) (ts_o _ _ (by decide)) (fun j => ⟨rfl, rfl, rfl, rfl⟩) (ts_o _ _ (by decide)) (fun i' j q => ⟨rfl, rfl, ts_ne _ _ (by omega), rfl⟩)
  obtain ⟨a1, a2, a3, a4, a5, a6, a7, a8⟩ := C.f i hi
  unfold cI
  rw [hs_of h v (show c + 10 + 5 * i ≠ c + 10 + 5 * i + 2 by omega), hs_of h v (show c + 10 + 5 * i + 1 ≠ c + 10 + 5 * i + 2 by omega), hs_of h v (show c + 10 + 5 * i + 3 ≠ c + 10 + 5 * i + 2 by omega), hs_of h v (show c + 10 + 5 * i + 4 ≠ c + 10 + 5 * i + 2 by omega), ts_o T v (show 2 ≠ 4 by decide), ts_o T v (show 3 ≠ 4 by decide), ts_o T v (show 5 ≠ 4 by decide)]
  refine ⟨a1, a2, a3, a4, a5, a6, a7, fun j hj => ⟨?_, (a8 j hj).2.1, (a8 j hj).2.2⟩⟩
  by_cases q : j = m
  · rw [q, hs_eq, ts_eq]
  · rw [hs_ne _ _ (by omega), ts_ne _ _ (by omega)]
    exact (a8 j hj).1
theorem Com.pair5 (C : Com h c T nm ni nv) (hn : ni ≤ 12) (hi : i < ni) (v : Int32) : Com (hset h (c + 10 + 5 * i + 3) m v) c (ts T 5 i m v) nm ni nv := by
  refine C.item hn hi ?_ (fun a a1 a2 a3 => hs_of _ _ (by omega)) (ts_o _ _ (by decide)) (fun j => ⟨rfl, rfl, rfl, rfl⟩) (ts_o _ _ (by decide)) (fun i' j q => ⟨rfl, rfl, rfl, ts_ne _ _ (by omega)⟩)
  obtain ⟨a1, a2, a3, a4, a5, a6, a7, a8⟩ := C.f i hi
  unfold cI
  rw [hs_of h v (show c + 10 + 5 * i ≠ c + 10 + 5 * i + 3 by omega), hs_of h v (show c + 10 + 5 * i + 1 ≠ c + 10 + 5 * i + 3 by omega), hs_of h v (show c + 10 + 5 * i + 2 ≠ c + 10 + 5 * i + 3 by omega), hs_of h v (show c + 10 + 5 * i + 4 ≠ c + 10 + 5 * i + 3 by omega), ts_o T v (show 2 ≠ 5 by decide), ts_o T v (show 3 ≠ 5 by decide), ts_o T v (show 4 ≠ 5 by decide)]
  refine ⟨a1, a2, a3, a4, a5, a6, a7, fun j hj => ⟨(a8 j hj).1, ?_, (a8 j hj).2.2⟩⟩
  by_cases q : j = m
  · rw [q, hs_eq, ts_eq]
  · rw [hs_ne _ _ (by omega), ts_ne _ _ (by omega)]
    exact (a8 j hj).2.1
theorem Com.holder (C : Com h c T nm ni nv) (v : Int32) : Com (hset h (c + 4) m v) c (ts T 1 m 3 v) nm ni nv := by
  have o : ∀ a, a ≠ c + 4 → hset h (c + 4) m v a = h a := fun a q => hs_of h v q
  have p : ps (ts T 1 m 3 v) = ps T := by
    funext j
    unfold ps
    rw [ts_ne _ _ (by omega)]
  refine Com.of ?_ (C.b.cong (o _ (by omega)) fun k _ => rfl) (fun j hj => ?_) (C.f.cong (fun i d _ _ => o _ (by omega)) (ts_o T v (by decide)) (ts_o T v (by decide)) (ts_o T v (by decide)) (ts_o T v (by decide))) (C.g.cong (o _ (by omega)) (o _ (by omega)) (o _ (by omega)) (ts_o T v (by decide)))
  · unfold cA
    rw [o c (by omega), o (c + 6) (by omega), p]
    exact C.a
  · obtain ⟨a1, a2, a3⟩ := C.d j hj
    rw [o (c + 2) (by omega), o (c + 3) (by omega), ts_ne _ _ (by omega), ts_ne _ _ (by omega)]
    refine ⟨a1, a2, ?_⟩
    by_cases q : j = m
    · rw [q, hs_eq, ts_eq]
    · rw [hs_ne _ _ (by omega), ts_ne _ _ (by omega)]
      exact a3
end
