/-! THE CELLS, when all objects are made, are mk of their numbers. -/
/-- the numbers of the class's cells, when all is made -/
def kCs : List Nat := [1, 71, 147, 217, 287, 357, 427, 497, 567, 646, 716]
def kSs : List Nat := [2, 72, 148, 218, 288, 358, 428, 498, 568, 647, 717]
def hz : kH := fun a k => if k = 4 ∧ a ∈ kCs then -6 else if k < 6 ∧ a ∈ kSs then kFirst k else 0
def mkA (h : kH) : Nat → List Nat → List kC
  | _, [] => []
  | b, κ :: ks => kCell h b κ :: mkA h (b + 1) ks
theorem mkA_get (h : kH) : ∀ (ks : List Nat) (b i : Nat), (mkA h b ks)[i]? = ks[i]?.map (fun κ => kCell h (b + i) κ)
  | [], b, i => by simp [mkA]
  | κ :: ks, b, 0 => by simp [mkA]
  | κ :: ks, b, i + 1 => by
    rw [mkA, List.getElem?_cons_succ, List.getElem?_cons_succ, mkA_get h ks (b + 1) i, show b + 1 + i = b + (i + 1) by omega]
theorem mkA_0 (h : kH) : mk [] h = mkA h 0 kKinds := by
  apply List.ext_getElem?
  intro i
  rw [mkA_get, Nat.zero_add]
  unfold mk
  rw [List.append_nil]
  rw [List.getElem?_mapIdx]
theorem mkA_app (h : kH) : ∀ (k1 : List Nat) (b : Nat) (k2 : List Nat), mkA h b (k1 ++ k2) = mkA h b k1 ++ mkA h (b + k1.length) k2
  | [], b, k2 => by simp [mkA]
  | κ :: k1, b, k2 => by
    rw [List.cons_append, mkA, mkA, mkA_app h k1 (b + 1) k2, List.cons_append, List.length_cons, show b + 1 + k1.length = b + (k1.length + 1) by omega]
theorem kz {κ tg n : Nat} (hs : kSh κ = (tg, List.replicate n 0)) {h : kH} {a : Nat} (h0 : ∀ k, h a k = 0) : kCell h a κ = (tg, List.replicate n (.int 0)) := by
  rw [kRepl hs]
  refine Prod.ext rfl ?_
  apply List.ext_getElem?
  intro k
  by_cases q : k < n <;> simp [List.getElem?_replicate, q, h0]
theorem refs_cell {κ tg n o s : Nat} (hs : kSh κ = (tg, (List.range n).map (fun j => o + s * j))) (ho : 0 < o) (h : kH) {a b : Nat} (hab : a + o = b) : kCell h a κ = (tg, mRefs b s n n) := by
  refine Prod.ext (by show (kSh κ).1 = tg; rw [hs]) ?_
  apply List.ext_getElem?
  intro k
  rw [kCell_get, hs]
  by_cases q : k < n
  · have e1 : ((List.range n).map (fun j => o + s * j))[k]? = some (o + s * k) := kRange_get q
    have e2 : (mRefs b s n n)[k]? = some (.ref (b + s * k)) := by
      unfold mRefs
      rw [kRange_get q, if_pos q]
    show (((List.range n).map (fun j => o + s * j))[k]?).map _ = _
    rw [e1, e2]
    simp only [Option.map_some]
    rw [if_neg (by omega), show a + (o + s * k) = b + s * k by omega]
  · have l1 : ((List.range n).map (fun j => o + s * j))[k]? = none := by simp; omega
    have l2 : (mRefs b s n n)[k]? = none := by simp [mRefs]; omega
    show (((List.range n).map (fun j => o + s * j))[k]?).map _ = _
    rw [l1, l2]
    rfl
theorem hz_0 {a : Nat} (q : a ∉ kCs) (p : a ∉ kSs) (k : Nat) : hz a k = 0 := by
  unfold hz
  rw [if_neg (fun w => q w.2), if_neg (fun w => p w.2)]
def Zc (c : Nat) : Prop := (∀ k, hz c k = if k = 4 then -6 else 0) ∧ (∀ k, k < 6 → hz (c + 1) k = kFirst k) ∧ ∀ d, 2 ≤ d → d < 70 → ∀ k, hz (c + d) k = 0
theorem Zc_all : ∀ c, c ∈ kCs → Zc c := by
  have t : ∀ c, c ∈ kCs → ∀ d, d < 70 → (c + d ∈ kCs ↔ d = 0) ∧ (c + d ∈ kSs ↔ d = 1) := by decide +kernel
  intro c hc
  refine ⟨fun k => ?_, fun k hk => ?_, fun d d1 d2 k => ?_⟩
  · have n : c ∉ kSs := fun w => by
      have := ((t c hc 0 (by decide)).2.mp w)
      omega
    unfold hz
    by_cases q : k = 4
    · rw [if_pos ⟨q, hc⟩, if_pos q]
    · rw [if_neg (fun w => q w.1), if_neg q, if_neg (fun w => n w.2)]
  · have n : c + 1 ∉ kCs := fun w => by
      have := ((t c hc 1 (by decide)).1.mp w)
      omega
    have m : c + 1 ∈ kSs := (t c hc 1 (by decide)).2.mpr rfl
    unfold hz
    rw [if_neg (fun w => n w.2), if_pos ⟨hk, m⟩]
  · exact hz_0 (fun w => by have := (t c hc d d2).1.mp w; omega) (fun w => by have := (t c hc d d2).2.mp w; omega) k
def kIt : Nat → List Nat
  | 0 => []
  | n + 1 => kIt n ++ [3, 8, 9, 9, 9]
theorem kIt_len : ∀ n, (kIt n).length = 5 * n
  | 0 => rfl
  | n + 1 => by
    rw [kIt, List.length_append, kIt_len n]
    show 5 * n + 5 = _
    omega
theorem item_cell {h : kH} {a : Nat} (h0 : ∀ k, h a k = 0) : kCell h a 3 = (3, [.int 0, .int 0, .int 0, .int 0, .int 0, .int 0, .ref (a + 1), .ref (a + 2), .ref (a + 3), .ref (a + 4)]) := by
  simp [kCell, kSh, h0]
theorem mk_items {h : kH} {b : Nat} : ∀ n, (∀ d, d < 5 * n → ∀ k, h (b + d) k = 0) → mkA h b (kIt n) = cItems b n
  | 0, _ => rfl
  | n + 1, z => by
    have z1 : ∀ d, d < 5 → ∀ k, h (b + 5 * n + d) k = 0 := fun d hd k => by
      rw [Nat.add_assoc]
      exact z (5 * n + d) (by omega) k
    rw [kIt, mkA_app, mk_items n fun d hd k => z d (by omega) k, kIt_len, cItems]
    congr 1
    show [kCell h (b + 5 * n) 3, kCell h (b + 5 * n + 1) 8, kCell h (b + 5 * n + 2) 9, kCell h (b + 5 * n + 3) 9, kCell h (b + 5 * n + 4) 9] = _
    rw [item_cell (a := b + 5 * n) (z1 0 (by decide)), kz (κ := 8) (tg := 10) (n := 6) rfl (z1 1 (by decide)), kz (κ := 9) (tg := 10) (n := 12) rfl (z1 2 (by decide)), kz (κ := 9) (tg := 10) (n := 12) rfl (z1 3 (by decide)), kz (κ := 9) (tg := 10) (n := 12) rfl (z1 4 (by decide))]
theorem mk_com {c : Nat} (Z : Zc c) : mkA hz c kKc = cCom c 12 := by
  obtain ⟨z1, z2, z3⟩ := Z
  have e : kKc = [0, 8, 9, 9, 9, 19, 4, 10, 10, 10] ++ kIt 12 := by decide +kernel
  rw [e, mkA_app, mk_items 12 fun d hd k => by
    show hz (c + 10 + d) k = 0
    rw [Nat.add_assoc]
    exact z3 (10 + d) (by omega) (by omega) k]
  show kCell hz c 0 :: kCell hz (c + 1) 8 :: kCell hz (c + 2) 9 :: kCell hz (c + 3) 9 :: kCell hz (c + 4) 9 :: kCell hz (c + 5) 19 :: kCell hz (c + 6) 4 :: kCell hz (c + 7) 10 :: kCell hz (c + 8) 10 :: kCell hz (c + 9) 10 :: cItems (c + 10) 12 = _
  have c0 : kCell hz c 0 = (0, [.int 0, .int 0, .int 0, .int 0, .int (-6), .ref (c + 1), .ref (c + 2), .ref (c + 3), .ref (c + 4), .ref (c + 5), .ref (c + 6)]) := by
    simp [kCell, kSh, z1]
  have c1 : kCell hz (c + 1) 8 = (10, kF6) := by
    simp [kCell, kSh, z2, kFirst, List.replicate]
  have c6 : kCell hz (c + 6) 4 = (4, [.int 0, .ref (c + 6 + 1), .ref (c + 6 + 2), .ref (c + 6 + 3)]) := by
    have := z3 6 (by decide) (by decide) 0
    simp [kCell, kSh, this]
  rw [c0, c1, kz (κ := 9) (tg := 10) (n := 12) rfl (z3 2 (by decide) (by decide)), kz (κ := 9) (tg := 10) (n := 12) rfl (z3 3 (by decide) (by decide)), kz (κ := 9) (tg := 10) (n := 12) rfl (z3 4 (by decide) (by decide)), refs_cell (κ := 19) (tg := 13) (n := 12) (o := 5) (s := 5) rfl (by decide) hz (show c + 5 + 5 = c + 10 by omega), c6, kz (κ := 10) (tg := 10) (n := 20) rfl (z3 7 (by decide) (by decide)), kz (κ := 10) (tg := 10) (n := 20) rfl (z3 8 (by decide) (by decide)), kz (κ := 10) (tg := 10) (n := 20) rfl (z3 9 (by decide) (by decide))]
  rfl
def kCm : Nat → List Nat
  | 0 => []
  | n + 1 => kCm n ++ kKc
theorem kCm_len : ∀ n, (kCm n).length = 70 * n
  | 0 => rfl
  | n + 1 => by
    have : kKc.length = 70 := by decide +kernel
    rw [kCm, List.length_append, kCm_len n, this]
    omega
theorem mk_coms {b : Nat} : ∀ n, (∀ j, j < n → Zc (b + 70 * j)) → mkA hz b (kCm n) = cComs b n
  | 0, _ => rfl
  | n + 1, z => by
    rw [kCm, mkA_app, mk_coms n fun j hj => z j (by omega), kCm_len, cComs, mk_com (z n (by omega))]
theorem kinds_eq : kKinds = 6 :: (kKc ++ (kKc ++ ([1, 9, 9, 8] ++ ([2, 20] ++ (kCm 7 ++ ([5, 17, 17, 11, 11] ++ ([21, 18, 9, 12] ++ kCm 2))))))) := by decide +kernel
theorem made : cP 0 2 = mk [] hz := by
  have lK : kKc.length = 70 := by decide +kernel
  have z : ∀ a, a ∉ kCs → a ∉ kSs → ∀ k, hz a k = 0 := fun a q p k => hz_0 q p k
  rw [mkA_0, kinds_eq, mkA, mkA_app, mkA_app, mkA_app, mkA_app, mkA_app, mkA_app, mkA_app, lK, kCm_len, mk_com (Zc_all _ (by decide)), mk_com (Zc_all _ (by decide)), mk_coms 7 (fun j hj => Zc_all _ (by
    have : j = 0 ∨ j = 1 ∨ j = 2 ∨ j = 3 ∨ j = 4 ∨ j = 5 ∨ j = 6 := by omega
    rcases this with rfl | rfl | rfl | rfl | rfl | rfl | rfl <;> decide)), mk_coms 2 (fun j hj => Zc_all _ (by
    have : j = 0 ∨ j = 1 := by omega
    rcases this with rfl | rfl <;> decide))]
  show _ = kCell hz 0 6 :: (cCom 1 12 ++ (cCom 71 12 ++ ([kCell hz 141 1, kCell hz 142 9, kCell hz 143 9, kCell hz 144 8] ++ ([kCell hz 145 2, kCell hz 146 20] ++ (cComs 147 7 ++ ([kCell hz 637 5, kCell hz 638 17, kCell hz 639 17, kCell hz 640 11, kCell hz 641 11] ++ ([kCell hz 642 21, kCell hz 643 18, kCell hz 644 9, kCell hz 645 12] ++ cComs 646 2)))))))
  have c0 : kCell hz 0 6 = (6, kPf 0) := by simp [kCell, kSh]
  have c141 : kCell hz 141 1 = (1, [.ref (141 + 1), .ref (141 + 2), .ref (141 + 3)]) := by simp [kCell, kSh]
  have c145 : kCell hz 145 2 = (2, [.ref (145 + 1), .int 0, .int 0]) := by simp [kCell, kSh, z 145 (by decide) (by decide)]
  have c637 : kCell hz 637 5 = (5, [.ref (637 + 1), .int 0, .int 0, .int 0, .ref (637 + 2), .ref (637 + 3), .ref (637 + 4)]) := by simp [kCell, kSh, z 637 (by decide) (by decide)]
  have a142 : kCell hz 142 9 = (10, List.replicate 12 (.int 0)) := kz rfl (z 142 (by decide) (by decide))
  have a143 : kCell hz 143 9 = (10, List.replicate 12 (.int 0)) := kz rfl (z 143 (by decide) (by decide))
  have a144 : kCell hz 144 8 = (10, List.replicate 6 (.int 0)) := kz rfl (z 144 (by decide) (by decide))
  have a638 : kCell hz 638 17 = (11, List.replicate 80 (.int 0)) := kz rfl (z 638 (by decide) (by decide))
  have a639 : kCell hz 639 17 = (11, List.replicate 80 (.int 0)) := kz rfl (z 639 (by decide) (by decide))
  have a640 : kCell hz 640 11 = (10, List.replicate 80 (.int 0)) := kz rfl (z 640 (by decide) (by decide))
  have a641 : kCell hz 641 11 = (10, List.replicate 80 (.int 0)) := kz rfl (z 641 (by decide) (by decide))
  have a643 : kCell hz 643 18 = (12, List.replicate 2 (.int 0)) := kz rfl (z 643 (by decide) (by decide))
  have a644 : kCell hz 644 9 = (10, List.replicate 12 (.int 0)) := kz rfl (z 644 (by decide) (by decide))
  have a645 : kCell hz 645 12 = (10, List.replicate 109 (.int 0)) := kz rfl (z 645 (by decide) (by decide))
  have r146 : kCell hz 146 20 = (14, mRefs 147 70 7 7) := refs_cell (o := 1) (s := 70) rfl (by decide) hz rfl
  have r642 : kCell hz 642 21 = (14, mRefs 646 70 2 2) := refs_cell (o := 4) (s := 70) rfl (by decide) hz rfl
  rw [c0, c141, c145, c637, a142, a143, a144, a638, a639, a640, a641, a643, a644, a645, r146, r642]
  unfold cP cPre cHist
  simp only [List.cons_append, List.append_assoc, List.nil_append, Nat.zero_add]
