/-! Arrays.fill(int[], int) -/
theorem c_JA_fill_5 {E : kE} {K : List Nat} {h : kH} {a κ : Nat} (hk : kX K a κ) {n : Nat} (hs : kSh κ = (10, List.replicate n 0)) (hn : n < 1000) {v : Int32} : ∀ (k i : Nat), i + k = n → kJ E m_JA_fill none (mk K (hfill h a n v)) 0 0 5 [(3, .int (nI n)), (2, .int (nI i)), (0, .ref a), (1, .int v)] [] (mk K (hfill h a i v)) := by
  intro k
  induction k with
  | zero =>
    intro i hi
    obtain rfl : i = n := hi
    refine kJ_iload_n 6 1 d_JA_fill_5 rfl rfl rfl ?_
    refine kJ_iload_n 7 0 d_JA_fill_6 rfl rfl rfl ?_
    refine kJ_icmp_ge 10 20 d_JA_fill_7 rfl rfl (fun hc => ?_) (fun hc => ?_)
    · exact kJ_ret d_JA_fill_20 rfl (Nat.zero_le _) (Nat.zero_le _)
    · exact absurd (nI_le (Nat.le_refl i) (by omega)) hc
  | succ k ih =>
    intro i hi
    refine kJ_iload_n 6 1 d_JA_fill_5 rfl rfl rfl ?_
    refine kJ_iload_n 7 0 d_JA_fill_6 rfl rfl rfl ?_
    refine kJ_icmp_ge 10 20 d_JA_fill_7 rfl rfl (fun hc => ?_) (fun hc => ?_)
    · exact absurd hc (nI_ge (by omega) (by omega))
    · refine kJ_aload_n 11 2 d_JA_fill_10 rfl rfl rfl rfl ?_
      refine kJ_iload_n 12 1 d_JA_fill_11 rfl rfl rfl ?_
      refine kJ_iload_n 13 3 d_JA_fill_12 rfl rfl rfl ?_
      refine kM_iast 14 n d_JA_fill_13 hk hs (vp_in_nI (by omega) (by omega)) rfl ?_
      refine kJ_iinc 17 1 [(2, .int (nI i + 1)), (3, .int (nI n)), (0, .ref a), (1, .int v)] d_JA_fill_14 rfl (by decide) (Nat.le_of_ble_eq_true rfl) rfl rfl ?_
      refine kJ_goto 5 d_JA_fill_17 rfl ?_
      have e : hset (hfill h a i v) a (nI i).toNatClampNeg v = hfill h a (i + 1) v := by
        rw [nI_clamp (by omega)]
        funext b j
        simp only [hset, hfill]
        by_cases hb : b = a
        · by_cases hj : j = i
          · rw [if_pos ⟨hb, hj⟩, if_pos ⟨hb, by omega⟩]
          · rw [if_neg (fun q => hj q.2)]
            by_cases hl : j < i
            · rw [if_pos ⟨hb, hl⟩, if_pos ⟨hb, by omega⟩]
            · rw [if_neg (fun q => hl q.2), if_neg (fun q => hl (by omega))]
        · rw [if_neg (fun q => hb q.1), if_neg (fun q => hb q.1), if_neg (fun q => hb q.1)]
      rw [e, ← nI_succ]
      refine kJ_sub [1, 0, 2, 3] rfl ?_
      exact ih (i + 1) (by omega)
theorem j_JA_fill {E : kE} {L : Nat} {xs : Nat → Int32} (_ : kRo E L xs) {K : List Nat} {h : kH} {a κ : Nat} (hk : kX K a κ) {n : Nat} (hs : kSh κ = (10, List.replicate n 0)) (hn : n < 1000) {v : Int32} : JM E m_JA_fill [.ref a, .int v] (mk K h) none (mk K (hfill h a n v)) := by
  refine JM.of pn_JA (Nat.le_of_ble_eq_true rfl) ?_
  show kJ E m_JA_fill none (mk K (hfill h a n v)) 0 0 0 [(0, .ref a), (1, .int v)] [] (mk K h)
  refine kJ_iconst 1 0 d_JA_fill_0 ki_0 rfl ?_
  refine kJ_istore_n 2 [(2, .int 0), (0, .ref a), (1, .int v)] d_JA_fill_1 rfl (Nat.le_of_ble_eq_true rfl) rfl rfl ?_
  refine kJ_aload_n 3 1 d_JA_fill_2 rfl rfl rfl rfl ?_
  refine kM_alen 4 n d_JA_fill_3 hk hs rfl ?_
  refine kJ_istore_n 5 [(3, .int (Int32.ofNat n)), (2, .int 0), (0, .ref a), (1, .int v)] d_JA_fill_4 rfl (Nat.le_of_ble_eq_true rfl) rfl rfl ?_
  have e : h = hfill h a 0 v := by
    funext b j
    simp [hfill]
  conv => arg 10; rw [e]
  exact c_JA_fill_5 hk hs hn n 0 (by omega)
