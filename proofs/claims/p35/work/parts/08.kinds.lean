/-! kinds of what an object holds -/
-- kinds of what an object holds
theorem kC_1 : ∀ a < 786, kKinds[a]? = some 0 → kKinds[a + 1]? = some 8 ∧ kKinds[a + 2]? = some 9 ∧ kKinds[a + 3]? = some 9 ∧ kKinds[a + 4]? = some 9 ∧ kKinds[a + 5]? = some 19 ∧ kKinds[a + 6]? = some 4 ∧ ∀ i < 12, kKinds[a + 10 + 5 * i]? = some 3 := by decide +kernel
theorem kI_1 : ∀ a < 786, kKinds[a]? = some 3 → kKinds[a + 1]? = some 8 ∧ kKinds[a + 2]? = some 9 ∧ kKinds[a + 3]? = some 9 ∧ kKinds[a + 4]? = some 9 := by decide +kernel
theorem kV_1 : ∀ a < 786, kKinds[a]? = some 4 → kKinds[a + 1]? = some 10 ∧ kKinds[a + 2]? = some 10 ∧ kKinds[a + 3]? = some 10 := by decide +kernel
theorem kHr_1 : ∀ a < 786, kKinds[a]? = some 1 → kKinds[a + 1]? = some 9 ∧ kKinds[a + 2]? = some 9 ∧ kKinds[a + 3]? = some 8 := by decide +kernel
theorem kHi_1 : ∀ a < 786, kKinds[a]? = some 2 → kKinds[a + 1]? = some 20 ∧ ∀ i < 7, kKinds[a + 2 + 70 * i]? = some 0 := by decide +kernel
theorem kPd_1 : ∀ a < 786, kKinds[a]? = some 5 → kKinds[a + 1]? = some 17 ∧ kKinds[a + 2]? = some 17 ∧ kKinds[a + 3]? = some 11 ∧ kKinds[a + 4]? = some 11 := by decide +kernel
theorem kPv_1 : kIs 0 6 ∧ kIs 1 0 ∧ kIs 71 0 ∧ kIs 141 1 ∧ kIs 145 2 ∧ kIs 637 5 ∧ kIs 642 21 ∧ kIs 643 18 ∧ kIs 644 9 ∧ kIs 645 12 ∧ kIs 646 0 ∧ kIs 716 0 := by unfold kIs; decide +kernel
theorem kC_item {c : Nat} (h : kIs c 0) {i : Nat} (hi : i < 12) : kIs (c + 10 + 5 * i) 3 := (kC_1 c (kIs_lt h) h).2.2.2.2.2.2 i hi
theorem kk_0_5 {c : Nat} (h : kIs c 0) : kIs (c + 1) 8 := (kC_1 c (kIs_lt h) h).1
theorem kk_0_6 {c : Nat} (h : kIs c 0) : kIs (c + 2) 9 := (kC_1 c (kIs_lt h) h).2.1
theorem kk_0_7 {c : Nat} (h : kIs c 0) : kIs (c + 3) 9 := (kC_1 c (kIs_lt h) h).2.2.1
theorem kk_0_8 {c : Nat} (h : kIs c 0) : kIs (c + 4) 9 := (kC_1 c (kIs_lt h) h).2.2.2.1
theorem kk_0_9 {c : Nat} (h : kIs c 0) : kIs (c + 5) 19 := (kC_1 c (kIs_lt h) h).2.2.2.2.1
theorem kk_0_10 {c : Nat} (h : kIs c 0) : kIs (c + 6) 4 := (kC_1 c (kIs_lt h) h).2.2.2.2.2.1
theorem kk_1_0 {c : Nat} (h : kIs c 1) : kIs (c + 1) 9 := (kHr_1 c (kIs_lt h) h).1
theorem kk_1_1 {c : Nat} (h : kIs c 1) : kIs (c + 2) 9 := (kHr_1 c (kIs_lt h) h).2.1
theorem kk_1_2 {c : Nat} (h : kIs c 1) : kIs (c + 3) 8 := (kHr_1 c (kIs_lt h) h).2.2
theorem kk_2_0 {c : Nat} (h : kIs c 2) : kIs (c + 1) 20 := (kHi_1 c (kIs_lt h) h).1
theorem kk_3_6 {c : Nat} (h : kIs c 3) : kIs (c + 1) 8 := (kI_1 c (kIs_lt h) h).1
theorem kk_3_7 {c : Nat} (h : kIs c 3) : kIs (c + 2) 9 := (kI_1 c (kIs_lt h) h).2.1
theorem kk_3_8 {c : Nat} (h : kIs c 3) : kIs (c + 3) 9 := (kI_1 c (kIs_lt h) h).2.2.1
theorem kk_3_9 {c : Nat} (h : kIs c 3) : kIs (c + 4) 9 := (kI_1 c (kIs_lt h) h).2.2.2
theorem kk_4_1 {c : Nat} (h : kIs c 4) : kIs (c + 1) 10 := (kV_1 c (kIs_lt h) h).1
theorem kk_4_2 {c : Nat} (h : kIs c 4) : kIs (c + 2) 10 := (kV_1 c (kIs_lt h) h).2.1
theorem kk_4_3 {c : Nat} (h : kIs c 4) : kIs (c + 3) 10 := (kV_1 c (kIs_lt h) h).2.2
theorem kk_5_0 {c : Nat} (h : kIs c 5) : kIs (c + 1) 17 := (kPd_1 c (kIs_lt h) h).1
theorem kk_5_4 {c : Nat} (h : kIs c 5) : kIs (c + 2) 17 := (kPd_1 c (kIs_lt h) h).2.1
theorem kk_5_5 {c : Nat} (h : kIs c 5) : kIs (c + 3) 11 := (kPd_1 c (kIs_lt h) h).2.2.1
theorem kk_5_6 {c : Nat} (h : kIs c 5) : kIs (c + 4) 11 := (kPd_1 c (kIs_lt h) h).2.2.2
theorem kk_h {c : Nat} (h : kIs c 2) {i : Nat} (hi : i < 7) : kIs (c + 2 + 70 * i) 0 := (kHi_1 c (kIs_lt h) h).2 i hi
theorem kk_s : ∀ i < 2, kIs (646 + 70 * i) 0 := by unfold kIs; decide +kernel
theorem kp_0 : kIs 0 6 := kPv_1.1
theorem kp_1 : kIs 1 0 := kPv_1.2.1
theorem kp_71 : kIs 71 0 := kPv_1.2.2.1
theorem kp_141 : kIs 141 1 := kPv_1.2.2.2.1
theorem kp_145 : kIs 145 2 := kPv_1.2.2.2.2.1
theorem kp_637 : kIs 637 5 := kPv_1.2.2.2.2.2.1
theorem kp_642 : kIs 642 21 := kPv_1.2.2.2.2.2.2.1
theorem kp_643 : kIs 643 18 := kPv_1.2.2.2.2.2.2.2.1
theorem kp_644 : kIs 644 9 := kPv_1.2.2.2.2.2.2.2.2.1
theorem kp_645 : kIs 645 12 := kPv_1.2.2.2.2.2.2.2.2.2.1
