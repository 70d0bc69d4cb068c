/-! PURE: more of the law's acts: opening, voting, closing, casting, and time. -/
section
variable {T : kT} {nm ni nv : Nat}
def ActedK (T : kT) (nm ni nv : Nat) (r : Option (Bool × List Nat × kH)) : Prop := ∃ K' h' T', r = some (true, K', h') ∧ St h' T' nm ni nv ∧ Kp ni T T'
theorem A_opened {h : kH} (S : St h T nm ni nv) (K : List Nat) {i : Nat} (hi : i < ni) : ActedK T nm ni nv (f_L_isOpened K h (nI i)) := by
  have hn := S.1.n
  have e9 : 786 + (K ++ [9]).length = 786 + K.length + 1 := by rw [List.length_append]; rfl
  obtain ⟨h2, v1, v2, v3, v4⟩ := L_voices (S.fill (a := 786 + K.length) (n := 12) (by omega) 0) hi (K ++ [9]) (a := 786 + K.length) (by omega) (by rw [e9]; omega)
  obtain ⟨r, r1, r2⟩ := q_c4 v2
  unfold f_L_isOpened
  rw [kLet_s, v1, kBd_s, L_there v2 hi v4, kBi_s, q_it2 v2 hi, kBd_s, r1, kBi_s, L_isQuorum v2, kBi_s]
  generalize hK : K ++ [9] ++ [9] ++ [9] = K3
  -- it can't be opened
  have no : ¬ (T 2 i 2 = 0 ∧ (∀ j, j < ni → ¬ T 2 j 2 = 1) ∧ sQuo T nm (sThr T i nm nm) = true) → ActedK T nm ni nv (b_L_isOpened_47 K3 h2 (nI i) (sThr T i nm nm)) := by
    intro z
    obtain ⟨h', o1, o2, o3⟩ := v2.turn (FP := fun h => f_P_open h (nI i)) (op_open_no S.1 hi z) fun _ => rfl
    have o1 : f_P_open h2 (nI i) = some (-5, h') := o1
    obtain ⟨r', s1, s2⟩ := q_c4 o2
    obtain rfl := s2.one r2
    unfold b_L_isOpened_47 b_L_isOpened_48 b_L_isOpened_73 b_L_isOpened_92
    rw [r1, kBi_s, o1, kBd_s, if_neg (show ¬ (false = true) by decide), if_pos rfl, s1, kBi_s, if_pos (show kB2 false = 0 from rfl), if_pos rfl, if_pos (show kB2 false = 0 from rfl)]
    exact ⟨K3, h', T, rfl, o2, Kp.rfl'⟩
  by_cases z0 : T 2 i 2 = 0
  · rw [if_pos z0]
    by_cases z1 : 0 ≤ r
    · rw [if_pos z1]
      refine no fun z => ?_
      rcases r2 with ⟨rfl, _⟩ | ⟨k, k1, k2, _, rfl⟩
      · exact absurd z1 (by decide)
      · exact z.2.1 k k1 (of_decide_eq_true k2)
    · have nobody : r = -6 ∧ ∀ j, j < ni → ¬ T 2 j 2 = 1 := by
        rcases r2 with ⟨rfl, y⟩ | ⟨k, k1, k2, _, rfl⟩
        · exact ⟨rfl, fun j hj => of_decide_eq_false (y j hj)⟩
        · exact absurd (nI_pos' (by omega)) z1
      rw [if_neg z1]
      by_cases z2 : sQuo T nm (sThr T i nm nm) = true
      · rw [if_pos z2]
        obtain ⟨h', o1, o2, o3⟩ := v2.turn (FP := fun h => f_P_open h (nI i)) (op_open S.1 hi z0 nobody.2 z2) fun _ => rfl
        have o1 : f_P_open h2 (nI i) = some (sThr T i nm nm, h') := o1
        obtain ⟨r', s1, s2⟩ := q_c4 o2
        have st : ∀ j, j ≠ i → j < ni → ¬ ts T 2 i 2 (nI 1) 2 j 2 = 1 := fun j q hj => by
          rw [ts_ne _ _ (by omega)]
          exact nobody.2 j hj
        have F : Fst (fun j => decide (ts T 2 i 2 (nI 1) 2 j 2 = 1)) ni (nI i) := Or.inr ⟨i, hi, by show decide (ts T 2 i 2 (nI 1) 2 i 2 = 1) = true; rw [ts_eq]; decide, fun j hj => decide_eq_false (st j (by omega) (by omega)), rfl⟩
        obtain rfl := s2.one F
        unfold b_L_isOpened_48 b_L_isOpened_73 b_L_isOpened_92
        rw [r1, kBi_s, o1, kBd_s, if_pos rfl, if_pos rfl, s1, kBi_s, if_neg (show ¬ kB2 true = 0 by decide), if_pos rfl, if_neg (show ¬ kB2 true = 0 by decide), q_it2 o2 hi, kBd_s, ts_eq, if_pos (show nI 1 = 1 from rfl)]
        refine ⟨K3, h', _, rfl, o2, ts_ne _ _ (by omega), ts_o _ _ (by decide), fun O a b ha hb e1 e2 => ?_⟩
        by_cases q1 : a = i
        · by_cases q2 : b = i
          · rw [q1, q2]
          · exact absurd e2 (st b q2 hb)
        · exact absurd e1 (st a q1 ha)
      · rw [if_neg z2]
        exact no fun z => z2 z.2.2
  · rw [if_neg z0]
    exact no fun z => z0 z.1
theorem fst_not {s : Int32} {r : Int32} (h31 : ni ≤ 12) (F : Fst (fun i => decide (T 2 i 2 = s)) ni r) (q : ¬ 0 ≤ r) : r = -6 ∧ ∀ i, i < ni → ¬ Fst (fun i => decide (T 2 i 2 = s)) ni (nI i) := by
  rcases F.no with e | ⟨k, hk, e⟩
  · refine ⟨e, fun i hi G => ?_⟩
    have := F.one G
    rw [e] at this
    exact n6_ne (by omega) this.symm
  · exact absurd (by rw [e]; exact nI_pos' (by omega)) q
theorem fst_yes {s : Int32} {r : Int32} (h31 : ni ≤ 12) (F : Fst (fun i => decide (T 2 i 2 = s)) ni r) (q : 0 ≤ r) : ∃ i, i < ni ∧ r = nI i ∧ Fst (fun i => decide (T 2 i 2 = s)) ni (nI i) := by
  rcases F.no with e | ⟨k, hk, e⟩
  · rw [e] at q
    exact absurd q (by decide)
  · exact ⟨k, hk, e, by rw [← e]; exact F⟩
theorem A_voted {h : kH} (S : St h T nm ni nv) {m w : Nat} (hm : m < nm) (hw : w ≤ 2) : Acted T nm ni nv (f_L_isVoted h (nI m) (nI w)) := by
  have hn := S.1.n
  obtain ⟨r, r1, r2⟩ := q_c4 S
  unfold f_L_isVoted
  rw [r1, kBi_s]
  by_cases z : 0 ≤ r
  · obtain ⟨i, hi, rfl, F⟩ := fst_yes hn.2.1 r2 z
    have hi2 : i < 12 := by omega
    rw [if_pos z, q_of2 S hm, kBi_s]
    simp only [ps_if]
    -- a vote that isn't taken
    have no : ∀ g, CFe h g → ¬ sCan T i m = true → Acted T nm ni nv (b_L_isVoted_51 g (nI m) (nI w) (nI i)) := by
      intro g cg hc
      have Sg := S.ask cg
      obtain ⟨g1, e1, c1⟩ := q_at1 Sg hi hm
      have S1 := Sg.ask c1
      obtain ⟨h', o1, o2, o3⟩ := S1.turn (FP := fun h => f_P_vote h (nI m) (nI w)) (op_vote_no S.1 hm hw (fun j hj G => by
        have e := G.one F
        rw [eqI (by omega) (by omega)] at e
        rw [e]
        exact hc)) fun _ => rfl
      have o1 : f_P_vote g1 (nI m) (nI w) = some (-5, h') := o1
      obtain ⟨g2, e2, c2⟩ := q_at1 o2 hi hm
      unfold b_L_isVoted_51 b_L_isVoted_52
      rw [e1, kBd_s, q_of4 S1 hm, kBi_s, o1, kBd_s, if_neg (show ¬ (false = true) by decide), if_pos rfl, e2, kBd_s, if_pos rfl]
      exact ⟨g2, T, rfl, o2.ask c2, Kp.rfl'⟩
    by_cases p : ps T m = true
    · rw [if_pos p]
      obtain ⟨g, e1, c1⟩ := q_at5 S hi hm
      rw [e1, kBd_s]
      simp only [ps_if0]
      by_cases q : sRec T i m = true
      · rw [if_neg (by rw [q]; decide)]
        exact no g c1 (by unfold sCan; rw [p, q]; decide)
      · have q' : sRec T i m = false := by simpa using q
        have hc : sCan T i m = true := by unfold sCan; rw [p, q']; rfl
        rw [if_pos q']
        have Sg := S.ask c1
        obtain ⟨g1, e2, c2⟩ := q_at1 Sg hi hm
        have S1 := Sg.ask c2
        obtain ⟨h', o1, o2, o3⟩ := S1.turn (FP := fun h => f_P_vote h (nI m) (nI w)) (op_vote S.1 hm hw hi F hc) fun _ => rfl
        have o1 : f_P_vote g1 (nI m) (nI w) = some (T 4 i m, h') := o1
        obtain ⟨g2, e3, c3⟩ := q_at1 o2 hi hm
        have S2 := o2.ask c3
        obtain ⟨g3, e4, c4⟩ := q_at3 S2 hi hm
        have S3 := S2.ask c4
        have way : sWay (ts T 4 i m (nI w)) i nm m = nI w := by
          have r' : sRec (ts T 4 i m (nI w)) i m = false := by
            unfold sRec
            rw [ts_o _ _ (show 2 ≠ 4 by decide), ts_o _ _ (show 1 ≠ 4 by decide)]
            exact q'
          unfold sWay
          rw [r', if_neg (by decide), ts_eq, if_neg (n6_ne (by omega))]
        have votes : nI (fb_ct (fun j => !decide (ts T 4 i m (nI w) 4 j m = -6)) ni) = nI (fb_ct (fun j => !decide (T 4 j m = -6)) ni) + kB2 (decide (T 4 i m = -6)) := by
          have u := fb_ct_upd (fun j => !decide (T 4 j m = -6)) true hi
          have e : fb_ct (fun j => !decide (ts T 4 i m (nI w) 4 j m = -6)) ni = fb_ct (fun k => if k = i then true else !decide (T 4 k m = -6)) ni := by
            apply fb_ct_cong
            intro k hk
            by_cases z : k = i
            · rw [z, ts_eq, if_pos rfl, decide_eq_false (n6_ne (by omega))]
              rfl
            · rw [ts_ne _ _ (by omega), if_neg z]
          rw [e]
          by_cases z : T 4 i m = -6
          · rw [z] at u ⊢
            simp only [decide_true, Bool.not_true, Bool.false_eq_true, if_false, if_true, Nat.add_zero] at u
            rw [u, show decide ((-6 : Int32) = -6) = true from rfl]
            exact (nI_1 _).symm
          · rw [decide_eq_false z] at u ⊢
            simp only [Bool.not_false, if_true] at u
            have u' := Nat.add_right_cancel u
            rw [u']
            exact (Int32.add_zero _).symm
        unfold b_L_isVoted_52 b_L_isVoted_131
        rw [e2, kBd_s, q_of4 S1 hm, kBi_s, o1, kBd_s, if_pos rfl, if_pos rfl, e3, kBd_s, ts_eq, if_pos rfl, e4, kBd_s, way, if_pos rfl, q_of4 S3 hm, kBi_s]
        simp only [(S.1.i2 hi2 m (by omega)).2.1.nneg (show 3 < 2 ^ 31 by decide)]
        refine ⟨g3, _, ?_, S3, kp_ts T _ (by decide) (by omega)⟩
        by_cases z : T 4 i m = -6
        · rw [if_neg (fun y => y z), if_pos]
          rw [votes, decide_eq_true z]
        · rw [if_pos z, if_pos]
          rw [votes, decide_eq_false z]
    · rw [if_neg p]
      exact no h CFe.rfl' (by unfold sCan; simp [p])
  · obtain ⟨e, no⟩ := fst_not hn.2.1 r2 z
    obtain ⟨h', o1, o2, o3⟩ := S.turn (FP := fun h => f_P_vote h (nI m) (nI w)) (op_vote_no S.1 hm hw (fun j hj G => absurd G (no j hj))) fun _ => rfl
    have o1 : f_P_vote h (nI m) (nI w) = some (-5, h') := o1
    rw [if_neg z, o1, kBd_s, if_pos rfl]
    exact ⟨h', T, rfl, o2, Kp.rfl'⟩
theorem closed_off {i : Nat} {K : List Nat} (hi : i < ni) : ∀ (d k f : Nat) (h : kH), k + d = nm → d < f → St h T nm ni nv → (∀ m, m < nm → T 4 i m = -6) → ∃ h', b_L_isClosed_195 K (nI i) false f h (nI k) = some (true, K, h') ∧ CFe h h' := by
  intro d
  induction d with
  | zero =>
    intro k f h hk hf S e
    have hn := S.1.n
    obtain ⟨f, rfl⟩ : ∃ g, f = g + 1 := ⟨f - 1, by omega⟩
    obtain rfl : k = nm := hk
    rw [b_L_isClosed_195]
    dsimp only
    rw [q_c1 S, kBi_s, if_pos (nI_le (Nat.le_refl _) (by omega))]
    exact ⟨h, rfl, CFe.rfl'⟩
  | succ d ih =>
    intro k f h hk hf S e
    have hn := S.1.n
    obtain ⟨f, rfl⟩ : ∃ g, f = g + 1 := ⟨f - 1, by omega⟩
    rw [b_L_isClosed_195]
    dsimp only
    obtain ⟨g, g1, g2⟩ := q_at1 S hi (show k < nm by omega)
    rw [q_c1 S, kBi_s, if_neg (nI_ge (by omega) (by omega)), if_neg (show ¬ (false = true) by decide), g1, kBd_s, e k (by omega), if_pos rfl, nI_1]
    obtain ⟨h', r1, r2⟩ := ih (k + 1) f g (by omega) (by omega) (S.ask g2) e
    exact ⟨h', r1, g2.trans r2⟩
theorem closed_on {i : Nat} {K : List Nat} {h : kH} (S : St h T nm ni nv) : b_L_isClosed_195 K (nI i) true kFuel h 0 = some (true, K, h) := by
  have hn := S.1.n
  obtain ⟨F, hF⟩ : ∃ F, kFuel = F + 1 := ⟨19999, rfl⟩
  rw [hF, b_L_isClosed_195]
  dsimp only
  rw [q_c1 S, kBi_s]
  by_cases q : nI nm ≤ 0
  · rw [if_pos q]
  · rw [if_neg q, if_pos rfl]
theorem closed_sums {i b : Nat} {K : List Nat} (hi : i < ni) (hb : 786 ≤ b) (s : Nat → Int32) (hs : ∀ k, k < 6 → T 2 i (3 + k) = s k) (hst : sAhead T i = false) : ∀ (d k f : Nat) (h : kH), k + d = 6 → d < f → St h T nm ni nv → (∀ w, w < 6 → h b w = s w) → ∃ h', b_L_isClosed_156 K (nI i) b true f h (nI k) = some (true, K, h') ∧ CFe h h' := by
  intro d
  induction d with
  | zero =>
    intro k f h hk hf S e
    obtain ⟨f, rfl⟩ : ∃ g, f = g + 1 := ⟨f - 1, by omega⟩
    obtain rfl : k = 6 := hk
    rw [b_L_isClosed_156]
    dsimp only
    rw [if_pos (show (6 : Int32) ≤ nI 6 from by decide), closed_on S]
    exact ⟨h, rfl, CFe.rfl'⟩
  | succ d ih =>
    intro k f h hk hf S e
    obtain ⟨f, rfl⟩ : ∃ g, f = g + 1 := ⟨f - 1, by omega⟩
    have hk6 : k < 6 := by omega
    rw [b_L_isClosed_156]
    dsimp only
    obtain ⟨g, g1, g2⟩ := q_sum S hi hk6
    rw [if_neg (show ¬ (6 : Int32) ≤ nI k from by rw [show (6 : Int32) = nI 6 from rfl, leI (by omega) (by omega)]; omega), if_pos rfl, show (3 : Int32) = nI 3 from rfl, nI_add, g1, kBd_s, kG_nI hk6 (by decide), kx_nI (by omega), g2.fr b hb, e k hk6, hst, if_neg (show ¬ (false = true) by decide), hs k hk6, if_pos rfl, nI_1]
    obtain ⟨h', r1, r2⟩ := ih (k + 1) f g (by omega) (by omega) (S.ask g2) (fun w hw => by rw [g2.fr b hb]; exact e w hw)
    exact ⟨h', r1, g2.trans r2⟩
theorem A_closed {h : kH} (S : St h T nm ni nv) (K : List Nat) (O : One T ni) : ActedK T nm ni nv (f_L_isClosed K h) := by
  have hn := S.1.n
  obtain ⟨r, r1, r2⟩ := q_c4 S
  unfold f_L_isClosed
  rw [r1, kBi_s]
  by_cases z : 0 ≤ r
  · obtain ⟨i, hi, rfl, F⟩ := fst_yes hn.2.1 r2 z
    have hi2 : i < 12 := by omega
    have e9 : 786 + (K ++ [9]).length = 786 + K.length + 1 := by rw [List.length_append]; rfl
    have e8 : 786 + (K ++ [9] ++ [8]).length = 786 + K.length + 2 := by rw [List.length_append, List.length_append]; rfl
    have s1 : T 2 i 2 = 1 := fst_st (by omega) hn.2.1 F
    have b6 := brk_6 S.1 hi2 (k := 1) (by decide) s1
    have oth : ∀ j, j < ni → j ≠ i → ¬ T 2 j 2 = 1 := fun j hj q e => q (O j i hj hi e s1)
    rw [if_pos z, e9, kLet_s, kLet_s]
    obtain ⟨h4, v1, v2, v3, v4⟩ := L_voices (((S.fill (a := 786 + K.length) (n := 12) (by omega) 0)).fill (a := 786 + K.length + 1) (n := 6) (by omega) 0) hi (K ++ [9] ++ [8]) (a := 786 + K.length) (by omega) (by rw [e8]; omega)
    obtain ⟨h6, t1, t2, t3, t4⟩ := L_sums v2 hi (a := 786 + K.length) (b := 786 + K.length + 1) (by omega) (by omega) (by omega) v4 (fun w hw => by rw [v3 _ (by omega) (by rw [e8]; omega) (by omega), hf_in _ _ hw])
    rw [v1, kBd_s, t1, kBi_s, L_there t2 hi (fun m hm => by rw [t3 _ (by omega) (by omega)]; exact v4 m hm), kBi_s, L_isQuorum t2, kBi_s]
    generalize hK : K ++ [9] ++ [8] ++ [9] ++ [9] = K4
    have hb : 786 ≤ 786 + K.length + 1 := by omega
    by_cases d : sQuo T nm (sThr T i nm nm) = true
    · -- it becomes what it would be
      obtain ⟨h', o1, o2, o3⟩ := t2.turn (FP := fun h => f_P_close h) (op_close S.1 hi F d) fun _ => rfl
      have o1 : f_P_close h6 = some (sBec T i nm, h') := o1
      obtain ⟨o, p1, p2, p3⟩ := sOut_n T i (sTal T i nm nm 1) (sTal T i nm nm 2) (sTal T i nm nm 0)
      have st : tClo T i nm 2 i 2 = nI o := by
        unfold tClo
        rw [ts_eq]
        exact p3
      have st' : ∀ j, j < ni → ¬ tClo T i nm 2 j 2 = 1 := by
        intro j hj
        by_cases q : j = i
        · rw [q, st, show (1 : Int32) = nI 1 from rfl, eqI (by omega) (by omega)]
          omega
        · unfold tClo
          rw [ts_ne _ _ (by omega), tSum_ne _ _ _ (by omega)]
          exact oth j hj q
      obtain ⟨r', x1, x2⟩ := q_c4 o2
      have er : r' = -6 := by
        rcases x2 with ⟨e, _⟩ | ⟨k, k1, k2, _⟩
        · exact e
        · exact absurd (of_decide_eq_true k2) (st' k k1)
      have hst : sAhead (tClo T i nm) i = false := by
        unfold sAhead
        rw [st]
        have : o = 2 ∨ o = 3 ∨ o = 4 := by omega
        rcases this with rfl | rfl | rfl <;> decide
      have e10 : tClo T i nm 2 i 10 = T 2 i 10 := by
        unfold tClo
        rw [ts_ne _ _ (by omega), tSum_ne _ _ _ (by omega)]
      have e9' : tClo T i nm 2 i 9 = -6 := by
        unfold tClo
        rw [ts_ne _ _ (by omega), tSum_ne _ _ _ (by omega)]
        exact b6
      have e2' : tClo T i nm 2 i 2 = sBec T i nm := by unfold tClo; rw [ts_eq]
      obtain ⟨h7, y1, y2⟩ := closed_sums (T := tClo T i nm) (K := K4) hi hb (sTal T i nm nm) (fun k hk => by
        unfold tClo
        rw [ts_ne _ _ (by omega), tSum_in _ _ _ hk]) hst 6 0 kFuel h' rfl (kF_lt (by omega)) o2 (fun w hw => by rw [o3 _ hb]; exact t4 w hw)
      rw [d, if_pos rfl, L_outcome t2 hi t4, kBd_s]
      unfold b_L_isClosed_75 b_L_isClosed_135
      rw [q_it10 t2 hi, kBd_s, o1, kBd_s, if_pos rfl, x1, kBi_s, if_pos er, q_it2 o2 hi, kBd_s, if_pos e2', q_it10 o2 hi, kBd_s, if_pos rfl, e10, if_pos (show T 2 i 10 = T 2 i 10 + kB2 false from (Int32.add_zero _).symm), q_it9 o2 hi, kBd_s, if_pos e9']
      refine ⟨K4, h7, _, y1, o2.ask y2, ?_, ?_, fun _ a b ha hb e1 _ => absurd e1 (st' a ha)⟩
      · unfold tClo
        rw [ts_ne _ _ (by omega), tSum_o _ _ _ (by decide)]
      · unfold tClo
        rw [ts_o _ _ (by decide), tSum_o _ _ _ (by decide)]
    · -- it waits again
      have d' : sQuo T nm (sThr T i nm nm) = false := by simpa using d
      obtain ⟨h', o1, o2, o3⟩ := t2.turn (FP := fun h => f_P_close h) (op_close_off S.1 hi F d) fun _ => rfl
      have o1 : f_P_close h6 = some (0, h') := o1
      have st : tPut T i 2 i 2 = 0 := by
        unfold tPut
        rw [tOff_o _ _ _ (by decide), ts_ne _ _ (by omega), ts_eq]
        rfl
      have st' : ∀ j, j < ni → ¬ tPut T i 2 j 2 = 1 := by
        intro j hj
        by_cases q : j = i
        · rw [q, st]
          decide
        · unfold tPut
          rw [tOff_o _ _ _ (by decide), ts_ne _ _ (by omega), ts_ne _ _ (by omega)]
          exact oth j hj q
      obtain ⟨r', x1, x2⟩ := q_c4 o2
      have er : r' = -6 := by
        rcases x2 with ⟨e, _⟩ | ⟨k, k1, k2, _⟩
        · exact e
        · exact absurd (of_decide_eq_true k2) (st' k k1)
      have e10 : tPut T i 2 i 10 = T 2 i 10 + 1 := by
        unfold tPut
        rw [tOff_o _ _ _ (by decide), ts_eq]
      have e9' : tPut T i 2 i 9 = -6 := by
        unfold tPut
        rw [tOff_o _ _ _ (by decide), ts_ne _ _ (by omega), ts_ne _ _ (by omega)]
        exact b6
      obtain ⟨h7, y1, y2⟩ := closed_off (T := tPut T i) (nm := nm) (nv := nv) (K := K4) hi nm 0 kFuel h' (by omega) (kF_lt (by omega)) o2 (fun m hm => if_pos ⟨rfl, rfl, by omega⟩)
      obtain ⟨F', hF⟩ : ∃ F, kFuel = F + 1 := ⟨19999, rfl⟩
      have l0 : b_L_isClosed_156 K4 (nI i) (786 + K.length + 1) false kFuel h' 0 = some (true, K4, h7) := by
        rw [← y1]
        conv => lhs; rw [hF, b_L_isClosed_156]
        dsimp only
        rw [if_neg (show ¬ (6 : Int32) ≤ 0 by decide), if_neg (show ¬ (false = true) by decide)]
        rfl
      rw [d', if_neg (show ¬ (false = true) by decide)]
      unfold b_L_isClosed_75 b_L_isClosed_135
      rw [q_it10 t2 hi, kBd_s, o1, kBd_s, if_pos rfl, x1, kBi_s, if_pos er, q_it2 o2 hi, kBd_s, if_pos st, q_it10 o2 hi, kBd_s, if_neg (show ¬ (false = true) by decide), e10, if_pos (show T 2 i 10 + 1 = T 2 i 10 + kB2 true from rfl), q_it9 o2 hi, kBd_s, if_pos e9', l0]
      refine ⟨K4, h7, _, rfl, o2.ask y2, ?_, ?_, fun _ a b ha hb e1 _ => absurd e1 (st' a ha)⟩
      · unfold tPut
        rw [tOff_o _ _ _ (by decide), ts_ne _ _ (by omega), ts_ne _ _ (by omega)]
      · unfold tPut
        rw [tOff_o _ _ _ (by decide), ts_o _ _ (by decide), ts_o _ _ (by decide)]
  · obtain ⟨e, no⟩ := fst_not hn.2.1 r2 z
    obtain ⟨h', o1, o2, o3⟩ := S.turn (FP := fun h => f_P_close h) (op_close_no S.1 no) fun _ => rfl
    have o1 : f_P_close h = some (-5, h') := o1
    rw [if_neg z, o1, kBd_s, if_pos rfl]
    exact ⟨K, h', T, rfl, o2, Kp.rfl'⟩
end
