/-! PURE: what holds between the turns of the law; a turn that changes the committee. -/
def Svd (h : kH) : Prop := ∀ s, s < 2 → (h 643 s = 0 ∧ h 791 s = 0) ∨ (h 643 s = 1 ∧ h 791 s = 1 ∧ ∃ T nm ni nv, Iv T nm ni nv ∧ Com h (646 + 70 * s) T nm ni nv ∧ Row (fun k => h 790 (s * 760 + k)) T nv)
def Pd (h : kH) : Prop := ∃ l, l ≤ 80 ∧ h 637 1 = nI l ∧ h 786 7 = nI l ∧ ∀ k, k < l → ∃ c, 33 ≤ c ∧ c ≤ 126 ∧ h 638 k = nI c ∧ h 792 k = nI c
def Gk (h : kH) (T : kT) (nm ni nv u sp : Nat) : Prop := Iv T nm ni nv ∧ Com h 1 T nm ni nv ∧ Row (h 787) T nv ∧ Hist h u sp ∧ Svd h ∧ Pd h ∧ h 786 8 = 0
def G (h : kH) : Prop := ∃ T nm ni nv u sp, Gk h T nm ni nv u sp
theorem Row.cong {r r' : Nat → Int32} {T : kT} {nv : Nat} (R : Row r T nv) (hv : nv ≤ 20) (e : ∀ k, k < 760 → r' k = r k) : Row r' T nv := by
  obtain ⟨r0, r1, r2, r3, r4⟩ := R
  exact ⟨fun k hk => (e _ (by omega)).trans (r0 k hk), fun m j hm hj => (e _ (by omega)).trans (r1 m j hm hj), fun i j hi hj => (e _ (by omega)).trans (r2 i j hi hj), fun i m j hi hm hj => (e _ (by omega)).trans (r3 i m j hi hm hj), fun k j hk hj => (e _ (by omega)).trans (r4 k j hk hj)⟩
theorem recd_cong {h h' : kH} (e6 : h' 786 = h 786) (e7 : h' 787 = h 787) (e9 : h' 789 = h 789) {a : Nat} (ea : h' a = h a) : recd h' a = recd h a := by
  funext j
  unfold recd
  rw [e6, e9, e7]
  by_cases p : h 786 8 = 0
  · rw [if_pos p, if_pos p]
    by_cases q : h 786 3 = 6
    · rw [if_pos q, if_pos q, ea]
    · rw [if_neg q, if_neg q, ea]
  · rw [if_neg p, if_neg p, ea]
theorem Hist.cong {h h' : kH} {u sp : Nat} (H : Hist h u sp) (e1 : h' 145 = h 145) (e3 : h' 786 3 = h 786 3) (e9 : h' 789 = h 789) (e : ∀ a, 147 ≤ a → a < 637 → (a < 147 + 70 * sp ∨ 217 + 70 * sp ≤ a) → h' a = h a) : Hist h' u sp := by
  obtain ⟨⟨s1, s2, s3, s4, s5⟩, s⟩ := H
  refine ⟨⟨s1, s2, by rw [e1]; exact s3, by rw [e1]; exact s4, by rw [e3]; exact s5⟩, fun j hj => ?_⟩
  obtain ⟨T, nm, ni, nv, i, c, r⟩ := s j hj
  refine ⟨T, nm, ni, nv, i, c.cong i.n.2.1 fun a a1 a2 => e a (by omega) (by omega) (by omega), ?_⟩
  rw [e9]
  exact r
theorem Svd.cong {h h' : kH} (S : Svd h) (e1 : h' 643 = h 643) (e2 : h' 790 = h 790) (e3 : h' 791 = h 791) (e : ∀ a, 646 ≤ a → a < 786 → h' a = h a) : Svd h' := by
  intro s hs
  rcases S s hs with ⟨a, b⟩ | ⟨a, b, T, nm, ni, nv, i, c, r⟩
  · exact Or.inl ⟨by rw [e1]; exact a, by rw [e3]; exact b⟩
  · refine Or.inr ⟨by rw [e1]; exact a, by rw [e3]; exact b, T, nm, ni, nv, i, c.cong i.n.2.1 fun a a1 a2 => e a (by omega) (by omega), ?_⟩
    rw [e2]
    exact r
theorem Pd.cong {h h' : kH} (S : Pd h) (e1 : h' 637 1 = h 637 1) (e2 : h' 786 7 = h 786 7) (e3 : h' 638 = h 638) (e4 : h' 792 = h 792) : Pd h' := by
  obtain ⟨l, l1, l2, l3, l4⟩ := S
  refine ⟨l, l1, e1.trans l2, e2.trans l3, fun k hk => ?_⟩
  rw [e3, e4]
  exact l4 k hk
/-- the class's side of a turn: from the note to what is settled -/
def Cf (sp : Nat) (h h' : kH) : Prop := ∀ a, (a = 0 ∨ 71 ≤ a) → a ≠ 142 → a ≠ 143 → a ≠ 144 → a ≠ 145 → (a < 147 + 70 * sp ∨ 217 + 70 * sp ≤ a) → h' a = h a
/-- after a change of both: the history has one state more -/
theorem Hist.more {h h' : kH} {T : kT} {nm ni nv u sp : Nat} (H : Hist h u sp) (I : Iv T nm ni nv) (R : Row (h 787) T nv) (e8 : h 786 8 = 0) (n1 : h' 145 1 = nI ((sp + 1) % 7)) (n2 : h' 145 2 = nI (min (u + 1) 6)) (e : ∀ a, 147 ≤ a → a < 637 → (a < 147 + 70 * sp ∨ 217 + 70 * sp ≤ a) → h' a = h a) (C : Com h' (147 + 70 * sp) T nm ni nv) (m6 : h' 786 3 = recd h 786 3) (m9 : h' 789 = recd h 789) : Hist h' (min (u + 1) 6) ((sp + 1) % 7) := by
  obtain ⟨⟨s1, s2, s3, s4, s5⟩, s⟩ := H
  by_cases z : u = 6
  · have ru : h 786 3 = 6 := by rw [s5, z]; rfl
    have um : min (u + 1) 6 = 6 := by omega
    rw [um]
    have r3 : recd h 786 3 = 6 := by
      unfold recd
      rw [if_pos e8, if_pos ru]
      exact if_pos ⟨rfl, rfl⟩
    have r9 : ∀ k, recd h 789 k = if k < 3800 then h 789 (k + 760) else if k < 4560 then h 787 (k - 3800) else h 789 k := by
      intro k
      unfold recd
      rw [if_pos e8, if_pos ru, if_neg (by omega)]
      by_cases q : k < 3800
      · rw [if_pos (by omega), if_pos q]
      · rw [if_neg (by omega), if_neg q]
        by_cases p : k < 4560
        · rw [if_pos (by omega), if_pos p]
        · rw [if_neg (by omega), if_neg p]
    refine ⟨⟨by omega, by omega, n1, by rw [n2, um], by rw [m6, r3]; rfl⟩, fun j hj => ?_⟩
    by_cases q : j = 5
    · refine ⟨T, nm, ni, nv, I, ?_, R.cong I.n.2.2 fun k hk => ?_⟩
      · rw [show ((sp + 1) % 7 + 7 - 6 + j) % 7 = sp by omega]
        exact C
      · rw [m9, r9, if_neg (by omega), if_pos (by omega)]
        exact congrArg (h 787) (by omega)
    · obtain ⟨T', nm', ni', nv', i, c, r⟩ := s (j + 1) (by omega)
      refine ⟨T', nm', ni', nv', i, ?_, r.cong i.n.2.2 fun k hk => ?_⟩
      · rw [show ((sp + 1) % 7 + 7 - 6 + j) % 7 = (sp + 7 - u + (j + 1)) % 7 by omega]
        exact c.cong i.n.2.1 fun a a1 a2 => e a (by omega) (by omega) (by omega)
      · rw [m9, r9, if_pos (by omega)]
        exact congrArg (h 789) (by omega)
  · have ru : ¬ h 786 3 = 6 := by
      rw [s5, show (6 : Int32) = nI 6 from rfl, eqI (by omega) (by decide)]
      exact z
    have um : min (u + 1) 6 = u + 1 := by omega
    rw [um]
    have r3 : recd h 786 3 = nI (u + 1) := by
      unfold recd
      rw [if_pos e8, if_neg ru, if_pos ⟨rfl, rfl⟩, s5, nI_1]
    have r9 : ∀ k, recd h 789 k = if u * 760 ≤ k ∧ k < u * 760 + 760 then h 787 (k - u * 760) else h 789 k := by
      intro k
      unfold recd
      rw [if_pos e8, if_neg ru, if_neg (by omega), s5, kx_nI (by omega)]
      by_cases q : u * 760 ≤ k ∧ k < u * 760 + 760
      · rw [if_pos ⟨rfl, q⟩, if_pos q]
      · rw [if_neg (fun w => q w.2), if_neg q]
    refine ⟨⟨by omega, by omega, n1, by rw [n2, um], by rw [m6, r3]⟩, fun j hj => ?_⟩
    by_cases q : j = u
    · refine ⟨T, nm, ni, nv, I, ?_, R.cong I.n.2.2 fun k hk => ?_⟩
      · rw [show ((sp + 1) % 7 + 7 - (u + 1) + j) % 7 = sp by omega]
        exact C
      · rw [m9, r9, q, if_pos (by omega)]
        exact congrArg (h 787) (by omega)
    · obtain ⟨T', nm', ni', nv', i, c, r⟩ := s j (by omega)
      refine ⟨T', nm', ni', nv', i, ?_, r.cong i.n.2.2 fun k hk => ?_⟩
      · rw [show ((sp + 1) % 7 + 7 - (u + 1) + j) % 7 = (sp + 7 - u + j) % 7 by omega]
        exact c.cong i.n.2.1 fun a a1 a2 => e a (by omega) (by omega) (by omega)
      · rw [m9, r9, if_neg]
        intro w
        have : j * 760 + 760 ≤ u * 760 := by
          have : (j + 1) * 760 ≤ u * 760 := Nat.mul_le_mul_right 760 (by omega)
          omega
        omega
theorem turnX {FC FM : kH → Option (Int32 × kH)} {h : kH} {T : kT} {nm ni nv u sp : Nat} (g : Gk h T nm ni nv u sp) {v : Int32} {T' : kT} {nm' ni' nv' : Nat} (w1 : f_P_isError v = false) (I' : Iv T' nm' ni' nv')
    (w2 : ∀ h1, (∀ a, 637 ≤ a → h1 a = h a) → Com h1 1 T nm ni nv → ∃ h', FC h1 = some (v, h') ∧ CFs h1 h' ∧ Com h' 1 T' nm' ni' nv') (w3 : ∀ h3, (∀ a, 637 ≤ a → h3 a = h a) → Row (h3 787) T nv → Hs h3 → ∃ h', FM h3 = some (v, h') ∧ MFs h3 h' ∧ Row (h' 787) T' nv') :
    ∃ h1 h2 h3 h4, f_Y_note h 145 1 = some h1 ∧ FC h1 = some (v, h2) ∧ f_Y_settle h2 145 v = some (v, h3) ∧ FM h3 = some (v, h4) ∧ G h4 := by
  obtain ⟨I, C, R, H, S, P, e8⟩ := g
  obtain ⟨h1, n1, n2, n3⟩ := Y_note C I H
  obtain ⟨⟨s1, s2, s3, s4, s5⟩, _⟩ := id H
  have C1 : Com h1 1 T nm ni nv := C.cong I.n.2.1 fun a a1 a2 => n2 a (by omega)
  obtain ⟨h2, c1, c2, c3⟩ := w2 h1 (fun a q => n2 a (by omega)) C1
  have o2 : ∀ a, (a = 0 ∨ 71 ≤ a) → a ≠ 142 → a ≠ 143 → a ≠ 144 → (a < 147 + 70 * sp ∨ 217 + 70 * sp ≤ a) → h2 a = h a := fun a a0 a1 a2 a3 a4 => (c2 a a0 a1 a2 a3).trans (n2 a a4)
  have e145 : h2 145 = h 145 := o2 145 (by omega) (by omega) (by omega) (by omega) (by omega)
  obtain ⟨h3, t1, t2, t3, t4⟩ := Y_settle_ok (h := h2) (u := u) (sp := sp) w1 (by rw [e145]; exact s3) (by rw [e145]; exact s4) s1 s2
  have o3 : ∀ a, (a = 0 ∨ 71 ≤ a) → a ≠ 142 → a ≠ 143 → a ≠ 144 → a ≠ 145 → (a < 147 + 70 * sp ∨ 217 + 70 * sp ≤ a) → h3 a = h a := fun a a0 a1 a2 a3 a5 a4 => (t2 a a5).trans (o2 a a0 a1 a2 a3 a4)
  have hi3 : ∀ a, 637 ≤ a → h3 a = h a := fun a q => o3 a (by omega) (by omega) (by omega) (by omega) (by omega) (by omega)
  have R3 : Row (h3 787) T nv := by rw [hi3 787 (by omega)]; exact R
  obtain ⟨h4, m1, m2, m3⟩ := w3 h3 hi3 R3 ⟨u, s2, by rw [hi3 786 (by omega)]; exact s5⟩
  have lo : ∀ a, a < 786 → h4 a = h3 a := fun a q => (m2 a (by omega) (by omega) (by omega) (by omega)).trans (recd_o h3 (by omega) (by omega))
  have hi : ∀ a, (788 = a ∨ (789 < a ∧ a < 793) ∨ 795 < a) → h4 a = h a := fun a q => ((m2 a (by omega) (by omega) (by omega) (by omega)).trans (recd_o h3 (by omega) (by omega))).trans (hi3 a (by omega))
  have sl : ∀ j, j ≠ 3 → h4 786 j = h 786 j := fun j q => by
    rw [m2 786 (by omega) (by omega) (by omega) (by omega), recd_s h3 q, hi3 786 (by omega)]
  have Ch : Com h3 (147 + 70 * sp) T nm ni nv := by
    refine n3.cong I.n.2.1 fun a a1 a2 => ?_
    rw [t2 a (by omega), c2 a (by omega) (by omega) (by omega) (by omega)]
  have H3 : Hist h3 u sp → True := fun _ => trivial
  -- the history before, seen in h3 but for its own counters
  have Hm : Hist h4 (min (u + 1) 6) ((sp + 1) % 7) := by
    refine Hist.more (h := fun a j => if a = 145 then h 145 j else h3 a j) (T := T) (nm := nm) (ni := ni) (nv := nv) (u := u) (sp := sp) ?_ I ?_ ?_ ?_ ?_ (fun a a1 a2 a3 => ?_) ?_ ?_ ?_
    · refine H.cong ?_ ?_ ?_ (fun a a1 a2 a3 => ?_)
      · funext j; exact if_pos rfl
      · rw [if_neg (by decide), hi3 786 (by omega)]
      · funext j; rw [if_neg (by decide), hi3 789 (by omega)]
      · funext j; rw [if_neg (by omega), o3 a (by omega) (by omega) (by omega) (by omega) (by omega) a3]
    · have : (fun j => if 787 = 145 then h 145 j else h3 787 j) = h3 787 := by funext j; exact if_neg (by decide)
      rw [this]; exact R3
    · rw [if_neg (by decide), hi3 786 (by omega)]; exact e8
    · rw [lo 145 (by omega)]; exact t3
    · rw [lo 145 (by omega)]; exact t4
    · funext j; rw [if_neg (by omega), lo a (by omega)]
    · refine Ch.cong I.n.2.1 fun a a1 a2 => lo a (by omega)
    · have ec : ∀ a, a ≠ 145 → (fun j => if a = 145 then h 145 j else h3 a j) = h3 a := fun a q => by
        funext j
        exact if_neg q
      rw [m2 786 (by omega) (by omega) (by omega) (by omega), recd_cong (h := h3) (h' := fun a j => if a = 145 then h 145 j else h3 a j) (ec 786 (by decide)) (ec 787 (by decide)) (ec 789 (by decide)) (ec 786 (by decide))]
    · have ec : ∀ a, a ≠ 145 → (fun j => if a = 145 then h 145 j else h3 a j) = h3 a := fun a q => by
        funext j
        exact if_neg q
      rw [m2 789 (by omega) (by omega) (by omega) (by omega), recd_cong (h := h3) (h' := fun a j => if a = 145 then h 145 j else h3 a j) (ec 786 (by decide)) (ec 787 (by decide)) (ec 789 (by decide)) (ec 789 (by decide))]
  refine ⟨h1, h2, h3, h4, n1, c1, t1, m1, T', nm', ni', nv', min (u + 1) 6, (sp + 1) % 7, I', ?_, m3, Hm, ?_, ?_, ?_⟩
  · refine c3.cong I'.n.2.1 fun a a1 a2 => ?_
    rw [lo a (by omega), t2 a (by omega)]
  · exact S.cong (by rw [lo 643 (by omega), hi3 643 (by omega)]) (hi _ (by omega)) (hi _ (by omega)) (fun a a1 a2 => by rw [lo a a2, hi3 a (by omega)])
  · exact P.cong (by rw [lo 637 (by omega), hi3 637 (by omega)]) (sl 7 (by decide)) (by rw [lo 638 (by omega), hi3 638 (by omega)]) (hi _ (by omega))
  · rw [sl 8 (by decide)]; exact e8
theorem turn {FC FM : kH → Option (Int32 × kH)} (W : Tw FC FM) {h : kH} (g : G h) : ∃ v h1 h2 h3 h4, f_Y_note h 145 1 = some h1 ∧ FC h1 = some (v, h2) ∧ f_Y_settle h2 145 v = some (v, h3) ∧ FM h3 = some (v, h4) ∧ G h4 := by
  obtain ⟨T, nm, ni, nv, u, sp, I, C, R, H, S, P, e8⟩ := g
  obtain ⟨h1, n1, n2, n3⟩ := Y_note C I H
  obtain ⟨⟨s1, s2, s3, s4, s5⟩, _⟩ := id H
  have C1 : Com h1 1 T nm ni nv := C.cong I.n.2.1 fun a a1 a2 => n2 a (by omega)
  rcases W T nm ni nv I with ⟨e, w1, w2, w3⟩ | ⟨v, T', nm', ni', nv', w1, I', w2, w3⟩
  · obtain ⟨h2, c1, c2⟩ := w2 h1 C1
    have o : ∀ a, a ≠ 142 → a ≠ 143 → a ≠ 144 → (a < 147 + 70 * sp ∨ 217 + 70 * sp ≤ a) → h2 a = h a := fun a a1 a2 a3 a4 => (c2 a a1 a2 a3).trans (n2 a a4)
    have R2 : Row (h2 787) T nv := by rw [o 787 (by omega) (by omega) (by omega) (by omega)]; exact R
    obtain ⟨h4, m1, m2⟩ := w3 h2 R2 ⟨u, s2, by rw [o 786 (by omega) (by omega) (by omega) (by omega)]; exact s5⟩
    have o4 : ∀ a, a ≠ 142 → a ≠ 143 → a ≠ 144 → a ≠ 793 → a ≠ 794 → a ≠ 795 → (a < 147 + 70 * sp ∨ 217 + 70 * sp ≤ a) → h4 a = h a := fun a a1 a2 a3 a4 a5 a6 a7 => (m2 a a4 a5 a6).trans (o a a1 a2 a3 a7)
    have of : ∀ a, (a < 142 ∨ a = 145 ∨ a = 146 ∨ (637 ≤ a ∧ a < 793) ∨ 795 < a) → h4 a = h a := fun a q => o4 a (by omega) (by omega) (by omega) (by omega) (by omega) (by omega) (by omega)
    refine ⟨e, h1, h2, h2, h4, n1, c1, Y_settle_err w1, m1, T, nm, ni, nv, u, sp, I, C.cong I.n.2.1 fun a a1 a2 => of a (by omega), by rw [of 787 (by omega)]; exact R, H.cong (of _ (by omega)) (by rw [of 786 (by omega)]) (of _ (by omega)) (fun a a1 a2 a3 => o4 a (by omega) (by omega) (by omega) (by omega) (by omega) (by omega) a3), S.cong (of _ (by omega)) (of _ (by omega)) (of _ (by omega)) (fun a a1 a2 => of a (by omega)), P.cong (by rw [of 637 (by omega)]) (by rw [of 786 (by omega)]) (of _ (by omega)) (of _ (by omega)), by rw [of 786 (by omega)]; exact e8⟩
  · obtain ⟨a1, a2, a3, a4, b⟩ := turnX (FC := FC) (FM := FM) ⟨I, C, R, H, S, P, e8⟩ w1 I' (fun h1 _ c => w2 h1 c) (fun h3 _ r z => w3 h3 r z)
    exact ⟨v, a1, a2, a3, a4, b⟩
/-- a turn of the law: both answer alike, and all stays well -/
def Both (FP FM : kH → Option (Int32 × kH)) : Prop := ∀ h, G h → ∃ v h1 h2, FP h = some (v, h1) ∧ FM h1 = some (v, h2) ∧ G h2
theorem Both.of {FC FM FP : kH → Option (Int32 × kH)} (W : Tw FC FM) (e : ∀ h, FP h = kBi (f_Y_note h 145 1) fun h1 => kBd (FC h1) fun v3 h2 => kBd (f_Y_settle h2 145 v3) fun v5 h4 => some (v5, h4)) : Both FP FM := by
  intro h g
  obtain ⟨v, h1, h2, h3, h4, n1, c1, t1, m1, g4⟩ := turn W g
  exact ⟨v, h3, h4, by rw [e, n1, kBi_s, c1, kBd_s, t1, kBd_s], m1, g4⟩
theorem bo_set (x y : Int32) : Both (fun h => f_P_set h x y) (fun h => f_M_set h x y) := Both.of (tw_set x y) fun _ => rfl
theorem bo_member (x y : Int32) : Both (fun h => f_P_member h x y) (fun h => f_M_member h x y) := Both.of (tw_member x y) fun _ => rfl
theorem bo_item (x y : Int32) : Both (fun h => f_P_item h x y) (fun h => f_M_item h x y) := Both.of (tw_item x y) fun _ => rfl
theorem bo_chair (x : Int32) : Both (fun h => f_P_chair h x) (fun h => f_M_chair h x) := Both.of (tw_chair x) fun _ => rfl
theorem bo_later (x y z : Int32) : Both (fun h => f_P_later h x y z) (fun h => f_M_later h x y z) := Both.of (tw_later x y z) fun _ => rfl
theorem bo_proxy (x y z : Int32) : Both (fun h => f_P_proxy h x y z) (fun h => f_M_proxy h x y z) := Both.of (tw_proxy x y z) fun _ => rfl
theorem bo_tell (x y z : Int32) : Both (fun h => f_P_tell h x y z) (fun h => f_M_tell h x y z) := Both.of (tw_tell x y z) fun _ => rfl
theorem bo_recuse (x y z : Int32) : Both (fun h => f_P_recuse h x y z) (fun h => f_M_recuse h x y z) := Both.of (tw_recuse x y z) fun _ => rfl
theorem bo_open (x : Int32) : Both (fun h => f_P_open h x) (fun h => f_M_open h x) := Both.of (tw_open x) fun _ => rfl
theorem bo_vote (x y : Int32) : Both (fun h => f_P_vote h x y) (fun h => f_M_vote h x y) := Both.of (tw_vote x y) fun _ => rfl
theorem bo_close : Both (fun h => f_P_close h) (fun h => f_M_close h) := Both.of tw_close fun _ => rfl
theorem bo_cast (x : Int32) : Both (fun h => f_P_cast h x) (fun h => f_M_cast h x) := Both.of (tw_cast x) fun _ => rfl
theorem bo_pass (x : Int32) : Both (fun h => f_P_pass h x) (fun h => f_M_pass h x) := Both.of (tw_pass x) fun _ => rfl
theorem tw_come (x : Int32) : Tw (fun h => f_C_bringIn h 1 x) (fun h => f_M_come h x) := by
  have e : (fun h => f_M_come h x) = fun h => f_M_turnTo h x (kB2 true) := by
    funext h
    unfold f_M_come
    show kBd (f_M_turnTo h x 1) _ = f_M_turnTo h x 1
    cases f_M_turnTo h x 1 with
    | none => rfl
    | some p => rfl
  rw [e]
  exact tw_turn true x
theorem tw_go (x : Int32) : Tw (fun h => f_C_sendAway h 1 x) (fun h => f_M_go h x) := by
  have e : (fun h => f_M_go h x) = fun h => f_M_turnTo h x (kB2 false) := by
    funext h
    unfold f_M_go
    show kBd (f_M_turnTo h x 0) _ = f_M_turnTo h x 0
    cases f_M_turnTo h x 0 with
    | none => rfl
    | some p => rfl
  rw [e]
  exact tw_turn false x
theorem bo_come (x : Int32) : Both (fun h => f_P_come h x) (fun h => f_M_come h x) := Both.of (tw_come x) fun _ => rfl
theorem bo_go (x : Int32) : Both (fun h => f_P_go h x) (fun h => f_M_go h x) := Both.of (tw_go x) fun _ => rfl
