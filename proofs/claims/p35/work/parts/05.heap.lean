/-! ROWS of the small machine that read or write the cells. -/
/-- a field of the class number ci, as the class 'own' links it -/
def kFl (own : String) (index ci k : Nat) (t : FieldType) (fin : Bool) : Prop := ∃ (C : String) (T : u_T) (N : Nat) (ty : Nat → FieldType), kCl[ci]? = some (C, T, N) ∧ ci < 10 ∧ (∀ w ∈ u_ws C T N, w ∈ kWG) ∧ k < N ∧ (T k).1 = C ∧ (T k).2.2.2 = fin ∧ ty k = t ∧ (∀ k, k < N → parseFieldDescriptor (T k).2.2.1 = some (ty k)) ∧ (∀ a, a < N → ∀ b, b < N → a ≠ b → (T a).2.1 ≠ (T b).2.1) ∧ (Cond.fieldLink own index C (T k).2.1 (T k).2.2.1 ∈ kWG ∨ ∃ host, Cond.fieldLinkNest own index C (T k).2.1 (T k).2.2.1 host ∈ kNest)
def kFit (t : FieldType) (v : Value) : Prop := ∀ E : kE, narrow t (kTv E v) = kTv E v ∧ fits t (kTv E v) = true
theorem kFit_int (x : Int32) : kFit .int (.int x) := fun _ => ⟨rfl, rfl⟩
theorem kFit_b0 : kFit .boolean (.int 0) := fun _ => ⟨rfl, rfl⟩
theorem kFit_b1 : kFit .boolean (.int 1) := fun _ => ⟨rfl, rfl⟩
theorem kFit_obj (C : String) (x : Nat) : kFit (.object C) (.ref x) := fun _ => ⟨rfl, rfl⟩
theorem kFit_arr (t : FieldType) (x : Nat) : kFit (.array t) (.ref x) := fun _ => ⟨rfl, rfl⟩
section ROWS
variable {E : kE} {M : kM} {r : Option Int32} {g' : List kC} {fc fs pc : Nat} {lv : kLv} {st : List Value} {g : List kC}
theorem kTc_o (E : kE) {ci : Nat} (h : ci < 10) (vs : List Value) : kTc E (ci, vs) = .inr (ci, vs.map (kTv E)) := by simp [kTc, h]
theorem kTc_i (E : kE) (vs : List Value) : kTc E (10, vs) = .inl (E.2.2.1 0, vs.length, .inl (fun j => kInt (vs.getD j .null))) := rfl
theorem kTc_c (E : kE) (vs : List Value) : kTc E (11, vs) = .inl (E.2.2.1 1, vs.length, .inl (fun j => kInt (vs.getD j .null))) := rfl
theorem kTc_z (E : kE) (vs : List Value) : kTc E (12, vs) = .inl (E.2.2.1 2, vs.length, .inl (fun j => kInt (vs.getD j .null))) := rfl
theorem kTc_q (E : kE) (vs : List Value) : kTc E (13, vs) = .inl (E.2.2.1 3, vs.length, .inr (.inr (.inr (.inr (fun j => kRef E (vs.getD j .null)))))) := rfl
theorem kTc_m (E : kE) (vs : List Value) : kTc E (14, vs) = .inl (E.2.2.1 4, vs.length, .inr (.inr (.inr (.inr (fun j => kRef E (vs.getD j .null)))))) := rfl
theorem kJ_getf (pc' : Nat) {ix ci k a : Nat} {t : FieldType} {fin : Bool} {vs : List Value} {v : Value} (hd : decode (kB M) pc = .ok (.getfield ix, 3)) (hf : kFl (kY M).cls ix ci k t fin) (he : g[a]? = some (ci, vs)) (hv : vs[k]? = some v) (hp : pc + 3 = pc') (kk : kJ E M r g' fc fs pc' lv (v :: st) g) : kJ E M r g' fc fs pc lv (.ref a :: st) g := by
  subst hp
  intro p l e s m args below meth c hF R hR PQ hEx H locs ls hl hW hS
  have k2 := kk p l e s m args below meth c hF R hR PQ hEx H locs ls hl hW hS
  obtain ⟨hx, hb, hml, hr, hlk, hown, hts, hnm, hE⟩ := hF
  obtain ⟨C, T, N, ty, hc, hci, hin, hk, hC, hfin, hty, htys, hnms, hlink⟩ := hf
  have he2 : (kWs E g)[a]? = some (E.1 + a, .inr (ci, vs.map (kTv E))) := by rw [kWs_at he, kTc_o E hci]
  have hv2 : (vs.map (kTv E))[k]? = some (kTv E v) := by simp [hv]
  rcases hlink with hl1 | ⟨host, hl1⟩
  · exact va_get (D := E.2.1) hx hb hts hin hown hE.1 hW.1 a he2 hc k hk (hts _ hl1) (fun x h => by rw [hC] at h; exact h) hv2 hd k2
  · exact va_getN (D := E.2.1) hx hb hts hin hown hE.1 hW.1 a he2 hc k hk (va_Nw.use rfl (hE.2.1 _ hl1)) (fun x h => by rw [hC] at h; exact h) hv2 hd k2
theorem kJ_putf (pc' : Nat) {ix ci k a : Nat} {t : FieldType} {vs : List Value} {v : Value} (hd : decode (kB M) pc = .ok (.putfield ix, 3)) (hf : kFl (kY M).cls ix ci k t false) (he : g[a]? = some (ci, vs)) (hv : kFit t v) (hlen : k < vs.length) (hp : pc + 3 = pc') (kk : kJ E M r g' fc fs pc' lv st (g.set a (ci, vs.set k v))) : kJ E M r g' fc fs pc lv (v :: .ref a :: st) g := by
  subst hp
  intro p l e s m args below meth c hF R hR PQ hEx H locs ls hl hW hS
  have k2 := kk p l e s m args below meth c hF R hR PQ hEx
  obtain ⟨hx, hb, hml, hr, hlk, hown, hts, hnm, hE⟩ := hF
  obtain ⟨C, T, N, ty, hc, hci, hin, hk, hC, hfin, hty, htys, hnms, hlink⟩ := hf
  have he2 : (kWs E g)[a]? = some (E.1 + a, .inr (ci, vs.map (kTv E))) := by rw [kWs_at he, kTc_o E hci]
  have hap := va_apart (own := (kY M).cls) hts hin ty htys hnms hE.1 hc
  obtain ⟨r1, h1, cell, q1, q2, q3, q4⟩ := hW.1 a _ he2
  have hr1 : r1 = (C, T, N) := Option.some.inj (h1.symm.trans hc)
  subst hr1
  obtain ⟨hS1, hfc, kC1, hkC, hkind⟩ := hE.1.1 ci _ hc
  obtain ⟨cf, kf, fi, f, hi, hsl⟩ := hS1 k hk
  have hlay := hts _ (hin _ (u_in_lay hk))
  unfold u_lay at hlay
  rw [if_neg (by rw [hfin]; decide)] at hlay
  have hst := (u_facts hfc hkC (u_lays hts hin hk) hi).1
  have hd2 : parseFieldDescriptor (T k).2.2.1 = some t := by rw [htys k hk, hty]
  have h6 := u_store hfc hkC hkind hlay hi hd2 (hv E).1 (hv E).2
  have hsame : s.fieldFound? C (T k).2.1 (T k).2.2.1 = some (cf, kf, fi, f) := by rw [hC] at hi; exact hi
  have go : ∀ H' : Heap, H'[E.1 + a]? = some (cell.setSlot f.slot (kTv E v)) → H'.size = H.size → (∀ q, q ≠ E.1 + a → H'[q]? = H[q]?) → W p l e R s m args below meth c H' (locs ++ [⟨E.1 + a, f.slot⟩]) fc fs PQ (F0 m (pc + 3) ls (st.map (kTv E))) := by
    intro H' e1 e2 e3
    refine k2 H' _ ls hl (hW.put he e2 e3 ?_) (hS.put e2 e3 (Nat.le_add_right _ _))
    rw [kTc_o E hci, List.map_set]
    rw [hsl] at e1
    exact ⟨_, hc, t_OB.to (V := updV (vp_V (vs.map (kTv E))) k (kTv E v)) ⟨_, e1, q2, q3, t_set q4 hap hk (kTv E v)⟩ (fun j _ => vp_updV_set (by simpa using hlen) (kTv E v) j)⟩
  rcases hlink with hl1 | ⟨host, hl1⟩
  · exact W.putK hx hb (f := f) ⟨hown, hts _ hl1, ⟨_, _, _, hsame⟩, hst⟩ (by rw [q2]; exact h6) q1 q3 (by rw [hsl]; exact k2_hasslot (q4 k hk)) rfl rfl hd go
  · exact va_WputK hx hb (f := f) hown (va_Nw.use rfl (hE.2.1 _ hl1)) hsame hst (by rw [q2]; exact h6) q1 q3 (by rw [hsl]; exact k2_hasslot (q4 k hk)) rfl rfl hd go
theorem kJ_putF (pc' : Nat) {ix ci k a : Nat} {t : FieldType} {vs : List Value} {v : Value} (hd : decode (kB M) pc = .ok (.putfield ix, 3)) (hf : kFl (kY M).cls ix ci k t true) (hC2 : ∀ C T N, kCl[ci]? = some (C, T, N) → C = (kY M).cls) (hnest : ∀ C T N host, kCl[ci]? = some (C, T, N) → Cond.fieldLinkNest (kY M).cls ix C (T k).2.1 (T k).2.2.1 host ∉ kNest) (hini : (kY M).name = "<init>") (he : g[a]? = some (ci, vs)) (hv : kFit t v) (hlen : k < vs.length) (hp : pc + 3 = pc') (kk : kJ E M r g' fc fs pc' lv st (g.set a (ci, vs.set k v))) : kJ E M r g' fc fs pc lv (v :: .ref a :: st) g := by
  subst hp
  intro p l e s m args below meth c hF R hR PQ hEx H locs ls hl hW hS
  have k2 := kk p l e s m args below meth c hF R hR PQ hEx
  obtain ⟨hx, hb, hml, hr, hlk, hown, hts, hnm, hE⟩ := hF
  obtain ⟨C, T, N, ty, hc, hci, hin, hk, hC, hfin, hty, htys, hnms, hlink⟩ := hf
  have he2 : (kWs E g)[a]? = some (E.1 + a, .inr (ci, vs.map (kTv E))) := by rw [kWs_at he, kTc_o E hci]
  have hap := va_apart (own := (kY M).cls) hts hin ty htys hnms hE.1 hc
  obtain ⟨r1, h1, cell, q1, q2, q3, q4⟩ := hW.1 a _ he2
  have hr1 : r1 = (C, T, N) := Option.some.inj (h1.symm.trans hc)
  subst hr1
  obtain ⟨hS1, hfc, kC1, hkC, hkind⟩ := hE.1.1 ci _ hc
  obtain ⟨cf, kf, fi, f, hi, hsl⟩ := hS1 k hk
  have hlay := hts _ (hin _ (u_in_lay hk))
  unfold u_lay at hlay
  rw [if_pos hfin] at hlay
  have hst := (u_facts hfc hkC (u_lays hts hin hk) hi).1
  have hd2 : parseFieldDescriptor (T k).2.2.1 = some t := by rw [htys k hk, hty]
  have hsame : s.fieldFound? C (T k).2.1 (T k).2.2.1 = some (cf, kf, fi, f) := by rw [hC] at hi; exact hi
  have hcf : m.cls = cf := by
    obtain ⟨_, _, c', _, _, _, -, -, hf', -, -, -, hown2, -⟩ := Cond.laysFinal_spec hlay
    have e1 : c' = cf := by have := hi.symm.trans hf'; simp at this; exact this.1.symm
    rw [hC, hC2 C T N hc] at hown2
    rw [← e1]; exact Option.some.inj (hown.symm.trans hown2)
  have h6 := u_fits hfc hkC hkind (Or.inr hlay) hi hd2 (hv E).1 (hv E).2
  have go : ∀ H' : Heap, H'[E.1 + a]? = some (cell.setSlot f.slot (kTv E v)) → H'.size = H.size → (∀ q, q ≠ E.1 + a → H'[q]? = H[q]?) → W p l e R s m args below meth c H' (locs ++ [⟨E.1 + a, f.slot⟩]) fc fs PQ (F0 m (pc + 3) ls (st.map (kTv E))) := by
    intro H' e1 e2 e3
    refine k2 H' _ ls hl (hW.put he e2 e3 ?_) (hS.put e2 e3 (Nat.le_add_right _ _))
    rw [kTc_o E hci, List.map_set]
    rw [hsl] at e1
    exact ⟨_, hc, t_OB.to (V := updV (vp_V (vs.map (kTv E))) k (kTv E v)) ⟨_, e1, q2, q3, t_set q4 hap hk (kTv E v)⟩ (fun j _ => vp_updV_set (by simpa using hlen) (kTv E v) j)⟩
  rcases hlink with hl1 | ⟨host, hl1⟩
  · exact W.putFinK hx hb hown (hts _ hl1) hsame hst hcf (hnm.trans hini) (by rw [q2]; exact h6) q1 q3 (by rw [hsl]; exact k2_hasslot (q4 k hk)) rfl rfl hd go
  · exact absurd hl1 (hnest C T N host hc)
theorem kGetD {vs : List Value} {j : Nat} {v : Value} (h : vs[j]? = some v) : vs.getD j .null = v := by simp [List.getD_eq_getElem?_getD, h]
theorem kJ_iald (pc' : Nat) {a : Nat} {vs : List Value} {i x : Int32} (hd : decode (kB M) pc = .ok (.iaload, 1)) (he : g[a]? = some (10, vs)) (hin : vp_in i vs.length) (hv : vs[i.toNatClampNeg]? = some (.int x)) (hp : pc + 1 = pc') (kk : kJ E M r g' fc fs pc' lv (.int x :: st) g) : kJ E M r g' fc fs pc lv (.int i :: .ref a :: st) g := by
  subst hp
  intro p l e s m args below meth c hF R hR PQ hEx H locs ls hl hW hS
  have k2 := kk p l e s m args below meth c hF R hR PQ hEx H locs ls hl hW hS
  obtain ⟨hx, hb, hml, hr, hlk, hown, hts, hnm, hE⟩ := hF
  refine va_iald (D := E.2.1) (n := vs.length) (f := fun j => kInt (vs.getD j .null)) hx hb hE.1 hW.1 a 0 ((kWs_at he).trans (by rw [kTc_i])) rfl hin hd ?_
  rw [kGetD hv]
  exact k2
theorem kJ_cald (pc' : Nat) {a : Nat} {vs : List Value} {i x : Int32} (hd : decode (kB M) pc = .ok (.caload, 1)) (he : g[a]? = some (11, vs)) (hin : vp_in i vs.length) (hv : vs[i.toNatClampNeg]? = some (.int x)) (hp : pc + 1 = pc') (kk : kJ E M r g' fc fs pc' lv (.int x :: st) g) : kJ E M r g' fc fs pc lv (.int i :: .ref a :: st) g := by
  subst hp
  intro p l e s m args below meth c hF R hR PQ hEx H locs ls hl hW hS
  have k2 := kk p l e s m args below meth c hF R hR PQ hEx H locs ls hl hW hS
  obtain ⟨hx, hb, hml, hr, hlk, hown, hts, hnm, hE⟩ := hF
  refine va_cald (D := E.2.1) (n := vs.length) (f := fun j => kInt (vs.getD j .null)) hx hb hE.1 hW.1 a 1 ((kWs_at he).trans (by rw [kTc_c])) rfl hin hd ?_
  rw [kGetD hv]
  exact k2
theorem kJ_zald (pc' : Nat) {a : Nat} {vs : List Value} {i x : Int32} (hd : decode (kB M) pc = .ok (.baload, 1)) (he : g[a]? = some (12, vs)) (hin : vp_in i vs.length) (hv : vs[i.toNatClampNeg]? = some (.int x)) (hp : pc + 1 = pc') (kk : kJ E M r g' fc fs pc' lv (.int x :: st) g) : kJ E M r g' fc fs pc lv (.int i :: .ref a :: st) g := by
  subst hp
  intro p l e s m args below meth c hF R hR PQ hEx H locs ls hl hW hS
  have k2 := kk p l e s m args below meth c hF R hR PQ hEx H locs ls hl hW hS
  obtain ⟨hx, hb, hml, hr, hlk, hown, hts, hnm, hE⟩ := hF
  refine va_zald (D := E.2.1) (n := vs.length) (f := fun j => kInt (vs.getD j .null)) hx hb hE.1 hW.1 a 2 ((kWs_at he).trans (by rw [kTc_z])) rfl hin hd ?_
  rw [kGetD hv]
  exact k2
theorem kJ_rald (pc' : Nat) {k : Nat} {i : Int32} (hd : decode (kB M) pc = .ok (.iaload, 1)) (hk : k < 3) (hin : vp_in i (E.2.2.2 k).2.1) (hp : pc + 1 = pc') (kk : kJ E M r g' fc fs pc' lv (.int ((E.2.2.2 k).2.2 i.toNatClampNeg) :: st) g) : kJ E M r g' fc fs pc lv (.int i :: .retAddr k :: st) g := by
  subst hp
  intro p l e s m args below meth c hF R hR PQ hEx H locs ls hl hW hS
  have k2 := kk p l e s m args below meth c hF R hR PQ hEx H locs ls hl hW hS
  obtain ⟨hx, hb, hml, hr, hlk, hown, hts, hnm, hE⟩ := hF
  obtain ⟨h1, h2⟩ := hE.2.2.2.1 k hk
  exact va_sld hx hb h1 (Nat.lt_of_lt_of_le h2 hE.2.2.2.2.2) (Nat.not_le.mpr h2) hS hin hd k2
theorem kJ_ralen (pc' : Nat) {k : Nat} (hd : decode (kB M) pc = .ok (.arraylength, 1)) (hk : k < 3) (hp : pc + 1 = pc') (kk : kJ E M r g' fc fs pc' lv (.int (Int32.ofNat (E.2.2.2 k).2.1) :: st) g) : kJ E M r g' fc fs pc lv (.retAddr k :: st) g := by
  subst hp
  intro p l e s m args below meth c hF R hR PQ hEx H locs ls hl hW hS
  have k2 := kk p l e s m args below meth c hF R hR PQ hEx H locs ls hl hW hS
  obtain ⟨hx, hb, hml, hr, hlk, hown, hts, hnm, hE⟩ := hF
  obtain ⟨h1, h2⟩ := hE.2.2.2.1 k hk
  exact va_slen hx hb h1 (Nat.lt_of_lt_of_le h2 hE.2.2.2.2.2) (Nat.not_le.mpr h2) hS hd k2
theorem kJ_alen (pc' : Nat) {a tg : Nat} {vs : List Value} (hd : decode (kB M) pc = .ok (.arraylength, 1)) (he : g[a]? = some (tg, vs)) (ht : tg = 10 ∨ tg = 11 ∨ tg = 14) (hp : pc + 1 = pc') (kk : kJ E M r g' fc fs pc' lv (.int (Int32.ofNat vs.length) :: st) g) : kJ E M r g' fc fs pc lv (.ref a :: st) g := by
  subst hp
  intro p l e s m args below meth c hF R hR PQ hEx H locs ls hl hW hS
  have k2 := kk p l e s m args below meth c hF R hR PQ hEx H locs ls hl hW hS
  obtain ⟨hx, hb, hml, hr, hlk, hown, hts, hnm, hE⟩ := hF
  rcases ht with rfl | rfl | rfl
  · exact va_alen (D := E.2.1) (x := (vs.length, .inl (fun j => kInt (vs.getD j .null)))) hx hb hE.1 hW.1 a 0 ((kWs_at he).trans (by rw [kTc_i])) rfl rfl hd k2
  · exact va_alen (D := E.2.1) (x := (vs.length, .inl (fun j => kInt (vs.getD j .null)))) hx hb hE.1 hW.1 a 1 ((kWs_at he).trans (by rw [kTc_c])) rfl rfl hd k2
  · exact va_alen (D := E.2.1) (x := (vs.length, .inr (.inr (.inr (.inr (fun j => kRef E (vs.getD j .null))))))) hx hb hE.1 hW.1 a 4 ((kWs_at he).trans (by rw [kTc_m])) rfl rfl hd k2
theorem kJ_aald (pc' : Nat) {a tg y : Nat} {vs : List Value} {i : Int32} (hd : decode (kB M) pc = .ok (.aaload, 1)) (he : g[a]? = some (tg, vs)) (ht : tg = 13 ∨ tg = 14) (hin : vp_in i vs.length) (hv : vs[i.toNatClampNeg]? = some (.ref y)) (hp : pc + 1 = pc') (kk : kJ E M r g' fc fs pc' lv (.ref y :: st) g) : kJ E M r g' fc fs pc lv (.int i :: .ref a :: st) g := by
  subst hp
  intro p l e s m args below meth c hF R hR PQ hEx H locs ls hl hW hS
  have k2 := kk p l e s m args below meth c hF R hR PQ hEx H locs ls hl hW hS
  obtain ⟨hx, hb, hml, hr, hlk, hown, hts, hnm, hE⟩ := hF
  rcases ht with rfl | rfl
  · refine va_aldq (D := E.2.1) (n := vs.length) (f := fun j => kRef E (vs.getD j .null)) hx hb hE.1 hW.1 a 3 ((kWs_at he).trans (by rw [kTc_q])) rfl hin hd ?_
    rw [kGetD hv]
    exact k2
  · refine va_aldq (D := E.2.1) (n := vs.length) (f := fun j => kRef E (vs.getD j .null)) hx hb hE.1 hW.1 a 4 ((kWs_at he).trans (by rw [kTc_m])) rfl hin hd ?_
    rw [kGetD hv]
    exact k2
theorem kSetI {vs : List Value} {i : Nat} (h : i < vs.length) (x : Int32) : (fun j => kInt ((vs.set i (.int x)).getD j .null)) = upd (fun j => kInt (vs.getD j .null)) i x := by
  funext j
  by_cases hj : j = i
  · subst hj
    simp [List.getD_eq_getElem?_getD, List.getElem?_set, h, upd, kInt]
  · simp [List.getD_eq_getElem?_getD, List.getElem?_set, upd, hj, Ne.symm hj]
theorem kIn_lt {i : Int32} {n : Nat} (h : vp_in i n) : i.toNatClampNeg < n := Nat.not_le.mp fun q => h (Or.inr q)
theorem kJ_iast (pc' : Nat) {a : Nat} {vs : List Value} {i x : Int32} (hd : decode (kB M) pc = .ok (.iastore, 1)) (he : g[a]? = some (10, vs)) (hin : vp_in i vs.length) (hp : pc + 1 = pc') (kk : kJ E M r g' fc fs pc' lv st (g.set a (10, vs.set i.toNatClampNeg (.int x)))) : kJ E M r g' fc fs pc lv (.int x :: .int i :: .ref a :: st) g := by
  subst hp
  intro p l e s m args below meth c hF R hR PQ hEx H locs ls hl hW hS
  have k2 := kk p l e s m args below meth c hF R hR PQ hEx
  obtain ⟨hx, hb, hml, hr, hlk, hown, hts, hnm, hE⟩ := hF
  have ha : (kWs E g)[a]? = some (E.1 + a, .inl (E.2.2.1 0, vs.length, .inl (fun j => kInt (vs.getD j .null)))) := (kWs_at he).trans (by rw [kTc_i])
  refine W.iast hx hb (hW.1 a _ ha) ((hE.1.2 0 _ rfl).1 vs.length (fun j => .int (kInt (vs.getD j .null)))) (fun q => by cases q) (by show ¬ (i < 0 ∨ (arrV _ _ _).slots.size ≤ _); rw [arrV_size]; exact hin) rfl rfl hd fun H1 e1 z oq => ?_
  refine k2 H1 _ ls hl (hW.put he z oq ?_) (hS.put z oq (Nat.le_add_right _ _))
  rw [kTc_i, List.length_set, kSetI (kIn_lt hin)]
  show H1[E.1 + a]? = some (vp_cell _ _)
  rw [e1, vp_cell_i, vp_cell_i, arrV_store]
  congr 2
  funext q
  by_cases hq : q = i.toNatClampNeg
  · subst hq
    simp [updV, upd]
  · simp [updV, upd, hq]
theorem kJ_cast (pc' : Nat) {a : Nat} {vs : List Value} {i x : Int32} (hd : decode (kB M) pc = .ok (.castore, 1)) (he : g[a]? = some (11, vs)) (hin : vp_in i vs.length) (hp : pc + 1 = pc') (kk : kJ E M r g' fc fs pc' lv st (g.set a (11, vs.set i.toNatClampNeg (.int (vp_nar .char x))))) : kJ E M r g' fc fs pc lv (.int x :: .int i :: .ref a :: st) g := by
  subst hp
  intro p l e s m args below meth c hF R hR PQ hEx H locs ls hl hW hS
  have k2 := kk p l e s m args below meth c hF R hR PQ hEx
  obtain ⟨hx, hb, hml, hr, hlk, hown, hts, hnm, hE⟩ := hF
  have ha : (kWs E g)[a]? = some (E.1 + a, .inl (E.2.2.1 1, vs.length, .inl (fun j => kInt (vs.getD j .null)))) := (kWs_at he).trans (by rw [kTc_c])
  refine W.cast hx hb (hW.1 a _ ha) ((hE.1.2 1 _ rfl).1 vs.length (fun j => .int (kInt (vs.getD j .null)))) (fun q => by cases q) (by show ¬ (i < 0 ∨ (arrV _ _ _).slots.size ≤ _); rw [arrV_size]; exact hin) rfl rfl hd fun H1 e1 z oq => ?_
  refine k2 H1 _ ls hl (hW.put he z oq ?_) (hS.put z oq (Nat.le_add_right _ _))
  rw [kTc_c, List.length_set, kSetI (kIn_lt hin)]
  show H1[E.1 + a]? = some (vp_cell _ _)
  rw [e1, vp_cell_i, vp_cell_i, arrV_store]
  congr 2
  funext q
  by_cases hq : q = i.toNatClampNeg
  · subst hq
    simp [updV, upd, vp_nar_char, narrow]
  · simp [updV, upd, hq]
theorem kJ_zast (pc' : Nat) {a : Nat} {vs : List Value} {i x : Int32} (hd : decode (kB M) pc = .ok (.bastore, 1)) (he : g[a]? = some (12, vs)) (hin : vp_in i vs.length) (hp : pc + 1 = pc') (kk : kJ E M r g' fc fs pc' lv st (g.set a (12, vs.set i.toNatClampNeg (.int (vp_nar .boolean x))))) : kJ E M r g' fc fs pc lv (.int x :: .int i :: .ref a :: st) g := by
  subst hp
  intro p l e s m args below meth c hF R hR PQ hEx H locs ls hl hW hS
  have k2 := kk p l e s m args below meth c hF R hR PQ hEx
  obtain ⟨hx, hb, hml, hr, hlk, hown, hts, hnm, hE⟩ := hF
  have ha : (kWs E g)[a]? = some (E.1 + a, .inl (E.2.2.1 2, vs.length, .inl (fun j => kInt (vs.getD j .null)))) := (kWs_at he).trans (by rw [kTc_z])
  refine W.zast hx hb (hW.1 a _ ha) ((hE.1.2 2 _ rfl).1 vs.length (fun j => .int (kInt (vs.getD j .null)))) (fun q => by cases q) (by show ¬ (i < 0 ∨ (arrV _ _ _).slots.size ≤ _); rw [arrV_size]; exact hin) rfl rfl hd fun H1 e1 z oq => ?_
  refine k2 H1 _ ls hl (hW.put he z oq ?_) (hS.put z oq (Nat.le_add_right _ _))
  rw [kTc_z, List.length_set, kSetI (kIn_lt hin)]
  show H1[E.1 + a]? = some (vp_cell _ _)
  rw [e1, vp_cell_i, vp_cell_i, arrV_store]
  congr 2
  funext q
  by_cases hq : q = i.toNatClampNeg
  · subst hq
    simp [updV, upd, vp_nar, narrow]
  · simp [updV, upd, hq]
theorem kSetR (E : kE) {vs : List Value} {i : Nat} (h : i < vs.length) (x : Nat) : (fun j => kRef E ((vs.set i (.ref x)).getD j .null)) = va_up (fun j => kRef E (vs.getD j .null)) i (some (E.1 + x)) := by
  funext j
  by_cases hj : j = i
  · subst hj
    simp [List.getD_eq_getElem?_getD, List.getElem?_set, h, va_up, kRef]
  · simp [List.getD_eq_getElem?_getD, List.getElem?_set, va_up, hj, Ne.symm hj]
theorem kJ_aast (pc' : Nat) {a ci y : Nat} {vs ws : List Value} {i : Int32} (hd : decode (kB M) pc = .ok (.aastore, 1)) (tg : Nat) (he : g[a]? = some (tg, vs)) (hy : g[y]? = some (ci, ws)) (ht : (tg = 13 ∧ ci = 3) ∨ (tg = 14 ∧ ci = 0)) (hin : vp_in i vs.length) (hp : pc + 1 = pc') (kk : kJ E M r g' fc fs pc' lv st (g.set a (tg, vs.set i.toNatClampNeg (.ref y)))) : kJ E M r g' fc fs pc lv (.ref y :: .int i :: .ref a :: st) g := by
  subst hp
  intro p l e s m args below meth c hF R hR PQ hEx H locs ls hl hW hS
  have k2 := kk p l e s m args below meth c hF R hR PQ hEx
  obtain ⟨hx, hb, hml, hr, hlk, hown, hts, hnm, hE⟩ := hF
  have hlt := kIn_lt hin
  have h0 : ¬ i < 0 := fun q => hin (Or.inl q)
  have key : ∀ (t0 : Nat) (rr : vw_C), kTc E (tg, vs) = .inl (E.2.2.1 t0, vs.length, .inr (.inr (.inr (.inr (fun j => kRef E (vs.getD j .null)))))) → kTc E (tg, vs.set i.toNatClampNeg (.ref y)) = .inl (E.2.2.1 t0, vs.length, .inr (.inr (.inr (.inr (fun j => kRef E ((vs.set i.toNatClampNeg (.ref y)).getD j .null)))))) → (kTys E)[t0]? = some (E.2.2.1 t0, .object rr.1) → kTc E (ci, ws) = .inr (ci, ws.map (kTv E)) → kCl[ci]? = some rr → W p l e R s m args below meth c H locs fc fs PQ (F0 m pc ls ((Value.ref y :: .int i :: .ref a :: st).map (kTv E))) := by
    intro t0 rr e10 e11 ht0 e12 hc
    have ha := (kWs_at (E := E) he).trans (by rw [e10])
    have hv := (kWs_at (E := E) hy).trans (by rw [e12])
    obtain ⟨r', hr', cellV, g1, g2, g3, -⟩ := hW.1 y _ hv
    have hcls := (hE.1.1 ci rr hc).2
    obtain ⟨kA1, comp, k1, k21, k3, -⟩ := (hE.1.2 t0 _ ht0).2
    have hcomp : comp = E.2.1.1 ci := Option.some.inj (k3.symm.trans hcls.1)
    subst hcomp
    obtain ⟨kC1, hkC, -⟩ := hcls.2
    refine W.aast hx hb (hW.1 a _ ha) (fun q h => by cases h) (fun h => by cases h) k1 k21 rfl hkC ⟨h0, by show _ < (arrV _ _ _).slots.size; rw [arrV_size]; exact hlt⟩ g1 (fun q h => by rw [g3] at h; cases h) (by rw [g2]; exact hkC) (by rw [g2]; exact va_assign hcls) rfl rfl hd fun H1 e1 z oq => ?_
    refine k2 H1 _ ls hl (hW.put he z oq ?_) (hS.put z oq (Nat.le_add_right _ _))
    rw [e11, kSetR E hlt]
    show H1[E.1 + a]? = some (vp_cell _ _)
    rw [e1]
    rw [vp_cell_q, vp_cell_q, arrV_store]
    congr 2
    funext q
    by_cases hq : q = i.toNatClampNeg
    · subst hq
      simp [updV, va_up, va_rf]
    · simp [updV, va_up, hq]
  rcases ht with ⟨rfl, rfl⟩ | ⟨rfl, rfl⟩
  · exact key 3 (RX3, TX3, 10) (kTc_q E vs) ((kTc_q E _).trans (by rw [List.length_set])) rfl (kTc_o E (by decide) ws) rfl
  · exact key 4 (RX0, TX0, 11) (kTc_m E vs) ((kTc_m E _).trans (by rw [List.length_set])) rfl (kTc_o E (by decide) ws) rfl
theorem kJ_gets0 (pc' : Nat) {ix : Nat} (hd : decode (kB M) pc = .ok (.getstatic ix, 3)) {host : String} (hl1 : Cond.fieldLinkNest (kY M).cls ix RX6 "FIRST_VALUES" "[I" host ∈ kNest) (hp : pc + 3 = pc') (kk : kJ E M r g' fc fs pc' lv (.retAddr 0 :: st) g) : kJ E M r g' fc fs pc lv st g := by
  subst hp
  intro p l e s m args below meth c hF R hR PQ hEx H locs ls hl hW hS
  have k2 := kk p l e s m args below meth c hF R hR PQ hEx H locs ls hl hW hS
  obtain ⟨hx, hb, hml, hr, hlk, hown, hts, hnm, hE⟩ := hF
  exact va_getsN hx hb hE.2.2.2.2.1.1 hS hown (va_Nw.use rfl (hE.2.1 _ hl1)) (fun _ h => h) hd k2
theorem kJ_gets1 (pc' : Nat) {ix : Nat} (hd : decode (kB M) pc = .ok (.getstatic ix, 3)) {host : String} (hl1 : Cond.fieldLinkNest (kY M).cls ix RX6 "HIGHEST_VALUES" "[I" host ∈ kNest) (hp : pc + 3 = pc') (kk : kJ E M r g' fc fs pc' lv (.retAddr 1 :: st) g) : kJ E M r g' fc fs pc lv st g := by
  subst hp
  intro p l e s m args below meth c hF R hR PQ hEx H locs ls hl hW hS
  have k2 := kk p l e s m args below meth c hF R hR PQ hEx H locs ls hl hW hS
  obtain ⟨hx, hb, hml, hr, hlk, hown, hts, hnm, hE⟩ := hF
  exact va_getsN hx hb hE.2.2.2.2.1.2 hS hown (va_Nw.use rfl (hE.2.1 _ hl1)) (fun _ h => h) hd k2
end ROWS
