/-! WHOLE_START: what holds at the law's entry. -/
theorem kStat {args : Array Value} {s : State} {tm : Term} {f : Nat → Int32} (harr : (Cond.arrayOf tm .int).before args s = true) (hlen : (Cond.eq (.length tm) (.int 6)).before args s = true) (hel : ∀ j : Nat, j < 6 → (Cond.eq (.elem tm (.int (Int32.ofNat j))) (.int (f j))).before args s = true) : ∃ t : Nat, tm.eval args s none [] s = some (.ref t) ∧ va_X t 6 f s s.heap ∧ t < s.heap.size := by
  have hv := va_eqt hlen
  obtain ⟨t, cell, ht, hat, -⟩ := Term.length_spec hv
  have hv0 := hv
  have hsz : cell.slots.size = 6 := by
    simp only [Term.eval, ht, hat, Option.bind_eq_bind, Option.bind_some] at hv
    by_cases hlt : cell.slots.size < 2147483648
    · simp [hlt] at hv
      have hv : nI cell.slots.size = nI 6 := hv
      rw [eqI (by omega) (by decide)] at hv
      exact hv
    · simp [hlt] at hv
  obtain ⟨t', ht', cell', c1, c2, c3, c4, c5, c6, c7⟩ := va_Tof (ty := .int) (N := 6) (f := fun j => .int (f j)) (A := fun q => s.heap.size ≤ q) (by decide) harr hv0 (fun j hj => va_eqt (hel j hj)) (fun a h => Nat.not_le.mpr h)
  cases ht.symm.trans ht'
  obtain ⟨hcell, _⟩ := State.arrayAt?_spec hat
  cases hcell.symm.trans c1
  exact ⟨t, ht, ⟨cell, c1, c2, c3, hsz, c6⟩, (Array.getElem?_eq_some_iff.mp c1).1⟩
theorem kClasses {s : State} {A : Array Value} (hW : ∀ w ∈ kWG, w.before A s = true) : ∃ D : va_G, ∀ (c : Nat) (q : vw_C), kCl[c]? = some q → u_Kn s q.1 q.2.1 q.2.2 (D.1 c) (D.2 c) := by
  obtain ⟨c0, i0, k0⟩ := u_known (C := RX0) (T := TX0) (N := 11) (n := 11) hW in_C (hW _ w_70)
  obtain ⟨c1, i1, k1⟩ := u_known (C := RX1) (T := TX1) (N := 3) (n := 3) hW in_H (hW _ w_212)
  obtain ⟨c2, i2, k2⟩ := u_known (C := RX2) (T := TX2) (N := 3) (n := 3) hW in_Y (hW _ w_231)
  obtain ⟨c3, i3, k3⟩ := u_known (C := RX3) (T := TX3) (N := 10) (n := 10) hW in_I (hW _ w_107)
  obtain ⟨c4, i4, k4⟩ := u_known (C := RX4) (T := TX4) (N := 4) (n := 4) hW in_V (hW _ w_78)
  obtain ⟨c5, i5, k5⟩ := u_known (C := RX5) (T := TX5) (N := 7) (n := 7) hW in_D (hW _ w_251)
  obtain ⟨c6, i6, k6⟩ := u_known (C := RX6) (T := TX6) (N := 9) (n := 9) hW in_P (hW _ w_62)
  refine ⟨(fun k => match k with
    | 0 => c0
    | 1 => c1
    | 2 => c2
    | 3 => c3
    | 4 => c4
    | 5 => c5
    | _ => c6, fun k => match k with
    | 0 => i0
    | 1 => i1
    | 2 => i2
    | 3 => i3
    | 4 => i4
    | 5 => i5
    | _ => i6), fun c q hq => ?_⟩
  match c, hq with
  | 0, hq => cases hq; exact k0
  | 1, hq => cases hq; exact k1
  | 2, hq => cases hq; exact k2
  | 3, hq => cases hq; exact k3
  | 4, hq => cases hq; exact k4
  | 5, hq => cases hq; exact k5
  | 6, hq => cases hq; exact k6
  | k + 7, hq => simp [kCl] at hq
theorem kEnv_start {s : State} {A : Array Value} {b L : Nat} {xs : Nat → Int32} (hts : ∀ w ∈ lw_tbl, w.before A s = true) (hX : va_X b L xs s s.heap) (hbl : b < s.heap.size) (hgv : (Jvm.Cond.and given_1 narrow_1).before A s = true) : ∃ E : kE, E.1 = s.heap.size ∧ E.2.2.2 2 = (b, L, xs) ∧ kEnv E s ∧ kRo E L xs := by
  have hW : ∀ w ∈ kWG, w.before A s = true := fun w hw => hts w (List.mem_filter.mp hw).1
  have hs := flat_of_before _ hgv
  obtain ⟨D, hD⟩ := kClasses hW
  -- arrays
  obtain ⟨ai, ki, pi, f1, f2, f3⟩ := Cond.arrayClass_spec (hW _ w_101)
  obtain ⟨ac, kc, pc, g1, g2, g3⟩ := Cond.arrayClass_spec (hW _ w_276)
  obtain ⟨az, kz, pz, e1, e2, e3⟩ := Cond.arrayClass_spec (hW _ w_305)
  have o3 : va_AO RX3 s := va_AO.of (A := A) (hts (.arrayOver (.object RX3)) (List.mem_of_getElem? (i := 76) (by decide +kernel)))
  have o0 : va_AO RX0 s := va_AO.of (A := A) (hts (.arrayOver (.object RX0)) (List.mem_of_getElem? (i := 237) (by decide +kernel)))
  obtain ⟨p3, a3, k3, x1, x2, x3, x4, x5⟩ := Cond.arrayOver_spec o3
  obtain ⟨p0, a0, k0, y1, y2, y3, y4, y5⟩ := Cond.arrayOver_spec o0
  -- the two static arrays
  obtain ⟨tf, tf1, tf2, tf3⟩ := kStat (args := A) (s := s) (tm := .static RX6 "FIRST_VALUES" "[I") (f := kFirst) (hs _ (by decide +kernel)) (hs _ (by decide +kernel)) (fun j hj => by
    have : j = 0 ∨ j = 1 ∨ j = 2 ∨ j = 3 ∨ j = 4 ∨ j = 5 := by omega
    rcases this with rfl | rfl | rfl | rfl | rfl | rfl <;> exact hs _ (by decide +kernel))
  obtain ⟨th, th1, th2, th3⟩ := kStat (args := A) (s := s) (tm := .static RX6 "HIGHEST_VALUES" "[I") (f := kHigh) (hs _ (by decide +kernel)) (hs _ (by decide +kernel)) (fun j hj => by
    have : j = 0 ∨ j = 1 ∨ j = 2 ∨ j = 3 ∨ j = 4 ∨ j = 5 := by omega
    rcases this with rfl | rfl | rfl | rfl | rfl | rfl <;> exact hs _ (by decide +kernel))
  have zf := va_Zof (A := fun q => s.heap.size ≤ q) (hts (.laysStatic RX6 "FIRST_VALUES" "[I") (List.mem_of_getElem? (i := 103) (by decide +kernel))) (hW _ w_50) tf1 (fun a h => Nat.not_le.mpr h)
  have zh := va_Zof (A := fun q => s.heap.size ≤ q) (hts (.laysStatic RX6 "HIGHEST_VALUES" "[I") (List.mem_of_getElem? (i := 333) (by decide +kernel))) (hW _ w_50) th1 (fun a h => Nat.not_le.mpr h)
  refine ⟨(s.heap.size, D, (fun k => match k with
    | 0 => ai
    | 1 => ac
    | 2 => az
    | 3 => a3
    | _ => a0), fun k => match k with
    | 0 => (tf, 6, kFirst)
    | 1 => (th, 6, kHigh)
    | _ => (b, L, xs)), rfl, rfl, ⟨⟨hD, fun k q hq => ?_⟩, fun w hw => ?_, ⟨o3, o0⟩, fun k hk => ?_, ⟨zf, zh⟩, Nat.le_refl _⟩, ⟨fun _ _ => rfl, rfl, fun _ _ => rfl, rfl, rfl⟩⟩
  · match k, hq with
    | 0, hq => cases hq; exact ⟨fun n z => ⟨(fun k h => by cases h), ki, f2, pi, f3⟩, f1⟩
    | 1, hq => cases hq; exact ⟨fun n z => ⟨(fun k h => by cases h), kc, g2, pc, g3⟩, g1⟩
    | 2, hq => cases hq; exact ⟨fun n z => ⟨(fun k h => by cases h), kz, e2, pz, e3⟩, e1⟩
    | 3, hq => cases hq; exact ⟨fun n z => ⟨(fun k h => by cases h), k3, x3, p3, x4⟩, k3, p3, x3, x4, x1, x5⟩
    | 4, hq => cases hq; exact ⟨fun n z => ⟨(fun k h => by cases h), k0, y3, p0, y4⟩, k0, p0, y3, y4, y1, y5⟩
    | k + 5, hq => simp [kTys] at hq
  · have hn := kNest_is hw
    have ht := hts w (List.mem_filter.mp hw).1
    cases w <;> first | exact va_Nw.of rfl ht | (simp [kIsNest] at hn)
  · have : k = 0 ∨ k = 1 ∨ k = 2 := by omega
    rcases this with rfl | rfl | rfl
    · exact ⟨tf2, tf3⟩
    · exact ⟨th2, th3⟩
    · exact ⟨hX, hbl⟩
/-- the law, from its entry, for every script -/
theorem whole_start {p : Program} {e : Env} {s : State} {m : MethodId} {below : List Frame} {meth : Method} {c : Code} (l : Launch) (hflags : l.flags = flags0) {b L : Nat} {xs : Nat → Int32} (hL : L ≤ 260) (C0 : lw_At p s m meth c b L xs) : W p l e room_1 s m #[Value.ref b] below meth c s.heap [] 0 0 (lw_Z below #[Value.ref b] s) (entryFrame m ([Value.ref b] : List Value).toArray 5) := by
  obtain ⟨hx, hb, hr, hml, hown, hts, hX, hbl, hlocks, hgv, hnm⟩ := C0
  obtain ⟨E, hE1, hE2, hE, hro⟩ := kEnv_start hts hX hbl hgv
  obtain ⟨K', h', hJ⟩ := j_L_law (E := E) hro hL
  have hF : kFr E m_L_law p s m #[.ref b] meth c := ⟨hx, hb, hml, hr, hlocks, hown, fun w hw => hts w (List.mem_filter.mp hw).1, hnm, hE⟩
  have hEx : kEx E m_L_law (some 1) (mk K' h') p l e room_1 s m #[.ref b] below meth c (lw_Z below #[Value.ref b] s) := by
    intro H locs pc ls fc fs hW hS hfc hfs hd
    rcases hd with ⟨q, _⟩ | ⟨v, ty, hv, _, _, hd⟩
    · cases q
    · cases hv
      refine va_forget (fun q hq => by have := hS.2.2 q hq; rw [← hE1]; exact this) ?_
      exact W.widen (k := 600000) (n := 7302250) hfc hfs (lw_ret hx hb hr hlocks hd)
  have hl := lv_entry ([.ref b]) (n := 5) (Nat.le_of_ble_eq_true rfl)
  rw [lg_entry_eq]
  have e2 : lv_args 0 [Value.ref b] = kTl E [(0, .retAddr 2)] := by
    show [(0, Value.ref b)] = [(0, Value.ref (E.2.2.2 2).1)]
    rw [hE2]
  rw [e2] at hl
  exact hJ p l e s m #[.ref b] below meth c hF room_1 rfl _ hEx s.heap [] _ hl ⟨(fun k q hq => absurd hq (by simp [kWs])), hE1.symm⟩ va_S.rf
