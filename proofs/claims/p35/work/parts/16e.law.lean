/-! CODE of the law as functions, with certificates: printed by wip/p35/emit.py. -/
def b_L_law_263 (L : Nat) (xs : Nat → Int32) (rec238 : List Nat → kH → Int32 → Option (Bool × List Nat × kH)) (x3 : Int32) : Nat → List Nat → kH → Int32 → Option (Bool × List Nat × kH)
  | 0, _, _, _ => none
  | n + 1, K, h, x4 => (fun rec263 => kBi (f_P_count h 2) fun v32 => if v32 ≤ x4 then (rec238 K h (x3 + 1)) else (kBt (f_L_isItem K h x4) fun v34 K35 h33 => if v34 = true then (rec263 K35 h33 (x4 + 1)) else (some (false, K35, h33)))) (fun K' h' x4' => b_L_law_263 L xs rec238 x3 n K' h' x4')
theorem c_L_law_263 {E : kE} {L : Nat} {xs : Nat → Int32} (hro : kRo E L xs) {N : Nat} {rec238 : List Nat → kH → Int32 → Option (Bool × List Nat × kH)} {x3 : Int32} {r : Bool} {K' : List Nat} {h' : kH} (hrec238 : ∀ (K : List Nat) (h : kH) (x3 : Int32) (fc fs : Nat), fc + N * 30 ≤ 600000 → fs + N * 300 ≤ 7302250 → rec238 K h x3 = some (r, K', h') → kJ E m_L_law (some (kB2 r)) (mk K' h') fc fs 238 [(0, .retAddr 2), (1, .ref 0), (3, .int x3)] [] (mk K h)) : ∀ (n : Nat) (K : List Nat) (h : kH) (x4 : Int32) (fc fs : Nat) (hfc : fc + n * 4 + N * 30 ≤ 600000) (hfs : fs + n * 42 + N * 300 ≤ 7302250), b_L_law_263 L xs rec238 x3 n K h x4 = some (r, K', h') → kJ E m_L_law (some (kB2 r)) (mk K' h') fc fs 263 [(0, .retAddr 2), (1, .ref 0), (3, .int x3), (4, .int x4)] [] (mk K h) := by
  intro n
  induction n with
  | zero =>
    intro K h x4 fc fs hfc hfs hf
    have hf : (none : Option (Bool × List Nat × kH)) = some (r, K', h') := hf
    cases hf
  | succ n hrec263 =>
    intro K h x4 fc fs hfc hfs hf
    rw [b_L_law_263] at hf
    dsimp only at hf
    refine kJ_iload 265 3 d_L_law_263 rfl rfl ?_
    refine kJ_aload_n 266 1 d_L_law_265 rfl rfl rfl rfl ?_
    refine kJ_iconst 267 2 d_L_law_266 ki_2 rfl ?_
    obtain ⟨v32, ev32, hf⟩ := kBi_some hf
    refine kM_callv 270 m_P_count [.int 2] [.int x4] d_L_law_267 cl_L_28 ⟨w_397, w_398⟩ (kp_0).x ⟨rfl, by decide⟩ ⟨_, _, rfl⟩ rfl rfl (Nat.le_of_ble_eq_true rfl) ⟨Nat.le_of_ble_eq_true rfl, Nat.le_of_ble_eq_true rfl⟩ ⟨rfl, rfl⟩ ⟨(show fc ≤ 600000 from by omega), (show fs ≤ 7302250 from by omega)⟩ (j_P_count hro ev32) rfl ?_
    refine kJ_icmp_ge 273 290 d_L_law_270 rfl rfl (fun hc => ?_) (fun hc => ?_)
    · have hf := kIf_t hf hc
      refine kJ_iinc 293 2 [(3, .int (x3 + 1)), (0, .retAddr 2), (1, .ref 0), (4, .int x4)] d_L_law_290 rfl ki_1 (Nat.le_of_ble_eq_true rfl) rfl rfl ?_
      refine kJ_goto 238 d_L_law_293 rfl ?_
      refine kJ_sub [1, 2, 0] rfl ?_
      exact hrec238 K h (x3 + 1) _ _ (by omega) (by omega) hf
    · have hf := kIf_f hf hc
      refine kJ_aload_n 274 1 d_L_law_273 rfl rfl rfl rfl ?_
      refine kJ_iload 276 3 d_L_law_274 rfl rfl ?_
      obtain ⟨v34, K35, h33, ev34, hf⟩ := kBt_some hf
      refine kX_calls 279 m_L_isItem [.ref 0, .int x4] [] (fc + 4) (fs + 42) d_L_law_276 cl_L_150 w_422 rfl rfl (Nat.le_of_ble_eq_true rfl) ⟨Nat.le_of_ble_eq_true rfl, Nat.le_of_ble_eq_true rfl⟩ rfl rfl (show (fc + 4) ≤ 600000 from by omega) (show (fs + 42) ≤ 7302250 from by omega) (j_L_isItem hro ev34) rfl ?_
      refine kJ_if_ne 282 284 d_L_law_279 rfl rfl (fun hc => ?_) (fun hc => ?_)
      · have hf := kIf_t hf (kB2_1 hc)
        refine kJ_iinc 287 3 [(4, .int (x4 + 1)), (0, .retAddr 2), (1, .ref 0), (3, .int x3)] d_L_law_284 rfl ki_1 (Nat.le_of_ble_eq_true rfl) rfl rfl ?_
        refine kJ_goto 263 d_L_law_287 rfl ?_
        refine kJ_sub [1, 2, 3, 0] rfl ?_
        exact hrec263 K35 h33 (x4 + 1) _ _ (by omega) (by omega) hf
      · have hf := kIf_f hf (kB2_0 hc)
        refine kJ_iconst 283 0 d_L_law_282 ki_0 rfl ?_
        cases hf
        exact kJ_iret d_L_law_283 rfl (kB2_z _) (show (fc + 4) ≤ 600000 from by omega) (show (fs + 42) ≤ 7302250 from by omega)
def b_L_law_238 (L : Nat) (xs : Nat → Int32) : Nat → List Nat → kH → Int32 → Option (Bool × List Nat × kH)
  | 0, _, _, _ => none
  | n + 1, K, h, x3 => (fun rec238 => if 56 ≤ x3 then (kBi (f_P_count h 8) fun v23 => kBi (f_P_count h 9) fun v24 => kBi (f_P_count h 10) fun v25 => kBi (f_P_count h 11) fun v26 => kBi (f_P_count h 12) fun v27 => kBi (f_P_count h 2) fun v28 => if ((((v23 + v24) + v25) + v26) + v27) = v28 then (some (true, K, h)) else (some (false, K, h))) else (kBt (f_L_isAct L xs K h (44 + (5 * x3))) fun v30 K31 h29 => if v30 = true then (b_L_law_263 L xs rec238 x3 6 K31 h29 0) else (some (false, K31, h29)))) (fun K' h' x3' => b_L_law_238 L xs n K' h' x3')
theorem c_L_law_238 {E : kE} {L : Nat} {xs : Nat → Int32} (hro : kRo E L xs) {r : Bool} {K' : List Nat} {h' : kH} : ∀ (n : Nat) (K : List Nat) (h : kH) (x3 : Int32) (fc fs : Nat) (hfc : fc + n * 30 ≤ 600000) (hfs : fs + n * 300 ≤ 7302250), b_L_law_238 L xs n K h x3 = some (r, K', h') → kJ E m_L_law (some (kB2 r)) (mk K' h') fc fs 238 [(0, .retAddr 2), (1, .ref 0), (3, .int x3)] [] (mk K h) := by
  intro n
  induction n with
  | zero =>
    intro K h x3 fc fs hfc hfs hf
    have hf : (none : Option (Bool × List Nat × kH)) = some (r, K', h') := hf
    cases hf
  | succ n hrec238 =>
    intro K h x3 fc fs hfc hfs hf
    rw [b_L_law_238] at hf
    dsimp only at hf
    refine kJ_iload_n 239 2 d_L_law_238 rfl rfl rfl ?_
    refine kJ_bipush 241 56 d_L_law_239 kb_56 rfl ?_
    refine kJ_icmp_ge 244 296 d_L_law_241 rfl rfl (fun hc => ?_) (fun hc => ?_)
    · have hf := kIf_t hf hc
      refine kJ_aload_n 297 1 d_L_law_296 rfl rfl rfl rfl ?_
      refine kJ_bipush 299 8 d_L_law_297 kb_8 rfl ?_
      obtain ⟨v23, ev23, hf⟩ := kBi_some hf
      refine kM_callv 302 m_P_count [.int 8] [] d_L_law_299 cl_L_28 ⟨w_397, w_398⟩ (kp_0).x ⟨rfl, by decide⟩ ⟨_, _, rfl⟩ rfl rfl (Nat.le_of_ble_eq_true rfl) ⟨Nat.le_of_ble_eq_true rfl, Nat.le_of_ble_eq_true rfl⟩ ⟨rfl, rfl⟩ ⟨(show fc ≤ 600000 from by omega), (show fs ≤ 7302250 from by omega)⟩ (j_P_count hro ev23) rfl ?_
      refine kJ_aload_n 303 1 d_L_law_302 rfl rfl rfl rfl ?_
      refine kJ_bipush 305 9 d_L_law_303 kb_9 rfl ?_
      obtain ⟨v24, ev24, hf⟩ := kBi_some hf
      refine kM_callv 308 m_P_count [.int 9] [.int v23] d_L_law_305 cl_L_28 ⟨w_397, w_398⟩ (kp_0).x ⟨rfl, by decide⟩ ⟨_, _, rfl⟩ rfl rfl (Nat.le_of_ble_eq_true rfl) ⟨Nat.le_of_ble_eq_true rfl, Nat.le_of_ble_eq_true rfl⟩ ⟨rfl, rfl⟩ ⟨(show fc ≤ 600000 from by omega), (show fs ≤ 7302250 from by omega)⟩ (j_P_count hro ev24) rfl ?_
      refine kJ_iadd 309 d_L_law_308 rfl ?_
      refine kJ_aload_n 310 1 d_L_law_309 rfl rfl rfl rfl ?_
      refine kJ_bipush 312 10 d_L_law_310 kb_10 rfl ?_
      obtain ⟨v25, ev25, hf⟩ := kBi_some hf
      refine kM_callv 315 m_P_count [.int 10] [.int (v23 + v24)] d_L_law_312 cl_L_28 ⟨w_397, w_398⟩ (kp_0).x ⟨rfl, by decide⟩ ⟨_, _, rfl⟩ rfl rfl (Nat.le_of_ble_eq_true rfl) ⟨Nat.le_of_ble_eq_true rfl, Nat.le_of_ble_eq_true rfl⟩ ⟨rfl, rfl⟩ ⟨(show fc ≤ 600000 from by omega), (show fs ≤ 7302250 from by omega)⟩ (j_P_count hro ev25) rfl ?_
      refine kJ_iadd 316 d_L_law_315 rfl ?_
      refine kJ_aload_n 317 1 d_L_law_316 rfl rfl rfl rfl ?_
      refine kJ_bipush 319 11 d_L_law_317 kb_11 rfl ?_
      obtain ⟨v26, ev26, hf⟩ := kBi_some hf
      refine kM_callv 322 m_P_count [.int 11] [.int ((v23 + v24) + v25)] d_L_law_319 cl_L_28 ⟨w_397, w_398⟩ (kp_0).x ⟨rfl, by decide⟩ ⟨_, _, rfl⟩ rfl rfl (Nat.le_of_ble_eq_true rfl) ⟨Nat.le_of_ble_eq_true rfl, Nat.le_of_ble_eq_true rfl⟩ ⟨rfl, rfl⟩ ⟨(show fc ≤ 600000 from by omega), (show fs ≤ 7302250 from by omega)⟩ (j_P_count hro ev26) rfl ?_
      refine kJ_iadd 323 d_L_law_322 rfl ?_
      refine kJ_aload_n 324 1 d_L_law_323 rfl rfl rfl rfl ?_
      refine kJ_bipush 326 12 d_L_law_324 kb_12 rfl ?_
      obtain ⟨v27, ev27, hf⟩ := kBi_some hf
      refine kM_callv 329 m_P_count [.int 12] [.int (((v23 + v24) + v25) + v26)] d_L_law_326 cl_L_28 ⟨w_397, w_398⟩ (kp_0).x ⟨rfl, by decide⟩ ⟨_, _, rfl⟩ rfl rfl (Nat.le_of_ble_eq_true rfl) ⟨Nat.le_of_ble_eq_true rfl, Nat.le_of_ble_eq_true rfl⟩ ⟨rfl, rfl⟩ ⟨(show fc ≤ 600000 from by omega), (show fs ≤ 7302250 from by omega)⟩ (j_P_count hro ev27) rfl ?_
      refine kJ_iadd 330 d_L_law_329 rfl ?_
      refine kJ_aload_n 331 1 d_L_law_330 rfl rfl rfl rfl ?_
      refine kJ_iconst 332 2 d_L_law_331 ki_2 rfl ?_
      obtain ⟨v28, ev28, hf⟩ := kBi_some hf
      refine kM_callv 335 m_P_count [.int 2] [.int ((((v23 + v24) + v25) + v26) + v27)] d_L_law_332 cl_L_28 ⟨w_397, w_398⟩ (kp_0).x ⟨rfl, by decide⟩ ⟨_, _, rfl⟩ rfl rfl (Nat.le_of_ble_eq_true rfl) ⟨Nat.le_of_ble_eq_true rfl, Nat.le_of_ble_eq_true rfl⟩ ⟨rfl, rfl⟩ ⟨(show fc ≤ 600000 from by omega), (show fs ≤ 7302250 from by omega)⟩ (j_P_count hro ev28) rfl ?_
      refine kJ_icmp_ne 338 342 d_L_law_335 rfl rfl (fun hc => ?_) (fun hc => ?_)
      · have hf := kIf_f hf hc
        refine kJ_iconst 343 0 d_L_law_342 ki_0 rfl ?_
        cases hf
        exact kJ_iret d_L_law_343 rfl (kB2_z _) (show fc ≤ 600000 from by omega) (show fs ≤ 7302250 from by omega)
      · have hf := kIf_t hf hc
        refine kJ_iconst 339 1 d_L_law_338 ki_1 rfl ?_
        refine kJ_goto 343 d_L_law_339 rfl ?_
        cases hf
        exact kJ_iret d_L_law_343 rfl (kB2_z _) (show fc ≤ 600000 from by omega) (show fs ≤ 7302250 from by omega)
    · have hf := kIf_f hf hc
      refine kJ_aload_n 245 1 d_L_law_244 rfl rfl rfl rfl ?_
      refine kJ_aload_n 246 0 d_L_law_245 rfl rfl rfl rfl ?_
      refine kJ_bipush 248 44 d_L_law_246 kb_44 rfl ?_
      refine kJ_iconst 249 5 d_L_law_248 ki_5 rfl ?_
      refine kJ_iload_n 250 2 d_L_law_249 rfl rfl rfl ?_
      refine kJ_imul 251 d_L_law_250 rfl ?_
      refine kJ_iadd 252 d_L_law_251 rfl ?_
      obtain ⟨v30, K31, h29, ev30, hf⟩ := kBt_some hf
      refine kX_calls 255 m_L_isAct [.ref 0, .retAddr 2, .int (44 + (5 * x3))] [] (fc + 4) (fs + 42) d_L_law_252 cl_L_146 w_523 rfl rfl (Nat.le_of_ble_eq_true rfl) ⟨Nat.le_of_ble_eq_true rfl, Nat.le_of_ble_eq_true rfl⟩ rfl rfl (show (fc + 4) ≤ 600000 from by omega) (show (fs + 42) ≤ 7302250 from by omega) (j_L_isAct hro ev30) rfl ?_
      refine kJ_if_ne 258 260 d_L_law_255 rfl rfl (fun hc => ?_) (fun hc => ?_)
      · have hf := kIf_t hf (kB2_1 hc)
        refine kJ_iconst 261 0 d_L_law_260 ki_0 rfl ?_
        refine kJ_istore 263 [(4, .int 0), (0, .retAddr 2), (1, .ref 0), (3, .int x3)] d_L_law_261 (Nat.le_of_ble_eq_true rfl) rfl rfl ?_
        refine kJ_sub [1, 2, 3, 0] rfl ?_
        exact c_L_law_263 hro hrec238 6 K31 h29 0 _ _ (by omega) (by omega) hf
      · have hf := kIf_f hf (kB2_0 hc)
        refine kJ_iconst 259 0 d_L_law_258 ki_0 rfl ?_
        cases hf
        exact kJ_iret d_L_law_259 rfl (kB2_z _) (show (fc + 4) ≤ 600000 from by omega) (show (fs + 42) ≤ 7302250 from by omega)
def b_L_law_209 (L : Nat) (xs : Nat → Int32) (rec168 : kH → Int32 → Option (Bool × List Nat × kH)) (K : List Nat) (h : kH) (x2 : Int32) (x3 : Int32) (s1 : Int32) (s2 : Int32) : Option (Bool × List Nat × kH) := kBd (f_P_item h s1 s2) fun v39 h38 => if v39 = x3 then (rec168 h38 (x3 + 1)) else (some (false, K, h38))
theorem c_L_law_209 {E : kE} {L : Nat} {xs : Nat → Int32} (hro : kRo E L xs) {rec168 : kH → Int32 → Option (Bool × List Nat × kH)} {K : List Nat} {h : kH} {x2 : Int32} {x3 : Int32} {s1 : Int32} {s2 : Int32} {r : Bool} {K' : List Nat} {h' : kH} (hrec168 : ∀ (h : kH) (x3 : Int32), rec168 h x3 = some (r, K', h') → kJ E m_L_law (some (kB2 r)) (mk K' h') 786 8787 168 [(0, .retAddr 2), (1, .ref 0), (2, .int x2), (3, .int x3)] [] (mk K h)) (hf : b_L_law_209 L xs rec168 K h x2 x3 s1 s2 = some (r, K', h')) : kJ E m_L_law (some (kB2 r)) (mk K' h') 786 8787 209 [(0, .retAddr 2), (1, .ref 0), (2, .int x2), (3, .int x3)] [.int s2, .int s1, .ref 0] (mk K h) := by
  unfold b_L_law_209 at hf
  obtain ⟨v39, h38, ev39, hf⟩ := kBd_some hf
  refine kM_callv 212 m_P_item [.int s1, .int s2] [] d_L_law_209 cl_L_140 ⟨w_353, w_354⟩ (kp_0).x ⟨rfl, by decide⟩ ⟨_, _, rfl⟩ rfl rfl (Nat.le_of_ble_eq_true rfl) ⟨Nat.le_of_ble_eq_true rfl, Nat.le_of_ble_eq_true rfl⟩ ⟨rfl, rfl⟩ ⟨Nat.le_of_ble_eq_true rfl, Nat.le_of_ble_eq_true rfl⟩ (j_P_item hro ev39) rfl ?_
  refine kJ_iload_n 213 3 d_L_law_212 rfl rfl rfl ?_
  refine kJ_icmp_eq 216 218 d_L_law_213 rfl rfl (fun hc => ?_) (fun hc => ?_)
  · have hf := kIf_t hf hc
    refine kJ_iinc 221 3 [(3, .int (x3 + 1)), (0, .retAddr 2), (1, .ref 0), (2, .int x2)] d_L_law_218 rfl ki_1 (Nat.le_of_ble_eq_true rfl) rfl rfl ?_
    refine kJ_goto 168 d_L_law_221 rfl ?_
    refine kJ_sub [1, 2, 3, 0] rfl ?_
    exact hrec168 h38 (x3 + 1) hf
  · have hf := kIf_f hf hc
    refine kJ_iconst 217 0 d_L_law_216 ki_0 rfl ?_
    cases hf
    exact kJ_iret d_L_law_217 rfl (kB2_z _) (Nat.le_of_ble_eq_true rfl) (Nat.le_of_ble_eq_true rfl)
def b_L_law_168 (L : Nat) (xs : Nat → Int32) (K : List Nat) (x2 : Int32) : Nat → kH → Int32 → Option (Bool × List Nat × kH)
  | 0, _, _ => none
  | n + 1, h, x3 => (fun rec168 => if 4 ≤ x3 then (kBi (f_L_cell L xs 43 x2) fun v20 => kBd (f_P_chair h v20) fun v22 h21 => b_L_law_238 L xs  60 K h21 0) else (kBi (f_L_cell L xs (31 + x3) 3) fun v36 => kBi (f_L_cell L xs (35 + x3) 3) fun v37 => if v37 = 0 then (kBi (f_L_cell L xs (39 + x3) 16) fun v40 => b_L_law_209 L xs rec168 K h x2 x3 v36 v40) else (b_L_law_209 L xs rec168 K h x2 x3 v36 0))) (fun h' x3' => b_L_law_168 L xs K x2 n h' x3')
theorem c_L_law_168 {E : kE} {L : Nat} {xs : Nat → Int32} (hro : kRo E L xs) {K : List Nat} {x2 : Int32} {r : Bool} {K' : List Nat} {h' : kH} : ∀ (n : Nat) (h : kH) (x3 : Int32), b_L_law_168 L xs K x2 n h x3 = some (r, K', h') → kJ E m_L_law (some (kB2 r)) (mk K' h') 786 8787 168 [(0, .retAddr 2), (1, .ref 0), (2, .int x2), (3, .int x3)] [] (mk K h) := by
  intro n
  induction n with
  | zero =>
    intro h x3 hf
    have hf : (none : Option (Bool × List Nat × kH)) = some (r, K', h') := hf
    cases hf
  | succ n hrec168 =>
    intro h x3 hf
    rw [b_L_law_168] at hf
    dsimp only at hf
    refine kJ_iload_n 169 3 d_L_law_168 rfl rfl rfl ?_
    refine kJ_iconst 170 4 d_L_law_169 ki_4 rfl ?_
    refine kJ_icmp_ge 173 224 d_L_law_170 rfl rfl (fun hc => ?_) (fun hc => ?_)
    · have hf := kIf_t hf hc
      refine kJ_aload_n 225 1 d_L_law_224 rfl rfl rfl rfl ?_
      refine kJ_aload_n 226 0 d_L_law_225 rfl rfl rfl rfl ?_
      refine kJ_bipush 228 43 d_L_law_226 kb_43 rfl ?_
      refine kJ_iload_n 229 2 d_L_law_228 rfl rfl rfl ?_
      obtain ⟨v20, ev20, hf⟩ := kBi_some hf
      refine kM_calls 232 m_L_cell [.retAddr 2, .int 43, .int x2] [.ref 0] d_L_law_229 cl_L_93 w_418 rfl rfl (Nat.le_of_ble_eq_true rfl) ⟨Nat.le_of_ble_eq_true rfl, Nat.le_of_ble_eq_true rfl⟩ ⟨rfl, rfl⟩ ⟨Nat.le_of_ble_eq_true rfl, Nat.le_of_ble_eq_true rfl⟩ (j_L_cell hro ev20) rfl ?_
      obtain ⟨v22, h21, ev22, hf⟩ := kBd_some hf
      refine kM_callv 235 m_P_chair [.int v20] [] d_L_law_232 cl_L_143 ⟨w_368, w_369⟩ (kp_0).x ⟨rfl, by decide⟩ ⟨_, _, rfl⟩ rfl rfl (Nat.le_of_ble_eq_true rfl) ⟨Nat.le_of_ble_eq_true rfl, Nat.le_of_ble_eq_true rfl⟩ ⟨rfl, rfl⟩ ⟨Nat.le_of_ble_eq_true rfl, Nat.le_of_ble_eq_true rfl⟩ (j_P_chair hro ev22) rfl ?_
      refine kJ_pop 236 d_L_law_235 rfl rfl ?_
      refine kJ_iconst 237 0 d_L_law_236 ki_0 rfl ?_
      refine kJ_istore_n 238 [(3, .int 0), (0, .retAddr 2), (1, .ref 0), (2, .int x2)] d_L_law_237 rfl (Nat.le_of_ble_eq_true rfl) rfl rfl ?_
      refine kJ_sub [1, 2, 0] rfl ?_
      exact c_L_law_238 hro 60 K h21 0 _ _ (by omega) (by omega) hf
    · have hf := kIf_f hf hc
      refine kJ_aload_n 174 1 d_L_law_173 rfl rfl rfl rfl ?_
      refine kJ_aload_n 175 0 d_L_law_174 rfl rfl rfl rfl ?_
      refine kJ_bipush 177 31 d_L_law_175 kb_31 rfl ?_
      refine kJ_iload_n 178 3 d_L_law_177 rfl rfl rfl ?_
      refine kJ_iadd 179 d_L_law_178 rfl ?_
      refine kJ_iconst 180 3 d_L_law_179 ki_3 rfl ?_
      obtain ⟨v36, ev36, hf⟩ := kBi_some hf
      refine kM_calls 183 m_L_cell [.retAddr 2, .int (31 + x3), .int 3] [.ref 0] d_L_law_180 cl_L_93 w_418 rfl rfl (Nat.le_of_ble_eq_true rfl) ⟨Nat.le_of_ble_eq_true rfl, Nat.le_of_ble_eq_true rfl⟩ ⟨rfl, rfl⟩ ⟨Nat.le_of_ble_eq_true rfl, Nat.le_of_ble_eq_true rfl⟩ (j_L_cell hro ev36) rfl ?_
      refine kJ_aload_n 184 0 d_L_law_183 rfl rfl rfl rfl ?_
      refine kJ_bipush 186 35 d_L_law_184 kb_35 rfl ?_
      refine kJ_iload_n 187 3 d_L_law_186 rfl rfl rfl ?_
      refine kJ_iadd 188 d_L_law_187 rfl ?_
      refine kJ_iconst 189 3 d_L_law_188 ki_3 rfl ?_
      obtain ⟨v37, ev37, hf⟩ := kBi_some hf
      refine kM_calls 192 m_L_cell [.retAddr 2, .int (35 + x3), .int 3] [.int v36, .ref 0] d_L_law_189 cl_L_93 w_418 rfl rfl (Nat.le_of_ble_eq_true rfl) ⟨Nat.le_of_ble_eq_true rfl, Nat.le_of_ble_eq_true rfl⟩ ⟨rfl, rfl⟩ ⟨Nat.le_of_ble_eq_true rfl, Nat.le_of_ble_eq_true rfl⟩ (j_L_cell hro ev37) rfl ?_
      refine kJ_if_ne 195 208 d_L_law_192 rfl rfl (fun hc => ?_) (fun hc => ?_)
      · have hf := kIf_f hf hc
        refine kJ_iconst 209 0 d_L_law_208 ki_0 rfl ?_
        refine kJ_sub [0, 1, 2, 3] rfl ?_
        exact c_L_law_209 hro hrec168 hf
      · have hf := kIf_t hf hc
        refine kJ_aload_n 196 0 d_L_law_195 rfl rfl rfl rfl ?_
        refine kJ_bipush 198 39 d_L_law_196 kb_39 rfl ?_
        refine kJ_iload_n 199 3 d_L_law_198 rfl rfl rfl ?_
        refine kJ_iadd 200 d_L_law_199 rfl ?_
        refine kJ_bipush 202 16 d_L_law_200 kb_16 rfl ?_
        obtain ⟨v40, ev40, hf⟩ := kBi_some hf
        refine kM_calls 205 m_L_cell [.retAddr 2, .int (39 + x3), .int 16] [.int v36, .ref 0] d_L_law_202 cl_L_93 w_418 rfl rfl (Nat.le_of_ble_eq_true rfl) ⟨Nat.le_of_ble_eq_true rfl, Nat.le_of_ble_eq_true rfl⟩ ⟨rfl, rfl⟩ ⟨Nat.le_of_ble_eq_true rfl, Nat.le_of_ble_eq_true rfl⟩ (j_L_cell hro ev40) rfl ?_
        refine kJ_goto 209 d_L_law_205 rfl ?_
        refine kJ_sub [0, 1, 2, 3] rfl ?_
        exact c_L_law_209 hro hrec168 hf
def b_L_law_113 (L : Nat) (xs : Nat → Int32) (K : List Nat) (x2 : Int32) : Nat → kH → Int32 → Option (Bool × List Nat × kH)
  | 0, _, _ => none
  | n + 1, h, x3 => (fun rec113 => if x2 ≤ x3 then (b_L_law_168 L xs K x2 kFuel h 0) else (kBi (f_L_cell L xs (7 + x3) 9) fun v41 => kBi (f_L_cell L xs (19 + x3) 4) fun v42 => kBd (f_P_member h (1 + v41) v42) fun v44 h43 => if v44 = x3 then (kBi (f_P_ofMember h43 x3 3) fun v45 => if v45 = (-6) then (rec113 h43 (x3 + 1)) else (some (false, K, h43))) else (some (false, K, h43)))) (fun h' x3' => b_L_law_113 L xs K x2 n h' x3')
theorem c_L_law_113 {E : kE} {L : Nat} {xs : Nat → Int32} (hro : kRo E L xs) {K : List Nat} {x2 : Int32} {r : Bool} {K' : List Nat} {h' : kH} : ∀ (n : Nat) (h : kH) (x3 : Int32), b_L_law_113 L xs K x2 n h x3 = some (r, K', h') → kJ E m_L_law (some (kB2 r)) (mk K' h') 786 8787 113 [(0, .retAddr 2), (1, .ref 0), (2, .int x2), (3, .int x3)] [] (mk K h) := by
  intro n
  induction n with
  | zero =>
    intro h x3 hf
    have hf : (none : Option (Bool × List Nat × kH)) = some (r, K', h') := hf
    cases hf
  | succ n hrec113 =>
    intro h x3 hf
    rw [b_L_law_113] at hf
    dsimp only at hf
    refine kJ_iload_n 114 3 d_L_law_113 rfl rfl rfl ?_
    refine kJ_iload_n 115 2 d_L_law_114 rfl rfl rfl ?_
    refine kJ_icmp_ge 118 166 d_L_law_115 rfl rfl (fun hc => ?_) (fun hc => ?_)
    · have hf := kIf_t hf hc
      refine kJ_iconst 167 0 d_L_law_166 ki_0 rfl ?_
      refine kJ_istore_n 168 [(3, .int 0), (0, .retAddr 2), (1, .ref 0), (2, .int x2)] d_L_law_167 rfl (Nat.le_of_ble_eq_true rfl) rfl rfl ?_
      refine kJ_sub [1, 2, 3, 0] rfl ?_
      exact c_L_law_168 hro kFuel h 0 hf
    · have hf := kIf_f hf hc
      refine kJ_aload_n 119 1 d_L_law_118 rfl rfl rfl rfl ?_
      refine kJ_iconst 120 1 d_L_law_119 ki_1 rfl ?_
      refine kJ_aload_n 121 0 d_L_law_120 rfl rfl rfl rfl ?_
      refine kJ_bipush 123 7 d_L_law_121 kb_7 rfl ?_
      refine kJ_iload_n 124 3 d_L_law_123 rfl rfl rfl ?_
      refine kJ_iadd 125 d_L_law_124 rfl ?_
      refine kJ_bipush 127 9 d_L_law_125 kb_9 rfl ?_
      obtain ⟨v41, ev41, hf⟩ := kBi_some hf
      refine kM_calls 130 m_L_cell [.retAddr 2, .int (7 + x3), .int 9] [.int 1, .ref 0] d_L_law_127 cl_L_93 w_418 rfl rfl (Nat.le_of_ble_eq_true rfl) ⟨Nat.le_of_ble_eq_true rfl, Nat.le_of_ble_eq_true rfl⟩ ⟨rfl, rfl⟩ ⟨Nat.le_of_ble_eq_true rfl, Nat.le_of_ble_eq_true rfl⟩ (j_L_cell hro ev41) rfl ?_
      refine kJ_iadd 131 d_L_law_130 rfl ?_
      refine kJ_aload_n 132 0 d_L_law_131 rfl rfl rfl rfl ?_
      refine kJ_bipush 134 19 d_L_law_132 kb_19 rfl ?_
      refine kJ_iload_n 135 3 d_L_law_134 rfl rfl rfl ?_
      refine kJ_iadd 136 d_L_law_135 rfl ?_
      refine kJ_iconst 137 4 d_L_law_136 ki_4 rfl ?_
      obtain ⟨v42, ev42, hf⟩ := kBi_some hf
      refine kM_calls 140 m_L_cell [.retAddr 2, .int (19 + x3), .int 4] [.int (1 + v41), .ref 0] d_L_law_137 cl_L_93 w_418 rfl rfl (Nat.le_of_ble_eq_true rfl) ⟨Nat.le_of_ble_eq_true rfl, Nat.le_of_ble_eq_true rfl⟩ ⟨rfl, rfl⟩ ⟨Nat.le_of_ble_eq_true rfl, Nat.le_of_ble_eq_true rfl⟩ (j_L_cell hro ev42) rfl ?_
      obtain ⟨v44, h43, ev44, hf⟩ := kBd_some hf
      refine kM_callv 143 m_P_member [.int (1 + v41), .int v42] [] d_L_law_140 cl_L_137 ⟨w_345, w_346⟩ (kp_0).x ⟨rfl, by decide⟩ ⟨_, _, rfl⟩ rfl rfl (Nat.le_of_ble_eq_true rfl) ⟨Nat.le_of_ble_eq_true rfl, Nat.le_of_ble_eq_true rfl⟩ ⟨rfl, rfl⟩ ⟨Nat.le_of_ble_eq_true rfl, Nat.le_of_ble_eq_true rfl⟩ (j_P_member hro ev44) rfl ?_
      refine kJ_iload_n 144 3 d_L_law_143 rfl rfl rfl ?_
      refine kJ_icmp_ne 147 158 d_L_law_144 rfl rfl (fun hc => ?_) (fun hc => ?_)
      · have hf := kIf_f hf hc
        refine kJ_iconst 159 0 d_L_law_158 ki_0 rfl ?_
        cases hf
        exact kJ_iret d_L_law_159 rfl (kB2_z _) (Nat.le_of_ble_eq_true rfl) (Nat.le_of_ble_eq_true rfl)
      · have hf := kIf_t hf hc
        refine kJ_aload_n 148 1 d_L_law_147 rfl rfl rfl rfl ?_
        refine kJ_iload_n 149 3 d_L_law_148 rfl rfl rfl ?_
        refine kJ_iconst 150 3 d_L_law_149 ki_3 rfl ?_
        obtain ⟨v45, ev45, hf⟩ := kBi_some hf
        refine kM_callv 153 m_P_ofMember [.int x3, .int 3] [] d_L_law_150 cl_L_14 ⟨w_380, w_381⟩ (kp_0).x ⟨rfl, by decide⟩ ⟨_, _, rfl⟩ rfl rfl (Nat.le_of_ble_eq_true rfl) ⟨Nat.le_of_ble_eq_true rfl, Nat.le_of_ble_eq_true rfl⟩ ⟨rfl, rfl⟩ ⟨Nat.le_of_ble_eq_true rfl, Nat.le_of_ble_eq_true rfl⟩ (j_P_ofMember hro ev45) rfl ?_
        refine kJ_bipush 155 (-6) d_L_law_153 kb_m6 rfl ?_
        refine kJ_icmp_eq 158 160 d_L_law_155 rfl rfl (fun hc => ?_) (fun hc => ?_)
        · have hf := kIf_t hf hc
          refine kJ_iinc 163 3 [(3, .int (x3 + 1)), (0, .retAddr 2), (1, .ref 0), (2, .int x2)] d_L_law_160 rfl ki_1 (Nat.le_of_ble_eq_true rfl) rfl rfl ?_
          refine kJ_goto 113 d_L_law_163 rfl ?_
          refine kJ_sub [1, 2, 3, 0] rfl ?_
          exact hrec113 h43 (x3 + 1) hf
        · have hf := kIf_f hf hc
          refine kJ_iconst 159 0 d_L_law_158 ki_0 rfl ?_
          cases hf
          exact kJ_iret d_L_law_159 rfl (kB2_z _) (Nat.le_of_ble_eq_true rfl) (Nat.le_of_ble_eq_true rfl)
def b_L_law_96 (L : Nat) (xs : Nat → Int32) (K : List Nat) (h : kH) (s1 : Int32) (s2 : Bool) : Option (Bool × List Nat × kH) := kBd (f_P_set h s1 (kB2 s2)) fun v18 h17 => kBi (f_L_cell L xs 6 6) fun v19 => b_L_law_113 L xs K (3 + v19) kFuel h17 0
theorem c_L_law_96 {E : kE} {L : Nat} {xs : Nat → Int32} (hro : kRo E L xs) {K : List Nat} {h : kH} {s1 : Int32} {s2 : Bool} {r : Bool} {K' : List Nat} {h' : kH} (hf : b_L_law_96 L xs K h s1 s2 = some (r, K', h')) : kJ E m_L_law (some (kB2 r)) (mk K' h') 786 8787 96 [(0, .retAddr 2), (1, .ref 0)] [.int (kB2 s2), .int s1, .ref 0] (mk K h) := by
  unfold b_L_law_96 at hf
  obtain ⟨v18, h17, ev18, hf⟩ := kBd_some hf
  refine kM_callv 99 m_P_set [.int s1, .int (kB2 s2)] [] d_L_law_96 cl_L_134 ⟨w_307, w_308⟩ (kp_0).x ⟨rfl, by decide⟩ ⟨_, _, rfl⟩ rfl rfl (Nat.le_of_ble_eq_true rfl) ⟨Nat.le_of_ble_eq_true rfl, Nat.le_of_ble_eq_true rfl⟩ ⟨rfl, rfl⟩ ⟨Nat.le_of_ble_eq_true rfl, Nat.le_of_ble_eq_true rfl⟩ (j_P_set hro ev18) rfl ?_
  refine kJ_pop 100 d_L_law_99 rfl rfl ?_
  refine kJ_iconst 101 3 d_L_law_100 ki_3 rfl ?_
  refine kJ_aload_n 102 0 d_L_law_101 rfl rfl rfl rfl ?_
  refine kJ_bipush 104 6 d_L_law_102 kb_6 rfl ?_
  refine kJ_bipush 106 6 d_L_law_104 kb_6 rfl ?_
  obtain ⟨v19, ev19, hf⟩ := kBi_some hf
  refine kM_calls 109 m_L_cell [.retAddr 2, .int 6, .int 6] [.int 3] d_L_law_106 cl_L_93 w_418 rfl rfl (Nat.le_of_ble_eq_true rfl) ⟨Nat.le_of_ble_eq_true rfl, Nat.le_of_ble_eq_true rfl⟩ ⟨rfl, rfl⟩ ⟨Nat.le_of_ble_eq_true rfl, Nat.le_of_ble_eq_true rfl⟩ (j_L_cell hro ev19) rfl ?_
  refine kJ_iadd 110 d_L_law_109 rfl ?_
  refine kJ_istore_n 111 [(2, .int (3 + v19)), (0, .retAddr 2), (1, .ref 0)] d_L_law_110 rfl (Nat.le_of_ble_eq_true rfl) rfl rfl ?_
  refine kJ_iconst 112 0 d_L_law_111 ki_0 rfl ?_
  refine kJ_istore_n 113 [(3, .int 0), (2, .int (3 + v19)), (0, .retAddr 2), (1, .ref 0)] d_L_law_112 rfl (Nat.le_of_ble_eq_true rfl) rfl rfl ?_
  refine kJ_sub [2, 3, 1, 0] rfl ?_
  exact c_L_law_113 hro kFuel h17 0 hf
def b_L_law_76 (L : Nat) (xs : Nat → Int32) (K : List Nat) (h : kH) (s1 : Int32) (s2 : Bool) : Option (Bool × List Nat × kH) := kBd (f_P_set h s1 (kB2 s2)) fun v15 h14 => kBi (f_L_cell L xs 5 4) fun v16 => if v16 = 0 then (b_L_law_96 L xs K h14 5 false) else (b_L_law_96 L xs K h14 5 true)
theorem c_L_law_76 {E : kE} {L : Nat} {xs : Nat → Int32} (hro : kRo E L xs) {K : List Nat} {h : kH} {s1 : Int32} {s2 : Bool} {r : Bool} {K' : List Nat} {h' : kH} (hf : b_L_law_76 L xs K h s1 s2 = some (r, K', h')) : kJ E m_L_law (some (kB2 r)) (mk K' h') 786 8787 76 [(0, .retAddr 2), (1, .ref 0)] [.int (kB2 s2), .int s1, .ref 0] (mk K h) := by
  unfold b_L_law_76 at hf
  obtain ⟨v15, h14, ev15, hf⟩ := kBd_some hf
  refine kM_callv 79 m_P_set [.int s1, .int (kB2 s2)] [] d_L_law_76 cl_L_134 ⟨w_307, w_308⟩ (kp_0).x ⟨rfl, by decide⟩ ⟨_, _, rfl⟩ rfl rfl (Nat.le_of_ble_eq_true rfl) ⟨Nat.le_of_ble_eq_true rfl, Nat.le_of_ble_eq_true rfl⟩ ⟨rfl, rfl⟩ ⟨Nat.le_of_ble_eq_true rfl, Nat.le_of_ble_eq_true rfl⟩ (j_P_set hro ev15) rfl ?_
  refine kJ_pop 80 d_L_law_79 rfl rfl ?_
  refine kJ_aload_n 81 1 d_L_law_80 rfl rfl rfl rfl ?_
  refine kJ_iconst 82 5 d_L_law_81 ki_5 rfl ?_
  refine kJ_aload_n 83 0 d_L_law_82 rfl rfl rfl rfl ?_
  refine kJ_iconst 84 5 d_L_law_83 ki_5 rfl ?_
  refine kJ_iconst 85 4 d_L_law_84 ki_4 rfl ?_
  obtain ⟨v16, ev16, hf⟩ := kBi_some hf
  refine kM_calls 88 m_L_cell [.retAddr 2, .int 5, .int 4] [.int 5, .ref 0] d_L_law_85 cl_L_93 w_418 rfl rfl (Nat.le_of_ble_eq_true rfl) ⟨Nat.le_of_ble_eq_true rfl, Nat.le_of_ble_eq_true rfl⟩ ⟨rfl, rfl⟩ ⟨Nat.le_of_ble_eq_true rfl, Nat.le_of_ble_eq_true rfl⟩ (j_L_cell hro ev16) rfl ?_
  refine kJ_if_ne 91 95 d_L_law_88 rfl rfl (fun hc => ?_) (fun hc => ?_)
  · have hf := kIf_f hf hc
    refine kJ_iconst 96 1 d_L_law_95 ki_1 rfl ?_
    refine kJ_sub [0, 1] rfl ?_
    exact c_L_law_96 hro hf
  · have hf := kIf_t hf hc
    refine kJ_iconst 92 0 d_L_law_91 ki_0 rfl ?_
    refine kJ_goto 96 d_L_law_92 rfl ?_
    refine kJ_sub [0, 1] rfl ?_
    exact c_L_law_96 hro hf
def b_L_law_8 (L : Nat) (xs : Nat → Int32) (K : List Nat) (h : kH) : Option (Bool × List Nat × kH) := kBi (f_L_cell L xs 0 70) fun v1 => kBd (f_P_set h 0 v1) fun v3 h2 => kBi (f_L_cell L xs 1 50) fun v4 => kBd (f_P_set h2 1 v4) fun v6 h5 => kBi (f_L_cell L xs 2 200) fun v7 => kBd (f_P_set h5 2 v7) fun v9 h8 => kBi (f_L_cell L xs 3 5) fun v10 => kBd (f_P_set h8 3 v10) fun v12 h11 => kBi (f_L_cell L xs 4 4) fun v13 => if v13 = 0 then (b_L_law_76 L xs K h11 4 false) else (b_L_law_76 L xs K h11 4 true)
theorem c_L_law_8 {E : kE} {L : Nat} {xs : Nat → Int32} (hro : kRo E L xs) {K : List Nat} {h : kH} {r : Bool} {K' : List Nat} {h' : kH} (hf : b_L_law_8 L xs K h = some (r, K', h')) : kJ E m_L_law (some (kB2 r)) (mk K' h') 786 8787 8 [(0, .retAddr 2), (1, .ref 0)] [] (mk K h) := by
  unfold b_L_law_8 at hf
  refine kJ_aload_n 9 1 d_L_law_8 rfl rfl rfl rfl ?_
  refine kJ_iconst 10 0 d_L_law_9 ki_0 rfl ?_
  refine kJ_aload_n 11 0 d_L_law_10 rfl rfl rfl rfl ?_
  refine kJ_iconst 12 0 d_L_law_11 ki_0 rfl ?_
  refine kJ_bipush 14 70 d_L_law_12 kb_70 rfl ?_
  obtain ⟨v1, ev1, hf⟩ := kBi_some hf
  refine kM_calls 17 m_L_cell [.retAddr 2, .int 0, .int 70] [.int 0, .ref 0] d_L_law_14 cl_L_93 w_418 rfl rfl (Nat.le_of_ble_eq_true rfl) ⟨Nat.le_of_ble_eq_true rfl, Nat.le_of_ble_eq_true rfl⟩ ⟨rfl, rfl⟩ ⟨Nat.le_of_ble_eq_true rfl, Nat.le_of_ble_eq_true rfl⟩ (j_L_cell hro ev1) rfl ?_
  obtain ⟨v3, h2, ev3, hf⟩ := kBd_some hf
  refine kM_callv 20 m_P_set [.int 0, .int v1] [] d_L_law_17 cl_L_134 ⟨w_307, w_308⟩ (kp_0).x ⟨rfl, by decide⟩ ⟨_, _, rfl⟩ rfl rfl (Nat.le_of_ble_eq_true rfl) ⟨Nat.le_of_ble_eq_true rfl, Nat.le_of_ble_eq_true rfl⟩ ⟨rfl, rfl⟩ ⟨Nat.le_of_ble_eq_true rfl, Nat.le_of_ble_eq_true rfl⟩ (j_P_set hro ev3) rfl ?_
  refine kJ_pop 21 d_L_law_20 rfl rfl ?_
  refine kJ_aload_n 22 1 d_L_law_21 rfl rfl rfl rfl ?_
  refine kJ_iconst 23 1 d_L_law_22 ki_1 rfl ?_
  refine kJ_aload_n 24 0 d_L_law_23 rfl rfl rfl rfl ?_
  refine kJ_iconst 25 1 d_L_law_24 ki_1 rfl ?_
  refine kJ_bipush 27 50 d_L_law_25 kb_50 rfl ?_
  obtain ⟨v4, ev4, hf⟩ := kBi_some hf
  refine kM_calls 30 m_L_cell [.retAddr 2, .int 1, .int 50] [.int 1, .ref 0] d_L_law_27 cl_L_93 w_418 rfl rfl (Nat.le_of_ble_eq_true rfl) ⟨Nat.le_of_ble_eq_true rfl, Nat.le_of_ble_eq_true rfl⟩ ⟨rfl, rfl⟩ ⟨Nat.le_of_ble_eq_true rfl, Nat.le_of_ble_eq_true rfl⟩ (j_L_cell hro ev4) rfl ?_
  obtain ⟨v6, h5, ev6, hf⟩ := kBd_some hf
  refine kM_callv 33 m_P_set [.int 1, .int v4] [] d_L_law_30 cl_L_134 ⟨w_307, w_308⟩ (kp_0).x ⟨rfl, by decide⟩ ⟨_, _, rfl⟩ rfl rfl (Nat.le_of_ble_eq_true rfl) ⟨Nat.le_of_ble_eq_true rfl, Nat.le_of_ble_eq_true rfl⟩ ⟨rfl, rfl⟩ ⟨Nat.le_of_ble_eq_true rfl, Nat.le_of_ble_eq_true rfl⟩ (j_P_set hro ev6) rfl ?_
  refine kJ_pop 34 d_L_law_33 rfl rfl ?_
  refine kJ_aload_n 35 1 d_L_law_34 rfl rfl rfl rfl ?_
  refine kJ_iconst 36 2 d_L_law_35 ki_2 rfl ?_
  refine kJ_aload_n 37 0 d_L_law_36 rfl rfl rfl rfl ?_
  refine kJ_iconst 38 2 d_L_law_37 ki_2 rfl ?_
  refine kJ_sipush 41 200 d_L_law_38 ks_200 rfl ?_
  obtain ⟨v7, ev7, hf⟩ := kBi_some hf
  refine kM_calls 44 m_L_cell [.retAddr 2, .int 2, .int 200] [.int 2, .ref 0] d_L_law_41 cl_L_93 w_418 rfl rfl (Nat.le_of_ble_eq_true rfl) ⟨Nat.le_of_ble_eq_true rfl, Nat.le_of_ble_eq_true rfl⟩ ⟨rfl, rfl⟩ ⟨Nat.le_of_ble_eq_true rfl, Nat.le_of_ble_eq_true rfl⟩ (j_L_cell hro ev7) rfl ?_
  obtain ⟨v9, h8, ev9, hf⟩ := kBd_some hf
  refine kM_callv 47 m_P_set [.int 2, .int v7] [] d_L_law_44 cl_L_134 ⟨w_307, w_308⟩ (kp_0).x ⟨rfl, by decide⟩ ⟨_, _, rfl⟩ rfl rfl (Nat.le_of_ble_eq_true rfl) ⟨Nat.le_of_ble_eq_true rfl, Nat.le_of_ble_eq_true rfl⟩ ⟨rfl, rfl⟩ ⟨Nat.le_of_ble_eq_true rfl, Nat.le_of_ble_eq_true rfl⟩ (j_P_set hro ev9) rfl ?_
  refine kJ_pop 48 d_L_law_47 rfl rfl ?_
  refine kJ_aload_n 49 1 d_L_law_48 rfl rfl rfl rfl ?_
  refine kJ_iconst 50 3 d_L_law_49 ki_3 rfl ?_
  refine kJ_aload_n 51 0 d_L_law_50 rfl rfl rfl rfl ?_
  refine kJ_iconst 52 3 d_L_law_51 ki_3 rfl ?_
  refine kJ_iconst 53 5 d_L_law_52 ki_5 rfl ?_
  obtain ⟨v10, ev10, hf⟩ := kBi_some hf
  refine kM_calls 56 m_L_cell [.retAddr 2, .int 3, .int 5] [.int 3, .ref 0] d_L_law_53 cl_L_93 w_418 rfl rfl (Nat.le_of_ble_eq_true rfl) ⟨Nat.le_of_ble_eq_true rfl, Nat.le_of_ble_eq_true rfl⟩ ⟨rfl, rfl⟩ ⟨Nat.le_of_ble_eq_true rfl, Nat.le_of_ble_eq_true rfl⟩ (j_L_cell hro ev10) rfl ?_
  obtain ⟨v12, h11, ev12, hf⟩ := kBd_some hf
  refine kM_callv 59 m_P_set [.int 3, .int v10] [] d_L_law_56 cl_L_134 ⟨w_307, w_308⟩ (kp_0).x ⟨rfl, by decide⟩ ⟨_, _, rfl⟩ rfl rfl (Nat.le_of_ble_eq_true rfl) ⟨Nat.le_of_ble_eq_true rfl, Nat.le_of_ble_eq_true rfl⟩ ⟨rfl, rfl⟩ ⟨Nat.le_of_ble_eq_true rfl, Nat.le_of_ble_eq_true rfl⟩ (j_P_set hro ev12) rfl ?_
  refine kJ_pop 60 d_L_law_59 rfl rfl ?_
  refine kJ_aload_n 61 1 d_L_law_60 rfl rfl rfl rfl ?_
  refine kJ_iconst 62 4 d_L_law_61 ki_4 rfl ?_
  refine kJ_aload_n 63 0 d_L_law_62 rfl rfl rfl rfl ?_
  refine kJ_iconst 64 4 d_L_law_63 ki_4 rfl ?_
  refine kJ_iconst 65 4 d_L_law_64 ki_4 rfl ?_
  obtain ⟨v13, ev13, hf⟩ := kBi_some hf
  refine kM_calls 68 m_L_cell [.retAddr 2, .int 4, .int 4] [.int 4, .ref 0] d_L_law_65 cl_L_93 w_418 rfl rfl (Nat.le_of_ble_eq_true rfl) ⟨Nat.le_of_ble_eq_true rfl, Nat.le_of_ble_eq_true rfl⟩ ⟨rfl, rfl⟩ ⟨Nat.le_of_ble_eq_true rfl, Nat.le_of_ble_eq_true rfl⟩ (j_L_cell hro ev13) rfl ?_
  refine kJ_if_ne 71 75 d_L_law_68 rfl rfl (fun hc => ?_) (fun hc => ?_)
  · have hf := kIf_f hf hc
    refine kJ_iconst 76 1 d_L_law_75 ki_1 rfl ?_
    refine kJ_sub [0, 1] rfl ?_
    exact c_L_law_76 hro hf
  · have hf := kIf_t hf hc
    refine kJ_iconst 72 0 d_L_law_71 ki_0 rfl ?_
    refine kJ_goto 76 d_L_law_72 rfl ?_
    refine kJ_sub [0, 1] rfl ?_
    exact c_L_law_76 hro hf
