/-! ===== the law: its cases (written by lawcases.py) ===== -/
section LF
variable {p : Program} {l : Launch} {e : Env} {s : State} {m : MethodId} {args : Array Value} {below : List Frame} {meth : Method} {c : Code} {H : Heap} {locs : List Loc} {cells slots : Nat} {Q : State → Prop} {D : va_G} {dA : Nat → ClassId} {ad0 ad1 : Nat → Nat} {ls : Array Slot} {a : ab}
theorem lc_0 {b L i : Nat} {xs : Nat → Int32} (G : l_G p s m args c D dA ad0 ad1) (hX : va_X b L xs s s.heap) (hbl : b < s.heap.size) (h : l_H s D dA ad0 ad1 a a H locs) (hW : WF a) (hl : lv_has ls 4 [(0, .ref b), (1, .ref (ad0 0)), (2, .ref (ad1 0)), (3, .int (nI i))]) (hi : i + 6 ≤ L) (hL : L ≤ 384) (hce : cells ≤ room_1.cells) (hsl : slots ≤ room_1.slots) (kk : ∀ (a2 : ab) (H1 : Heap) (locs1 : List Loc), l_H s D dA ad0 ad1 a2 a2 H1 locs1 → W p l e room_1 s m args below meth c H1 locs1 cells slots Q (F0 m 1474 ls [])) : W p l e room_1 s m args below meth c H locs cells slots Q (F0 m 216 ls []) := by
  obtain ⟨hx, hb, -⟩ := id G
  obtain ⟨v, a2, g5, g6⟩ := p_type a hW (xs (i + 1))
  refine lv_aload_n hx hb dL_law_216 rfl (lv_at hl 1 rfl) ?_
  refine l_arg (j := 1) G hX hbl h hl hi hL (by decide) (by decide) dL_law_217 dL_law_218 dL_law_219 dL_law_220 dL_law_221 ?_
  refine l_x5 (as := [.int (xs (i + 1))]) (r := .int v) (rest := []) G h dL_law_222 lv_X5_13 rfl rfl rfl rfl hl.1 (Nat.le_of_ble_eq_true rfl) (Nat.le_of_ble_eq_true rfl) (Nat.le_of_ble_eq_true rfl) (Nat.le_of_ble_eq_true rfl) hce hsl (fun σ I => RR.post (g5 σ (fun v2 σ2 => v2 = v ∧ Inv0 a2 σ2) I (fun σ2 I2 => ⟨rfl, I2⟩)) (fun x σ2 hq => by obtain ⟨v2, e2, e3, e4⟩ := hq; subst e3; exact ⟨e2, e4⟩)) (fun H locs h => ?_)
  refine lv_aload_n hx hb dL_law_225 rfl (lv_at hl 2 rfl) ?_
  refine l_arg (j := 1) G hX hbl h hl hi hL (by decide) (by decide) dL_law_226 dL_law_227 dL_law_228 dL_law_229 dL_law_230 ?_
  refine l_x6 (as := [.int (xs (i + 1))]) (r := .int v) (rest := [.int v]) G h dL_law_231 lv_X6_17 rfl rfl rfl rfl hl.1 (Nat.le_of_ble_eq_true rfl) (Nat.le_of_ble_eq_true rfl) (Nat.le_of_ble_eq_true rfl) (Nat.le_of_ble_eq_true rfl) hce hsl (fun σ I => RR.post (g6 σ (fun v2 σ2 => v2 = v ∧ Inv1 a2 σ2) I (fun σ2 I2 => ⟨rfl, I2⟩)) (fun x σ2 hq => by obtain ⟨v2, e2, e3, e4⟩ := hq; subst e3; exact ⟨e2, e4⟩)) (fun H locs h => ?_)
  refine lv_icmp_eq (tgt := 1474) hx hb dL_law_234 (by decide) (fun _ => ?_) (fun c1 => absurd rfl c1)
  exact kk a2 H locs h
theorem lc_1 {b L i : Nat} {xs : Nat → Int32} (G : l_G p s m args c D dA ad0 ad1) (hX : va_X b L xs s s.heap) (hbl : b < s.heap.size) (h : l_H s D dA ad0 ad1 a a H locs) (hW : WF a) (hl : lv_has ls 4 [(0, .ref b), (1, .ref (ad0 0)), (2, .ref (ad1 0)), (3, .int (nI i))]) (hi : i + 6 ≤ L) (hL : L ≤ 384) (hce : cells ≤ room_1.cells) (hsl : slots ≤ room_1.slots) (kk : ∀ (a2 : ab) (H1 : Heap) (locs1 : List Loc), l_H s D dA ad0 ad1 a2 a2 H1 locs1 → W p l e room_1 s m args below meth c H1 locs1 cells slots Q (F0 m 1474 ls [])) : W p l e room_1 s m args below meth c H locs cells slots Q (F0 m 239 ls []) := by
  obtain ⟨hx, hb, -⟩ := id G
  obtain ⟨v, a2, g5, g6⟩ := p_wipe a hW
  refine lv_aload_n hx hb dL_law_239 rfl (lv_at hl 1 rfl) ?_
  refine l_x5 (as := []) (r := .int v) (rest := []) G h dL_law_240 lv_X5_18 rfl rfl rfl rfl hl.1 (Nat.le_of_ble_eq_true rfl) (Nat.le_of_ble_eq_true rfl) (Nat.le_of_ble_eq_true rfl) (Nat.le_of_ble_eq_true rfl) hce hsl (fun σ I => RR.post (g5 σ (fun v2 σ2 => v2 = v ∧ Inv0 a2 σ2) I (fun σ2 I2 => ⟨rfl, I2⟩)) (fun x σ2 hq => by obtain ⟨v2, e2, e3, e4⟩ := hq; subst e3; exact ⟨e2, e4⟩)) (fun H locs h => ?_)
  refine lv_aload_n hx hb dL_law_243 rfl (lv_at hl 2 rfl) ?_
  refine l_x6 (as := []) (r := .int v) (rest := [.int v]) G h dL_law_244 lv_X6_22 rfl rfl rfl rfl hl.1 (Nat.le_of_ble_eq_true rfl) (Nat.le_of_ble_eq_true rfl) (Nat.le_of_ble_eq_true rfl) (Nat.le_of_ble_eq_true rfl) hce hsl (fun σ I => RR.post (g6 σ (fun v2 σ2 => v2 = v ∧ Inv1 a2 σ2) I (fun σ2 I2 => ⟨rfl, I2⟩)) (fun x σ2 hq => by obtain ⟨v2, e2, e3, e4⟩ := hq; subst e3; exact ⟨e2, e4⟩)) (fun H locs h => ?_)
  refine lv_icmp_eq (tgt := 1474) hx hb dL_law_247 (by decide) (fun _ => ?_) (fun c1 => absurd rfl c1)
  exact kk a2 H locs h
theorem lc_2 {b L i : Nat} {xs : Nat → Int32} (G : l_G p s m args c D dA ad0 ad1) (hX : va_X b L xs s s.heap) (hbl : b < s.heap.size) (h : l_H s D dA ad0 ad1 a a H locs) (hW : WF a) (hl : lv_has ls 4 [(0, .ref b), (1, .ref (ad0 0)), (2, .ref (ad1 0)), (3, .int (nI i))]) (hi : i + 6 ≤ L) (hL : L ≤ 384) (hce : cells ≤ room_1.cells) (hsl : slots ≤ room_1.slots) (kk : ∀ (a2 : ab) (H1 : Heap) (locs1 : List Loc), l_H s D dA ad0 ad1 a2 a2 H1 locs1 → W p l e room_1 s m args below meth c H1 locs1 cells slots Q (F0 m 1474 ls [])) : W p l e room_1 s m args below meth c H locs cells slots Q (F0 m 252 ls []) := by
  obtain ⟨hx, hb, -⟩ := id G
  obtain ⟨v, a2, g5, g6⟩ := p_undo a hW
  refine lv_aload_n hx hb dL_law_252 rfl (lv_at hl 1 rfl) ?_
  refine l_x5 (as := []) (r := .int v) (rest := []) G h dL_law_253 lv_X5_23 rfl rfl rfl rfl hl.1 (Nat.le_of_ble_eq_true rfl) (Nat.le_of_ble_eq_true rfl) (Nat.le_of_ble_eq_true rfl) (Nat.le_of_ble_eq_true rfl) hce hsl (fun σ I => RR.post (g5 σ (fun v2 σ2 => v2 = v ∧ Inv0 a2 σ2) I (fun σ2 I2 => ⟨rfl, I2⟩)) (fun x σ2 hq => by obtain ⟨v2, e2, e3, e4⟩ := hq; subst e3; exact ⟨e2, e4⟩)) (fun H locs h => ?_)
  refine lv_aload_n hx hb dL_law_256 rfl (lv_at hl 2 rfl) ?_
  refine l_x6 (as := []) (r := .int v) (rest := [.int v]) G h dL_law_257 lv_X6_26 rfl rfl rfl rfl hl.1 (Nat.le_of_ble_eq_true rfl) (Nat.le_of_ble_eq_true rfl) (Nat.le_of_ble_eq_true rfl) (Nat.le_of_ble_eq_true rfl) hce hsl (fun σ I => RR.post (g6 σ (fun v2 σ2 => v2 = v ∧ Inv1 a2 σ2) I (fun σ2 I2 => ⟨rfl, I2⟩)) (fun x σ2 hq => by obtain ⟨v2, e2, e3, e4⟩ := hq; subst e3; exact ⟨e2, e4⟩)) (fun H locs h => ?_)
  refine lv_icmp_eq (tgt := 1474) hx hb dL_law_260 (by decide) (fun _ => ?_) (fun c1 => absurd rfl c1)
  exact kk a2 H locs h
theorem lc_3 {b L i : Nat} {xs : Nat → Int32} (G : l_G p s m args c D dA ad0 ad1) (hX : va_X b L xs s s.heap) (hbl : b < s.heap.size) (h : l_H s D dA ad0 ad1 a a H locs) (hW : WF a) (hl : lv_has ls 4 [(0, .ref b), (1, .ref (ad0 0)), (2, .ref (ad1 0)), (3, .int (nI i))]) (hi : i + 6 ≤ L) (hL : L ≤ 384) (hce : cells ≤ room_1.cells) (hsl : slots ≤ room_1.slots) (kk : ∀ (a2 : ab) (H1 : Heap) (locs1 : List Loc), l_H s D dA ad0 ad1 a2 a2 H1 locs1 → W p l e room_1 s m args below meth c H1 locs1 cells slots Q (F0 m 1474 ls [])) : W p l e room_1 s m args below meth c H locs cells slots Q (F0 m 265 ls []) := by
  obtain ⟨hx, hb, -⟩ := id G
  obtain ⟨v, a2, g5, g6⟩ := p_fault a hW
  refine lv_aload_n hx hb dL_law_265 rfl (lv_at hl 1 rfl) ?_
  refine l_x5 (as := []) (r := .int v) (rest := []) G h dL_law_266 lv_X5_27 rfl rfl rfl rfl hl.1 (Nat.le_of_ble_eq_true rfl) (Nat.le_of_ble_eq_true rfl) (Nat.le_of_ble_eq_true rfl) (Nat.le_of_ble_eq_true rfl) hce hsl (fun σ I => RR.post (g5 σ (fun v2 σ2 => v2 = v ∧ Inv0 a2 σ2) I (fun σ2 I2 => ⟨rfl, I2⟩)) (fun x σ2 hq => by obtain ⟨v2, e2, e3, e4⟩ := hq; subst e3; exact ⟨e2, e4⟩)) (fun H locs h => ?_)
  refine lv_aload_n hx hb dL_law_269 rfl (lv_at hl 2 rfl) ?_
  refine l_x6 (as := []) (r := .int v) (rest := [.int v]) G h dL_law_270 lv_X6_30 rfl rfl rfl rfl hl.1 (Nat.le_of_ble_eq_true rfl) (Nat.le_of_ble_eq_true rfl) (Nat.le_of_ble_eq_true rfl) (Nat.le_of_ble_eq_true rfl) hce hsl (fun σ I => RR.post (g6 σ (fun v2 σ2 => v2 = v ∧ Inv1 a2 σ2) I (fun σ2 I2 => ⟨rfl, I2⟩)) (fun x σ2 hq => by obtain ⟨v2, e2, e3, e4⟩ := hq; subst e3; exact ⟨e2, e4⟩)) (fun H locs h => ?_)
  refine lv_icmp_eq (tgt := 1474) hx hb dL_law_273 (by decide) (fun _ => ?_) (fun c1 => absurd rfl c1)
  exact kk a2 H locs h
theorem lc_4 {b L i : Nat} {xs : Nat → Int32} (G : l_G p s m args c D dA ad0 ad1) (hX : va_X b L xs s s.heap) (hbl : b < s.heap.size) (h : l_H s D dA ad0 ad1 a a H locs) (hW : WF a) (hl : lv_has ls 4 [(0, .ref b), (1, .ref (ad0 0)), (2, .ref (ad1 0)), (3, .int (nI i))]) (hi : i + 6 ≤ L) (hL : L ≤ 384) (hce : cells ≤ room_1.cells) (hsl : slots ≤ room_1.slots) (kk : ∀ (a2 : ab) (H1 : Heap) (locs1 : List Loc), l_H s D dA ad0 ad1 a2 a2 H1 locs1 → W p l e room_1 s m args below meth c H1 locs1 cells slots Q (F0 m 1474 ls [])) : W p l e room_1 s m args below meth c H locs cells slots Q (F0 m 278 ls []) := by
  obtain ⟨hx, hb, -⟩ := id G
  obtain ⟨v, a2, g5, g6⟩ := p_deed a hW (xs (i + 1)) (xs (i + 2))
  refine lv_aload_n hx hb dL_law_278 rfl (lv_at hl 1 rfl) ?_
  refine l_arg (j := 1) G hX hbl h hl hi hL (by decide) (by decide) dL_law_279 dL_law_280 dL_law_281 dL_law_282 dL_law_283 ?_
  refine l_arg (j := 2) G hX hbl h hl hi hL (by decide) (by decide) dL_law_284 dL_law_285 dL_law_286 dL_law_287 dL_law_288 ?_
  refine l_x5 (as := [.int (xs (i + 1)), .int (xs (i + 2))]) (r := .int v) (rest := []) G h dL_law_289 lv_X5_31 rfl rfl rfl rfl hl.1 (Nat.le_of_ble_eq_true rfl) (Nat.le_of_ble_eq_true rfl) (Nat.le_of_ble_eq_true rfl) (Nat.le_of_ble_eq_true rfl) hce hsl (fun σ I => RR.post (g5 σ (fun v2 σ2 => v2 = v ∧ Inv0 a2 σ2) I (fun σ2 I2 => ⟨rfl, I2⟩)) (fun x σ2 hq => by obtain ⟨v2, e2, e3, e4⟩ := hq; subst e3; exact ⟨e2, e4⟩)) (fun H locs h => ?_)
  refine lv_aload_n hx hb dL_law_292 rfl (lv_at hl 2 rfl) ?_
  refine l_arg (j := 1) G hX hbl h hl hi hL (by decide) (by decide) dL_law_293 dL_law_294 dL_law_295 dL_law_296 dL_law_297 ?_
  refine l_arg (j := 2) G hX hbl h hl hi hL (by decide) (by decide) dL_law_298 dL_law_299 dL_law_300 dL_law_301 dL_law_302 ?_
  refine l_x6 (as := [.int (xs (i + 1)), .int (xs (i + 2))]) (r := .int v) (rest := [.int v]) G h dL_law_303 lv_X6_35 rfl rfl rfl rfl hl.1 (Nat.le_of_ble_eq_true rfl) (Nat.le_of_ble_eq_true rfl) (Nat.le_of_ble_eq_true rfl) (Nat.le_of_ble_eq_true rfl) hce hsl (fun σ I => RR.post (g6 σ (fun v2 σ2 => v2 = v ∧ Inv1 a2 σ2) I (fun σ2 I2 => ⟨rfl, I2⟩)) (fun x σ2 hq => by obtain ⟨v2, e2, e3, e4⟩ := hq; subst e3; exact ⟨e2, e4⟩)) (fun H locs h => ?_)
  refine lv_icmp_eq (tgt := 1474) hx hb dL_law_306 (by decide) (fun _ => ?_) (fun c1 => absurd rfl c1)
  exact kk a2 H locs h
theorem lc_5 {b L i : Nat} {xs : Nat → Int32} (G : l_G p s m args c D dA ad0 ad1) (hX : va_X b L xs s s.heap) (hbl : b < s.heap.size) (h : l_H s D dA ad0 ad1 a a H locs) (hW : WF a) (hl : lv_has ls 4 [(0, .ref b), (1, .ref (ad0 0)), (2, .ref (ad1 0)), (3, .int (nI i))]) (hi : i + 6 ≤ L) (hL : L ≤ 384) (hce : cells ≤ room_1.cells) (hsl : slots ≤ room_1.slots) (kk : ∀ (a2 : ab) (H1 : Heap) (locs1 : List Loc), l_H s D dA ad0 ad1 a2 a2 H1 locs1 → W p l e room_1 s m args below meth c H1 locs1 cells slots Q (F0 m 1474 ls [])) : W p l e room_1 s m args below meth c H locs cells slots Q (F0 m 311 ls []) := by
  obtain ⟨hx, hb, -⟩ := id G
  obtain ⟨v, a2, g5, g6⟩ := p_set a hW (xs (i + 1)) (xs (i + 2))
  refine lv_aload_n hx hb dL_law_311 rfl (lv_at hl 1 rfl) ?_
  refine l_arg (j := 1) G hX hbl h hl hi hL (by decide) (by decide) dL_law_312 dL_law_313 dL_law_314 dL_law_315 dL_law_316 ?_
  refine l_arg (j := 2) G hX hbl h hl hi hL (by decide) (by decide) dL_law_317 dL_law_318 dL_law_319 dL_law_320 dL_law_321 ?_
  refine l_x5 (as := [.int (xs (i + 1)), .int (xs (i + 2))]) (r := .int v) (rest := []) G h dL_law_322 lv_X5_36 rfl rfl rfl rfl hl.1 (Nat.le_of_ble_eq_true rfl) (Nat.le_of_ble_eq_true rfl) (Nat.le_of_ble_eq_true rfl) (Nat.le_of_ble_eq_true rfl) hce hsl (fun σ I => RR.post (g5 σ (fun v2 σ2 => v2 = v ∧ Inv0 a2 σ2) I (fun σ2 I2 => ⟨rfl, I2⟩)) (fun x σ2 hq => by obtain ⟨v2, e2, e3, e4⟩ := hq; subst e3; exact ⟨e2, e4⟩)) (fun H locs h => ?_)
  refine lv_aload_n hx hb dL_law_325 rfl (lv_at hl 2 rfl) ?_
  refine l_arg (j := 1) G hX hbl h hl hi hL (by decide) (by decide) dL_law_326 dL_law_327 dL_law_328 dL_law_329 dL_law_330 ?_
  refine l_arg (j := 2) G hX hbl h hl hi hL (by decide) (by decide) dL_law_331 dL_law_332 dL_law_333 dL_law_334 dL_law_335 ?_
  refine l_x6 (as := [.int (xs (i + 1)), .int (xs (i + 2))]) (r := .int v) (rest := [.int v]) G h dL_law_336 lv_X6_39 rfl rfl rfl rfl hl.1 (Nat.le_of_ble_eq_true rfl) (Nat.le_of_ble_eq_true rfl) (Nat.le_of_ble_eq_true rfl) (Nat.le_of_ble_eq_true rfl) hce hsl (fun σ I => RR.post (g6 σ (fun v2 σ2 => v2 = v ∧ Inv1 a2 σ2) I (fun σ2 I2 => ⟨rfl, I2⟩)) (fun x σ2 hq => by obtain ⟨v2, e2, e3, e4⟩ := hq; subst e3; exact ⟨e2, e4⟩)) (fun H locs h => ?_)
  refine lv_icmp_eq (tgt := 1474) hx hb dL_law_339 (by decide) (fun _ => ?_) (fun c1 => absurd rfl c1)
  exact kk a2 H locs h
theorem lc_6 {b L i : Nat} {xs : Nat → Int32} (G : l_G p s m args c D dA ad0 ad1) (hX : va_X b L xs s s.heap) (hbl : b < s.heap.size) (h : l_H s D dA ad0 ad1 a a H locs) (hW : WF a) (hl : lv_has ls 4 [(0, .ref b), (1, .ref (ad0 0)), (2, .ref (ad1 0)), (3, .int (nI i))]) (hi : i + 6 ≤ L) (hL : L ≤ 384) (hce : cells ≤ room_1.cells) (hsl : slots ≤ room_1.slots) (kk : ∀ (a2 : ab) (H1 : Heap) (locs1 : List Loc), l_H s D dA ad0 ad1 a2 a2 H1 locs1 → W p l e room_1 s m args below meth c H1 locs1 cells slots Q (F0 m 1474 ls [])) : W p l e room_1 s m args below meth c H locs cells slots Q (F0 m 344 ls []) := by
  obtain ⟨hx, hb, -⟩ := id G
  obtain ⟨v, a2, g5, g6⟩ := p_sick a hW (xs (i + 1)) (xs (i + 2))
  refine lv_aload_n hx hb dL_law_344 rfl (lv_at hl 1 rfl) ?_
  refine l_arg (j := 1) G hX hbl h hl hi hL (by decide) (by decide) dL_law_345 dL_law_346 dL_law_347 dL_law_348 dL_law_349 ?_
  refine l_arg (j := 2) G hX hbl h hl hi hL (by decide) (by decide) dL_law_350 dL_law_351 dL_law_352 dL_law_353 dL_law_354 ?_
  refine l_x5 (as := [.int (xs (i + 1)), .int (xs (i + 2))]) (r := .int v) (rest := []) G h dL_law_355 lv_X5_40 rfl rfl rfl rfl hl.1 (Nat.le_of_ble_eq_true rfl) (Nat.le_of_ble_eq_true rfl) (Nat.le_of_ble_eq_true rfl) (Nat.le_of_ble_eq_true rfl) hce hsl (fun σ I => RR.post (g5 σ (fun v2 σ2 => v2 = v ∧ Inv0 a2 σ2) I (fun σ2 I2 => ⟨rfl, I2⟩)) (fun x σ2 hq => by obtain ⟨v2, e2, e3, e4⟩ := hq; subst e3; exact ⟨e2, e4⟩)) (fun H locs h => ?_)
  refine lv_aload_n hx hb dL_law_358 rfl (lv_at hl 2 rfl) ?_
  refine l_arg (j := 1) G hX hbl h hl hi hL (by decide) (by decide) dL_law_359 dL_law_360 dL_law_361 dL_law_362 dL_law_363 ?_
  refine l_arg (j := 2) G hX hbl h hl hi hL (by decide) (by decide) dL_law_364 dL_law_365 dL_law_366 dL_law_367 dL_law_368 ?_
  refine l_x6 (as := [.int (xs (i + 1)), .int (xs (i + 2))]) (r := .int v) (rest := [.int v]) G h dL_law_369 lv_X6_43 rfl rfl rfl rfl hl.1 (Nat.le_of_ble_eq_true rfl) (Nat.le_of_ble_eq_true rfl) (Nat.le_of_ble_eq_true rfl) (Nat.le_of_ble_eq_true rfl) hce hsl (fun σ I => RR.post (g6 σ (fun v2 σ2 => v2 = v ∧ Inv1 a2 σ2) I (fun σ2 I2 => ⟨rfl, I2⟩)) (fun x σ2 hq => by obtain ⟨v2, e2, e3, e4⟩ := hq; subst e3; exact ⟨e2, e4⟩)) (fun H locs h => ?_)
  refine lv_icmp_eq (tgt := 1474) hx hb dL_law_372 (by decide) (fun _ => ?_) (fun c1 => absurd rfl c1)
  exact kk a2 H locs h
theorem lc_7 {b L i : Nat} {xs : Nat → Int32} (G : l_G p s m args c D dA ad0 ad1) (hX : va_X b L xs s s.heap) (hbl : b < s.heap.size) (h : l_H s D dA ad0 ad1 a a H locs) (hW : WF a) (hl : lv_has ls 4 [(0, .ref b), (1, .ref (ad0 0)), (2, .ref (ad1 0)), (3, .int (nI i))]) (hi : i + 6 ≤ L) (hL : L ≤ 384) (hce : cells ≤ room_1.cells) (hsl : slots ≤ room_1.slots) (kk : ∀ (a2 : ab) (H1 : Heap) (locs1 : List Loc), l_H s D dA ad0 ad1 a2 a2 H1 locs1 → W p l e room_1 s m args below meth c H1 locs1 cells slots Q (F0 m 1474 ls [])) : W p l e room_1 s m args below meth c H locs cells slots Q (F0 m 377 ls []) := by
  obtain ⟨hx, hb, -⟩ := id G
  obtain ⟨v, a2, g5, g6⟩ := p_leap a hW (xs (i + 1))
  refine lv_aload_n hx hb dL_law_377 rfl (lv_at hl 1 rfl) ?_
  refine l_arg (j := 1) G hX hbl h hl hi hL (by decide) (by decide) dL_law_378 dL_law_379 dL_law_380 dL_law_381 dL_law_382 ?_
  refine l_x5 (as := [.int (xs (i + 1))]) (r := .int v) (rest := []) G h dL_law_383 lv_X5_44 rfl rfl rfl rfl hl.1 (Nat.le_of_ble_eq_true rfl) (Nat.le_of_ble_eq_true rfl) (Nat.le_of_ble_eq_true rfl) (Nat.le_of_ble_eq_true rfl) hce hsl (fun σ I => RR.post (g5 σ (fun v2 σ2 => v2 = v ∧ Inv0 a2 σ2) I (fun σ2 I2 => ⟨rfl, I2⟩)) (fun x σ2 hq => by obtain ⟨v2, e2, e3, e4⟩ := hq; subst e3; exact ⟨e2, e4⟩)) (fun H locs h => ?_)
  refine lv_aload_n hx hb dL_law_386 rfl (lv_at hl 2 rfl) ?_
  refine l_arg (j := 1) G hX hbl h hl hi hL (by decide) (by decide) dL_law_387 dL_law_388 dL_law_389 dL_law_390 dL_law_391 ?_
  refine l_x6 (as := [.int (xs (i + 1))]) (r := .int v) (rest := [.int v]) G h dL_law_392 lv_X6_47 rfl rfl rfl rfl hl.1 (Nat.le_of_ble_eq_true rfl) (Nat.le_of_ble_eq_true rfl) (Nat.le_of_ble_eq_true rfl) (Nat.le_of_ble_eq_true rfl) hce hsl (fun σ I => RR.post (g6 σ (fun v2 σ2 => v2 = v ∧ Inv1 a2 σ2) I (fun σ2 I2 => ⟨rfl, I2⟩)) (fun x σ2 hq => by obtain ⟨v2, e2, e3, e4⟩ := hq; subst e3; exact ⟨e2, e4⟩)) (fun H locs h => ?_)
  refine lv_icmp_eq (tgt := 1474) hx hb dL_law_395 (by decide) (fun _ => ?_) (fun c1 => absurd rfl c1)
  exact kk a2 H locs h
theorem lc_8 {b L i : Nat} {xs : Nat → Int32} (G : l_G p s m args c D dA ad0 ad1) (hX : va_X b L xs s s.heap) (hbl : b < s.heap.size) (h : l_H s D dA ad0 ad1 a a H locs) (hW : WF a) (hl : lv_has ls 4 [(0, .ref b), (1, .ref (ad0 0)), (2, .ref (ad1 0)), (3, .int (nI i))]) (hi : i + 6 ≤ L) (hL : L ≤ 384) (hce : cells ≤ room_1.cells) (hsl : slots ≤ room_1.slots) (kk : ∀ (a2 : ab) (H1 : Heap) (locs1 : List Loc), l_H s D dA ad0 ad1 a2 a2 H1 locs1 → W p l e room_1 s m args below meth c H1 locs1 cells slots Q (F0 m 1474 ls [])) : W p l e room_1 s m args below meth c H locs cells slots Q (F0 m 400 ls []) := by
  obtain ⟨hx, hb, -⟩ := id G
  obtain ⟨v, a2, g5, g6⟩ := p_edict a hW (xs (i + 1)) (xs (i + 2))
  refine lv_aload_n hx hb dL_law_400 rfl (lv_at hl 1 rfl) ?_
  refine l_arg (j := 1) G hX hbl h hl hi hL (by decide) (by decide) dL_law_401 dL_law_402 dL_law_403 dL_law_404 dL_law_405 ?_
  refine l_arg (j := 2) G hX hbl h hl hi hL (by decide) (by decide) dL_law_406 dL_law_407 dL_law_408 dL_law_409 dL_law_410 ?_
  refine l_x5 (as := [.int (xs (i + 1)), .int (xs (i + 2))]) (r := .int v) (rest := []) G h dL_law_411 lv_X5_48 rfl rfl rfl rfl hl.1 (Nat.le_of_ble_eq_true rfl) (Nat.le_of_ble_eq_true rfl) (Nat.le_of_ble_eq_true rfl) (Nat.le_of_ble_eq_true rfl) hce hsl (fun σ I => RR.post (g5 σ (fun v2 σ2 => v2 = v ∧ Inv0 a2 σ2) I (fun σ2 I2 => ⟨rfl, I2⟩)) (fun x σ2 hq => by obtain ⟨v2, e2, e3, e4⟩ := hq; subst e3; exact ⟨e2, e4⟩)) (fun H locs h => ?_)
  refine lv_aload_n hx hb dL_law_414 rfl (lv_at hl 2 rfl) ?_
  refine l_arg (j := 1) G hX hbl h hl hi hL (by decide) (by decide) dL_law_415 dL_law_416 dL_law_417 dL_law_418 dL_law_419 ?_
  refine l_arg (j := 2) G hX hbl h hl hi hL (by decide) (by decide) dL_law_420 dL_law_421 dL_law_422 dL_law_423 dL_law_424 ?_
  refine l_x6 (as := [.int (xs (i + 1)), .int (xs (i + 2))]) (r := .int v) (rest := [.int v]) G h dL_law_425 lv_X6_51 rfl rfl rfl rfl hl.1 (Nat.le_of_ble_eq_true rfl) (Nat.le_of_ble_eq_true rfl) (Nat.le_of_ble_eq_true rfl) (Nat.le_of_ble_eq_true rfl) hce hsl (fun σ I => RR.post (g6 σ (fun v2 σ2 => v2 = v ∧ Inv1 a2 σ2) I (fun σ2 I2 => ⟨rfl, I2⟩)) (fun x σ2 hq => by obtain ⟨v2, e2, e3, e4⟩ := hq; subst e3; exact ⟨e2, e4⟩)) (fun H locs h => ?_)
  refine lv_icmp_eq (tgt := 1474) hx hb dL_law_428 (by decide) (fun _ => ?_) (fun c1 => absurd rfl c1)
  exact kk a2 H locs h
theorem lc_9 {b L i : Nat} {xs : Nat → Int32} (G : l_G p s m args c D dA ad0 ad1) (hX : va_X b L xs s s.heap) (hbl : b < s.heap.size) (h : l_H s D dA ad0 ad1 a a H locs) (hW : WF a) (hl : lv_has ls 4 [(0, .ref b), (1, .ref (ad0 0)), (2, .ref (ad1 0)), (3, .int (nI i))]) (hi : i + 6 ≤ L) (hL : L ≤ 384) (hce : cells ≤ room_1.cells) (hsl : slots ≤ room_1.slots) (kk : ∀ (a2 : ab) (H1 : Heap) (locs1 : List Loc), l_H s D dA ad0 ad1 a2 a2 H1 locs1 → W p l e room_1 s m args below meth c H1 locs1 cells slots Q (F0 m 1474 ls [])) : W p l e room_1 s m args below meth c H locs cells slots Q (F0 m 433 ls []) := by
  obtain ⟨hx, hb, -⟩ := id G
  obtain ⟨v, a2, g5, g6⟩ := p_does a hW (xs (i + 1)) (xs (i + 2)) (xs (i + 3))
  refine lv_aload_n hx hb dL_law_433 rfl (lv_at hl 1 rfl) ?_
  refine l_arg (j := 1) G hX hbl h hl hi hL (by decide) (by decide) dL_law_434 dL_law_435 dL_law_436 dL_law_437 dL_law_438 ?_
  refine l_arg (j := 2) G hX hbl h hl hi hL (by decide) (by decide) dL_law_439 dL_law_440 dL_law_441 dL_law_442 dL_law_443 ?_
  refine l_arg (j := 3) G hX hbl h hl hi hL (by decide) (by decide) dL_law_444 dL_law_445 dL_law_446 dL_law_447 dL_law_448 ?_
  refine l_x5 (as := [.int (xs (i + 1)), .int (xs (i + 2)), .int (xs (i + 3))]) (r := .int v) (rest := []) G h dL_law_449 lv_X5_52 rfl rfl rfl rfl hl.1 (Nat.le_of_ble_eq_true rfl) (Nat.le_of_ble_eq_true rfl) (Nat.le_of_ble_eq_true rfl) (Nat.le_of_ble_eq_true rfl) hce hsl (fun σ I => RR.post (g5 σ (fun v2 σ2 => v2 = v ∧ Inv0 a2 σ2) I (fun σ2 I2 => ⟨rfl, I2⟩)) (fun x σ2 hq => by obtain ⟨v2, e2, e3, e4⟩ := hq; subst e3; exact ⟨e2, e4⟩)) (fun H locs h => ?_)
  refine lv_aload_n hx hb dL_law_452 rfl (lv_at hl 2 rfl) ?_
  refine l_arg (j := 1) G hX hbl h hl hi hL (by decide) (by decide) dL_law_453 dL_law_454 dL_law_455 dL_law_456 dL_law_457 ?_
  refine l_arg (j := 2) G hX hbl h hl hi hL (by decide) (by decide) dL_law_458 dL_law_459 dL_law_460 dL_law_461 dL_law_462 ?_
  refine l_arg (j := 3) G hX hbl h hl hi hL (by decide) (by decide) dL_law_463 dL_law_464 dL_law_465 dL_law_466 dL_law_467 ?_
  refine l_x6 (as := [.int (xs (i + 1)), .int (xs (i + 2)), .int (xs (i + 3))]) (r := .int v) (rest := [.int v]) G h dL_law_468 lv_X6_56 rfl rfl rfl rfl hl.1 (Nat.le_of_ble_eq_true rfl) (Nat.le_of_ble_eq_true rfl) (Nat.le_of_ble_eq_true rfl) (Nat.le_of_ble_eq_true rfl) hce hsl (fun σ I => RR.post (g6 σ (fun v2 σ2 => v2 = v ∧ Inv1 a2 σ2) I (fun σ2 I2 => ⟨rfl, I2⟩)) (fun x σ2 hq => by obtain ⟨v2, e2, e3, e4⟩ := hq; subst e3; exact ⟨e2, e4⟩)) (fun H locs h => ?_)
  refine lv_icmp_eq (tgt := 1474) hx hb dL_law_471 (by decide) (fun _ => ?_) (fun c1 => absurd rfl c1)
  exact kk a2 H locs h
theorem lc_10 {b L i : Nat} {xs : Nat → Int32} (G : l_G p s m args c D dA ad0 ad1) (hX : va_X b L xs s s.heap) (hbl : b < s.heap.size) (h : l_H s D dA ad0 ad1 a a H locs) (hW : WF a) (hl : lv_has ls 4 [(0, .ref b), (1, .ref (ad0 0)), (2, .ref (ad1 0)), (3, .int (nI i))]) (hi : i + 6 ≤ L) (hL : L ≤ 384) (hce : cells ≤ room_1.cells) (hsl : slots ≤ room_1.slots) (kk : ∀ (a2 : ab) (H1 : Heap) (locs1 : List Loc), l_H s D dA ad0 ad1 a2 a2 H1 locs1 → W p l e room_1 s m args below meth c H1 locs1 cells slots Q (F0 m 1474 ls [])) : W p l e room_1 s m args below meth c H locs cells slots Q (F0 m 476 ls []) := by
  obtain ⟨hx, hb, -⟩ := id G
  obtain ⟨v, a2, g5, g6⟩ := p_task a hW (xs (i + 1)) (xs (i + 2))
  refine lv_aload_n hx hb dL_law_476 rfl (lv_at hl 1 rfl) ?_
  refine l_arg (j := 1) G hX hbl h hl hi hL (by decide) (by decide) dL_law_477 dL_law_478 dL_law_479 dL_law_480 dL_law_481 ?_
  refine l_arg (j := 2) G hX hbl h hl hi hL (by decide) (by decide) dL_law_482 dL_law_483 dL_law_484 dL_law_485 dL_law_486 ?_
  refine l_x5 (as := [.int (xs (i + 1)), .int (xs (i + 2))]) (r := .int v) (rest := []) G h dL_law_487 lv_X5_57 rfl rfl rfl rfl hl.1 (Nat.le_of_ble_eq_true rfl) (Nat.le_of_ble_eq_true rfl) (Nat.le_of_ble_eq_true rfl) (Nat.le_of_ble_eq_true rfl) hce hsl (fun σ I => RR.post (g5 σ (fun v2 σ2 => v2 = v ∧ Inv0 a2 σ2) I (fun σ2 I2 => ⟨rfl, I2⟩)) (fun x σ2 hq => by obtain ⟨v2, e2, e3, e4⟩ := hq; subst e3; exact ⟨e2, e4⟩)) (fun H locs h => ?_)
  refine lv_aload_n hx hb dL_law_490 rfl (lv_at hl 2 rfl) ?_
  refine l_arg (j := 1) G hX hbl h hl hi hL (by decide) (by decide) dL_law_491 dL_law_492 dL_law_493 dL_law_494 dL_law_495 ?_
  refine l_arg (j := 2) G hX hbl h hl hi hL (by decide) (by decide) dL_law_496 dL_law_497 dL_law_498 dL_law_499 dL_law_500 ?_
  refine l_x6 (as := [.int (xs (i + 1)), .int (xs (i + 2))]) (r := .int v) (rest := [.int v]) G h dL_law_501 lv_X6_60 rfl rfl rfl rfl hl.1 (Nat.le_of_ble_eq_true rfl) (Nat.le_of_ble_eq_true rfl) (Nat.le_of_ble_eq_true rfl) (Nat.le_of_ble_eq_true rfl) hce hsl (fun σ I => RR.post (g6 σ (fun v2 σ2 => v2 = v ∧ Inv1 a2 σ2) I (fun σ2 I2 => ⟨rfl, I2⟩)) (fun x σ2 hq => by obtain ⟨v2, e2, e3, e4⟩ := hq; subst e3; exact ⟨e2, e4⟩)) (fun H locs h => ?_)
  refine lv_icmp_eq (tgt := 1474) hx hb dL_law_504 (by decide) (fun _ => ?_) (fun c1 => absurd rfl c1)
  exact kk a2 H locs h
theorem lc_11 {b L i : Nat} {xs : Nat → Int32} (G : l_G p s m args c D dA ad0 ad1) (hX : va_X b L xs s s.heap) (hbl : b < s.heap.size) (h : l_H s D dA ad0 ad1 a a H locs) (hW : WF a) (hl : lv_has ls 4 [(0, .ref b), (1, .ref (ad0 0)), (2, .ref (ad1 0)), (3, .int (nI i))]) (hi : i + 6 ≤ L) (hL : L ≤ 384) (hce : cells ≤ room_1.cells) (hsl : slots ≤ room_1.slots) (kk : ∀ (a2 : ab) (H1 : Heap) (locs1 : List Loc), l_H s D dA ad0 ad1 a2 a2 H1 locs1 → W p l e room_1 s m args below meth c H1 locs1 cells slots Q (F0 m 1474 ls [])) : W p l e room_1 s m args below meth c H locs cells slots Q (F0 m 509 ls []) := by
  obtain ⟨hx, hb, -⟩ := id G
  obtain ⟨v, a2, g5, g6⟩ := p_back a hW (xs (i + 1))
  refine lv_aload_n hx hb dL_law_509 rfl (lv_at hl 1 rfl) ?_
  refine l_arg (j := 1) G hX hbl h hl hi hL (by decide) (by decide) dL_law_510 dL_law_511 dL_law_512 dL_law_513 dL_law_514 ?_
  refine l_x5 (as := [.int (xs (i + 1))]) (r := .int v) (rest := []) G h dL_law_515 lv_X5_61 rfl rfl rfl rfl hl.1 (Nat.le_of_ble_eq_true rfl) (Nat.le_of_ble_eq_true rfl) (Nat.le_of_ble_eq_true rfl) (Nat.le_of_ble_eq_true rfl) hce hsl (fun σ I => RR.post (g5 σ (fun v2 σ2 => v2 = v ∧ Inv0 a2 σ2) I (fun σ2 I2 => ⟨rfl, I2⟩)) (fun x σ2 hq => by obtain ⟨v2, e2, e3, e4⟩ := hq; subst e3; exact ⟨e2, e4⟩)) (fun H locs h => ?_)
  refine lv_aload_n hx hb dL_law_518 rfl (lv_at hl 2 rfl) ?_
  refine l_arg (j := 1) G hX hbl h hl hi hL (by decide) (by decide) dL_law_519 dL_law_520 dL_law_521 dL_law_522 dL_law_523 ?_
  refine l_x6 (as := [.int (xs (i + 1))]) (r := .int v) (rest := [.int v]) G h dL_law_524 lv_X6_64 rfl rfl rfl rfl hl.1 (Nat.le_of_ble_eq_true rfl) (Nat.le_of_ble_eq_true rfl) (Nat.le_of_ble_eq_true rfl) (Nat.le_of_ble_eq_true rfl) hce hsl (fun σ I => RR.post (g6 σ (fun v2 σ2 => v2 = v ∧ Inv1 a2 σ2) I (fun σ2 I2 => ⟨rfl, I2⟩)) (fun x σ2 hq => by obtain ⟨v2, e2, e3, e4⟩ := hq; subst e3; exact ⟨e2, e4⟩)) (fun H locs h => ?_)
  refine lv_icmp_eq (tgt := 1474) hx hb dL_law_527 (by decide) (fun _ => ?_) (fun c1 => absurd rfl c1)
  exact kk a2 H locs h
theorem lc_12 {b L i : Nat} {xs : Nat → Int32} (G : l_G p s m args c D dA ad0 ad1) (hX : va_X b L xs s s.heap) (hbl : b < s.heap.size) (h : l_H s D dA ad0 ad1 a a H locs) (hW : WF a) (hl : lv_has ls 4 [(0, .ref b), (1, .ref (ad0 0)), (2, .ref (ad1 0)), (3, .int (nI i))]) (hi : i + 6 ≤ L) (hL : L ≤ 384) (hce : cells ≤ room_1.cells) (hsl : slots ≤ room_1.slots) (kk : ∀ (a2 : ab) (H1 : Heap) (locs1 : List Loc), l_H s D dA ad0 ad1 a2 a2 H1 locs1 → W p l e room_1 s m args below meth c H1 locs1 cells slots Q (F0 m 1474 ls [])) : W p l e room_1 s m args below meth c H locs cells slots Q (F0 m 532 ls []) := by
  obtain ⟨hx, hb, -⟩ := id G
  obtain ⟨v, a2, g5, g6⟩ := p_read a hW (xs (i + 1))
  refine lv_aload_n hx hb dL_law_532 rfl (lv_at hl 1 rfl) ?_
  refine l_arg (j := 1) G hX hbl h hl hi hL (by decide) (by decide) dL_law_533 dL_law_534 dL_law_535 dL_law_536 dL_law_537 ?_
  refine l_x5 (as := [.int (xs (i + 1))]) (r := .int v) (rest := []) G h dL_law_538 lv_X5_65 rfl rfl rfl rfl hl.1 (Nat.le_of_ble_eq_true rfl) (Nat.le_of_ble_eq_true rfl) (Nat.le_of_ble_eq_true rfl) (Nat.le_of_ble_eq_true rfl) hce hsl (fun σ I => RR.post (g5 σ (fun v2 σ2 => v2 = v ∧ Inv0 a2 σ2) I (fun σ2 I2 => ⟨rfl, I2⟩)) (fun x σ2 hq => by obtain ⟨v2, e2, e3, e4⟩ := hq; subst e3; exact ⟨e2, e4⟩)) (fun H locs h => ?_)
  refine lv_aload_n hx hb dL_law_541 rfl (lv_at hl 2 rfl) ?_
  refine l_arg (j := 1) G hX hbl h hl hi hL (by decide) (by decide) dL_law_542 dL_law_543 dL_law_544 dL_law_545 dL_law_546 ?_
  refine l_x6 (as := [.int (xs (i + 1))]) (r := .int v) (rest := [.int v]) G h dL_law_547 lv_X6_68 rfl rfl rfl rfl hl.1 (Nat.le_of_ble_eq_true rfl) (Nat.le_of_ble_eq_true rfl) (Nat.le_of_ble_eq_true rfl) (Nat.le_of_ble_eq_true rfl) hce hsl (fun σ I => RR.post (g6 σ (fun v2 σ2 => v2 = v ∧ Inv1 a2 σ2) I (fun σ2 I2 => ⟨rfl, I2⟩)) (fun x σ2 hq => by obtain ⟨v2, e2, e3, e4⟩ := hq; subst e3; exact ⟨e2, e4⟩)) (fun H locs h => ?_)
  refine lv_icmp_eq (tgt := 1474) hx hb dL_law_550 (by decide) (fun _ => ?_) (fun c1 => absurd rfl c1)
  exact kk a2 H locs h
theorem lc_13 {b L i : Nat} {xs : Nat → Int32} (G : l_G p s m args c D dA ad0 ad1) (hX : va_X b L xs s s.heap) (hbl : b < s.heap.size) (h : l_H s D dA ad0 ad1 a a H locs) (hW : WF a) (hl : lv_has ls 4 [(0, .ref b), (1, .ref (ad0 0)), (2, .ref (ad1 0)), (3, .int (nI i))]) (hi : i + 6 ≤ L) (hL : L ≤ 384) (hce : cells ≤ room_1.cells) (hsl : slots ≤ room_1.slots) (kk : ∀ (a2 : ab) (H1 : Heap) (locs1 : List Loc), l_H s D dA ad0 ad1 a2 a2 H1 locs1 → W p l e room_1 s m args below meth c H1 locs1 cells slots Q (F0 m 1474 ls [])) : W p l e room_1 s m args below meth c H locs cells slots Q (F0 m 555 ls []) := by
  obtain ⟨hx, hb, -⟩ := id G
  obtain ⟨v, a2, g5, g6⟩ := p_rules a hW (xs (i + 1))
  refine lv_aload_n hx hb dL_law_555 rfl (lv_at hl 1 rfl) ?_
  refine l_arg (j := 1) G hX hbl h hl hi hL (by decide) (by decide) dL_law_556 dL_law_557 dL_law_558 dL_law_559 dL_law_560 ?_
  refine l_x5 (as := [.int (xs (i + 1))]) (r := .int v) (rest := []) G h dL_law_561 lv_X5_69 rfl rfl rfl rfl hl.1 (Nat.le_of_ble_eq_true rfl) (Nat.le_of_ble_eq_true rfl) (Nat.le_of_ble_eq_true rfl) (Nat.le_of_ble_eq_true rfl) hce hsl (fun σ I => RR.post (g5 σ (fun v2 σ2 => v2 = v ∧ Inv0 a2 σ2) I (fun σ2 I2 => ⟨rfl, I2⟩)) (fun x σ2 hq => by obtain ⟨v2, e2, e3, e4⟩ := hq; subst e3; exact ⟨e2, e4⟩)) (fun H locs h => ?_)
  refine lv_aload_n hx hb dL_law_564 rfl (lv_at hl 2 rfl) ?_
  refine l_arg (j := 1) G hX hbl h hl hi hL (by decide) (by decide) dL_law_565 dL_law_566 dL_law_567 dL_law_568 dL_law_569 ?_
  refine l_x6 (as := [.int (xs (i + 1))]) (r := .int v) (rest := [.int v]) G h dL_law_570 lv_X6_72 rfl rfl rfl rfl hl.1 (Nat.le_of_ble_eq_true rfl) (Nat.le_of_ble_eq_true rfl) (Nat.le_of_ble_eq_true rfl) (Nat.le_of_ble_eq_true rfl) hce hsl (fun σ I => RR.post (g6 σ (fun v2 σ2 => v2 = v ∧ Inv1 a2 σ2) I (fun σ2 I2 => ⟨rfl, I2⟩)) (fun x σ2 hq => by obtain ⟨v2, e2, e3, e4⟩ := hq; subst e3; exact ⟨e2, e4⟩)) (fun H locs h => ?_)
  refine lv_icmp_eq (tgt := 1474) hx hb dL_law_573 (by decide) (fun _ => ?_) (fun c1 => absurd rfl c1)
  exact kk a2 H locs h
theorem lc_14 {b L i : Nat} {xs : Nat → Int32} (G : l_G p s m args c D dA ad0 ad1) (hX : va_X b L xs s s.heap) (hbl : b < s.heap.size) (h : l_H s D dA ad0 ad1 a a H locs) (hW : WF a) (hl : lv_has ls 4 [(0, .ref b), (1, .ref (ad0 0)), (2, .ref (ad1 0)), (3, .int (nI i))]) (hi : i + 6 ≤ L) (hL : L ≤ 384) (hce : cells ≤ room_1.cells) (hsl : slots ≤ room_1.slots) (kk : ∀ (a2 : ab) (H1 : Heap) (locs1 : List Loc), l_H s D dA ad0 ad1 a2 a2 H1 locs1 → W p l e room_1 s m args below meth c H1 locs1 cells slots Q (F0 m 1474 ls [])) : W p l e room_1 s m args below meth c H locs cells slots Q (F0 m 578 ls []) := by
  obtain ⟨hx, hb, -⟩ := id G
  obtain ⟨v, a2, g5, g6⟩ := p_allows a hW (xs (i + 1)) (xs (i + 2))
  refine lv_aload_n hx hb dL_law_578 rfl (lv_at hl 1 rfl) ?_
  refine l_arg (j := 1) G hX hbl h hl hi hL (by decide) (by decide) dL_law_579 dL_law_580 dL_law_581 dL_law_582 dL_law_583 ?_
  refine l_arg (j := 2) G hX hbl h hl hi hL (by decide) (by decide) dL_law_584 dL_law_585 dL_law_586 dL_law_587 dL_law_588 ?_
  refine l_x5 (as := [.int (xs (i + 1)), .int (xs (i + 2))]) (r := .int v) (rest := []) G h dL_law_589 lv_X5_73 rfl rfl rfl rfl hl.1 (Nat.le_of_ble_eq_true rfl) (Nat.le_of_ble_eq_true rfl) (Nat.le_of_ble_eq_true rfl) (Nat.le_of_ble_eq_true rfl) hce hsl (fun σ I => RR.post (g5 σ (fun v2 σ2 => v2 = v ∧ Inv0 a2 σ2) I (fun σ2 I2 => ⟨rfl, I2⟩)) (fun x σ2 hq => by obtain ⟨v2, e2, e3, e4⟩ := hq; subst e3; exact ⟨e2, e4⟩)) (fun H locs h => ?_)
  refine lv_aload_n hx hb dL_law_592 rfl (lv_at hl 2 rfl) ?_
  refine l_arg (j := 1) G hX hbl h hl hi hL (by decide) (by decide) dL_law_593 dL_law_594 dL_law_595 dL_law_596 dL_law_597 ?_
  refine l_arg (j := 2) G hX hbl h hl hi hL (by decide) (by decide) dL_law_598 dL_law_599 dL_law_600 dL_law_601 dL_law_602 ?_
  refine l_x6 (as := [.int (xs (i + 1)), .int (xs (i + 2))]) (r := .int v) (rest := [.int v]) G h dL_law_603 lv_X6_76 rfl rfl rfl rfl hl.1 (Nat.le_of_ble_eq_true rfl) (Nat.le_of_ble_eq_true rfl) (Nat.le_of_ble_eq_true rfl) (Nat.le_of_ble_eq_true rfl) hce hsl (fun σ I => RR.post (g6 σ (fun v2 σ2 => v2 = v ∧ Inv1 a2 σ2) I (fun σ2 I2 => ⟨rfl, I2⟩)) (fun x σ2 hq => by obtain ⟨v2, e2, e3, e4⟩ := hq; subst e3; exact ⟨e2, e4⟩)) (fun H locs h => ?_)
  refine lv_icmp_eq (tgt := 1474) hx hb dL_law_606 (by decide) (fun _ => ?_) (fun c1 => absurd rfl c1)
  exact kk a2 H locs h
theorem lc_15 {b L i : Nat} {xs : Nat → Int32} (G : l_G p s m args c D dA ad0 ad1) (hX : va_X b L xs s s.heap) (hbl : b < s.heap.size) (h : l_H s D dA ad0 ad1 a a H locs) (hW : WF a) (hl : lv_has ls 4 [(0, .ref b), (1, .ref (ad0 0)), (2, .ref (ad1 0)), (3, .int (nI i))]) (hi : i + 6 ≤ L) (hL : L ≤ 384) (hce : cells ≤ room_1.cells) (hsl : slots ≤ room_1.slots) (kk : ∀ (a2 : ab) (H1 : Heap) (locs1 : List Loc), l_H s D dA ad0 ad1 a2 a2 H1 locs1 → W p l e room_1 s m args below meth c H1 locs1 cells slots Q (F0 m 1474 ls [])) : W p l e room_1 s m args below meth c H locs cells slots Q (F0 m 611 ls []) := by
  obtain ⟨hx, hb, -⟩ := id G
  obtain ⟨v, a2, g5, g6⟩ := p_allowed a hW (xs (i + 1))
  refine lv_aload_n hx hb dL_law_611 rfl (lv_at hl 1 rfl) ?_
  refine l_arg (j := 1) G hX hbl h hl hi hL (by decide) (by decide) dL_law_612 dL_law_613 dL_law_614 dL_law_615 dL_law_616 ?_
  refine l_x5 (as := [.int (xs (i + 1))]) (r := .int v) (rest := []) G h dL_law_617 lv_X5_77 rfl rfl rfl rfl hl.1 (Nat.le_of_ble_eq_true rfl) (Nat.le_of_ble_eq_true rfl) (Nat.le_of_ble_eq_true rfl) (Nat.le_of_ble_eq_true rfl) hce hsl (fun σ I => RR.post (g5 σ (fun v2 σ2 => v2 = v ∧ Inv0 a2 σ2) I (fun σ2 I2 => ⟨rfl, I2⟩)) (fun x σ2 hq => by obtain ⟨v2, e2, e3, e4⟩ := hq; subst e3; exact ⟨e2, e4⟩)) (fun H locs h => ?_)
  refine lv_aload_n hx hb dL_law_620 rfl (lv_at hl 2 rfl) ?_
  refine l_arg (j := 1) G hX hbl h hl hi hL (by decide) (by decide) dL_law_621 dL_law_622 dL_law_623 dL_law_624 dL_law_625 ?_
  refine l_x6 (as := [.int (xs (i + 1))]) (r := .int v) (rest := [.int v]) G h dL_law_626 lv_X6_80 rfl rfl rfl rfl hl.1 (Nat.le_of_ble_eq_true rfl) (Nat.le_of_ble_eq_true rfl) (Nat.le_of_ble_eq_true rfl) (Nat.le_of_ble_eq_true rfl) hce hsl (fun σ I => RR.post (g6 σ (fun v2 σ2 => v2 = v ∧ Inv1 a2 σ2) I (fun σ2 I2 => ⟨rfl, I2⟩)) (fun x σ2 hq => by obtain ⟨v2, e2, e3, e4⟩ := hq; subst e3; exact ⟨e2, e4⟩)) (fun H locs h => ?_)
  refine lv_icmp_eq (tgt := 1474) hx hb dL_law_629 (by decide) (fun _ => ?_) (fun c1 => absurd rfl c1)
  exact kk a2 H locs h
theorem lc_16 {b L i : Nat} {xs : Nat → Int32} (G : l_G p s m args c D dA ad0 ad1) (hX : va_X b L xs s s.heap) (hbl : b < s.heap.size) (h : l_H s D dA ad0 ad1 a a H locs) (hW : WF a) (hl : lv_has ls 4 [(0, .ref b), (1, .ref (ad0 0)), (2, .ref (ad1 0)), (3, .int (nI i))]) (hi : i + 6 ≤ L) (hL : L ≤ 384) (hce : cells ≤ room_1.cells) (hsl : slots ≤ room_1.slots) (kk : ∀ (a2 : ab) (H1 : Heap) (locs1 : List Loc), l_H s D dA ad0 ad1 a2 a2 H1 locs1 → W p l e room_1 s m args below meth c H1 locs1 cells slots Q (F0 m 1474 ls [])) : W p l e room_1 s m args below meth c H locs cells slots Q (F0 m 634 ls []) := by
  obtain ⟨hx, hb, -⟩ := id G
  obtain ⟨v, a2, g5, g6⟩ := p_never a hW
  refine lv_aload_n hx hb dL_law_634 rfl (lv_at hl 1 rfl) ?_
  refine l_x5 (as := []) (r := .int v) (rest := []) G h dL_law_635 lv_X5_81 rfl rfl rfl rfl hl.1 (Nat.le_of_ble_eq_true rfl) (Nat.le_of_ble_eq_true rfl) (Nat.le_of_ble_eq_true rfl) (Nat.le_of_ble_eq_true rfl) hce hsl (fun σ I => RR.post (g5 σ (fun v2 σ2 => v2 = v ∧ Inv0 a2 σ2) I (fun σ2 I2 => ⟨rfl, I2⟩)) (fun x σ2 hq => by obtain ⟨v2, e2, e3, e4⟩ := hq; subst e3; exact ⟨e2, e4⟩)) (fun H locs h => ?_)
  refine lv_aload_n hx hb dL_law_638 rfl (lv_at hl 2 rfl) ?_
  refine l_x6 (as := []) (r := .int v) (rest := [.int v]) G h dL_law_639 lv_X6_84 rfl rfl rfl rfl hl.1 (Nat.le_of_ble_eq_true rfl) (Nat.le_of_ble_eq_true rfl) (Nat.le_of_ble_eq_true rfl) (Nat.le_of_ble_eq_true rfl) hce hsl (fun σ I => RR.post (g6 σ (fun v2 σ2 => v2 = v ∧ Inv1 a2 σ2) I (fun σ2 I2 => ⟨rfl, I2⟩)) (fun x σ2 hq => by obtain ⟨v2, e2, e3, e4⟩ := hq; subst e3; exact ⟨e2, e4⟩)) (fun H locs h => ?_)
  refine lv_icmp_eq (tgt := 1474) hx hb dL_law_642 (by decide) (fun _ => ?_) (fun c1 => absurd rfl c1)
  exact kk a2 H locs h
theorem lc_17 {b L i : Nat} {xs : Nat → Int32} (G : l_G p s m args c D dA ad0 ad1) (hX : va_X b L xs s s.heap) (hbl : b < s.heap.size) (h : l_H s D dA ad0 ad1 a a H locs) (hW : WF a) (hl : lv_has ls 4 [(0, .ref b), (1, .ref (ad0 0)), (2, .ref (ad1 0)), (3, .int (nI i))]) (hi : i + 6 ≤ L) (hL : L ≤ 384) (hce : cells ≤ room_1.cells) (hsl : slots ≤ room_1.slots) (kk : ∀ (a2 : ab) (H1 : Heap) (locs1 : List Loc), l_H s D dA ad0 ad1 a2 a2 H1 locs1 → W p l e room_1 s m args below meth c H1 locs1 cells slots Q (F0 m 1474 ls [])) : W p l e room_1 s m args below meth c H locs cells slots Q (F0 m 647 ls []) := by
  obtain ⟨hx, hb, -⟩ := id G
  obtain ⟨v, a2, g5, g6⟩ := p_alike a hW
  refine lv_aload_n hx hb dL_law_647 rfl (lv_at hl 1 rfl) ?_
  refine l_x5 (as := []) (r := .int v) (rest := []) G h dL_law_648 lv_X5_85 rfl rfl rfl rfl hl.1 (Nat.le_of_ble_eq_true rfl) (Nat.le_of_ble_eq_true rfl) (Nat.le_of_ble_eq_true rfl) (Nat.le_of_ble_eq_true rfl) hce hsl (fun σ I => RR.post (g5 σ (fun v2 σ2 => v2 = v ∧ Inv0 a2 σ2) I (fun σ2 I2 => ⟨rfl, I2⟩)) (fun x σ2 hq => by obtain ⟨v2, e2, e3, e4⟩ := hq; subst e3; exact ⟨e2, e4⟩)) (fun H locs h => ?_)
  refine lv_aload_n hx hb dL_law_651 rfl (lv_at hl 2 rfl) ?_
  refine l_x6 (as := []) (r := .int v) (rest := [.int v]) G h dL_law_652 lv_X6_88 rfl rfl rfl rfl hl.1 (Nat.le_of_ble_eq_true rfl) (Nat.le_of_ble_eq_true rfl) (Nat.le_of_ble_eq_true rfl) (Nat.le_of_ble_eq_true rfl) hce hsl (fun σ I => RR.post (g6 σ (fun v2 σ2 => v2 = v ∧ Inv1 a2 σ2) I (fun σ2 I2 => ⟨rfl, I2⟩)) (fun x σ2 hq => by obtain ⟨v2, e2, e3, e4⟩ := hq; subst e3; exact ⟨e2, e4⟩)) (fun H locs h => ?_)
  refine lv_icmp_eq (tgt := 1474) hx hb dL_law_655 (by decide) (fun _ => ?_) (fun c1 => absurd rfl c1)
  exact kk a2 H locs h
theorem lc_18 {b L i : Nat} {xs : Nat → Int32} (G : l_G p s m args c D dA ad0 ad1) (hX : va_X b L xs s s.heap) (hbl : b < s.heap.size) (h : l_H s D dA ad0 ad1 a a H locs) (hW : WF a) (hl : lv_has ls 4 [(0, .ref b), (1, .ref (ad0 0)), (2, .ref (ad1 0)), (3, .int (nI i))]) (hi : i + 6 ≤ L) (hL : L ≤ 384) (hce : cells ≤ room_1.cells) (hsl : slots ≤ room_1.slots) (kk : ∀ (a2 : ab) (H1 : Heap) (locs1 : List Loc), l_H s D dA ad0 ad1 a2 a2 H1 locs1 → W p l e room_1 s m args below meth c H1 locs1 cells slots Q (F0 m 1474 ls [])) : W p l e room_1 s m args below meth c H locs cells slots Q (F0 m 660 ls []) := by
  obtain ⟨hx, hb, -⟩ := id G
  obtain ⟨v, a2, g5, g6⟩ := p_crossing a hW (xs (i + 1))
  refine lv_aload_n hx hb dL_law_660 rfl (lv_at hl 1 rfl) ?_
  refine l_arg (j := 1) G hX hbl h hl hi hL (by decide) (by decide) dL_law_661 dL_law_662 dL_law_663 dL_law_664 dL_law_665 ?_
  refine l_x5 (as := [.int (xs (i + 1))]) (r := .int v) (rest := []) G h dL_law_666 lv_X5_89 rfl rfl rfl rfl hl.1 (Nat.le_of_ble_eq_true rfl) (Nat.le_of_ble_eq_true rfl) (Nat.le_of_ble_eq_true rfl) (Nat.le_of_ble_eq_true rfl) hce hsl (fun σ I => RR.post (g5 σ (fun v2 σ2 => v2 = v ∧ Inv0 a2 σ2) I (fun σ2 I2 => ⟨rfl, I2⟩)) (fun x σ2 hq => by obtain ⟨v2, e2, e3, e4⟩ := hq; subst e3; exact ⟨e2, e4⟩)) (fun H locs h => ?_)
  refine lv_aload_n hx hb dL_law_669 rfl (lv_at hl 2 rfl) ?_
  refine l_arg (j := 1) G hX hbl h hl hi hL (by decide) (by decide) dL_law_670 dL_law_671 dL_law_672 dL_law_673 dL_law_674 ?_
  refine l_x6 (as := [.int (xs (i + 1))]) (r := .int v) (rest := [.int v]) G h dL_law_675 lv_X6_92 rfl rfl rfl rfl hl.1 (Nat.le_of_ble_eq_true rfl) (Nat.le_of_ble_eq_true rfl) (Nat.le_of_ble_eq_true rfl) (Nat.le_of_ble_eq_true rfl) hce hsl (fun σ I => RR.post (g6 σ (fun v2 σ2 => v2 = v ∧ Inv1 a2 σ2) I (fun σ2 I2 => ⟨rfl, I2⟩)) (fun x σ2 hq => by obtain ⟨v2, e2, e3, e4⟩ := hq; subst e3; exact ⟨e2, e4⟩)) (fun H locs h => ?_)
  refine lv_icmp_eq (tgt := 1474) hx hb dL_law_678 (by decide) (fun _ => ?_) (fun c1 => absurd rfl c1)
  exact kk a2 H locs h
theorem lc_19 {b L i : Nat} {xs : Nat → Int32} (G : l_G p s m args c D dA ad0 ad1) (hX : va_X b L xs s s.heap) (hbl : b < s.heap.size) (h : l_H s D dA ad0 ad1 a a H locs) (hW : WF a) (hl : lv_has ls 4 [(0, .ref b), (1, .ref (ad0 0)), (2, .ref (ad1 0)), (3, .int (nI i))]) (hi : i + 6 ≤ L) (hL : L ≤ 384) (hce : cells ≤ room_1.cells) (hsl : slots ≤ room_1.slots) (kk : ∀ (a2 : ab) (H1 : Heap) (locs1 : List Loc), l_H s D dA ad0 ad1 a2 a2 H1 locs1 → W p l e room_1 s m args below meth c H1 locs1 cells slots Q (F0 m 1474 ls [])) : W p l e room_1 s m args below meth c H locs cells slots Q (F0 m 683 ls []) := by
  obtain ⟨hx, hb, -⟩ := id G
  obtain ⟨v, a2, g5, g6⟩ := p_fined a hW (xs (i + 1))
  refine lv_aload_n hx hb dL_law_683 rfl (lv_at hl 1 rfl) ?_
  refine l_arg (j := 1) G hX hbl h hl hi hL (by decide) (by decide) dL_law_684 dL_law_685 dL_law_686 dL_law_687 dL_law_688 ?_
  refine l_x5 (as := [.int (xs (i + 1))]) (r := .int v) (rest := []) G h dL_law_689 lv_X5_93 rfl rfl rfl rfl hl.1 (Nat.le_of_ble_eq_true rfl) (Nat.le_of_ble_eq_true rfl) (Nat.le_of_ble_eq_true rfl) (Nat.le_of_ble_eq_true rfl) hce hsl (fun σ I => RR.post (g5 σ (fun v2 σ2 => v2 = v ∧ Inv0 a2 σ2) I (fun σ2 I2 => ⟨rfl, I2⟩)) (fun x σ2 hq => by obtain ⟨v2, e2, e3, e4⟩ := hq; subst e3; exact ⟨e2, e4⟩)) (fun H locs h => ?_)
  refine lv_aload_n hx hb dL_law_692 rfl (lv_at hl 2 rfl) ?_
  refine l_arg (j := 1) G hX hbl h hl hi hL (by decide) (by decide) dL_law_693 dL_law_694 dL_law_695 dL_law_696 dL_law_697 ?_
  refine l_x6 (as := [.int (xs (i + 1))]) (r := .int v) (rest := [.int v]) G h dL_law_698 lv_X6_96 rfl rfl rfl rfl hl.1 (Nat.le_of_ble_eq_true rfl) (Nat.le_of_ble_eq_true rfl) (Nat.le_of_ble_eq_true rfl) (Nat.le_of_ble_eq_true rfl) hce hsl (fun σ I => RR.post (g6 σ (fun v2 σ2 => v2 = v ∧ Inv1 a2 σ2) I (fun σ2 I2 => ⟨rfl, I2⟩)) (fun x σ2 hq => by obtain ⟨v2, e2, e3, e4⟩ := hq; subst e3; exact ⟨e2, e4⟩)) (fun H locs h => ?_)
  refine lv_icmp_eq (tgt := 1474) hx hb dL_law_701 (by decide) (fun _ => ?_) (fun c1 => absurd rfl c1)
  exact kk a2 H locs h
theorem lc_20 {b L i : Nat} {xs : Nat → Int32} (G : l_G p s m args c D dA ad0 ad1) (hX : va_X b L xs s s.heap) (hbl : b < s.heap.size) (h : l_H s D dA ad0 ad1 a a H locs) (hW : WF a) (hl : lv_has ls 4 [(0, .ref b), (1, .ref (ad0 0)), (2, .ref (ad1 0)), (3, .int (nI i))]) (hi : i + 6 ≤ L) (hL : L ≤ 384) (hce : cells ≤ room_1.cells) (hsl : slots ≤ room_1.slots) (kk : ∀ (a2 : ab) (H1 : Heap) (locs1 : List Loc), l_H s D dA ad0 ad1 a2 a2 H1 locs1 → W p l e room_1 s m args below meth c H1 locs1 cells slots Q (F0 m 1474 ls [])) : W p l e room_1 s m args below meth c H locs cells slots Q (F0 m 706 ls []) := by
  obtain ⟨hx, hb, -⟩ := id G
  obtain ⟨v, a2, g5, g6⟩ := p_coins a hW (xs (i + 1))
  refine lv_aload_n hx hb dL_law_706 rfl (lv_at hl 1 rfl) ?_
  refine l_arg (j := 1) G hX hbl h hl hi hL (by decide) (by decide) dL_law_707 dL_law_708 dL_law_709 dL_law_710 dL_law_711 ?_
  refine l_x5 (as := [.int (xs (i + 1))]) (r := .int v) (rest := []) G h dL_law_712 lv_X5_97 rfl rfl rfl rfl hl.1 (Nat.le_of_ble_eq_true rfl) (Nat.le_of_ble_eq_true rfl) (Nat.le_of_ble_eq_true rfl) (Nat.le_of_ble_eq_true rfl) hce hsl (fun σ I => RR.post (g5 σ (fun v2 σ2 => v2 = v ∧ Inv0 a2 σ2) I (fun σ2 I2 => ⟨rfl, I2⟩)) (fun x σ2 hq => by obtain ⟨v2, e2, e3, e4⟩ := hq; subst e3; exact ⟨e2, e4⟩)) (fun H locs h => ?_)
  refine lv_aload_n hx hb dL_law_715 rfl (lv_at hl 2 rfl) ?_
  refine l_arg (j := 1) G hX hbl h hl hi hL (by decide) (by decide) dL_law_716 dL_law_717 dL_law_718 dL_law_719 dL_law_720 ?_
  refine l_x6 (as := [.int (xs (i + 1))]) (r := .int v) (rest := [.int v]) G h dL_law_721 lv_X6_100 rfl rfl rfl rfl hl.1 (Nat.le_of_ble_eq_true rfl) (Nat.le_of_ble_eq_true rfl) (Nat.le_of_ble_eq_true rfl) (Nat.le_of_ble_eq_true rfl) hce hsl (fun σ I => RR.post (g6 σ (fun v2 σ2 => v2 = v ∧ Inv1 a2 σ2) I (fun σ2 I2 => ⟨rfl, I2⟩)) (fun x σ2 hq => by obtain ⟨v2, e2, e3, e4⟩ := hq; subst e3; exact ⟨e2, e4⟩)) (fun H locs h => ?_)
  refine lv_icmp_eq (tgt := 1474) hx hb dL_law_724 (by decide) (fun _ => ?_) (fun c1 => absurd rfl c1)
  exact kk a2 H locs h
theorem lc_21 {b L i : Nat} {xs : Nat → Int32} (G : l_G p s m args c D dA ad0 ad1) (hX : va_X b L xs s s.heap) (hbl : b < s.heap.size) (h : l_H s D dA ad0 ad1 a a H locs) (hW : WF a) (hl : lv_has ls 4 [(0, .ref b), (1, .ref (ad0 0)), (2, .ref (ad1 0)), (3, .int (nI i))]) (hi : i + 6 ≤ L) (hL : L ≤ 384) (hce : cells ≤ room_1.cells) (hsl : slots ≤ room_1.slots) (kk : ∀ (a2 : ab) (H1 : Heap) (locs1 : List Loc), l_H s D dA ad0 ad1 a2 a2 H1 locs1 → W p l e room_1 s m args below meth c H1 locs1 cells slots Q (F0 m 1474 ls [])) : W p l e room_1 s m args below meth c H locs cells slots Q (F0 m 729 ls []) := by
  obtain ⟨hx, hb, -⟩ := id G
  obtain ⟨v, a2, g5, g6⟩ := p_soonest a hW (xs (i + 1)) (xs (i + 2)) (xs (i + 3))
  refine lv_aload_n hx hb dL_law_729 rfl (lv_at hl 1 rfl) ?_
  refine l_arg (j := 1) G hX hbl h hl hi hL (by decide) (by decide) dL_law_730 dL_law_731 dL_law_732 dL_law_733 dL_law_734 ?_
  refine l_arg (j := 2) G hX hbl h hl hi hL (by decide) (by decide) dL_law_735 dL_law_736 dL_law_737 dL_law_738 dL_law_739 ?_
  refine l_arg (j := 3) G hX hbl h hl hi hL (by decide) (by decide) dL_law_740 dL_law_741 dL_law_742 dL_law_743 dL_law_744 ?_
  refine l_x5 (as := [.int (xs (i + 1)), .int (xs (i + 2)), .int (xs (i + 3))]) (r := .int v) (rest := []) G h dL_law_745 lv_X5_101 rfl rfl rfl rfl hl.1 (Nat.le_of_ble_eq_true rfl) (Nat.le_of_ble_eq_true rfl) (Nat.le_of_ble_eq_true rfl) (Nat.le_of_ble_eq_true rfl) hce hsl (fun σ I => RR.post (g5 σ (fun v2 σ2 => v2 = v ∧ Inv0 a2 σ2) I (fun σ2 I2 => ⟨rfl, I2⟩)) (fun x σ2 hq => by obtain ⟨v2, e2, e3, e4⟩ := hq; subst e3; exact ⟨e2, e4⟩)) (fun H locs h => ?_)
  refine lv_aload_n hx hb dL_law_748 rfl (lv_at hl 2 rfl) ?_
  refine l_arg (j := 1) G hX hbl h hl hi hL (by decide) (by decide) dL_law_749 dL_law_750 dL_law_751 dL_law_752 dL_law_753 ?_
  refine l_arg (j := 2) G hX hbl h hl hi hL (by decide) (by decide) dL_law_754 dL_law_755 dL_law_756 dL_law_757 dL_law_758 ?_
  refine l_arg (j := 3) G hX hbl h hl hi hL (by decide) (by decide) dL_law_759 dL_law_760 dL_law_761 dL_law_762 dL_law_763 ?_
  refine l_x6 (as := [.int (xs (i + 1)), .int (xs (i + 2)), .int (xs (i + 3))]) (r := .int v) (rest := [.int v]) G h dL_law_764 lv_X6_104 rfl rfl rfl rfl hl.1 (Nat.le_of_ble_eq_true rfl) (Nat.le_of_ble_eq_true rfl) (Nat.le_of_ble_eq_true rfl) (Nat.le_of_ble_eq_true rfl) hce hsl (fun σ I => RR.post (g6 σ (fun v2 σ2 => v2 = v ∧ Inv1 a2 σ2) I (fun σ2 I2 => ⟨rfl, I2⟩)) (fun x σ2 hq => by obtain ⟨v2, e2, e3, e4⟩ := hq; subst e3; exact ⟨e2, e4⟩)) (fun H locs h => ?_)
  refine lv_icmp_eq (tgt := 1474) hx hb dL_law_767 (by decide) (fun _ => ?_) (fun c1 => absurd rfl c1)
  exact kk a2 H locs h
theorem lc_22 {b L i : Nat} {xs : Nat → Int32} (G : l_G p s m args c D dA ad0 ad1) (hX : va_X b L xs s s.heap) (hbl : b < s.heap.size) (h : l_H s D dA ad0 ad1 a a H locs) (hW : WF a) (hl : lv_has ls 4 [(0, .ref b), (1, .ref (ad0 0)), (2, .ref (ad1 0)), (3, .int (nI i))]) (hi : i + 6 ≤ L) (hL : L ≤ 384) (hce : cells ≤ room_1.cells) (hsl : slots ≤ room_1.slots) (kk : ∀ (a2 : ab) (H1 : Heap) (locs1 : List Loc), l_H s D dA ad0 ad1 a2 a2 H1 locs1 → W p l e room_1 s m args below meth c H1 locs1 cells slots Q (F0 m 1474 ls [])) : W p l e room_1 s m args below meth c H locs cells slots Q (F0 m 772 ls []) := by
  obtain ⟨hx, hb, -⟩ := id G
  obtain ⟨v, a2, g5, g6⟩ := p_cheapest a hW (xs (i + 1)) (xs (i + 2)) (xs (i + 3)) (xs (i + 4))
  refine lv_aload_n hx hb dL_law_772 rfl (lv_at hl 1 rfl) ?_
  refine l_arg (j := 1) G hX hbl h hl hi hL (by decide) (by decide) dL_law_773 dL_law_774 dL_law_775 dL_law_776 dL_law_777 ?_
  refine l_arg (j := 2) G hX hbl h hl hi hL (by decide) (by decide) dL_law_778 dL_law_779 dL_law_780 dL_law_781 dL_law_782 ?_
  refine l_arg (j := 3) G hX hbl h hl hi hL (by decide) (by decide) dL_law_783 dL_law_784 dL_law_785 dL_law_786 dL_law_787 ?_
  refine l_arg (j := 4) G hX hbl h hl hi hL (by decide) (by decide) dL_law_788 dL_law_789 dL_law_790 dL_law_791 dL_law_792 ?_
  refine l_x5 (as := [.int (xs (i + 1)), .int (xs (i + 2)), .int (xs (i + 3)), .int (xs (i + 4))]) (r := .int v) (rest := []) G h dL_law_793 lv_X5_105 rfl rfl rfl rfl hl.1 (Nat.le_of_ble_eq_true rfl) (Nat.le_of_ble_eq_true rfl) (Nat.le_of_ble_eq_true rfl) (Nat.le_of_ble_eq_true rfl) hce hsl (fun σ I => RR.post (g5 σ (fun v2 σ2 => v2 = v ∧ Inv0 a2 σ2) I (fun σ2 I2 => ⟨rfl, I2⟩)) (fun x σ2 hq => by obtain ⟨v2, e2, e3, e4⟩ := hq; subst e3; exact ⟨e2, e4⟩)) (fun H locs h => ?_)
  refine lv_aload_n hx hb dL_law_796 rfl (lv_at hl 2 rfl) ?_
  refine l_arg (j := 1) G hX hbl h hl hi hL (by decide) (by decide) dL_law_797 dL_law_798 dL_law_799 dL_law_800 dL_law_801 ?_
  refine l_arg (j := 2) G hX hbl h hl hi hL (by decide) (by decide) dL_law_802 dL_law_803 dL_law_804 dL_law_805 dL_law_806 ?_
  refine l_arg (j := 3) G hX hbl h hl hi hL (by decide) (by decide) dL_law_807 dL_law_808 dL_law_809 dL_law_810 dL_law_811 ?_
  refine l_arg (j := 4) G hX hbl h hl hi hL (by decide) (by decide) dL_law_812 dL_law_813 dL_law_814 dL_law_815 dL_law_816 ?_
  refine l_x6 (as := [.int (xs (i + 1)), .int (xs (i + 2)), .int (xs (i + 3)), .int (xs (i + 4))]) (r := .int v) (rest := [.int v]) G h dL_law_817 lv_X6_109 rfl rfl rfl rfl hl.1 (Nat.le_of_ble_eq_true rfl) (Nat.le_of_ble_eq_true rfl) (Nat.le_of_ble_eq_true rfl) (Nat.le_of_ble_eq_true rfl) hce hsl (fun σ I => RR.post (g6 σ (fun v2 σ2 => v2 = v ∧ Inv1 a2 σ2) I (fun σ2 I2 => ⟨rfl, I2⟩)) (fun x σ2 hq => by obtain ⟨v2, e2, e3, e4⟩ := hq; subst e3; exact ⟨e2, e4⟩)) (fun H locs h => ?_)
  refine lv_icmp_eq (tgt := 1474) hx hb dL_law_820 (by decide) (fun _ => ?_) (fun c1 => absurd rfl c1)
  exact kk a2 H locs h
theorem lc_23 {b L i : Nat} {xs : Nat → Int32} (G : l_G p s m args c D dA ad0 ad1) (hX : va_X b L xs s s.heap) (hbl : b < s.heap.size) (h : l_H s D dA ad0 ad1 a a H locs) (hW : WF a) (hl : lv_has ls 4 [(0, .ref b), (1, .ref (ad0 0)), (2, .ref (ad1 0)), (3, .int (nI i))]) (hi : i + 6 ≤ L) (hL : L ≤ 384) (hce : cells ≤ room_1.cells) (hsl : slots ≤ room_1.slots) (kk : ∀ (a2 : ab) (H1 : Heap) (locs1 : List Loc), l_H s D dA ad0 ad1 a2 a2 H1 locs1 → W p l e room_1 s m args below meth c H1 locs1 cells slots Q (F0 m 1474 ls [])) : W p l e room_1 s m args below meth c H locs cells slots Q (F0 m 825 ls []) := by
  obtain ⟨hx, hb, -⟩ := id G
  obtain ⟨v, a2, g5, g6⟩ := p_finish a hW (xs (i + 1)) (xs (i + 2))
  refine lv_aload_n hx hb dL_law_825 rfl (lv_at hl 1 rfl) ?_
  refine l_arg (j := 1) G hX hbl h hl hi hL (by decide) (by decide) dL_law_826 dL_law_827 dL_law_828 dL_law_829 dL_law_830 ?_
  refine l_arg (j := 2) G hX hbl h hl hi hL (by decide) (by decide) dL_law_831 dL_law_832 dL_law_833 dL_law_834 dL_law_835 ?_
  refine l_x5 (as := [.int (xs (i + 1)), .int (xs (i + 2))]) (r := .int v) (rest := []) G h dL_law_836 lv_X5_110 rfl rfl rfl rfl hl.1 (Nat.le_of_ble_eq_true rfl) (Nat.le_of_ble_eq_true rfl) (Nat.le_of_ble_eq_true rfl) (Nat.le_of_ble_eq_true rfl) hce hsl (fun σ I => RR.post (g5 σ (fun v2 σ2 => v2 = v ∧ Inv0 a2 σ2) I (fun σ2 I2 => ⟨rfl, I2⟩)) (fun x σ2 hq => by obtain ⟨v2, e2, e3, e4⟩ := hq; subst e3; exact ⟨e2, e4⟩)) (fun H locs h => ?_)
  refine lv_aload_n hx hb dL_law_839 rfl (lv_at hl 2 rfl) ?_
  refine l_arg (j := 1) G hX hbl h hl hi hL (by decide) (by decide) dL_law_840 dL_law_841 dL_law_842 dL_law_843 dL_law_844 ?_
  refine l_arg (j := 2) G hX hbl h hl hi hL (by decide) (by decide) dL_law_845 dL_law_846 dL_law_847 dL_law_848 dL_law_849 ?_
  refine l_x6 (as := [.int (xs (i + 1)), .int (xs (i + 2))]) (r := .int v) (rest := [.int v]) G h dL_law_850 lv_X6_113 rfl rfl rfl rfl hl.1 (Nat.le_of_ble_eq_true rfl) (Nat.le_of_ble_eq_true rfl) (Nat.le_of_ble_eq_true rfl) (Nat.le_of_ble_eq_true rfl) hce hsl (fun σ I => RR.post (g6 σ (fun v2 σ2 => v2 = v ∧ Inv1 a2 σ2) I (fun σ2 I2 => ⟨rfl, I2⟩)) (fun x σ2 hq => by obtain ⟨v2, e2, e3, e4⟩ := hq; subst e3; exact ⟨e2, e4⟩)) (fun H locs h => ?_)
  refine lv_icmp_eq (tgt := 1474) hx hb dL_law_853 (by decide) (fun _ => ?_) (fun c1 => absurd rfl c1)
  exact kk a2 H locs h
theorem lc_24 {b L i : Nat} {xs : Nat → Int32} (G : l_G p s m args c D dA ad0 ad1) (hX : va_X b L xs s s.heap) (hbl : b < s.heap.size) (h : l_H s D dA ad0 ad1 a a H locs) (hW : WF a) (hl : lv_has ls 4 [(0, .ref b), (1, .ref (ad0 0)), (2, .ref (ad1 0)), (3, .int (nI i))]) (hi : i + 6 ≤ L) (hL : L ≤ 384) (hce : cells ≤ room_1.cells) (hsl : slots ≤ room_1.slots) (kk : ∀ (a2 : ab) (H1 : Heap) (locs1 : List Loc), l_H s D dA ad0 ad1 a2 a2 H1 locs1 → W p l e room_1 s m args below meth c H1 locs1 cells slots Q (F0 m 1474 ls [])) : W p l e room_1 s m args below meth c H locs cells slots Q (F0 m 858 ls []) := by
  obtain ⟨hx, hb, -⟩ := id G
  obtain ⟨v, a2, g5, g6⟩ := p_plan a hW (xs (i + 1)) (xs (i + 2))
  refine lv_aload_n hx hb dL_law_858 rfl (lv_at hl 1 rfl) ?_
  refine l_arg (j := 1) G hX hbl h hl hi hL (by decide) (by decide) dL_law_859 dL_law_860 dL_law_861 dL_law_862 dL_law_863 ?_
  refine l_arg (j := 2) G hX hbl h hl hi hL (by decide) (by decide) dL_law_864 dL_law_865 dL_law_866 dL_law_867 dL_law_868 ?_
  refine l_x5 (as := [.int (xs (i + 1)), .int (xs (i + 2))]) (r := .int v) (rest := []) G h dL_law_869 lv_X5_114 rfl rfl rfl rfl hl.1 (Nat.le_of_ble_eq_true rfl) (Nat.le_of_ble_eq_true rfl) (Nat.le_of_ble_eq_true rfl) (Nat.le_of_ble_eq_true rfl) hce hsl (fun σ I => RR.post (g5 σ (fun v2 σ2 => v2 = v ∧ Inv0 a2 σ2) I (fun σ2 I2 => ⟨rfl, I2⟩)) (fun x σ2 hq => by obtain ⟨v2, e2, e3, e4⟩ := hq; subst e3; exact ⟨e2, e4⟩)) (fun H locs h => ?_)
  refine lv_aload_n hx hb dL_law_872 rfl (lv_at hl 2 rfl) ?_
  refine l_arg (j := 1) G hX hbl h hl hi hL (by decide) (by decide) dL_law_873 dL_law_874 dL_law_875 dL_law_876 dL_law_877 ?_
  refine l_arg (j := 2) G hX hbl h hl hi hL (by decide) (by decide) dL_law_878 dL_law_879 dL_law_880 dL_law_881 dL_law_882 ?_
  refine l_x6 (as := [.int (xs (i + 1)), .int (xs (i + 2))]) (r := .int v) (rest := [.int v]) G h dL_law_883 lv_X6_117 rfl rfl rfl rfl hl.1 (Nat.le_of_ble_eq_true rfl) (Nat.le_of_ble_eq_true rfl) (Nat.le_of_ble_eq_true rfl) (Nat.le_of_ble_eq_true rfl) hce hsl (fun σ I => RR.post (g6 σ (fun v2 σ2 => v2 = v ∧ Inv1 a2 σ2) I (fun σ2 I2 => ⟨rfl, I2⟩)) (fun x σ2 hq => by obtain ⟨v2, e2, e3, e4⟩ := hq; subst e3; exact ⟨e2, e4⟩)) (fun H locs h => ?_)
  refine lv_icmp_eq (tgt := 1474) hx hb dL_law_886 (by decide) (fun _ => ?_) (fun c1 => absurd rfl c1)
  exact kk a2 H locs h
theorem lc_25 {b L i : Nat} {xs : Nat → Int32} (G : l_G p s m args c D dA ad0 ad1) (hX : va_X b L xs s s.heap) (hbl : b < s.heap.size) (h : l_H s D dA ad0 ad1 a a H locs) (hW : WF a) (hl : lv_has ls 4 [(0, .ref b), (1, .ref (ad0 0)), (2, .ref (ad1 0)), (3, .int (nI i))]) (hi : i + 6 ≤ L) (hL : L ≤ 384) (hce : cells ≤ room_1.cells) (hsl : slots ≤ room_1.slots) (kk : ∀ (a2 : ab) (H1 : Heap) (locs1 : List Loc), l_H s D dA ad0 ad1 a2 a2 H1 locs1 → W p l e room_1 s m args below meth c H1 locs1 cells slots Q (F0 m 1474 ls [])) : W p l e room_1 s m args below meth c H locs cells slots Q (F0 m 891 ls []) := by
  obtain ⟨hx, hb, -⟩ := id G
  obtain ⟨v, a2, g5, g6⟩ := p_words a hW (xs (i + 1)) (xs (i + 2)) (xs (i + 3))
  refine lv_aload_n hx hb dL_law_891 rfl (lv_at hl 1 rfl) ?_
  refine l_arg (j := 1) G hX hbl h hl hi hL (by decide) (by decide) dL_law_892 dL_law_893 dL_law_894 dL_law_895 dL_law_896 ?_
  refine l_arg (j := 2) G hX hbl h hl hi hL (by decide) (by decide) dL_law_897 dL_law_898 dL_law_899 dL_law_900 dL_law_901 ?_
  refine l_arg (j := 3) G hX hbl h hl hi hL (by decide) (by decide) dL_law_902 dL_law_903 dL_law_904 dL_law_905 dL_law_906 ?_
  refine l_x5 (as := [.int (xs (i + 1)), .int (xs (i + 2)), .int (xs (i + 3))]) (r := .int v) (rest := []) G h dL_law_907 lv_X5_118 rfl rfl rfl rfl hl.1 (Nat.le_of_ble_eq_true rfl) (Nat.le_of_ble_eq_true rfl) (Nat.le_of_ble_eq_true rfl) (Nat.le_of_ble_eq_true rfl) hce hsl (fun σ I => RR.post (g5 σ (fun v2 σ2 => v2 = v ∧ Inv0 a2 σ2) I (fun σ2 I2 => ⟨rfl, I2⟩)) (fun x σ2 hq => by obtain ⟨v2, e2, e3, e4⟩ := hq; subst e3; exact ⟨e2, e4⟩)) (fun H locs h => ?_)
  refine lv_aload_n hx hb dL_law_910 rfl (lv_at hl 2 rfl) ?_
  refine l_arg (j := 1) G hX hbl h hl hi hL (by decide) (by decide) dL_law_911 dL_law_912 dL_law_913 dL_law_914 dL_law_915 ?_
  refine l_arg (j := 2) G hX hbl h hl hi hL (by decide) (by decide) dL_law_916 dL_law_917 dL_law_918 dL_law_919 dL_law_920 ?_
  refine l_arg (j := 3) G hX hbl h hl hi hL (by decide) (by decide) dL_law_921 dL_law_922 dL_law_923 dL_law_924 dL_law_925 ?_
  refine l_x6 (as := [.int (xs (i + 1)), .int (xs (i + 2)), .int (xs (i + 3))]) (r := .int v) (rest := [.int v]) G h dL_law_926 lv_X6_121 rfl rfl rfl rfl hl.1 (Nat.le_of_ble_eq_true rfl) (Nat.le_of_ble_eq_true rfl) (Nat.le_of_ble_eq_true rfl) (Nat.le_of_ble_eq_true rfl) hce hsl (fun σ I => RR.post (g6 σ (fun v2 σ2 => v2 = v ∧ Inv1 a2 σ2) I (fun σ2 I2 => ⟨rfl, I2⟩)) (fun x σ2 hq => by obtain ⟨v2, e2, e3, e4⟩ := hq; subst e3; exact ⟨e2, e4⟩)) (fun H locs h => ?_)
  refine lv_icmp_eq (tgt := 1474) hx hb dL_law_929 (by decide) (fun _ => ?_) (fun c1 => absurd rfl c1)
  exact kk a2 H locs h
theorem lc_26 {b L i : Nat} {xs : Nat → Int32} (G : l_G p s m args c D dA ad0 ad1) (hX : va_X b L xs s s.heap) (hbl : b < s.heap.size) (h : l_H s D dA ad0 ad1 a a H locs) (hW : WF a) (hl : lv_has ls 4 [(0, .ref b), (1, .ref (ad0 0)), (2, .ref (ad1 0)), (3, .int (nI i))]) (hi : i + 6 ≤ L) (hL : L ≤ 384) (hce : cells ≤ room_1.cells) (hsl : slots ≤ room_1.slots) (kk : ∀ (a2 : ab) (H1 : Heap) (locs1 : List Loc), l_H s D dA ad0 ad1 a2 a2 H1 locs1 → W p l e room_1 s m args below meth c H1 locs1 cells slots Q (F0 m 1474 ls [])) : W p l e room_1 s m args below meth c H locs cells slots Q (F0 m 934 ls []) := by
  obtain ⟨hx, hb, -⟩ := id G
  obtain ⟨v, a2, g5, g6⟩ := p_seen a hW (xs (i + 1)) (xs (i + 2))
  refine lv_aload_n hx hb dL_law_934 rfl (lv_at hl 1 rfl) ?_
  refine l_arg (j := 1) G hX hbl h hl hi hL (by decide) (by decide) dL_law_935 dL_law_936 dL_law_937 dL_law_938 dL_law_939 ?_
  refine l_arg (j := 2) G hX hbl h hl hi hL (by decide) (by decide) dL_law_940 dL_law_941 dL_law_942 dL_law_943 dL_law_944 ?_
  refine l_x5 (as := [.int (xs (i + 1)), .int (xs (i + 2))]) (r := .int v) (rest := []) G h dL_law_945 lv_X5_122 rfl rfl rfl rfl hl.1 (Nat.le_of_ble_eq_true rfl) (Nat.le_of_ble_eq_true rfl) (Nat.le_of_ble_eq_true rfl) (Nat.le_of_ble_eq_true rfl) hce hsl (fun σ I => RR.post (g5 σ (fun v2 σ2 => v2 = v ∧ Inv0 a2 σ2) I (fun σ2 I2 => ⟨rfl, I2⟩)) (fun x σ2 hq => by obtain ⟨v2, e2, e3, e4⟩ := hq; subst e3; exact ⟨e2, e4⟩)) (fun H locs h => ?_)
  refine lv_aload_n hx hb dL_law_948 rfl (lv_at hl 2 rfl) ?_
  refine l_arg (j := 1) G hX hbl h hl hi hL (by decide) (by decide) dL_law_949 dL_law_950 dL_law_951 dL_law_952 dL_law_953 ?_
  refine l_arg (j := 2) G hX hbl h hl hi hL (by decide) (by decide) dL_law_954 dL_law_955 dL_law_956 dL_law_957 dL_law_958 ?_
  refine l_x6 (as := [.int (xs (i + 1)), .int (xs (i + 2))]) (r := .int v) (rest := [.int v]) G h dL_law_959 lv_X6_125 rfl rfl rfl rfl hl.1 (Nat.le_of_ble_eq_true rfl) (Nat.le_of_ble_eq_true rfl) (Nat.le_of_ble_eq_true rfl) (Nat.le_of_ble_eq_true rfl) hce hsl (fun σ I => RR.post (g6 σ (fun v2 σ2 => v2 = v ∧ Inv1 a2 σ2) I (fun σ2 I2 => ⟨rfl, I2⟩)) (fun x σ2 hq => by obtain ⟨v2, e2, e3, e4⟩ := hq; subst e3; exact ⟨e2, e4⟩)) (fun H locs h => ?_)
  refine lv_icmp_eq (tgt := 1474) hx hb dL_law_962 (by decide) (fun _ => ?_) (fun c1 => absurd rfl c1)
  exact kk a2 H locs h
theorem lc_27 {b L i : Nat} {xs : Nat → Int32} (G : l_G p s m args c D dA ad0 ad1) (hX : va_X b L xs s s.heap) (hbl : b < s.heap.size) (h : l_H s D dA ad0 ad1 a a H locs) (hW : WF a) (hl : lv_has ls 4 [(0, .ref b), (1, .ref (ad0 0)), (2, .ref (ad1 0)), (3, .int (nI i))]) (hi : i + 6 ≤ L) (hL : L ≤ 384) (hce : cells ≤ room_1.cells) (hsl : slots ≤ room_1.slots) (kk : ∀ (a2 : ab) (H1 : Heap) (locs1 : List Loc), l_H s D dA ad0 ad1 a2 a2 H1 locs1 → W p l e room_1 s m args below meth c H1 locs1 cells slots Q (F0 m 1474 ls [])) : W p l e room_1 s m args below meth c H locs cells slots Q (F0 m 967 ls []) := by
  obtain ⟨hx, hb, -⟩ := id G
  obtain ⟨v, a2, g5, g6⟩ := p_book a hW (xs (i + 1)) (xs (i + 2)) (xs (i + 3))
  refine lv_aload_n hx hb dL_law_967 rfl (lv_at hl 1 rfl) ?_
  refine l_arg (j := 1) G hX hbl h hl hi hL (by decide) (by decide) dL_law_968 dL_law_969 dL_law_970 dL_law_971 dL_law_972 ?_
  refine l_arg (j := 2) G hX hbl h hl hi hL (by decide) (by decide) dL_law_973 dL_law_974 dL_law_975 dL_law_976 dL_law_977 ?_
  refine l_arg (j := 3) G hX hbl h hl hi hL (by decide) (by decide) dL_law_978 dL_law_979 dL_law_980 dL_law_981 dL_law_982 ?_
  refine l_x5 (as := [.int (xs (i + 1)), .int (xs (i + 2)), .int (xs (i + 3))]) (r := .int v) (rest := []) G h dL_law_983 lv_X5_126 rfl rfl rfl rfl hl.1 (Nat.le_of_ble_eq_true rfl) (Nat.le_of_ble_eq_true rfl) (Nat.le_of_ble_eq_true rfl) (Nat.le_of_ble_eq_true rfl) hce hsl (fun σ I => RR.post (g5 σ (fun v2 σ2 => v2 = v ∧ Inv0 a2 σ2) I (fun σ2 I2 => ⟨rfl, I2⟩)) (fun x σ2 hq => by obtain ⟨v2, e2, e3, e4⟩ := hq; subst e3; exact ⟨e2, e4⟩)) (fun H locs h => ?_)
  refine lv_aload_n hx hb dL_law_986 rfl (lv_at hl 2 rfl) ?_
  refine l_arg (j := 1) G hX hbl h hl hi hL (by decide) (by decide) dL_law_987 dL_law_988 dL_law_989 dL_law_990 dL_law_991 ?_
  refine l_arg (j := 2) G hX hbl h hl hi hL (by decide) (by decide) dL_law_992 dL_law_993 dL_law_994 dL_law_995 dL_law_996 ?_
  refine l_arg (j := 3) G hX hbl h hl hi hL (by decide) (by decide) dL_law_997 dL_law_998 dL_law_999 dL_law_1000 dL_law_1001 ?_
  refine l_x6 (as := [.int (xs (i + 1)), .int (xs (i + 2)), .int (xs (i + 3))]) (r := .int v) (rest := [.int v]) G h dL_law_1002 lv_X6_129 rfl rfl rfl rfl hl.1 (Nat.le_of_ble_eq_true rfl) (Nat.le_of_ble_eq_true rfl) (Nat.le_of_ble_eq_true rfl) (Nat.le_of_ble_eq_true rfl) hce hsl (fun σ I => RR.post (g6 σ (fun v2 σ2 => v2 = v ∧ Inv1 a2 σ2) I (fun σ2 I2 => ⟨rfl, I2⟩)) (fun x σ2 hq => by obtain ⟨v2, e2, e3, e4⟩ := hq; subst e3; exact ⟨e2, e4⟩)) (fun H locs h => ?_)
  refine lv_icmp_eq (tgt := 1474) hx hb dL_law_1005 (by decide) (fun _ => ?_) (fun c1 => absurd rfl c1)
  exact kk a2 H locs h
theorem lc_28 {b L i : Nat} {xs : Nat → Int32} (G : l_G p s m args c D dA ad0 ad1) (hX : va_X b L xs s s.heap) (hbl : b < s.heap.size) (h : l_H s D dA ad0 ad1 a a H locs) (hW : WF a) (hl : lv_has ls 4 [(0, .ref b), (1, .ref (ad0 0)), (2, .ref (ad1 0)), (3, .int (nI i))]) (hi : i + 6 ≤ L) (hL : L ≤ 384) (hce : cells ≤ room_1.cells) (hsl : slots ≤ room_1.slots) (kk : ∀ (a2 : ab) (H1 : Heap) (locs1 : List Loc), l_H s D dA ad0 ad1 a2 a2 H1 locs1 → W p l e room_1 s m args below meth c H1 locs1 cells slots Q (F0 m 1474 ls [])) : W p l e room_1 s m args below meth c H locs cells slots Q (F0 m 1010 ls []) := by
  obtain ⟨hx, hb, -⟩ := id G
  obtain ⟨v, a2, g5, g6⟩ := p_forget a hW (xs (i + 1))
  refine lv_aload_n hx hb dL_law_1010 rfl (lv_at hl 1 rfl) ?_
  refine l_arg (j := 1) G hX hbl h hl hi hL (by decide) (by decide) dL_law_1011 dL_law_1012 dL_law_1013 dL_law_1014 dL_law_1015 ?_
  refine l_x5 (as := [.int (xs (i + 1))]) (r := .int v) (rest := []) G h dL_law_1016 lv_X5_130 rfl rfl rfl rfl hl.1 (Nat.le_of_ble_eq_true rfl) (Nat.le_of_ble_eq_true rfl) (Nat.le_of_ble_eq_true rfl) (Nat.le_of_ble_eq_true rfl) hce hsl (fun σ I => RR.post (g5 σ (fun v2 σ2 => v2 = v ∧ Inv0 a2 σ2) I (fun σ2 I2 => ⟨rfl, I2⟩)) (fun x σ2 hq => by obtain ⟨v2, e2, e3, e4⟩ := hq; subst e3; exact ⟨e2, e4⟩)) (fun H locs h => ?_)
  refine lv_aload_n hx hb dL_law_1019 rfl (lv_at hl 2 rfl) ?_
  refine l_arg (j := 1) G hX hbl h hl hi hL (by decide) (by decide) dL_law_1020 dL_law_1021 dL_law_1022 dL_law_1023 dL_law_1024 ?_
  refine l_x6 (as := [.int (xs (i + 1))]) (r := .int v) (rest := [.int v]) G h dL_law_1025 lv_X6_133 rfl rfl rfl rfl hl.1 (Nat.le_of_ble_eq_true rfl) (Nat.le_of_ble_eq_true rfl) (Nat.le_of_ble_eq_true rfl) (Nat.le_of_ble_eq_true rfl) hce hsl (fun σ I => RR.post (g6 σ (fun v2 σ2 => v2 = v ∧ Inv1 a2 σ2) I (fun σ2 I2 => ⟨rfl, I2⟩)) (fun x σ2 hq => by obtain ⟨v2, e2, e3, e4⟩ := hq; subst e3; exact ⟨e2, e4⟩)) (fun H locs h => ?_)
  refine lv_icmp_eq (tgt := 1474) hx hb dL_law_1028 (by decide) (fun _ => ?_) (fun c1 => absurd rfl c1)
  exact kk a2 H locs h
theorem lc_29 {b L i : Nat} {xs : Nat → Int32} (G : l_G p s m args c D dA ad0 ad1) (hX : va_X b L xs s s.heap) (hbl : b < s.heap.size) (h : l_H s D dA ad0 ad1 a a H locs) (hW : WF a) (hl : lv_has ls 4 [(0, .ref b), (1, .ref (ad0 0)), (2, .ref (ad1 0)), (3, .int (nI i))]) (hi : i + 6 ≤ L) (hL : L ≤ 384) (hce : cells ≤ room_1.cells) (hsl : slots ≤ room_1.slots) (kk : ∀ (a2 : ab) (H1 : Heap) (locs1 : List Loc), l_H s D dA ad0 ad1 a2 a2 H1 locs1 → W p l e room_1 s m args below meth c H1 locs1 cells slots Q (F0 m 1474 ls [])) : W p l e room_1 s m args below meth c H locs cells slots Q (F0 m 1033 ls []) := by
  obtain ⟨hx, hb, -⟩ := id G
  obtain ⟨v, a2, g5, g6⟩ := p_when a hW (xs (i + 1))
  refine lv_aload_n hx hb dL_law_1033 rfl (lv_at hl 1 rfl) ?_
  refine l_arg (j := 1) G hX hbl h hl hi hL (by decide) (by decide) dL_law_1034 dL_law_1035 dL_law_1036 dL_law_1037 dL_law_1038 ?_
  refine l_x5 (as := [.int (xs (i + 1))]) (r := .int v) (rest := []) G h dL_law_1039 lv_X5_134 rfl rfl rfl rfl hl.1 (Nat.le_of_ble_eq_true rfl) (Nat.le_of_ble_eq_true rfl) (Nat.le_of_ble_eq_true rfl) (Nat.le_of_ble_eq_true rfl) hce hsl (fun σ I => RR.post (g5 σ (fun v2 σ2 => v2 = v ∧ Inv0 a2 σ2) I (fun σ2 I2 => ⟨rfl, I2⟩)) (fun x σ2 hq => by obtain ⟨v2, e2, e3, e4⟩ := hq; subst e3; exact ⟨e2, e4⟩)) (fun H locs h => ?_)
  refine lv_aload_n hx hb dL_law_1042 rfl (lv_at hl 2 rfl) ?_
  refine l_arg (j := 1) G hX hbl h hl hi hL (by decide) (by decide) dL_law_1043 dL_law_1044 dL_law_1045 dL_law_1046 dL_law_1047 ?_
  refine l_x6 (as := [.int (xs (i + 1))]) (r := .int v) (rest := [.int v]) G h dL_law_1048 lv_X6_137 rfl rfl rfl rfl hl.1 (Nat.le_of_ble_eq_true rfl) (Nat.le_of_ble_eq_true rfl) (Nat.le_of_ble_eq_true rfl) (Nat.le_of_ble_eq_true rfl) hce hsl (fun σ I => RR.post (g6 σ (fun v2 σ2 => v2 = v ∧ Inv1 a2 σ2) I (fun σ2 I2 => ⟨rfl, I2⟩)) (fun x σ2 hq => by obtain ⟨v2, e2, e3, e4⟩ := hq; subst e3; exact ⟨e2, e4⟩)) (fun H locs h => ?_)
  refine lv_icmp_eq (tgt := 1474) hx hb dL_law_1051 (by decide) (fun _ => ?_) (fun c1 => absurd rfl c1)
  exact kk a2 H locs h
theorem lc_30 {b L i : Nat} {xs : Nat → Int32} (G : l_G p s m args c D dA ad0 ad1) (hX : va_X b L xs s s.heap) (hbl : b < s.heap.size) (h : l_H s D dA ad0 ad1 a a H locs) (hW : WF a) (hl : lv_has ls 4 [(0, .ref b), (1, .ref (ad0 0)), (2, .ref (ad1 0)), (3, .int (nI i))]) (hi : i + 6 ≤ L) (hL : L ≤ 384) (hce : cells ≤ room_1.cells) (hsl : slots ≤ room_1.slots) (kk : ∀ (a2 : ab) (H1 : Heap) (locs1 : List Loc), l_H s D dA ad0 ad1 a2 a2 H1 locs1 → W p l e room_1 s m args below meth c H1 locs1 cells slots Q (F0 m 1474 ls [])) : W p l e room_1 s m args below meth c H locs cells slots Q (F0 m 1056 ls []) := by
  obtain ⟨hx, hb, -⟩ := id G
  obtain ⟨v, a2, g5, g6⟩ := p_ask a hW
  refine lv_aload_n hx hb dL_law_1056 rfl (lv_at hl 1 rfl) ?_
  refine l_x5 (as := []) (r := .int v) (rest := []) G h dL_law_1057 lv_X5_138 rfl rfl rfl rfl hl.1 (Nat.le_of_ble_eq_true rfl) (Nat.le_of_ble_eq_true rfl) (Nat.le_of_ble_eq_true rfl) (Nat.le_of_ble_eq_true rfl) hce hsl (fun σ I => RR.post (g5 σ (fun v2 σ2 => v2 = v ∧ Inv0 a2 σ2) I (fun σ2 I2 => ⟨rfl, I2⟩)) (fun x σ2 hq => by obtain ⟨v2, e2, e3, e4⟩ := hq; subst e3; exact ⟨e2, e4⟩)) (fun H locs h => ?_)
  refine lv_aload_n hx hb dL_law_1060 rfl (lv_at hl 2 rfl) ?_
  refine l_x6 (as := []) (r := .int v) (rest := [.int v]) G h dL_law_1061 lv_X6_141 rfl rfl rfl rfl hl.1 (Nat.le_of_ble_eq_true rfl) (Nat.le_of_ble_eq_true rfl) (Nat.le_of_ble_eq_true rfl) (Nat.le_of_ble_eq_true rfl) hce hsl (fun σ I => RR.post (g6 σ (fun v2 σ2 => v2 = v ∧ Inv1 a2 σ2) I (fun σ2 I2 => ⟨rfl, I2⟩)) (fun x σ2 hq => by obtain ⟨v2, e2, e3, e4⟩ := hq; subst e3; exact ⟨e2, e4⟩)) (fun H locs h => ?_)
  refine lv_icmp_eq (tgt := 1474) hx hb dL_law_1064 (by decide) (fun _ => ?_) (fun c1 => absurd rfl c1)
  exact kk a2 H locs h
theorem lc_31 {b L i : Nat} {xs : Nat → Int32} (G : l_G p s m args c D dA ad0 ad1) (hX : va_X b L xs s s.heap) (hbl : b < s.heap.size) (h : l_H s D dA ad0 ad1 a a H locs) (hW : WF a) (hl : lv_has ls 4 [(0, .ref b), (1, .ref (ad0 0)), (2, .ref (ad1 0)), (3, .int (nI i))]) (hi : i + 6 ≤ L) (hL : L ≤ 384) (hce : cells ≤ room_1.cells) (hsl : slots ≤ room_1.slots) (kk : ∀ (a2 : ab) (H1 : Heap) (locs1 : List Loc), l_H s D dA ad0 ad1 a2 a2 H1 locs1 → W p l e room_1 s m args below meth c H1 locs1 cells slots Q (F0 m 1474 ls [])) : W p l e room_1 s m args below meth c H locs cells slots Q (F0 m 1069 ls []) := by
  obtain ⟨hx, hb, -⟩ := id G
  obtain ⟨v, a2, g5, g6⟩ := p_forged a hW
  refine lv_aload_n hx hb dL_law_1069 rfl (lv_at hl 1 rfl) ?_
  refine l_x5 (as := []) (r := .int v) (rest := []) G h dL_law_1070 lv_X5_142 rfl rfl rfl rfl hl.1 (Nat.le_of_ble_eq_true rfl) (Nat.le_of_ble_eq_true rfl) (Nat.le_of_ble_eq_true rfl) (Nat.le_of_ble_eq_true rfl) hce hsl (fun σ I => RR.post (g5 σ (fun v2 σ2 => v2 = v ∧ Inv0 a2 σ2) I (fun σ2 I2 => ⟨rfl, I2⟩)) (fun x σ2 hq => by obtain ⟨v2, e2, e3, e4⟩ := hq; subst e3; exact ⟨e2, e4⟩)) (fun H locs h => ?_)
  refine lv_aload_n hx hb dL_law_1073 rfl (lv_at hl 2 rfl) ?_
  refine l_x6 (as := []) (r := .int v) (rest := [.int v]) G h dL_law_1074 lv_X6_145 rfl rfl rfl rfl hl.1 (Nat.le_of_ble_eq_true rfl) (Nat.le_of_ble_eq_true rfl) (Nat.le_of_ble_eq_true rfl) (Nat.le_of_ble_eq_true rfl) hce hsl (fun σ I => RR.post (g6 σ (fun v2 σ2 => v2 = v ∧ Inv1 a2 σ2) I (fun σ2 I2 => ⟨rfl, I2⟩)) (fun x σ2 hq => by obtain ⟨v2, e2, e3, e4⟩ := hq; subst e3; exact ⟨e2, e4⟩)) (fun H locs h => ?_)
  refine lv_icmp_eq (tgt := 1474) hx hb dL_law_1077 (by decide) (fun _ => ?_) (fun c1 => absurd rfl c1)
  exact kk a2 H locs h
theorem lc_32 {b L i : Nat} {xs : Nat → Int32} (G : l_G p s m args c D dA ad0 ad1) (hX : va_X b L xs s s.heap) (hbl : b < s.heap.size) (h : l_H s D dA ad0 ad1 a a H locs) (hW : WF a) (hl : lv_has ls 4 [(0, .ref b), (1, .ref (ad0 0)), (2, .ref (ad1 0)), (3, .int (nI i))]) (hi : i + 6 ≤ L) (hL : L ≤ 384) (hce : cells ≤ room_1.cells) (hsl : slots ≤ room_1.slots) (kk : ∀ (a2 : ab) (H1 : Heap) (locs1 : List Loc), l_H s D dA ad0 ad1 a2 a2 H1 locs1 → W p l e room_1 s m args below meth c H1 locs1 cells slots Q (F0 m 1474 ls [])) : W p l e room_1 s m args below meth c H locs cells slots Q (F0 m 1082 ls []) := by
  obtain ⟨hx, hb, -⟩ := id G
  obtain ⟨v, a2, g5, g6⟩ := p_chance a hW (xs (i + 1)) (xs (i + 2)) (xs (i + 3)) (xs (i + 4)) (xs (i + 5))
  refine lv_aload_n hx hb dL_law_1082 rfl (lv_at hl 1 rfl) ?_
  refine l_arg (j := 1) G hX hbl h hl hi hL (by decide) (by decide) dL_law_1083 dL_law_1084 dL_law_1085 dL_law_1086 dL_law_1087 ?_
  refine l_arg (j := 2) G hX hbl h hl hi hL (by decide) (by decide) dL_law_1088 dL_law_1089 dL_law_1090 dL_law_1091 dL_law_1092 ?_
  refine l_arg (j := 3) G hX hbl h hl hi hL (by decide) (by decide) dL_law_1093 dL_law_1094 dL_law_1095 dL_law_1096 dL_law_1097 ?_
  refine l_arg (j := 4) G hX hbl h hl hi hL (by decide) (by decide) dL_law_1098 dL_law_1099 dL_law_1100 dL_law_1101 dL_law_1102 ?_
  refine l_arg (j := 5) G hX hbl h hl hi hL (by decide) (by decide) dL_law_1103 dL_law_1104 dL_law_1105 dL_law_1106 dL_law_1107 ?_
  refine l_x5 (as := [.int (xs (i + 1)), .int (xs (i + 2)), .int (xs (i + 3)), .int (xs (i + 4)), .int (xs (i + 5))]) (r := .long v) (rest := []) G h dL_law_1108 lv_X5_146 rfl rfl rfl rfl hl.1 (Nat.le_of_ble_eq_true rfl) (Nat.le_of_ble_eq_true rfl) (Nat.le_of_ble_eq_true rfl) (Nat.le_of_ble_eq_true rfl) hce hsl (fun σ I => RR.post (g5 σ (fun v2 σ2 => v2 = v ∧ Inv0 a2 σ2) I (fun σ2 I2 => ⟨rfl, I2⟩)) (fun x σ2 hq => by obtain ⟨v2, e2, e3, e4⟩ := hq; subst e3; exact ⟨e2, e4⟩)) (fun H locs h => ?_)
  refine lv_aload_n hx hb dL_law_1111 rfl (lv_at hl 2 rfl) ?_
  refine l_arg (j := 1) G hX hbl h hl hi hL (by decide) (by decide) dL_law_1112 dL_law_1113 dL_law_1114 dL_law_1115 dL_law_1116 ?_
  refine l_arg (j := 2) G hX hbl h hl hi hL (by decide) (by decide) dL_law_1117 dL_law_1118 dL_law_1119 dL_law_1120 dL_law_1121 ?_
  refine l_arg (j := 3) G hX hbl h hl hi hL (by decide) (by decide) dL_law_1122 dL_law_1123 dL_law_1124 dL_law_1125 dL_law_1126 ?_
  refine l_arg (j := 4) G hX hbl h hl hi hL (by decide) (by decide) dL_law_1127 dL_law_1128 dL_law_1129 dL_law_1130 dL_law_1131 ?_
  refine l_arg (j := 5) G hX hbl h hl hi hL (by decide) (by decide) dL_law_1132 dL_law_1133 dL_law_1134 dL_law_1135 dL_law_1136 ?_
  refine l_x6 (as := [.int (xs (i + 1)), .int (xs (i + 2)), .int (xs (i + 3)), .int (xs (i + 4)), .int (xs (i + 5))]) (r := .long v) (rest := [.long v]) G h dL_law_1137 lv_X6_150 rfl rfl rfl rfl hl.1 (Nat.le_of_ble_eq_true rfl) (Nat.le_of_ble_eq_true rfl) (Nat.le_of_ble_eq_true rfl) (Nat.le_of_ble_eq_true rfl) hce hsl (fun σ I => RR.post (g6 σ (fun v2 σ2 => v2 = v ∧ Inv1 a2 σ2) I (fun σ2 I2 => ⟨rfl, I2⟩)) (fun x σ2 hq => by obtain ⟨v2, e2, e3, e4⟩ := hq; subst e3; exact ⟨e2, e4⟩)) (fun H locs h => ?_)
  refine W.lcmp hx hb dL_law_1140 ?_
  refine lv_if_eq (tgt := 1474) hx hb dL_law_1141 (by decide) (fun _ => ?_) (fun c1 => absurd (l_same v) c1)
  exact kk a2 H locs h
theorem lc_33 {b L i : Nat} {xs : Nat → Int32} (G : l_G p s m args c D dA ad0 ad1) (hX : va_X b L xs s s.heap) (hbl : b < s.heap.size) (h : l_H s D dA ad0 ad1 a a H locs) (hW : WF a) (hl : lv_has ls 4 [(0, .ref b), (1, .ref (ad0 0)), (2, .ref (ad1 0)), (3, .int (nI i))]) (hi : i + 6 ≤ L) (hL : L ≤ 384) (hce : cells ≤ room_1.cells) (hsl : slots ≤ room_1.slots) (kk : ∀ (a2 : ab) (H1 : Heap) (locs1 : List Loc), l_H s D dA ad0 ad1 a2 a2 H1 locs1 → W p l e room_1 s m args below meth c H1 locs1 cells slots Q (F0 m 1474 ls [])) : W p l e room_1 s m args below meth c H locs cells slots Q (F0 m 1146 ls []) := by
  obtain ⟨hx, hb, -⟩ := id G
  obtain ⟨v, a2, g5, g6⟩ := p_year a hW (xs (i + 1)) (xs (i + 2)) (xs (i + 3))
  refine lv_aload_n hx hb dL_law_1146 rfl (lv_at hl 1 rfl) ?_
  refine l_arg (j := 1) G hX hbl h hl hi hL (by decide) (by decide) dL_law_1147 dL_law_1148 dL_law_1149 dL_law_1150 dL_law_1151 ?_
  refine l_arg (j := 2) G hX hbl h hl hi hL (by decide) (by decide) dL_law_1152 dL_law_1153 dL_law_1154 dL_law_1155 dL_law_1156 ?_
  refine l_arg (j := 3) G hX hbl h hl hi hL (by decide) (by decide) dL_law_1157 dL_law_1158 dL_law_1159 dL_law_1160 dL_law_1161 ?_
  refine l_x5 (as := [.int (xs (i + 1)), .int (xs (i + 2)), .int (xs (i + 3))]) (r := .int v) (rest := []) G h dL_law_1162 lv_X5_151 rfl rfl rfl rfl hl.1 (Nat.le_of_ble_eq_true rfl) (Nat.le_of_ble_eq_true rfl) (Nat.le_of_ble_eq_true rfl) (Nat.le_of_ble_eq_true rfl) hce hsl (fun σ I => RR.post (g5 σ (fun v2 σ2 => v2 = v ∧ Inv0 a2 σ2) I (fun σ2 I2 => ⟨rfl, I2⟩)) (fun x σ2 hq => by obtain ⟨v2, e2, e3, e4⟩ := hq; subst e3; exact ⟨e2, e4⟩)) (fun H locs h => ?_)
  refine lv_aload_n hx hb dL_law_1165 rfl (lv_at hl 2 rfl) ?_
  refine l_arg (j := 1) G hX hbl h hl hi hL (by decide) (by decide) dL_law_1166 dL_law_1167 dL_law_1168 dL_law_1169 dL_law_1170 ?_
  refine l_arg (j := 2) G hX hbl h hl hi hL (by decide) (by decide) dL_law_1171 dL_law_1172 dL_law_1173 dL_law_1174 dL_law_1175 ?_
  refine l_arg (j := 3) G hX hbl h hl hi hL (by decide) (by decide) dL_law_1176 dL_law_1177 dL_law_1178 dL_law_1179 dL_law_1180 ?_
  refine l_x6 (as := [.int (xs (i + 1)), .int (xs (i + 2)), .int (xs (i + 3))]) (r := .int v) (rest := [.int v]) G h dL_law_1181 lv_X6_154 rfl rfl rfl rfl hl.1 (Nat.le_of_ble_eq_true rfl) (Nat.le_of_ble_eq_true rfl) (Nat.le_of_ble_eq_true rfl) (Nat.le_of_ble_eq_true rfl) hce hsl (fun σ I => RR.post (g6 σ (fun v2 σ2 => v2 = v ∧ Inv1 a2 σ2) I (fun σ2 I2 => ⟨rfl, I2⟩)) (fun x σ2 hq => by obtain ⟨v2, e2, e3, e4⟩ := hq; subst e3; exact ⟨e2, e4⟩)) (fun H locs h => ?_)
  refine lv_icmp_eq (tgt := 1474) hx hb dL_law_1184 (by decide) (fun _ => ?_) (fun c1 => absurd rfl c1)
  exact kk a2 H locs h
theorem lc_34 {b L i : Nat} {xs : Nat → Int32} (G : l_G p s m args c D dA ad0 ad1) (hX : va_X b L xs s s.heap) (hbl : b < s.heap.size) (h : l_H s D dA ad0 ad1 a a H locs) (hW : WF a) (hl : lv_has ls 4 [(0, .ref b), (1, .ref (ad0 0)), (2, .ref (ad1 0)), (3, .int (nI i))]) (hi : i + 6 ≤ L) (hL : L ≤ 384) (hce : cells ≤ room_1.cells) (hsl : slots ≤ room_1.slots) (kk : ∀ (a2 : ab) (H1 : Heap) (locs1 : List Loc), l_H s D dA ad0 ad1 a2 a2 H1 locs1 → W p l e room_1 s m args below meth c H1 locs1 cells slots Q (F0 m 1474 ls [])) : W p l e room_1 s m args below meth c H locs cells slots Q (F0 m 1189 ls []) := by
  obtain ⟨hx, hb, -⟩ := id G
  obtain ⟨v, a2, g5, g6⟩ := p_sheet a hW (xs (i + 1)) (xs (i + 2)) (xs (i + 3))
  refine lv_aload_n hx hb dL_law_1189 rfl (lv_at hl 1 rfl) ?_
  refine l_arg (j := 1) G hX hbl h hl hi hL (by decide) (by decide) dL_law_1190 dL_law_1191 dL_law_1192 dL_law_1193 dL_law_1194 ?_
  refine l_arg (j := 2) G hX hbl h hl hi hL (by decide) (by decide) dL_law_1195 dL_law_1196 dL_law_1197 dL_law_1198 dL_law_1199 ?_
  refine l_arg (j := 3) G hX hbl h hl hi hL (by decide) (by decide) dL_law_1200 dL_law_1201 dL_law_1202 dL_law_1203 dL_law_1204 ?_
  refine l_x5 (as := [.int (xs (i + 1)), .int (xs (i + 2)), .int (xs (i + 3))]) (r := .int v) (rest := []) G h dL_law_1205 lv_X5_155 rfl rfl rfl rfl hl.1 (Nat.le_of_ble_eq_true rfl) (Nat.le_of_ble_eq_true rfl) (Nat.le_of_ble_eq_true rfl) (Nat.le_of_ble_eq_true rfl) hce hsl (fun σ I => RR.post (g5 σ (fun v2 σ2 => v2 = v ∧ Inv0 a2 σ2) I (fun σ2 I2 => ⟨rfl, I2⟩)) (fun x σ2 hq => by obtain ⟨v2, e2, e3, e4⟩ := hq; subst e3; exact ⟨e2, e4⟩)) (fun H locs h => ?_)
  refine lv_aload_n hx hb dL_law_1208 rfl (lv_at hl 2 rfl) ?_
  refine l_arg (j := 1) G hX hbl h hl hi hL (by decide) (by decide) dL_law_1209 dL_law_1210 dL_law_1211 dL_law_1212 dL_law_1213 ?_
  refine l_arg (j := 2) G hX hbl h hl hi hL (by decide) (by decide) dL_law_1214 dL_law_1215 dL_law_1216 dL_law_1217 dL_law_1218 ?_
  refine l_arg (j := 3) G hX hbl h hl hi hL (by decide) (by decide) dL_law_1219 dL_law_1220 dL_law_1221 dL_law_1222 dL_law_1223 ?_
  refine l_x6 (as := [.int (xs (i + 1)), .int (xs (i + 2)), .int (xs (i + 3))]) (r := .int v) (rest := [.int v]) G h dL_law_1224 lv_X6_158 rfl rfl rfl rfl hl.1 (Nat.le_of_ble_eq_true rfl) (Nat.le_of_ble_eq_true rfl) (Nat.le_of_ble_eq_true rfl) (Nat.le_of_ble_eq_true rfl) hce hsl (fun σ I => RR.post (g6 σ (fun v2 σ2 => v2 = v ∧ Inv1 a2 σ2) I (fun σ2 I2 => ⟨rfl, I2⟩)) (fun x σ2 hq => by obtain ⟨v2, e2, e3, e4⟩ := hq; subst e3; exact ⟨e2, e4⟩)) (fun H locs h => ?_)
  refine lv_icmp_eq (tgt := 1474) hx hb dL_law_1227 (by decide) (fun _ => ?_) (fun c1 => absurd rfl c1)
  exact kk a2 H locs h
theorem lc_35 {b L i : Nat} {xs : Nat → Int32} (G : l_G p s m args c D dA ad0 ad1) (hX : va_X b L xs s s.heap) (hbl : b < s.heap.size) (h : l_H s D dA ad0 ad1 a a H locs) (hW : WF a) (hl : lv_has ls 4 [(0, .ref b), (1, .ref (ad0 0)), (2, .ref (ad1 0)), (3, .int (nI i))]) (hi : i + 6 ≤ L) (hL : L ≤ 384) (hce : cells ≤ room_1.cells) (hsl : slots ≤ room_1.slots) (kk : ∀ (a2 : ab) (H1 : Heap) (locs1 : List Loc), l_H s D dA ad0 ad1 a2 a2 H1 locs1 → W p l e room_1 s m args below meth c H1 locs1 cells slots Q (F0 m 1474 ls [])) : W p l e room_1 s m args below meth c H locs cells slots Q (F0 m 1232 ls []) := by
  obtain ⟨hx, hb, -⟩ := id G
  obtain ⟨v, a2, g5, g6⟩ := p_lose a hW (xs (i + 1))
  refine lv_aload_n hx hb dL_law_1232 rfl (lv_at hl 1 rfl) ?_
  refine l_arg (j := 1) G hX hbl h hl hi hL (by decide) (by decide) dL_law_1233 dL_law_1234 dL_law_1235 dL_law_1236 dL_law_1237 ?_
  refine l_x5 (as := [.int (xs (i + 1))]) (r := .int v) (rest := []) G h dL_law_1238 lv_X5_159 rfl rfl rfl rfl hl.1 (Nat.le_of_ble_eq_true rfl) (Nat.le_of_ble_eq_true rfl) (Nat.le_of_ble_eq_true rfl) (Nat.le_of_ble_eq_true rfl) hce hsl (fun σ I => RR.post (g5 σ (fun v2 σ2 => v2 = v ∧ Inv0 a2 σ2) I (fun σ2 I2 => ⟨rfl, I2⟩)) (fun x σ2 hq => by obtain ⟨v2, e2, e3, e4⟩ := hq; subst e3; exact ⟨e2, e4⟩)) (fun H locs h => ?_)
  refine lv_aload_n hx hb dL_law_1241 rfl (lv_at hl 2 rfl) ?_
  refine l_arg (j := 1) G hX hbl h hl hi hL (by decide) (by decide) dL_law_1242 dL_law_1243 dL_law_1244 dL_law_1245 dL_law_1246 ?_
  refine l_x6 (as := [.int (xs (i + 1))]) (r := .int v) (rest := [.int v]) G h dL_law_1247 lv_X6_162 rfl rfl rfl rfl hl.1 (Nat.le_of_ble_eq_true rfl) (Nat.le_of_ble_eq_true rfl) (Nat.le_of_ble_eq_true rfl) (Nat.le_of_ble_eq_true rfl) hce hsl (fun σ I => RR.post (g6 σ (fun v2 σ2 => v2 = v ∧ Inv1 a2 σ2) I (fun σ2 I2 => ⟨rfl, I2⟩)) (fun x σ2 hq => by obtain ⟨v2, e2, e3, e4⟩ := hq; subst e3; exact ⟨e2, e4⟩)) (fun H locs h => ?_)
  refine lv_icmp_eq (tgt := 1474) hx hb dL_law_1250 (by decide) (fun _ => ?_) (fun c1 => absurd rfl c1)
  exact kk a2 H locs h
theorem lc_36 {b L i : Nat} {xs : Nat → Int32} (G : l_G p s m args c D dA ad0 ad1) (hX : va_X b L xs s s.heap) (hbl : b < s.heap.size) (h : l_H s D dA ad0 ad1 a a H locs) (hW : WF a) (hl : lv_has ls 4 [(0, .ref b), (1, .ref (ad0 0)), (2, .ref (ad1 0)), (3, .int (nI i))]) (hi : i + 6 ≤ L) (hL : L ≤ 384) (hce : cells ≤ room_1.cells) (hsl : slots ≤ room_1.slots) (kk : ∀ (a2 : ab) (H1 : Heap) (locs1 : List Loc), l_H s D dA ad0 ad1 a2 a2 H1 locs1 → W p l e room_1 s m args below meth c H1 locs1 cells slots Q (F0 m 1474 ls [])) : W p l e room_1 s m args below meth c H locs cells slots Q (F0 m 1255 ls []) := by
  obtain ⟨hx, hb, -⟩ := id G
  obtain ⟨v, a2, g5, g6⟩ := p_put a hW (xs (i + 1)) (xs (i + 2)) (xs (i + 3)) (xs (i + 4))
  refine lv_aload_n hx hb dL_law_1255 rfl (lv_at hl 1 rfl) ?_
  refine l_arg (j := 1) G hX hbl h hl hi hL (by decide) (by decide) dL_law_1256 dL_law_1257 dL_law_1258 dL_law_1259 dL_law_1260 ?_
  refine l_arg (j := 2) G hX hbl h hl hi hL (by decide) (by decide) dL_law_1261 dL_law_1262 dL_law_1263 dL_law_1264 dL_law_1265 ?_
  refine l_arg (j := 3) G hX hbl h hl hi hL (by decide) (by decide) dL_law_1266 dL_law_1267 dL_law_1268 dL_law_1269 dL_law_1270 ?_
  refine l_arg (j := 4) G hX hbl h hl hi hL (by decide) (by decide) dL_law_1271 dL_law_1272 dL_law_1273 dL_law_1274 dL_law_1275 ?_
  refine l_x5 (as := [.int (xs (i + 1)), .int (xs (i + 2)), .int (xs (i + 3)), .int (xs (i + 4))]) (r := .int v) (rest := []) G h dL_law_1276 lv_X5_163 rfl rfl rfl rfl hl.1 (Nat.le_of_ble_eq_true rfl) (Nat.le_of_ble_eq_true rfl) (Nat.le_of_ble_eq_true rfl) (Nat.le_of_ble_eq_true rfl) hce hsl (fun σ I => RR.post (g5 σ (fun v2 σ2 => v2 = v ∧ Inv0 a2 σ2) I (fun σ2 I2 => ⟨rfl, I2⟩)) (fun x σ2 hq => by obtain ⟨v2, e2, e3, e4⟩ := hq; subst e3; exact ⟨e2, e4⟩)) (fun H locs h => ?_)
  refine lv_aload_n hx hb dL_law_1279 rfl (lv_at hl 2 rfl) ?_
  refine l_arg (j := 1) G hX hbl h hl hi hL (by decide) (by decide) dL_law_1280 dL_law_1281 dL_law_1282 dL_law_1283 dL_law_1284 ?_
  refine l_arg (j := 2) G hX hbl h hl hi hL (by decide) (by decide) dL_law_1285 dL_law_1286 dL_law_1287 dL_law_1288 dL_law_1289 ?_
  refine l_arg (j := 3) G hX hbl h hl hi hL (by decide) (by decide) dL_law_1290 dL_law_1291 dL_law_1292 dL_law_1293 dL_law_1294 ?_
  refine l_arg (j := 4) G hX hbl h hl hi hL (by decide) (by decide) dL_law_1295 dL_law_1296 dL_law_1297 dL_law_1298 dL_law_1299 ?_
  refine l_x6 (as := [.int (xs (i + 1)), .int (xs (i + 2)), .int (xs (i + 3)), .int (xs (i + 4))]) (r := .int v) (rest := [.int v]) G h dL_law_1300 lv_X6_166 rfl rfl rfl rfl hl.1 (Nat.le_of_ble_eq_true rfl) (Nat.le_of_ble_eq_true rfl) (Nat.le_of_ble_eq_true rfl) (Nat.le_of_ble_eq_true rfl) hce hsl (fun σ I => RR.post (g6 σ (fun v2 σ2 => v2 = v ∧ Inv1 a2 σ2) I (fun σ2 I2 => ⟨rfl, I2⟩)) (fun x σ2 hq => by obtain ⟨v2, e2, e3, e4⟩ := hq; subst e3; exact ⟨e2, e4⟩)) (fun H locs h => ?_)
  refine lv_icmp_eq (tgt := 1474) hx hb dL_law_1303 (by decide) (fun _ => ?_) (fun c1 => absurd rfl c1)
  exact kk a2 H locs h
theorem lc_37 {b L i : Nat} {xs : Nat → Int32} (G : l_G p s m args c D dA ad0 ad1) (hX : va_X b L xs s s.heap) (hbl : b < s.heap.size) (h : l_H s D dA ad0 ad1 a a H locs) (hW : WF a) (hl : lv_has ls 4 [(0, .ref b), (1, .ref (ad0 0)), (2, .ref (ad1 0)), (3, .int (nI i))]) (hi : i + 6 ≤ L) (hL : L ≤ 384) (hce : cells ≤ room_1.cells) (hsl : slots ≤ room_1.slots) (kk : ∀ (a2 : ab) (H1 : Heap) (locs1 : List Loc), l_H s D dA ad0 ad1 a2 a2 H1 locs1 → W p l e room_1 s m args below meth c H1 locs1 cells slots Q (F0 m 1474 ls [])) : W p l e room_1 s m args below meth c H locs cells slots Q (F0 m 1308 ls []) := by
  obtain ⟨hx, hb, -⟩ := id G
  obtain ⟨v, a2, g5, g6⟩ := p_get a hW (xs (i + 1)) (xs (i + 2)) (xs (i + 3))
  refine lv_aload_n hx hb dL_law_1308 rfl (lv_at hl 1 rfl) ?_
  refine l_arg (j := 1) G hX hbl h hl hi hL (by decide) (by decide) dL_law_1309 dL_law_1310 dL_law_1311 dL_law_1312 dL_law_1313 ?_
  refine l_arg (j := 2) G hX hbl h hl hi hL (by decide) (by decide) dL_law_1314 dL_law_1315 dL_law_1316 dL_law_1317 dL_law_1318 ?_
  refine l_arg (j := 3) G hX hbl h hl hi hL (by decide) (by decide) dL_law_1319 dL_law_1320 dL_law_1321 dL_law_1322 dL_law_1323 ?_
  refine l_x5 (as := [.int (xs (i + 1)), .int (xs (i + 2)), .int (xs (i + 3))]) (r := .int v) (rest := []) G h dL_law_1324 lv_X5_167 rfl rfl rfl rfl hl.1 (Nat.le_of_ble_eq_true rfl) (Nat.le_of_ble_eq_true rfl) (Nat.le_of_ble_eq_true rfl) (Nat.le_of_ble_eq_true rfl) hce hsl (fun σ I => RR.post (g5 σ (fun v2 σ2 => v2 = v ∧ Inv0 a2 σ2) I (fun σ2 I2 => ⟨rfl, I2⟩)) (fun x σ2 hq => by obtain ⟨v2, e2, e3, e4⟩ := hq; subst e3; exact ⟨e2, e4⟩)) (fun H locs h => ?_)
  refine lv_aload_n hx hb dL_law_1327 rfl (lv_at hl 2 rfl) ?_
  refine l_arg (j := 1) G hX hbl h hl hi hL (by decide) (by decide) dL_law_1328 dL_law_1329 dL_law_1330 dL_law_1331 dL_law_1332 ?_
  refine l_arg (j := 2) G hX hbl h hl hi hL (by decide) (by decide) dL_law_1333 dL_law_1334 dL_law_1335 dL_law_1336 dL_law_1337 ?_
  refine l_arg (j := 3) G hX hbl h hl hi hL (by decide) (by decide) dL_law_1338 dL_law_1339 dL_law_1340 dL_law_1341 dL_law_1342 ?_
  refine l_x6 (as := [.int (xs (i + 1)), .int (xs (i + 2)), .int (xs (i + 3))]) (r := .int v) (rest := [.int v]) G h dL_law_1343 lv_X6_170 rfl rfl rfl rfl hl.1 (Nat.le_of_ble_eq_true rfl) (Nat.le_of_ble_eq_true rfl) (Nat.le_of_ble_eq_true rfl) (Nat.le_of_ble_eq_true rfl) hce hsl (fun σ I => RR.post (g6 σ (fun v2 σ2 => v2 = v ∧ Inv1 a2 σ2) I (fun σ2 I2 => ⟨rfl, I2⟩)) (fun x σ2 hq => by obtain ⟨v2, e2, e3, e4⟩ := hq; subst e3; exact ⟨e2, e4⟩)) (fun H locs h => ?_)
  refine lv_icmp_eq (tgt := 1474) hx hb dL_law_1346 (by decide) (fun _ => ?_) (fun c1 => absurd rfl c1)
  exact kk a2 H locs h
theorem lc_38 {b L i : Nat} {xs : Nat → Int32} (G : l_G p s m args c D dA ad0 ad1) (hX : va_X b L xs s s.heap) (hbl : b < s.heap.size) (h : l_H s D dA ad0 ad1 a a H locs) (hW : WF a) (hl : lv_has ls 4 [(0, .ref b), (1, .ref (ad0 0)), (2, .ref (ad1 0)), (3, .int (nI i))]) (hi : i + 6 ≤ L) (hL : L ≤ 384) (hce : cells ≤ room_1.cells) (hsl : slots ≤ room_1.slots) (kk : ∀ (a2 : ab) (H1 : Heap) (locs1 : List Loc), l_H s D dA ad0 ad1 a2 a2 H1 locs1 → W p l e room_1 s m args below meth c H1 locs1 cells slots Q (F0 m 1474 ls [])) : W p l e room_1 s m args below meth c H locs cells slots Q (F0 m 1351 ls []) := by
  obtain ⟨hx, hb, -⟩ := id G
  obtain ⟨v, a2, g5, g6⟩ := p_copy a hW (xs (i + 1)) (xs (i + 2)) (xs (i + 3)) (xs (i + 4)) (xs (i + 5))
  refine lv_aload_n hx hb dL_law_1351 rfl (lv_at hl 1 rfl) ?_
  refine l_arg (j := 1) G hX hbl h hl hi hL (by decide) (by decide) dL_law_1352 dL_law_1353 dL_law_1354 dL_law_1355 dL_law_1356 ?_
  refine l_arg (j := 2) G hX hbl h hl hi hL (by decide) (by decide) dL_law_1357 dL_law_1358 dL_law_1359 dL_law_1360 dL_law_1361 ?_
  refine l_arg (j := 3) G hX hbl h hl hi hL (by decide) (by decide) dL_law_1362 dL_law_1363 dL_law_1364 dL_law_1365 dL_law_1366 ?_
  refine l_arg (j := 4) G hX hbl h hl hi hL (by decide) (by decide) dL_law_1367 dL_law_1368 dL_law_1369 dL_law_1370 dL_law_1371 ?_
  refine l_arg (j := 5) G hX hbl h hl hi hL (by decide) (by decide) dL_law_1372 dL_law_1373 dL_law_1374 dL_law_1375 dL_law_1376 ?_
  refine l_x5 (as := [.int (xs (i + 1)), .int (xs (i + 2)), .int (xs (i + 3)), .int (xs (i + 4)), .int (xs (i + 5))]) (r := .int v) (rest := []) G h dL_law_1377 lv_X5_171 rfl rfl rfl rfl hl.1 (Nat.le_of_ble_eq_true rfl) (Nat.le_of_ble_eq_true rfl) (Nat.le_of_ble_eq_true rfl) (Nat.le_of_ble_eq_true rfl) hce hsl (fun σ I => RR.post (g5 σ (fun v2 σ2 => v2 = v ∧ Inv0 a2 σ2) I (fun σ2 I2 => ⟨rfl, I2⟩)) (fun x σ2 hq => by obtain ⟨v2, e2, e3, e4⟩ := hq; subst e3; exact ⟨e2, e4⟩)) (fun H locs h => ?_)
  refine lv_aload_n hx hb dL_law_1380 rfl (lv_at hl 2 rfl) ?_
  refine l_arg (j := 1) G hX hbl h hl hi hL (by decide) (by decide) dL_law_1381 dL_law_1382 dL_law_1383 dL_law_1384 dL_law_1385 ?_
  refine l_arg (j := 2) G hX hbl h hl hi hL (by decide) (by decide) dL_law_1386 dL_law_1387 dL_law_1388 dL_law_1389 dL_law_1390 ?_
  refine l_arg (j := 3) G hX hbl h hl hi hL (by decide) (by decide) dL_law_1391 dL_law_1392 dL_law_1393 dL_law_1394 dL_law_1395 ?_
  refine l_arg (j := 4) G hX hbl h hl hi hL (by decide) (by decide) dL_law_1396 dL_law_1397 dL_law_1398 dL_law_1399 dL_law_1400 ?_
  refine l_arg (j := 5) G hX hbl h hl hi hL (by decide) (by decide) dL_law_1401 dL_law_1402 dL_law_1403 dL_law_1404 dL_law_1405 ?_
  refine l_x6 (as := [.int (xs (i + 1)), .int (xs (i + 2)), .int (xs (i + 3)), .int (xs (i + 4)), .int (xs (i + 5))]) (r := .int v) (rest := [.int v]) G h dL_law_1406 lv_X6_175 rfl rfl rfl rfl hl.1 (Nat.le_of_ble_eq_true rfl) (Nat.le_of_ble_eq_true rfl) (Nat.le_of_ble_eq_true rfl) (Nat.le_of_ble_eq_true rfl) hce hsl (fun σ I => RR.post (g6 σ (fun v2 σ2 => v2 = v ∧ Inv1 a2 σ2) I (fun σ2 I2 => ⟨rfl, I2⟩)) (fun x σ2 hq => by obtain ⟨v2, e2, e3, e4⟩ := hq; subst e3; exact ⟨e2, e4⟩)) (fun H locs h => ?_)
  refine lv_icmp_eq (tgt := 1474) hx hb dL_law_1409 (by decide) (fun _ => ?_) (fun c1 => absurd rfl c1)
  exact kk a2 H locs h
theorem lc_39 {b L i : Nat} {xs : Nat → Int32} (G : l_G p s m args c D dA ad0 ad1) (hX : va_X b L xs s s.heap) (hbl : b < s.heap.size) (h : l_H s D dA ad0 ad1 a a H locs) (hW : WF a) (hl : lv_has ls 4 [(0, .ref b), (1, .ref (ad0 0)), (2, .ref (ad1 0)), (3, .int (nI i))]) (hi : i + 6 ≤ L) (hL : L ≤ 384) (hce : cells ≤ room_1.cells) (hsl : slots ≤ room_1.slots) (kk : ∀ (a2 : ab) (H1 : Heap) (locs1 : List Loc), l_H s D dA ad0 ad1 a2 a2 H1 locs1 → W p l e room_1 s m args below meth c H1 locs1 cells slots Q (F0 m 1474 ls [])) : W p l e room_1 s m args below meth c H locs cells slots Q (F0 m 1414 ls []) := by
  obtain ⟨hx, hb, -⟩ := id G
  obtain ⟨v, a2, g5, g6⟩ := p_write a hW (xs (i + 1))
  refine lv_aload_n hx hb dL_law_1414 rfl (lv_at hl 1 rfl) ?_
  refine l_arg (j := 1) G hX hbl h hl hi hL (by decide) (by decide) dL_law_1415 dL_law_1416 dL_law_1417 dL_law_1418 dL_law_1419 ?_
  refine l_x5 (as := [.int (xs (i + 1))]) (r := .int v) (rest := []) G h dL_law_1420 lv_X5_176 rfl rfl rfl rfl hl.1 (Nat.le_of_ble_eq_true rfl) (Nat.le_of_ble_eq_true rfl) (Nat.le_of_ble_eq_true rfl) (Nat.le_of_ble_eq_true rfl) hce hsl (fun σ I => RR.post (g5 σ (fun v2 σ2 => v2 = v ∧ Inv0 a2 σ2) I (fun σ2 I2 => ⟨rfl, I2⟩)) (fun x σ2 hq => by obtain ⟨v2, e2, e3, e4⟩ := hq; subst e3; exact ⟨e2, e4⟩)) (fun H locs h => ?_)
  refine lv_aload_n hx hb dL_law_1423 rfl (lv_at hl 2 rfl) ?_
  refine l_arg (j := 1) G hX hbl h hl hi hL (by decide) (by decide) dL_law_1424 dL_law_1425 dL_law_1426 dL_law_1427 dL_law_1428 ?_
  refine l_x6 (as := [.int (xs (i + 1))]) (r := .int v) (rest := [.int v]) G h dL_law_1429 lv_X6_179 rfl rfl rfl rfl hl.1 (Nat.le_of_ble_eq_true rfl) (Nat.le_of_ble_eq_true rfl) (Nat.le_of_ble_eq_true rfl) (Nat.le_of_ble_eq_true rfl) hce hsl (fun σ I => RR.post (g6 σ (fun v2 σ2 => v2 = v ∧ Inv1 a2 σ2) I (fun σ2 I2 => ⟨rfl, I2⟩)) (fun x σ2 hq => by obtain ⟨v2, e2, e3, e4⟩ := hq; subst e3; exact ⟨e2, e4⟩)) (fun H locs h => ?_)
  refine lv_icmp_eq (tgt := 1474) hx hb dL_law_1432 (by decide) (fun _ => ?_) (fun c1 => absurd rfl c1)
  exact kk a2 H locs h
theorem lc_40 {b L i : Nat} {xs : Nat → Int32} (G : l_G p s m args c D dA ad0 ad1) (hX : va_X b L xs s s.heap) (hbl : b < s.heap.size) (h : l_H s D dA ad0 ad1 a a H locs) (hW : WF a) (hl : lv_has ls 4 [(0, .ref b), (1, .ref (ad0 0)), (2, .ref (ad1 0)), (3, .int (nI i))]) (hi : i + 6 ≤ L) (hL : L ≤ 384) (hce : cells ≤ room_1.cells) (hsl : slots ≤ room_1.slots) (kk : ∀ (a2 : ab) (H1 : Heap) (locs1 : List Loc), l_H s D dA ad0 ad1 a2 a2 H1 locs1 → W p l e room_1 s m args below meth c H1 locs1 cells slots Q (F0 m 1474 ls [])) : W p l e room_1 s m args below meth c H locs cells slots Q (F0 m 1437 ls []) := by
  obtain ⟨hx, hb, -⟩ := id G
  obtain ⟨v, a2, g5, g6⟩ := p_count a hW (xs (i + 1))
  refine lv_aload_n hx hb dL_law_1437 rfl (lv_at hl 1 rfl) ?_
  refine l_arg (j := 1) G hX hbl h hl hi hL (by decide) (by decide) dL_law_1438 dL_law_1439 dL_law_1440 dL_law_1441 dL_law_1442 ?_
  refine l_x5 (as := [.int (xs (i + 1))]) (r := .int v) (rest := []) G h dL_law_1443 lv_X5_180 rfl rfl rfl rfl hl.1 (Nat.le_of_ble_eq_true rfl) (Nat.le_of_ble_eq_true rfl) (Nat.le_of_ble_eq_true rfl) (Nat.le_of_ble_eq_true rfl) hce hsl (fun σ I => RR.post (g5 σ (fun v2 σ2 => v2 = v ∧ Inv0 a2 σ2) I (fun σ2 I2 => ⟨rfl, I2⟩)) (fun x σ2 hq => by obtain ⟨v2, e2, e3, e4⟩ := hq; subst e3; exact ⟨e2, e4⟩)) (fun H locs h => ?_)
  refine lv_aload_n hx hb dL_law_1446 rfl (lv_at hl 2 rfl) ?_
  refine l_arg (j := 1) G hX hbl h hl hi hL (by decide) (by decide) dL_law_1447 dL_law_1448 dL_law_1449 dL_law_1450 dL_law_1451 ?_
  refine l_x6 (as := [.int (xs (i + 1))]) (r := .int v) (rest := [.int v]) G h dL_law_1452 lv_X6_183 rfl rfl rfl rfl hl.1 (Nat.le_of_ble_eq_true rfl) (Nat.le_of_ble_eq_true rfl) (Nat.le_of_ble_eq_true rfl) (Nat.le_of_ble_eq_true rfl) hce hsl (fun σ I => RR.post (g6 σ (fun v2 σ2 => v2 = v ∧ Inv1 a2 σ2) I (fun σ2 I2 => ⟨rfl, I2⟩)) (fun x σ2 hq => by obtain ⟨v2, e2, e3, e4⟩ := hq; subst e3; exact ⟨e2, e4⟩)) (fun H locs h => ?_)
  refine lv_icmp_eq (tgt := 1474) hx hb dL_law_1455 (by decide) (fun _ => ?_) (fun c1 => absurd rfl c1)
  exact kk a2 H locs h
theorem lc_41 {b L i : Nat} {xs : Nat → Int32} (G : l_G p s m args c D dA ad0 ad1) (hX : va_X b L xs s s.heap) (hbl : b < s.heap.size) (h : l_H s D dA ad0 ad1 a a H locs) (hW : WF a) (hl : lv_has ls 4 [(0, .ref b), (1, .ref (ad0 0)), (2, .ref (ad1 0)), (3, .int (nI i))]) (hi : i + 6 ≤ L) (hL : L ≤ 384) (hce : cells ≤ room_1.cells) (hsl : slots ≤ room_1.slots) (kk : ∀ (a2 : ab) (H1 : Heap) (locs1 : List Loc), l_H s D dA ad0 ad1 a2 a2 H1 locs1 → W p l e room_1 s m args below meth c H1 locs1 cells slots Q (F0 m 1474 ls [])) : W p l e room_1 s m args below meth c H locs cells slots Q (F0 m 1460 ls []) := by
  obtain ⟨hx, hb, -⟩ := id G
  obtain ⟨v, a2, g5, g6⟩ := p_digest a hW
  refine lv_aload_n hx hb dL_law_1460 rfl (lv_at hl 1 rfl) ?_
  refine l_x5 (as := []) (r := .long v) (rest := []) G h dL_law_1461 lv_X5_184 rfl rfl rfl rfl hl.1 (Nat.le_of_ble_eq_true rfl) (Nat.le_of_ble_eq_true rfl) (Nat.le_of_ble_eq_true rfl) (Nat.le_of_ble_eq_true rfl) hce hsl (fun σ I => RR.post (g5 σ (fun v2 σ2 => v2 = v ∧ Inv0 a2 σ2) I (fun σ2 I2 => ⟨rfl, I2⟩)) (fun x σ2 hq => by obtain ⟨v2, e2, e3, e4⟩ := hq; subst e3; exact ⟨e2, e4⟩)) (fun H locs h => ?_)
  refine lv_aload_n hx hb dL_law_1464 rfl (lv_at hl 2 rfl) ?_
  refine l_x6 (as := []) (r := .long v) (rest := [.long v]) G h dL_law_1465 lv_X6_188 rfl rfl rfl rfl hl.1 (Nat.le_of_ble_eq_true rfl) (Nat.le_of_ble_eq_true rfl) (Nat.le_of_ble_eq_true rfl) (Nat.le_of_ble_eq_true rfl) hce hsl (fun σ I => RR.post (g6 σ (fun v2 σ2 => v2 = v ∧ Inv1 a2 σ2) I (fun σ2 I2 => ⟨rfl, I2⟩)) (fun x σ2 hq => by obtain ⟨v2, e2, e3, e4⟩ := hq; subst e3; exact ⟨e2, e4⟩)) (fun H locs h => ?_)
  refine W.lcmp hx hb dL_law_1468 ?_
  refine lv_if_eq (tgt := 1474) hx hb dL_law_1469 (by decide) (fun _ => ?_) (fun c1 => absurd (l_same v) c1)
  exact kk a2 H locs h
end LF
