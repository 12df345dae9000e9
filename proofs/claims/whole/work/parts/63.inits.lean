/-! ===== constructors: the small ones (written by inits.py) ===== -/
theorem n_oI : Cond.instanceMethod Lib.objectInit ∈ pw_wl := by decide +kernel
theorem n_oC : Cond.code Lib.objectInit ⟨#[0xb1]⟩ 1 none ∈ pw_wl := by decide +kernel
theorem n_aI : Cond.arrayClass .int ∈ pw_wl := by decide +kernel
theorem n_aJ : Cond.arrayClass .long ∈ pw_wl := by decide +kernel
theorem n_aZ : Cond.arrayClass .boolean ∈ pw_wl := by decide +kernel
theorem n_rI (U : State) (x y : ClassId) (h1 : va_RA U x .int) (h2 : va_RA U y .int) : x = y := Option.some.inj (Eq.trans (Eq.symm h1) h2)
theorem n_rJ (U : State) (x y : ClassId) (h1 : va_RA U x .long) (h2 : va_RA U y .long) : x = y := Option.some.inj (Eq.trans (Eq.symm h1) h2)
theorem n_rZ (U : State) (x y : ClassId) (h1 : va_RA U x .boolean) (h2 : va_RA U y .boolean) : x = y := Option.some.inj (Eq.trans (Eq.symm h1) h2)
section NC
variable {p : Program} {l : Launch} {e : Env} {R : Room} {s : State} {m : MethodId} {args : Array Value} {below : List Frame} {meth : Method} {c : Code} {H : Heap} {locs : List Loc} {cells slots : Nat} {Q : State → Prop} {μ : r_Mt} {D : va_G} {dA : Nat → ClassId} {A : Nat → Prop} {pc : Nat} {ls : Array Slot} {rest : List Value} {ws wr : va_W}
theorem n_obj {idx a : Nat} (C : n_Cx μ p s m args meth c D dA A) (hls : ls.size = μ.2.2.1) (hlk : Cond.methodLink μ.1.cls idx Lib.objectInit ∈ pw_wl) (hi : Cond.instanceMethod Lib.objectInit ∈ pw_wl) (hc : Cond.code Lib.objectInit ⟨#[0xb1]⟩ 1 none ∈ pw_wl) (hd : decode μ.2.1 pc = .ok (.invokespecial idx, 3)) (hfr : 1 ≤ R.frames) (hlo : 12 ≤ R.locals) (kk : W p l e R s m args below meth c H locs cells slots Q (F0 m (pc + 3) ls [])) : W p l e R s m args below meth c H locs cells slots Q (F0 m pc ls [.ref a]) := by
  obtain ⟨hx, hb, hml, hown, hts, hK, hin, hA⟩ := C
  refine W.objInit (a := a) (rest := []) hx hb hown (hts _ hlk) (hts _ hi) (hts _ hc) rfl (by rw [hml]; exact hls) rfl hd hfr ?_ kk
  show 0 + 0 + 12 ≤ R.locals
  omega
theorem n_arr {atype : ArrayType} {ty : FieldType} {t : Nat} {a0 : vp_A} {h0 ci j idx N : Nat} {fs : List Value} {n : Int32} (C : n_Cx μ p s m args meth c D dA A) (h : n_Hp D A ((h0, .inr (ci, fs)) :: wr) s H locs) (hty : newarray.typeOf atype = ty) (ht : (r_ty dA)[t]? = some (dA t, ty)) (harr : Cond.arrayClass ty ∈ pw_wl) (hra : ∀ (U : State) (x y : ClassId), va_RA U x ty → va_RA U y ty → x = y) (ha : ∀ cA : ClassId, vp_cell cA a0 = arrV cA N (fun _ => defaultValue ty)) (hn : n = nI N) (hN : N < 1000) (hb1 : componentBytes ty ≤ 8) (d1 : decode μ.2.1 pc = .ok (.newarray atype, 2)) (d2 : decode μ.2.1 (pc + 2) = .ok (.putfield idx, 3)) (hf : n_FQ μ.1.cls idx ci j (.array ty)) (hl : j < fs.length) (hcells : cells + 1 ≤ R.cells) (hslots : slots + N ≤ R.slots)
    (kk : ∀ (q : Nat) (H1 : Heap) (locs1 : List Loc), n_Hp D A ((h0, .inr (ci, fs.set j (.ref q))) :: (wr ++ [(q, .inl (dA t, a0))])) s H1 locs1 → W p l e R s m args below meth c H1 locs1 (cells + 1) (slots + N) Q (F0 m (pc + 5) ls rest)) : W p l e R s m args below meth c H locs cells slots Q (F0 m pc ls (.int n :: .ref h0 :: rest)) := by
  refine n_newa C h hty ht harr hra ha hn hN hb1 hcells hslots d1 (fun q H1 h1 => ?_)
  have h2 : n_Hp D A ((h0, .inr (ci, fs)) :: (wr ++ [(q, .inl (dA t, a0))])) s H1 locs := h1
  exact n_put C h2 d2 hf rfl rfl hl (fun H2 locs2 h2 => kk q H2 locs2 h2)
theorem n_arrI {h0 ci j idx N : Nat} {fs : List Value} {n : Int32} (C : n_Cx μ p s m args meth c D dA A) (h : n_Hp D A ((h0, .inr (ci, fs)) :: wr) s H locs) (hn : n = nI N) (hN : N < 1000) (d1 : decode μ.2.1 pc = .ok (.newarray .int, 2)) (d2 : decode μ.2.1 (pc + 2) = .ok (.putfield idx, 3)) (hf : n_FQ μ.1.cls idx ci j (.array .int)) (hl : j < fs.length) (hcells : cells + 1 ≤ R.cells) (hslots : slots + N ≤ R.slots)
    (kk : ∀ (q : Nat) (H1 : Heap) (locs1 : List Loc), n_Hp D A ((h0, .inr (ci, fs.set j (.ref q))) :: (wr ++ [(q, .inl (dA 0, N, .inl fun _ => 0))])) s H1 locs1 → W p l e R s m args below meth c H1 locs1 (cells + 1) (slots + N) Q (F0 m (pc + 5) ls rest)) : W p l e R s m args below meth c H locs cells slots Q (F0 m pc ls (.int n :: .ref h0 :: rest)) :=
  n_arr (atype := .int) (ty := .int) (t := 0) (a0 := (N, .inl fun _ => 0)) C h rfl rfl n_aI n_rI (fun _ => rfl) hn hN (by decide) d1 d2 hf hl hcells hslots kk
theorem n_arrJ {h0 ci j idx N : Nat} {fs : List Value} {n : Int32} (C : n_Cx μ p s m args meth c D dA A) (h : n_Hp D A ((h0, .inr (ci, fs)) :: wr) s H locs) (hn : n = nI N) (hN : N < 1000) (d1 : decode μ.2.1 pc = .ok (.newarray .long, 2)) (d2 : decode μ.2.1 (pc + 2) = .ok (.putfield idx, 3)) (hf : n_FQ μ.1.cls idx ci j (.array .long)) (hl : j < fs.length) (hcells : cells + 1 ≤ R.cells) (hslots : slots + N ≤ R.slots)
    (kk : ∀ (q : Nat) (H1 : Heap) (locs1 : List Loc), n_Hp D A ((h0, .inr (ci, fs.set j (.ref q))) :: (wr ++ [(q, .inl (dA 1, N, .inr (.inl fun _ => 0)))])) s H1 locs1 → W p l e R s m args below meth c H1 locs1 (cells + 1) (slots + N) Q (F0 m (pc + 5) ls rest)) : W p l e R s m args below meth c H locs cells slots Q (F0 m pc ls (.int n :: .ref h0 :: rest)) :=
  n_arr (atype := .long) (ty := .long) (t := 1) (a0 := (N, .inr (.inl fun _ => 0))) C h rfl rfl n_aJ n_rJ (fun _ => rfl) hn hN (by decide) d1 d2 hf hl hcells hslots kk
theorem n_arrZ {h0 ci j idx N : Nat} {fs : List Value} {n : Int32} (C : n_Cx μ p s m args meth c D dA A) (h : n_Hp D A ((h0, .inr (ci, fs)) :: wr) s H locs) (hn : n = nI N) (hN : N < 1000) (d1 : decode μ.2.1 pc = .ok (.newarray .boolean, 2)) (d2 : decode μ.2.1 (pc + 2) = .ok (.putfield idx, 3)) (hf : n_FQ μ.1.cls idx ci j (.array .boolean)) (hl : j < fs.length) (hcells : cells + 1 ≤ R.cells) (hslots : slots + N ≤ R.slots)
    (kk : ∀ (q : Nat) (H1 : Heap) (locs1 : List Loc), n_Hp D A ((h0, .inr (ci, fs.set j (.ref q))) :: (wr ++ [(q, .inl (dA 2, N, .inl fun _ => 0))])) s H1 locs1 → W p l e R s m args below meth c H1 locs1 (cells + 1) (slots + N) Q (F0 m (pc + 5) ls rest)) : W p l e R s m args below meth c H locs cells slots Q (F0 m pc ls (.int n :: .ref h0 :: rest)) :=
  n_arr (atype := .boolean) (ty := .boolean) (t := 2) (a0 := (N, .inl fun _ => 0)) C h rfl rfl n_aZ n_rZ (fun _ => rfl) hn hN (by decide) d1 d2 hf hl hcells hslots kk
end NC
theorem n_met {S : Type} {wf : S → va_W} {μ : r_Mt} {d mc ms h0 : Nat} {e0 : va_E} {as : List Value} (l : Launch) (D : va_G) (dA : Nat → ClassId) (sz : Nat) (hpl : plainName μ.1.cls = true) (hnm : μ.1.name = "<init>") (hret : μ.2.2.2 = none) (hlen : ((Value.ref h0 :: as).map fun v => v.category).sum ≤ μ.2.2.1)
    (h : ∀ (p : Program) (e : Env) (s : State) (m : MethodId) (args : Array Value) (below : List Frame) (meth : Method) (c : Code) (ls : Array Slot) (A : Nat → Prop) (Z : State → Prop), n_Cx μ p s m args meth c D dA A → va_AO "TwinKings$Sheet" s → n_Hp D A [(h0, e0)] s s.heap [] → lv_has ls μ.2.2.1 (lv_args 0 (.ref h0 :: as)) → (∀ (u : S) (H : Heap) (locs : List Loc) (pc : Nat) (ls' : Array Slot), n_Hp D A (wf u) s H locs → decode μ.2.1 pc = .ok (.return_, 1) → W p l e (n_rm d mc ms) s m args below meth c H locs mc ms Z (F0 m pc ls' [])) → W p l e (n_rm d mc ms) s m args below meth c s.heap [] 0 0 Z (F0 m 0 ls [])) :
    Met l μ.1 (r_ws μ) (n_rm d mc ms) (n_Pc D dA h0 e0 sz as) (n_Qc D h0 e0 sz wf) mc ms (va_A [(h0, e0)] sz) := by
  refine Met.ofW (cc := μ.2.1) (maxL := μ.2.2.1) (ret := μ.2.2.2) hpl rfl ?_
  intro p e s m args below meth c s₁ B hml hv
  obtain ⟨rfl, hsz, hP, hK, hAO⟩ := hv
  have hts := atoms_spec (ws := r_ws μ) B.pre
  have hown : s.vm.findClass μ.1.cls = some m.cls := findClass_of_methodNamed B.named
  have hlocks := B.notSynchronized
  have hin : meth.name = "<init>" := by rw [← hnm]; exact (name_of_methodNamed B.named B.method).1
  subst hsz
  have hD : va_D (va_A [(h0, e0)] s.heap.size) [(h0, e0)] := ⟨fun i j x y hx hy _ => by
    have h1 : i < 1 := (List.getElem?_eq_some_iff.mp hx).1
    have h2 : j < 1 := (List.getElem?_eq_some_iff.mp hy).1
    omega, fun k q hk => va_A.in hk⟩
  have hl := lv_entry (.ref h0 :: as) (n := μ.2.2.1) (by rw [r_sl_len]; exact hlen)
  rw [lg_entry_eq]
  generalize (lg_sl (.ref h0 :: as) ++ List.replicate (μ.2.2.1 - (lg_sl (.ref h0 :: as)).length) Slot.unset).toArray = ls at hl ⊢
  refine h p e s m _ below meth c ls _ _ ⟨B.exec, B.bytes, hml, hown, fun w hw => hts w (List.mem_cons_of_mem _ hw), hK, hin, fun q hq => Or.inr hq⟩ hAO ⟨hP, hD, va_S.rf⟩ hl (fun u H locs pc ls' hu hd => ?_)
  exact W.vret B.exec B.bytes (B.returns.trans hret) (fun t ht hW => ⟨⟨u, rfl, trivial, by rw [ht]; exact hu.1, hu.2.1⟩, hu.2.2.F ht⟩) hu.2.2.2.2 hd
theorem fq_X0_11 : n_FQ RX0 11 0 0 (.array .int) := ⟨RX0, TX0, 6, tyX0, rfl, by decide, by decide +kernel, pw_uX0, tyX0_ok, nmX0, Or.inr ⟨rfl, rfl⟩, by decide +kernel⟩
theorem fq_X0_15 : n_FQ RX0 15 0 1 (.array .int) := ⟨RX0, TX0, 6, tyX0, rfl, by decide, by decide +kernel, pw_uX0, tyX0_ok, nmX0, Or.inr ⟨rfl, rfl⟩, by decide +kernel⟩
theorem fq_X0_18 : n_FQ RX0 18 0 3 .int := ⟨RX0, TX0, 6, tyX0, rfl, by decide, by decide +kernel, pw_uX0, tyX0_ok, nmX0, Or.inl rfl, by decide +kernel⟩
def wf_X0 (dA : Nat → ClassId) (h0 : Nat) (u : Nat × Nat) : va_W := [(h0, .inr (0, [.ref u.1, .ref u.2, .int 0, .int (-1), .int 0, .int 0])), (u.1, .inl (dA 0, 23, .inl fun _ => 0)), (u.2, .inl (dA 0, 8, .inl fun _ => 0))]
def e0_X0 : va_E := .inr (0, [.null, .null, .int 0, .int 0, .int 0, .int 0])
set_option maxHeartbeats 4000000 in
theorem i_X0 (l : Launch) (D : va_G) (dA : Nat → ClassId) (h0 sz : Nat) : Met l mX0_init.1 (r_ws mX0_init) (n_rm 1 2 31) (n_Pc D dA h0 e0_X0 sz []) (n_Qc D h0 e0_X0 sz (wf_X0 dA h0)) 2 31 (va_A [(h0, e0_X0)] sz) := by
  refine n_met l D dA sz (by decide) rfl rfl (Nat.le_of_ble_eq_true rfl) (fun p e s m args below meth c ls A Z C hAO h hl hend => ?_)
  obtain ⟨hx, hb, -⟩ := id C
  have hl : lv_has ls 1 [(0, .ref h0)] := hl
  refine lv_aload_n hx hb dX0_init_0 rfl (lv_at hl 0 rfl) ?_
  refine n_obj C hl.1 (by decide +kernel) n_oI n_oC dX0_init_1 (Nat.le_of_ble_eq_true rfl) (Nat.le_of_ble_eq_true rfl) ?_
  refine lv_aload_n hx hb dX0_init_4 rfl (lv_at hl 0 rfl) ?_
  refine lv_bipush (v := 23) hx hb dX0_init_5 (by decide) ?_
  refine n_arrI (N := 23) C h rfl (by decide) dX0_init_7 dX0_init_9 fq_X0_11 (by simp) (Nat.le_of_ble_eq_true rfl) (Nat.le_of_ble_eq_true rfl) (fun q1 H locs h => ?_)
  refine lv_aload_n hx hb dX0_init_12 rfl (lv_at hl 0 rfl) ?_
  refine lv_bipush (v := 8) hx hb dX0_init_13 (by decide) ?_
  refine n_arrI (N := 8) C h rfl (by decide) dX0_init_15 dX0_init_17 fq_X0_15 (by simp) (Nat.le_of_ble_eq_true rfl) (Nat.le_of_ble_eq_true rfl) (fun q2 H locs h => ?_)
  refine lv_aload_n hx hb dX0_init_20 rfl (lv_at hl 0 rfl) ?_
  refine lv_iconst (v := (-1)) hx hb dX0_init_21 (by decide) ?_
  refine n_put C h dX0_init_22 fq_X0_18 rfl rfl (by simp) (fun H locs h => ?_)
  exact hend (q1, q2) _ _ _ _ h dX0_init_25
theorem fq_X1_9 : n_FQ RX1 9 1 0 (.array .int) := ⟨RX1, TX1, 6, tyX1, rfl, by decide, by decide +kernel, pw_uX1, tyX1_ok, nmX1, Or.inr ⟨rfl, rfl⟩, by decide +kernel⟩
theorem fq_X1_15 : n_FQ RX1 15 1 1 (.array .int) := ⟨RX1, TX1, 6, tyX1, rfl, by decide, by decide +kernel, pw_uX1, tyX1_ok, nmX1, Or.inr ⟨rfl, rfl⟩, by decide +kernel⟩
theorem fq_X1_18 : n_FQ RX1 18 1 2 (.array .int) := ⟨RX1, TX1, 6, tyX1, rfl, by decide, by decide +kernel, pw_uX1, tyX1_ok, nmX1, Or.inr ⟨rfl, rfl⟩, by decide +kernel⟩
theorem fq_X1_21 : n_FQ RX1 21 1 3 (.array .int) := ⟨RX1, TX1, 6, tyX1, rfl, by decide, by decide +kernel, pw_uX1, tyX1_ok, nmX1, Or.inr ⟨rfl, rfl⟩, by decide +kernel⟩
theorem fq_X1_24 : n_FQ RX1 24 1 4 (.array .int) := ⟨RX1, TX1, 6, tyX1, rfl, by decide, by decide +kernel, pw_uX1, tyX1_ok, nmX1, Or.inr ⟨rfl, rfl⟩, by decide +kernel⟩
def wf_X1 (dA : Nat → ClassId) (h0 : Nat) (u : Nat × Nat × Nat × Nat × Nat) : va_W := [(h0, .inr (1, [.ref u.1, .ref u.2.1, .ref u.2.2.1, .ref u.2.2.2.1, .ref u.2.2.2.2, .int 0])), (u.1, .inl (dA 0, 40, .inl fun _ => 0)), (u.2.1, .inl (dA 0, 40, .inl fun _ => 0)), (u.2.2.1, .inl (dA 0, 40, .inl fun _ => 0)), (u.2.2.2.1, .inl (dA 0, 40, .inl fun _ => 0)), (u.2.2.2.2, .inl (dA 0, 40, .inl fun _ => 0))]
def e0_X1 : va_E := .inr (1, [.null, .null, .null, .null, .null, .int 0])
set_option maxHeartbeats 4000000 in
theorem i_X1 (l : Launch) (D : va_G) (dA : Nat → ClassId) (h0 sz : Nat) : Met l mX1_init.1 (r_ws mX1_init) (n_rm 1 5 200) (n_Pc D dA h0 e0_X1 sz []) (n_Qc D h0 e0_X1 sz (wf_X1 dA h0)) 5 200 (va_A [(h0, e0_X1)] sz) := by
  refine n_met l D dA sz (by decide) rfl rfl (Nat.le_of_ble_eq_true rfl) (fun p e s m args below meth c ls A Z C hAO h hl hend => ?_)
  obtain ⟨hx, hb, -⟩ := id C
  have hl : lv_has ls 1 [(0, .ref h0)] := hl
  refine lv_aload_n hx hb dX1_init_0 rfl (lv_at hl 0 rfl) ?_
  refine n_obj C hl.1 (by decide +kernel) n_oI n_oC dX1_init_1 (Nat.le_of_ble_eq_true rfl) (Nat.le_of_ble_eq_true rfl) ?_
  refine lv_aload_n hx hb dX1_init_4 rfl (lv_at hl 0 rfl) ?_
  refine lv_bipush (v := 40) hx hb dX1_init_5 (by decide) ?_
  refine n_arrI (N := 40) C h rfl (by decide) dX1_init_7 dX1_init_9 fq_X1_9 (by simp) (Nat.le_of_ble_eq_true rfl) (Nat.le_of_ble_eq_true rfl) (fun q1 H locs h => ?_)
  refine lv_aload_n hx hb dX1_init_12 rfl (lv_at hl 0 rfl) ?_
  refine lv_bipush (v := 40) hx hb dX1_init_13 (by decide) ?_
  refine n_arrI (N := 40) C h rfl (by decide) dX1_init_15 dX1_init_17 fq_X1_15 (by simp) (Nat.le_of_ble_eq_true rfl) (Nat.le_of_ble_eq_true rfl) (fun q2 H locs h => ?_)
  refine lv_aload_n hx hb dX1_init_20 rfl (lv_at hl 0 rfl) ?_
  refine lv_bipush (v := 40) hx hb dX1_init_21 (by decide) ?_
  refine n_arrI (N := 40) C h rfl (by decide) dX1_init_23 dX1_init_25 fq_X1_18 (by simp) (Nat.le_of_ble_eq_true rfl) (Nat.le_of_ble_eq_true rfl) (fun q3 H locs h => ?_)
  refine lv_aload_n hx hb dX1_init_28 rfl (lv_at hl 0 rfl) ?_
  refine lv_bipush (v := 40) hx hb dX1_init_29 (by decide) ?_
  refine n_arrI (N := 40) C h rfl (by decide) dX1_init_31 dX1_init_33 fq_X1_21 (by simp) (Nat.le_of_ble_eq_true rfl) (Nat.le_of_ble_eq_true rfl) (fun q4 H locs h => ?_)
  refine lv_aload_n hx hb dX1_init_36 rfl (lv_at hl 0 rfl) ?_
  refine lv_bipush (v := 40) hx hb dX1_init_37 (by decide) ?_
  refine n_arrI (N := 40) C h rfl (by decide) dX1_init_39 dX1_init_41 fq_X1_24 (by simp) (Nat.le_of_ble_eq_true rfl) (Nat.le_of_ble_eq_true rfl) (fun q5 H locs h => ?_)
  exact hend (q1, q2, q3, q4, q5) _ _ _ _ h dX1_init_44
theorem fq_X2_9 : n_FQ RX2 9 2 0 (.array .long) := ⟨RX2, TX2, 7, tyX2, rfl, by decide, by decide +kernel, pw_uX2, tyX2_ok, nmX2, Or.inr ⟨rfl, rfl⟩, by decide +kernel⟩
theorem fq_X2_15 : n_FQ RX2 15 2 1 (.array .int) := ⟨RX2, TX2, 7, tyX2, rfl, by decide, by decide +kernel, pw_uX2, tyX2_ok, nmX2, Or.inr ⟨rfl, rfl⟩, by decide +kernel⟩
theorem fq_X2_19 : n_FQ RX2 19 2 2 (.array .int) := ⟨RX2, TX2, 7, tyX2, rfl, by decide, by decide +kernel, pw_uX2, tyX2_ok, nmX2, Or.inr ⟨rfl, rfl⟩, by decide +kernel⟩
theorem fq_X2_22 : n_FQ RX2 22 2 3 (.array .int) := ⟨RX2, TX2, 7, tyX2, rfl, by decide, by decide +kernel, pw_uX2, tyX2_ok, nmX2, Or.inr ⟨rfl, rfl⟩, by decide +kernel⟩
theorem fq_X2_25 : n_FQ RX2 25 2 4 (.array .int) := ⟨RX2, TX2, 7, tyX2, rfl, by decide, by decide +kernel, pw_uX2, tyX2_ok, nmX2, Or.inr ⟨rfl, rfl⟩, by decide +kernel⟩
def wf_X2 (dA : Nat → ClassId) (h0 : Nat) (u : Nat × Nat × Nat × Nat × Nat) : va_W := [(h0, .inr (2, [.ref u.1, .ref u.2.1, .ref u.2.2.1, .ref u.2.2.2.1, .ref u.2.2.2.2, .int 0, .int 0])), (u.1, .inl (dA 1, 6, .inr (.inl fun _ => 0))), (u.2.1, .inl (dA 0, 6, .inl fun _ => 0)), (u.2.2.1, .inl (dA 0, 6, .inl fun _ => 0)), (u.2.2.2.1, .inl (dA 0, 6, .inl fun _ => 0)), (u.2.2.2.2, .inl (dA 0, 6, .inl fun _ => 0))]
def e0_X2 : va_E := .inr (2, [.null, .null, .null, .null, .null, .int 0, .int 0])
set_option maxHeartbeats 4000000 in
theorem i_X2 (l : Launch) (D : va_G) (dA : Nat → ClassId) (h0 sz : Nat) : Met l mX2_init.1 (r_ws mX2_init) (n_rm 1 5 30) (n_Pc D dA h0 e0_X2 sz []) (n_Qc D h0 e0_X2 sz (wf_X2 dA h0)) 5 30 (va_A [(h0, e0_X2)] sz) := by
  refine n_met l D dA sz (by decide) rfl rfl (Nat.le_of_ble_eq_true rfl) (fun p e s m args below meth c ls A Z C hAO h hl hend => ?_)
  obtain ⟨hx, hb, -⟩ := id C
  have hl : lv_has ls 1 [(0, .ref h0)] := hl
  refine lv_aload_n hx hb dX2_init_0 rfl (lv_at hl 0 rfl) ?_
  refine n_obj C hl.1 (by decide +kernel) n_oI n_oC dX2_init_1 (Nat.le_of_ble_eq_true rfl) (Nat.le_of_ble_eq_true rfl) ?_
  refine lv_aload_n hx hb dX2_init_4 rfl (lv_at hl 0 rfl) ?_
  refine lv_bipush (v := 6) hx hb dX2_init_5 (by decide) ?_
  refine n_arrJ (N := 6) C h rfl (by decide) dX2_init_7 dX2_init_9 fq_X2_9 (by simp) (Nat.le_of_ble_eq_true rfl) (Nat.le_of_ble_eq_true rfl) (fun q1 H locs h => ?_)
  refine lv_aload_n hx hb dX2_init_12 rfl (lv_at hl 0 rfl) ?_
  refine lv_bipush (v := 6) hx hb dX2_init_13 (by decide) ?_
  refine n_arrI (N := 6) C h rfl (by decide) dX2_init_15 dX2_init_17 fq_X2_15 (by simp) (Nat.le_of_ble_eq_true rfl) (Nat.le_of_ble_eq_true rfl) (fun q2 H locs h => ?_)
  refine lv_aload_n hx hb dX2_init_20 rfl (lv_at hl 0 rfl) ?_
  refine lv_bipush (v := 6) hx hb dX2_init_21 (by decide) ?_
  refine n_arrI (N := 6) C h rfl (by decide) dX2_init_23 dX2_init_25 fq_X2_19 (by simp) (Nat.le_of_ble_eq_true rfl) (Nat.le_of_ble_eq_true rfl) (fun q3 H locs h => ?_)
  refine lv_aload_n hx hb dX2_init_28 rfl (lv_at hl 0 rfl) ?_
  refine lv_bipush (v := 6) hx hb dX2_init_29 (by decide) ?_
  refine n_arrI (N := 6) C h rfl (by decide) dX2_init_31 dX2_init_33 fq_X2_22 (by simp) (Nat.le_of_ble_eq_true rfl) (Nat.le_of_ble_eq_true rfl) (fun q4 H locs h => ?_)
  refine lv_aload_n hx hb dX2_init_36 rfl (lv_at hl 0 rfl) ?_
  refine lv_bipush (v := 6) hx hb dX2_init_37 (by decide) ?_
  refine n_arrI (N := 6) C h rfl (by decide) dX2_init_39 dX2_init_41 fq_X2_25 (by simp) (Nat.le_of_ble_eq_true rfl) (Nat.le_of_ble_eq_true rfl) (fun q5 H locs h => ?_)
  exact hend (q1, q2, q3, q4, q5) _ _ _ _ h dX2_init_44
theorem fq_X4_9 : n_FQ RX4 9 4 0 (.array .int) := ⟨RX4, TX4, 3, tyX4, rfl, by decide, by decide +kernel, pw_uX4, tyX4_ok, nmX4, Or.inr ⟨rfl, rfl⟩, by decide +kernel⟩
theorem fq_X4_15 : n_FQ RX4 15 4 1 .int := ⟨RX4, TX4, 3, tyX4, rfl, by decide, by decide +kernel, pw_uX4, tyX4_ok, nmX4, Or.inl rfl, by decide +kernel⟩
def wf_X4 (dA : Nat → ClassId) (h0 : Nat) (u : Nat) : va_W := [(h0, .inr (4, [.ref u, .int (-1), .int 0])), (u, .inl (dA 0, 60, .inl fun _ => 0))]
def e0_X4 : va_E := .inr (4, [.null, .int 0, .int 0])
set_option maxHeartbeats 4000000 in
theorem i_X4 (l : Launch) (D : va_G) (dA : Nat → ClassId) (h0 sz : Nat) : Met l mX4_init.1 (r_ws mX4_init) (n_rm 1 1 60) (n_Pc D dA h0 e0_X4 sz []) (n_Qc D h0 e0_X4 sz (wf_X4 dA h0)) 1 60 (va_A [(h0, e0_X4)] sz) := by
  refine n_met l D dA sz (by decide) rfl rfl (Nat.le_of_ble_eq_true rfl) (fun p e s m args below meth c ls A Z C hAO h hl hend => ?_)
  obtain ⟨hx, hb, -⟩ := id C
  have hl : lv_has ls 1 [(0, .ref h0)] := hl
  refine lv_aload_n hx hb dX4_init_0 rfl (lv_at hl 0 rfl) ?_
  refine n_obj C hl.1 (by decide +kernel) n_oI n_oC dX4_init_1 (Nat.le_of_ble_eq_true rfl) (Nat.le_of_ble_eq_true rfl) ?_
  refine lv_aload_n hx hb dX4_init_4 rfl (lv_at hl 0 rfl) ?_
  refine lv_bipush (v := 60) hx hb dX4_init_5 (by decide) ?_
  refine n_arrI (N := 60) C h rfl (by decide) dX4_init_7 dX4_init_9 fq_X4_9 (by simp) (Nat.le_of_ble_eq_true rfl) (Nat.le_of_ble_eq_true rfl) (fun q1 H locs h => ?_)
  refine lv_aload_n hx hb dX4_init_12 rfl (lv_at hl 0 rfl) ?_
  refine lv_iconst (v := (-1)) hx hb dX4_init_13 (by decide) ?_
  refine n_put C h dX4_init_14 fq_X4_15 rfl rfl (by simp) (fun H locs h => ?_)
  exact hend q1 _ _ _ _ h dX4_init_17
