/-! ===== constructors: rows for what is being made ===== -/
def n_FQ (own : String) (idx ci j : Nat) (ty : FieldType) : Prop := ∃ (C : String) (T : u_T) (N : Nat) (ty0 : Nat → FieldType), vwCl[ci]? = some (C, T, N) ∧ j < N ∧ Cond.fieldLink own idx (T j).1 (T j).2.1 (T j).2.2.1 ∈ pw_wl ∧ (∀ w ∈ u_ws C T N, w ∈ pw_wl) ∧
  (∀ k, k < N → parseFieldDescriptor (T k).2.2.1 = some (ty0 k)) ∧ (∀ a, a < N → ∀ b, b < N → a ≠ b → (T a).2.1 ≠ (T b).2.1) ∧ ((T j).2.2.2 = false ∨ ((T j).2.2.2 = true ∧ (T j).1 = own)) ∧ parseFieldDescriptor (T j).2.2.1 = some ty
def n_Cx (μ : r_Mt) (p : Program) (s : State) (m : MethodId) (args : Array Value) (meth : Method) (c : Code) (D : va_G) (dA : Nat → ClassId) (A : Nat → Prop) : Prop :=
  p.tables.exec = Jvm.exec ∧ c.code = μ.2.1 ∧ c.maxLocals = μ.2.2.1 ∧ s.vm.findClass μ.1.cls = some m.cls ∧ (∀ w ∈ pw_wl, w.before args s = true) ∧ va_K D vwCl (r_ty dA) s ∧ meth.name = "<init>" ∧ ∀ q : Nat, s.heap.size ≤ q → A q
def n_Hp (D : va_G) (A : Nat → Prop) (ws : va_W) (s : State) (H : Heap) (locs : List Loc) : Prop := va_P D vwCl ws H ∧ va_D A ws ∧ va_S A s.heap H locs
section NB
variable {p : Program} {l : Launch} {e : Env} {R : Room} {s : State} {m : MethodId} {args : Array Value} {below : List Frame} {meth : Method} {c : Code} {H : Heap} {locs : List Loc} {cells slots : Nat} {Q : State → Prop} {μ : r_Mt} {D : va_G} {dA : Nat → ClassId} {A : Nat → Prop} {pc : Nat} {ls : Array Slot} {rest : List Value} {ws wr : va_W}
theorem n_put {h0 ci j idx : Nat} {fs : List Value} {ty : FieldType} {v : Value} (C : n_Cx μ p s m args meth c D dA A) (h : n_Hp D A ((h0, .inr (ci, fs)) :: wr) s H locs) (hd : decode μ.2.1 pc = .ok (.putfield idx, 3)) (hf : n_FQ μ.1.cls idx ci j ty) (hn : narrow ty v = v) (hfit : fits ty v = true) (hl : j < fs.length)
    (kk : ∀ (H1 : Heap) (locs1 : List Loc), n_Hp D A ((h0, .inr (ci, fs.set j v)) :: wr) s H1 locs1 → W p l e R s m args below meth c H1 locs1 cells slots Q (F0 m (pc + 3) ls rest)) : W p l e R s m args below meth c H locs cells slots Q (F0 m pc ls (v :: .ref h0 :: rest)) := by
  obtain ⟨hx, hb, hml, hown, hts, hK, hin, hA⟩ := C
  obtain ⟨hP, hD, hS⟩ := h
  obtain ⟨CC, T, N, ty0, h1, h2, h3, h4, h5, h6, h7, h8⟩ := hf
  rcases h7 with h7 | ⟨h7, h9⟩
  · exact va_put (D := D) (ci := ci) (v := v) (ty := ty) (C := CC) (T := T) (N := N) hx hb hts h4 ty0 h5 h6 hown hK hP hD hS 0 rfl h1 j h2 (hts _ h3) (fun _ h9 => h9) h7 h8 hn hfit hl hd (fun H1 locs1 a1 a2 a3 => kk H1 locs1 ⟨a1, a2, a3⟩)
  · exact va_putF (D := D) (ci := ci) (v := v) (ty := ty) (C := CC) (T := T) (N := N) hx hb hts h4 ty0 h5 h6 hown hK hP hD hS 0 rfl h1 j h2 (hts _ h3) (fun _ h9 => h9) h7 hin h9 h8 hn hfit hl hd (fun H1 locs1 a1 a2 a3 => kk H1 locs1 ⟨a1, a2, a3⟩)
theorem n_newa {atype : ArrayType} {ty : FieldType} {t N' : Nat} {n : Int32} {a0 : vp_A} (C : n_Cx μ p s m args meth c D dA A) (h : n_Hp D A ws s H locs) (hty : newarray.typeOf atype = ty) (ht : (r_ty dA)[t]? = some (dA t, ty)) (harr : Cond.arrayClass ty ∈ pw_wl) (hra : ∀ (U : State) (x y : ClassId), va_RA U x ty → va_RA U y ty → x = y) (ha : ∀ cA : ClassId, vp_cell cA a0 = arrV cA N' (fun _ => defaultValue ty)) (hn : n = nI N') (hN : N' < 1000) (hb1 : componentBytes ty ≤ 8) (hcells : cells + 1 ≤ R.cells) (hslots : slots + N' ≤ R.slots) (hd : decode μ.2.1 pc = .ok (.newarray atype, 2))
    (kk : ∀ (q : Nat) (H1 : Heap), n_Hp D A (ws ++ [(q, .inl (dA t, a0))]) s H1 locs → W p l e R s m args below meth c H1 locs (cells + 1) (slots + N') Q (F0 m (pc + 2) ls (.ref q :: rest))) : W p l e R s m args below meth c H locs cells slots Q (F0 m pc ls (.int n :: rest)) := by
  obtain ⟨hx, hb, hml, hown, hts, hK, hin, hA⟩ := C
  obtain ⟨hP, hD, hS⟩ := h
  subst hn
  refine va_newa hx hb (by rw [hty]; exact hts _ harr) hty hK hP hD hS hA ha (nI_pos (by omega)) (nI_clamp (by omega)) (Nat.le_trans (Nat.mul_le_mul (Nat.le_of_lt hN) hb1) (by decide)) hcells hslots hd (fun q cA H1 hK1 hP1 hD1 hS1 => ?_)
  have e : cA = dA t := hra s cA (dA t) (hK1.2 4 (cA, ty) rfl).2 (hK.2 t _ ht).2
  subst e
  exact kk q H1 ⟨hP1, hD1, hS1⟩
theorem n_new {CC : String} {T : u_T} {N ci idx : Nat} {fs : List Value} (C : n_Cx μ p s m args meth c D dA A) (h : n_Hp D A ws s H locs) (hc : vwCl[ci]? = some (CC, T, N)) (ty : Nat → FieldType) (hty : ∀ k, k < N → parseFieldDescriptor (T k).2.2.1 = some (ty k)) (hu : ∀ w ∈ u_ws CC T N, w ∈ pw_wl) (hcl : Cond.classLink μ.1.cls idx CC ∈ pw_wl) (hinst : Cond.instantiable CC N ∈ pw_wl) (hini : Cond.initialized CC ∈ pw_wl) (hfs : ∀ j, j < N → defaultValue (ty j) = vp_V fs j) (hcells : cells + 1 ≤ R.cells) (hslots : slots + N ≤ R.slots) (hd : decode μ.2.1 pc = .ok (.new idx, 3))
    (kk : ∀ (q : Nat) (H1 : Heap), n_Hp D A (ws ++ [(q, .inr (ci, fs))]) s H1 locs → W p l e R s m args below meth c H1 locs (cells + 1) (slots + N) Q (F0 m (pc + 3) ls (.ref q :: rest))) : W p l e R s m args below meth c H locs cells slots Q (F0 m pc ls rest) := by
  obtain ⟨hx, hb, hml, hown, hts, hK, hin, hA⟩ := C
  obtain ⟨hP, hD, hS⟩ := h
  exact va_new (ci := ci) (fs := fs) (C := CC) (T := T) (N := N) hx hb hts hu ty hty hown (hts _ hcl) (hts _ hinst) (hts _ hini) hK hP hD hS hA hc hfs hcells hslots hd (fun q H1 hP1 hD1 hS1 => kk q H1 ⟨hP1, hD1, hS1⟩)
/-- what a constructor is given, and what it leaves -/
def n_Pc (D : va_G) (dA : Nat → ClassId) (h0 : Nat) (e0 : va_E) (sz : Nat) (as : List Value) : Array Value → State → Prop := va_Pc (.ref h0 :: as) (fun U => U.heap.size = sz ∧ va_P D vwCl [(h0, e0)] U.heap ∧ va_K D vwCl (r_ty dA) U ∧ va_AO "TwinKings$Sheet" U)
def n_Qc {S : Type} (D : va_G) (h0 : Nat) (e0 : va_E) (sz : Nat) (wf : S → va_W) : Array Value → State → Outcome → State → Prop := va_Qv (fun _ : S => True) (fun u t => va_P D vwCl (wf u) t.heap ∧ va_D (va_A [(h0, e0)] sz) (wf u)) (va_A [(h0, e0)] sz)
def n_rm (d mc ms : Nat) : Room := { frames := d, cells := mc, slots := ms, locals := 64 * d }
theorem n_join {q : Nat} {e0 : va_E} {H1 : Heap} {w1 : va_W} (hP : va_P D vwCl (wr ++ [(q, e0)]) H) (hD : va_D A (wr ++ [(q, e0)])) (hk : ∀ x : Nat, x < H.size → ¬ va_A [(q, e0)] H.size x → H1[x]? = H[x]?) (hF : ∀ x, va_A [(q, e0)] H.size x → A x) (hP1 : va_P D vwCl w1 H1) (hD1 : va_D (va_A [(q, e0)] H.size) w1) : va_P D vwCl (wr ++ w1) H1 ∧ va_D A (wr ++ w1) := by
  have inl : ∀ (k : Nat) (y : Nat × va_E), wr[k]? = some y → (wr ++ [(q, e0)])[k]? = some y := fun k y hy => by
    rw [List.getElem?_append_left (List.getElem?_eq_some_iff.mp hy).1]; exact hy
  have apart : ∀ (k : Nat) (y : Nat × va_E), wr[k]? = some y → y.1 < H.size ∧ ¬ va_A [(q, e0)] H.size y.1 := by
    intro k y hy
    have hl := (hP k y (inl k y hy)).lt
    refine ⟨hl, fun h => ?_⟩
    rcases h with ⟨k2, e2, h⟩ | h
    · have hk2 : k2 < 1 := (List.getElem?_eq_some_iff.mp h).1
      rw [show k2 = 0 by omega] at h
      cases h
      have hkl : k < wr.length := (List.getElem?_eq_some_iff.mp hy).1
      have := hD.1 k wr.length y (y.1, e0) (inl k y hy) (by simp) rfl
      omega
    · omega
  refine ⟨va_P.app (fun k y hy => (hP k y (inl k y hy)).kept ?_) hP1, va_D.app ⟨fun i j x y hx hy hxy => hD.1 i j x y (inl i x hx) (inl j y hy) hxy, fun k y hy => hD.2 k y (inl k y hy)⟩ (hD1.weaken (fun k y _ h => hF y.1 h)) (fun i j x y hx hy hxy => ?_)⟩
  · obtain ⟨g1, g2⟩ := apart k y hy
    exact hk y.1 g1 g2
  · exact (apart i x hx).2 (by rw [hxy]; exact hD1.2 j y hy)
theorem n_free {q : Nat} {e0 : va_E} (hD : va_D A (wr ++ [(q, e0)])) (hS : va_S A s.heap H locs) (hA : ∀ x : Nat, s.heap.size ≤ x → A x) : ∀ x, va_A [(q, e0)] H.size x → A x := by
  intro x h
  rcases h with ⟨k, e, h⟩ | h
  · have hk2 : k < 1 := (List.getElem?_eq_some_iff.mp h).1
    rw [show k = 0 by omega] at h
    cases h
    exact hD.2 wr.length (q, e0) (by simp)
  · exact hA x (Nat.le_trans hS.1 h)
theorem n_blind {h0 : Nat} {e0 : va_E} {sz : Nat} {as : List Value} : FrameBlind (n_Pc D dA h0 e0 sz as) := by
  intro a U g mk h
  obtain ⟨h1, h2, h3, h4, h5⟩ := h
  exact ⟨h1, h2, h3, va_K.moved (u := U) (U := U.calling g mk a) (Vm.Alike.refl U.vm) h4, va_AO.moved (u := U) (U := U.calling g mk a) (Vm.Alike.refl U.vm) h5⟩
set_option maxHeartbeats 1000000 in
/-- a constructor is called: of a nest mate, or by its own link -/
theorem n_call {S : Type} {wf : S → va_W} {μ' : r_Mt} {q d mc ms idx n : Nat} {e0 : va_E} {as : List Value} (C : n_Cx μ p s m args meth c D dA A) (hAO : va_AO "TwinKings$Sheet" s) (h : n_Hp D A (wr ++ [(q, e0)]) s H locs) (hM : ∀ sz, Met l μ'.1 (r_ws μ') (n_rm d mc ms) (n_Pc D dA q e0 sz as) (n_Qc D q e0 sz wf) mc ms (va_A [(q, e0)] sz)) (hm : r_CM μ' n) (hret : μ'.2.2.2 = none) (hnm : μ'.1.name = "<init>") (him : Cond.instanceMethod μ'.1 ∈ pw_wl) (hlk : Cond.methodLink μ.1.cls idx μ'.1 ∈ pw_wl ∨ ∃ host, Cond.methodLinkNest μ.1.cls idx μ'.1 host ∈ pw_wl) (hn : as.length = n) (hls : ls.size = μ.2.2.1) (hfr : d + 1 ≤ R.frames) (hlo : 64 * (d + 1) ≤ R.locals) (hcells : cells + mc ≤ R.cells) (hslots : slots + ms ≤ R.slots) (hw : (rest.map fun v => v.category).sum ≤ 8) (hd : decode μ.2.1 pc = .ok (.invokespecial idx, 3))
    (kk : ∀ (u : S) (H1 : Heap) (locs1 : List Loc), n_Hp D A (wr ++ wf u) s H1 locs1 → W p l e R s m args below meth c H1 locs1 (cells + mc) (slots + ms) Q (F0 m (pc + 3) ls rest)) : W p l e R s m args below meth c H locs cells slots Q (F0 m pc ls (as.reverse ++ .ref q :: rest)) := by
  obtain ⟨hx, hb, hml, hown, hts, hK, hin, hA⟩ := C
  obtain ⟨hP, hD, hS⟩ := h
  obtain ⟨g1, g2, g3, g4, g5, g6⟩ := hm
  have hF := n_free hD hS hA
  have hlen : ∀ sig, parseMethodDescriptor μ'.1.desc = some sig → n = sig.parameters.length := fun sig h => by
    rw [h] at g5
    exact (Option.some.inj g5).symm
  have hpre : PreS s H (n_Pc D dA q e0 H.size as) (.ref q :: as) := ⟨n_blind, fun U hU hW => ⟨rfl, by rw [hU], by
    rw [hU]
    intro k y hy
    have hk : k < 1 := (List.getElem?_eq_some_iff.mp hy).1
    rw [show k = 0 by omega] at hy
    cases hy
    exact hP wr.length (q, e0) (by simp), va_K.moved hW.alike hK, va_AO.moved hW.alike hAO⟩⟩
  have fr : d + 1 ≤ R.frames ∧ 8 + (μ'.2.2.1 + 11) + 64 * d ≤ R.locals := ⟨hfr, by omega⟩
  have go : va_Run p l e R s m args below meth c H locs cells slots mc ms (F0 m pc ls (as.reverse ++ .ref q :: rest)) rest (n_Qc D q e0 H.size wf (Value.ref q :: as).toArray) (va_A [(q, e0)] H.size) := by
    have hcd : (Cond.code μ'.1 μ'.2.1 μ'.2.2.1 none).before args s = true := by rw [← hret]; exact hts _ g1
    have hcw : Cond.code μ'.1 μ'.2.1 μ'.2.2.1 none ∈ r_ws μ' := by rw [← hret]; exact List.mem_cons_self
    rcases hlk with hlk | ⟨host, hlk⟩
    · exact va_runI (As := as) (n := n) (bytes := μ'.2.1) (maxL := μ'.2.2.1) ⟨hx, hb, hml, hown, hts⟩ (hM H.size) ⟨⟨rfl, rfl, fr.1, fr.2, r_pays hts g1, hcw, hcd, hts _ g2, g4, hlen, hts _ hlk⟩, hnm, hts _ him⟩ hpre rfl hn hls rfl (lv_room hw) hd ⟨hcells, hslots⟩
    · exact va_runIN (As := as) (n := n) (host := host) (bytes := μ'.2.1) (maxL := μ'.2.2.1) ⟨hx, hb, hml, hown, hts⟩ (hM H.size) ⟨⟨⟨rfl, rfl, fr.1, fr.2, r_pays hts g1, hcw⟩, hcd, hts _ g2, g4, hlen, hts _ hlk⟩, hnm, hts _ him⟩ hpre rfl hn hls rfl (lv_room hw) hd ⟨hcells, hslots⟩
  refine va_callv go hS (fun x _ h => hF x h) hF (fun u t H1 locs1 ht hvm _ hB hz1 hk1 hS1 => ?_)
  obtain ⟨hP1, hD1⟩ := hB
  rw [ht] at hP1
  obtain ⟨a1, a2⟩ := n_join hP hD hk1 hF hP1 hD1
  exact kk u H1 locs1 ⟨a1, a2, hS1⟩
end NB
