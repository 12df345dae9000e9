/-! ===== the law: what its start stands on ===== -/
theorem l_known {args : Array Value} {s : State} (hts : ∀ w ∈ pw_wl, w.before args s = true) : ∃ D : va_G, ∀ (k : Nat) (q : vw_C), vwCl[k]? = some q → u_Kn s q.1 q.2.1 q.2.2 (D.1 k) (D.2 k) := by
  obtain ⟨c0, i0, h0⟩ := u_known (C := RX0) (T := TX0) (N := 6) (n := 6) hts pw_uX0 (hts _ (pw_in 86 (by decide +kernel) (by decide +kernel)))
  obtain ⟨c1, i1, h1⟩ := u_known (C := RX1) (T := TX1) (N := 6) (n := 6) hts pw_uX1 (hts _ (pw_in 137 (by decide +kernel) (by decide +kernel)))
  obtain ⟨c2, i2, h2⟩ := u_known (C := RX2) (T := TX2) (N := 7) (n := 7) hts pw_uX2 (hts _ (pw_in 162 (by decide +kernel) (by decide +kernel)))
  obtain ⟨c3, i3, h3⟩ := u_known (C := RX3) (T := TX3) (N := 5) (n := 5) hts pw_uX3 (hts _ (pw_in 112 (by decide +kernel) (by decide +kernel)))
  obtain ⟨c4, i4, h4⟩ := u_known (C := RX4) (T := TX4) (N := 3) (n := 3) hts pw_uX4 (hts _ (pw_in 192 (by decide +kernel) (by decide +kernel)))
  obtain ⟨c5, i5, h5⟩ := u_known (C := RX5) (T := TX5) (N := 16) (n := 16) hts pw_uX5 (hts _ (pw_in 78 (by decide +kernel) (by decide +kernel)))
  obtain ⟨c6, i6, h6⟩ := u_known (C := RX6) (T := TX6) (N := 42) (n := 42) hts pw_uX6 (hts _ (pw_in 821 (by decide +kernel) (by decide +kernel)))
  refine ⟨(fun k => [c0, c1, c2, c3, c4, c5, c6].getD k c0, fun k => [i0, i1, i2, i3, i4, i5, i6].getD k i0), ?_⟩
  intro k q hq
  match k, hq with
  | 0, hq => cases hq; exact h0
  | 1, hq => cases hq; exact h1
  | 2, hq => cases hq; exact h2
  | 3, hq => cases hq; exact h3
  | 4, hq => cases hq; exact h4
  | 5, hq => cases hq; exact h5
  | 6, hq => cases hq; exact h6
  | k + 7, hq => simp [vwCl] at hq
theorem l_ar {args : Array Value} {s : State} {ty : FieldType} (h : (Cond.arrayClass ty).before args s = true) (hra : ∀ cA, s.vm.findClass ("[" ++ ty.toString) = some cA → va_RA s cA ty) (hnd : ∀ n : String, ¬ ty = .object n) (hna : ∀ t : FieldType, ¬ ty = .array t) : ∃ cA : ClassId, ArrOfT s cA ty ∧ va_RA s cA ty := by
  obtain ⟨cA, kA, comp, h1, h2, h3⟩ := Cond.arrayClass_spec h
  exact ⟨cA, fun n z => ⟨fun k h => (by cases h), kA, h2, comp, h3⟩, hra cA h1⟩
theorem l_arrs {args : Array Value} {s : State} (hts : ∀ w ∈ lw_tbl, w.before args s = true) : ∃ dA : Nat → ClassId, ∀ (k : Nat) (q : ClassId × FieldType), (r_ty dA)[k]? = some q → ArrOfT s q.1 q.2 ∧ va_RA s q.1 q.2 := by
  obtain ⟨c0, h0⟩ := l_ar (ty := .int) (hts _ (List.mem_of_getElem? (i := 110) (by decide +kernel))) (fun cA h => h) (fun n h => by cases h) (fun t h => by cases h)
  obtain ⟨c1, h1⟩ := l_ar (ty := .long) (hts _ (List.mem_of_getElem? (i := 189) (by decide +kernel))) (fun cA h => h) (fun n h => by cases h) (fun t h => by cases h)
  obtain ⟨c2, h2⟩ := l_ar (ty := .boolean) (hts _ (List.mem_of_getElem? (i := 953) (by decide +kernel))) (fun cA h => h) (fun n h => by cases h) (fun t h => by cases h)
  obtain ⟨comp, c3, k3, f1, -, f2, f3, f4⟩ := Cond.arrayOver_spec (n := "TwinKings$Sheet") (hts _ (List.mem_of_getElem? (i := 191) (by decide +kernel)))
  have h3 : ArrOfT s c3 (.object "TwinKings$Sheet") ∧ va_RA s c3 (.object "TwinKings$Sheet") := ⟨fun N z => ⟨(fun k h => by cases h), k3, f2, comp, f3⟩, k3, comp, f2, f3, f1, f4⟩
  refine ⟨fun k => [c0, c1, c2, c3].getD k c0, ?_⟩
  intro k q hq
  match k, hq with
  | 0, hq => cases hq; exact h0
  | 1, hq => cases hq; exact h1
  | 2, hq => cases hq; exact h2
  | 3, hq => cases hq; exact h3
  | k + 4, hq => simp [r_ty] at hq
theorem l_sta {b : Nat} {s : State} (hts : ∀ w ∈ lw_tbl, w.before #[Value.ref b] s = true) (hgv : (Jvm.Cond.and given_1 narrow_1).before #[Value.ref b] s = true) : ∃ t : Nat, va_Z "TwinKings" "DIGEST_DAYS" "[I" (.ref t) (fun q : Nat => s.heap.size ≤ q) s s.heap ∧ va_T .int t 5 r_dd (fun q : Nat => s.heap.size ≤ q) s s.heap := by
  have hs := flat_of_before _ hgv
  have harr := hs (Cond.arrayOf (.static "TwinKings" "DIGEST_DAYS" "[I") .int) (by decide +kernel)
  have hlen := va_eqt (hs (Cond.eq (.length (.static "TwinKings" "DIGEST_DAYS" "[I")) (.int 5)) (by decide +kernel))
  have e0 := va_eqt (hs (Cond.eq (.elem (.static "TwinKings" "DIGEST_DAYS" "[I") (.int 0)) (.int 0)) (by decide +kernel))
  have e1 := va_eqt (hs (Cond.eq (.elem (.static "TwinKings" "DIGEST_DAYS" "[I") (.int 1)) (.int 1)) (by decide +kernel))
  have e2 := va_eqt (hs (Cond.eq (.elem (.static "TwinKings" "DIGEST_DAYS" "[I") (.int 2)) (.int 6)) (by decide +kernel))
  have e3 := va_eqt (hs (Cond.eq (.elem (.static "TwinKings" "DIGEST_DAYS" "[I") (.int 3)) (.int 20)) (by decide +kernel))
  have e4 := va_eqt (hs (Cond.eq (.elem (.static "TwinKings" "DIGEST_DAYS" "[I") (.int 4)) (.int 39)) (by decide +kernel))
  have hA : ∀ a : Nat, a < s.heap.size → ¬ (fun q : Nat => s.heap.size ≤ q) a := fun a h => Nat.not_le.mpr h
  obtain ⟨t, hv, hT⟩ := va_Tof (N := 5) (f := r_dd) (by decide) harr hlen (fun j hj => by
    match j, hj with
    | 0, _ => exact e0
    | 1, _ => exact e1
    | 2, _ => exact e2
    | 3, _ => exact e3
    | 4, _ => exact e4
    | k + 5, h => omega) hA
  exact ⟨t, va_Zof (hts _ (List.mem_of_getElem? (i := 797) (by decide +kernel))) (hts _ (List.mem_of_getElem? (i := 66) (by decide +kernel))) hv hA, hT⟩
theorem l_split {D : va_G} {A : Nat → Prop} {w0 w1 : va_W} {H : Heap} (hP : va_P D vwCl (w0 ++ w1) H) (hD : va_D A (w0 ++ w1)) : va_P D vwCl w0 H ∧ va_P D vwCl w1 H ∧ va_D A w0 ∧ va_D A w1 ∧ ∀ (i j : Nat) (x y : Nat × va_E), w0[i]? = some x → w1[j]? = some y → ¬ x.1 = y.1 := by
  have g0 : ∀ (k : Nat) (y : Nat × va_E), w0[k]? = some y → (w0 ++ w1)[k]? = some y := fun k y hy => by
    rw [List.getElem?_append_left (List.getElem?_eq_some_iff.mp hy).1]; exact hy
  have g1 : ∀ (k : Nat) (y : Nat × va_E), w1[k]? = some y → (w0 ++ w1)[w0.length + k]? = some y := fun k y hy => by
    rw [List.getElem?_append_right (Nat.le_add_right _ _), Nat.add_sub_cancel_left]; exact hy
  refine ⟨fun k y hy => hP k y (g0 k y hy), fun k y hy => hP _ y (g1 k y hy), ⟨fun i j x y hx hy e => hD.1 i j x y (g0 i x hx) (g0 j y hy) e, fun k y hy => hD.2 k y (g0 k y hy)⟩, ⟨fun i j x y hx hy e => ?_, fun k y hy => hD.2 _ y (g1 k y hy)⟩, fun i j x y hx hy e => ?_⟩
  · have := hD.1 _ _ x y (g1 i x hx) (g1 j y hy) e
    omega
  · have h1 := hD.1 _ _ x y (g0 i x hx) (g1 j y hy) e
    have h2 := (List.getElem?_eq_some_iff.mp hx).1
    omega
theorem l_inj {A : Nat → Prop} {ad : Nat → Nat} {dA : Nat → ClassId} {σ : r_St} {L : List r_Kd} (h : va_D A (r_wl ad dA σ L)) : r_inj ad L.length := fun i j hi hj e => h.1 i j _ _ (r_wl_at (List.getElem?_eq_getElem hi)) (r_wl_at (List.getElem?_eq_getElem hj)) e
theorem l_in {A : Nat → Prop} {ad : Nat → Nat} {dA : Nat → ClassId} {σ : r_St} {L : List r_Kd} (h : va_D A (r_wl ad dA σ L)) : ∀ q, r_A L.length ad q → A q := by
  intro q hq
  obtain ⟨k, hk, rfl⟩ := hq
  exact h.2 k _ (r_wl_at (List.getElem?_eq_getElem hk))
section LI
variable {p : Program} {l : Launch} {e : Env} {R : Room} {s : State} {m : MethodId} {args : Array Value} {below : List Frame} {meth : Method} {c : Code} {H : Heap} {locs : List Loc} {cells slots : Nat} {Q : State → Prop} {D : va_G} {dA : Nat → ClassId} {A : Nat → Prop} {pc : Nat} {ls : Array Slot} {rest : List Value} {ws wr : va_W}
def l_C (p : Program) (s : State) (m : MethodId) (args : Array Value) (c : Code) (D : va_G) (dA : Nat → ClassId) (A : Nat → Prop) : Prop :=
  p.tables.exec = Jvm.exec ∧ c.code = code ∧ c.maxLocals = 4 ∧ s.vm.findClass R_law = some m.cls ∧ (∀ w ∈ pw_wl, w.before args s = true) ∧ va_K D vwCl (r_ty dA) s ∧ ∀ q : Nat, s.heap.size ≤ q → A q
theorem l_new {CC : String} {T : u_T} {N ci idx : Nat} {fs : List Value} (C : l_C p s m args c D dA A) (h : n_Hp D A ws s H locs) (hc : vwCl[ci]? = some (CC, T, N)) (ty : Nat → FieldType) (hty : ∀ k, k < N → parseFieldDescriptor (T k).2.2.1 = some (ty k)) (hu : ∀ w ∈ u_ws CC T N, w ∈ pw_wl) (hcl : Cond.classLink R_law idx CC ∈ pw_wl) (hinst : Cond.instantiable CC N ∈ pw_wl) (hini : Cond.initialized CC ∈ pw_wl) (hfs : ∀ j, j < N → defaultValue (ty j) = vp_V fs j) (hcells : cells + 1 ≤ R.cells) (hslots : slots + N ≤ R.slots) (hd : decode code pc = .ok (.new idx, 3))
    (kk : ∀ (q : Nat) (H1 : Heap), n_Hp D A (ws ++ [(q, .inr (ci, fs))]) s H1 locs → W p l e R s m args below meth c H1 locs (cells + 1) (slots + N) Q (F0 m (pc + 3) ls (.ref q :: rest))) : W p l e R s m args below meth c H locs cells slots Q (F0 m pc ls rest) := by
  obtain ⟨hx, hb, hml, hown, hts, hK, hA⟩ := C
  obtain ⟨hP, hD, hS⟩ := h
  exact va_new (ci := ci) (fs := fs) (C := CC) (T := T) (N := N) hx hb hts hu ty hty hown (hts _ hcl) (hts _ hinst) (hts _ hini) hK hP hD hS hA hc hfs hcells hslots hd (fun q H1 hP1 hD1 hS1 => kk q H1 ⟨hP1, hD1, hS1⟩)
set_option maxHeartbeats 1000000 in
theorem l_init {S : Type} {wf : S → va_W} {μ' : r_Mt} {q d mc ms idx : Nat} {e0 : va_E} (C : l_C p s m args c D dA A) (hAO : va_AO "TwinKings$Sheet" s) (h : n_Hp D A (wr ++ [(q, e0)]) s H locs) (hM : ∀ sz, Met l μ'.1 (r_ws μ') (n_rm d mc ms) (n_Pc D dA q e0 sz []) (n_Qc D q e0 sz wf) mc ms (va_A [(q, e0)] sz)) (hm : r_CM μ' 0) (hret : μ'.2.2.2 = none) (hnm : μ'.1.name = "<init>") (him : Cond.instanceMethod μ'.1 ∈ pw_wl) (hlk : Cond.methodLink R_law idx μ'.1 ∈ pw_wl) (hls : ls.size = 4) (hfr : d + 1 ≤ R.frames) (hlo : 64 * (d + 1) ≤ R.locals) (hcells : cells + mc ≤ R.cells) (hslots : slots + ms ≤ R.slots) (hw : (rest.map fun v => v.category).sum ≤ 8) (hd : decode code pc = .ok (.invokespecial idx, 3))
    (kk : ∀ (u : S) (H1 : Heap) (locs1 : List Loc), n_Hp D A (wr ++ wf u) s H1 locs1 → W p l e R s m args below meth c H1 locs1 (cells + mc) (slots + ms) Q (F0 m (pc + 3) ls rest)) : W p l e R s m args below meth c H locs cells slots Q (F0 m pc ls (.ref q :: rest)) := by
  obtain ⟨hx, hb, hml, hown, hts, hK, hA⟩ := C
  obtain ⟨hP, hD, hS⟩ := h
  obtain ⟨g1, g2, g3, g4, g5, g6⟩ := hm
  have hF := n_free hD hS hA
  have hlen : ∀ sig, parseMethodDescriptor μ'.1.desc = some sig → 0 = sig.parameters.length := fun sig h => by
    rw [h] at g5
    exact (Option.some.inj g5).symm
  have hpre : PreS s H (n_Pc D dA q e0 H.size []) (.ref q :: []) := ⟨n_blind, fun U hU hW => ⟨rfl, by rw [hU], by
    rw [hU]
    intro k y hy
    have hk : k < 1 := (List.getElem?_eq_some_iff.mp hy).1
    rw [show k = 0 by omega] at hy
    cases hy
    exact hP wr.length (q, e0) (by simp), va_K.moved hW.alike hK, va_AO.moved hW.alike hAO⟩⟩
  have fr : d + 1 ≤ R.frames ∧ 8 + (μ'.2.2.1 + 11) + 64 * d ≤ R.locals := ⟨hfr, by omega⟩
  have go : va_Run p l e R s m args below meth c H locs cells slots mc ms (F0 m pc ls (.ref q :: rest)) rest (n_Qc D q e0 H.size wf (Value.ref q :: []).toArray) (va_A [(q, e0)] H.size) := by
    have hcd : (Cond.code μ'.1 μ'.2.1 μ'.2.2.1 none).before args s = true := by rw [← hret]; exact hts _ g1
    have hcw : Cond.code μ'.1 μ'.2.1 μ'.2.2.1 none ∈ r_ws μ' := by rw [← hret]; exact List.mem_cons_self
    exact va_runI (As := []) (n := 0) (bytes := μ'.2.1) (maxL := μ'.2.2.1) ⟨hx, hb, hml, hown, hts⟩ (hM H.size) ⟨⟨rfl, rfl, fr.1, fr.2, r_pays hts g1, hcw, hcd, hts _ g2, g4, hlen, hts _ hlk⟩, hnm, hts _ him⟩ hpre rfl rfl hls rfl (lv_room hw) hd ⟨hcells, hslots⟩
  refine va_callv go hS (fun x _ h => hF x h) hF (fun u t H1 locs1 ht hvm _ hB hz1 hk1 hS1 => ?_)
  obtain ⟨hP1, hD1⟩ := hB
  rw [ht] at hP1
  obtain ⟨a1, a2⟩ := n_join hP hD hk1 hF hP1 hD1
  exact kk u H1 locs1 ⟨a1, a2, hS1⟩
end LI
