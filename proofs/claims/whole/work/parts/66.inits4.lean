/-! ===== constructors: rows for the class's own ===== -/
section ND
variable {p : Program} {l : Launch} {e : Env} {R : Room} {s : State} {m : MethodId} {args : Array Value} {below : List Frame} {meth : Method} {c : Code} {H : Heap} {locs : List Loc} {cells slots : Nat} {Q : State → Prop} {μ : r_Mt} {D : va_G} {dA : Nat → ClassId} {A : Nat → Prop} {pc : Nat} {ls : Array Slot} {rest : List Value} {ws wr : va_W}
theorem n_newc {x : Nat × va_E} {CC : String} {T : u_T} {N ci idx : Nat} {fs : List Value} (C : n_Cx μ p s m args meth c D dA A) (h : n_Hp D A (x :: wr) s H locs) (hc : vwCl[ci]? = some (CC, T, N)) (ty : Nat → FieldType) (hty : ∀ k, k < N → parseFieldDescriptor (T k).2.2.1 = some (ty k)) (hu : ∀ w ∈ u_ws CC T N, w ∈ pw_wl) (hcl : Cond.classLink μ.1.cls idx CC ∈ pw_wl) (hinst : Cond.instantiable CC N ∈ pw_wl) (hini : Cond.initialized CC ∈ pw_wl) (hfs : ∀ j, j < N → defaultValue (ty j) = vp_V fs j) (hcells : cells + 1 ≤ R.cells) (hslots : slots + N ≤ R.slots) (hd : decode μ.2.1 pc = .ok (.new idx, 3))
    (kk : ∀ (q : Nat) (H1 : Heap), n_Hp D A (x :: (wr ++ [(q, .inr (ci, fs))])) s H1 locs → W p l e R s m args below meth c H1 locs (cells + 1) (slots + N) Q (F0 m (pc + 3) ls (.ref q :: rest))) : W p l e R s m args below meth c H locs cells slots Q (F0 m pc ls rest) :=
  n_new C h hc ty hty hu hcl hinst hini hfs hcells hslots hd (fun q H1 h1 => kk q H1 h1)
theorem n_callc {S : Type} {wf : S → va_W} {x : Nat × va_E} {μ' : r_Mt} {q d mc ms idx n : Nat} {e0 : va_E} {as : List Value} (C : n_Cx μ p s m args meth c D dA A) (hAO : va_AO "TwinKings$Sheet" s) (h : n_Hp D A (x :: (wr ++ [(q, e0)])) s H locs) (hM : ∀ sz, Met l μ'.1 (r_ws μ') (n_rm d mc ms) (n_Pc D dA q e0 sz as) (n_Qc D q e0 sz wf) mc ms (va_A [(q, e0)] sz)) (hm : r_CM μ' n) (hret : μ'.2.2.2 = none) (hnm : μ'.1.name = "<init>") (him : Cond.instanceMethod μ'.1 ∈ pw_wl) (hlk : Cond.methodLink μ.1.cls idx μ'.1 ∈ pw_wl ∨ ∃ host, Cond.methodLinkNest μ.1.cls idx μ'.1 host ∈ pw_wl) (hn : as.length = n) (hls : ls.size = μ.2.2.1) (hfr : d + 1 ≤ R.frames) (hlo : 64 * (d + 1) ≤ R.locals) (hcells : cells + mc ≤ R.cells) (hslots : slots + ms ≤ R.slots) (hw : (rest.map fun v => v.category).sum ≤ 8) (hd : decode μ.2.1 pc = .ok (.invokespecial idx, 3))
    (kk : ∀ (u : S) (H1 : Heap) (locs1 : List Loc), n_Hp D A (x :: (wr ++ wf u)) s H1 locs1 → W p l e R s m args below meth c H1 locs1 (cells + mc) (slots + ms) Q (F0 m (pc + 3) ls rest)) : W p l e R s m args below meth c H locs cells slots Q (F0 m pc ls (as.reverse ++ .ref q :: rest)) := by
  have h' : n_Hp D A ((x :: wr) ++ [(q, e0)]) s H locs := h
  exact n_call C hAO h' hM hm hret hnm him hlk hn hls hfr hlo hcells hslots hw hd (fun u H1 locs1 h1 => kk u H1 locs1 h1)
theorem n_newq {x : Nat × va_E} {idx N' : Nat} {n : Int32} (C : n_Cx μ p s m args meth c D dA A) (hAO : va_AO "TwinKings$Sheet" s) (h : n_Hp D A (x :: wr) s H locs) (hcl : Cond.classLink μ.1.cls idx "TwinKings$Sheet" ∈ pw_wl) (hn : n = nI N') (hN : N' < 1000) (hcells : cells + 1 ≤ R.cells) (hslots : slots + N' ≤ R.slots) (hd : decode μ.2.1 pc = .ok (.anewarray idx, 3))
    (kk : ∀ (q : Nat) (H1 : Heap), n_Hp D A (x :: (wr ++ [(q, .inl (dA 3, N', .inr (.inr (.inr (.inr (fun _ => none))))))])) s H1 locs → W p l e R s m args below meth c H1 locs (cells + 1) (slots + N') Q (F0 m (pc + 3) ls (.ref q :: rest))) : W p l e R s m args below meth c H locs cells slots Q (F0 m pc ls (.int n :: rest)) := by
  obtain ⟨hx, hb, hml, hown, hts, hK, hin, hA⟩ := C
  obtain ⟨hP, hD, hS⟩ := h
  subst hn
  refine va_newq hx hb hown (hts _ hcl) hAO hK hP hD hS hA (nI_pos (by omega)) (nI_clamp (by omega)) (by omega) hcells hslots hd (fun q cA H1 hK1 hP1 hD1 hS1 => ?_)
  have e : cA = dA 3 := by
    obtain ⟨_, _, _, _, _, g1⟩ := (hK1.2 4 (cA, .object "TwinKings$Sheet") rfl).2
    obtain ⟨_, _, _, _, _, g2⟩ := (hK.2 3 (dA 3, .object "TwinKings$Sheet") rfl).2
    exact Option.some.inj (g1.symm.trans g2)
  subst e
  exact kk q H1 ⟨hP1, hD1, hS1⟩
/-- a Sheet into its row -/
theorem n_ast {x : Nat × va_E} {w1 w2 w3 : va_W} {qa v i : Nat} {vs : List Value} {f : Nat → Option Nat} {n : Int32} (C : n_Cx μ p s m args meth c D dA A) (h : n_Hp D A (x :: (w1 ++ ((qa, .inl (dA 3, 4, .inr (.inr (.inr (.inr f))))) :: (w2 ++ ((v, .inr (4, vs)) :: w3))))) s H locs) (hn : n = nI i) (hi : i < 4) (hd : decode μ.2.1 pc = .ok (.aastore, 1))
    (kk : ∀ (H1 : Heap) (locs1 : List Loc), n_Hp D A (x :: (w1 ++ ((qa, .inl (dA 3, 4, .inr (.inr (.inr (.inr (va_up f i (some v))))))) :: (w2 ++ ((v, .inr (4, vs)) :: w3))))) s H1 locs1 → W p l e R s m args below meth c H1 locs1 cells slots Q (F0 m (pc + 1) ls rest)) : W p l e R s m args below meth c H locs cells slots Q (F0 m pc ls (.ref v :: .int n :: .ref qa :: rest)) := by
  obtain ⟨hx, hb, hml, hown, hts, hK, hin, hA⟩ := C
  obtain ⟨hP, hD, hS⟩ := h
  subst hn
  refine va_astq (r := (RX4, TX4, 3)) (ci := 4) hx hb hK hP hD hS (w1.length + 1) 3 (w1.length + 1 + (w2.length + 1)) (f := f) ?_ rfl (vs := vs) ?_ rfl (vp_in_nI hi (by decide)) hd (fun H1 locs1 hP1 hD1 hS1 => ?_)
  · rw [List.getElem?_cons_succ, List.getElem?_append_right (Nat.le_refl _), Nat.sub_self]
    rfl
  · rw [show w1.length + 1 + (w2.length + 1) = (w1.length + (w2.length + 1)) + 1 by omega, List.getElem?_cons_succ, List.getElem?_append_right (by omega), show w1.length + (w2.length + 1) - w1.length = w2.length + 1 by omega, List.getElem?_cons_succ, List.getElem?_append_right (Nat.le_refl _), Nat.sub_self]
    rfl
  · rw [nI_clamp (by omega), List.set_cons_succ, List.set_append_right _ _ (Nat.le_refl _), Nat.sub_self, List.set_cons_zero] at hP1 hD1
    exact kk H1 locs1 ⟨hP1, hD1, hS1⟩
end ND
theorem cm_X0 : r_CM mX0_init 0 := ⟨by decide +kernel, by decide +kernel, by decide, by decide, by decide, by decide⟩
theorem cm_X1 : r_CM mX1_init 0 := ⟨by decide +kernel, by decide +kernel, by decide, by decide, by decide, by decide⟩
theorem cm_X2 : r_CM mX2_init 0 := ⟨by decide +kernel, by decide +kernel, by decide, by decide, by decide, by decide⟩
theorem cm_X3 : r_CM mX3_init 1 := ⟨by decide +kernel, by decide +kernel, by decide, by decide, by decide, by decide⟩
theorem cm_X4 : r_CM mX4_init 0 := ⟨by decide +kernel, by decide +kernel, by decide, by decide, by decide, by decide⟩
