/-! ===== the law: what holds at its loop, a call of the class, of the reference, a number of the script ===== -/
def l_G (p : Program) (s : State) (m : MethodId) (args : Array Value) (c : Code) (D : va_G) (dA : Nat → ClassId) (ad0 ad1 : Nat → Nat) : Prop :=
  p.tables.exec = Jvm.exec ∧ c.code = code ∧ c.maxLocals = 4 ∧ s.vm.findClass R_law = some m.cls ∧ (∀ w ∈ pw_wl, w.before args s = true) ∧ va_K D vwCl (r_ty dA) s ∧ r_inj ad0 (r_lay 0).length ∧ r_inj ad1 (r_lay 1).length ∧ r_Sta 0 ad0 s ∧ (∀ q, r_A (r_lay 0).length ad0 q → s.heap.size ≤ q) ∧ (∀ q, r_A (r_lay 1).length ad1 q → s.heap.size ≤ q) ∧ ∀ q, r_A (r_lay 0).length ad0 q → ¬ r_A (r_lay 1).length ad1 q
def l_H (s : State) (D : va_G) (dA : Nat → ClassId) (ad0 ad1 : Nat → Nat) (a5 a6 : ab) (H : Heap) (locs : List Loc) : Prop :=
  ∃ σ0 σ1 : r_St, Inv0 a5 σ0 ∧ Inv1 a6 σ1 ∧ va_P D vwCl (r_wl ad0 dA σ0 (r_lay 0)) H ∧ va_P D vwCl (r_wl ad1 dA σ1 (r_lay 1)) H ∧ va_S (fun q : Nat => s.heap.size ≤ q) s.heap H locs
theorem r_wl_A {ad : Nat → Nat} {dA : Nat → ClassId} {σ : r_St} {L : List r_Kd} {k : Nat} {y : Nat × va_E} (h : (r_wl ad dA σ L)[k]? = some y) : r_A L.length ad y.1 := by
  obtain ⟨h1, h2⟩ := r_wl_of h
  exact ⟨k, h1, h2⟩
section LD
variable {p : Program} {l : Launch} {e : Env} {R : Room} {s : State} {m : MethodId} {args : Array Value} {below : List Frame} {meth : Method} {c : Code} {H : Heap} {locs : List Loc} {cells slots : Nat} {Q : State → Prop} {D : va_G} {dA : Nat → ClassId} {ad0 ad1 : Nat → Nat} {pc : Nat} {ls : Array Slot} {rest : List Value} {a a' a6 : ab}
theorem l_x5 {d n idx : Nat} {μ' : r_Mt} {as : List Value} {r : Value} (G : l_G p s m args c D dA ad0 ad1) (h : l_H s D dA ad0 ad1 a a6 H locs) (hd : decode code pc = .ok (.invokevirtual idx, 3)) (hc : r_CV R_law idx μ' n) (hci : some RX5 = some μ'.1.cls) (has : as.map (r_rv ad0) = as) (hr : r_rv ad0 r = r) (hn : as.length = n) (hls : ls.size = 4) (hw : (rest.map fun v => v.category).sum ≤ 8) (hlen : ((Value.ref 0 :: as).map fun v => v.category).sum ≤ μ'.2.2.1) (hfr : d + 1 ≤ R.frames) (hlo : 64 * (d + 1) ≤ R.locals) (hce : cells ≤ R.cells) (hsl : slots ≤ R.slots)
    (hM : ∀ σ, Inv0 a σ → RR 0 d μ' 0 (lv_args 0 (.ref 0 :: as)) [] σ (fun x σ' => x = some r ∧ Inv0 a' σ'))
    (kk : ∀ (H1 : Heap) (locs1 : List Loc), l_H s D dA ad0 ad1 a' a6 H1 locs1 → W p l e R s m args below meth c H1 locs1 cells slots Q (F0 m (pc + 3) ls (r :: rest))) :
    W p l e R s m args below meth c H locs cells slots Q (F0 m pc ls (as.reverse ++ .ref (ad0 0) :: rest)) := by
  obtain ⟨hx, hb, hml, hown, hts, hK, hi0, hi1, hSt, hA0, hA1, hap⟩ := G
  obtain ⟨σ0, σ1, I0, I1, hP0, hP1, hS⟩ := h
  have go := l_call (z := 0) (ad := ad0) (wo := r_wl ad1 dA σ1 (r_lay 1)) (l := l) (e := e) (R := R) (below := below) (meth := meth) (cells := cells) (slots := slots) (Q := Q) (ls := ls) (rest := rest) (as := as) hx hb hml hown hts hK hi0 hSt hP0 hP1 (fun k y hy q => hap y.1 q (r_wl_A hy)) hA0 hS hd hc rfl hci hn hls hw hlen hfr hlo hce hsl (hM σ0 I0) (fun x σ' H1 locs1 hx2 g1 g2 g3 => ?_)
  · rw [has] at go
    exact go
  · obtain ⟨rfl, I'⟩ := hx2
    have := kk H1 locs1 ⟨σ', σ1, I', I1, g1, g2, g3⟩
    show W p l e R s m args below meth c H1 locs1 cells slots Q (F0 m (pc + 3) ls (r_rv ad0 r :: rest))
    rw [hr]
    exact this
theorem l_x6 {d n idx : Nat} {μ' : r_Mt} {as : List Value} {r : Value} (G : l_G p s m args c D dA ad0 ad1) (h : l_H s D dA ad0 ad1 a' a H locs) (hd : decode code pc = .ok (.invokevirtual idx, 3)) (hc : r_CV R_law idx μ' n) (hci : some RX6 = some μ'.1.cls) (has : as.map (r_rv ad1) = as) (hr : r_rv ad1 r = r) (hn : as.length = n) (hls : ls.size = 4) (hw : (rest.map fun v => v.category).sum ≤ 8) (hlen : ((Value.ref 0 :: as).map fun v => v.category).sum ≤ μ'.2.2.1) (hfr : d + 1 ≤ R.frames) (hlo : 64 * (d + 1) ≤ R.locals) (hce : cells ≤ R.cells) (hsl : slots ≤ R.slots)
    (hM : ∀ σ, Inv1 a σ → RR 1 d μ' 0 (lv_args 0 (.ref 0 :: as)) [] σ (fun x σ' => x = some r ∧ Inv1 a6 σ'))
    (kk : ∀ (H1 : Heap) (locs1 : List Loc), l_H s D dA ad0 ad1 a' a6 H1 locs1 → W p l e R s m args below meth c H1 locs1 cells slots Q (F0 m (pc + 3) ls (r :: rest))) :
    W p l e R s m args below meth c H locs cells slots Q (F0 m pc ls (as.reverse ++ .ref (ad1 0) :: rest)) := by
  obtain ⟨hx, hb, hml, hown, hts, hK, hi0, hi1, hSt, hA0, hA1, hap⟩ := G
  obtain ⟨σ0, σ1, I0, I1, hP0, hP1, hS⟩ := h
  have go := l_call (z := 1) (ad := ad1) (wo := r_wl ad0 dA σ0 (r_lay 0)) (l := l) (e := e) (R := R) (below := below) (meth := meth) (cells := cells) (slots := slots) (Q := Q) (ls := ls) (rest := rest) (as := as) hx hb hml hown hts hK hi1 (fun z => absurd z (by decide)) hP1 hP0 (fun k y hy q => hap y.1 (r_wl_A hy) q) hA1 hS hd hc rfl hci hn hls hw hlen hfr hlo hce hsl (hM σ1 I1) (fun x σ' H1 locs1 hx2 g1 g2 g3 => ?_)
  · rw [has] at go
    exact go
  · obtain ⟨rfl, I'⟩ := hx2
    have := kk H1 locs1 ⟨σ0, σ', I0, I', g2, g1, g3⟩
    show W p l e R s m args below meth c H1 locs1 cells slots Q (F0 m (pc + 3) ls (r_rv ad1 r :: rest))
    rw [hr]
    exact this
end LD
