/-! ===== the law: a call of one of the two, the other untouched ===== -/
section LC
variable {p : Program} {l : Launch} {e : Env} {R : Room} {s : State} {m : MethodId} {args : Array Value} {below : List Frame} {meth : Method} {c : Code} {H : Heap} {locs : List Loc} {cells slots : Nat} {Q : State → Prop} {D : va_G} {dA : Nat → ClassId} {ad : Nat → Nat} {pc : Nat} {ls : Array Slot} {rest : List Value} {wo : va_W}
set_option maxHeartbeats 1000000 in
theorem l_call {z d n idx nL ci : Nat} {fs : List (Option Nat)} {μ' : r_Mt} {own : String} {cc : ByteArray} {as : List Value} {σ : r_St} {K : Option Value → r_St → Prop} (hx : p.tables.exec = Jvm.exec) (hb : c.code = cc) (hml : c.maxLocals = nL) (hown : s.vm.findClass own = some m.cls) (hts : ∀ w ∈ pw_wl, w.before args s = true) (hK : va_K D vwCl (r_ty dA) s) (hinj : r_inj ad (r_lay z).length) (hSt : r_Sta z ad s) (hP : va_P D vwCl (r_wl ad dA σ (r_lay z)) H) (hPo : va_P D vwCl wo H) (hap : ∀ (k : Nat) (y : Nat × va_E), wo[k]? = some y → ¬ r_A (r_lay z).length ad y.1) (hA : ∀ q, r_A (r_lay z).length ad q → s.heap.size ≤ q) (hS : va_S (fun q : Nat => s.heap.size ≤ q) s.heap H locs)
    (hd : decode cc pc = .ok (.invokevirtual idx, 3)) (hc : r_CV own idx μ' n) (hl : (r_lay z)[0]? = some (.inl (ci, fs))) (hci : (vwCl[ci]?).map (fun q => q.1) = some μ'.1.cls) (hn : as.length = n) (hls : ls.size = nL) (hw : (rest.map fun v => v.category).sum ≤ 8) (hlen : ((Value.ref 0 :: as).map fun v => v.category).sum ≤ μ'.2.2.1) (hfr : d + 1 ≤ R.frames) (hlo : 64 * (d + 1) ≤ R.locals) (hce : cells ≤ R.cells) (hsl : slots ≤ R.slots)
    (h : RR z d μ' 0 (lv_args 0 (.ref 0 :: as)) [] σ K)
    (kk : ∀ (r : Option Value) (σ' : r_St) (H1 : Heap) (locs1 : List Loc), K r σ' → va_P D vwCl (r_wl ad dA σ' (r_lay z)) H1 → va_P D vwCl wo H1 → va_S (fun q : Nat => s.heap.size ≤ q) s.heap H1 locs1 → W p l e R s m args below meth c H1 locs1 cells slots Q (F0 m (pc + 3) ls ((r.map (r_rv ad)).toList ++ rest))) :
    W p l e R s m args below meth c H locs cells slots Q (F0 m pc ls ((as.map (r_rv ad)).reverse ++ .ref (ad 0) :: rest)) := by
  obtain ⟨hm, h1, h2, h3⟩ := hc
  have hM := r_met hm.2.2.1 hlen h l D dA ad
  obtain ⟨g1, g2, g3, g4, g5, g6⟩ := id hm
  cases hq : vwCl[ci]? with
  | none => rw [hq] at hci; cases hci
  | some q =>
    rw [hq] at hci
    have hci' : q.1 = μ'.1.cls := Option.some.inj hci
    have hrecv := va_recv hK hP (ci := ci) (q0 := 0) hq (r_wl_at hl)
    rw [hci'] at hrecv
    have hpre : ∀ U : State, U.heap = H → s.WarmedH U.vm → r_Pre z D dA ad σ U := fun U hU hW => ⟨by rw [hU]; exact hP, va_K.moved hW.alike hK, hinj, r_Sta.moved hW.alike (fun x x1 _ => by rw [hU]; exact hS.2.1 x x1 (by omega)) hSt⟩
    have hr := va_runV (As := as.map (r_rv ad)) (b := ad 0) (C := μ'.1.cls) (n := n) (bytes := μ'.2.1) (maxL := μ'.2.2.1) (ret := μ'.2.2.2) (g := F0 m pc ls ((as.map (r_rv ad)).reverse ++ .ref (ad 0) :: rest)) (rest := rest) (R := R) (below := below) (meth := meth) (e := e) (locs := locs) (cells := cells) (slots := slots) ⟨hx, hb, hml, hown, hts⟩ hM ⟨⟨rfl, rfl, hfr, (by show 8 + (μ'.2.2.1 + 11) + 64 * d ≤ R.locals; omega), r_pays hts g1, List.mem_cons_self, hts _ g1, hts _ g2, g4, (fun sig h => by rw [h] at g5; exact (Option.some.inj g5).symm), hts _ h1⟩, hts _ h2, hts _ h3⟩ ⟨r_blind, hrecv, fun U hU hW => ⟨rfl, hpre U hU hW⟩⟩ rfl (by rw [List.length_map]; exact hn) hls rfl (lv_room hw) hd ⟨hce, hsl⟩
    intro T hT X
    obtain ⟨v, st₀, t, T', L, h0, X', hL', e1, e2, ⟨r, σ', hv, hk, hP', hz, hq'⟩, st⟩ := hr T hT X
    have hv' : v = r.map (r_rv ad) := Outcome.returned.inj hv
    subst hv'
    rw [h0] at hz hq'
    have hS' : va_S (fun q : Nat => s.heap.size ≤ q) s.heap T'.heap (locs ++ L) := by
      refine ⟨Nat.le_trans hS.1 (by rw [e1]; exact hz), fun x x1 x2 => ?_, fun x hx2 => ?_⟩
      · rw [e1, hq' x (Nat.lt_of_lt_of_le x1 hS.1) (fun z => x2 (hA x z))]
        exact hS.2.1 x x1 x2
      · rcases List.mem_append.mp hx2 with z | z
        · exact hS.2.2 x z
        · exact hA _ (hL' x z)
    obtain ⟨t2, a1, b1⟩ := kk r σ' T'.heap (locs ++ L) hk (by rw [e1]; exact hP') (hPo.kept (fun k y hy => by rw [e1]; exact hq' y.1 ((hPo k y hy).lt) (hap k y hy))) hS' T' rfl X'
    exact ⟨t2, st t2 a1, b1⟩
end LC
