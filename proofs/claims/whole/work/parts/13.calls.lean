/-! ===== calls ===== -/
def r_Pre (z : Nat) (D : va_G) (dA : Nat → ClassId) (ad : Nat → Nat) (σ : r_St) (U : State) : Prop :=
  va_P D vwCl (r_wl ad dA σ (r_lay z)) U.heap ∧ va_K D vwCl (r_ty dA) U ∧ r_inj ad (r_lay z).length ∧ r_Sta z ad U
def r_Qc (z : Nat) (D : va_G) (dA : Nat → ClassId) (ad : Nat → Nat) (Q : Option Value → r_St → Prop) : Array Value → State → Outcome → State → Prop := fun _ st o t =>
  ∃ (r : Option Value) (σ' : r_St), o = .returned (r.map (r_rv ad)) ∧ Q r σ' ∧ va_P D vwCl (r_wl ad dA σ' (r_lay z)) t.heap ∧ va_F (r_A (r_lay z).length ad) st t
def r_rm (d : Nat) : Room := { frames := d, cells := 0, slots := 0, locals := 64 * d }
def r_ws (μ : r_Mt) : List Cond := .code μ.1 μ.2.1 μ.2.2.1 μ.2.2.2 :: pw_wl
theorem r_sl_len (vs : List Value) : (lg_sl vs).length = (vs.map fun v => v.category).sum := by
  induction vs with
  | nil => rfl
  | cons a t ih =>
    have e : lg_sl (a :: t) = (if a.category = 2 then [.val a, .second] else [.val a]) ++ lg_sl t := rfl
    rw [e, List.length_append, ih]
    simp only [List.map_cons, List.sum_cons]
    rcases lv_cat a with h | h
    · rw [h]; simp
    · rw [h]; simp
theorem r_cats (ad : Nat → Nat) (vs : List Value) : ((vs.map (r_rv ad)).map fun v => v.category) = vs.map fun v => v.category := by
  rw [List.map_map]
  apply List.map_congr_left
  intro v _
  exact r_rv_cat ad v
theorem r_args (ad : Nat → Nat) : ∀ (vs : List Value) (i : Nat), lv_args i (vs.map (r_rv ad)) = (lv_args i vs).map (r_rl ad) := by
  intro vs
  induction vs with
  | nil => intro i; rfl
  | cons a t ih =>
    intro i
    simp only [List.map_cons, lv_args, r_rv_cat, ih]
    rfl
theorem r_Sta.moved {z : Nat} {ad : Nat → Nat} {u U : State} (hvm : u.vm.Alike U.vm) (hh : ∀ q : Nat, q < u.heap.size → ¬ r_A (r_lay z).length ad q → U.heap[q]? = u.heap[q]?) (h : r_Sta z ad u) : r_Sta z ad U :=
  fun e => ⟨((h e).1.moved hvm).kept hh, ((h e).2.moved hvm).kept hh⟩
section RM
variable {z d : Nat} {μ : r_Mt} {σ : r_St} {Q : Option Value → r_St → Prop}
set_option maxHeartbeats 1000000 in
theorem r_met {as : List Value} (hpl : plainName μ.1.cls = true) (hlen : (as.map fun v => v.category).sum ≤ μ.2.2.1) (h : RR z d μ 0 (lv_args 0 as) [] σ Q) (l : Launch) (D : va_G) (dA : Nat → ClassId) (ad : Nat → Nat) :
    Met l μ.1 (r_ws μ) (r_rm d) (va_Pc (as.map (r_rv ad)) (r_Pre z D dA ad σ)) (r_Qc z D dA ad Q) 0 0 (r_A (r_lay z).length ad) := by
  refine Met.ofW (cc := μ.2.1) (maxL := μ.2.2.1) (ret := μ.2.2.2) hpl rfl ?_
  intro p e s m args below meth c s₁ B hml hv
  obtain ⟨rfl, hP, hK, hinj, hSt⟩ := hv
  have hts := atoms_spec (ws := r_ws μ) B.pre
  have hown : s.vm.findClass μ.1.cls = some m.cls := findClass_of_methodNamed B.named
  have hlocks := B.notSynchronized
  have hl := lv_entry (as.map (r_rv ad)) (n := μ.2.2.1) (by rw [r_sl_len, r_cats]; exact hlen)
  rw [lg_entry_eq]
  generalize (lg_sl (as.map (r_rv ad)) ++ List.replicate (μ.2.2.1 - (lg_sl (as.map (r_rv ad))).length) Slot.unset).toArray = ls at hl ⊢
  rw [r_args] at hl
  refine h p l e _ s m _ below meth c s.heap [] 0 0 _ D dA ad ls ⟨B.exec, B.bytes, hml, hown, fun w hw => hts w (List.mem_cons_of_mem _ hw), hK, hinj, hSt, Nat.le_refl _, Nat.le_refl _, Nat.le_refl _, Nat.le_refl _⟩ ⟨hP, va_S.rf⟩ hl ?_
  intro r σ' H' locs' pc' ls' hq hH hret
  have hx := B.exec
  have hb := B.bytes
  have hr := B.returns
  have fin : ∀ t : State, t.heap = H' → s.WarmedH t.vm → r_Qc z D dA ad Q (as.map (r_rv ad)).toArray s (.returned (r.map (r_rv ad))) t := fun t ht _ => ⟨r, σ', rfl, hq, by rw [ht]; exact hH.1, hH.2.F ht⟩
  match r, hret, fin with
  | none, hret, fin => exact W.vret hx hb (hr.trans hret.2) fin hH.2.2.2 hret.1
  | some (.int v), hret, fin =>
    rcases hret.2 with h1 | ⟨h1, h2⟩
    · exact W.iret hx hb (hr.trans h1) fin hH.2.2.2 hret.1
    · refine W.zret (ty := .boolean) hx hb (hr.trans h1) ?_ fin hH.2.2.2 hret.1
      rcases h2 with h2 | h2 <;> subst h2 <;> decide
  | some (.long v), hret, fin => exact W.lret hx hb (hr.trans hret.2) fin hH.2.2.2 hret.1
  | some (.ref k), hret, fin =>
    obtain ⟨h1, n, h2⟩ := hret
    exact W.aret hx hb (hr.trans h2) (Or.inl ⟨n, rfl⟩) (Or.inr ⟨_, rfl⟩) fin hH.2.2.2 h1
  | some .null, hret, fin =>
    obtain ⟨h1, n, h2⟩ := hret
    exact W.aret hx hb (hr.trans h2) (Or.inl ⟨n, rfl⟩) (Or.inl rfl) fin hH.2.2.2 h1
  | some (.float _), hret, _ => exact absurd hret (fun h => h)
  | some (.double _), hret, _ => exact absurd hret (fun h => h)
  | some (.retAddr _), hret, _ => exact absurd hret (fun h => h)
end RM
/-- the words of a call: of an object's method, of a static one, of a nest mate's static one -/
def r_CM (μ' : r_Mt) (n : Nat) : Prop := Cond.code μ'.1 μ'.2.1 μ'.2.2.1 μ'.2.2.2 ∈ pw_wl ∧ Cond.initialized μ'.1.cls ∈ pw_wl ∧ plainName μ'.1.cls = true ∧ (μ'.1.cls ≠ "java/lang/invoke/MethodHandle" ∧ μ'.1.cls ≠ "java/lang/invoke/VarHandle") ∧ (parseMethodDescriptor μ'.1.desc).map (fun d => d.parameters.length) = some n ∧ μ'.2.2.1 ≤ 45
def r_CV (own : String) (idx : Nat) (μ' : r_Mt) (n : Nat) : Prop := r_CM μ' n ∧ Cond.methodLink own idx μ'.1 ∈ pw_wl ∧ Cond.instanceMethod μ'.1 ∈ pw_wl ∧ Cond.selects μ'.1.cls μ'.1 μ'.1 ∈ pw_wl
def r_CS (own : String) (idx : Nat) (μ' : r_Mt) (n : Nat) : Prop := r_CM μ' n ∧ Cond.methodLink own idx μ'.1 ∈ pw_wl ∧ Cond.static μ'.1 ∈ pw_wl
def r_CN (own : String) (idx : Nat) (μ' : r_Mt) (n : Nat) : Prop := r_CM μ' n ∧ (∃ host, Cond.methodLinkNest own idx μ'.1 host ∈ pw_wl) ∧ Cond.static μ'.1 ∈ pw_wl
section RK
variable {z d d' : Nat} {μ μ' : r_Mt} {pc idx n : Nat} {lv : r_Lv} {st rest : List Value} {σ : r_St} {Q : Option Value → r_St → Prop}
/-- behind a call -/
theorem r_back {p : Program} {l : Launch} {e : Env} {R : Room} {s : State} {m : MethodId} {args : Array Value} {below : List Frame} {meth : Method} {c : Code} {H : Heap} {locs : List Loc} {cells slots : Nat} {Z : State → Prop} {D : va_G} {dA : Nat → ClassId} {ad : Nat → Nat} {ls : Array Slot} {st0 : List Value} {a : Array Value}
    (hC : r_Cx z d μ p R s m args c cells slots D dA ad) (hH : r_Hp z D dA ad σ s H locs) (hL : lv_has ls μ.2.2.1 (lv.map (r_rl ad)))
    (hF : ∀ (r : Option Value) (σ' : r_St) (H' : Heap) (locs' : List Loc) (pc' : Nat) (ls' : Array Slot), Q r σ' → r_Hp z D dA ad σ' s H' locs' → r_ret μ pc' r → W p l e R s m args below meth c H' locs' cells slots Z (F0 m pc' ls' (r.toList.map (r_rv ad))))
    (hr : va_Run p l e R s m args below meth c H locs cells slots 0 0 (F0 m pc ls st0) (rest.map (r_rv ad)) (r_Qc z D dA ad (fun r σ' => RR z d μ (pc + 3) lv (r.toList ++ rest) σ' Q) a) (r_A (r_lay z).length ad)) : W p l e R s m args below meth c H locs cells slots Z (F0 m pc ls st0) := by
  intro T hT X
  obtain ⟨v, st₀, t, T', L, h0, X', hL', e1, e2, ⟨r, σ', hv, hk, hP, hz, hq⟩, st⟩ := hr T hT X
  have hv' : v = r.map (r_rv ad) := Outcome.returned.inj hv
  subst hv'
  rw [h0] at hz hq
  have hS : va_S (r_A (r_lay z).length ad) s.heap T'.heap (locs ++ L) := by
    refine ⟨Nat.le_trans hH.2.1 (by rw [e1]; exact hz), fun q h1 h2 => ?_, fun q hq2 => ?_⟩
    · rw [e1, hq q (Nat.lt_of_lt_of_le h1 hH.2.1) h2]
      exact hH.2.2.1 q h1 h2
    · rcases List.mem_append.mp hq2 with h | h
      · exact hH.2.2.2 q h
      · exact hL' q h
  obtain ⟨t2, a1, b1⟩ := hk p l e R s m args below meth c T'.heap (locs ++ L) cells slots Z D dA ad ls hC ⟨by rw [e1]; exact hP, hS⟩ hL hF T' rfl X'
  have e3 : (r.map (r_rv ad)).toList ++ rest.map (r_rv ad) = (r.toList ++ rest).map (r_rv ad) := by cases r <;> simp
  refine ⟨t2, st t2 ?_, b1⟩
  show Steps p.tables e below (T'.setTop (F0 m (pc + 3) ls ((r.map (r_rv ad)).toList ++ rest.map (r_rv ad)))) t2
  rw [e3]
  exact a1
theorem r_blind {D : va_G} {dA : Nat → ClassId} {ad : Nat → Nat} {av : List Value} : FrameBlind (va_Pc av (r_Pre z D dA ad σ)) := by
  intro a U g mk h
  obtain ⟨h1, h2, h3, h4, h5⟩ := h
  exact ⟨h1, h2, va_K.moved (u := U) (U := U.calling g mk a) (Vm.Alike.refl U.vm) h3, h4, r_Sta.moved (u := U) (U := U.calling g mk a) (Vm.Alike.refl U.vm) (fun _ _ _ => rfl) h5⟩
theorem r_pre {p : Program} {R : Room} {s : State} {m : MethodId} {args : Array Value} {c : Code} {H : Heap} {locs : List Loc} {cells slots : Nat} {D : va_G} {dA : Nat → ClassId} {ad : Nat → Nat} (hC : r_Cx z d μ p R s m args c cells slots D dA ad) (hH : r_Hp z D dA ad σ s H locs) {U : State} (hU : U.heap = H) (hW : s.WarmedH U.vm) : r_Pre z D dA ad σ U := by
  obtain ⟨hx, hb, hml, hown, hts, hK, hinj, hSt, hC7⟩ := hC
  refine ⟨by rw [hU]; exact hH.1, va_K.moved hW.alike hK, hinj, r_Sta.moved hW.alike (fun q h1 h2 => ?_) hSt⟩
  rw [hU]
  exact hH.2.2.1 q h1 h2
theorem r_pays {args : Array Value} {s : State} (hts : ∀ w ∈ pw_wl, w.before args s = true) (hc : Cond.code μ'.1 μ'.2.1 μ'.2.2.1 μ'.2.2.2 ∈ pw_wl) : ∀ w ∈ r_ws μ', ∀ (a' : Array Value) (U : State), s.WarmedH U.vm → w.before a' U = true := by
  intro w hw a' U hW
  have hm : w ∈ pw_wl := by
    rcases List.mem_cons.mp hw with h | h
    · rw [h]; exact hc
    · exact h
  exact pw_warm hW (pw_good hm) (hts w hm)
theorem r_cb {p : Program} {R : Room} {s : State} {m : MethodId} {args : Array Value} {c : Code} {cells slots : Nat} {D : va_G} {dA : Nat → ClassId} {ad : Nat → Nat} (hC : r_Cx z d μ p R s m args c cells slots D dA ad) (hdd : d' + 1 ≤ d) (hm : r_CM μ' n) (hl : Cond.methodLink μ.1.cls idx μ'.1 ∈ pw_wl) : CallB R s args μ.1.cls idx μ'.1 μ'.2.1 μ'.2.2.1 μ'.2.2.2 (r_ws μ') (r_rm d') 0 0 n := by
  obtain ⟨hx, hb, hml, hown, hts, hK, hinj, hSt, hfr, hlo, hce, hsl⟩ := hC
  obtain ⟨h1, h2, h3, h4, h5, h6⟩ := hm
  refine ⟨rfl, rfl, ?_, ?_, r_pays hts h1, List.mem_cons_self, hts _ h1, hts _ h2, h4, fun sig h => ?_, hts _ hl⟩
  · show d' + 1 ≤ R.frames
    omega
  · show 8 + (μ'.2.2.1 + 11) + 64 * d' ≤ R.locals
    omega
  · rw [h] at h5
    exact (Option.some.inj h5).symm
set_option maxHeartbeats 1000000 in
theorem RR.cV {ci k : Nat} {fs : List (Option Nat)} {as : List Value} (hd : decode μ.2.1 pc = .ok (.invokevirtual idx, 3)) (hc : r_CV μ.1.cls idx μ' n) (hl : (r_lay z)[k]? = some (.inl (ci, fs))) (hci : (vwCl[ci]?).map (fun q => q.1) = some μ'.1.cls) (hst : as.reverse ++ .ref k :: rest = st) (hn : as.length = n) (hw : (rest.map fun v => v.category).sum ≤ 8) (hlen : ((Value.ref k :: as).map fun v => v.category).sum ≤ μ'.2.2.1) (hdd : d' + 1 ≤ d)
    (h : RR z d' μ' 0 (lv_args 0 (.ref k :: as)) [] σ (fun r σ' => RR z d μ (pc + 3) lv (r.toList ++ rest) σ' Q)) : RR z d μ pc lv st σ Q := by
  intro p l e R s m args below meth c H locs cells slots Z D dA ad ls hC hH hL hF
  obtain ⟨hx, hb, hml, hown, hts, hK, hC6⟩ := id hC
  obtain ⟨hm, h1, h2, h3⟩ := hc
  have hM := r_met hm.2.2.1 hlen h l D dA ad
  subst hst
  cases hq : vwCl[ci]? with
  | none => rw [hq] at hci; cases hci
  | some q =>
    rw [hq] at hci
    have hci' : q.1 = μ'.1.cls := Option.some.inj hci
    have hrecv := va_recv hK hH.1 (ci := ci) (q0 := k) hq (r_wl_at hl)
    rw [hci'] at hrecv
    refine r_back hC hH hL hF (va_runV (As := as.map (r_rv ad)) (b := ad k) (C := μ'.1.cls) ⟨hx, hb, hml, hown, hts⟩ hM ⟨r_cb hC hdd hm h1, hts _ h2, hts _ h3⟩ ⟨r_blind, hrecv, fun U hU hW => ⟨rfl, r_pre hC hH hU hW⟩⟩ rfl ?_ hL.1 ?_ (lv_room (by rw [r_cats]; exact hw)) hd ⟨hC.2.2.2.2.2.2.2.2.2.2.1, hC.2.2.2.2.2.2.2.2.2.2.2⟩)
    · rw [List.length_map]; exact hn
    · simp [List.map_append, List.map_reverse, r_rv]
set_option maxHeartbeats 1000000 in
theorem RR.cS {as : List Value} (hd : decode μ.2.1 pc = .ok (.invokestatic idx, 3)) (hc : r_CS μ.1.cls idx μ' n) (hst : as.reverse ++ rest = st) (hn : as.length = n) (hw : (rest.map fun v => v.category).sum ≤ 8) (hlen : (as.map fun v => v.category).sum ≤ μ'.2.2.1) (hdd : d' + 1 ≤ d)
    (h : RR z d' μ' 0 (lv_args 0 as) [] σ (fun r σ' => RR z d μ (pc + 3) lv (r.toList ++ rest) σ' Q)) : RR z d μ pc lv st σ Q := by
  intro p l e R s m args below meth c H locs cells slots Z D dA ad ls hC hH hL hF
  obtain ⟨hx, hb, hml, hown, hts, hK, hC6⟩ := id hC
  obtain ⟨hm, h1, h2⟩ := hc
  have hM := r_met hm.2.2.1 hlen h l D dA ad
  subst hst
  refine r_back hC hH hL hF (va_runS (As := as.map (r_rv ad)) ⟨hx, hb, hml, hown, hts⟩ hM ⟨r_cb hC hdd hm h1, hts _ h2⟩ ⟨r_blind, fun U hU hW => ⟨rfl, r_pre hC hH hU hW⟩⟩ rfl ?_ hL.1 ?_ (lv_room (by rw [r_cats]; exact hw)) hd ⟨hC.2.2.2.2.2.2.2.2.2.2.1, hC.2.2.2.2.2.2.2.2.2.2.2⟩)
  · rw [List.length_map]; exact hn
  · simp [List.map_append, List.map_reverse]
set_option maxHeartbeats 1000000 in
theorem RR.cN {as : List Value} (hd : decode μ.2.1 pc = .ok (.invokestatic idx, 3)) (hc : r_CN μ.1.cls idx μ' n) (hst : as.reverse ++ rest = st) (hn : as.length = n) (hw : (rest.map fun v => v.category).sum ≤ 8) (hlen : (as.map fun v => v.category).sum ≤ μ'.2.2.1) (hdd : d' + 1 ≤ d)
    (h : RR z d' μ' 0 (lv_args 0 as) [] σ (fun r σ' => RR z d μ (pc + 3) lv (r.toList ++ rest) σ' Q)) : RR z d μ pc lv st σ Q := by
  intro p l e R s m args below meth c H locs cells slots Z D dA ad ls hC hH hL hF
  obtain ⟨hx, hb, hml, hown, hts, hK, hinj, hSt, hfr, hlo, hce, hsl⟩ := id hC
  obtain ⟨hm, ⟨host, h1⟩, h2⟩ := hc
  have hM := r_met hm.2.2.1 hlen h l D dA ad
  subst hst
  obtain ⟨g1, g2, g3, g4, g5, g6⟩ := hm
  refine r_back hC hH hL hF (va_runSN (As := as.map (r_rv ad)) (host := host) (n := n) ⟨hx, hb, hml, hown, hts⟩ hM ⟨⟨⟨rfl, rfl, ?_, ?_, r_pays hts g1, List.mem_cons_self⟩, hts _ g1, hts _ g2, g4, fun sig h => ?_, hts _ h1⟩, hts _ h2, trivial⟩ ⟨r_blind, fun U hU hW => ⟨rfl, r_pre hC hH hU hW⟩⟩ rfl ?_ hL.1 ?_ (lv_room (by rw [r_cats]; exact hw)) hd ⟨hce, hsl⟩)
  · show d' + 1 ≤ R.frames
    omega
  · show 8 + (μ'.2.2.1 + 11) + 64 * d' ≤ R.locals
    omega
  · rw [h] at g5
    exact (Option.some.inj g5).symm
  · rw [List.length_map]; exact hn
  · simp [List.map_append, List.map_reverse]
end RK
