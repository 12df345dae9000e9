/-! ===== fields, arrays, constants, division, switches, returns ===== -/
def r_FL (own : String) (idx ci j : Nat) : Prop := ∃ (C : String) (T : u_T) (N : Nat), vwCl[ci]? = some (C, T, N) ∧ j < N ∧ Cond.fieldLink own idx (T j).1 (T j).2.1 (T j).2.2.1 ∈ pw_wl ∧ ∀ w ∈ u_ws C T N, w ∈ pw_wl
def r_FP (own : String) (idx ci j : Nat) (ty : FieldType) : Prop := ∃ (C : String) (T : u_T) (N : Nat) (ty0 : Nat → FieldType), vwCl[ci]? = some (C, T, N) ∧ j < N ∧ Cond.fieldLink own idx (T j).1 (T j).2.1 (T j).2.2.1 ∈ pw_wl ∧ (∀ w ∈ u_ws C T N, w ∈ pw_wl) ∧
  (∀ k, k < N → parseFieldDescriptor (T k).2.2.1 = some (ty0 k)) ∧ (∀ a, a < N → ∀ b, b < N → a ≠ b → (T a).2.1 ≠ (T b).2.1) ∧ (T j).2.2.2 = false ∧ parseFieldDescriptor (T j).2.2.1 = some ty
theorem r_Hp.put {z : Nat} {D : va_G} {dA : Nat → ClassId} {ad : Nat → Nat} {σ σ' : r_St} {s : State} {H1 : Heap} {locs1 : List Loc} {k : Nat} {q : r_Kd} {e : va_E} (h : (r_lay z)[k]? = some q) (he : r_en ad dA σ' k q = e) (ho : ∀ k' q', ¬ k' = k → (r_lay z)[k']? = some q' → r_en ad dA σ' k' q' = r_en ad dA σ k' q') (hP : va_P D vwCl ((r_wl ad dA σ (r_lay z)).set k (ad k, e)) H1) (hS : va_S (r_A (r_lay z).length ad) s.heap H1 locs1) : r_Hp z D dA ad σ' s H1 locs1 := ⟨by rw [← r_wl_set h he ho]; exact hP, hS⟩
section RC
variable {z d : Nat} {μ : r_Mt} {pc : Nat} {lv : r_Lv} {st rest : List Value} {σ : r_St} {Q : Option Value → r_St → Prop}
theorem RR.getI {idx ci j k : Nat} {fs : List (Option Nat)} (hd : decode μ.2.1 pc = .ok (.getfield idx, 3)) (hf : r_FL μ.1.cls idx ci j) (hl : (r_lay z)[k]? = some (.inl (ci, fs))) (hv : fs[j]? = some none) (h : RR z d μ (pc + 3) lv (.int (σ.1 k j) :: rest) σ Q) : RR z d μ pc lv (.ref k :: rest) σ Q := by
  intro p l e R s m args below meth c H locs cells slots Z D dA ad ls hC hH hL hF
  obtain ⟨hx, hb, hml, hown, hts, hK, hC7⟩ := id hC
  obtain ⟨C, T, N, h1, h2, h3, h4⟩ := hf
  refine va_get (D := D) (ci := ci) (v := .int (σ.1 k j)) (C := C) (T := T) (N := N) hx hb hts h4 hown hK hH.1 k (r_wl_at hl) h1 j h2 (hts _ h3) (fun _ h9 => h9) ?_ hd (h p l e R s m args below meth c H locs cells slots Z D dA ad ls hC hH hL hF)
  rw [r_fs_at fs 0 j hv, Nat.zero_add]
  rfl
theorem RR.getR {idx ci j k r : Nat} {fs : List (Option Nat)} (hd : decode μ.2.1 pc = .ok (.getfield idx, 3)) (hf : r_FL μ.1.cls idx ci j) (hl : (r_lay z)[k]? = some (.inl (ci, fs))) (hv : fs[j]? = some (some r)) (h : RR z d μ (pc + 3) lv (.ref r :: rest) σ Q) : RR z d μ pc lv (.ref k :: rest) σ Q := by
  intro p l e R s m args below meth c H locs cells slots Z D dA ad ls hC hH hL hF
  obtain ⟨hx, hb, hml, hown, hts, hK, hC7⟩ := id hC
  obtain ⟨C, T, N, h1, h2, h3, h4⟩ := hf
  refine va_get (D := D) (ci := ci) (v := .ref (ad r)) (C := C) (T := T) (N := N) hx hb hts h4 hown hK hH.1 k (r_wl_at hl) h1 j h2 (hts _ h3) (fun _ h9 => h9) ?_ hd (h p l e R s m args below meth c H locs cells slots Z D dA ad ls hC hH hL hF)
  rw [r_fs_at fs 0 j hv]
  rfl
theorem RR.putT {idx ci j k : Nat} {fs : List (Option Nat)} {ty : FieldType} {v : Int32} (hd : decode μ.2.1 pc = .ok (.putfield idx, 3)) (hf : r_FP μ.1.cls idx ci j ty) (hl : (r_lay z)[k]? = some (.inl (ci, fs))) (hv : fs[j]? = some none) (hn : narrow ty (.int v) = .int v) (hfit : fits ty (.int v) = true) (h : RR z d μ (pc + 3) lv rest (wI σ k j v) Q) : RR z d μ pc lv (.int v :: .ref k :: rest) σ Q := by
  intro p l e R s m args below meth c H locs cells slots Z D dA ad ls hC hH hL hF
  obtain ⟨hx, hb, hml, hown, hts, hK, hinj, hC7⟩ := id hC
  obtain ⟨C, T, N, ty0, h1, h2, h3, h4, h5, h6, h7, h8⟩ := hf
  refine va_put (D := D) (ci := ci) (v := .int v) (ty := ty) (C := C) (T := T) (N := N) hx hb hts h4 ty0 h5 h6 hown hK hH.1 (r_D hinj) hH.2 k (r_wl_at hl) h1 j h2 (hts _ h3) (fun _ h9 => h9) h7 h8 hn hfit (by rw [r_fs_len]; exact (List.getElem?_eq_some_iff.mp hv).1) hd (fun H1 locs1 hP1 hD1 hS1 => ?_)
  refine h p l e R s m args below meth c H1 locs1 cells slots Z D dA ad ls hC (r_Hp.put hl ?_ (fun k' q' hk _ => r_en_wI k' q' hk) hP1 hS1) hL hF
  show (Sum.inr (ci, r_fs ad ((wI σ k j v).1 k) 0 fs) : va_E) = Sum.inr (ci, (r_fs ad (σ.1 k) 0 fs).set j (.int v))
  rw [wI_at, r_fs_set fs 0 j hv, Nat.zero_add]
theorem RR.putI {idx ci j k : Nat} {fs : List (Option Nat)} {v : Int32} (hd : decode μ.2.1 pc = .ok (.putfield idx, 3)) (hf : r_FP μ.1.cls idx ci j .int) (hl : (r_lay z)[k]? = some (.inl (ci, fs))) (hv : fs[j]? = some none) (h : RR z d μ (pc + 3) lv rest (wI σ k j v) Q) : RR z d μ pc lv (.int v :: .ref k :: rest) σ Q := RR.putT hd hf hl hv rfl rfl h
theorem RR.iald {k n j : Nat} {es : List Nat} {i : Int32} (hd : decode μ.2.1 pc = .ok (.iaload, 1)) (hl : (r_lay z)[k]? = some (.inr (0, n, es))) (hi : i = nI j) (hj : j < n) (h : RR z d μ (pc + 1) lv (.int (σ.1 k j) :: rest) σ Q) (hn : n < 2147483648 := by decide) : RR z d μ pc lv (.int i :: .ref k :: rest) σ Q := by
  intro p l e R s m args below meth c H locs cells slots Z D dA ad ls hC hH hL hF
  obtain ⟨hx, hb, hml, hown, hts, hK, hinj, hC7⟩ := id hC
  subst hi
  refine va_iald (D := D) (f := σ.1 k) hx hb hK hH.1 k 0 (r_wl_at hl) rfl (vp_in_nI hj hn) hd ?_
  rw [nI_clamp (by omega)]
  exact h p l e R s m args below meth c H locs cells slots Z D dA ad ls hC hH hL hF
theorem RR.iast {k n j : Nat} {es : List Nat} {i x : Int32} (hd : decode μ.2.1 pc = .ok (.iastore, 1)) (hl : (r_lay z)[k]? = some (.inr (0, n, es))) (hi : i = nI j) (hj : j < n) (h : RR z d μ (pc + 1) lv rest (wI σ k j x) Q) (hn : n < 2147483648 := by decide) : RR z d μ pc lv (.int x :: .int i :: .ref k :: rest) σ Q := by
  intro p l e R s m args below meth c H locs cells slots Z D dA ad ls hC hH hL hF
  obtain ⟨hx, hb, hml, hown, hts, hK, hinj, hC7⟩ := id hC
  subst hi
  refine va_iast (D := D) (f := σ.1 k) hx hb hK hH.1 (r_D hinj) hH.2 k 0 (r_wl_at hl) rfl (vp_in_nI hj hn) hd (fun H1 locs1 hP1 hD1 hS1 => ?_)
  rw [nI_clamp (by omega)] at hP1
  refine h p l e R s m args below meth c H1 locs1 cells slots Z D dA ad ls hC (r_Hp.put hl ?_ (fun k' q' hk _ => r_en_wI k' q' hk) hP1 hS1) hL hF
  show (Sum.inl (dA 0, n, Sum.inl ((wI σ k j x).1 k)) : va_E) = Sum.inl (dA 0, n, Sum.inl (upd (σ.1 k) j x))
  rw [wI_at]
theorem RR.bald {k n j : Nat} {es : List Nat} {i : Int32} (hd : decode μ.2.1 pc = .ok (.baload, 1)) (hl : (r_lay z)[k]? = some (.inr (2, n, es))) (hi : i = nI j) (hj : j < n) (h : RR z d μ (pc + 1) lv (.int (σ.1 k j) :: rest) σ Q) (hn : n < 2147483648 := by decide) : RR z d μ pc lv (.int i :: .ref k :: rest) σ Q := by
  intro p l e R s m args below meth c H locs cells slots Z D dA ad ls hC hH hL hF
  obtain ⟨hx, hb, hml, hown, hts, hK, hinj, hC7⟩ := id hC
  subst hi
  refine va_zald (D := D) (f := σ.1 k) hx hb hK hH.1 k 2 (r_wl_at hl) rfl (vp_in_nI hj hn) hd ?_
  rw [nI_clamp (by omega)]
  exact h p l e R s m args below meth c H locs cells slots Z D dA ad ls hC hH hL hF
theorem RR.bast {k n j : Nat} {es : List Nat} {i x : Int32} (hd : decode μ.2.1 pc = .ok (.bastore, 1)) (hl : (r_lay z)[k]? = some (.inr (2, n, es))) (hi : i = nI j) (hj : j < n) (hx2 : vp_nar .boolean x = x) (h : RR z d μ (pc + 1) lv rest (wI σ k j x) Q) (hn : n < 2147483648 := by decide) : RR z d μ pc lv (.int x :: .int i :: .ref k :: rest) σ Q := by
  intro p l e R s m args below meth c H locs cells slots Z D dA ad ls hC hH hL hF
  obtain ⟨hx, hb, hml, hown, hts, hK, hinj, hC7⟩ := id hC
  subst hi
  refine va_zast (D := D) (f := σ.1 k) hx hb hK hH.1 (r_D hinj) hH.2 k 2 (r_wl_at hl) rfl (vp_in_nI hj hn) hd (fun H1 locs1 hP1 hD1 hS1 => ?_)
  rw [nI_clamp (by omega), hx2] at hP1
  refine h p l e R s m args below meth c H1 locs1 cells slots Z D dA ad ls hC (r_Hp.put hl ?_ (fun k' q' hk _ => r_en_wI k' q' hk) hP1 hS1) hL hF
  show (Sum.inl (dA 2, n, Sum.inl ((wI σ k j x).1 k)) : va_E) = Sum.inl (dA 2, n, Sum.inl (upd (σ.1 k) j x))
  rw [wI_at]
theorem RR.lald {k n j : Nat} {es : List Nat} {i : Int32} (hd : decode μ.2.1 pc = .ok (.laload, 1)) (hl : (r_lay z)[k]? = some (.inr (1, n, es))) (hi : i = nI j) (hj : j < n) (h : RR z d μ (pc + 1) lv (.long (σ.2 j) :: rest) σ Q) (hn : n < 2147483648 := by decide) : RR z d μ pc lv (.int i :: .ref k :: rest) σ Q := by
  intro p l e R s m args below meth c H locs cells slots Z D dA ad ls hC hH hL hF
  obtain ⟨hx, hb, hml, hown, hts, hK, hinj, hC7⟩ := id hC
  subst hi
  refine va_lald (D := D) (f := σ.2) hx hb hK hH.1 k 1 (r_wl_at hl) rfl (vp_in_nI hj hn) hd ?_
  rw [nI_clamp (by omega)]
  exact h p l e R s m args below meth c H locs cells slots Z D dA ad ls hC hH hL hF
/-- the one row of longs: the class's cell 45 -/
theorem RR.last {j : Nat} {i : Int32} {x : Int64} (hd : decode μ.2.1 pc = .ok (.lastore, 1)) (hi : i = nI j) (hj : j < 6) (h : RR 0 d μ (pc + 1) lv rest (wL σ j x) Q) : RR 0 d μ pc lv (.long x :: .int i :: .ref 45 :: rest) σ Q := by
  intro p l e R s m args below meth c H locs cells slots Z D dA ad ls hC hH hL hF
  obtain ⟨hx, hb, hml, hown, hts, hK, hinj, hC7⟩ := id hC
  subst hi
  have hl : (r_lay 0)[45]? = some (.inr (1, 6, [])) := rfl
  refine va_last (D := D) (f := σ.2) hx hb hK hH.1 (r_D hinj) hH.2 45 1 (r_wl_at hl) rfl (vp_in_nI hj (by decide)) hd (fun H1 locs1 hP1 hD1 hS1 => ?_)
  rw [nI_clamp (by omega)] at hP1
  refine h p l e R s m args below meth c H1 locs1 cells slots Z D dA ad ls hC (r_Hp.put hl rfl ?_ hP1 hS1) hL hF
  intro k' q' hk hq
  have no1 : ∀ k' n es, (r_lay 0)[k']? = some (Sum.inr (1, n, es)) → k' = 45 := by
    intro k' n es h
    have hlt : k' < 59 := (List.getElem?_eq_some_iff.mp h).1
    have all : ∀ i : Nat, i < 59 → (match (r_lay 0)[i]? with | some (.inr (1, _, _)) => decide (i = 45) | _ => true) = true := by decide +kernel
    have h2 := all k' hlt
    rw [h] at h2
    simpa using h2
  unfold r_en
  split <;> first | rfl | (exact absurd (no1 k' _ _ hq) hk)
theorem RR.aald {k n j r : Nat} {es : List Nat} {i : Int32} (hd : decode μ.2.1 pc = .ok (.aaload, 1)) (hl : (r_lay z)[k]? = some (.inr (3, n, es))) (hi : i = nI j) (hj : j < n) (hr : es[j]? = some r) (h : RR z d μ (pc + 1) lv (.ref r :: rest) σ Q) (hn : n < 2147483648 := by decide) : RR z d μ pc lv (.int i :: .ref k :: rest) σ Q := by
  intro p l e R s m args below meth c H locs cells slots Z D dA ad ls hC hH hL hF
  obtain ⟨hx, hb, hml, hown, hts, hK, hinj, hC7⟩ := id hC
  subst hi
  refine va_aldq (D := D) (f := fun j => (es[j]?).map ad) hx hb hK hH.1 k 3 (r_wl_at hl) rfl (vp_in_nI hj hn) hd ?_
  rw [nI_clamp (by omega)]
  have e1 : va_rf ((es[j]?).map ad) = .ref (ad r) := by rw [hr]; rfl
  show W p l e R s m args below meth c H locs cells slots Z (F0 m (pc + 1) ls (va_rf ((es[j]?).map ad) :: rest.map (r_rv ad)))
  rw [e1]
  exact h p l e R s m args below meth c H locs cells slots Z D dA ad ls hC hH hL hF
theorem RR.ldc2 {idx : Nat} {v : Int64} (hd : decode μ.2.1 pc = .ok (.ldc2_w idx, 3)) (hw : Cond.constantLong μ.1.cls idx v ∈ pw_wl) (h : RR z d μ (pc + 3) lv (.long v :: st) σ Q) : RR z d μ pc lv st σ Q := by
  intro p l e R s m args below meth c H locs cells slots Z D dA ad ls hC hH hL hF
  obtain ⟨hx, hb, hml, hown, hts, hC6⟩ := id hC
  exact lv_ldc2 hx hb hown (hts _ hw) hd (h p l e R s m args below meth c H locs cells slots Z D dA ad ls hC hH hL hF)
theorem RR.ldcw {idx : Nat} {v : Int32} (hd : decode μ.2.1 pc = .ok (.ldc_w idx, 3)) (hw : Cond.constant μ.1.cls idx v ∈ pw_wl) (h : RR z d μ (pc + 3) lv (.int v :: st) σ Q) : RR z d μ pc lv st σ Q := by
  intro p l e R s m args below meth c H locs cells slots Z D dA ad ls hC hH hL hF
  obtain ⟨hx, hb, hml, hown, hts, hC6⟩ := id hC
  exact lv_ldcw hx hb hown (hts _ hw) hd (h p l e R s m args below meth c H locs cells slots Z D dA ad ls hC hH hL hF)
theorem RR.ldc {idx : Nat} {v : Int32} (hd : decode μ.2.1 pc = .ok (.ldc idx, 2)) (hw : Cond.constant μ.1.cls idx v ∈ pw_wl) (h : RR z d μ (pc + 2) lv (.int v :: st) σ Q) : RR z d μ pc lv st σ Q := by
  intro p l e R s m args below meth c H locs cells slots Z D dA ad ls hC hH hL hF
  obtain ⟨hx, hb, hml, hown, hts, hC6⟩ := id hC
  exact lv_ldc hx hb hown (hts _ hw) hd (h p l e R s m args below meth c H locs cells slots Z D dA ad ls hC hH hL hF)
theorem RR.idiv {x y : Int32} (hd : decode μ.2.1 pc = .ok (.idiv, 1)) (hne : ¬ y = 0) (h : RR z d μ (pc + 1) lv (.int (x / y) :: rest) σ Q) : RR z d μ pc lv (.int y :: .int x :: rest) σ Q := by
  intro p l e R s m args below meth c H locs cells slots Z D dA ad ls hC hH hL hF
  exact lv_idiv hC.1 hC.2.1 hd hne (h p l e R s m args below meth c H locs cells slots Z D dA ad ls hC hH hL hF)
theorem RR.irem {x y : Int32} (hd : decode μ.2.1 pc = .ok (.irem, 1)) (hne : ¬ y = 0) (h : RR z d μ (pc + 1) lv (.int (x - x / y * y) :: rest) σ Q) : RR z d μ pc lv (.int y :: .int x :: rest) σ Q := by
  intro p l e R s m args below meth c H locs cells slots Z D dA ad ls hC hH hL hF
  exact lv_irem hC.1 hC.2.1 hd hne (h p l e R s m args below meth c H locs cells slots Z D dA ad ls hC hH hL hF)
theorem RR.ldiv {x y : Int64} (hd : decode μ.2.1 pc = .ok (.ldiv, 1)) (hne : ¬ y = 0) (h : RR z d μ (pc + 1) lv (.long (x / y) :: rest) σ Q) : RR z d μ pc lv (.long y :: .long x :: rest) σ Q := by
  intro p l e R s m args below meth c H locs cells slots Z D dA ad ls hC hH hL hF
  exact lv_ldiv hC.1 hC.2.1 hd hne (h p l e R s m args below meth c H locs cells slots Z D dA ad ls hC hH hL hF)
theorem RR.lrem {x y : Int64} (hd : decode μ.2.1 pc = .ok (.lrem, 1)) (hne : ¬ y = 0) (h : RR z d μ (pc + 1) lv (.long (x - x / y * y) :: rest) σ Q) : RR z d μ pc lv (.long y :: .long x :: rest) σ Q := by
  intro p l e R s m args below meth c H locs cells slots Z D dA ad ls hC hH hL hF
  exact lv_lrem hC.1 hC.2.1 hd hne (h p l e R s m args below meth c H locs cells slots Z D dA ad ls hC hH hL hF)
theorem RR.tsIn {dflt lo hi off : Int} {offs : Array Int} {len t : Nat} {x : Int32} (hd : decode μ.2.1 pc = .ok (.tableswitch dflt lo hi offs, len)) (h1 : ¬ x.toInt < lo) (h2 : ¬ hi < x.toInt) (ho : offs[(x.toInt - lo).toNat]? = some off) (ht : r_to pc off = some t) (h : RR z d μ t lv rest σ Q) : RR z d μ pc lv (.int x :: rest) σ Q := by
  intro p l e R s m args below meth c H locs cells slots Z D dA ad ls hC hH hL hF
  exact lv_tableIn hC.1 hC.2.1 hd h1 h2 ho (r_to_eq ht) (h p l e R s m args below meth c H locs cells slots Z D dA ad ls hC hH hL hF)
theorem RR.tsOut {dflt lo hi : Int} {offs : Array Int} {len t : Nat} {x : Int32} (hd : decode μ.2.1 pc = .ok (.tableswitch dflt lo hi offs, len)) (h1 : x.toInt < lo ∨ hi < x.toInt) (ht : r_to pc dflt = some t) (h : RR z d μ t lv rest σ Q) : RR z d μ pc lv (.int x :: rest) σ Q := by
  intro p l e R s m args below meth c H locs cells slots Z D dA ad ls hC hH hL hF
  exact lv_tableOut hC.1 hC.2.1 hd h1 (r_to_eq ht) (h p l e R s m args below meth c H locs cells slots Z D dA ad ls hC hH hL hF)
theorem RR.lsw {dflt off : Int} {ps : Array (Int × Int)} {len t : Nat} {x : Int32} (hd : decode μ.2.1 pc = .ok (.lookupswitch dflt ps, len)) (hp : (ps.toList.zip (ps.toList.drop 1)).all (fun (a, next) => a.1 < next.1) = true) (ho : Op.lookupswitch.offset ps.toList dflt x.toInt = off) (ht : r_to pc off = some t) (h : RR z d μ t lv rest σ Q) : RR z d μ pc lv (.int x :: rest) σ Q := by
  intro p l e R s m args below meth c H locs cells slots Z D dA ad ls hC hH hL hF
  exact lv_lookup hC.1 hC.2.1 hd hp ho (r_to_eq ht) (h p l e R s m args below meth c H locs cells slots Z D dA ad ls hC hH hL hF)
theorem RR.gets {idx : Nat} (hd : decode μ.2.1 pc = .ok (.getstatic idx, 3)) (hw : Cond.fieldLink μ.1.cls idx "TwinKings" "DIGEST_DAYS" "[I" ∈ pw_wl) (h : RR 0 d μ (pc + 3) lv (.ref 1000 :: st) σ Q) : RR 0 d μ pc lv st σ Q := by
  intro p l e R s m args below meth c H locs cells slots Z D dA ad ls hC hH hL hF
  obtain ⟨hx, hb, hml, hown, hts, hK, hinj, hSt, hC7⟩ := id hC
  exact va_gets hx hb (hSt rfl).1 hH.2 hown (hts _ hw) (fun _ h9 => h9) hd (h p l e R s m args below meth c H locs cells slots Z D dA ad ls hC hH hL hF)
theorem RR.dlen (hd : decode μ.2.1 pc = .ok (.arraylength, 1)) (h : RR 0 d μ (pc + 1) lv (.int 5 :: rest) σ Q) : RR 0 d μ pc lv (.ref 1000 :: rest) σ Q := by
  intro p l e R s m args below meth c H locs cells slots Z D dA ad ls hC hH hL hF
  obtain ⟨hx, hb, hml, hown, hts, hK, hinj, hSt, hC7⟩ := id hC
  exact va_tlen (v := 5) hx hb (hSt rfl).2 hH.2 rfl hd (h p l e R s m args below meth c H locs cells slots Z D dA ad ls hC hH hL hF)
theorem RR.dld {j : Nat} {i : Int32} (hd : decode μ.2.1 pc = .ok (.iaload, 1)) (hi : i = nI j) (hj : j < 5) (h : RR 0 d μ (pc + 1) lv (.int (r_ddI j) :: rest) σ Q) : RR 0 d μ pc lv (.int i :: .ref 1000 :: rest) σ Q := by
  intro p l e R s m args below meth c H locs cells slots Z D dA ad ls hC hH hL hF
  obtain ⟨hx, hb, hml, hown, hts, hK, hinj, hSt, hC7⟩ := id hC
  subst hi
  exact va_ti (v := .int (r_ddI j)) hx hb (hSt rfl).2 hH.2 (vp_in_nI hj (by decide)) (by rw [nI_clamp (by omega)]; rfl) hd (h p l e R s m args below meth c H locs cells slots Z D dA ad ls hC hH hL hF)
theorem RR.iret {v : Int32} (hd : decode μ.2.1 pc = .ok (.ireturn, 1)) (hr : μ.2.2.2 = some .int) (hQ : Q (some (.int v)) σ) : RR z d μ pc lv [.int v] σ Q :=
  fun p l e R s m args below meth c H locs cells slots Z D dA ad ls hC hH hL hF => hF (some (.int v)) σ H locs pc ls hQ hH ⟨hd, Or.inl hr⟩
theorem RR.zret {v : Int32} (hd : decode μ.2.1 pc = .ok (.ireturn, 1)) (hr : μ.2.2.2 = some .boolean) (hv : v = 0 ∨ v = 1) (hQ : Q (some (.int v)) σ) : RR z d μ pc lv [.int v] σ Q :=
  fun p l e R s m args below meth c H locs cells slots Z D dA ad ls hC hH hL hF => hF (some (.int v)) σ H locs pc ls hQ hH ⟨hd, Or.inr ⟨hr, hv⟩⟩
theorem RR.lret {v : Int64} (hd : decode μ.2.1 pc = .ok (.lreturn, 1)) (hr : μ.2.2.2 = some .long) (hQ : Q (some (.long v)) σ) : RR z d μ pc lv [.long v] σ Q :=
  fun p l e R s m args below meth c H locs cells slots Z D dA ad ls hC hH hL hF => hF (some (.long v)) σ H locs pc ls hQ hH ⟨hd, hr⟩
theorem RR.vret (hd : decode μ.2.1 pc = .ok (.return_, 1)) (hr : μ.2.2.2 = none) (hQ : Q none σ) : RR z d μ pc lv [] σ Q :=
  fun p l e R s m args below meth c H locs cells slots Z D dA ad ls hC hH hL hF => hF none σ H locs pc ls hQ hH ⟨hd, hr⟩
theorem RR.aret {k : Nat} {n : String} (hd : decode μ.2.1 pc = .ok (.areturn, 1)) (hr : μ.2.2.2 = some (.object n)) (hQ : Q (some (.ref k)) σ) : RR z d μ pc lv [.ref k] σ Q :=
  fun p l e R s m args below meth c H locs cells slots Z D dA ad ls hC hH hL hF => hF (some (.ref k)) σ H locs pc ls hQ hH ⟨hd, n, hr⟩
theorem RR.aretN {n : String} (hd : decode μ.2.1 pc = .ok (.areturn, 1)) (hr : μ.2.2.2 = some (.object n)) (hQ : Q (some .null) σ) : RR z d μ pc lv [.null] σ Q :=
  fun p l e R s m args below meth c H locs cells slots Z D dA ad ls hC hH hL hF => hF (some .null) σ H locs pc ls hQ hH ⟨hd, n, hr⟩
end RC
