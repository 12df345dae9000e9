/-! ===== the walk's own words, further: constants, counters, Math, arraycopy ===== -/
def imax (x y : Int32) : Int32 := if x < y then y else x
def imin (x y : Int32) : Int32 := if y < x then y else x
/-- n ints of cell k from a on come to cell k' from b on -/
def cpS (σ : r_St) (k k' a b n : Nat) : r_St := (fun c => if c = k' then va_cpy (σ.1 k) (σ.1 k') a b n else σ.1 c, σ.2)
def r_MM (own : String) (idx : Nat) (y : MethodName) (cc : ByteArray) : Prop := Cond.methodLink own idx y ∈ pw_wl ∧ Cond.static y ∈ pw_wl ∧ Cond.initialized "java/lang/Math" ∈ pw_wl ∧ Cond.code y cc 2 (some .int) ∈ pw_wl
def r_AC (own : String) (idx : Nat) : Prop := Cond.methodLink own idx arraycopyName ∈ pw_wl ∧ Cond.native arraycopyName ∈ pw_wl ∧ Cond.static arraycopyName ∈ pw_wl ∧ Cond.initialized "java/lang/System" ∈ pw_wl
theorem ts_out3 {x : Int32} (h0 : ¬ x = 0) (h1 : ¬ x = 1) (h2 : ¬ x = 2) : x.toInt < 0 ∨ 2 < x.toInt := by
  have e : ∀ a b : Int32, a.toInt = b.toInt → a = b := fun a b h => Int32.toInt_inj.mp h
  rcases (show x.toInt < 0 ∨ 2 < x.toInt ∨ x.toInt = 0 ∨ x.toInt = 1 ∨ x.toInt = 2 by omega) with h | h | h | h | h
  · exact Or.inl h
  · exact Or.inr h
  · exact absurd (e x 0 h) h0
  · exact absurd (e x 1 h) h1
  · exact absurd (e x 2 h) h2
theorem ts_out5 {x : Int32} (h0 : ¬ x = 0) (h1 : ¬ x = 1) (h2 : ¬ x = 2) (h3 : ¬ x = 3) (h4 : ¬ x = 4) : x.toInt < 0 ∨ 4 < x.toInt := by
  have e : ∀ a b : Int32, a.toInt = b.toInt → a = b := fun a b h => Int32.toInt_inj.mp h
  rcases (show x.toInt < 0 ∨ 4 < x.toInt ∨ x.toInt = 3 ∨ x.toInt = 4 ∨ (0 ≤ x.toInt ∧ x.toInt ≤ 2) by omega) with h | h | h | h | h
  · exact Or.inl h
  · exact Or.inr h
  · exact absurd (e x 3 h) h3
  · exact absurd (e x 4 h) h4
  · rcases ts_out3 h0 h1 h2 with g | g <;> omega
theorem ts_out9 {x : Int32} (h0 : ¬ x = 0) (h1 : ¬ x = 1) (h2 : ¬ x = 2) (h3 : ¬ x = 3) (h4 : ¬ x = 4) (h5 : ¬ x = 5) (h6 : ¬ x = 6) (h7 : ¬ x = 7) (h8 : ¬ x = 8) : x.toInt < 0 ∨ 8 < x.toInt := by
  have e : ∀ a b : Int32, a.toInt = b.toInt → a = b := fun a b h => Int32.toInt_inj.mp h
  rcases (show x.toInt < 0 ∨ 8 < x.toInt ∨ x.toInt = 5 ∨ x.toInt = 6 ∨ x.toInt = 7 ∨ x.toInt = 8 ∨ (0 ≤ x.toInt ∧ x.toInt ≤ 4) by omega) with h | h | h | h | h | h | h
  · exact Or.inl h
  · exact Or.inr h
  · exact absurd (e x 5 h) h5
  · exact absurd (e x 6 h) h6
  · exact absurd (e x 7 h) h7
  · exact absurd (e x 8 h) h8
  · rcases ts_out5 h0 h1 h2 h3 h4 with g | g <;> omega
theorem ls_out2 {x : Int32} {a b c : Int} (h0 : ¬ x = 0) (h1 : ¬ x = 1) : Op.lookupswitch.offset (#[(0, a), (1, b)] : Array (Int × Int)).toList c x.toInt = c := by
  have e : ∀ a b : Int32, a.toInt = b.toInt → a = b := fun a b h => Int32.toInt_inj.mp h
  have g0 : ¬ x.toInt = 0 := fun h => h0 (e x 0 h)
  have g1 : ¬ x.toInt = 1 := fun h => h1 (e x 1 h)
  simp [Op.lookupswitch.offset, g0, g1, Ne.symm g0, Ne.symm g1]
section RW2
variable {z d : Nat} {μ : r_Mt} {pc : Nat} {lv : r_Lv} {st rest : List Value} {σ : r_St} {Q : Option Value → r_St → Prop}
theorem RR.ic {n : Int} {v : Int32} (hd : decode μ.2.1 pc = .ok (.iconst n, 1)) (hv : Int32.ofInt n = v) (h : RR z d μ (pc + 1) lv (.int v :: st) σ Q) : RR z d μ pc lv st σ Q := by
  subst hv
  exact RR.s2 hd rfl h
theorem RR.bp {n : Int} {v : Int32} (hd : decode μ.2.1 pc = .ok (.bipush n, 2)) (hv : (Int8.ofInt n).toInt32 = v) (h : RR z d μ (pc + 2) lv (.int v :: st) σ Q) : RR z d μ pc lv st σ Q := by
  subst hv
  exact RR.s2 hd rfl h
theorem RR.sp {n : Int} {v : Int32} (hd : decode μ.2.1 pc = .ok (.sipush n, 3)) (hv : (Int16.ofInt n).toInt32 = v) (h : RR z d μ (pc + 3) lv (.int v :: st) σ Q) : RR z d μ pc lv st σ Q := by
  subst hv
  exact RR.s2 hd rfl h
theorem RR.inc {i : Nat} {n : Int} {c x : Int32} {lv' : r_Lv} (hd : decode μ.2.1 pc = .ok (.iinc i n, 3)) (hg : r_get lv i = some (.int x)) (hi : i < μ.2.2.1) (hv : Int32.ofInt n = c) (hl : r_set1 lv i (.int (x + c)) = lv') (h : RR z d μ (pc + 3) lv' st σ Q) : RR z d μ pc lv st σ Q := by
  subst hv
  subst hl
  refine RR.s2 hd ?_ h
  simp only [r_step, hg, hi, if_true]
theorem RR.mmax {idx : Nat} {x y : Int32} (hd : decode μ.2.1 pc = .ok (.invokestatic idx, 3)) (hw : r_MM μ.1.cls idx Lib.Math.max.name Lib.Math.max.code) (hr : (rest.map fun v => v.category).sum ≤ 8) (hdd : 1 ≤ d) (h : RR z d μ (pc + 3) lv (.int (imax x y) :: rest) σ Q) : RR z d μ pc lv (.int y :: .int x :: rest) σ Q := by
  intro p l e R s m args below meth c H locs cells slots Z D dA ad ls hC hH hL hF
  obtain ⟨hx, hb, hml, hown, hts, hK, hinj, hSt, hfr, hlo, hce, hsl⟩ := id hC
  obtain ⟨w1, w2, w3, w4⟩ := hw
  refine va_mmax (rest := rest.map (r_rv ad)) hx hb (by rw [hml]; exact hL.1.symm) hown (hts _ w1) (hts _ w2) (hts _ w3) (hts _ w4) (by omega) (by rw [r_cats]; omega) hce hsl hd ?_
  exact h p l e R s m args below meth c H locs cells slots Z D dA ad ls hC hH hL hF
theorem RR.mmin {idx : Nat} {x y : Int32} (hd : decode μ.2.1 pc = .ok (.invokestatic idx, 3)) (hw : r_MM μ.1.cls idx Lib.Math.min.name Lib.Math.min.code) (hr : (rest.map fun v => v.category).sum ≤ 8) (hdd : 1 ≤ d) (h : RR z d μ (pc + 3) lv (.int (imin x y) :: rest) σ Q) : RR z d μ pc lv (.int y :: .int x :: rest) σ Q := by
  intro p l e R s m args below meth c H locs cells slots Z D dA ad ls hC hH hL hF
  obtain ⟨hx, hb, hml, hown, hts, hK, hinj, hSt, hfr, hlo, hce, hsl⟩ := id hC
  obtain ⟨w1, w2, w3, w4⟩ := hw
  refine va_mmin (rest := rest.map (r_rv ad)) hx hb (by rw [hml]; exact hL.1.symm) hown (hts _ w1) (hts _ w2) (hts _ w3) (hts _ w4) (by omega) (by rw [r_cats]; omega) hce hsl hd ?_
  exact h p l e R s m args below meth c H locs cells slots Z D dA ad ls hC hH hL hF
theorem RR.acp {idx k k' : Nat} {a1 a2 a3 n n' : Nat} {es es' : List Nat} {sp dp nn : Int32} (hd : decode μ.2.1 pc = .ok (.invokestatic idx, 3)) (hw : r_AC μ.1.cls idx) (hk : (r_lay z)[k]? = some (.inr (0, n, es))) (hk' : (r_lay z)[k']? = some (.inr (0, n', es'))) (e1 : sp = nI a1) (e2 : dp = nI a2) (e3 : nn = nI a3) (h1 : a1 + a3 ≤ n) (h2 : a2 + a3 ≤ n') (hr : (rest.map fun v => v.category).sum ≤ 8) (hdd : 1 ≤ d) (h : RR z d μ (pc + 3) lv rest (cpS σ k k' a1 a2 a3) Q) (hn : n < 2147483648 := by decide) (hn' : n' < 2147483648 := by decide) : RR z d μ pc lv (.int nn :: .int dp :: .ref k' :: .int sp :: .ref k :: rest) σ Q := by
  intro p l e R s m args below meth c H locs cells slots Z D dA ad ls hC hH hL hF
  obtain ⟨hx, hb, hml, hown, hts, hK, hinj, hSt, hfr, hlo, hce, hsl⟩ := id hC
  obtain ⟨w1, w2, w3, w4⟩ := hw
  subst e1
  subst e2
  subst e3
  have q1 : (nI a1).toNatClampNeg = a1 := nI_clamp (by omega)
  have q2 : (nI a2).toNatClampNeg = a2 := nI_clamp (by omega)
  have q3 : (nI a3).toNatClampNeg = a3 := nI_clamp (by omega)
  refine va_copyi (rest := rest.map (r_rv ad)) (D := D) (f := σ.1 k) (g := σ.1 k') (ty := .int) (a := ad k') (a0 := ad k) hx hb (by rw [hml]; exact hL.1.symm) hown (hts _ w1) (hts _ w2) (hts _ w3) (hts _ w4) hK hH.1 (r_D hinj) hH.2 k k' 0 0 (r_wl_at hk) (r_wl_at hk') rfl rfl rfl (nI_pos (by omega)) (nI_pos (by omega)) (nI_pos (by omega)) (by rw [q1, q3]; exact h1) (by rw [q2, q3]; exact h2) (fun i _ => rfl) (by omega) (by
    have e9 : nativeFrameWords "java/lang/System" "arraycopy" 5 + 11 ≤ 40 := by decide
    rw [r_cats]; omega) hd (fun H1 locs1 hP1 hD1 hS1 => ?_)
  rw [q1, q2, q3] at hP1
  refine h p l e R s m args below meth c H1 locs1 cells slots Z D dA ad ls hC (r_Hp.put hk' ?_ (fun k2 q2 hne _ => ?_) hP1 hS1) hL hF
  · show (Sum.inl (dA 0, n', Sum.inl ((cpS σ k k' a1 a2 a3).1 k')) : va_E) = Sum.inl (dA 0, n', Sum.inl (va_cpy (σ.1 k) (σ.1 k') a1 a2 a3))
    simp [cpS]
  · have e9 : (cpS σ k k' a1 a2 a3).1 k2 = σ.1 k2 := by simp [cpS, hne]
    unfold r_en
    split <;> first | rw [e9] | rfl
end RW2
theorem lt40 {x : Int32} (h : ¬ (40 : Int32) ≤ x) : x ≤ 39 := by
  have h1 : ¬ (40 : Int) ≤ x.toInt := fun h2 => h (Int32.le_iff_toInt_le.mpr h2)
  exact Int32.le_iff_toInt_le.mpr (by show x.toInt ≤ 39; omega)
