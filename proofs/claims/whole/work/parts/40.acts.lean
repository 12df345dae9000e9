/-! ===== acts: what is told changes; both sides answer alike ===== -/
def setS (a : ab) (i v : Nat) : ab := (fun q => if q = i then v else a.1 q, a.2)
def setT (a : ab) (t j v : Nat) : ab := (a.1, fun t' => if t' = t then (fun j' => if j' = j then v else a.2.1 t j') else a.2.1 t', a.2.2)
theorem setS_other {a : ab} {i v q : Nat} (h : ¬ q = i) : (setS a i v).1 q = a.1 q := if_neg h
theorem setS_same {a : ab} {i v : Nat} : (setS a i v).1 i = v := if_pos rfl
/-- both sides answer v and go on to a' -/
def PI (a : ab) (m5 m6 : r_St → (Int32 → r_St → Prop) → Prop) : Prop := ∃ (v : Int32) (a' : ab), (∀ σ K, Inv0 a σ → (∀ σ', Inv0 a' σ' → K v σ') → m5 σ K) ∧ (∀ σ K, Inv1 a σ → (∀ σ', Inv1 a' σ' → K v σ') → m6 σ K)
def PL (a : ab) (m5 m6 : r_St → (Int64 → r_St → Prop) → Prop) : Prop := ∃ (v : Int64) (a' : ab), (∀ σ K, Inv0 a σ → (∀ σ', Inv0 a' σ' → K v σ') → m5 σ K) ∧ (∀ σ K, Inv1 a σ → (∀ σ', Inv1 a' σ' → K v σ') → m6 σ K)
theorem Tx0.cg {a a' : ab} {σ : r_St} (h : Tx0 a σ) (e : sameT a a') : Tx0 a' σ := by
  unfold Tx0 at *
  rw [e.e_dd, e.e_el, e.flt, e.e_fin, e.1, e.2]
  exact h
theorem Sh0.cg {a a' : ab} {σ : r_St} {s : Nat} (H : Sh0 a σ s) (h : ∀ i, 20 ≤ i → a'.1 i = a.1 i) (h2 : a'.2.2 = a.2.2) : Sh0 a' σ s := by
  unfold Sh0 at *
  rw [h _ (by omega), h _ (by omega), h _ (by omega), h2]
  exact H
theorem Sh1.cg {a a' : ab} {σ : r_St} {s : Nat} (H : Sh1 a σ s) (h : ∀ i, 20 ≤ i → a'.1 i = a.1 i) (h2 : a'.2.2 = a.2.2) : Sh1 a' σ s := by
  unfold Sh1 at *
  rw [h _ (by omega), h _ (by omega), h _ (by omega), h2]
  exact H
theorem Inv0.stale {a : ab} {σ : r_St} (h : Inv0 a σ) : Inv0 a (wI σ 0 15 1) := by
  refine ⟨h.1, h.2.1.mv (fun c j q1 q2 => ?_), fun hz => absurd hz (by rw [wI_same]; decide)⟩
  rcases Nat.decEq c 0 with q3 | q3
  · rw [wI_cell _ _ _ q3]
  · subst q3; rw [wI_place _ _ _ (by omega)]
theorem R3.add {σ : r_St} {k room s x y z : Nat} {f g h f' g' h' : Nat → Nat} (H : R3 σ k room s f g h) (hf : ∀ j, j < s → f' j = f j) (hg : ∀ j, j < s → g' j = g j) (hh : ∀ j, j < s → h' j = h j) (ef : f' s = x) (eg : g' s = y) (eh : h' s = z) : R3 (addS σ k s (nI x) (nI y) (nI z)) k room (s + 1) f' g' h' := by
  unfold addS
  refine ⟨?_, wI_same _ _ _ _, fun j hj => ?_⟩
  · rw [wI_place _ _ _ (by omega), wI_cell _ _ _ (by omega), wI_cell _ _ _ (by omega), wI_cell _ _ _ (by omega)]
    exact H.1
  · rw [wI_cell _ _ _ (by omega), wI_cell _ _ _ (by omega), wI_cell _ _ _ (by omega)]
    rcases (show j < s ∨ j = s by omega) with q | q
    · rw [wI_place _ _ _ (by omega), hf j q, hg j q, hh j q]
      refine ⟨(H.2.2 j q).1, ?_, ?_⟩
      · rw [wI_cell _ _ _ (by omega), wI_cell _ _ _ (by omega), wI_place _ _ _ (by omega), wI_cell _ _ _ (by omega)]
        exact (H.2.2 j q).2.1
      · rw [wI_cell _ _ _ (by omega), wI_place _ _ _ (by omega), wI_cell _ _ _ (by omega), wI_cell _ _ _ (by omega)]
        exact (H.2.2 j q).2.2
    · subst q
      rw [ef, eg, eh]
      refine ⟨wI_same _ _ _ _, ?_, ?_⟩
      · rw [wI_cell _ _ _ (by omega), wI_cell _ _ _ (by omega), wI_same]
      · rw [wI_cell _ _ _ (by omega), wI_same]
theorem C1.add {σ σ' : r_St} {c s x : Nat} {f f' : Nat → Nat} (H : C1 σ c s f) (hf : ∀ j, j < s → f' j = f j) (ef : f' s = x) (e : σ'.1 c s = nI x) (e2 : ∀ j, j < s → σ'.1 c j = σ.1 c j) : C1 σ' c (s + 1) f' := by
  intro j hj
  rcases (show j < s ∨ j = s by omega) with q | q
  · rw [e2 j q, hf j q]; exact H j q
  · subst q; rw [e, ef]
