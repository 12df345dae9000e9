/-! ===== acts on the text, set, back, forget, count (back and forget written by acts2.py) ===== -/
def sameO (a a' : ab) : Prop := (∀ i, 1 ≤ i → a'.1 i = a.1 i) ∧ (∀ t, 1 ≤ t → a'.2.1 t = a.2.1 t) ∧ a'.2.2 = a.2.2
theorem B0.cgT {a a' : ab} {σ : r_St} (h : B0 a σ) (o : sameO a a') (hT : Tx0 a' σ) : B0 a' σ := by
  obtain ⟨h0, h1, h2, h3, h4, h5, h6, h7, h8, h9⟩ := h
  unfold Sc0 at h1
  unfold B0 Sc0
  rw [o.1 1 (by omega), o.1 2 (by omega), o.1 10 (by omega), o.1 3 (by omega), o.1 4 (by omega), o.1 5 (by omega), o.1 6 (by omega), o.1 7 (by omega), o.1 8 (by omega), o.1 9 (by omega), o.2.1 1 (by omega), o.2.1 2 (by omega), o.2.1 3 (by omega), o.2.1 4 (by omega), o.2.1 5 (by omega), o.2.1 6 (by omega), o.2.1 7 (by omega), o.2.1 8 (by omega), o.2.1 9 (by omega), o.2.1 10 (by omega), o.2.1 11 (by omega), o.2.1 12 (by omega), o.2.1 13 (by omega), o.2.1 14 (by omega), o.2.1 15 (by omega)]
  exact ⟨hT, h1, h2, h3, h4, h5, h6, h7, h8, fun s hs => (h9 s hs).cg (fun i hi => o.1 i (by omega)) o.2.2⟩
theorem B1.cgT {a a' : ab} {σ : r_St} (h : B1 a σ) (o : sameO a a') (hT : Tx1 a' σ) : B1 a' σ := by
  obtain ⟨h0, h1, h2, h3, h4, h5, h6, h7, h8, h9⟩ := h
  unfold Sc1 at h1
  unfold B1 Sc1
  rw [o.1 1 (by omega), o.1 2 (by omega), o.1 10 (by omega), o.1 3 (by omega), o.1 4 (by omega), o.1 5 (by omega), o.1 6 (by omega), o.1 7 (by omega), o.1 8 (by omega), o.1 9 (by omega), o.2.1 1 (by omega), o.2.1 2 (by omega), o.2.1 3 (by omega), o.2.1 4 (by omega), o.2.1 5 (by omega), o.2.1 6 (by omega), o.2.1 7 (by omega), o.2.1 8 (by omega), o.2.1 9 (by omega), o.2.1 10 (by omega), o.2.1 11 (by omega), o.2.1 12 (by omega), o.2.1 13 (by omega), o.2.1 14 (by omega), o.2.1 15 (by omega)]
  exact ⟨hT, h1, h2, h3, h4, h5, h6, h7, h8, fun s hs => (h9 s hs).cg (fun i hi => o.1 i (by omega)) o.2.2⟩
theorem WF.cgT {a a' : ab} (h : WF a) (o : sameO a a') (h0 : a'.1 0 ≤ 23) (hb : ∀ j, j < a'.1 0 → a'.2.1 0 j < 256) : WF a' := by
  obtain ⟨w0, w1, w2, w3, w4, w5, w6, w7, w8, w9, w10, w11⟩ := h
  unfold WF
  rw [o.1 1 (by omega), o.1 2 (by omega), o.1 3 (by omega), o.1 4 (by omega), o.1 5 (by omega), o.1 6 (by omega), o.1 7 (by omega), o.1 8 (by omega), o.1 9 (by omega), o.2.1 1 (by omega), o.2.1 2 (by omega), o.2.1 3 (by omega), o.2.1 4 (by omega), o.2.1 5 (by omega), o.2.1 6 (by omega), o.2.1 7 (by omega), o.2.1 8 (by omega), o.2.1 9 (by omega), o.2.1 10 (by omega), o.2.1 11 (by omega), o.2.1 12 (by omega), o.2.1 13 (by omega), o.2.1 14 (by omega), o.2.1 15 (by omega)]
  refine ⟨h0, hb, w2, w3, w4, w5, w6, w7, w8, w9, w10, fun s hs => ?_⟩
  rw [o.1 _ (by omega), o.1 _ (by omega), o.1 _ (by omega)]
  exact w11 s hs
/-- the text is changed: the class reads it, the laws are stale -/
theorem txt0 {a a' : ab} {σ σ1 : r_St} {K : r_St → Prop} (hI : Inv0 a σ) (o : sameO a a') (hW : WF a') (e : ∀ c j, ¬ c = 2 → ¬ (c = 1 ∧ j = 2) → σ1.1 c j = σ.1 c j) (hn : σ1.1 1 2 = nI (a'.1 0)) (hc : C1 σ1 2 (a'.1 0) (a'.2.1 0)) (h : ∀ s, s.1 1 2 = nI (a'.1 0) → Inv0 a' (wI s 0 15 1) → K s) : M_X0_parse σ1 K := by
  refine k0_parse (a := a') ⟨hn, hc, hW.1, hW.2.1⟩ (fun s f t => h s t.1 ?_)
  have m : ∀ c j, 4 ≤ c ∨ (c = 0 ∧ ¬ j = 15) → (wI s 0 15 1).1 c j = σ.1 c j := by
    intro c j q
    have e1 : s.1 c j = σ.1 c j := by rw [f c j (by omega) (by omega), e c j (by omega) (by omega)]
    rcases Nat.decEq c 0 with q3 | q3
    · rw [wI_cell _ _ _ q3]; exact e1
    · subst q3; rw [wI_place _ _ _ (by omega)]; exact e1
  obtain ⟨h0, h1, h2, h3, h4, h5, h6, h7, h8, h9⟩ := hI.2.1
  have T' : Tx0 a' (wI s 0 15 1) := t.mv (fun c j _ _ => by rw [wI_cell _ _ _ (by omega)])
  refine ⟨hW, ?_, fun hz => absurd hz (by rw [wI_same]; decide)⟩
  unfold B0 Sc0
  rw [o.1 1 (by omega), o.1 2 (by omega), o.1 10 (by omega), o.1 3 (by omega), o.1 4 (by omega), o.1 5 (by omega), o.1 6 (by omega), o.1 7 (by omega), o.1 8 (by omega), o.1 9 (by omega), o.2.1 1 (by omega), o.2.1 2 (by omega), o.2.1 3 (by omega), o.2.1 4 (by omega), o.2.1 5 (by omega), o.2.1 6 (by omega), o.2.1 7 (by omega), o.2.1 8 (by omega), o.2.1 9 (by omega), o.2.1 10 (by omega), o.2.1 11 (by omega), o.2.1 12 (by omega), o.2.1 13 (by omega), o.2.1 14 (by omega), o.2.1 15 (by omega)]
  exact ⟨T', h1.mv (fun j _ _ => m 0 j (by omega)), h2.mv (fun c j _ _ => m c j (by omega)), h3.mv (fun c j _ _ => m c j (by omega)), h4.mv (fun c j _ _ => m c j (by omega)), h5.mv (fun c j _ _ => m c j (by omega)), h6.mv (fun c j _ _ => m c j (by omega)), h7.mv (fun c j _ _ => m c j (by omega)), h8.mv (fun c j _ _ => m c j (by omega)), fun s hs => ((h9 s hs).mv (fun c j _ => m c j (by omega))).cg (fun i hi => o.1 i (by omega)) o.2.2⟩
/-- the text is changed: the reference -/
theorem txt1 {a a' : ab} {σ σ1 : r_St} (hI : Inv1 a σ) (o : sameO a a') (hW : WF a') (e : ∀ c j, ¬ c = 1 → ¬ (c = 0 ∧ j = 1) → σ1.1 c j = σ.1 c j) (hn : σ1.1 0 1 = nI (a'.1 0)) (hc : C1 σ1 1 (a'.1 0) (a'.2.1 0)) : Inv1 a' σ1 := by
  obtain ⟨h0, h1, h2, h3, h4, h5, h6, h7, h8, h9⟩ := hI.2
  refine ⟨hW, ?_⟩
  unfold B1 Sc1
  rw [o.1 1 (by omega), o.1 2 (by omega), o.1 10 (by omega), o.1 3 (by omega), o.1 4 (by omega), o.1 5 (by omega), o.1 6 (by omega), o.1 7 (by omega), o.1 8 (by omega), o.1 9 (by omega), o.2.1 1 (by omega), o.2.1 2 (by omega), o.2.1 3 (by omega), o.2.1 4 (by omega), o.2.1 5 (by omega), o.2.1 6 (by omega), o.2.1 7 (by omega), o.2.1 8 (by omega), o.2.1 9 (by omega), o.2.1 10 (by omega), o.2.1 11 (by omega), o.2.1 12 (by omega), o.2.1 13 (by omega), o.2.1 14 (by omega), o.2.1 15 (by omega)]
  refine ⟨⟨hn, hc⟩, ⟨?_, ?_, ?_⟩, ⟨?_, h2.2.1.mv (fun j _ => e _ j (by omega) (by omega)), h2.2.2.mv (fun j _ => e _ j (by omega) (by omega))⟩, ⟨?_, h3.2.mv (fun j _ => e _ j (by omega) (by omega))⟩, ⟨?_, h4.2.1.mv (fun j _ => e _ j (by omega) (by omega)), h4.2.2.mv (fun j _ => e _ j (by omega) (by omega))⟩, ⟨?_, h5.2.1.mv (fun j _ => e _ j (by omega) (by omega)), h5.2.2.1.mv (fun j _ => e _ j (by omega) (by omega)), h5.2.2.2.mv (fun j _ => e _ j (by omega) (by omega))⟩, ⟨?_, h6.2.1.mv (fun j _ => e _ j (by omega) (by omega)), h6.2.2.mv (fun j _ => e _ j (by omega) (by omega))⟩, ⟨?_, h7.2.1.mv (fun j _ => e _ j (by omega) (by omega)), h7.2.2.mv (fun j _ => e _ j (by omega) (by omega))⟩, ⟨?_, h8.2.1.mv (fun j _ => e _ j (by omega) (by omega)), h8.2.2.1.mv (fun j _ => e _ j (by omega) (by omega)), h8.2.2.2.mv (fun j _ => e _ j (by omega) (by omega))⟩, fun s hs => ((h9 s hs).mv (fun c j _ _ => e c j (by omega) (by omega))).cg (fun i hi => o.1 i (by omega)) o.2.2⟩
  · rw [e 0 5 (by omega) (by omega)]; exact h1.1
  · rw [e 0 6 (by omega) (by omega)]; exact h1.2.1
  · rw [e 0 41 (by omega) (by omega)]; exact h1.2.2
  · rw [e 3 0 (by omega) (by omega)]; exact h2.1
  · rw [e 3 1 (by omega) (by omega)]; exact h3.1
  · rw [e 3 2 (by omega) (by omega)]; exact h4.1
  · rw [e 3 3 (by omega) (by omega)]; exact h5.1
  · rw [e 3 4 (by omega) (by omega)]; exact h6.1
  · rw [e 0 29 (by omega) (by omega)]; exact h7.1
  · rw [e 0 32 (by omega) (by omega)]; exact h8.1
theorem p_type (a : ab) (hW : WF a) (x1 : Int32) : PI a (fun σ K => M_X5_type σ K x1) (fun σ K => M_X6_type σ K x1) := by
  by_cases c0 : ¬ IN x1 0 255
  · exact ⟨-2, a, fun σ K hI h => b_X5_type ⟨fun c => absurd c c0, fun _ => h σ hI⟩, fun σ K hI h => b_X6_type ⟨fun c => absurd c c0, fun _ => h σ hI⟩⟩
  have c0 := Classical.not_not.mp c0
  obtain ⟨q, l, r, rfl⟩ := (IN_iff (lo := 0) (hi := 255) (by decide) (by decide)).mp c0
  have hn := hW.1
  rcases (show a.1 0 = 23 ∨ a.1 0 < 23 by omega) with hs | hs
  · refine ⟨-4, a, fun σ K hI h => b_X5_type ⟨fun _ => b_X0_append ⟨fun c => ?_, fun _ => h _ (Inv0.stale hI)⟩, fun c => absurd c0 c⟩, fun σ K hI h => b_X6_type ⟨fun _ => ⟨fun c => ?_, fun _ => h σ hI⟩, fun c => absurd c0 c⟩⟩
    · rw [hI.2.1.1.1, hs] at c
      exact absurd c (by decide)
    · rw [hI.2.1.1, hs] at c
      exact absurd rfl c
  · have o : sameO a (setS (setT a 0 (a.1 0) q) 0 (a.1 0 + 1)) := ⟨fun i hi => setS_other (by omega), fun t ht => if_neg (by omega), rfl⟩
    have e0 : (setS (setT a 0 (a.1 0) q) 0 (a.1 0 + 1)).1 0 = a.1 0 + 1 := rfl
    have et : ∀ j, (setS (setT a 0 (a.1 0) q) 0 (a.1 0 + 1)).2.1 0 j = if j = a.1 0 then q else a.2.1 0 j := fun j => rfl
    have W' : WF (setS (setT a 0 (a.1 0) q) 0 (a.1 0 + 1)) := hW.cgT o (by rw [e0]; omega) (fun j hj => by
      rw [et]
      rw [e0] at hj
      split
      · omega
      · exact hW.2.1 j (by omega))
    refine ⟨nI (a.1 0 + 1), setS (setT a 0 (a.1 0) q) 0 (a.1 0 + 1), fun σ K hI h => b_X5_type ⟨fun _ => b_X0_append ⟨fun c => ⟨a.1 0, hI.2.1.1.1, hs, ?_⟩, fun c => ?_⟩, fun c => absurd c0 c⟩, fun σ K hI h => b_X6_type ⟨fun _ => ⟨fun c => ⟨a.1 0, hI.2.1.1, hs, ?_⟩, fun c => ?_⟩, fun c => absurd c0 c⟩⟩
    · refine txt0 hI o W' (fun c j q1 q2 => ?_) ?_ ?_ (fun s q1 q2 => ?_)
      · rcases Nat.decEq c 1 with q3 | q3
        · rw [wI_cell _ _ _ q3, wI_cell _ _ _ q1]
        · subst q3; rw [wI_place _ _ _ (by omega), wI_cell _ _ _ (by omega)]
      · rw [wI_same, hI.2.1.1.1, nI_1]; rfl
      · refine C1.add hI.2.1.1.2.1 (fun j hj => if_neg (by omega)) (if_pos rfl) ?_ (fun j hj => ?_)
        · rw [wI_cell _ _ _ (by omega), wI_same]
        · rw [wI_cell _ _ _ (by omega), wI_place _ _ _ (by omega)]
      · show K (s.1 1 2) (wI s 0 15 1)
        rw [q1]
        exact h _ q2
    · rw [hI.2.1.1.1] at c
      exact absurd (nI_lt (b := 23) hs (by decide)) c
    · rw [hI.2.1.1, nI_1]
      refine h _ (txt1 hI o W' (fun c j q1 q2 => ?_) (wI_same _ _ _ _) ?_)
      · rcases Nat.decEq c 0 with q3 | q3
        · rw [wI_cell _ _ _ q3, wI_cell _ _ _ q1]
        · subst q3; rw [wI_place _ _ _ (by omega), wI_cell _ _ _ (by omega)]
      · refine C1.add hI.2.1.2 (fun j hj => if_neg (by omega)) (if_pos rfl) ?_ (fun j hj => ?_)
        · rw [wI_cell _ _ _ (by omega), wI_same]
        · rw [wI_cell _ _ _ (by omega), wI_place _ _ _ (by omega)]
    · rw [hI.2.1.1] at c
      have := nI_inj (b := 23) (by omega) (by decide) c
      omega
theorem C1.le {σ : r_St} {c s s' : Nat} {f : Nat → Nat} (h : C1 σ c s f) (hs : s' ≤ s) : C1 σ c s' f := fun j hj => h j (by omega)
theorem shrink_o (a : ab) (n : Nat) : sameO a (setS a 0 n) := ⟨fun i hi => setS_other (by omega), fun t ht => rfl, rfl⟩
theorem p_wipe (a : ab) (hW : WF a) : PI a (fun σ K => M_X5_wipe σ K) (fun σ K => M_X6_wipe σ K) := by
  have W' : WF (setS a 0 0) := hW.cgT (shrink_o a 0) (by show 0 ≤ 23; omega) (fun j hj => by
    have hj : j < 0 := hj
    omega)
  refine ⟨nI (a.1 0), setS a 0 0, fun σ K hI h => b_X5_wipe (b_X0_clear ?_), fun σ K hI h => b_X6_wipe ?_⟩
  · refine txt0 hI (shrink_o a 0) W' (fun c j q1 q2 => ?_) (wI_same _ _ _ _) (fun j hj => ?_) (fun s q1 q2 => ?_)
    · rcases Nat.decEq c 1 with q3 | q3
      · rw [wI_cell _ _ _ q3]
      · subst q3; rw [wI_place _ _ _ (by omega)]
    · have hj : j < 0 := hj
      omega
    · rw [hI.2.1.1.1]
      exact h _ q2
  · rw [hI.2.1.1]
    refine h _ (txt1 hI (shrink_o a 0) W' (fun c j q1 q2 => ?_) (wI_same _ _ _ _) (fun j hj => ?_))
    · rcases Nat.decEq c 0 with q3 | q3
      · rw [wI_cell _ _ _ q3]
      · subst q3; rw [wI_place _ _ _ (by omega)]
    · have hj : j < 0 := hj
      omega
theorem p_undo (a : ab) (hW : WF a) : PI a (fun σ K => M_X5_undo σ K) (fun σ K => M_X6_undo σ K) := by
  have hn := hW.1
  rcases Nat.eq_zero_or_pos (a.1 0) with hs | hs
  · refine ⟨-3, a, fun σ K hI h => b_X5_undo (b_X0_dropLast ⟨fun c => ?_, fun _ => h _ (Inv0.stale hI)⟩), fun σ K hI h => b_X6_undo ⟨fun c => ?_, fun _ => h σ hI⟩⟩
    · rw [hI.2.1.1.1, hs] at c
      exact absurd rfl c
    · rw [hI.2.1.1, hs] at c
      exact absurd rfl c
  · have em : nI (a.1 0) - 1 = nI (a.1 0 - 1) := pk_sub (b := 1) (by omega)
    have W' : WF (setS a 0 (a.1 0 - 1)) := hW.cgT (shrink_o a _) (by show a.1 0 - 1 ≤ 23; omega) (fun j hj => by
      have hj : j < a.1 0 - 1 := hj
      exact hW.2.1 j (by omega))
    refine ⟨nI (a.1 0 - 1), setS a 0 (a.1 0 - 1), fun σ K hI h => b_X5_undo (b_X0_dropLast ⟨fun _ => ?_, fun c => ?_⟩), fun σ K hI h => b_X6_undo ⟨fun _ => ?_, fun c => ?_⟩⟩
    · refine txt0 hI (shrink_o a _) W' (fun c j q1 q2 => ?_) ?_ (fun j hj => ?_) (fun s q1 q2 => ?_)
      · rcases Nat.decEq c 1 with q3 | q3
        · rw [wI_cell _ _ _ q3]
        · subst q3; rw [wI_place _ _ _ (by omega)]
      · rw [wI_same, hI.2.1.1.1]; exact em
      · have hj : j < a.1 0 - 1 := hj
        rw [wI_cell _ _ _ (by omega)]
        exact hI.2.1.1.2.1 j (by omega)
      · show K (s.1 1 2) (wI s 0 15 1)
        rw [q1]
        exact h _ q2
    · rw [hI.2.1.1.1] at c
      exact absurd c (nI_ne0 (by omega) (by omega))
    · rw [hI.2.1.1, em]
      refine h _ (txt1 hI (shrink_o a _) W' (fun c j q1 q2 => ?_) (wI_same _ _ _ _) (fun j hj => ?_))
      · rcases Nat.decEq c 0 with q3 | q3
        · rw [wI_cell _ _ _ q3]
        · subst q3; rw [wI_place _ _ _ (by omega)]
      · have hj : j < a.1 0 - 1 := hj
        rw [wI_cell _ _ _ (by omega)]
        exact hI.2.1.2 j (by omega)
    · rw [hI.2.1.1] at c
      exact absurd c (nI_ne0 (by omega) (by omega))
theorem p_fault (a : ab) (hW : WF a) : PI a (fun σ K => M_X5_fault σ K) (fun σ K => M_X6_fault σ K) := by
  refine ⟨tflt a, a, fun σ K hI h => b_X5_fault ?_, fun σ K hI h => b_X6_fault (k6_read hI (fun σ' I' _ _ => h σ' I'))⟩
  rw [hI.2.1.1.2.2.2.2.1]
  exact h σ hI

theorem wf_set1 {a : ab} {v : Nat} (hW : WF a) (hv : v ≤ 2) : WF (setS a 1 v) := by
  obtain ⟨w0, w1, w2, w3, w4, w5, w6, w7, w8, w9, w10, w11⟩ := hW
  refine ⟨w0, w1, hv, w3, w4, w5, w6, w7, w8, w9, w10, fun s hs => ?_⟩
  rw [setS_other (by omega), setS_other (by omega), setS_other (by omega)]
  exact w11 s hs
theorem wf_set2 {a : ab} {v : Nat} (hW : WF a) (hv : v ≤ 2) : WF (setS a 2 v) := by
  obtain ⟨w0, w1, w2, w3, w4, w5, w6, w7, w8, w9, w10, w11⟩ := hW
  refine ⟨w0, w1, w2, hv, w4, w5, w6, w7, w8, w9, w10, fun s hs => ?_⟩
  rw [setS_other (by omega), setS_other (by omega), setS_other (by omega)]
  exact w11 s hs
/-- a write to fields 12, 13 of the class's own cell -/
theorem sc_set {a a' : ab} {σ σ' : r_St} (hI : Inv0 a σ) (hW : WF a') (hT : sameT a a') (h3 : ∀ i, 3 ≤ i → a'.1 i = a.1 i) (h2 : a'.2 = a.2) (e : ∀ c j, 1 ≤ c → σ'.1 c j = σ.1 c j) (hs : Sc0 a' σ') (h15 : σ'.1 0 15 = 1) : Inv0 a' σ' := by
  obtain ⟨h0, h1, h2', h3', h4, h5, h6, h7, h8, h9⟩ := hI.2.1
  refine ⟨hW, ?_, fun hz => absurd hz (by rw [h15]; decide)⟩
  unfold B0
  rw [h3 3 (by omega), h3 4 (by omega), h3 5 (by omega), h3 6 (by omega), h3 7 (by omega), h3 8 (by omega), h3 9 (by omega), h2]
  exact ⟨(h0.mv (fun c j _ _ => e c j (by omega))).cg hT, hs, h2'.mv (fun c j _ _ => e c j (by omega)), h3'.mv (fun c j _ _ => e c j (by omega)), h4.mv (fun c j _ _ => e c j (by omega)), h5.mv (fun c j _ _ => e c j (by omega)), h6.mv (fun c j _ _ => e c j (by omega)), h7.mv (fun c j _ _ => e c j (by omega)), h8.mv (fun c j _ _ => e c j (by omega)), fun s hs => ((h9 s hs).mv (fun c j _ => e c j (by omega))).cg (fun i hi => h3 i (by omega)) (by rw [h2])⟩
theorem sc_set1 {a a' : ab} {σ σ' : r_St} (hI : Inv1 a σ) (hW : WF a') (hT : sameT a a') (h3 : ∀ i, 3 ≤ i → ¬ i = 10 → a'.1 i = a.1 i) (h2 : a'.2 = a.2) (e : ∀ c j, ¬ (c = 0 ∧ (j = 5 ∨ j = 6 ∨ j = 41)) → σ'.1 c j = σ.1 c j) (hs : Sc1 a' σ') : Inv1 a' σ' := by
  obtain ⟨h0, h1, h2', h3', h4, h5, h6, h7, h8, h9⟩ := hI.2
  refine ⟨hW, ?_⟩
  unfold B1 Tx1
  rw [h3 3 (by omega) (by omega), h3 4 (by omega) (by omega), h3 5 (by omega) (by omega), h3 6 (by omega) (by omega), h3 7 (by omega) (by omega), h3 8 (by omega) (by omega), h3 9 (by omega) (by omega), h2, hT.1]
  refine ⟨⟨?_, h0.2.mv (fun j _ => e _ j (by omega))⟩, hs, ⟨?_, h2'.2.1.mv (fun j _ => e _ j (by omega)), h2'.2.2.mv (fun j _ => e _ j (by omega))⟩, ⟨?_, h3'.2.mv (fun j _ => e _ j (by omega))⟩, ⟨?_, h4.2.1.mv (fun j _ => e _ j (by omega)), h4.2.2.mv (fun j _ => e _ j (by omega))⟩, ⟨?_, h5.2.1.mv (fun j _ => e _ j (by omega)), h5.2.2.1.mv (fun j _ => e _ j (by omega)), h5.2.2.2.mv (fun j _ => e _ j (by omega))⟩, ⟨?_, h6.2.1.mv (fun j _ => e _ j (by omega)), h6.2.2.mv (fun j _ => e _ j (by omega))⟩, ⟨?_, h7.2.1.mv (fun j _ => e _ j (by omega)), h7.2.2.mv (fun j _ => e _ j (by omega))⟩, ⟨?_, h8.2.1.mv (fun j _ => e _ j (by omega)), h8.2.2.1.mv (fun j _ => e _ j (by omega)), h8.2.2.2.mv (fun j _ => e _ j (by omega))⟩, fun s hs => ((h9 s hs).mv (fun c j _ _ => e c j (by omega))).cg (fun i hi => h3 i (by omega) (by omega)) (by rw [h2])⟩
  · rw [e 0 1 (by omega)]; exact h0.1
  · rw [e 3 0 (by omega)]; exact h2'.1
  · rw [e 3 1 (by omega)]; exact h3'.1
  · rw [e 3 2 (by omega)]; exact h4.1
  · rw [e 3 3 (by omega)]; exact h5.1
  · rw [e 3 4 (by omega)]; exact h6.1
  · rw [e 0 29 (by omega)]; exact h7.1
  · rw [e 0 32 (by omega)]; exact h8.1
theorem p_set (a : ab) (hW : WF a) (x1 x2 : Int32) : PI a (fun σ K => M_X5_set σ K x1 x2) (fun σ K => M_X6_set σ K x1 x2) := by
  by_cases c0 : ¬ IN x1 0 1
  · exact ⟨-2, a, fun σ K hI h => b_X5_set ⟨fun c => absurd c c0, fun _ => h σ hI⟩, fun σ K hI h => b_X6_set ⟨fun c => absurd c c0, fun _ => h σ hI⟩⟩
  have c0 := Classical.not_not.mp c0
  by_cases c1 : ¬ IN x2 0 2
  · exact ⟨-2, a, fun σ K hI h => b_X5_set ⟨fun _ => ⟨fun c => absurd c c1, fun _ => h σ hI⟩, fun c => absurd c0 c⟩, fun σ K hI h => b_X6_set ⟨fun _ => ⟨fun c => absurd c c1, fun _ => h σ hI⟩, fun c => absurd c0 c⟩⟩
  have c1 := Classical.not_not.mp c1
  obtain ⟨q0, l0, r0, rfl⟩ := (IN_iff (lo := 0) (hi := 1) (by decide) (by decide)).mp c0
  obtain ⟨q1, l1, r1, rfl⟩ := (IN_iff (lo := 0) (hi := 2) (by decide) (by decide)).mp c1
  have z : ∀ (τ : r_St) (p : Nat) (v : Int32) (c j : Nat), ¬ (c = 0 ∧ j = p) → (wI τ 0 p v).1 c j = τ.1 c j := by
    intro τ p v c j q
    rcases Nat.decEq c 0 with q3 | q3
    · rw [wI_cell _ _ _ q3]
    · subst q3; rw [wI_place _ _ _ (by omega)]
  rcases (show q0 = 0 ∨ q0 = 1 by omega) with rfl | rfl
  · refine ⟨nI (a.1 1), setS a 1 q1, fun σ K hI h => b_X5_set ⟨fun _ => ⟨fun _ => ⟨fun c => absurd rfl c, fun _ => ?_⟩, fun c => absurd c1 c⟩, fun c => absurd c0 c⟩, fun σ K hI h => b_X6_set ⟨fun _ => ⟨fun _ => ⟨fun c => absurd rfl c, fun _ => b_X6_set_34 ⟨fun c => absurd rfl c, fun _ => b_X6_set_48 ⟨fun _ => ?_, fun c => absurd c (by decide)⟩⟩⟩, fun c => absurd c1 c⟩, fun c => absurd c0 c⟩⟩
    · rw [hI.2.1.2.1.1]
      refine h _ (sc_set hI (wf_set1 hW r1) ⟨rfl, rfl⟩ (fun i hi => setS_other (by omega)) rfl (fun c j hc => by rw [wI_cell _ _ _ (by omega), wI_cell _ _ _ (by omega)]) ⟨?_, ?_, ?_⟩ (wI_same _ _ _ _))
      · rw [wI_place _ _ _ (by omega), wI_same]; rfl
      · rw [z _ _ _ _ _ (by omega), z _ _ _ _ _ (by omega)]; exact hI.2.1.2.1.2.1
      · rw [z _ _ _ _ _ (by omega), z _ _ _ _ _ (by omega)]; exact hI.2.1.2.1.2.2
    · rw [hI.2.2.1.1, hI.2.2.1.2.1]
      refine h _ (sc_set1 hI (wf_set1 hW r1) ⟨rfl, rfl⟩ (fun i hi _ => setS_other (by omega)) rfl (fun c j hc => by rw [z _ _ _ _ _ (by omega), z _ _ _ _ _ (by omega)]) ⟨?_, ?_, ?_⟩)
      · rw [wI_place _ _ _ (by omega), wI_same]; rfl
      · rw [wI_same]; rfl
      · rw [z _ _ _ _ _ (by omega), z _ _ _ _ _ (by omega)]; exact hI.2.2.1.2.2
  · refine ⟨nI (a.1 2), setS a 2 q1, fun σ K hI h => b_X5_set ⟨fun _ => ⟨fun _ => ⟨fun _ => ?_, fun c => absurd c (by decide)⟩, fun c => absurd c1 c⟩, fun c => absurd c0 c⟩, fun σ K hI h => b_X6_set ⟨fun _ => ⟨fun _ => ⟨fun _ => b_X6_set_34 ⟨fun _ => b_X6_set_48 ⟨fun c => absurd rfl c, fun _ => ?_⟩, fun c => absurd c (by decide)⟩, fun c => absurd c (by decide)⟩, fun c => absurd c1 c⟩, fun c => absurd c0 c⟩⟩
    · rw [hI.2.1.2.1.2.1]
      refine h _ (sc_set hI (wf_set2 hW r1) ⟨rfl, rfl⟩ (fun i hi => setS_other (by omega)) rfl (fun c j hc => by rw [wI_cell _ _ _ (by omega), wI_cell _ _ _ (by omega)]) ⟨?_, ?_, ?_⟩ (wI_same _ _ _ _))
      · rw [z _ _ _ _ _ (by omega), z _ _ _ _ _ (by omega)]; exact hI.2.1.2.1.1
      · rw [wI_place _ _ _ (by omega), wI_same]; rfl
      · rw [z _ _ _ _ _ (by omega), z _ _ _ _ _ (by omega)]; exact hI.2.1.2.1.2.2
    · rw [hI.2.2.1.1, hI.2.2.1.2.1]
      refine h _ (sc_set1 hI (wf_set2 hW r1) ⟨rfl, rfl⟩ (fun i hi _ => setS_other (by omega)) rfl (fun c j hc => by rw [z _ _ _ _ _ (by omega), z _ _ _ _ _ (by omega)]) ⟨?_, ?_, ?_⟩)
      · rw [wI_place _ _ _ (by omega), wI_same]; rfl
      · rw [wI_same]; rfl
      · rw [z _ _ _ _ _ (by omega), z _ _ _ _ _ (by omega)]; exact hI.2.2.1.2.2

theorem R3.less {σ σ' : r_St} {k room s s' : Nat} {f g h : Nat → Nat} (H : R3 σ k room s f g h) (hs : s' ≤ s) (e4 : σ'.1 k 4 = nI s') (e : ∀ c j, ¬ (c = k ∧ j = 4) → k ≤ c → c ≤ k + 3 → σ'.1 c j = σ.1 c j) : R3 σ' k room s' f g h := by
  refine ⟨by rw [e k 0 (by omega) (by omega) (by omega)]; exact H.1, e4, fun j hj => ?_⟩
  rw [e _ j (by omega) (by omega) (by omega), e _ j (by omega) (by omega) (by omega), e _ j (by omega) (by omega) (by omega)]
  exact H.2.2 j (by omega)
theorem wf_lsick {a : ab} {s : Nat} (hW : WF a) (hs : s ≤ a.1 3) : WF (setS a 3 s) := by
  obtain ⟨w0, w1, w2, w3, w4, w5, w6, w7, w8, w9, w10, w11⟩ := hW
  refine ⟨w0, w1, w2, w3, ⟨?_, fun j hj => w4.2 j (Nat.lt_of_lt_of_le hj hs)⟩, w5, w6, w7, w8, w9, w10, fun s2 hs2 => ?_⟩
  · show s ≤ 8
    exact Nat.le_trans hs w4.1
  · rw [setS_other (by omega), setS_other (by omega), setS_other (by omega)]
    exact w11 s2 hs2
theorem b0_lsick {a : ab} {σ : r_St} {s : Nat} (hI : Inv0 a σ) (hs : s ≤ a.1 3) : Inv0 (setS a 3 s) (wI (wI σ 4 4 (nI s)) 0 15 1) := by
  obtain ⟨hW, hB, hT⟩ := hI
  obtain ⟨h0, h1, h2, h3, h4, h5, h6, h7, h8, h9⟩ := hB
  have z : ∀ (τ : r_St) (b p : Nat) (v : Int32) (c j : Nat), ¬ (c = b ∧ j = p) → (wI τ b p v).1 c j = τ.1 c j := by
    intro τ b p v c j q
    rcases Nat.decEq c b with q3 | q3
    · rw [wI_cell _ _ _ q3]
    · subst q3; rw [wI_place _ _ _ (by omega)]
  have E : ∀ c j, ¬ (c = 0 ∧ j = 15) → ¬ (c = 4 ∧ j = 4) → (wI (wI σ 4 4 (nI s)) 0 15 1).1 c j = σ.1 c j := by
    intro c j q1 q2
    rw [z _ _ _ _ _ _ q1, z _ _ _ _ _ _ q2]
  exact ⟨wf_lsick hW hs, ⟨(h0.mv (fun c j _ _ => E c j (by omega) (by omega))).cg ⟨rfl, rfl⟩, h1.mv (fun j _ _ => E 0 j (by omega) (by omega)), h2.less hs (by rw [wI_cell _ _ _ (by omega), wI_same]; rfl) (fun c j q _ _ => E c j (by omega) q), h3.mv (fun c j _ _ => E c j (by omega) (by omega)), h4.mv (fun c j _ _ => E c j (by omega) (by omega)), h5.mv (fun c j _ _ => E c j (by omega) (by omega)), h6.mv (fun c j _ _ => E c j (by omega) (by omega)), h7.mv (fun c j _ _ => E c j (by omega) (by omega)), h8.mv (fun c j _ _ => E c j (by omega) (by omega)), fun s hs2 => ((h9 s hs2).mv (fun c j _ => E c j (by omega) (by omega))).cg (fun i hi => setS_other (by omega)) rfl⟩, fun hz => absurd hz (by rw [wI_same]; decide)⟩
theorem b1_lsick {a : ab} {σ σ1 : r_St} {s : Nat} (hI : Inv1 a σ) (hs : s ≤ a.1 3) (E : ∀ c j, ¬ (c = 3 ∧ j = 0) → σ1.1 c j = σ.1 c j) (es : σ1.1 3 0 = nI s) : Inv1 (setS a 3 s) σ1 := by
  obtain ⟨hW, hB⟩ := hI
  obtain ⟨h0, h1, h2, h3, h4, h5, h6, h7, h8, h9⟩ := hB
  exact ⟨wf_lsick hW hs, ⟨by rw [E 0 1 (by omega)]; exact h0.1, h0.2.mv (fun j _ => E 1 j (by omega))⟩, ⟨by rw [E 0 5 (by omega)]; exact h1.1, by rw [E 0 6 (by omega)]; exact h1.2.1, by rw [E 0 41 (by omega)]; exact h1.2.2⟩, ⟨es, (C1.le h2.2.1 hs).mv (fun j _ => E 4 j (by omega)), (C1.le h2.2.2 hs).mv (fun j _ => E 5 j (by omega))⟩, ⟨by rw [E 3 1 (by omega)]; exact h3.1, h3.2.mv (fun j _ => E 6 j (by omega))⟩, ⟨by rw [E 3 2 (by omega)]; exact h4.1, h4.2.1.mv (fun j _ => E 7 j (by omega)), h4.2.2.mv (fun j _ => E 8 j (by omega))⟩, ⟨by rw [E 3 3 (by omega)]; exact h5.1, h5.2.1.mv (fun j _ => E 9 j (by omega)), h5.2.2.1.mv (fun j _ => E 10 j (by omega)), h5.2.2.2.mv (fun j _ => E 11 j (by omega))⟩, ⟨by rw [E 3 4 (by omega)]; exact h6.1, h6.2.1.mv (fun j _ => E 12 j (by omega)), h6.2.2.mv (fun j _ => E 13 j (by omega))⟩, ⟨by rw [E 0 29 (by omega)]; exact h7.1, h7.2.1.mv (fun j _ => E 22 j (by omega)), h7.2.2.mv (fun j _ => E 23 j (by omega))⟩, ⟨by rw [E 0 32 (by omega)]; exact h8.1, h8.2.1.mv (fun j _ => E 24 j (by omega)), h8.2.2.1.mv (fun j _ => E 25 j (by omega)), h8.2.2.2.mv (fun j _ => E 26 j (by omega))⟩, fun s hs2 => ((h9 s hs2).mv (fun c j _ _ => E c j (by omega))).cg (fun i hi => setS_other (by omega)) rfl⟩
theorem wf_lleap {a : ab} {s : Nat} (hW : WF a) (hs : s ≤ a.1 4) : WF (setS a 4 s) := by
  obtain ⟨w0, w1, w2, w3, w4, w5, w6, w7, w8, w9, w10, w11⟩ := hW
  refine ⟨w0, w1, w2, w3, w4, ⟨?_, fun j hj => w5.2 j (Nat.lt_of_lt_of_le hj hs)⟩, w6, w7, w8, w9, w10, fun s2 hs2 => ?_⟩
  · show s ≤ 4
    exact Nat.le_trans hs w5.1
  · rw [setS_other (by omega), setS_other (by omega), setS_other (by omega)]
    exact w11 s2 hs2
theorem b0_lleap {a : ab} {σ : r_St} {s : Nat} (hI : Inv0 a σ) (hs : s ≤ a.1 4) : Inv0 (setS a 4 s) (wI (wI σ 8 4 (nI s)) 0 15 1) := by
  obtain ⟨hW, hB, hT⟩ := hI
  obtain ⟨h0, h1, h2, h3, h4, h5, h6, h7, h8, h9⟩ := hB
  have z : ∀ (τ : r_St) (b p : Nat) (v : Int32) (c j : Nat), ¬ (c = b ∧ j = p) → (wI τ b p v).1 c j = τ.1 c j := by
    intro τ b p v c j q
    rcases Nat.decEq c b with q3 | q3
    · rw [wI_cell _ _ _ q3]
    · subst q3; rw [wI_place _ _ _ (by omega)]
  have E : ∀ c j, ¬ (c = 0 ∧ j = 15) → ¬ (c = 8 ∧ j = 4) → (wI (wI σ 8 4 (nI s)) 0 15 1).1 c j = σ.1 c j := by
    intro c j q1 q2
    rw [z _ _ _ _ _ _ q1, z _ _ _ _ _ _ q2]
  exact ⟨wf_lleap hW hs, ⟨(h0.mv (fun c j _ _ => E c j (by omega) (by omega))).cg ⟨rfl, rfl⟩, h1.mv (fun j _ _ => E 0 j (by omega) (by omega)), h2.mv (fun c j _ _ => E c j (by omega) (by omega)), h3.less hs (by rw [wI_cell _ _ _ (by omega), wI_same]; rfl) (fun c j q _ _ => E c j (by omega) q), h4.mv (fun c j _ _ => E c j (by omega) (by omega)), h5.mv (fun c j _ _ => E c j (by omega) (by omega)), h6.mv (fun c j _ _ => E c j (by omega) (by omega)), h7.mv (fun c j _ _ => E c j (by omega) (by omega)), h8.mv (fun c j _ _ => E c j (by omega) (by omega)), fun s hs2 => ((h9 s hs2).mv (fun c j _ => E c j (by omega) (by omega))).cg (fun i hi => setS_other (by omega)) rfl⟩, fun hz => absurd hz (by rw [wI_same]; decide)⟩
theorem b1_lleap {a : ab} {σ σ1 : r_St} {s : Nat} (hI : Inv1 a σ) (hs : s ≤ a.1 4) (E : ∀ c j, ¬ (c = 3 ∧ j = 1) → σ1.1 c j = σ.1 c j) (es : σ1.1 3 1 = nI s) : Inv1 (setS a 4 s) σ1 := by
  obtain ⟨hW, hB⟩ := hI
  obtain ⟨h0, h1, h2, h3, h4, h5, h6, h7, h8, h9⟩ := hB
  exact ⟨wf_lleap hW hs, ⟨by rw [E 0 1 (by omega)]; exact h0.1, h0.2.mv (fun j _ => E 1 j (by omega))⟩, ⟨by rw [E 0 5 (by omega)]; exact h1.1, by rw [E 0 6 (by omega)]; exact h1.2.1, by rw [E 0 41 (by omega)]; exact h1.2.2⟩, ⟨by rw [E 3 0 (by omega)]; exact h2.1, h2.2.1.mv (fun j _ => E 4 j (by omega)), h2.2.2.mv (fun j _ => E 5 j (by omega))⟩, ⟨es, (C1.le h3.2 hs).mv (fun j _ => E 6 j (by omega))⟩, ⟨by rw [E 3 2 (by omega)]; exact h4.1, h4.2.1.mv (fun j _ => E 7 j (by omega)), h4.2.2.mv (fun j _ => E 8 j (by omega))⟩, ⟨by rw [E 3 3 (by omega)]; exact h5.1, h5.2.1.mv (fun j _ => E 9 j (by omega)), h5.2.2.1.mv (fun j _ => E 10 j (by omega)), h5.2.2.2.mv (fun j _ => E 11 j (by omega))⟩, ⟨by rw [E 3 4 (by omega)]; exact h6.1, h6.2.1.mv (fun j _ => E 12 j (by omega)), h6.2.2.mv (fun j _ => E 13 j (by omega))⟩, ⟨by rw [E 0 29 (by omega)]; exact h7.1, h7.2.1.mv (fun j _ => E 22 j (by omega)), h7.2.2.mv (fun j _ => E 23 j (by omega))⟩, ⟨by rw [E 0 32 (by omega)]; exact h8.1, h8.2.1.mv (fun j _ => E 24 j (by omega)), h8.2.2.1.mv (fun j _ => E 25 j (by omega)), h8.2.2.2.mv (fun j _ => E 26 j (by omega))⟩, fun s hs2 => ((h9 s hs2).mv (fun c j _ _ => E c j (by omega))).cg (fun i hi => setS_other (by omega)) rfl⟩
theorem wf_ledict {a : ab} {s : Nat} (hW : WF a) (hs : s ≤ a.1 5) : WF (setS a 5 s) := by
  obtain ⟨w0, w1, w2, w3, w4, w5, w6, w7, w8, w9, w10, w11⟩ := hW
  refine ⟨w0, w1, w2, w3, w4, w5, ⟨?_, fun j hj => w6.2 j (Nat.lt_of_lt_of_le hj hs)⟩, w7, w8, w9, w10, fun s2 hs2 => ?_⟩
  · show s ≤ 10
    exact Nat.le_trans hs w6.1
  · rw [setS_other (by omega), setS_other (by omega), setS_other (by omega)]
    exact w11 s2 hs2
theorem b0_ledict {a : ab} {σ : r_St} {s : Nat} (hI : Inv0 a σ) (hs : s ≤ a.1 5) : Inv0 (setS a 5 s) (wI (wI σ 12 4 (nI s)) 0 15 1) := by
  obtain ⟨hW, hB, hT⟩ := hI
  obtain ⟨h0, h1, h2, h3, h4, h5, h6, h7, h8, h9⟩ := hB
  have z : ∀ (τ : r_St) (b p : Nat) (v : Int32) (c j : Nat), ¬ (c = b ∧ j = p) → (wI τ b p v).1 c j = τ.1 c j := by
    intro τ b p v c j q
    rcases Nat.decEq c b with q3 | q3
    · rw [wI_cell _ _ _ q3]
    · subst q3; rw [wI_place _ _ _ (by omega)]
  have E : ∀ c j, ¬ (c = 0 ∧ j = 15) → ¬ (c = 12 ∧ j = 4) → (wI (wI σ 12 4 (nI s)) 0 15 1).1 c j = σ.1 c j := by
    intro c j q1 q2
    rw [z _ _ _ _ _ _ q1, z _ _ _ _ _ _ q2]
  exact ⟨wf_ledict hW hs, ⟨(h0.mv (fun c j _ _ => E c j (by omega) (by omega))).cg ⟨rfl, rfl⟩, h1.mv (fun j _ _ => E 0 j (by omega) (by omega)), h2.mv (fun c j _ _ => E c j (by omega) (by omega)), h3.mv (fun c j _ _ => E c j (by omega) (by omega)), h4.less hs (by rw [wI_cell _ _ _ (by omega), wI_same]; rfl) (fun c j q _ _ => E c j (by omega) q), h5.mv (fun c j _ _ => E c j (by omega) (by omega)), h6.mv (fun c j _ _ => E c j (by omega) (by omega)), h7.mv (fun c j _ _ => E c j (by omega) (by omega)), h8.mv (fun c j _ _ => E c j (by omega) (by omega)), fun s hs2 => ((h9 s hs2).mv (fun c j _ => E c j (by omega) (by omega))).cg (fun i hi => setS_other (by omega)) rfl⟩, fun hz => absurd hz (by rw [wI_same]; decide)⟩
theorem b1_ledict {a : ab} {σ σ1 : r_St} {s : Nat} (hI : Inv1 a σ) (hs : s ≤ a.1 5) (E : ∀ c j, ¬ (c = 3 ∧ j = 2) → σ1.1 c j = σ.1 c j) (es : σ1.1 3 2 = nI s) : Inv1 (setS a 5 s) σ1 := by
  obtain ⟨hW, hB⟩ := hI
  obtain ⟨h0, h1, h2, h3, h4, h5, h6, h7, h8, h9⟩ := hB
  exact ⟨wf_ledict hW hs, ⟨by rw [E 0 1 (by omega)]; exact h0.1, h0.2.mv (fun j _ => E 1 j (by omega))⟩, ⟨by rw [E 0 5 (by omega)]; exact h1.1, by rw [E 0 6 (by omega)]; exact h1.2.1, by rw [E 0 41 (by omega)]; exact h1.2.2⟩, ⟨by rw [E 3 0 (by omega)]; exact h2.1, h2.2.1.mv (fun j _ => E 4 j (by omega)), h2.2.2.mv (fun j _ => E 5 j (by omega))⟩, ⟨by rw [E 3 1 (by omega)]; exact h3.1, h3.2.mv (fun j _ => E 6 j (by omega))⟩, ⟨es, (C1.le h4.2.1 hs).mv (fun j _ => E 7 j (by omega)), (C1.le h4.2.2 hs).mv (fun j _ => E 8 j (by omega))⟩, ⟨by rw [E 3 3 (by omega)]; exact h5.1, h5.2.1.mv (fun j _ => E 9 j (by omega)), h5.2.2.1.mv (fun j _ => E 10 j (by omega)), h5.2.2.2.mv (fun j _ => E 11 j (by omega))⟩, ⟨by rw [E 3 4 (by omega)]; exact h6.1, h6.2.1.mv (fun j _ => E 12 j (by omega)), h6.2.2.mv (fun j _ => E 13 j (by omega))⟩, ⟨by rw [E 0 29 (by omega)]; exact h7.1, h7.2.1.mv (fun j _ => E 22 j (by omega)), h7.2.2.mv (fun j _ => E 23 j (by omega))⟩, ⟨by rw [E 0 32 (by omega)]; exact h8.1, h8.2.1.mv (fun j _ => E 24 j (by omega)), h8.2.2.1.mv (fun j _ => E 25 j (by omega)), h8.2.2.2.mv (fun j _ => E 26 j (by omega))⟩, fun s hs2 => ((h9 s hs2).mv (fun c j _ _ => E c j (by omega))).cg (fun i hi => setS_other (by omega)) rfl⟩
theorem wf_ldone {a : ab} {s : Nat} (hW : WF a) (hs : s ≤ a.1 6) : WF (setS a 6 s) := by
  obtain ⟨w0, w1, w2, w3, w4, w5, w6, w7, w8, w9, w10, w11⟩ := hW
  refine ⟨w0, w1, w2, w3, w4, w5, w6, ⟨?_, fun j hj => w7.2 j (Nat.lt_of_lt_of_le hj hs)⟩, w8, w9, w10, fun s2 hs2 => ?_⟩
  · show s ≤ 12
    exact Nat.le_trans hs w7.1
  · rw [setS_other (by omega), setS_other (by omega), setS_other (by omega)]
    exact w11 s2 hs2
theorem b0_ldone {a : ab} {σ : r_St} {s : Nat} (hI : Inv0 a σ) (hs : s ≤ a.1 6) : Inv0 (setS a 6 s) (wI (wI σ 16 4 (nI s)) 0 15 1) := by
  obtain ⟨hW, hB, hT⟩ := hI
  obtain ⟨h0, h1, h2, h3, h4, h5, h6, h7, h8, h9⟩ := hB
  have z : ∀ (τ : r_St) (b p : Nat) (v : Int32) (c j : Nat), ¬ (c = b ∧ j = p) → (wI τ b p v).1 c j = τ.1 c j := by
    intro τ b p v c j q
    rcases Nat.decEq c b with q3 | q3
    · rw [wI_cell _ _ _ q3]
    · subst q3; rw [wI_place _ _ _ (by omega)]
  have E : ∀ c j, ¬ (c = 0 ∧ j = 15) → ¬ (c = 16 ∧ j = 4) → (wI (wI σ 16 4 (nI s)) 0 15 1).1 c j = σ.1 c j := by
    intro c j q1 q2
    rw [z _ _ _ _ _ _ q1, z _ _ _ _ _ _ q2]
  exact ⟨wf_ldone hW hs, ⟨(h0.mv (fun c j _ _ => E c j (by omega) (by omega))).cg ⟨rfl, rfl⟩, h1.mv (fun j _ _ => E 0 j (by omega) (by omega)), h2.mv (fun c j _ _ => E c j (by omega) (by omega)), h3.mv (fun c j _ _ => E c j (by omega) (by omega)), h4.mv (fun c j _ _ => E c j (by omega) (by omega)), h5.less hs (by rw [wI_cell _ _ _ (by omega), wI_same]; rfl) (fun c j q _ _ => E c j (by omega) q), h6.mv (fun c j _ _ => E c j (by omega) (by omega)), h7.mv (fun c j _ _ => E c j (by omega) (by omega)), h8.mv (fun c j _ _ => E c j (by omega) (by omega)), fun s hs2 => ((h9 s hs2).mv (fun c j _ => E c j (by omega) (by omega))).cg (fun i hi => setS_other (by omega)) rfl⟩, fun hz => absurd hz (by rw [wI_same]; decide)⟩
theorem b1_ldone {a : ab} {σ σ1 : r_St} {s : Nat} (hI : Inv1 a σ) (hs : s ≤ a.1 6) (E : ∀ c j, ¬ (c = 3 ∧ j = 3) → σ1.1 c j = σ.1 c j) (es : σ1.1 3 3 = nI s) : Inv1 (setS a 6 s) σ1 := by
  obtain ⟨hW, hB⟩ := hI
  obtain ⟨h0, h1, h2, h3, h4, h5, h6, h7, h8, h9⟩ := hB
  exact ⟨wf_ldone hW hs, ⟨by rw [E 0 1 (by omega)]; exact h0.1, h0.2.mv (fun j _ => E 1 j (by omega))⟩, ⟨by rw [E 0 5 (by omega)]; exact h1.1, by rw [E 0 6 (by omega)]; exact h1.2.1, by rw [E 0 41 (by omega)]; exact h1.2.2⟩, ⟨by rw [E 3 0 (by omega)]; exact h2.1, h2.2.1.mv (fun j _ => E 4 j (by omega)), h2.2.2.mv (fun j _ => E 5 j (by omega))⟩, ⟨by rw [E 3 1 (by omega)]; exact h3.1, h3.2.mv (fun j _ => E 6 j (by omega))⟩, ⟨by rw [E 3 2 (by omega)]; exact h4.1, h4.2.1.mv (fun j _ => E 7 j (by omega)), h4.2.2.mv (fun j _ => E 8 j (by omega))⟩, ⟨es, (C1.le h5.2.1 hs).mv (fun j _ => E 9 j (by omega)), (C1.le h5.2.2.1 hs).mv (fun j _ => E 10 j (by omega)), (C1.le h5.2.2.2 hs).mv (fun j _ => E 11 j (by omega))⟩, ⟨by rw [E 3 4 (by omega)]; exact h6.1, h6.2.1.mv (fun j _ => E 12 j (by omega)), h6.2.2.mv (fun j _ => E 13 j (by omega))⟩, ⟨by rw [E 0 29 (by omega)]; exact h7.1, h7.2.1.mv (fun j _ => E 22 j (by omega)), h7.2.2.mv (fun j _ => E 23 j (by omega))⟩, ⟨by rw [E 0 32 (by omega)]; exact h8.1, h8.2.1.mv (fun j _ => E 24 j (by omega)), h8.2.2.1.mv (fun j _ => E 25 j (by omega)), h8.2.2.2.mv (fun j _ => E 26 j (by omega))⟩, fun s hs2 => ((h9 s hs2).mv (fun c j _ _ => E c j (by omega))).cg (fun i hi => setS_other (by omega)) rfl⟩
theorem wf_ltask {a : ab} {s : Nat} (hW : WF a) (hs : s ≤ a.1 7) : WF (setS a 7 s) := by
  obtain ⟨w0, w1, w2, w3, w4, w5, w6, w7, w8, w9, w10, w11⟩ := hW
  refine ⟨w0, w1, w2, w3, w4, w5, w6, w7, ⟨?_, fun j hj => w8.2 j (Nat.lt_of_lt_of_le hj hs)⟩, w9, w10, fun s2 hs2 => ?_⟩
  · show s ≤ 6
    exact Nat.le_trans hs w8.1
  · rw [setS_other (by omega), setS_other (by omega), setS_other (by omega)]
    exact w11 s2 hs2
theorem b0_ltask {a : ab} {σ : r_St} {s : Nat} (hI : Inv0 a σ) (hs : s ≤ a.1 7) : Inv0 (setS a 7 s) (wI (wI σ 20 4 (nI s)) 0 15 1) := by
  obtain ⟨hW, hB, hT⟩ := hI
  obtain ⟨h0, h1, h2, h3, h4, h5, h6, h7, h8, h9⟩ := hB
  have z : ∀ (τ : r_St) (b p : Nat) (v : Int32) (c j : Nat), ¬ (c = b ∧ j = p) → (wI τ b p v).1 c j = τ.1 c j := by
    intro τ b p v c j q
    rcases Nat.decEq c b with q3 | q3
    · rw [wI_cell _ _ _ q3]
    · subst q3; rw [wI_place _ _ _ (by omega)]
  have E : ∀ c j, ¬ (c = 0 ∧ j = 15) → ¬ (c = 20 ∧ j = 4) → (wI (wI σ 20 4 (nI s)) 0 15 1).1 c j = σ.1 c j := by
    intro c j q1 q2
    rw [z _ _ _ _ _ _ q1, z _ _ _ _ _ _ q2]
  exact ⟨wf_ltask hW hs, ⟨(h0.mv (fun c j _ _ => E c j (by omega) (by omega))).cg ⟨rfl, rfl⟩, h1.mv (fun j _ _ => E 0 j (by omega) (by omega)), h2.mv (fun c j _ _ => E c j (by omega) (by omega)), h3.mv (fun c j _ _ => E c j (by omega) (by omega)), h4.mv (fun c j _ _ => E c j (by omega) (by omega)), h5.mv (fun c j _ _ => E c j (by omega) (by omega)), h6.less hs (by rw [wI_cell _ _ _ (by omega), wI_same]; rfl) (fun c j q _ _ => E c j (by omega) q), h7.mv (fun c j _ _ => E c j (by omega) (by omega)), h8.mv (fun c j _ _ => E c j (by omega) (by omega)), fun s hs2 => ((h9 s hs2).mv (fun c j _ => E c j (by omega) (by omega))).cg (fun i hi => setS_other (by omega)) rfl⟩, fun hz => absurd hz (by rw [wI_same]; decide)⟩
theorem b1_ltask {a : ab} {σ σ1 : r_St} {s : Nat} (hI : Inv1 a σ) (hs : s ≤ a.1 7) (E : ∀ c j, ¬ (c = 3 ∧ j = 4) → σ1.1 c j = σ.1 c j) (es : σ1.1 3 4 = nI s) : Inv1 (setS a 7 s) σ1 := by
  obtain ⟨hW, hB⟩ := hI
  obtain ⟨h0, h1, h2, h3, h4, h5, h6, h7, h8, h9⟩ := hB
  exact ⟨wf_ltask hW hs, ⟨by rw [E 0 1 (by omega)]; exact h0.1, h0.2.mv (fun j _ => E 1 j (by omega))⟩, ⟨by rw [E 0 5 (by omega)]; exact h1.1, by rw [E 0 6 (by omega)]; exact h1.2.1, by rw [E 0 41 (by omega)]; exact h1.2.2⟩, ⟨by rw [E 3 0 (by omega)]; exact h2.1, h2.2.1.mv (fun j _ => E 4 j (by omega)), h2.2.2.mv (fun j _ => E 5 j (by omega))⟩, ⟨by rw [E 3 1 (by omega)]; exact h3.1, h3.2.mv (fun j _ => E 6 j (by omega))⟩, ⟨by rw [E 3 2 (by omega)]; exact h4.1, h4.2.1.mv (fun j _ => E 7 j (by omega)), h4.2.2.mv (fun j _ => E 8 j (by omega))⟩, ⟨by rw [E 3 3 (by omega)]; exact h5.1, h5.2.1.mv (fun j _ => E 9 j (by omega)), h5.2.2.1.mv (fun j _ => E 10 j (by omega)), h5.2.2.2.mv (fun j _ => E 11 j (by omega))⟩, ⟨es, (C1.le h6.2.1 hs).mv (fun j _ => E 12 j (by omega)), (C1.le h6.2.2 hs).mv (fun j _ => E 13 j (by omega))⟩, ⟨by rw [E 0 29 (by omega)]; exact h7.1, h7.2.1.mv (fun j _ => E 22 j (by omega)), h7.2.2.mv (fun j _ => E 23 j (by omega))⟩, ⟨by rw [E 0 32 (by omega)]; exact h8.1, h8.2.1.mv (fun j _ => E 24 j (by omega)), h8.2.2.1.mv (fun j _ => E 25 j (by omega)), h8.2.2.2.mv (fun j _ => E 26 j (by omega))⟩, fun s hs2 => ((h9 s hs2).mv (fun c j _ _ => E c j (by omega))).cg (fun i hi => setS_other (by omega)) rfl⟩
theorem wf_lseen {a : ab} {s : Nat} (hW : WF a) (hs : s ≤ a.1 8) : WF (setS a 8 s) := by
  obtain ⟨w0, w1, w2, w3, w4, w5, w6, w7, w8, w9, w10, w11⟩ := hW
  refine ⟨w0, w1, w2, w3, w4, w5, w6, w7, w8, ⟨?_, fun j hj => w9.2 j (Nat.lt_of_lt_of_le hj hs)⟩, w10, fun s2 hs2 => ?_⟩
  · show s ≤ 8
    exact Nat.le_trans hs w9.1
  · rw [setS_other (by omega), setS_other (by omega), setS_other (by omega)]
    exact w11 s2 hs2
theorem b0_lseen {a : ab} {σ : r_St} {s : Nat} (hI : Inv0 a σ) (hs : s ≤ a.1 8) : Inv0 (setS a 8 s) (wI σ 24 4 (nI s)) := by
  obtain ⟨hW, hB, hT⟩ := hI
  obtain ⟨h0, h1, h2, h3, h4, h5, h6, h7, h8, h9⟩ := hB
  have z : ∀ (τ : r_St) (b p : Nat) (v : Int32) (c j : Nat), ¬ (c = b ∧ j = p) → (wI τ b p v).1 c j = τ.1 c j := by
    intro τ b p v c j q
    rcases Nat.decEq c b with q3 | q3
    · rw [wI_cell _ _ _ q3]
    · subst q3; rw [wI_place _ _ _ (by omega)]
  have E : ∀ c j, ¬ (c = 0 ∧ j = 15) → ¬ (c = 24 ∧ j = 4) → (wI σ 24 4 (nI s)).1 c j = σ.1 c j := by
    intro c j q1 q2
    rw [z _ _ _ _ _ _ q2]
  have E15 : (wI σ 24 4 (nI s)).1 0 15 = σ.1 0 15 := z _ _ _ _ _ _ (by omega)
  exact ⟨wf_lseen hW hs, ⟨(h0.mv (fun c j _ _ => E c j (by omega) (by omega))).cg ⟨rfl, rfl⟩, h1.mv (fun j _ _ => E 0 j (by omega) (by omega)), h2.mv (fun c j _ _ => E c j (by omega) (by omega)), h3.mv (fun c j _ _ => E c j (by omega) (by omega)), h4.mv (fun c j _ _ => E c j (by omega) (by omega)), h5.mv (fun c j _ _ => E c j (by omega) (by omega)), h6.mv (fun c j _ _ => E c j (by omega) (by omega)), h7.less hs (wI_same _ _ _ _) (fun c j q _ _ => E c j (by omega) q), h8.mv (fun c j _ _ => E c j (by omega) (by omega)), fun s hs2 => ((h9 s hs2).mv (fun c j _ => E c j (by omega) (by omega))).cg (fun i hi => setS_other (by omega)) rfl⟩, fun hz => (hT (by rw [← E15]; exact hz)).mv ⟨rfl, rfl, rfl, rfl, rfl, rfl, rfl, rfl, rfl, rfl, rfl⟩ (fun c j _ _ => E c j (by omega) (by omega))⟩
theorem b1_lseen {a : ab} {σ σ1 : r_St} {s : Nat} (hI : Inv1 a σ) (hs : s ≤ a.1 8) (E : ∀ c j, ¬ (c = 0 ∧ j = 29) → σ1.1 c j = σ.1 c j) (es : σ1.1 0 29 = nI s) : Inv1 (setS a 8 s) σ1 := by
  obtain ⟨hW, hB⟩ := hI
  obtain ⟨h0, h1, h2, h3, h4, h5, h6, h7, h8, h9⟩ := hB
  exact ⟨wf_lseen hW hs, ⟨by rw [E 0 1 (by omega)]; exact h0.1, h0.2.mv (fun j _ => E 1 j (by omega))⟩, ⟨by rw [E 0 5 (by omega)]; exact h1.1, by rw [E 0 6 (by omega)]; exact h1.2.1, by rw [E 0 41 (by omega)]; exact h1.2.2⟩, ⟨by rw [E 3 0 (by omega)]; exact h2.1, h2.2.1.mv (fun j _ => E 4 j (by omega)), h2.2.2.mv (fun j _ => E 5 j (by omega))⟩, ⟨by rw [E 3 1 (by omega)]; exact h3.1, h3.2.mv (fun j _ => E 6 j (by omega))⟩, ⟨by rw [E 3 2 (by omega)]; exact h4.1, h4.2.1.mv (fun j _ => E 7 j (by omega)), h4.2.2.mv (fun j _ => E 8 j (by omega))⟩, ⟨by rw [E 3 3 (by omega)]; exact h5.1, h5.2.1.mv (fun j _ => E 9 j (by omega)), h5.2.2.1.mv (fun j _ => E 10 j (by omega)), h5.2.2.2.mv (fun j _ => E 11 j (by omega))⟩, ⟨by rw [E 3 4 (by omega)]; exact h6.1, h6.2.1.mv (fun j _ => E 12 j (by omega)), h6.2.2.mv (fun j _ => E 13 j (by omega))⟩, ⟨es, (C1.le h7.2.1 hs).mv (fun j _ => E 22 j (by omega)), (C1.le h7.2.2 hs).mv (fun j _ => E 23 j (by omega))⟩, ⟨by rw [E 0 32 (by omega)]; exact h8.1, h8.2.1.mv (fun j _ => E 24 j (by omega)), h8.2.2.1.mv (fun j _ => E 25 j (by omega)), h8.2.2.2.mv (fun j _ => E 26 j (by omega))⟩, fun s hs2 => ((h9 s hs2).mv (fun c j _ _ => E c j (by omega))).cg (fun i hi => setS_other (by omega)) rfl⟩
theorem wf_lbook {a : ab} {s : Nat} (hW : WF a) (hs : s ≤ a.1 9) : WF (setS a 9 s) := by
  obtain ⟨w0, w1, w2, w3, w4, w5, w6, w7, w8, w9, w10, w11⟩ := hW
  refine ⟨w0, w1, w2, w3, w4, w5, w6, w7, w8, w9, ⟨?_, fun j hj => w10.2 j (Nat.lt_of_lt_of_le hj hs)⟩, fun s2 hs2 => ?_⟩
  · show s ≤ 8
    exact Nat.le_trans hs w10.1
  · rw [setS_other (by omega), setS_other (by omega), setS_other (by omega)]
    exact w11 s2 hs2
theorem b0_lbook {a : ab} {σ : r_St} {s : Nat} (hI : Inv0 a σ) (hs : s ≤ a.1 9) : Inv0 (setS a 9 s) (wI σ 28 4 (nI s)) := by
  obtain ⟨hW, hB, hT⟩ := hI
  obtain ⟨h0, h1, h2, h3, h4, h5, h6, h7, h8, h9⟩ := hB
  have z : ∀ (τ : r_St) (b p : Nat) (v : Int32) (c j : Nat), ¬ (c = b ∧ j = p) → (wI τ b p v).1 c j = τ.1 c j := by
    intro τ b p v c j q
    rcases Nat.decEq c b with q3 | q3
    · rw [wI_cell _ _ _ q3]
    · subst q3; rw [wI_place _ _ _ (by omega)]
  have E : ∀ c j, ¬ (c = 0 ∧ j = 15) → ¬ (c = 28 ∧ j = 4) → (wI σ 28 4 (nI s)).1 c j = σ.1 c j := by
    intro c j q1 q2
    rw [z _ _ _ _ _ _ q2]
  have E15 : (wI σ 28 4 (nI s)).1 0 15 = σ.1 0 15 := z _ _ _ _ _ _ (by omega)
  exact ⟨wf_lbook hW hs, ⟨(h0.mv (fun c j _ _ => E c j (by omega) (by omega))).cg ⟨rfl, rfl⟩, h1.mv (fun j _ _ => E 0 j (by omega) (by omega)), h2.mv (fun c j _ _ => E c j (by omega) (by omega)), h3.mv (fun c j _ _ => E c j (by omega) (by omega)), h4.mv (fun c j _ _ => E c j (by omega) (by omega)), h5.mv (fun c j _ _ => E c j (by omega) (by omega)), h6.mv (fun c j _ _ => E c j (by omega) (by omega)), h7.mv (fun c j _ _ => E c j (by omega) (by omega)), h8.less hs (wI_same _ _ _ _) (fun c j q _ _ => E c j (by omega) q), fun s hs2 => ((h9 s hs2).mv (fun c j _ => E c j (by omega) (by omega))).cg (fun i hi => setS_other (by omega)) rfl⟩, fun hz => (hT (by rw [← E15]; exact hz)).mv ⟨rfl, rfl, rfl, rfl, rfl, rfl, rfl, rfl, rfl, rfl, rfl⟩ (fun c j _ _ => E c j (by omega) (by omega))⟩
theorem b1_lbook {a : ab} {σ σ1 : r_St} {s : Nat} (hI : Inv1 a σ) (hs : s ≤ a.1 9) (E : ∀ c j, ¬ (c = 0 ∧ j = 32) → σ1.1 c j = σ.1 c j) (es : σ1.1 0 32 = nI s) : Inv1 (setS a 9 s) σ1 := by
  obtain ⟨hW, hB⟩ := hI
  obtain ⟨h0, h1, h2, h3, h4, h5, h6, h7, h8, h9⟩ := hB
  exact ⟨wf_lbook hW hs, ⟨by rw [E 0 1 (by omega)]; exact h0.1, h0.2.mv (fun j _ => E 1 j (by omega))⟩, ⟨by rw [E 0 5 (by omega)]; exact h1.1, by rw [E 0 6 (by omega)]; exact h1.2.1, by rw [E 0 41 (by omega)]; exact h1.2.2⟩, ⟨by rw [E 3 0 (by omega)]; exact h2.1, h2.2.1.mv (fun j _ => E 4 j (by omega)), h2.2.2.mv (fun j _ => E 5 j (by omega))⟩, ⟨by rw [E 3 1 (by omega)]; exact h3.1, h3.2.mv (fun j _ => E 6 j (by omega))⟩, ⟨by rw [E 3 2 (by omega)]; exact h4.1, h4.2.1.mv (fun j _ => E 7 j (by omega)), h4.2.2.mv (fun j _ => E 8 j (by omega))⟩, ⟨by rw [E 3 3 (by omega)]; exact h5.1, h5.2.1.mv (fun j _ => E 9 j (by omega)), h5.2.2.1.mv (fun j _ => E 10 j (by omega)), h5.2.2.2.mv (fun j _ => E 11 j (by omega))⟩, ⟨by rw [E 3 4 (by omega)]; exact h6.1, h6.2.1.mv (fun j _ => E 12 j (by omega)), h6.2.2.mv (fun j _ => E 13 j (by omega))⟩, ⟨by rw [E 0 29 (by omega)]; exact h7.1, h7.2.1.mv (fun j _ => E 22 j (by omega)), h7.2.2.mv (fun j _ => E 23 j (by omega))⟩, ⟨es, (C1.le h8.2.1 hs).mv (fun j _ => E 24 j (by omega)), (C1.le h8.2.2.1 hs).mv (fun j _ => E 25 j (by omega)), (C1.le h8.2.2.2 hs).mv (fun j _ => E 26 j (by omega))⟩, fun s hs2 => ((h9 s hs2).mv (fun c j _ _ => E c j (by omega))).cg (fun i hi => setS_other (by omega)) rfl⟩
theorem p_back (a : ab) (hW : WF a) (x1 : Int32) : PI a (fun σ K => M_X5_back σ K x1) (fun σ K => M_X6_back σ K x1) := by
  have z : ∀ (τ : r_St) (b p : Nat) (v : Int32) (c j : Nat), ¬ (c = b ∧ j = p) → (wI τ b p v).1 c j = τ.1 c j := by
    intro τ b p v c j q
    rcases Nat.decEq c b with q3 | q3
    · rw [wI_cell _ _ _ q3]
    · subst q3; rw [wI_place _ _ _ (by omega)]
  by_cases c0 : ¬ IN x1 0 4
  · refine ⟨-2, a, fun σ K hI h => b_X5_back ⟨fun c => ?_, fun c => ?_, fun c => ?_, fun c => ?_, fun c => ?_, fun _ => h σ hI⟩, fun σ K hI h => b_X6_back ⟨fun c => absurd c c0, fun _ => h σ hI⟩⟩
    · exact absurd (by rw [c]; exact (IN_iff (lo := 0) (hi := 4) (by decide) (by decide)).mpr ⟨0, by omega, by omega, rfl⟩) c0
    · exact absurd (by rw [c]; exact (IN_iff (lo := 0) (hi := 4) (by decide) (by decide)).mpr ⟨1, by omega, by omega, rfl⟩) c0
    · exact absurd (by rw [c]; exact (IN_iff (lo := 0) (hi := 4) (by decide) (by decide)).mpr ⟨2, by omega, by omega, rfl⟩) c0
    · exact absurd (by rw [c]; exact (IN_iff (lo := 0) (hi := 4) (by decide) (by decide)).mpr ⟨3, by omega, by omega, rfl⟩) c0
    · exact absurd (by rw [c]; exact (IN_iff (lo := 0) (hi := 4) (by decide) (by decide)).mpr ⟨4, by omega, by omega, rfl⟩) c0
  have c0 := Classical.not_not.mp c0
  obtain ⟨q, l, r, rfl⟩ := (IN_iff (lo := 0) (hi := 4) (by decide) (by decide)).mp c0
  have ne : ∀ i j : Nat, i ≤ 4 → j ≤ 4 → ¬ i = j → ¬ nI i = nI j := fun i j h1 h2 h3 => nI_ne (by omega) (by omega) h3
  rcases (show q = 0 ∨ q = 1 ∨ q = 2 ∨ q = 3 ∨ q = 4 by omega) with rfl | rfl | rfl | rfl | rfl
  · have hn : a.1 3 ≤ 8 := hW.2.2.2.2.1.1
    rcases Nat.eq_zero_or_pos (a.1 3) with hs | hs
    · refine ⟨-3, a, fun σ K hI h => b_X5_back ⟨fun _ => k3_drop isRows_4 (hI.2.1.2.2.1).2.1 (fun _ => h _ (Inv0.stale hI)) (fun c => absurd c (by omega)) (by omega), fun c => absurd c (ne 0 1 (by decide) (by decide) (by decide)), fun c => absurd c (ne 0 2 (by decide) (by decide) (by decide)), fun c => absurd c (ne 0 3 (by decide) (by decide) (by decide)), fun c => absurd c (ne 0 4 (by decide) (by decide) (by decide)), fun c => absurd rfl c.1⟩, fun σ K hI h => b_X6_back ⟨fun _ => ⟨0, rfl, by omega, fun c => ?_, fun _ => h σ hI⟩, fun c => absurd c0 c⟩⟩
      rw [hI.2.2.2.1.1, hs] at c
      exact absurd rfl c
    · have em : nI (a.1 3) - 1 = nI (a.1 3 - 1) := pk_sub (b := 1) (by omega)
      refine ⟨nI (a.1 3 - 1), setS a 3 (a.1 3 - 1), fun σ K hI h => b_X5_back ⟨fun _ => k3_drop isRows_4 (hI.2.1.2.2.1).2.1 (fun c => absurd c (by omega)) (fun _ => h _ (b0_lsick hI (by omega))) (by omega), fun c => absurd c (ne 0 1 (by decide) (by decide) (by decide)), fun c => absurd c (ne 0 2 (by decide) (by decide) (by decide)), fun c => absurd c (ne 0 3 (by decide) (by decide) (by decide)), fun c => absurd c (ne 0 4 (by decide) (by decide) (by decide)), fun c => absurd rfl c.1⟩, fun σ K hI h => b_X6_back ⟨fun _ => ⟨0, rfl, by omega, fun c => ⟨0, rfl, by omega, 0, rfl, by omega, 0, rfl, by omega, ?_⟩, fun c => ?_⟩, fun c => absurd c0 c⟩⟩
      · rw [wI_same, hI.2.2.2.1.1, em]
        exact h _ (b1_lsick hI (by omega) (fun c j q => z _ _ _ _ _ _ q) (wI_same _ _ _ _))
      · rw [hI.2.2.2.1.1] at c
        exact absurd c (nI_ne0 hs (by omega))
  · have hn : a.1 4 ≤ 4 := hW.2.2.2.2.2.1.1
    rcases Nat.eq_zero_or_pos (a.1 4) with hs | hs
    · refine ⟨-3, a, fun σ K hI h => b_X5_back ⟨fun c => absurd c (ne 1 0 (by decide) (by decide) (by decide)), fun _ => k3_drop isRows_8 (hI.2.1.2.2.2.1).2.1 (fun _ => h _ (Inv0.stale hI)) (fun c => absurd c (by omega)) (by omega), fun c => absurd c (ne 1 2 (by decide) (by decide) (by decide)), fun c => absurd c (ne 1 3 (by decide) (by decide) (by decide)), fun c => absurd c (ne 1 4 (by decide) (by decide) (by decide)), fun c => absurd rfl c.2.1⟩, fun σ K hI h => b_X6_back ⟨fun _ => ⟨1, rfl, by omega, fun c => ?_, fun _ => h σ hI⟩, fun c => absurd c0 c⟩⟩
      rw [hI.2.2.2.2.1.1, hs] at c
      exact absurd rfl c
    · have em : nI (a.1 4) - 1 = nI (a.1 4 - 1) := pk_sub (b := 1) (by omega)
      refine ⟨nI (a.1 4 - 1), setS a 4 (a.1 4 - 1), fun σ K hI h => b_X5_back ⟨fun c => absurd c (ne 1 0 (by decide) (by decide) (by decide)), fun _ => k3_drop isRows_8 (hI.2.1.2.2.2.1).2.1 (fun c => absurd c (by omega)) (fun _ => h _ (b0_lleap hI (by omega))) (by omega), fun c => absurd c (ne 1 2 (by decide) (by decide) (by decide)), fun c => absurd c (ne 1 3 (by decide) (by decide) (by decide)), fun c => absurd c (ne 1 4 (by decide) (by decide) (by decide)), fun c => absurd rfl c.2.1⟩, fun σ K hI h => b_X6_back ⟨fun _ => ⟨1, rfl, by omega, fun c => ⟨1, rfl, by omega, 1, rfl, by omega, 1, rfl, by omega, ?_⟩, fun c => ?_⟩, fun c => absurd c0 c⟩⟩
      · rw [wI_same, hI.2.2.2.2.1.1, em]
        exact h _ (b1_lleap hI (by omega) (fun c j q => z _ _ _ _ _ _ q) (wI_same _ _ _ _))
      · rw [hI.2.2.2.2.1.1] at c
        exact absurd c (nI_ne0 hs (by omega))
  · have hn : a.1 5 ≤ 10 := hW.2.2.2.2.2.2.1.1
    rcases Nat.eq_zero_or_pos (a.1 5) with hs | hs
    · refine ⟨-3, a, fun σ K hI h => b_X5_back ⟨fun c => absurd c (ne 2 0 (by decide) (by decide) (by decide)), fun c => absurd c (ne 2 1 (by decide) (by decide) (by decide)), fun _ => k3_drop isRows_12 (hI.2.1.2.2.2.2.1).2.1 (fun _ => h _ (Inv0.stale hI)) (fun c => absurd c (by omega)) (by omega), fun c => absurd c (ne 2 3 (by decide) (by decide) (by decide)), fun c => absurd c (ne 2 4 (by decide) (by decide) (by decide)), fun c => absurd rfl c.2.2.1⟩, fun σ K hI h => b_X6_back ⟨fun _ => ⟨2, rfl, by omega, fun c => ?_, fun _ => h σ hI⟩, fun c => absurd c0 c⟩⟩
      rw [hI.2.2.2.2.2.1.1, hs] at c
      exact absurd rfl c
    · have em : nI (a.1 5) - 1 = nI (a.1 5 - 1) := pk_sub (b := 1) (by omega)
      refine ⟨nI (a.1 5 - 1), setS a 5 (a.1 5 - 1), fun σ K hI h => b_X5_back ⟨fun c => absurd c (ne 2 0 (by decide) (by decide) (by decide)), fun c => absurd c (ne 2 1 (by decide) (by decide) (by decide)), fun _ => k3_drop isRows_12 (hI.2.1.2.2.2.2.1).2.1 (fun c => absurd c (by omega)) (fun _ => h _ (b0_ledict hI (by omega))) (by omega), fun c => absurd c (ne 2 3 (by decide) (by decide) (by decide)), fun c => absurd c (ne 2 4 (by decide) (by decide) (by decide)), fun c => absurd rfl c.2.2.1⟩, fun σ K hI h => b_X6_back ⟨fun _ => ⟨2, rfl, by omega, fun c => ⟨2, rfl, by omega, 2, rfl, by omega, 2, rfl, by omega, ?_⟩, fun c => ?_⟩, fun c => absurd c0 c⟩⟩
      · rw [wI_same, hI.2.2.2.2.2.1.1, em]
        exact h _ (b1_ledict hI (by omega) (fun c j q => z _ _ _ _ _ _ q) (wI_same _ _ _ _))
      · rw [hI.2.2.2.2.2.1.1] at c
        exact absurd c (nI_ne0 hs (by omega))
  · have hn : a.1 6 ≤ 12 := hW.2.2.2.2.2.2.2.1.1
    rcases Nat.eq_zero_or_pos (a.1 6) with hs | hs
    · refine ⟨-3, a, fun σ K hI h => b_X5_back ⟨fun c => absurd c (ne 3 0 (by decide) (by decide) (by decide)), fun c => absurd c (ne 3 1 (by decide) (by decide) (by decide)), fun c => absurd c (ne 3 2 (by decide) (by decide) (by decide)), fun _ => k3_drop isRows_16 (hI.2.1.2.2.2.2.2.1).2.1 (fun _ => h _ (Inv0.stale hI)) (fun c => absurd c (by omega)) (by omega), fun c => absurd c (ne 3 4 (by decide) (by decide) (by decide)), fun c => absurd rfl c.2.2.2.1⟩, fun σ K hI h => b_X6_back ⟨fun _ => ⟨3, rfl, by omega, fun c => ?_, fun _ => h σ hI⟩, fun c => absurd c0 c⟩⟩
      rw [hI.2.2.2.2.2.2.1.1, hs] at c
      exact absurd rfl c
    · have em : nI (a.1 6) - 1 = nI (a.1 6 - 1) := pk_sub (b := 1) (by omega)
      refine ⟨nI (a.1 6 - 1), setS a 6 (a.1 6 - 1), fun σ K hI h => b_X5_back ⟨fun c => absurd c (ne 3 0 (by decide) (by decide) (by decide)), fun c => absurd c (ne 3 1 (by decide) (by decide) (by decide)), fun c => absurd c (ne 3 2 (by decide) (by decide) (by decide)), fun _ => k3_drop isRows_16 (hI.2.1.2.2.2.2.2.1).2.1 (fun c => absurd c (by omega)) (fun _ => h _ (b0_ldone hI (by omega))) (by omega), fun c => absurd c (ne 3 4 (by decide) (by decide) (by decide)), fun c => absurd rfl c.2.2.2.1⟩, fun σ K hI h => b_X6_back ⟨fun _ => ⟨3, rfl, by omega, fun c => ⟨3, rfl, by omega, 3, rfl, by omega, 3, rfl, by omega, ?_⟩, fun c => ?_⟩, fun c => absurd c0 c⟩⟩
      · rw [wI_same, hI.2.2.2.2.2.2.1.1, em]
        exact h _ (b1_ldone hI (by omega) (fun c j q => z _ _ _ _ _ _ q) (wI_same _ _ _ _))
      · rw [hI.2.2.2.2.2.2.1.1] at c
        exact absurd c (nI_ne0 hs (by omega))
  · have hn : a.1 7 ≤ 6 := hW.2.2.2.2.2.2.2.2.1.1
    rcases Nat.eq_zero_or_pos (a.1 7) with hs | hs
    · refine ⟨-3, a, fun σ K hI h => b_X5_back ⟨fun c => absurd c (ne 4 0 (by decide) (by decide) (by decide)), fun c => absurd c (ne 4 1 (by decide) (by decide) (by decide)), fun c => absurd c (ne 4 2 (by decide) (by decide) (by decide)), fun c => absurd c (ne 4 3 (by decide) (by decide) (by decide)), fun _ => k3_drop isRows_20 (hI.2.1.2.2.2.2.2.2.1).2.1 (fun _ => h _ (Inv0.stale hI)) (fun c => absurd c (by omega)) (by omega), fun c => absurd rfl c.2.2.2.2⟩, fun σ K hI h => b_X6_back ⟨fun _ => ⟨4, rfl, by omega, fun c => ?_, fun _ => h σ hI⟩, fun c => absurd c0 c⟩⟩
      rw [hI.2.2.2.2.2.2.2.1.1, hs] at c
      exact absurd rfl c
    · have em : nI (a.1 7) - 1 = nI (a.1 7 - 1) := pk_sub (b := 1) (by omega)
      refine ⟨nI (a.1 7 - 1), setS a 7 (a.1 7 - 1), fun σ K hI h => b_X5_back ⟨fun c => absurd c (ne 4 0 (by decide) (by decide) (by decide)), fun c => absurd c (ne 4 1 (by decide) (by decide) (by decide)), fun c => absurd c (ne 4 2 (by decide) (by decide) (by decide)), fun c => absurd c (ne 4 3 (by decide) (by decide) (by decide)), fun _ => k3_drop isRows_20 (hI.2.1.2.2.2.2.2.2.1).2.1 (fun c => absurd c (by omega)) (fun _ => h _ (b0_ltask hI (by omega))) (by omega), fun c => absurd rfl c.2.2.2.2⟩, fun σ K hI h => b_X6_back ⟨fun _ => ⟨4, rfl, by omega, fun c => ⟨4, rfl, by omega, 4, rfl, by omega, 4, rfl, by omega, ?_⟩, fun c => ?_⟩, fun c => absurd c0 c⟩⟩
      · rw [wI_same, hI.2.2.2.2.2.2.2.1.1, em]
        exact h _ (b1_ltask hI (by omega) (fun c j q => z _ _ _ _ _ _ q) (wI_same _ _ _ _))
      · rw [hI.2.2.2.2.2.2.2.1.1] at c
        exact absurd c (nI_ne0 hs (by omega))
theorem p_forget (a : ab) (hW : WF a) (x1 : Int32) : PI a (fun σ K => M_X5_forget σ K x1) (fun σ K => M_X6_forget σ K x1) := by
  have z : ∀ (τ : r_St) (b p : Nat) (v : Int32) (c j : Nat), ¬ (c = b ∧ j = p) → (wI τ b p v).1 c j = τ.1 c j := by
    intro τ b p v c j q
    rcases Nat.decEq c b with q3 | q3
    · rw [wI_cell _ _ _ q3]
    · subst q3; rw [wI_place _ _ _ (by omega)]
  by_cases c0 : ¬ IN x1 0 1
  · exact ⟨-2, a, fun σ K hI h => b_X5_forget ⟨fun c => absurd c c0, fun _ => h σ hI⟩, fun σ K hI h => b_X6_forget ⟨fun c => absurd c c0, fun _ => h σ hI⟩⟩
  have c0 := Classical.not_not.mp c0
  obtain ⟨q, l, r, rfl⟩ := (IN_iff (lo := 0) (hi := 1) (by decide) (by decide)).mp c0
  rcases (show q = 0 ∨ q = 1 by omega) with rfl | rfl
  · refine ⟨nI (a.1 8), setS a 8 0, fun σ K hI h => b_X5_forget ⟨fun _ => ⟨fun c => absurd rfl c, fun _ => b_X3_clear isRows_24 ?_⟩, fun c => absurd c0 c⟩, fun σ K hI h => b_X6_forget ⟨fun _ => ⟨fun c => absurd rfl c, fun _ => b_X6_forget_25 ⟨fun c => absurd rfl c, fun _ => b_X6_forget_39 ⟨fun _ => ?_, fun c => absurd c (by decide)⟩⟩⟩, fun c => absurd c0 c⟩⟩
    · rw [hI.2.1.2.2.2.2.2.2.2.1.2.1]
      exact h _ (b0_lseen hI (s := 0) (by omega))
    · rw [hI.2.2.2.2.2.2.2.2.1.1]
      refine h _ (b1_lseen hI (s := 0) (by omega) (fun c j q => ?_) ?_)
      · by_cases q2 : c = 0 ∧ j = 32
        · rw [q2.1, q2.2, wI_same]
        · rw [z _ _ _ _ _ _ q2, z _ _ _ _ _ _ q]
      · rw [wI_place _ _ _ (by omega), wI_same]; rfl
  · refine ⟨nI (a.1 9), setS a 9 0, fun σ K hI h => b_X5_forget ⟨fun _ => ⟨fun _ => b_X3_clear isRows_28 ?_, fun c => absurd c (by decide)⟩, fun c => absurd c0 c⟩, fun σ K hI h => b_X6_forget ⟨fun _ => ⟨fun _ => b_X6_forget_25 ⟨fun _ => b_X6_forget_39 ⟨fun c => absurd rfl c, fun _ => ?_⟩, fun c => absurd c (by decide)⟩, fun c => absurd c (by decide)⟩, fun c => absurd c0 c⟩⟩
    · rw [hI.2.1.2.2.2.2.2.2.2.2.1.2.1]
      exact h _ (b0_lbook hI (s := 0) (by omega))
    · rw [hI.2.2.2.2.2.2.2.2.2.1.1]
      refine h _ (b1_lbook hI (s := 0) (by omega) (fun c j q => ?_) ?_)
      · rw [z _ _ _ _ _ _ q]
        by_cases q2 : c = 0 ∧ j = 29
        · rw [q2.1, q2.2, wI_same]
        · rw [z _ _ _ _ _ _ q2]
      · rw [wI_same]; rfl
def cnt (a : ab) (x : Int32) : Int32 := if x = 0 then nI (dd a) else if x = 1 then nI (a.1 0) else if x = 2 then nI (a.1 3) else if x = 3 then nI (a.1 4) else if x = 4 then nI (a.1 5) else if x = 5 then nI (a.1 6) else if x = 6 then nI (a.1 7) else if x = 7 then nI (a.1 8) + nI (a.1 9) else if x = 8 then nI (a.1 10) else -2
theorem c5_count {a : ab} {σ : r_St} {K : Int32 → r_St → Prop} {x1 : Int32} (hI : Inv0 a σ) (h : ∀ σ', Inv0 a σ' → K (cnt a x1) σ') : M_X5_count σ K x1 := by
  obtain ⟨h0, h1, h2, h3, h4, h5, h6, h7, h8, h9⟩ := hI.2.1
  have h := h σ hI
  unfold cnt at h
  refine b_X5_count ⟨fun c => ?_, fun c => ?_, fun c => ?_, fun c => ?_, fun c => ?_, fun c => ?_, fun c => ?_, fun c => ?_, fun c => ?_, fun c => ?_⟩
  · subst c; rw [h0.2.2.1]; exact h
  · subst c; rw [h0.1]; exact h
  · subst c; rw [h2.2.1]; exact h
  · subst c; rw [h3.2.1]; exact h
  · subst c; rw [h4.2.1]; exact h
  · subst c; rw [h5.2.1]; exact h
  · subst c; rw [h6.2.1]; exact h
  · subst c; rw [h7.2.1, h8.2.1]; exact h
  · subst c; rw [h1.2.2]; exact h
  · obtain ⟨c0, c1, c2, c3, c4, c5, c6, c7, c8⟩ := c
    rw [if_neg c0, if_neg c1, if_neg c2, if_neg c3, if_neg c4, if_neg c5, if_neg c6, if_neg c7, if_neg c8] at h
    exact h
theorem c6_count {a : ab} {σ : r_St} {K : Int32 → r_St → Prop} {x1 : Int32} (hI : Inv1 a σ) (h : ∀ σ', Inv1 a σ' → K (cnt a x1) σ') : M_X6_count σ K x1 := by
  obtain ⟨h0, h1, h2, h3, h4, h5, h6, h7, h8, h9⟩ := hI.2
  have h' := h σ hI
  unfold cnt at h' h
  refine b_X6_count ⟨fun c => ?_, fun c => ?_, fun c => ⟨0, by rw [c]; rfl, by omega, ?_⟩, fun c => ⟨1, by rw [c]; rfl, by omega, ?_⟩, fun c => ⟨2, by rw [c]; rfl, by omega, ?_⟩, fun c => ⟨3, by rw [c]; rfl, by omega, ?_⟩, fun c => ⟨4, by rw [c]; rfl, by omega, ?_⟩, fun c => ?_, fun c => ?_, fun c => ?_⟩
  · subst c
    refine k6_read hI (fun s I f R => ?_)
    rw [R.1]
    exact h s I
  · subst c; rw [h0.1]; exact h'
  · subst c; rw [h2.1]; exact h'
  · subst c; rw [h3.1]; exact h'
  · subst c; rw [h4.1]; exact h'
  · subst c; rw [h5.1]; exact h'
  · subst c; rw [h6.1]; exact h'
  · subst c; rw [h7.1, h8.1]; exact h'
  · subst c; rw [h1.2.2]; exact h'
  · obtain ⟨c0, c1, c2, c3, c4, c5, c6, c7, c8⟩ := c
    rw [if_neg c0, if_neg c1, if_neg c2, if_neg c3, if_neg c4, if_neg c5, if_neg c6, if_neg c7, if_neg c8] at h'
    exact h'
theorem p_count (a : ab) (hW : WF a) (x1 : Int32) : PI a (fun σ K => M_X5_count σ K x1) (fun σ K => M_X6_count σ K x1) :=
  ⟨cnt a x1, a, fun σ K hI h => c5_count hI h, fun σ K hI h => c6_count hI h⟩
