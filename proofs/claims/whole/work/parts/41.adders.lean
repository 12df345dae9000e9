/-! ===== acts that add a row (written by adders.py) ===== -/
def ad_sick (a : ab) (q0 q1 : Nat) : ab := (fun s => setS (setT (setT a 1 s q0) 2 s q1) 3 (s + 1)) (a.1 3)
theorem wf_sick {a : ab} {q0 q1 : Nat} (hW : WF a) (hs : a.1 3 < 8) (r0 : q0 ≤ 1) (r1 : q1 ≤ 39) : WF (ad_sick a q0 q1) := by
  obtain ⟨w0, w1, w2, w3, w4, w5, w6, w7, w8, w9, w10, w11⟩ := hW
  refine ⟨w0, w1, w2, w3, ⟨?_, fun j hj => ?_⟩, w5, w6, w7, w8, w9, w10, fun s hs2 => ?_⟩
  · show a.1 3 + 1 ≤ 8; omega
  · have hj : j < a.1 3 + 1 := hj
    show (if j = a.1 3 then q0 else a.2.1 1 j) < 2 ∧ (if j = a.1 3 then q1 else a.2.1 2 j) < 40
    rcases (show j < a.1 3 ∨ j = a.1 3 by omega) with q | q
    · have e : ¬ j = a.1 3 := by omega
      simp only [if_neg e]
      exact w4.2 j q
    · simp only [if_pos q]
      omega
  · have := w11 s hs2
    have e : ∀ i, 20 ≤ i → (ad_sick a q0 q1).1 i = a.1 i := fun i hi => setS_other (by omega)
    rw [e _ (by omega), e _ (by omega), e _ (by omega)]
    exact this
theorem b0_sick {a : ab} {σ : r_St} {q0 q1 : Nat} (hI : Inv0 a σ) (hs : a.1 3 < 8) (r0 : q0 ≤ 1) (r1 : q1 ≤ 39) : Inv0 (ad_sick a q0 q1) (wI (addS σ 4 (a.1 3) (nI q0) (nI q1) 0) 0 15 1) := by
  obtain ⟨hW, hB, hT⟩ := hI
  obtain ⟨h0, h1, h2, h3, h4, h5, h6, h7, h8, h9⟩ := hB
  have E : ∀ c j, ¬ (c = 0 ∧ j = 15) → (c < 4 ∨ 7 < c) → (wI (addS σ 4 (a.1 3) (nI q0) (nI q1) 0) 0 15 1).1 c j = σ.1 c j := by
    intro c j q1 q2
    rcases Nat.decEq c 0 with q3 | q3
    · rw [wI_cell _ _ _ q3, addS_cell q2]
    · subst q3
      rw [wI_place _ _ _ (by omega), addS_cell q2]
  refine ⟨wf_sick hW hs r0 r1, ⟨(h0.mv (fun c j _ _ => E c j (by omega) (by omega))).cg ⟨rfl, rfl⟩, h1.mv (fun j _ _ => E 0 j (by omega) (by omega)), ?_, h3.mv (fun c j _ _ => E c j (by omega) (by omega)), h4.mv (fun c j _ _ => E c j (by omega) (by omega)), h5.mv (fun c j _ _ => E c j (by omega) (by omega)), h6.mv (fun c j _ _ => E c j (by omega) (by omega)), h7.mv (fun c j _ _ => E c j (by omega) (by omega)), h8.mv (fun c j _ _ => E c j (by omega) (by omega)), fun s hs2 => ((h9 s hs2).mv (fun c j _ => E c j (by omega) (by omega))).cg (fun i hi => setS_other (by omega)) rfl⟩, fun hz => absurd hz (by rw [wI_same]; decide)⟩
  exact R3.mv (R3.add h2 (fun j hj => if_neg (by omega)) (fun j hj => if_neg (by omega)) (fun j hj => rfl) (if_pos rfl) (if_pos rfl) rfl) (fun c j _ _ => congrFun (wI_cell _ _ _ (by omega)) j)
theorem b1_sick {a : ab} {σ : r_St} {q0 q1 : Nat} (hI : Inv1 a σ) (hs : a.1 3 < 8) (r0 : q0 ≤ 1) (r1 : q1 ≤ 39) : Inv1 (ad_sick a q0 q1) (wI (wI (wI σ 4 (a.1 3) (nI q0)) 5 (a.1 3) (nI q1)) 3 0 (nI (a.1 3 + 1))) := by
  obtain ⟨hW, hB⟩ := hI
  obtain ⟨h0, h1, h2, h3, h4, h5, h6, h7, h8, h9⟩ := hB
  have E : ∀ c j, ¬ (c = 3 ∧ j = 0) → ¬ c = 4 → ¬ c = 5 → (wI (wI (wI σ 4 (a.1 3) (nI q0)) 5 (a.1 3) (nI q1)) 3 0 (nI (a.1 3 + 1))).1 c j = σ.1 c j := by
    intro c j q0 e0 e1
    have z : ∀ τ : r_St, ∀ v : Int32, (wI τ 3 0 v).1 c j = τ.1 c j := by
      intro τ v
      rcases Nat.decEq c 3 with q3 | q3
      · rw [wI_cell _ _ _ q3]
      · subst q3; rw [wI_place _ _ _ (by omega)]
    rw [z, wI_cell _ _ _ e1, wI_cell _ _ _ e0]
  refine ⟨wf_sick hW hs r0 r1, ⟨by rw [E 0 1 (by omega) (by omega) (by omega)]; exact h0.1, h0.2.mv (fun j _ => E 1 j (by omega) (by omega) (by omega))⟩, ⟨by rw [E 0 5 (by omega) (by omega) (by omega)]; exact h1.1, by rw [E 0 6 (by omega) (by omega) (by omega)]; exact h1.2.1, by rw [E 0 41 (by omega) (by omega) (by omega)]; exact h1.2.2⟩, ⟨wI_same _ _ _ _, C1.add h2.2.1 (fun j hj => if_neg (by omega)) (if_pos rfl) ?_ (fun j hj => ?_), C1.add h2.2.2 (fun j hj => if_neg (by omega)) (if_pos rfl) ?_ (fun j hj => ?_)⟩, ⟨by rw [E 3 1 (by omega) (by omega) (by omega)]; exact h3.1, h3.2.mv (fun j _ => E 6 j (by omega) (by omega) (by omega))⟩, ⟨by rw [E 3 2 (by omega) (by omega) (by omega)]; exact h4.1, h4.2.1.mv (fun j _ => E 7 j (by omega) (by omega) (by omega)), h4.2.2.mv (fun j _ => E 8 j (by omega) (by omega) (by omega))⟩, ⟨by rw [E 3 3 (by omega) (by omega) (by omega)]; exact h5.1, h5.2.1.mv (fun j _ => E 9 j (by omega) (by omega) (by omega)), h5.2.2.1.mv (fun j _ => E 10 j (by omega) (by omega) (by omega)), h5.2.2.2.mv (fun j _ => E 11 j (by omega) (by omega) (by omega))⟩, ⟨by rw [E 3 4 (by omega) (by omega) (by omega)]; exact h6.1, h6.2.1.mv (fun j _ => E 12 j (by omega) (by omega) (by omega)), h6.2.2.mv (fun j _ => E 13 j (by omega) (by omega) (by omega))⟩, ⟨by rw [E 0 29 (by omega) (by omega) (by omega)]; exact h7.1, h7.2.1.mv (fun j _ => E 22 j (by omega) (by omega) (by omega)), h7.2.2.mv (fun j _ => E 23 j (by omega) (by omega) (by omega))⟩, ⟨by rw [E 0 32 (by omega) (by omega) (by omega)]; exact h8.1, h8.2.1.mv (fun j _ => E 24 j (by omega) (by omega) (by omega)), h8.2.2.1.mv (fun j _ => E 25 j (by omega) (by omega) (by omega)), h8.2.2.2.mv (fun j _ => E 26 j (by omega) (by omega) (by omega))⟩, fun s hs2 => ((h9 s hs2).mv (fun c j _ _ => E c j (by omega) (by omega) (by omega))).cg (fun i hi => setS_other (by omega)) rfl⟩
  · rw [wI_cell _ _ _ (by omega), wI_cell _ _ _ (by omega), wI_same]
  · rw [wI_cell _ _ _ (by omega), wI_cell _ _ _ (by omega), wI_place _ _ _ (by omega)]
  · rw [wI_cell _ _ _ (by omega), wI_same]
  · rw [wI_cell _ _ _ (by omega), wI_place _ _ _ (by omega), wI_cell _ _ _ (by omega)]
theorem p_sick (a : ab) (hW : WF a) (x1 x2 : Int32) : PI a (fun σ K => M_X5_sick σ K x1 x2) (fun σ K => M_X6_sick σ K x1 x2) := by
  by_cases c0 : ¬ IN x1 0 1
  · exact ⟨-2, a, fun σ K hI h => b_X5_sick (⟨fun c => absurd c c0, fun _ => h σ hI⟩), fun σ K hI h => b_X6_sick (⟨fun c => absurd c c0, fun _ => h σ hI⟩)⟩
  have c0 := Classical.not_not.mp c0
  by_cases c1 : ¬ IN x2 0 39
  · exact ⟨-2, a, fun σ K hI h => b_X5_sick (⟨fun _ => ⟨fun c => absurd c c1, fun _ => h σ hI⟩, fun c => absurd c0 c⟩), fun σ K hI h => b_X6_sick (⟨fun _ => ⟨fun c => absurd c c1, fun _ => h σ hI⟩, fun c => absurd c0 c⟩)⟩
  have c1 := Classical.not_not.mp c1
  obtain ⟨q0, l0, r0, rfl⟩ := (IN_iff (lo := 0) (hi := 1) (by decide) (by decide)).mp c0
  obtain ⟨q1, l1, r1, rfl⟩ := (IN_iff (lo := 0) (hi := 39) (by decide) (by decide)).mp c1
  have hn : a.1 3 ≤ 8 := hW.2.2.2.2.1.1
  rcases (show a.1 3 = 8 ∨ a.1 3 < 8 by omega) with hs | hs
  · refine ⟨-4, a, fun σ K hI h => b_X5_sick (⟨fun _ => ⟨fun _ => k3_add isRows_4 (hI.2.1.2.2.1).1 (hI.2.1.2.2.1).2.1 (fun _ => (h _ (Inv0.stale hI))) (fun c => absurd c (by omega)) (by omega), fun c => absurd c1 c⟩, fun c => absurd c0 c⟩), fun σ K hI h => b_X6_sick (⟨fun _ => ⟨fun _ => ⟨fun c => ?_, fun _ => h σ hI⟩, fun c => absurd c1 c⟩, fun c => absurd c0 c⟩)⟩
    rw [hI.2.2.2.1.1, hs] at c
    exact absurd rfl c
  · refine ⟨nI (a.1 3 + 1), ad_sick a q0 q1, fun σ K hI h => b_X5_sick (⟨fun _ => ⟨fun _ => k3_add isRows_4 (hI.2.1.2.2.1).1 (hI.2.1.2.2.1).2.1 (fun c => absurd c (by omega)) (fun _ => h _ (b0_sick hI hs r0 r1)) (by omega), fun c => absurd c1 c⟩, fun c => absurd c0 c⟩), fun σ K hI h => b_X6_sick (⟨fun _ => ⟨fun _ => ⟨fun _ => ⟨a.1 3, hI.2.2.2.1.1, hs, ⟨a.1 3, hI.2.2.2.1.1, hs, ?_⟩⟩, fun c => ?_⟩, fun c => absurd c1 c⟩, fun c => absurd c0 c⟩)⟩
    · rw [hI.2.2.2.1.1, nI_1]
      exact h _ (b1_sick hI hs r0 r1)
    · rw [hI.2.2.2.1.1] at c
      have := nI_inj (b := 8) (by omega) (by decide) c
      omega
def ad_leap (a : ab) (q0 : Nat) : ab := (fun s => setS (setT a 3 s q0) 4 (s + 1)) (a.1 4)
theorem wf_leap {a : ab} {q0 : Nat} (hW : WF a) (hs : a.1 4 < 4) (r0 : q0 ≤ 39) : WF (ad_leap a q0) := by
  obtain ⟨w0, w1, w2, w3, w4, w5, w6, w7, w8, w9, w10, w11⟩ := hW
  refine ⟨w0, w1, w2, w3, w4, ⟨?_, fun j hj => ?_⟩, w6, w7, w8, w9, w10, fun s hs2 => ?_⟩
  · show a.1 4 + 1 ≤ 4; omega
  · have hj : j < a.1 4 + 1 := hj
    show (if j = a.1 4 then q0 else a.2.1 3 j) < 40
    rcases (show j < a.1 4 ∨ j = a.1 4 by omega) with q | q
    · have e : ¬ j = a.1 4 := by omega
      simp only [if_neg e]
      exact w5.2 j q
    · simp only [if_pos q]
      omega
  · have := w11 s hs2
    have e : ∀ i, 20 ≤ i → (ad_leap a q0).1 i = a.1 i := fun i hi => setS_other (by omega)
    rw [e _ (by omega), e _ (by omega), e _ (by omega)]
    exact this
theorem b0_leap {a : ab} {σ : r_St} {q0 : Nat} (hI : Inv0 a σ) (hs : a.1 4 < 4) (r0 : q0 ≤ 39) : Inv0 (ad_leap a q0) (wI (addS σ 8 (a.1 4) (nI q0) 0 0) 0 15 1) := by
  obtain ⟨hW, hB, hT⟩ := hI
  obtain ⟨h0, h1, h2, h3, h4, h5, h6, h7, h8, h9⟩ := hB
  have E : ∀ c j, ¬ (c = 0 ∧ j = 15) → (c < 8 ∨ 11 < c) → (wI (addS σ 8 (a.1 4) (nI q0) 0 0) 0 15 1).1 c j = σ.1 c j := by
    intro c j q1 q2
    rcases Nat.decEq c 0 with q3 | q3
    · rw [wI_cell _ _ _ q3, addS_cell q2]
    · subst q3
      rw [wI_place _ _ _ (by omega), addS_cell q2]
  refine ⟨wf_leap hW hs r0, ⟨(h0.mv (fun c j _ _ => E c j (by omega) (by omega))).cg ⟨rfl, rfl⟩, h1.mv (fun j _ _ => E 0 j (by omega) (by omega)), h2.mv (fun c j _ _ => E c j (by omega) (by omega)), ?_, h4.mv (fun c j _ _ => E c j (by omega) (by omega)), h5.mv (fun c j _ _ => E c j (by omega) (by omega)), h6.mv (fun c j _ _ => E c j (by omega) (by omega)), h7.mv (fun c j _ _ => E c j (by omega) (by omega)), h8.mv (fun c j _ _ => E c j (by omega) (by omega)), fun s hs2 => ((h9 s hs2).mv (fun c j _ => E c j (by omega) (by omega))).cg (fun i hi => setS_other (by omega)) rfl⟩, fun hz => absurd hz (by rw [wI_same]; decide)⟩
  exact R3.mv (R3.add h3 (fun j hj => if_neg (by omega)) (fun j hj => rfl) (fun j hj => rfl) (if_pos rfl) rfl rfl) (fun c j _ _ => congrFun (wI_cell _ _ _ (by omega)) j)
theorem b1_leap {a : ab} {σ : r_St} {q0 : Nat} (hI : Inv1 a σ) (hs : a.1 4 < 4) (r0 : q0 ≤ 39) : Inv1 (ad_leap a q0) (wI (wI σ 6 (a.1 4) (nI q0)) 3 1 (nI (a.1 4 + 1))) := by
  obtain ⟨hW, hB⟩ := hI
  obtain ⟨h0, h1, h2, h3, h4, h5, h6, h7, h8, h9⟩ := hB
  have E : ∀ c j, ¬ (c = 3 ∧ j = 1) → ¬ c = 6 → (wI (wI σ 6 (a.1 4) (nI q0)) 3 1 (nI (a.1 4 + 1))).1 c j = σ.1 c j := by
    intro c j q0 e0
    have z : ∀ τ : r_St, ∀ v : Int32, (wI τ 3 1 v).1 c j = τ.1 c j := by
      intro τ v
      rcases Nat.decEq c 3 with q3 | q3
      · rw [wI_cell _ _ _ q3]
      · subst q3; rw [wI_place _ _ _ (by omega)]
    rw [z, wI_cell _ _ _ e0]
  refine ⟨wf_leap hW hs r0, ⟨by rw [E 0 1 (by omega) (by omega)]; exact h0.1, h0.2.mv (fun j _ => E 1 j (by omega) (by omega))⟩, ⟨by rw [E 0 5 (by omega) (by omega)]; exact h1.1, by rw [E 0 6 (by omega) (by omega)]; exact h1.2.1, by rw [E 0 41 (by omega) (by omega)]; exact h1.2.2⟩, ⟨by rw [E 3 0 (by omega) (by omega)]; exact h2.1, h2.2.1.mv (fun j _ => E 4 j (by omega) (by omega)), h2.2.2.mv (fun j _ => E 5 j (by omega) (by omega))⟩, ⟨wI_same _ _ _ _, C1.add h3.2 (fun j hj => if_neg (by omega)) (if_pos rfl) ?_ (fun j hj => ?_)⟩, ⟨by rw [E 3 2 (by omega) (by omega)]; exact h4.1, h4.2.1.mv (fun j _ => E 7 j (by omega) (by omega)), h4.2.2.mv (fun j _ => E 8 j (by omega) (by omega))⟩, ⟨by rw [E 3 3 (by omega) (by omega)]; exact h5.1, h5.2.1.mv (fun j _ => E 9 j (by omega) (by omega)), h5.2.2.1.mv (fun j _ => E 10 j (by omega) (by omega)), h5.2.2.2.mv (fun j _ => E 11 j (by omega) (by omega))⟩, ⟨by rw [E 3 4 (by omega) (by omega)]; exact h6.1, h6.2.1.mv (fun j _ => E 12 j (by omega) (by omega)), h6.2.2.mv (fun j _ => E 13 j (by omega) (by omega))⟩, ⟨by rw [E 0 29 (by omega) (by omega)]; exact h7.1, h7.2.1.mv (fun j _ => E 22 j (by omega) (by omega)), h7.2.2.mv (fun j _ => E 23 j (by omega) (by omega))⟩, ⟨by rw [E 0 32 (by omega) (by omega)]; exact h8.1, h8.2.1.mv (fun j _ => E 24 j (by omega) (by omega)), h8.2.2.1.mv (fun j _ => E 25 j (by omega) (by omega)), h8.2.2.2.mv (fun j _ => E 26 j (by omega) (by omega))⟩, fun s hs2 => ((h9 s hs2).mv (fun c j _ _ => E c j (by omega) (by omega))).cg (fun i hi => setS_other (by omega)) rfl⟩
  · rw [wI_cell _ _ _ (by omega), wI_same]
  · rw [wI_cell _ _ _ (by omega), wI_place _ _ _ (by omega)]
theorem p_leap (a : ab) (hW : WF a) (x1 : Int32) : PI a (fun σ K => M_X5_leap σ K x1) (fun σ K => M_X6_leap σ K x1) := by
  by_cases c0 : ¬ IN x1 0 39
  · exact ⟨-2, a, fun σ K hI h => b_X5_leap (⟨fun c => absurd c c0, fun _ => h σ hI⟩), fun σ K hI h => b_X6_leap (⟨fun c => absurd c c0, fun _ => h σ hI⟩)⟩
  have c0 := Classical.not_not.mp c0
  obtain ⟨q0, l0, r0, rfl⟩ := (IN_iff (lo := 0) (hi := 39) (by decide) (by decide)).mp c0
  have hn : a.1 4 ≤ 4 := hW.2.2.2.2.2.1.1
  rcases (show a.1 4 = 4 ∨ a.1 4 < 4 by omega) with hs | hs
  · refine ⟨-4, a, fun σ K hI h => b_X5_leap (⟨fun _ => k3_add isRows_8 (hI.2.1.2.2.2.1).1 (hI.2.1.2.2.2.1).2.1 (fun _ => (h _ (Inv0.stale hI))) (fun c => absurd c (by omega)) (by omega), fun c => absurd c0 c⟩), fun σ K hI h => b_X6_leap (⟨fun _ => ⟨fun c => ?_, fun _ => h σ hI⟩, fun c => absurd c0 c⟩)⟩
    rw [hI.2.2.2.2.1.1, hs] at c
    exact absurd rfl c
  · refine ⟨nI (a.1 4 + 1), ad_leap a q0, fun σ K hI h => b_X5_leap (⟨fun _ => k3_add isRows_8 (hI.2.1.2.2.2.1).1 (hI.2.1.2.2.2.1).2.1 (fun c => absurd c (by omega)) (fun _ => h _ (b0_leap hI hs r0)) (by omega), fun c => absurd c0 c⟩), fun σ K hI h => b_X6_leap (⟨fun _ => ⟨fun _ => ⟨a.1 4, hI.2.2.2.2.1.1, hs, ?_⟩, fun c => ?_⟩, fun c => absurd c0 c⟩)⟩
    · rw [hI.2.2.2.2.1.1, nI_1]
      exact h _ (b1_leap hI hs r0)
    · rw [hI.2.2.2.2.1.1] at c
      have := nI_inj (b := 4) (by omega) (by decide) c
      omega
def ad_edict (a : ab) (q0 q1 : Nat) : ab := (fun s => setS (setT (setT a 4 s q0) 5 s q1) 5 (s + 1)) (a.1 5)
theorem wf_edict {a : ab} {q0 q1 : Nat} (hW : WF a) (hs : a.1 5 < 10) (r0 : q0 ≤ 39) (r1 : q1 ≤ 7) : WF (ad_edict a q0 q1) := by
  obtain ⟨w0, w1, w2, w3, w4, w5, w6, w7, w8, w9, w10, w11⟩ := hW
  refine ⟨w0, w1, w2, w3, w4, w5, ⟨?_, fun j hj => ?_⟩, w7, w8, w9, w10, fun s hs2 => ?_⟩
  · show a.1 5 + 1 ≤ 10; omega
  · have hj : j < a.1 5 + 1 := hj
    show (if j = a.1 5 then q0 else a.2.1 4 j) < 40 ∧ (if j = a.1 5 then q1 else a.2.1 5 j) < 8
    rcases (show j < a.1 5 ∨ j = a.1 5 by omega) with q | q
    · have e : ¬ j = a.1 5 := by omega
      simp only [if_neg e]
      exact w6.2 j q
    · simp only [if_pos q]
      omega
  · have := w11 s hs2
    have e : ∀ i, 20 ≤ i → (ad_edict a q0 q1).1 i = a.1 i := fun i hi => setS_other (by omega)
    rw [e _ (by omega), e _ (by omega), e _ (by omega)]
    exact this
theorem b0_edict {a : ab} {σ : r_St} {q0 q1 : Nat} (hI : Inv0 a σ) (hs : a.1 5 < 10) (r0 : q0 ≤ 39) (r1 : q1 ≤ 7) : Inv0 (ad_edict a q0 q1) (wI (addS σ 12 (a.1 5) (nI q0) (nI q1) 0) 0 15 1) := by
  obtain ⟨hW, hB, hT⟩ := hI
  obtain ⟨h0, h1, h2, h3, h4, h5, h6, h7, h8, h9⟩ := hB
  have E : ∀ c j, ¬ (c = 0 ∧ j = 15) → (c < 12 ∨ 15 < c) → (wI (addS σ 12 (a.1 5) (nI q0) (nI q1) 0) 0 15 1).1 c j = σ.1 c j := by
    intro c j q1 q2
    rcases Nat.decEq c 0 with q3 | q3
    · rw [wI_cell _ _ _ q3, addS_cell q2]
    · subst q3
      rw [wI_place _ _ _ (by omega), addS_cell q2]
  refine ⟨wf_edict hW hs r0 r1, ⟨(h0.mv (fun c j _ _ => E c j (by omega) (by omega))).cg ⟨rfl, rfl⟩, h1.mv (fun j _ _ => E 0 j (by omega) (by omega)), h2.mv (fun c j _ _ => E c j (by omega) (by omega)), h3.mv (fun c j _ _ => E c j (by omega) (by omega)), ?_, h5.mv (fun c j _ _ => E c j (by omega) (by omega)), h6.mv (fun c j _ _ => E c j (by omega) (by omega)), h7.mv (fun c j _ _ => E c j (by omega) (by omega)), h8.mv (fun c j _ _ => E c j (by omega) (by omega)), fun s hs2 => ((h9 s hs2).mv (fun c j _ => E c j (by omega) (by omega))).cg (fun i hi => setS_other (by omega)) rfl⟩, fun hz => absurd hz (by rw [wI_same]; decide)⟩
  exact R3.mv (R3.add h4 (fun j hj => if_neg (by omega)) (fun j hj => if_neg (by omega)) (fun j hj => rfl) (if_pos rfl) (if_pos rfl) rfl) (fun c j _ _ => congrFun (wI_cell _ _ _ (by omega)) j)
theorem b1_edict {a : ab} {σ : r_St} {q0 q1 : Nat} (hI : Inv1 a σ) (hs : a.1 5 < 10) (r0 : q0 ≤ 39) (r1 : q1 ≤ 7) : Inv1 (ad_edict a q0 q1) (wI (wI (wI σ 7 (a.1 5) (nI q0)) 8 (a.1 5) (nI q1)) 3 2 (nI (a.1 5 + 1))) := by
  obtain ⟨hW, hB⟩ := hI
  obtain ⟨h0, h1, h2, h3, h4, h5, h6, h7, h8, h9⟩ := hB
  have E : ∀ c j, ¬ (c = 3 ∧ j = 2) → ¬ c = 7 → ¬ c = 8 → (wI (wI (wI σ 7 (a.1 5) (nI q0)) 8 (a.1 5) (nI q1)) 3 2 (nI (a.1 5 + 1))).1 c j = σ.1 c j := by
    intro c j q0 e0 e1
    have z : ∀ τ : r_St, ∀ v : Int32, (wI τ 3 2 v).1 c j = τ.1 c j := by
      intro τ v
      rcases Nat.decEq c 3 with q3 | q3
      · rw [wI_cell _ _ _ q3]
      · subst q3; rw [wI_place _ _ _ (by omega)]
    rw [z, wI_cell _ _ _ e1, wI_cell _ _ _ e0]
  refine ⟨wf_edict hW hs r0 r1, ⟨by rw [E 0 1 (by omega) (by omega) (by omega)]; exact h0.1, h0.2.mv (fun j _ => E 1 j (by omega) (by omega) (by omega))⟩, ⟨by rw [E 0 5 (by omega) (by omega) (by omega)]; exact h1.1, by rw [E 0 6 (by omega) (by omega) (by omega)]; exact h1.2.1, by rw [E 0 41 (by omega) (by omega) (by omega)]; exact h1.2.2⟩, ⟨by rw [E 3 0 (by omega) (by omega) (by omega)]; exact h2.1, h2.2.1.mv (fun j _ => E 4 j (by omega) (by omega) (by omega)), h2.2.2.mv (fun j _ => E 5 j (by omega) (by omega) (by omega))⟩, ⟨by rw [E 3 1 (by omega) (by omega) (by omega)]; exact h3.1, h3.2.mv (fun j _ => E 6 j (by omega) (by omega) (by omega))⟩, ⟨wI_same _ _ _ _, C1.add h4.2.1 (fun j hj => if_neg (by omega)) (if_pos rfl) ?_ (fun j hj => ?_), C1.add h4.2.2 (fun j hj => if_neg (by omega)) (if_pos rfl) ?_ (fun j hj => ?_)⟩, ⟨by rw [E 3 3 (by omega) (by omega) (by omega)]; exact h5.1, h5.2.1.mv (fun j _ => E 9 j (by omega) (by omega) (by omega)), h5.2.2.1.mv (fun j _ => E 10 j (by omega) (by omega) (by omega)), h5.2.2.2.mv (fun j _ => E 11 j (by omega) (by omega) (by omega))⟩, ⟨by rw [E 3 4 (by omega) (by omega) (by omega)]; exact h6.1, h6.2.1.mv (fun j _ => E 12 j (by omega) (by omega) (by omega)), h6.2.2.mv (fun j _ => E 13 j (by omega) (by omega) (by omega))⟩, ⟨by rw [E 0 29 (by omega) (by omega) (by omega)]; exact h7.1, h7.2.1.mv (fun j _ => E 22 j (by omega) (by omega) (by omega)), h7.2.2.mv (fun j _ => E 23 j (by omega) (by omega) (by omega))⟩, ⟨by rw [E 0 32 (by omega) (by omega) (by omega)]; exact h8.1, h8.2.1.mv (fun j _ => E 24 j (by omega) (by omega) (by omega)), h8.2.2.1.mv (fun j _ => E 25 j (by omega) (by omega) (by omega)), h8.2.2.2.mv (fun j _ => E 26 j (by omega) (by omega) (by omega))⟩, fun s hs2 => ((h9 s hs2).mv (fun c j _ _ => E c j (by omega) (by omega) (by omega))).cg (fun i hi => setS_other (by omega)) rfl⟩
  · rw [wI_cell _ _ _ (by omega), wI_cell _ _ _ (by omega), wI_same]
  · rw [wI_cell _ _ _ (by omega), wI_cell _ _ _ (by omega), wI_place _ _ _ (by omega)]
  · rw [wI_cell _ _ _ (by omega), wI_same]
  · rw [wI_cell _ _ _ (by omega), wI_place _ _ _ (by omega), wI_cell _ _ _ (by omega)]
theorem p_edict (a : ab) (hW : WF a) (x1 x2 : Int32) : PI a (fun σ K => M_X5_edict σ K x1 x2) (fun σ K => M_X6_edict σ K x1 x2) := by
  by_cases c0 : ¬ IN x1 0 39
  · exact ⟨-2, a, fun σ K hI h => b_X5_edict (⟨fun c => absurd c c0, fun _ => h σ hI⟩), fun σ K hI h => b_X6_edict (⟨fun c => absurd c c0, fun _ => h σ hI⟩)⟩
  have c0 := Classical.not_not.mp c0
  by_cases c1 : ¬ IN x2 0 7
  · exact ⟨-2, a, fun σ K hI h => b_X5_edict (⟨fun _ => ⟨fun c => absurd c c1, fun _ => h σ hI⟩, fun c => absurd c0 c⟩), fun σ K hI h => b_X6_edict (⟨fun _ => ⟨fun c => absurd c c1, fun _ => h σ hI⟩, fun c => absurd c0 c⟩)⟩
  have c1 := Classical.not_not.mp c1
  obtain ⟨q0, l0, r0, rfl⟩ := (IN_iff (lo := 0) (hi := 39) (by decide) (by decide)).mp c0
  obtain ⟨q1, l1, r1, rfl⟩ := (IN_iff (lo := 0) (hi := 7) (by decide) (by decide)).mp c1
  have hn : a.1 5 ≤ 10 := hW.2.2.2.2.2.2.1.1
  rcases (show a.1 5 = 10 ∨ a.1 5 < 10 by omega) with hs | hs
  · refine ⟨-4, a, fun σ K hI h => b_X5_edict (⟨fun _ => ⟨fun _ => k3_add isRows_12 (hI.2.1.2.2.2.2.1).1 (hI.2.1.2.2.2.2.1).2.1 (fun _ => (h _ (Inv0.stale hI))) (fun c => absurd c (by omega)) (by omega), fun c => absurd c1 c⟩, fun c => absurd c0 c⟩), fun σ K hI h => b_X6_edict (⟨fun _ => ⟨fun _ => ⟨fun c => ?_, fun _ => h σ hI⟩, fun c => absurd c1 c⟩, fun c => absurd c0 c⟩)⟩
    rw [hI.2.2.2.2.2.1.1, hs] at c
    exact absurd rfl c
  · refine ⟨nI (a.1 5 + 1), ad_edict a q0 q1, fun σ K hI h => b_X5_edict (⟨fun _ => ⟨fun _ => k3_add isRows_12 (hI.2.1.2.2.2.2.1).1 (hI.2.1.2.2.2.2.1).2.1 (fun c => absurd c (by omega)) (fun _ => h _ (b0_edict hI hs r0 r1)) (by omega), fun c => absurd c1 c⟩, fun c => absurd c0 c⟩), fun σ K hI h => b_X6_edict (⟨fun _ => ⟨fun _ => ⟨fun _ => ⟨a.1 5, hI.2.2.2.2.2.1.1, hs, ⟨a.1 5, hI.2.2.2.2.2.1.1, hs, ?_⟩⟩, fun c => ?_⟩, fun c => absurd c1 c⟩, fun c => absurd c0 c⟩)⟩
    · rw [hI.2.2.2.2.2.1.1, nI_1]
      exact h _ (b1_edict hI hs r0 r1)
    · rw [hI.2.2.2.2.2.1.1] at c
      have := nI_inj (b := 10) (by omega) (by decide) c
      omega
def ad_does (a : ab) (q0 q1 q2 : Nat) : ab := (fun s => setS (setT (setT (setT a 6 s q0) 7 s q1) 8 s q2) 6 (s + 1)) (a.1 6)
theorem wf_does {a : ab} {q0 q1 q2 : Nat} (hW : WF a) (hs : a.1 6 < 12) (r0 : q0 ≤ 39) (r1 : q1 ≤ 7) (r2 : 1 ≤ q2 ∧ q2 ≤ 5) (rx : q0 + q2 ≤ 40) : WF (ad_does a q0 q1 q2) := by
  obtain ⟨w0, w1, w2, w3, w4, w5, w6, w7, w8, w9, w10, w11⟩ := hW
  refine ⟨w0, w1, w2, w3, w4, w5, w6, ⟨?_, fun j hj => ?_⟩, w8, w9, w10, fun s hs2 => ?_⟩
  · show a.1 6 + 1 ≤ 12; omega
  · have hj : j < a.1 6 + 1 := hj
    show (if j = a.1 6 then q0 else a.2.1 6 j) < 40 ∧ (if j = a.1 6 then q1 else a.2.1 7 j) < 8 ∧ 1 ≤ (if j = a.1 6 then q2 else a.2.1 8 j) ∧ (if j = a.1 6 then q2 else a.2.1 8 j) ≤ 5 ∧ (if j = a.1 6 then q0 else a.2.1 6 j) + (if j = a.1 6 then q2 else a.2.1 8 j) ≤ 40
    rcases (show j < a.1 6 ∨ j = a.1 6 by omega) with q | q
    · have e : ¬ j = a.1 6 := by omega
      simp only [if_neg e]
      exact w7.2 j q
    · simp only [if_pos q]
      omega
  · have := w11 s hs2
    have e : ∀ i, 20 ≤ i → (ad_does a q0 q1 q2).1 i = a.1 i := fun i hi => setS_other (by omega)
    rw [e _ (by omega), e _ (by omega), e _ (by omega)]
    exact this
theorem b0_does {a : ab} {σ : r_St} {q0 q1 q2 : Nat} (hI : Inv0 a σ) (hs : a.1 6 < 12) (r0 : q0 ≤ 39) (r1 : q1 ≤ 7) (r2 : 1 ≤ q2 ∧ q2 ≤ 5) (rx : q0 + q2 ≤ 40) : Inv0 (ad_does a q0 q1 q2) (addS σ 16 (a.1 6) (nI q0) (nI q1) (nI q2)) := by
  obtain ⟨hW, hB, hT⟩ := hI
  obtain ⟨h0, h1, h2, h3, h4, h5, h6, h7, h8, h9⟩ := hB
  have E : ∀ c j, ¬ (c = 0 ∧ j = 15) → (c < 16 ∨ 19 < c) → (addS σ 16 (a.1 6) (nI q0) (nI q1) (nI q2)).1 c j = σ.1 c j := by
    intro c j q1 q2
    rw [addS_cell q2]
  have E15 : (addS σ 16 (a.1 6) (nI q0) (nI q1) (nI q2)).1 0 15 = σ.1 0 15 := by rw [addS_cell (by omega)]
  refine ⟨wf_does hW hs r0 r1 r2 rx, ⟨(h0.mv (fun c j _ _ => E c j (by omega) (by omega))).cg ⟨rfl, rfl⟩, h1.mv (fun j _ _ => E 0 j (by omega) (by omega)), h2.mv (fun c j _ _ => E c j (by omega) (by omega)), h3.mv (fun c j _ _ => E c j (by omega) (by omega)), h4.mv (fun c j _ _ => E c j (by omega) (by omega)), ?_, h6.mv (fun c j _ _ => E c j (by omega) (by omega)), h7.mv (fun c j _ _ => E c j (by omega) (by omega)), h8.mv (fun c j _ _ => E c j (by omega) (by omega)), fun s hs2 => ((h9 s hs2).mv (fun c j _ => E c j (by omega) (by omega))).cg (fun i hi => setS_other (by omega)) rfl⟩, fun hz => (hT (by rw [← E15]; exact hz)).mv ⟨rfl, rfl, rfl, rfl, rfl, rfl, rfl, rfl, rfl, rfl, rfl⟩ (fun c j _ _ => E c j (by omega) (by omega))⟩
  exact R3.add h5 (fun j hj => if_neg (by omega)) (fun j hj => if_neg (by omega)) (fun j hj => if_neg (by omega)) (if_pos rfl) (if_pos rfl) (if_pos rfl)
theorem b1_does {a : ab} {σ : r_St} {q0 q1 q2 : Nat} (hI : Inv1 a σ) (hs : a.1 6 < 12) (r0 : q0 ≤ 39) (r1 : q1 ≤ 7) (r2 : 1 ≤ q2 ∧ q2 ≤ 5) (rx : q0 + q2 ≤ 40) : Inv1 (ad_does a q0 q1 q2) (wI (wI (wI (wI σ 9 (a.1 6) (nI q0)) 10 (a.1 6) (nI q1)) 11 (a.1 6) (nI q2)) 3 3 (nI (a.1 6 + 1))) := by
  obtain ⟨hW, hB⟩ := hI
  obtain ⟨h0, h1, h2, h3, h4, h5, h6, h7, h8, h9⟩ := hB
  have E : ∀ c j, ¬ (c = 3 ∧ j = 3) → ¬ c = 9 → ¬ c = 10 → ¬ c = 11 → (wI (wI (wI (wI σ 9 (a.1 6) (nI q0)) 10 (a.1 6) (nI q1)) 11 (a.1 6) (nI q2)) 3 3 (nI (a.1 6 + 1))).1 c j = σ.1 c j := by
    intro c j q0 e0 e1 e2
    have z : ∀ τ : r_St, ∀ v : Int32, (wI τ 3 3 v).1 c j = τ.1 c j := by
      intro τ v
      rcases Nat.decEq c 3 with q3 | q3
      · rw [wI_cell _ _ _ q3]
      · subst q3; rw [wI_place _ _ _ (by omega)]
    rw [z, wI_cell _ _ _ e2, wI_cell _ _ _ e1, wI_cell _ _ _ e0]
  refine ⟨wf_does hW hs r0 r1 r2 rx, ⟨by rw [E 0 1 (by omega) (by omega) (by omega) (by omega)]; exact h0.1, h0.2.mv (fun j _ => E 1 j (by omega) (by omega) (by omega) (by omega))⟩, ⟨by rw [E 0 5 (by omega) (by omega) (by omega) (by omega)]; exact h1.1, by rw [E 0 6 (by omega) (by omega) (by omega) (by omega)]; exact h1.2.1, by rw [E 0 41 (by omega) (by omega) (by omega) (by omega)]; exact h1.2.2⟩, ⟨by rw [E 3 0 (by omega) (by omega) (by omega) (by omega)]; exact h2.1, h2.2.1.mv (fun j _ => E 4 j (by omega) (by omega) (by omega) (by omega)), h2.2.2.mv (fun j _ => E 5 j (by omega) (by omega) (by omega) (by omega))⟩, ⟨by rw [E 3 1 (by omega) (by omega) (by omega) (by omega)]; exact h3.1, h3.2.mv (fun j _ => E 6 j (by omega) (by omega) (by omega) (by omega))⟩, ⟨by rw [E 3 2 (by omega) (by omega) (by omega) (by omega)]; exact h4.1, h4.2.1.mv (fun j _ => E 7 j (by omega) (by omega) (by omega) (by omega)), h4.2.2.mv (fun j _ => E 8 j (by omega) (by omega) (by omega) (by omega))⟩, ⟨wI_same _ _ _ _, C1.add h5.2.1 (fun j hj => if_neg (by omega)) (if_pos rfl) ?_ (fun j hj => ?_), C1.add h5.2.2.1 (fun j hj => if_neg (by omega)) (if_pos rfl) ?_ (fun j hj => ?_), C1.add h5.2.2.2 (fun j hj => if_neg (by omega)) (if_pos rfl) ?_ (fun j hj => ?_)⟩, ⟨by rw [E 3 4 (by omega) (by omega) (by omega) (by omega)]; exact h6.1, h6.2.1.mv (fun j _ => E 12 j (by omega) (by omega) (by omega) (by omega)), h6.2.2.mv (fun j _ => E 13 j (by omega) (by omega) (by omega) (by omega))⟩, ⟨by rw [E 0 29 (by omega) (by omega) (by omega) (by omega)]; exact h7.1, h7.2.1.mv (fun j _ => E 22 j (by omega) (by omega) (by omega) (by omega)), h7.2.2.mv (fun j _ => E 23 j (by omega) (by omega) (by omega) (by omega))⟩, ⟨by rw [E 0 32 (by omega) (by omega) (by omega) (by omega)]; exact h8.1, h8.2.1.mv (fun j _ => E 24 j (by omega) (by omega) (by omega) (by omega)), h8.2.2.1.mv (fun j _ => E 25 j (by omega) (by omega) (by omega) (by omega)), h8.2.2.2.mv (fun j _ => E 26 j (by omega) (by omega) (by omega) (by omega))⟩, fun s hs2 => ((h9 s hs2).mv (fun c j _ _ => E c j (by omega) (by omega) (by omega) (by omega))).cg (fun i hi => setS_other (by omega)) rfl⟩
  · rw [wI_cell _ _ _ (by omega), wI_cell _ _ _ (by omega), wI_cell _ _ _ (by omega), wI_same]
  · rw [wI_cell _ _ _ (by omega), wI_cell _ _ _ (by omega), wI_cell _ _ _ (by omega), wI_place _ _ _ (by omega)]
  · rw [wI_cell _ _ _ (by omega), wI_cell _ _ _ (by omega), wI_same]
  · rw [wI_cell _ _ _ (by omega), wI_cell _ _ _ (by omega), wI_place _ _ _ (by omega), wI_cell _ _ _ (by omega)]
  · rw [wI_cell _ _ _ (by omega), wI_same]
  · rw [wI_cell _ _ _ (by omega), wI_place _ _ _ (by omega), wI_cell _ _ _ (by omega), wI_cell _ _ _ (by omega)]
theorem p_does (a : ab) (hW : WF a) (x1 x2 x3 : Int32) : PI a (fun σ K => M_X5_does σ K x1 x2 x3) (fun σ K => M_X6_does σ K x1 x2 x3) := by
  by_cases c0 : ¬ IN x1 0 39
  · exact ⟨-2, a, fun σ K hI h => b_X5_does (⟨fun c => absurd c c0, fun _ => h σ hI⟩), fun σ K hI h => b_X6_does (⟨fun c => absurd c c0, fun _ => h σ hI⟩)⟩
  have c0 := Classical.not_not.mp c0
  by_cases c1 : ¬ IN x2 0 7
  · exact ⟨-2, a, fun σ K hI h => b_X5_does (⟨fun _ => ⟨fun c => absurd c c1, fun _ => h σ hI⟩, fun c => absurd c0 c⟩), fun σ K hI h => b_X6_does (⟨fun _ => ⟨fun c => absurd c c1, fun _ => h σ hI⟩, fun c => absurd c0 c⟩)⟩
  have c1 := Classical.not_not.mp c1
  by_cases c2 : ¬ IN x3 1 5
  · exact ⟨-2, a, fun σ K hI h => b_X5_does (⟨fun _ => ⟨fun _ => ⟨fun c => absurd c c2, fun _ => h σ hI⟩, fun c => absurd c1 c⟩, fun c => absurd c0 c⟩), fun σ K hI h => b_X6_does (⟨fun _ => ⟨fun _ => ⟨fun c => absurd c c2, fun _ => h σ hI⟩, fun c => absurd c1 c⟩, fun c => absurd c0 c⟩)⟩
  have c2 := Classical.not_not.mp c2
  obtain ⟨q0, l0, r0, rfl⟩ := (IN_iff (lo := 0) (hi := 39) (by decide) (by decide)).mp c0
  obtain ⟨q1, l1, r1, rfl⟩ := (IN_iff (lo := 0) (hi := 7) (by decide) (by decide)).mp c1
  obtain ⟨q2, l2, r2, rfl⟩ := (IN_iff (lo := 1) (hi := 5) (by decide) (by decide)).mp c2
  have e5 : nI q0 + nI q2 - 1 = nI (q0 + q2 - 1) := by rw [nI_add]; exact pk_sub (b := 1) (by omega)
  have e6 : nI q0 + nI q2 = nI (q0 + q2) := nI_add _ _
  by_cases rx : ¬ q0 + q2 ≤ 40
  · refine ⟨-2, a, fun σ K hI h => b_X5_does (⟨fun _ => ⟨fun _ => ⟨fun _ => ⟨fun c => ?_, fun _ => h σ hI⟩, fun c => absurd c2 c⟩, fun c => absurd c1 c⟩, fun c => absurd c0 c⟩), fun σ K hI h => b_X6_does (⟨fun _ => ⟨fun _ => ⟨fun _ => ⟨fun c => ?_, fun _ => h σ hI⟩, fun c => absurd c2 c⟩, fun c => absurd c1 c⟩, fun c => absurd c0 c⟩)⟩
    · rw [e5] at c
      obtain ⟨j, j1, j2, j3⟩ := (IN_iff (lo := 0) (hi := 39) (by decide) (by decide)).mp c
      have := nI_inj (by omega) (by omega) j3
      omega
    · rw [e6] at c
      have := le_of_nI (y := 40) (by omega) (by decide) c
      omega
  have rx := Classical.not_not.mp rx
  have d5 : IN (nI q0 + nI q2 - 1) 0 39 := by rw [e5]; exact (IN_iff (lo := 0) (hi := 39) (by decide) (by decide)).mpr ⟨_, by omega, by omega, rfl⟩
  have d6 : nI q0 + nI q2 ≤ 40 := by rw [e6]; exact nI_le (b := 40) rx (by decide)
  have hn : a.1 6 ≤ 12 := hW.2.2.2.2.2.2.2.1.1
  rcases (show a.1 6 = 12 ∨ a.1 6 < 12 by omega) with hs | hs
  · refine ⟨-4, a, fun σ K hI h => b_X5_does (⟨fun _ => ⟨fun _ => ⟨fun _ => ⟨fun _ => k3_add isRows_16 (hI.2.1.2.2.2.2.2.1).1 (hI.2.1.2.2.2.2.2.1).2.1 (fun _ => (h σ hI)) (fun c => absurd c (by omega)) (by omega), fun c => absurd d5 c⟩, fun c => absurd c2 c⟩, fun c => absurd c1 c⟩, fun c => absurd c0 c⟩), fun σ K hI h => b_X6_does (⟨fun _ => ⟨fun _ => ⟨fun _ => ⟨fun _ => ⟨fun c => ?_, fun _ => h σ hI⟩, fun c => absurd d6 c⟩, fun c => absurd c2 c⟩, fun c => absurd c1 c⟩, fun c => absurd c0 c⟩)⟩
    rw [hI.2.2.2.2.2.2.1.1, hs] at c
    exact absurd rfl c
  · refine ⟨nI (a.1 6 + 1), ad_does a q0 q1 q2, fun σ K hI h => b_X5_does (⟨fun _ => ⟨fun _ => ⟨fun _ => ⟨fun _ => k3_add isRows_16 (hI.2.1.2.2.2.2.2.1).1 (hI.2.1.2.2.2.2.2.1).2.1 (fun c => absurd c (by omega)) (fun _ => h _ (b0_does hI hs r0 r1 ⟨l2, r2⟩ rx)) (by omega), fun c => absurd d5 c⟩, fun c => absurd c2 c⟩, fun c => absurd c1 c⟩, fun c => absurd c0 c⟩), fun σ K hI h => b_X6_does (⟨fun _ => ⟨fun _ => ⟨fun _ => ⟨fun _ => ⟨fun _ => ⟨a.1 6, hI.2.2.2.2.2.2.1.1, hs, ⟨a.1 6, hI.2.2.2.2.2.2.1.1, hs, ⟨a.1 6, hI.2.2.2.2.2.2.1.1, hs, ?_⟩⟩⟩, fun c => ?_⟩, fun c => absurd d6 c⟩, fun c => absurd c2 c⟩, fun c => absurd c1 c⟩, fun c => absurd c0 c⟩)⟩
    · rw [hI.2.2.2.2.2.2.1.1, nI_1]
      exact h _ (b1_does hI hs r0 r1 ⟨l2, r2⟩ rx)
    · rw [hI.2.2.2.2.2.2.1.1] at c
      have := nI_inj (b := 12) (by omega) (by decide) c
      omega
def ad_task (a : ab) (q0 q1 : Nat) : ab := (fun s => setS (setT (setT a 9 s q0) 10 s q1) 7 (s + 1)) (a.1 7)
theorem wf_task {a : ab} {q0 q1 : Nat} (hW : WF a) (hs : a.1 7 < 6) (r0 : q0 ≤ 7) (r1 : 1 ≤ q1 ∧ q1 ≤ 5) : WF (ad_task a q0 q1) := by
  obtain ⟨w0, w1, w2, w3, w4, w5, w6, w7, w8, w9, w10, w11⟩ := hW
  refine ⟨w0, w1, w2, w3, w4, w5, w6, w7, ⟨?_, fun j hj => ?_⟩, w9, w10, fun s hs2 => ?_⟩
  · show a.1 7 + 1 ≤ 6; omega
  · have hj : j < a.1 7 + 1 := hj
    show (if j = a.1 7 then q0 else a.2.1 9 j) < 8 ∧ 1 ≤ (if j = a.1 7 then q1 else a.2.1 10 j) ∧ (if j = a.1 7 then q1 else a.2.1 10 j) ≤ 5
    rcases (show j < a.1 7 ∨ j = a.1 7 by omega) with q | q
    · have e : ¬ j = a.1 7 := by omega
      simp only [if_neg e]
      exact w8.2 j q
    · simp only [if_pos q]
      omega
  · have := w11 s hs2
    have e : ∀ i, 20 ≤ i → (ad_task a q0 q1).1 i = a.1 i := fun i hi => setS_other (by omega)
    rw [e _ (by omega), e _ (by omega), e _ (by omega)]
    exact this
theorem b0_task {a : ab} {σ : r_St} {q0 q1 : Nat} (hI : Inv0 a σ) (hs : a.1 7 < 6) (r0 : q0 ≤ 7) (r1 : 1 ≤ q1 ∧ q1 ≤ 5) : Inv0 (ad_task a q0 q1) (addS σ 20 (a.1 7) (nI q0) (nI q1) 0) := by
  obtain ⟨hW, hB, hT⟩ := hI
  obtain ⟨h0, h1, h2, h3, h4, h5, h6, h7, h8, h9⟩ := hB
  have E : ∀ c j, ¬ (c = 0 ∧ j = 15) → (c < 20 ∨ 23 < c) → (addS σ 20 (a.1 7) (nI q0) (nI q1) 0).1 c j = σ.1 c j := by
    intro c j q1 q2
    rw [addS_cell q2]
  have E15 : (addS σ 20 (a.1 7) (nI q0) (nI q1) 0).1 0 15 = σ.1 0 15 := by rw [addS_cell (by omega)]
  refine ⟨wf_task hW hs r0 r1, ⟨(h0.mv (fun c j _ _ => E c j (by omega) (by omega))).cg ⟨rfl, rfl⟩, h1.mv (fun j _ _ => E 0 j (by omega) (by omega)), h2.mv (fun c j _ _ => E c j (by omega) (by omega)), h3.mv (fun c j _ _ => E c j (by omega) (by omega)), h4.mv (fun c j _ _ => E c j (by omega) (by omega)), h5.mv (fun c j _ _ => E c j (by omega) (by omega)), ?_, h7.mv (fun c j _ _ => E c j (by omega) (by omega)), h8.mv (fun c j _ _ => E c j (by omega) (by omega)), fun s hs2 => ((h9 s hs2).mv (fun c j _ => E c j (by omega) (by omega))).cg (fun i hi => setS_other (by omega)) rfl⟩, fun hz => (hT (by rw [← E15]; exact hz)).mv ⟨rfl, rfl, rfl, rfl, rfl, rfl, rfl, rfl, rfl, rfl, rfl⟩ (fun c j _ _ => E c j (by omega) (by omega))⟩
  exact R3.add h6 (fun j hj => if_neg (by omega)) (fun j hj => if_neg (by omega)) (fun j hj => rfl) (if_pos rfl) (if_pos rfl) rfl
theorem b1_task {a : ab} {σ : r_St} {q0 q1 : Nat} (hI : Inv1 a σ) (hs : a.1 7 < 6) (r0 : q0 ≤ 7) (r1 : 1 ≤ q1 ∧ q1 ≤ 5) : Inv1 (ad_task a q0 q1) (wI (wI (wI σ 12 (a.1 7) (nI q0)) 13 (a.1 7) (nI q1)) 3 4 (nI (a.1 7 + 1))) := by
  obtain ⟨hW, hB⟩ := hI
  obtain ⟨h0, h1, h2, h3, h4, h5, h6, h7, h8, h9⟩ := hB
  have E : ∀ c j, ¬ (c = 3 ∧ j = 4) → ¬ c = 12 → ¬ c = 13 → (wI (wI (wI σ 12 (a.1 7) (nI q0)) 13 (a.1 7) (nI q1)) 3 4 (nI (a.1 7 + 1))).1 c j = σ.1 c j := by
    intro c j q0 e0 e1
    have z : ∀ τ : r_St, ∀ v : Int32, (wI τ 3 4 v).1 c j = τ.1 c j := by
      intro τ v
      rcases Nat.decEq c 3 with q3 | q3
      · rw [wI_cell _ _ _ q3]
      · subst q3; rw [wI_place _ _ _ (by omega)]
    rw [z, wI_cell _ _ _ e1, wI_cell _ _ _ e0]
  refine ⟨wf_task hW hs r0 r1, ⟨by rw [E 0 1 (by omega) (by omega) (by omega)]; exact h0.1, h0.2.mv (fun j _ => E 1 j (by omega) (by omega) (by omega))⟩, ⟨by rw [E 0 5 (by omega) (by omega) (by omega)]; exact h1.1, by rw [E 0 6 (by omega) (by omega) (by omega)]; exact h1.2.1, by rw [E 0 41 (by omega) (by omega) (by omega)]; exact h1.2.2⟩, ⟨by rw [E 3 0 (by omega) (by omega) (by omega)]; exact h2.1, h2.2.1.mv (fun j _ => E 4 j (by omega) (by omega) (by omega)), h2.2.2.mv (fun j _ => E 5 j (by omega) (by omega) (by omega))⟩, ⟨by rw [E 3 1 (by omega) (by omega) (by omega)]; exact h3.1, h3.2.mv (fun j _ => E 6 j (by omega) (by omega) (by omega))⟩, ⟨by rw [E 3 2 (by omega) (by omega) (by omega)]; exact h4.1, h4.2.1.mv (fun j _ => E 7 j (by omega) (by omega) (by omega)), h4.2.2.mv (fun j _ => E 8 j (by omega) (by omega) (by omega))⟩, ⟨by rw [E 3 3 (by omega) (by omega) (by omega)]; exact h5.1, h5.2.1.mv (fun j _ => E 9 j (by omega) (by omega) (by omega)), h5.2.2.1.mv (fun j _ => E 10 j (by omega) (by omega) (by omega)), h5.2.2.2.mv (fun j _ => E 11 j (by omega) (by omega) (by omega))⟩, ⟨wI_same _ _ _ _, C1.add h6.2.1 (fun j hj => if_neg (by omega)) (if_pos rfl) ?_ (fun j hj => ?_), C1.add h6.2.2 (fun j hj => if_neg (by omega)) (if_pos rfl) ?_ (fun j hj => ?_)⟩, ⟨by rw [E 0 29 (by omega) (by omega) (by omega)]; exact h7.1, h7.2.1.mv (fun j _ => E 22 j (by omega) (by omega) (by omega)), h7.2.2.mv (fun j _ => E 23 j (by omega) (by omega) (by omega))⟩, ⟨by rw [E 0 32 (by omega) (by omega) (by omega)]; exact h8.1, h8.2.1.mv (fun j _ => E 24 j (by omega) (by omega) (by omega)), h8.2.2.1.mv (fun j _ => E 25 j (by omega) (by omega) (by omega)), h8.2.2.2.mv (fun j _ => E 26 j (by omega) (by omega) (by omega))⟩, fun s hs2 => ((h9 s hs2).mv (fun c j _ _ => E c j (by omega) (by omega) (by omega))).cg (fun i hi => setS_other (by omega)) rfl⟩
  · rw [wI_cell _ _ _ (by omega), wI_cell _ _ _ (by omega), wI_same]
  · rw [wI_cell _ _ _ (by omega), wI_cell _ _ _ (by omega), wI_place _ _ _ (by omega)]
  · rw [wI_cell _ _ _ (by omega), wI_same]
  · rw [wI_cell _ _ _ (by omega), wI_place _ _ _ (by omega), wI_cell _ _ _ (by omega)]
theorem p_task (a : ab) (hW : WF a) (x1 x2 : Int32) : PI a (fun σ K => M_X5_task σ K x1 x2) (fun σ K => M_X6_task σ K x1 x2) := by
  by_cases c0 : ¬ IN x1 0 7
  · exact ⟨-2, a, fun σ K hI h => b_X5_task (⟨fun c => absurd c c0, fun _ => h σ hI⟩), fun σ K hI h => b_X6_task (⟨fun c => absurd c c0, fun _ => h σ hI⟩)⟩
  have c0 := Classical.not_not.mp c0
  by_cases c1 : ¬ IN x2 1 5
  · exact ⟨-2, a, fun σ K hI h => b_X5_task (⟨fun _ => ⟨fun c => absurd c c1, fun _ => h σ hI⟩, fun c => absurd c0 c⟩), fun σ K hI h => b_X6_task (⟨fun _ => ⟨fun c => absurd c c1, fun _ => h σ hI⟩, fun c => absurd c0 c⟩)⟩
  have c1 := Classical.not_not.mp c1
  obtain ⟨q0, l0, r0, rfl⟩ := (IN_iff (lo := 0) (hi := 7) (by decide) (by decide)).mp c0
  obtain ⟨q1, l1, r1, rfl⟩ := (IN_iff (lo := 1) (hi := 5) (by decide) (by decide)).mp c1
  have hn : a.1 7 ≤ 6 := hW.2.2.2.2.2.2.2.2.1.1
  rcases (show a.1 7 = 6 ∨ a.1 7 < 6 by omega) with hs | hs
  · refine ⟨-4, a, fun σ K hI h => b_X5_task (⟨fun _ => ⟨fun _ => k3_add isRows_20 (hI.2.1.2.2.2.2.2.2.1).1 (hI.2.1.2.2.2.2.2.2.1).2.1 (fun _ => (h σ hI)) (fun c => absurd c (by omega)) (by omega), fun c => absurd c1 c⟩, fun c => absurd c0 c⟩), fun σ K hI h => b_X6_task (⟨fun _ => ⟨fun _ => ⟨fun c => ?_, fun _ => h σ hI⟩, fun c => absurd c1 c⟩, fun c => absurd c0 c⟩)⟩
    rw [hI.2.2.2.2.2.2.2.1.1, hs] at c
    exact absurd rfl c
  · refine ⟨nI (a.1 7 + 1), ad_task a q0 q1, fun σ K hI h => b_X5_task (⟨fun _ => ⟨fun _ => k3_add isRows_20 (hI.2.1.2.2.2.2.2.2.1).1 (hI.2.1.2.2.2.2.2.2.1).2.1 (fun c => absurd c (by omega)) (fun _ => h _ (b0_task hI hs r0 ⟨l1, r1⟩)) (by omega), fun c => absurd c1 c⟩, fun c => absurd c0 c⟩), fun σ K hI h => b_X6_task (⟨fun _ => ⟨fun _ => ⟨fun _ => ⟨a.1 7, hI.2.2.2.2.2.2.2.1.1, hs, ⟨a.1 7, hI.2.2.2.2.2.2.2.1.1, hs, ?_⟩⟩, fun c => ?_⟩, fun c => absurd c1 c⟩, fun c => absurd c0 c⟩)⟩
    · rw [hI.2.2.2.2.2.2.2.1.1, nI_1]
      exact h _ (b1_task hI hs r0 ⟨l1, r1⟩)
    · rw [hI.2.2.2.2.2.2.2.1.1] at c
      have := nI_inj (b := 6) (by omega) (by decide) c
      omega
def ad_seen (a : ab) (q0 q1 : Nat) : ab := (fun s => setS (setT (setT a 11 s q0) 12 s q1) 8 (s + 1)) (a.1 8)
theorem wf_seen {a : ab} {q0 q1 : Nat} (hW : WF a) (hs : a.1 8 < 8) (r0 : q0 ≤ 7) (r1 : q1 ≤ 1) : WF (ad_seen a q0 q1) := by
  obtain ⟨w0, w1, w2, w3, w4, w5, w6, w7, w8, w9, w10, w11⟩ := hW
  refine ⟨w0, w1, w2, w3, w4, w5, w6, w7, w8, ⟨?_, fun j hj => ?_⟩, w10, fun s hs2 => ?_⟩
  · show a.1 8 + 1 ≤ 8; omega
  · have hj : j < a.1 8 + 1 := hj
    show (if j = a.1 8 then q0 else a.2.1 11 j) < 8 ∧ (if j = a.1 8 then q1 else a.2.1 12 j) < 2
    rcases (show j < a.1 8 ∨ j = a.1 8 by omega) with q | q
    · have e : ¬ j = a.1 8 := by omega
      simp only [if_neg e]
      exact w9.2 j q
    · simp only [if_pos q]
      omega
  · have := w11 s hs2
    have e : ∀ i, 20 ≤ i → (ad_seen a q0 q1).1 i = a.1 i := fun i hi => setS_other (by omega)
    rw [e _ (by omega), e _ (by omega), e _ (by omega)]
    exact this
theorem b0_seen {a : ab} {σ : r_St} {q0 q1 : Nat} (hI : Inv0 a σ) (hs : a.1 8 < 8) (r0 : q0 ≤ 7) (r1 : q1 ≤ 1) : Inv0 (ad_seen a q0 q1) (addS σ 24 (a.1 8) (nI q0) (nI q1) 0) := by
  obtain ⟨hW, hB, hT⟩ := hI
  obtain ⟨h0, h1, h2, h3, h4, h5, h6, h7, h8, h9⟩ := hB
  have E : ∀ c j, ¬ (c = 0 ∧ j = 15) → (c < 24 ∨ 27 < c) → (addS σ 24 (a.1 8) (nI q0) (nI q1) 0).1 c j = σ.1 c j := by
    intro c j q1 q2
    rw [addS_cell q2]
  have E15 : (addS σ 24 (a.1 8) (nI q0) (nI q1) 0).1 0 15 = σ.1 0 15 := by rw [addS_cell (by omega)]
  refine ⟨wf_seen hW hs r0 r1, ⟨(h0.mv (fun c j _ _ => E c j (by omega) (by omega))).cg ⟨rfl, rfl⟩, h1.mv (fun j _ _ => E 0 j (by omega) (by omega)), h2.mv (fun c j _ _ => E c j (by omega) (by omega)), h3.mv (fun c j _ _ => E c j (by omega) (by omega)), h4.mv (fun c j _ _ => E c j (by omega) (by omega)), h5.mv (fun c j _ _ => E c j (by omega) (by omega)), h6.mv (fun c j _ _ => E c j (by omega) (by omega)), ?_, h8.mv (fun c j _ _ => E c j (by omega) (by omega)), fun s hs2 => ((h9 s hs2).mv (fun c j _ => E c j (by omega) (by omega))).cg (fun i hi => setS_other (by omega)) rfl⟩, fun hz => (hT (by rw [← E15]; exact hz)).mv ⟨rfl, rfl, rfl, rfl, rfl, rfl, rfl, rfl, rfl, rfl, rfl⟩ (fun c j _ _ => E c j (by omega) (by omega))⟩
  exact R3.add h7 (fun j hj => if_neg (by omega)) (fun j hj => if_neg (by omega)) (fun j hj => rfl) (if_pos rfl) (if_pos rfl) rfl
theorem b1_seen {a : ab} {σ : r_St} {q0 q1 : Nat} (hI : Inv1 a σ) (hs : a.1 8 < 8) (r0 : q0 ≤ 7) (r1 : q1 ≤ 1) : Inv1 (ad_seen a q0 q1) (wI (wI (wI σ 22 (a.1 8) (nI q0)) 23 (a.1 8) (nI q1)) 0 29 (nI (a.1 8 + 1))) := by
  obtain ⟨hW, hB⟩ := hI
  obtain ⟨h0, h1, h2, h3, h4, h5, h6, h7, h8, h9⟩ := hB
  have E : ∀ c j, ¬ (c = 0 ∧ j = 29) → ¬ c = 22 → ¬ c = 23 → (wI (wI (wI σ 22 (a.1 8) (nI q0)) 23 (a.1 8) (nI q1)) 0 29 (nI (a.1 8 + 1))).1 c j = σ.1 c j := by
    intro c j q0 e0 e1
    have z : ∀ τ : r_St, ∀ v : Int32, (wI τ 0 29 v).1 c j = τ.1 c j := by
      intro τ v
      rcases Nat.decEq c 0 with q3 | q3
      · rw [wI_cell _ _ _ q3]
      · subst q3; rw [wI_place _ _ _ (by omega)]
    rw [z, wI_cell _ _ _ e1, wI_cell _ _ _ e0]
  refine ⟨wf_seen hW hs r0 r1, ⟨by rw [E 0 1 (by omega) (by omega) (by omega)]; exact h0.1, h0.2.mv (fun j _ => E 1 j (by omega) (by omega) (by omega))⟩, ⟨by rw [E 0 5 (by omega) (by omega) (by omega)]; exact h1.1, by rw [E 0 6 (by omega) (by omega) (by omega)]; exact h1.2.1, by rw [E 0 41 (by omega) (by omega) (by omega)]; exact h1.2.2⟩, ⟨by rw [E 3 0 (by omega) (by omega) (by omega)]; exact h2.1, h2.2.1.mv (fun j _ => E 4 j (by omega) (by omega) (by omega)), h2.2.2.mv (fun j _ => E 5 j (by omega) (by omega) (by omega))⟩, ⟨by rw [E 3 1 (by omega) (by omega) (by omega)]; exact h3.1, h3.2.mv (fun j _ => E 6 j (by omega) (by omega) (by omega))⟩, ⟨by rw [E 3 2 (by omega) (by omega) (by omega)]; exact h4.1, h4.2.1.mv (fun j _ => E 7 j (by omega) (by omega) (by omega)), h4.2.2.mv (fun j _ => E 8 j (by omega) (by omega) (by omega))⟩, ⟨by rw [E 3 3 (by omega) (by omega) (by omega)]; exact h5.1, h5.2.1.mv (fun j _ => E 9 j (by omega) (by omega) (by omega)), h5.2.2.1.mv (fun j _ => E 10 j (by omega) (by omega) (by omega)), h5.2.2.2.mv (fun j _ => E 11 j (by omega) (by omega) (by omega))⟩, ⟨by rw [E 3 4 (by omega) (by omega) (by omega)]; exact h6.1, h6.2.1.mv (fun j _ => E 12 j (by omega) (by omega) (by omega)), h6.2.2.mv (fun j _ => E 13 j (by omega) (by omega) (by omega))⟩, ⟨wI_same _ _ _ _, C1.add h7.2.1 (fun j hj => if_neg (by omega)) (if_pos rfl) ?_ (fun j hj => ?_), C1.add h7.2.2 (fun j hj => if_neg (by omega)) (if_pos rfl) ?_ (fun j hj => ?_)⟩, ⟨by rw [E 0 32 (by omega) (by omega) (by omega)]; exact h8.1, h8.2.1.mv (fun j _ => E 24 j (by omega) (by omega) (by omega)), h8.2.2.1.mv (fun j _ => E 25 j (by omega) (by omega) (by omega)), h8.2.2.2.mv (fun j _ => E 26 j (by omega) (by omega) (by omega))⟩, fun s hs2 => ((h9 s hs2).mv (fun c j _ _ => E c j (by omega) (by omega) (by omega))).cg (fun i hi => setS_other (by omega)) rfl⟩
  · rw [wI_cell _ _ _ (by omega), wI_cell _ _ _ (by omega), wI_same]
  · rw [wI_cell _ _ _ (by omega), wI_cell _ _ _ (by omega), wI_place _ _ _ (by omega)]
  · rw [wI_cell _ _ _ (by omega), wI_same]
  · rw [wI_cell _ _ _ (by omega), wI_place _ _ _ (by omega), wI_cell _ _ _ (by omega)]
theorem p_seen (a : ab) (hW : WF a) (x1 x2 : Int32) : PI a (fun σ K => M_X5_seen σ K x1 x2) (fun σ K => M_X6_seen σ K x1 x2) := by
  by_cases c0 : ¬ IN x1 0 7
  · exact ⟨-2, a, fun σ K hI h => b_X5_seen (⟨fun c => absurd c c0, fun _ => h σ hI⟩), fun σ K hI h => b_X6_seen (⟨fun c => absurd c c0, fun _ => h σ hI⟩)⟩
  have c0 := Classical.not_not.mp c0
  by_cases c1 : ¬ IN x2 0 1
  · exact ⟨-2, a, fun σ K hI h => b_X5_seen (⟨fun _ => ⟨fun c => absurd c c1, fun _ => h σ hI⟩, fun c => absurd c0 c⟩), fun σ K hI h => b_X6_seen (⟨fun _ => ⟨fun c => absurd c c1, fun _ => h σ hI⟩, fun c => absurd c0 c⟩)⟩
  have c1 := Classical.not_not.mp c1
  obtain ⟨q0, l0, r0, rfl⟩ := (IN_iff (lo := 0) (hi := 7) (by decide) (by decide)).mp c0
  obtain ⟨q1, l1, r1, rfl⟩ := (IN_iff (lo := 0) (hi := 1) (by decide) (by decide)).mp c1
  have hn : a.1 8 ≤ 8 := hW.2.2.2.2.2.2.2.2.2.1.1
  rcases (show a.1 8 = 8 ∨ a.1 8 < 8 by omega) with hs | hs
  · refine ⟨-4, a, fun σ K hI h => b_X5_seen (⟨fun _ => ⟨fun _ => k3_add isRows_24 (hI.2.1.2.2.2.2.2.2.2.1).1 (hI.2.1.2.2.2.2.2.2.2.1).2.1 (fun _ => (h σ hI)) (fun c => absurd c (by omega)) (by omega), fun c => absurd c1 c⟩, fun c => absurd c0 c⟩), fun σ K hI h => b_X6_seen (⟨fun _ => ⟨fun _ => ⟨fun c => ?_, fun _ => h σ hI⟩, fun c => absurd c1 c⟩, fun c => absurd c0 c⟩)⟩
    rw [hI.2.2.2.2.2.2.2.2.1.1, hs] at c
    exact absurd rfl c
  · refine ⟨nI (a.1 8 + 1), ad_seen a q0 q1, fun σ K hI h => b_X5_seen (⟨fun _ => ⟨fun _ => k3_add isRows_24 (hI.2.1.2.2.2.2.2.2.2.1).1 (hI.2.1.2.2.2.2.2.2.2.1).2.1 (fun c => absurd c (by omega)) (fun _ => h _ (b0_seen hI hs r0 r1)) (by omega), fun c => absurd c1 c⟩, fun c => absurd c0 c⟩), fun σ K hI h => b_X6_seen (⟨fun _ => ⟨fun _ => ⟨fun _ => ⟨a.1 8, hI.2.2.2.2.2.2.2.2.1.1, hs, ⟨a.1 8, hI.2.2.2.2.2.2.2.2.1.1, hs, ?_⟩⟩, fun c => ?_⟩, fun c => absurd c1 c⟩, fun c => absurd c0 c⟩)⟩
    · rw [hI.2.2.2.2.2.2.2.2.1.1, nI_1]
      exact h _ (b1_seen hI hs r0 r1)
    · rw [hI.2.2.2.2.2.2.2.2.1.1] at c
      have := nI_inj (b := 8) (by omega) (by decide) c
      omega
def ad_book (a : ab) (q0 q1 q2 : Nat) : ab := (fun s => setS (setT (setT (setT a 13 s q0) 14 s q1) 15 s q2) 9 (s + 1)) (a.1 9)
theorem wf_book {a : ab} {q0 q1 q2 : Nat} (hW : WF a) (hs : a.1 9 < 8) (r0 : q0 ≤ 39) (r1 : q1 ≤ 7) (r2 : q2 ≤ 1) : WF (ad_book a q0 q1 q2) := by
  obtain ⟨w0, w1, w2, w3, w4, w5, w6, w7, w8, w9, w10, w11⟩ := hW
  refine ⟨w0, w1, w2, w3, w4, w5, w6, w7, w8, w9, ⟨?_, fun j hj => ?_⟩, fun s hs2 => ?_⟩
  · show a.1 9 + 1 ≤ 8; omega
  · have hj : j < a.1 9 + 1 := hj
    show (if j = a.1 9 then q0 else a.2.1 13 j) < 40 ∧ (if j = a.1 9 then q1 else a.2.1 14 j) < 8 ∧ (if j = a.1 9 then q2 else a.2.1 15 j) < 2
    rcases (show j < a.1 9 ∨ j = a.1 9 by omega) with q | q
    · have e : ¬ j = a.1 9 := by omega
      simp only [if_neg e]
      exact w10.2 j q
    · simp only [if_pos q]
      omega
  · have := w11 s hs2
    have e : ∀ i, 20 ≤ i → (ad_book a q0 q1 q2).1 i = a.1 i := fun i hi => setS_other (by omega)
    rw [e _ (by omega), e _ (by omega), e _ (by omega)]
    exact this
theorem b0_book {a : ab} {σ : r_St} {q0 q1 q2 : Nat} (hI : Inv0 a σ) (hs : a.1 9 < 8) (r0 : q0 ≤ 39) (r1 : q1 ≤ 7) (r2 : q2 ≤ 1) : Inv0 (ad_book a q0 q1 q2) (addS σ 28 (a.1 9) (nI q0) (nI q1) (nI q2)) := by
  obtain ⟨hW, hB, hT⟩ := hI
  obtain ⟨h0, h1, h2, h3, h4, h5, h6, h7, h8, h9⟩ := hB
  have E : ∀ c j, ¬ (c = 0 ∧ j = 15) → (c < 28 ∨ 31 < c) → (addS σ 28 (a.1 9) (nI q0) (nI q1) (nI q2)).1 c j = σ.1 c j := by
    intro c j q1 q2
    rw [addS_cell q2]
  have E15 : (addS σ 28 (a.1 9) (nI q0) (nI q1) (nI q2)).1 0 15 = σ.1 0 15 := by rw [addS_cell (by omega)]
  refine ⟨wf_book hW hs r0 r1 r2, ⟨(h0.mv (fun c j _ _ => E c j (by omega) (by omega))).cg ⟨rfl, rfl⟩, h1.mv (fun j _ _ => E 0 j (by omega) (by omega)), h2.mv (fun c j _ _ => E c j (by omega) (by omega)), h3.mv (fun c j _ _ => E c j (by omega) (by omega)), h4.mv (fun c j _ _ => E c j (by omega) (by omega)), h5.mv (fun c j _ _ => E c j (by omega) (by omega)), h6.mv (fun c j _ _ => E c j (by omega) (by omega)), h7.mv (fun c j _ _ => E c j (by omega) (by omega)), ?_, fun s hs2 => ((h9 s hs2).mv (fun c j _ => E c j (by omega) (by omega))).cg (fun i hi => setS_other (by omega)) rfl⟩, fun hz => (hT (by rw [← E15]; exact hz)).mv ⟨rfl, rfl, rfl, rfl, rfl, rfl, rfl, rfl, rfl, rfl, rfl⟩ (fun c j _ _ => E c j (by omega) (by omega))⟩
  exact R3.add h8 (fun j hj => if_neg (by omega)) (fun j hj => if_neg (by omega)) (fun j hj => if_neg (by omega)) (if_pos rfl) (if_pos rfl) (if_pos rfl)
theorem b1_book {a : ab} {σ : r_St} {q0 q1 q2 : Nat} (hI : Inv1 a σ) (hs : a.1 9 < 8) (r0 : q0 ≤ 39) (r1 : q1 ≤ 7) (r2 : q2 ≤ 1) : Inv1 (ad_book a q0 q1 q2) (wI (wI (wI (wI σ 24 (a.1 9) (nI q0)) 25 (a.1 9) (nI q1)) 26 (a.1 9) (nI q2)) 0 32 (nI (a.1 9 + 1))) := by
  obtain ⟨hW, hB⟩ := hI
  obtain ⟨h0, h1, h2, h3, h4, h5, h6, h7, h8, h9⟩ := hB
  have E : ∀ c j, ¬ (c = 0 ∧ j = 32) → ¬ c = 24 → ¬ c = 25 → ¬ c = 26 → (wI (wI (wI (wI σ 24 (a.1 9) (nI q0)) 25 (a.1 9) (nI q1)) 26 (a.1 9) (nI q2)) 0 32 (nI (a.1 9 + 1))).1 c j = σ.1 c j := by
    intro c j q0 e0 e1 e2
    have z : ∀ τ : r_St, ∀ v : Int32, (wI τ 0 32 v).1 c j = τ.1 c j := by
      intro τ v
      rcases Nat.decEq c 0 with q3 | q3
      · rw [wI_cell _ _ _ q3]
      · subst q3; rw [wI_place _ _ _ (by omega)]
    rw [z, wI_cell _ _ _ e2, wI_cell _ _ _ e1, wI_cell _ _ _ e0]
  refine ⟨wf_book hW hs r0 r1 r2, ⟨by rw [E 0 1 (by omega) (by omega) (by omega) (by omega)]; exact h0.1, h0.2.mv (fun j _ => E 1 j (by omega) (by omega) (by omega) (by omega))⟩, ⟨by rw [E 0 5 (by omega) (by omega) (by omega) (by omega)]; exact h1.1, by rw [E 0 6 (by omega) (by omega) (by omega) (by omega)]; exact h1.2.1, by rw [E 0 41 (by omega) (by omega) (by omega) (by omega)]; exact h1.2.2⟩, ⟨by rw [E 3 0 (by omega) (by omega) (by omega) (by omega)]; exact h2.1, h2.2.1.mv (fun j _ => E 4 j (by omega) (by omega) (by omega) (by omega)), h2.2.2.mv (fun j _ => E 5 j (by omega) (by omega) (by omega) (by omega))⟩, ⟨by rw [E 3 1 (by omega) (by omega) (by omega) (by omega)]; exact h3.1, h3.2.mv (fun j _ => E 6 j (by omega) (by omega) (by omega) (by omega))⟩, ⟨by rw [E 3 2 (by omega) (by omega) (by omega) (by omega)]; exact h4.1, h4.2.1.mv (fun j _ => E 7 j (by omega) (by omega) (by omega) (by omega)), h4.2.2.mv (fun j _ => E 8 j (by omega) (by omega) (by omega) (by omega))⟩, ⟨by rw [E 3 3 (by omega) (by omega) (by omega) (by omega)]; exact h5.1, h5.2.1.mv (fun j _ => E 9 j (by omega) (by omega) (by omega) (by omega)), h5.2.2.1.mv (fun j _ => E 10 j (by omega) (by omega) (by omega) (by omega)), h5.2.2.2.mv (fun j _ => E 11 j (by omega) (by omega) (by omega) (by omega))⟩, ⟨by rw [E 3 4 (by omega) (by omega) (by omega) (by omega)]; exact h6.1, h6.2.1.mv (fun j _ => E 12 j (by omega) (by omega) (by omega) (by omega)), h6.2.2.mv (fun j _ => E 13 j (by omega) (by omega) (by omega) (by omega))⟩, ⟨by rw [E 0 29 (by omega) (by omega) (by omega) (by omega)]; exact h7.1, h7.2.1.mv (fun j _ => E 22 j (by omega) (by omega) (by omega) (by omega)), h7.2.2.mv (fun j _ => E 23 j (by omega) (by omega) (by omega) (by omega))⟩, ⟨wI_same _ _ _ _, C1.add h8.2.1 (fun j hj => if_neg (by omega)) (if_pos rfl) ?_ (fun j hj => ?_), C1.add h8.2.2.1 (fun j hj => if_neg (by omega)) (if_pos rfl) ?_ (fun j hj => ?_), C1.add h8.2.2.2 (fun j hj => if_neg (by omega)) (if_pos rfl) ?_ (fun j hj => ?_)⟩, fun s hs2 => ((h9 s hs2).mv (fun c j _ _ => E c j (by omega) (by omega) (by omega) (by omega))).cg (fun i hi => setS_other (by omega)) rfl⟩
  · rw [wI_cell _ _ _ (by omega), wI_cell _ _ _ (by omega), wI_cell _ _ _ (by omega), wI_same]
  · rw [wI_cell _ _ _ (by omega), wI_cell _ _ _ (by omega), wI_cell _ _ _ (by omega), wI_place _ _ _ (by omega)]
  · rw [wI_cell _ _ _ (by omega), wI_cell _ _ _ (by omega), wI_same]
  · rw [wI_cell _ _ _ (by omega), wI_cell _ _ _ (by omega), wI_place _ _ _ (by omega), wI_cell _ _ _ (by omega)]
  · rw [wI_cell _ _ _ (by omega), wI_same]
  · rw [wI_cell _ _ _ (by omega), wI_place _ _ _ (by omega), wI_cell _ _ _ (by omega), wI_cell _ _ _ (by omega)]
theorem p_book (a : ab) (hW : WF a) (x1 x2 x3 : Int32) : PI a (fun σ K => M_X5_book σ K x1 x2 x3) (fun σ K => M_X6_book σ K x1 x2 x3) := by
  by_cases c0 : ¬ IN x1 0 39
  · exact ⟨-2, a, fun σ K hI h => b_X5_book (⟨fun c => absurd c c0, fun _ => h σ hI⟩), fun σ K hI h => b_X6_book (⟨fun c => absurd c c0, fun _ => h σ hI⟩)⟩
  have c0 := Classical.not_not.mp c0
  by_cases c1 : ¬ IN x2 0 7
  · exact ⟨-2, a, fun σ K hI h => b_X5_book (⟨fun _ => ⟨fun c => absurd c c1, fun _ => h σ hI⟩, fun c => absurd c0 c⟩), fun σ K hI h => b_X6_book (⟨fun _ => ⟨fun c => absurd c c1, fun _ => h σ hI⟩, fun c => absurd c0 c⟩)⟩
  have c1 := Classical.not_not.mp c1
  by_cases c2 : ¬ IN x3 0 1
  · exact ⟨-2, a, fun σ K hI h => b_X5_book (⟨fun _ => ⟨fun _ => ⟨fun c => absurd c c2, fun _ => h σ hI⟩, fun c => absurd c1 c⟩, fun c => absurd c0 c⟩), fun σ K hI h => b_X6_book (⟨fun _ => ⟨fun _ => ⟨fun c => absurd c c2, fun _ => h σ hI⟩, fun c => absurd c1 c⟩, fun c => absurd c0 c⟩)⟩
  have c2 := Classical.not_not.mp c2
  obtain ⟨q0, l0, r0, rfl⟩ := (IN_iff (lo := 0) (hi := 39) (by decide) (by decide)).mp c0
  obtain ⟨q1, l1, r1, rfl⟩ := (IN_iff (lo := 0) (hi := 7) (by decide) (by decide)).mp c1
  obtain ⟨q2, l2, r2, rfl⟩ := (IN_iff (lo := 0) (hi := 1) (by decide) (by decide)).mp c2
  have hn : a.1 9 ≤ 8 := hW.2.2.2.2.2.2.2.2.2.2.1.1
  rcases (show a.1 9 = 8 ∨ a.1 9 < 8 by omega) with hs | hs
  · refine ⟨-4, a, fun σ K hI h => b_X5_book (⟨fun _ => ⟨fun _ => ⟨fun _ => k3_add isRows_28 (hI.2.1.2.2.2.2.2.2.2.2.1).1 (hI.2.1.2.2.2.2.2.2.2.2.1).2.1 (fun _ => (h σ hI)) (fun c => absurd c (by omega)) (by omega), fun c => absurd c2 c⟩, fun c => absurd c1 c⟩, fun c => absurd c0 c⟩), fun σ K hI h => b_X6_book (⟨fun _ => ⟨fun _ => ⟨fun _ => ⟨fun c => ?_, fun _ => h σ hI⟩, fun c => absurd c2 c⟩, fun c => absurd c1 c⟩, fun c => absurd c0 c⟩)⟩
    rw [hI.2.2.2.2.2.2.2.2.2.1.1, hs] at c
    exact absurd rfl c
  · refine ⟨nI (a.1 9 + 1), ad_book a q0 q1 q2, fun σ K hI h => b_X5_book (⟨fun _ => ⟨fun _ => ⟨fun _ => k3_add isRows_28 (hI.2.1.2.2.2.2.2.2.2.2.1).1 (hI.2.1.2.2.2.2.2.2.2.2.1).2.1 (fun c => absurd c (by omega)) (fun _ => h _ (b0_book hI hs r0 r1 r2)) (by omega), fun c => absurd c2 c⟩, fun c => absurd c1 c⟩, fun c => absurd c0 c⟩), fun σ K hI h => b_X6_book (⟨fun _ => ⟨fun _ => ⟨fun _ => ⟨fun _ => ⟨a.1 9, hI.2.2.2.2.2.2.2.2.2.1.1, hs, ⟨a.1 9, hI.2.2.2.2.2.2.2.2.2.1.1, hs, ⟨a.1 9, hI.2.2.2.2.2.2.2.2.2.1.1, hs, ?_⟩⟩⟩, fun c => ?_⟩, fun c => absurd c2 c⟩, fun c => absurd c1 c⟩, fun c => absurd c0 c⟩)⟩
    · rw [hI.2.2.2.2.2.2.2.2.2.1.1, nI_1]
      exact h _ (b1_book hI hs r0 r1 r2)
    · rw [hI.2.2.2.2.2.2.2.2.2.1.1] at c
      have := nI_inj (b := 8) (by omega) (by decide) c
      omega
