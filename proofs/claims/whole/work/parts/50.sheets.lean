/-! ===== sheets ===== -/
theorem wI_ne {b p c j : Nat} (τ : r_St) (v : Int32) (q : ¬ (c = b ∧ j = p)) : (wI τ b p v).1 c j = τ.1 c j := by
  rcases Nat.decEq c b with q3 | q3
  · rw [wI_cell _ _ _ q3]
  · subst q3; rw [wI_place _ _ _ (by omega)]
def setH (a : ab) (s t f n : Nat) (it : Nat → Int32) : ab := (fun i => if i = 20 + s then t else if i = 24 + s then f else if i = 28 + s then n else a.1 i, a.2.1, fun s' => if s' = s then it else a.2.2 s')
section SHT
variable {a : ab} {s t f n : Nat} {it : Nat → Int32}
theorem setH_lo {i : Nat} (h : i < 20) : (setH a s t f n it).1 i = a.1 i := by
  show (if i = 20 + s then t else if i = 24 + s then f else if i = 28 + s then n else a.1 i) = _
  rw [if_neg (by omega), if_neg (by omega), if_neg (by omega)]
theorem setH_t : (setH a s t f n it).1 (20 + s) = t := if_pos rfl
theorem setH_f : (setH a s t f n it).1 (24 + s) = f := by
  show (if 24 + s = 20 + s then t else if 24 + s = 24 + s then f else if 24 + s = 28 + s then n else a.1 (24 + s)) = _
  rw [if_neg (by omega), if_pos rfl]
theorem setH_n : (setH a s t f n it).1 (28 + s) = n := by
  show (if 28 + s = 20 + s then t else if 28 + s = 24 + s then f else if 28 + s = 28 + s then n else a.1 (28 + s)) = _
  rw [if_neg (by omega), if_neg (by omega), if_pos rfl]
theorem setH_it : (setH a s t f n it).2.2 s = it := if_pos rfl
theorem setH_o {s2 b : Nat} (hs : s < 4) (h2 : s2 < 4) (hne : ¬ s2 = s) (hb : b = 20 ∨ b = 24 ∨ b = 28) : (setH a s t f n it).1 (b + s2) = a.1 (b + s2) := by
  show (if b + s2 = 20 + s then t else if b + s2 = 24 + s then f else if b + s2 = 28 + s then n else a.1 (b + s2)) = _
  rw [if_neg (by omega), if_neg (by omega), if_neg (by omega)]
theorem setH_io {s2 : Nat} (hne : ¬ s2 = s) : (setH a s t f n it).2.2 s2 = a.2.2 s2 := if_neg hne
theorem wf_H (hW : WF a) (hs : s < 4) (ht : t ≤ 1) (hf : f ≤ 2) (hn : n ≤ 60) : WF (setH a s t f n it) := by
  obtain ⟨w0, w1, w2, w3, w4, w5, w6, w7, w8, w9, w10, w11⟩ := hW
  unfold WF
  rw [setH_lo (i := 0) (by omega), setH_lo (i := 1) (by omega), setH_lo (i := 2) (by omega), setH_lo (i := 3) (by omega), setH_lo (i := 4) (by omega), setH_lo (i := 5) (by omega), setH_lo (i := 6) (by omega), setH_lo (i := 7) (by omega), setH_lo (i := 8) (by omega), setH_lo (i := 9) (by omega)]
  refine ⟨w0, w1, w2, w3, w4, w5, w6, w7, w8, w9, w10, fun s2 h2 => ?_⟩
  rcases Nat.decEq s2 s with q | q
  · rw [setH_o hs h2 q (by omega), setH_o hs h2 q (by omega), setH_o hs h2 q (by omega)]
    exact w11 s2 h2
  · subst q
    rw [setH_t, setH_f, setH_n]
    exact ⟨ht, hf, hn⟩
theorem sameL_H : sameL a (setH a s t f n it) := ⟨setH_lo (by omega), setH_lo (by omega), setH_lo (by omega), setH_lo (by omega), setH_lo (by omega), rfl, rfl, rfl, rfl, rfl, rfl⟩
theorem sh0_set {σ σ' : r_St} (hI : Inv0 a σ) (hs : s < 4) (ht : t ≤ 1) (hf : f ≤ 2) (hn : n ≤ 60) (e : ∀ c j, ¬ c = 51 + 2 * s → ¬ c = 52 + 2 * s → σ'.1 c j = σ.1 c j) (h : Sh0 (setH a s t f n it) σ' s) : Inv0 (setH a s t f n it) σ' := by
  obtain ⟨h0, h1, h2, h3, h4, h5, h6, h7, h8, h9⟩ := hI.2.1
  refine ⟨wf_H hI.1 hs ht hf hn, ?_, fun hz => (hI.2.2 (by rw [← e 0 15 (by omega) (by omega)]; exact hz)).mv sameL_H (fun c j _ _ => e c j (by omega) (by omega))⟩
  unfold B0 Sc0
  rw [setH_lo (i := 1) (by omega), setH_lo (i := 2) (by omega), setH_lo (i := 10) (by omega), setH_lo (i := 3) (by omega), setH_lo (i := 4) (by omega), setH_lo (i := 5) (by omega), setH_lo (i := 6) (by omega), setH_lo (i := 7) (by omega), setH_lo (i := 8) (by omega), setH_lo (i := 9) (by omega)]
  refine ⟨(h0.mv (fun c j _ _ => e c j (by omega) (by omega))).cg sameL_H.T, h1.mv (fun j _ _ => e 0 j (by omega) (by omega)), h2.mv (fun c j _ _ => e c j (by omega) (by omega)), h3.mv (fun c j _ _ => e c j (by omega) (by omega)), h4.mv (fun c j _ _ => e c j (by omega) (by omega)), h5.mv (fun c j _ _ => e c j (by omega) (by omega)), h6.mv (fun c j _ _ => e c j (by omega) (by omega)), h7.mv (fun c j _ _ => e c j (by omega) (by omega)), h8.mv (fun c j _ _ => e c j (by omega) (by omega)), fun s2 hs2 => ?_⟩
  rcases Nat.decEq s2 s with q | q
  · have := (h9 s2 hs2).mv (σ' := σ') (fun c j _ => e c j (by omega) (by omega))
    unfold Sh0 at this ⊢
    rw [setH_o hs hs2 q (by omega), setH_o hs hs2 q (by omega), setH_o hs hs2 q (by omega), setH_io q]
    exact this
  · subst q; exact h
theorem sh1_set {σ σ' : r_St} (hI : Inv1 a σ) (hs : s < 4) (ht : t ≤ 1) (hf : f ≤ 2) (hn : n ≤ 60) (e : ∀ c j, ¬ (27 ≤ c ∧ c ≤ 29 ∧ j = s) → ¬ (c = 30 ∧ 60 * s ≤ j ∧ j < 60 * s + 60) → ¬ c = 31 → σ'.1 c j = σ.1 c j) (h : Sh1 (setH a s t f n it) σ' s) : Inv1 (setH a s t f n it) σ' := by
  obtain ⟨h0, h1, h2, h3, h4, h5, h6, h7, h8, h9⟩ := hI.2
  refine ⟨wf_H hI.1 hs ht hf hn, ?_⟩
  have ee : ∀ c j, c < 27 → σ'.1 c j = σ.1 c j := fun c j q => e c j (by omega) (by omega) (by omega)
  unfold B1 Tx1 Sc1
  rw [setH_lo (i := 0) (by omega), setH_lo (i := 1) (by omega), setH_lo (i := 2) (by omega), setH_lo (i := 10) (by omega), setH_lo (i := 3) (by omega), setH_lo (i := 4) (by omega), setH_lo (i := 5) (by omega), setH_lo (i := 6) (by omega), setH_lo (i := 7) (by omega), setH_lo (i := 8) (by omega), setH_lo (i := 9) (by omega)]
  refine ⟨⟨?_, h0.2.mv (fun j _ => ee _ j (by omega))⟩, ⟨?_, ?_, ?_⟩, ⟨?_, h2.2.1.mv (fun j _ => ee _ j (by omega)), h2.2.2.mv (fun j _ => ee _ j (by omega))⟩, ⟨?_, h3.2.mv (fun j _ => ee _ j (by omega))⟩, ⟨?_, h4.2.1.mv (fun j _ => ee _ j (by omega)), h4.2.2.mv (fun j _ => ee _ j (by omega))⟩, ⟨?_, h5.2.1.mv (fun j _ => ee _ j (by omega)), h5.2.2.1.mv (fun j _ => ee _ j (by omega)), h5.2.2.2.mv (fun j _ => ee _ j (by omega))⟩, ⟨?_, h6.2.1.mv (fun j _ => ee _ j (by omega)), h6.2.2.mv (fun j _ => ee _ j (by omega))⟩, ⟨?_, h7.2.1.mv (fun j _ => ee _ j (by omega)), h7.2.2.mv (fun j _ => ee _ j (by omega))⟩, ⟨?_, h8.2.1.mv (fun j _ => ee _ j (by omega)), h8.2.2.1.mv (fun j _ => ee _ j (by omega)), h8.2.2.2.mv (fun j _ => ee _ j (by omega))⟩, fun s2 hs2 => ?_⟩
  · rw [ee 0 1 (by omega)]; exact h0.1
  · rw [ee 0 5 (by omega)]; exact h1.1
  · rw [ee 0 6 (by omega)]; exact h1.2.1
  · rw [e 0 41 (by omega) (by omega) (by omega)]; exact h1.2.2
  · rw [ee 3 0 (by omega)]; exact h2.1
  · rw [ee 3 1 (by omega)]; exact h3.1
  · rw [ee 3 2 (by omega)]; exact h4.1
  · rw [ee 3 3 (by omega)]; exact h5.1
  · rw [ee 3 4 (by omega)]; exact h6.1
  · rw [ee 0 29 (by omega)]; exact h7.1
  · rw [ee 0 32 (by omega)]; exact h8.1
  rcases Nat.decEq s2 s with q | q
  · have g := h9 s2 hs2
    have wn := (hI.1.2.2.2.2.2.2.2.2.2.2.2 s2 hs2).2.2
    unfold Sh1 at g ⊢
    rw [setH_o hs hs2 q (by omega), setH_o hs hs2 q (by omega), setH_o hs hs2 q (by omega), setH_io q, e 27 s2 (by omega) (by omega) (by omega), e 28 s2 (by omega) (by omega) (by omega), e 29 s2 (by omega) (by omega) (by omega)]
    refine ⟨g.1, fun q2 => ⟨(g.2 q2).1, (g.2 q2).2.1, fun j hj => ?_⟩⟩
    rw [e 30 _ (by omega) (by omega) (by omega)]
    exact (g.2 q2).2.2 j hj
  · subst q; exact h
/-- a finding -/
theorem fnd0 {σ : r_St} {q : Nat} (hI : Inv0 a σ) : Inv0 (setS a 10 q) (wI σ 0 14 (nI q)) := by
  obtain ⟨h0, h1, h2, h3, h4, h5, h6, h7, h8, h9⟩ := hI.2.1
  have z : ∀ c j, ¬ (c = 0 ∧ j = 14) → (wI σ 0 14 (nI q)).1 c j = σ.1 c j := by
    intro c j g
    rcases Nat.decEq c 0 with q3 | q3
    · rw [wI_cell _ _ _ q3]
    · subst q3; rw [wI_place _ _ _ (by omega)]
  have W' : WF (setS a 10 q) := by
    obtain ⟨w0, w1, w2, w3, w4, w5, w6, w7, w8, w9, w10, w11⟩ := hI.1
    refine ⟨w0, w1, w2, w3, w4, w5, w6, w7, w8, w9, w10, fun s hs => ?_⟩
    rw [setS_other (by omega), setS_other (by omega), setS_other (by omega)]
    exact w11 s hs
  refine ⟨W', ⟨(h0.mv (fun c j _ _ => z c j (by omega))).cg ⟨rfl, rfl⟩, ⟨?_, ?_, wI_same _ _ _ _⟩, h2.mv (fun c j _ _ => z c j (by omega)), h3.mv (fun c j _ _ => z c j (by omega)), h4.mv (fun c j _ _ => z c j (by omega)), h5.mv (fun c j _ _ => z c j (by omega)), h6.mv (fun c j _ _ => z c j (by omega)), h7.mv (fun c j _ _ => z c j (by omega)), h8.mv (fun c j _ _ => z c j (by omega)), fun s hs => ((h9 s hs).mv (fun c j _ => z c j (by omega))).cg (fun i hi => setS_other (by omega)) rfl⟩, fun hz => (hI.2.2 (by rw [← z 0 15 (by omega)]; exact hz)).mv ⟨rfl, rfl, rfl, rfl, rfl, rfl, rfl, rfl, rfl, rfl, rfl⟩ (fun c j _ _ => z c j (by omega))⟩
  · rw [z 0 12 (by omega)]; exact h1.1
  · rw [z 0 13 (by omega)]; exact h1.2.1
theorem fnd1 {σ : r_St} {q : Nat} (hI : Inv1 a σ) : Inv1 (setS a 10 q) (wI σ 0 41 (nI q)) := by
  have z : ∀ c j, ¬ (c = 0 ∧ j = 41) → (wI σ 0 41 (nI q)).1 c j = σ.1 c j := by
    intro c j g
    rcases Nat.decEq c 0 with q3 | q3
    · rw [wI_cell _ _ _ q3]
    · subst q3; rw [wI_place _ _ _ (by omega)]
  have W' : WF (setS a 10 q) := by
    obtain ⟨w0, w1, w2, w3, w4, w5, w6, w7, w8, w9, w10, w11⟩ := hI.1
    refine ⟨w0, w1, w2, w3, w4, w5, w6, w7, w8, w9, w10, fun s hs => ?_⟩
    rw [setS_other (by omega), setS_other (by omega), setS_other (by omega)]
    exact w11 s hs
  refine sc_set1 hI W' ⟨rfl, rfl⟩ (fun i hi h10 => setS_other h10) rfl (fun c j hc => z c j (by omega)) ⟨?_, ?_, wI_same _ _ _ _⟩
  · rw [z 0 5 (by omega)]; exact hI.2.2.1.1
  · rw [z 0 6 (by omega)]; exact hI.2.2.1.2.1
theorem there (hW : WF a) (hs : s < 4) : a.1 (20 + s) = 0 ∨ a.1 (20 + s) = 1 := by
  have := (hW.2.2.2.2.2.2.2.2.2.2.2 s hs).1
  omega
theorem lost5 {σ : r_St} (hI : Inv0 a σ) (hs : s < 4) (h0 : a.1 (20 + s) = 0) : σ.1 (51 + 2 * s) 1 = -1 := ((hI.2.1.2.2.2.2.2.2.2.2.2 s hs).1 h0).1
theorem held5 {σ : r_St} (hI : Inv0 a σ) (hs : s < 4) (h1 : a.1 (20 + s) = 1) : σ.1 (51 + 2 * s) 1 = nI (a.1 (24 + s)) ∧ σ.1 (51 + 2 * s) 2 = nI (a.1 (28 + s)) ∧ ∀ j, j < a.1 (28 + s) → σ.1 (52 + 2 * s) j = a.2.2 s j := (hI.2.1.2.2.2.2.2.2.2.2.2 s hs).2 h1
theorem there6 {σ : r_St} (hI : Inv1 a σ) (hs : s < 4) : σ.1 27 s = nI (a.1 (20 + s)) := (hI.2.2.2.2.2.2.2.2.2.2 s hs).1
theorem held6 {σ : r_St} (hI : Inv1 a σ) (hs : s < 4) (h1 : a.1 (20 + s) = 1) : σ.1 28 s = nI (a.1 (24 + s)) ∧ σ.1 29 s = nI (a.1 (28 + s)) ∧ ∀ j, j < a.1 (28 + s) → σ.1 30 (60 * s + j) = a.2.2 s j := (hI.2.2.2.2.2.2.2.2.2.2 s hs).2 h1
theorem IN_3 (hs : s < 4) : IN (nI s) 0 3 := (IN_iff (lo := 0) (hi := 3) (by decide) (by decide)).mpr ⟨s, by omega, by omega, rfl⟩
end SHT
/-! sheet, lose -/
section SH2
variable {a : ab} {s : Nat}
theorem l4_begin {K : r_St → Prop} {k n : Nat} {σ : r_St} (hk : isSheet k) (hn : n ≤ 60) (h2 : σ.1 k 2 = nI n) (h : ∀ σ', (∀ c j, ¬ c = k + 1 → σ'.1 c j = σ.1 c j) → (∀ j, j < n → σ'.1 (k + 1) j = 0) → K σ') : ∀ m i, i + m = n → ∀ σ', (∀ c j, ¬ c = k + 1 → σ'.1 c j = σ.1 c j) → (∀ j, j < i → σ'.1 (k + 1) j = 0) → R_X4_begin_21 k σ' K (nI i) := by
  intro m
  induction m with
  | zero =>
    intro i hi σ' hF hj
    have e : i = n := by omega
    subst e
    refine b_X4_begin_21 hk ⟨fun _ => h σ' hF hj, fun c => ?_⟩
    rw [hF k 2 (by omega), h2] at c
    exact absurd (Int32.le_refl _) c
  | succ m ih =>
    intro i hi σ' hF hj
    refine b_X4_begin_21 hk ⟨fun c => ?_, fun _ => ⟨i, rfl, by omega, ?_⟩⟩
    · rw [hF k 2 (by omega), h2] at c
      have := le_of_nI (by omega) (by omega) c
      omega
    · rw [nI_1]
      refine ih (i + 1) (by omega) _ (fun c j hc => by rw [wI_cell _ _ _ hc]; exact hF c j hc) (fun j hj2 => ?_)
      rcases (show j < i ∨ j = i by omega) with q | q
      · rw [wI_place _ _ _ (by omega)]; exact hj j q
      · subst q; rw [wI_same]
theorem l6_sheet {K : Int32 → r_St → Prop} {n : Nat} {σ : r_St} (hs : s < 4) (h : ∀ σ', (∀ c j, ¬ (c = 30 ∧ 60 * s ≤ j ∧ j < 60 * s + 60) → σ'.1 c j = σ.1 c j) → (∀ j, j < 60 → σ'.1 30 (60 * s + j) = 0) → K (nI n) σ') : ∀ m i, i + m = 60 → ∀ σ', (∀ c j, ¬ (c = 30 ∧ 60 * s ≤ j ∧ j < 60 * s + 60) → σ'.1 c j = σ.1 c j) → (∀ j, j < i → σ'.1 30 (60 * s + j) = 0) → R_X6_sheet_59 σ' K (nI s) (nI n) (nI i) := by
  intro m
  induction m with
  | zero =>
    intro i hi σ' hF hj
    have e : i = 60 := by omega
    subst e
    exact b_X6_sheet_59 ⟨fun _ => h σ' hF hj, fun c => absurd (Int32.le_refl _) c⟩
  | succ m ih =>
    intro i hi σ' hF hj
    have ei : (60 : Int32) * nI s + nI i = nI (60 * s + i) := by rw [show (60 : Int32) = nI 60 from rfl, pk_mul, nI_add]
    refine b_X6_sheet_59 ⟨fun c => ?_, fun _ => ⟨60 * s + i, ei, by omega, ?_⟩⟩
    · have := le_of_nI (x := 60) (by decide) (by omega) c
      omega
    · rw [nI_1]
      refine ih (i + 1) (by omega) _ (fun c j hc => ?_) (fun j hj2 => ?_)
      · rcases Nat.decEq c 30 with q | q
        · rw [wI_cell _ _ _ q]; exact hF c j hc
        · subst q
          rw [wI_place _ _ _ (by omega)]; exact hF 30 j hc
      · rcases (show j < i ∨ j = i by omega) with q | q
        · rw [wI_place _ _ _ (by omega)]; exact hj j q
        · subst q; rw [wI_same]
theorem p_sheet (a : ab) (hW : WF a) (x1 x2 x3 : Int32) : PI a (fun σ K => M_X5_sheet σ K x1 x2 x3) (fun σ K => M_X6_sheet σ K x1 x2 x3) := by
  by_cases c0 : ¬ IN x1 0 3
  · exact ⟨-2, a, fun σ K hI h => b_X5_sheet ⟨fun c => absurd c c0, fun _ => h σ hI⟩, fun σ K hI h => b_X6_sheet ⟨fun c => absurd c c0, fun _ => h σ hI⟩⟩
  have c0 := Classical.not_not.mp c0
  by_cases c1 : ¬ IN x2 0 2
  · exact ⟨-2, a, fun σ K hI h => b_X5_sheet ⟨fun _ => ⟨fun c => absurd c c1, fun _ => h σ hI⟩, fun c => absurd c0 c⟩, fun σ K hI h => b_X6_sheet ⟨fun _ => ⟨fun c => absurd c c1, fun _ => h σ hI⟩, fun c => absurd c0 c⟩⟩
  have c1 := Classical.not_not.mp c1
  by_cases c2 : ¬ x3 ≤ 60
  · exact ⟨-2, a, fun σ K hI h => b_X5_sheet ⟨fun _ => ⟨fun _ => ⟨fun c => absurd c c2, fun _ => h σ hI⟩, fun c => absurd c1 c⟩, fun c => absurd c0 c⟩, fun σ K hI h => b_X6_sheet ⟨fun _ => ⟨fun _ => ⟨fun c => absurd c c2, fun _ => h σ hI⟩, fun c => absurd c1 c⟩, fun c => absurd c0 c⟩⟩
  have c2 := Classical.not_not.mp c2
  by_cases c3 : ¬ 0 ≤ x3
  · exact ⟨-10 - 5, setS a 10 5, fun σ K hI h => b_X5_sheet ⟨fun _ => ⟨fun _ => ⟨fun _ => ⟨fun c => absurd c c3, fun _ => h _ (fnd0 hI)⟩, fun c => absurd c2 c⟩, fun c => absurd c1 c⟩, fun c => absurd c0 c⟩, fun σ K hI h => b_X6_sheet ⟨fun _ => ⟨fun _ => ⟨fun _ => ⟨fun c => absurd c c3, fun _ => h _ (fnd1 hI)⟩, fun c => absurd c2 c⟩, fun c => absurd c1 c⟩, fun c => absurd c0 c⟩⟩
  have c3 := Classical.not_not.mp c3
  obtain ⟨s, l, r, rfl⟩ := (IN_iff (lo := 0) (hi := 3) (by decide) (by decide)).mp c0
  obtain ⟨f, l2, r2, rfl⟩ := (IN_iff (lo := 0) (hi := 2) (by decide) (by decide)).mp c1
  obtain ⟨n, l3, r3, rfl⟩ := (IN_iff (lo := 0) (hi := 60) (by decide) (by decide)).mp (show IN x3 0 60 from ⟨c3, c2⟩)
  have hs : s < 4 := by omega
  refine ⟨nI n, setH a s 1 f n (fun _ => 0), fun σ K hI h => b_X5_sheet ⟨fun _ => ⟨fun _ => ⟨fun _ => ⟨fun _ => ⟨s, rfl, hs, b_X4_begin (isSheet_at hs) ?_⟩, fun c => absurd c3 c⟩, fun c => absurd c2 c⟩, fun c => absurd c1 c⟩, fun c => absurd c0 c⟩, fun σ K hI h => b_X6_sheet ⟨fun _ => ⟨fun _ => ⟨fun _ => ⟨fun _ => ⟨s, rfl, hs, s, rfl, hs, s, rfl, hs, ?_⟩, fun c => absurd c3 c⟩, fun c => absurd c2 c⟩, fun c => absurd c1 c⟩, fun c => absurd c0 c⟩⟩
  · have ei : imax 0 (imin (nI n) 60) = nI n := by
      have e1 : imin (nI n) (nI 60) = nI (if 60 < n then 60 else n) := imin_nI (by omega) (by omega)
      rw [if_neg (by omega)] at e1
      have e2 : imax (nI 0) (nI n) = nI (if 0 < n then n else 0) := imax_nI (by omega) (by omega)
      rw [show (60 : Int32) = nI 60 from rfl, e1, show (0 : Int32) = nI 0 from rfl, e2]
      congr 1
      split <;> omega
    rw [ei]
    refine l4_begin (σ := wI (wI σ (51 + 2 * s) 1 (nI f)) (51 + 2 * s) 2 (nI n)) (isSheet_at hs) r3 (wI_same _ _ _ _) (fun σ' hF hj => h σ' ?_) n 0 (by omega) _ (fun _ _ _ => rfl) (fun j hj => by omega)
    refine sh0_set hI hs (by omega) r2 r3 (fun c j q1 q2 => ?_) ⟨fun q => ?_, fun _ => ?_⟩
    · rw [hF c j (by omega), wI_cell _ _ _ q1, wI_cell _ _ _ q1]
    · rw [setH_t] at q; omega
    · rw [setH_f, setH_n, setH_it, hF _ _ (by omega), hF _ _ (by omega), wI_same, wI_place _ _ _ (by omega), wI_same]
      refine ⟨rfl, rfl, fun j hj2 => ?_⟩
      rw [show 52 + 2 * s = 51 + 2 * s + 1 by omega]
      exact hj j hj2
  · refine l6_sheet (σ := wI (wI (wI σ 27 s 1) 28 s (nI f)) 29 s (nI n)) hs (fun σ' hF hj => h σ' ?_) 60 0 (by omega) _ (fun _ _ _ => rfl) (fun j hj => by omega)
    refine sh1_set hI hs (by omega) r2 r3 (fun c j q1 q2 q3 => ?_) ⟨?_, fun _ => ?_⟩
    · rw [hF c j (by omega), wI_ne _ _ (by omega), wI_ne _ _ (by omega), wI_ne _ _ (by omega)]
    · rw [setH_t, hF _ _ (by omega), wI_cell _ _ _ (by omega), wI_cell _ _ _ (by omega), wI_same]; rfl
    · rw [setH_f, setH_n, setH_it, hF _ _ (by omega), hF _ _ (by omega), wI_cell _ _ _ (by omega), wI_same, wI_same]
      exact ⟨rfl, rfl, fun j hj2 => hj j (by omega)⟩
theorem p_lose (a : ab) (hW : WF a) (x1 : Int32) : PI a (fun σ K => M_X5_lose σ K x1) (fun σ K => M_X6_lose σ K x1) := by
  by_cases c0 : ¬ IN x1 0 3
  · exact ⟨-2, a, fun σ K hI h => b_X5_lose ⟨fun c => absurd c c0, fun _ => h σ hI⟩, fun σ K hI h => b_X6_lose ⟨fun c => absurd c c0, fun _ => h σ hI⟩⟩
  have c0 := Classical.not_not.mp c0
  obtain ⟨s, l, r, rfl⟩ := (IN_iff (lo := 0) (hi := 3) (by decide) (by decide)).mp c0
  have hs : s < 4 := by omega
  have w := hW.2.2.2.2.2.2.2.2.2.2.2 s hs
  rcases there hW hs with ht | ht
  · refine ⟨-10 - 1, setS a 10 1, fun σ K hI h => b_X5_lose ⟨fun _ => ⟨s, rfl, hs, fun c => absurd (lost5 hI hs ht) c, fun _ => h _ (fnd0 hI)⟩, fun c => absurd c0 c⟩, fun σ K hI h => b_X6_lose ⟨fun _ => ⟨s, rfl, hs, fun c => absurd (by rw [there6 hI hs, ht]; rfl) c, fun _ => h _ (fnd1 hI)⟩, fun c => absurd c0 c⟩⟩
  · refine ⟨nI (a.1 (28 + s)), setH a s 0 (a.1 (24 + s)) (a.1 (28 + s)) (a.2.2 s), fun σ K hI h => b_X5_lose ⟨fun _ => ⟨s, rfl, hs, fun c => ⟨s, rfl, hs, b_X4_tear (isSheet_at hs) ?_⟩, fun c => ?_⟩, fun c => absurd c0 c⟩, fun σ K hI h => b_X6_lose ⟨fun _ => ⟨s, rfl, hs, fun c => ⟨s, rfl, hs, s, rfl, hs, ?_⟩, fun c => ?_⟩, fun c => absurd c0 c⟩⟩
    · obtain ⟨g1, g2, g3⟩ := held5 hI hs ht
      rw [g2]
      refine h _ (sh0_set hI hs (by omega) w.2.1 w.2.2 (fun c j q1 q2 => by rw [wI_cell _ _ _ q1, wI_cell _ _ _ q1]) ⟨fun _ => ⟨?_, wI_same _ _ _ _⟩, fun q => ?_⟩)
      · rw [wI_place _ _ _ (by omega), wI_same]
      · rw [setH_t] at q; omega
    · rw [(held5 hI hs ht).1] at c
      exact absurd c (nI_m1 (by omega))
    · obtain ⟨g1, g2, g3⟩ := held6 hI hs ht
      rw [wI_cell _ _ _ (by omega), g2]
      refine h _ (sh1_set hI hs (by omega) w.2.1 w.2.2 (fun c j q1 q2 q3 => ?_) ⟨?_, fun q => ?_⟩)
      · rcases Nat.decEq c 27 with q | q
        · rw [wI_cell _ _ _ q]
        · subst q; rw [wI_place _ _ _ (by omega)]
      · rw [setH_t, wI_same]; rfl
      · rw [setH_t] at q; omega
    · rw [there6 hI hs, ht] at c
      exact absurd c (by decide)
end SH2
