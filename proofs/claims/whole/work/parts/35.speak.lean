/-! ===== the class: what is said and allowed; the laws as told ===== -/
section OPB
variable {σ : r_St} {K : Int32 → r_St → Prop}
theorem all_nI {n : Nat} (h : n ≤ 8) : sl 1 (nI n) - 1 = nI (2 ^ n - 1) := by
  rw [sl_1 (by omega)]
  exact pk_sub (b := 1) (Nat.two_pow_pos n)
theorem k1_openBy {n r e y k : Nat} (hk : isLaws k) (hn : n ≤ 8) (h5 : σ.1 k 5 = nI n) (hr : r ≤ 3) (h : K (nI (opn n r e y)) σ) : M_X1_openBy k σ K (ruI r) (nI e) (nI y) := by
  refine b_X1_openBy hk ⟨fun c => ?_, fun c => ?_, fun c => ?_, fun c => ?_⟩
  · have c := (ruI_0 hr).mp c
    unfold opn at h
    rw [if_pos c] at h
    exact h
  · have c := (ruI_1 hr).mp c
    unfold opn at h
    rw [if_neg (by omega), if_pos c] at h
    exact h
  · have c := (ruI_2 hr).mp c
    unfold opn at h
    rw [if_neg (by omega), if_neg (by omega), if_pos c] at h
    rw [n_and]
    exact h
  · have c0 : ¬ r = 0 := fun q => c.1 ((ruI_0 hr).mpr q)
    have c1 : ¬ r = 1 := fun q => c.2.1 ((ruI_1 hr).mpr q)
    have c2 : ¬ r = 2 := fun q => c.2.2 ((ruI_2 hr).mpr q)
    unfold opn at h
    rw [if_neg c0, if_neg c1, if_neg c2] at h
    rw [h5, all_nI hn]
    exact h
end OPB
section SPK
variable {K : r_St → Prop}
/-- behind the days, what is in place -/
def SpF (k : Nat) (σ σ' : r_St) : Prop := ∀ c j, ¬ c = k + 2 → ¬ c = k + 3 → ¬ c = k + 4 → σ'.1 c j = σ.1 c j
theorem l1_speak {a : ab} {w : Int32} {k : Nat} {σ : r_St} (hk : isLaws k) (hW : WF a) (h5 : σ.1 k 5 = nI (dd a)) (hS : Seat a k σ) (hT : ∀ d, d < 40 → σ.1 (k + 5) d = nI (tn a w d))
    (h : ∀ σ', SpF k σ σ' → (∀ j, j < 40 → σ'.1 (k + 2) j = nI (sE a w j) ∧ σ'.1 (k + 3) j = nI (sY a w j) ∧ σ'.1 (k + 4) j = nI (op a w j)) → K σ') :
    ∀ m i, i + m = 40 → ∀ σ', SpF k σ σ' → (∀ j, j < i → σ'.1 (k + 2) j = nI (sE a w j) ∧ σ'.1 (k + 3) j = nI (sY a w j) ∧ σ'.1 (k + 4) j = nI (op a w j)) → R_X1_speak_31 k σ' K (nI (sE a w i)) (nI (sY a w i)) (nI i) := by
  have h8 : dd a ≤ 8 := dd_le hW.1
  intro m
  induction m with
  | zero =>
    intro i hi σ' hF hj
    have e : i = 40 := by omega
    subst e
    exact b_X1_speak_31 hk ⟨fun _ => h σ' hF hj, fun c => absurd (Int32.le_refl _) c⟩
  | succ m ih =>
    intro i hi σ' hF hj
    have hr := ru_le a i
    have hR : σ'.1 (k + 1) i = ruI (ru a i) := by rw [hF _ _ (by omega) (by omega) (by omega)]; exact hS i (by omega)
    have next : ∀ σ2, σ2 = wI (wI (wI σ' (k + 2) i (nI (sE a w i))) (k + 3) i (nI (sY a w i))) (k + 4) i (nI (op a w i)) → R_X1_speak_31 k σ2 K (nI (sE a w (i + 1))) (nI (sY a w (i + 1))) (nI i + 1) := by
      intro σ2 e2
      rw [nI_1]
      refine ih (i + 1) (by omega) σ2 ?_ (fun j hj2 => ?_)
      · intro c j q1 q2 q3
        rw [e2, wI_cell _ _ _ q3, wI_cell _ _ _ q2, wI_cell _ _ _ q1]
        exact hF c j q1 q2 q3
      · rw [e2]
        rcases (show j < i ∨ j = i by omega) with q | q
        · rw [wI_cell _ _ _ (by omega), wI_cell _ _ _ (by omega), wI_place _ _ _ (by omega), wI_cell _ _ _ (by omega), wI_place _ _ _ (by omega), wI_cell _ _ _ (by omega), wI_place _ _ _ (by omega), wI_cell _ _ _ (by omega), wI_cell _ _ _ (by omega)]
          exact hj j q
        · subst q
          rw [wI_cell _ _ _ (by omega), wI_cell _ _ _ (by omega), wI_same, wI_cell _ _ _ (by omega), wI_same, wI_same]
          exact ⟨rfl, rfl, rfl⟩
    have eT : ∀ σ2, σ2 = wI (wI (wI σ' (k + 2) i (nI (sE a w i))) (k + 3) i (nI (sY a w i))) (k + 4) i (nI (op a w i)) → σ2.1 (k + 5) i = nI (tn a w i) := by
      intro σ2 e2
      rw [e2, wI_cell _ _ _ (by omega), wI_cell _ _ _ (by omega), wI_cell _ _ _ (by omega), hF _ _ (by omega) (by omega) (by omega)]
      exact hT i (by omega)
    have sE1 : sE a w (i + 1) = if ru a i = 0 ∨ ru a i = 2 then sE a w i ^^^ tn a w i else sE a w i := rfl
    have sY1 : sY a w (i + 1) = if ru a i = 1 ∨ ru a i = 2 then sY a w i ^^^ tn a w i else sY a w i := rfl
    refine b_X1_speak_31 hk ⟨fun c => ?_, fun c => ⟨i, rfl, by omega, i, rfl, by omega, i, rfl, by omega, ?_⟩⟩
    · have := le_of_nI (x := 40) (by decide) (by omega) c
      omega
    · rw [hR]
      refine k1_openBy hk h8 ?_ hr ?_
      · rw [wI_cell _ _ _ (by omega), wI_cell _ _ _ (by omega), hF _ _ (by omega) (by omega) (by omega)]
        exact h5
      show ∃ j12 : Nat, nI i = nI j12 ∧ j12 < 40 ∧ _
      refine ⟨i, rfl, by omega, ?_⟩
      have eop : opn (dd a) (ru a i) (sE a w i) (sY a w i) = op a w i := rfl
      rw [eop]
      generalize e2 : wI (wI (wI σ' (k + 2) i (nI (sE a w i))) (k + 3) i (nI (sY a w i))) (k + 4) i (nI (op a w i)) = σ2
      have N := next σ2 e2.symm
      have T := eT σ2 e2.symm
      rw [sE1, sY1] at N
      have j117 : ∀ x : Int32, (ru a i = 1 ∨ ru a i = 2) → R_X1_speak_31 k σ2 K x (nI (sY a w i ^^^ tn a w i)) (nI i + 1) → R_X1_speak_117 k σ2 K x (nI (sY a w i)) (nI i) := by
        intro x hx hh
        refine b_X1_speak_117 hk ⟨i, rfl, by omega, ?_⟩
        rw [T, n_xor]
        exact hh
      have j105 : ∀ x : Int32, R_X1_speak_31 k σ2 K x (nI (if ru a i = 1 ∨ ru a i = 2 then sY a w i ^^^ tn a w i else sY a w i)) (nI i + 1) → R_X1_speak_105 k σ2 K x (nI (sY a w i)) (nI i) (ruI (ru a i)) := by
        intro x hh
        refine b_X1_speak_105 hk ⟨fun c1 => ?_, fun c1 => ⟨fun c2 => ?_, fun c2 => ?_⟩⟩
        · have c1 := (ruI_1 hr).mp c1
          rw [if_pos (Or.inl c1)] at hh
          exact j117 x (Or.inl c1) hh
        · have c1 : ¬ ru a i = 1 := fun q => c1 ((ruI_1 hr).mpr q)
          have c2 : ¬ ru a i = 2 := fun q => c2 ((ruI_2 hr).mpr q)
          rw [if_neg (by omega)] at hh
          exact hh
        · have c2 := (ruI_2 hr).mp c2
          rw [if_pos (Or.inr c2)] at hh
          exact j117 x (Or.inr c2) hh
      have j93 : (ru a i = 0 ∨ ru a i = 2) → R_X1_speak_93 k σ2 K (nI (sE a w i)) (nI (sY a w i)) (nI i) (ruI (ru a i)) := by
        intro hx
        refine b_X1_speak_93 hk ⟨i, rfl, by omega, ?_⟩
        rw [T, n_xor]
        rw [if_pos hx] at N
        exact j105 _ N
      refine ⟨fun c1 => j93 (Or.inl ((ruI_0 hr).mp c1)), fun c1 => ⟨fun c2 => ?_, fun c2 => j93 (Or.inr ((ruI_2 hr).mp c2))⟩⟩
      have c1 : ¬ ru a i = 0 := fun q => c1 ((ruI_0 hr).mpr q)
      have c2 : ¬ ru a i = 2 := fun q => c2 ((ruI_2 hr).mpr q)
      rw [if_neg (show ¬ (ru a i = 0 ∨ ru a i = 2) by omega)] at N
      exact j105 _ N
theorem k1_speak {a : ab} {w : Int32} {k : Nat} {σ : r_St} (hk : isLaws k) (h32 : 32 ≤ k) (hW : WF a) (hx : Tx0 a σ) (hR : R3 σ 12 10 (a.1 5) (a.2.1 4) (a.2.1 5) z0) (hS : Seat a k σ)
    (h : ∀ σ', (∀ c j, ¬ (c = k ∧ j = 5) → ¬ (k + 2 ≤ c ∧ c ≤ k + 5) → σ'.1 c j = σ.1 c j) → Told a w k σ' → K σ') : M_X1_speak k σ K (nI (a.1 1)) w := by
  have h8 : dd a ≤ 8 := dd_le hW.1
  have e0 : wI σ k 5 (σ.1 1 4) = wI σ k 5 (nI (dd a)) := by rw [hx.2.2.1]
  refine b_X1_speak hk ?_
  rw [e0]
  refine k1_gather (a := a) hk h32 hW (hR.mv (fun c j _ _ => by rw [wI_cell _ _ _ (by omega)])) (wI_same _ _ _ _) (fun s1 hF1 hT1 => ?_)
  have f1 : ∀ c j, ¬ (c = k ∧ j = 5) → ¬ c = k + 5 → s1.1 c j = σ.1 c j := by
    intro c j q1 q2
    rw [hF1 c j q2]
    rcases Nat.decEq c k with q3 | q3
    · rw [wI_cell _ _ _ q3]
    · subst q3
      rw [wI_place _ _ _ (by omega)]
  have g4 : s1.1 1 4 = nI (dd a) := by rw [f1 1 4 (by omega) (by omega)]; exact hx.2.2.1
  have g5 : s1.1 1 5 = nI (el a) := by rw [f1 1 5 (by omega) (by omega)]; exact hx.2.2.2.1
  have gk : s1.1 k 5 = nI (dd a) := by rw [hF1 k 5 (by omega), wI_same]
  refine k0_youngerBits (a := a) hW.1 g4 g5 hW.2.2.1 ?_
  rw [g5]
  have hS1 : Seat a k s1 := fun j hj => by rw [f1 _ _ (by omega) (by omega)]; exact hS j hj
  refine l1_speak (a := a) (w := w) (σ := s1) hk hW gk hS1 hT1 (fun σ' hF hj => ?_) 40 0 (by omega) s1 (fun _ _ _ _ _ => rfl) (fun j hj => absurd hj (by omega))
  refine h σ' (fun c j q1 q2 => ?_) ⟨?_, fun j hj2 => ?_, hj⟩
  · rw [hF c j (by omega) (by omega) (by omega)]
    exact f1 c j q1 (by omega)
  · rw [hF k 5 (by omega) (by omega) (by omega)]; exact gk
  · rw [hF _ j (by omega) (by omega) (by omega)]; exact hS1 j hj2
/-- laws(): what is told is laid -/
theorem k5_laws {a : ab} {σ : r_St} (hI : Inv0 a σ) (h : ∀ σ', Inv0 a σ' → Told a (-1) 32 σ' → sm0 σ σ' → K σ') : M_X5_laws σ K := by
  obtain ⟨hW, hB, hT⟩ := id hI
  refine b_X5_laws ⟨fun c => h σ hI (hT c) sm0.rf, fun c => ?_⟩
  refine k1_seat (a := a) isLaws_32 (by omega) hW ⟨hB.2.2.1, hB.2.2.2.1⟩ (fun s1 hF1 hS1 => ?_)
  have m1 : sm0 σ s1 := fun c j _ q => hF1 c j (by omega)
  have B1 := hB.mv m1
  have e : s1.1 0 12 = nI (a.1 1) := B1.2.1.1
  rw [e]
  refine k1_speak (a := a) isLaws_32 (by omega) hW B1.1 B1.2.2.2.2.1 hS1 (fun s2 hF2 hT2 => ?_)
  have m2 : sm0 σ (wI s2 0 15 0) := by
    intro c j q1 q2
    have e2 : s2.1 c j = σ.1 c j := by rw [hF2 c j (by omega) (by omega)]; exact m1 c j q1 q2
    rcases Nat.decEq c 0 with q3 | q3
    · rw [wI_cell _ _ _ q3]; exact e2
    · subst q3
      rw [wI_place _ _ _ (by omega)]; exact e2
  have T2 : Told a (-1) 32 (wI s2 0 15 0) := hT2.mv sameL.rf (fun c j _ _ => by rw [wI_cell _ _ _ (by omega)])
  exact h _ ⟨hW, hB.mv m2, fun _ => T2⟩ T2 m2
end SPK
