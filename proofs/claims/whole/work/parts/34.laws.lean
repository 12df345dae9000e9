/-! ===== the class: who rules, what is turned, what is said and allowed ===== -/
theorem ru_le (a : ab) (d : Nat) : ru a d ≤ 3 := by
  unfold ru
  split
  · omega
  · split
    · omega
    · split
      · split <;> omega
      · omega
theorem ruI_0 {r : Nat} (h : r ≤ 3) : ruI r = 0 ↔ r = 0 := by
  rcases (show r = 0 ∨ r = 1 ∨ r = 2 ∨ r = 3 by omega) with rfl | rfl | rfl | rfl <;> decide
theorem ruI_1 {r : Nat} (h : r ≤ 3) : ruI r = 1 ↔ r = 1 := by
  rcases (show r = 0 ∨ r = 1 ∨ r = 2 ∨ r = 3 by omega) with rfl | rfl | rfl | rfl <;> decide
theorem ruI_2 {r : Nat} (h : r ≤ 3) : ruI r = 2 ↔ r = 2 := by
  rcases (show r = 0 ∨ r = 1 ∨ r = 2 ∨ r = 3 by omega) with rfl | rfl | rfl | rfl <;> decide
theorem ruI_IN {r : Nat} (h : r ≤ 3) : IN (ruI r) 0 1 ↔ r ≤ 1 := by
  unfold IN
  rcases (show r = 0 ∨ r = 1 ∨ r = 2 ∨ r = 3 by omega) with rfl | rfl | rfl | rfl <;> decide
theorem syp_lt {r t : Nat → Nat} {e y n : Nat} (he : e < 2 ^ n) (hy : y < 2 ^ n) (ht : ∀ d, t d < 2 ^ n) (d : Nat) : (syp r t e y d).1 < 2 ^ n ∧ (syp r t e y d).2 < 2 ^ n := by
  induction d with
  | zero => exact ⟨he, hy⟩
  | succ d ih =>
    unfold syp
    constructor
    · show (if _ then _ else _) < _
      split
      · exact xor_lt ih.1 (ht d)
      · exact ih.1
    · show (if _ then _ else _) < _
      split
      · exact xor_lt ih.2 (ht d)
      · exact ih.2
theorem tnF_lt (a : ab) (w : Int32) (d k : Nat) : tnF a w d k < 2 ^ dd a := by
  unfold tnF
  split
  · rename_i h
    exact Nat.pow_lt_pow_right (by decide) h.2.2
  · exact Nat.two_pow_pos _
theorem tn_lt (a : ab) (w : Int32) (d : Nat) : tn a w d < 2 ^ dd a := xr_lt _ (fun k _ => tnF_lt a w d k)
theorem sE_lt (a : ab) (w : Int32) (d : Nat) : sE a w d < 2 ^ dd a := (syp_lt (el_lt a) (yo_lt a) (tn_lt a w) d).1
theorem sY_lt (a : ab) (w : Int32) (d : Nat) : sY a w d < 2 ^ dd a := (syp_lt (el_lt a) (yo_lt a) (tn_lt a w) d).2
theorem opn_lt {n r e y : Nat} (he : e < 2 ^ n) (hy : y < 2 ^ n) : opn n r e y < 2 ^ n := by
  have := Nat.two_pow_pos n
  unfold opn
  split
  · exact he
  · split
    · exact hy
    · split
      · exact and_lt he
      · omega
theorem op_lt (a : ab) (w : Int32) (d : Nat) : op a w d < 2 ^ dd a := opn_lt (sE_lt a w d) (sY_lt a w d)
section LAW
variable {σ : r_St} {K : Int32 → r_St → Prop}
theorem k1_kingInTurn {d : Nat} (hd : d < 2147483648) (h : K (nI (d % 2)) σ) : M_X1_kingInTurn σ K (nI d) := by
  refine b_X1_kingInTurn ⟨fun c => ?_, fun c => ?_⟩
  · rw [rm_2 hd] at c
    have e : d % 2 = 1 := by
      rcases Nat.mod_two_eq_zero_or_one d with q | q
      · exact absurd (by rw [q]; rfl) c
      · exact q
    rw [e] at h; exact h
  · rw [rm_2 hd] at c
    have e := nI_inj (b := 0) (by omega) (by decide) c
    rw [e] at h; exact h
def RS (a : ab) (σ : r_St) : Prop := R3 σ 4 8 (a.1 3) (a.2.1 1) (a.2.1 2) z0 ∧ R3 σ 8 4 (a.1 4) (a.2.1 3) z0 z0
theorem leap_iff {a : ab} {d : Nat} (hW : WF a) (hR : R3 σ 8 4 (a.1 4) (a.2.1 3) z0 z0) (hd : d < 40) : (∃ j, j < a.1 4 ∧ σ.1 9 j = nI d ∧ σ.1 10 j = 0) ↔ leapB a d = true := by
  have hw := hW.2.2.2.2.2.1.2
  unfold leapB
  rw [exB_iff]
  constructor
  · rintro ⟨j, h1, h2, h3⟩
    refine ⟨j, h1, decide_eq_true ?_⟩
    have e : σ.1 9 j = nI (a.2.1 3 j) := (hR.2.2 j h1).1
    rw [e] at h2
    exact nI_inj (by have := hw j h1; omega) (by omega) h2
  · rintro ⟨j, h1, h2⟩
    have e : σ.1 9 j = nI (a.2.1 3 j) := (hR.2.2 j h1).1
    refine ⟨j, h1, ?_, (hR.2.2 j h1).2.1⟩
    rw [e, of_decide_eq_true h2]
theorem sick_iff {a : ab} {q d : Nat} (hW : WF a) (hR : R3 σ 4 8 (a.1 3) (a.2.1 1) (a.2.1 2) z0) (hd : d < 40) (hq : q < 2) : (∃ j, j < a.1 3 ∧ σ.1 5 j = nI q ∧ σ.1 6 j = nI d) ↔ sickB a q d = true := by
  have hw := hW.2.2.2.2.1.2
  unfold sickB
  rw [exB_iff]
  constructor
  · rintro ⟨j, h1, h2, h3⟩
    have e1 : σ.1 5 j = nI (a.2.1 1 j) := (hR.2.2 j h1).1
    have e2 : σ.1 6 j = nI (a.2.1 2 j) := (hR.2.2 j h1).2.1
    have := hw j h1
    rw [e1] at h2
    rw [e2] at h3
    exact ⟨j, h1, decide_eq_true ⟨nI_inj (by omega) (by omega) h2, nI_inj (by omega) (by omega) h3⟩⟩
  · rintro ⟨j, h1, h2⟩
    have e1 : σ.1 5 j = nI (a.2.1 1 j) := (hR.2.2 j h1).1
    have e2 : σ.1 6 j = nI (a.2.1 2 j) := (hR.2.2 j h1).2.1
    have h2 := of_decide_eq_true h2
    exact ⟨j, h1, by rw [e1, h2.1], by rw [e2, h2.2]⟩
theorem k1_holdsL {a : ab} {d : Nat} (hW : WF a) (hR : R3 σ 8 4 (a.1 4) (a.2.1 3) z0 z0) (hd : d < 40) (h1 : leapB a d = true → K 1 σ) (h0 : leapB a d = false → K 0 σ) : M_X3_holds 8 4 σ K (nI d) 0 := by
  refine k3_holds isRows_8 hR.2.1 hW.2.2.2.2.2.1.1 (fun h => h1 ((leap_iff hW hR hd).mp h)) (fun h => h0 ?_)
  cases hl : leapB a d with
  | false => rfl
  | true =>
    obtain ⟨j, g1, g2, g3⟩ := (leap_iff hW hR hd).mpr hl
    exact absurd ⟨g2, g3⟩ (h j g1)
theorem k1_holdsS {a : ab} {q d : Nat} (hW : WF a) (hR : R3 σ 4 8 (a.1 3) (a.2.1 1) (a.2.1 2) z0) (hd : d < 40) (hq : q < 2) (h1 : sickB a q d = true → K 1 σ) (h0 : sickB a q d = false → K 0 σ) : M_X3_holds 4 8 σ K (nI q) (nI d) := by
  refine k3_holds isRows_4 hR.2.1 hW.2.2.2.2.1.1 (fun h => h1 ((sick_iff hW hR hd hq).mp h)) (fun h => h0 ?_)
  cases hl : sickB a q d with
  | false => rfl
  | true =>
    obtain ⟨j, g1, g2, g3⟩ := (sick_iff hW hR hd hq).mpr hl
    exact absurd ⟨g2, g3⟩ (h j g1)
theorem k1_rulerBy {a : ab} {d : Nat} (hW : WF a) (hR : RS a σ) (hd : d < 40) (h : K (ruI (ru a d)) σ) : M_X1_rulerBy σ K (nI d) := by
  have hm : d % 2 < 2 := Nat.mod_lt _ (by decide)
  have e1 : (1 : Int32) - nI (d % 2) = nI (1 - d % 2) := pk_sub (a := 1) (by omega)
  refine b_X1_rulerBy (k1_holdsL hW hR.2 hd (fun hl => ⟨fun c => absurd c (by decide), fun _ => ?_⟩) (fun hl => ⟨fun _ => ⟨fun c => ?_, fun c => ?_⟩, fun c => absurd rfl c⟩))
  · have e : ru a d = 2 := by unfold ru; rw [hl]; rfl
    rw [e] at h; exact h
  · rw [rm_7 (by omega)] at c
    have c7 : ¬ d % 7 = 6 := fun q => c (by rw [q]; rfl)
    refine k1_kingInTurn (by omega) (k1_holdsS hW hR.1 hd hm (fun hs => ⟨fun _ => ?_, fun c => absurd c (by decide)⟩) (fun hs => ⟨fun c => absurd rfl c, fun _ => ?_⟩))
    · rw [e1]
      refine k1_holdsS hW hR.1 hd (by omega) (fun hs2 => ⟨fun c => absurd c (by decide), fun _ => ?_⟩) (fun hs2 => ⟨fun _ => ?_, fun c => absurd rfl c⟩)
      · have e : ru a d = 3 := by unfold ru; rw [hl, hs, hs2]; simp [c7]
        rw [e] at h; exact h
      · have e : ru a d = 1 - d % 2 := by unfold ru; rw [hl, hs, hs2]; simp [c7]
        rw [e] at h
        unfold ruI at h
        rw [if_neg (by omega)] at h; exact h
    · have e : ru a d = d % 2 := by unfold ru; rw [hl, hs]; simp [c7]
      rw [e] at h
      unfold ruI at h
      rw [if_neg (by omega)] at h; exact h
  · rw [rm_7 (by omega)] at c
    have c7 := nI_inj (b := 6) (by omega) (by decide) c
    have e : ru a d = 3 := by unfold ru; rw [hl]; simp [c7]
    rw [e] at h; exact h
end LAW
section LAW2
variable {K : r_St → Prop}
theorem RS.mv {a : ab} {σ σ' : r_St} (h : RS a σ) (e : ∀ c j, c < 32 → σ'.1 c j = σ.1 c j) : RS a σ' := ⟨h.1.mv (fun c j _ _ => e c j (by omega)), h.2.mv (fun c j _ _ => e c j (by omega))⟩
theorem l1_seat {a : ab} {k : Nat} {σ : r_St} (hk : isLaws k) (h32 : 32 ≤ k) (hW : WF a) (hR : RS a σ) (h : ∀ σ', (∀ c j, ¬ c = k + 1 → σ'.1 c j = σ.1 c j) → Seat a k σ' → K σ') :
    ∀ m i, i + m = 40 → ∀ σ', (∀ c j, ¬ c = k + 1 → σ'.1 c j = σ.1 c j) → (∀ j, j < i → σ'.1 (k + 1) j = ruI (ru a j)) → R_X1_seat_2 k σ' K (nI i) := by
  intro m
  induction m with
  | zero =>
    intro i hi σ' hF hj
    have e : i = 40 := by omega
    subst e
    exact b_X1_seat_2 hk ⟨fun _ => h σ' hF hj, fun c => absurd (Int32.le_refl _) c⟩
  | succ m ih =>
    intro i hi σ' hF hj
    refine b_X1_seat_2 hk ⟨fun c => ?_, fun c => ?_⟩
    · have := le_of_nI (x := 40) (by decide) (by omega) c
      omega
    · refine k1_rulerBy (a := a) hW (hR.mv (fun c j hc => hF c j (by omega))) (by omega) ⟨i, rfl, by omega, ?_⟩
      rw [nI_1]
      refine ih (i + 1) (by omega) _ (fun c j hc => by rw [wI_cell _ _ _ hc]; exact hF c j hc) (fun j hj2 => ?_)
      rcases (show j < i ∨ j = i by omega) with q | q
      · rw [wI_place _ _ _ (by omega)]; exact hj j q
      · subst q; rw [wI_same]
theorem k1_seat {a : ab} {k : Nat} {σ : r_St} (hk : isLaws k) (h32 : 32 ≤ k) (hW : WF a) (hR : RS a σ) (h : ∀ σ', (∀ c j, ¬ c = k + 1 → σ'.1 c j = σ.1 c j) → Seat a k σ' → K σ') : M_X1_seat k σ K :=
  b_X1_seat hk (l1_seat hk h32 hW hR h 40 0 (by omega) σ (fun _ _ _ => rfl) (fun j hj => absurd hj (by omega)))
/-- the edicts gathered -/
theorem l1_gather2 {a : ab} {w : Int32} {k : Nat} {σ : r_St} (hk : isLaws k) (h32 : 32 ≤ k) (hW : WF a) (hR : R3 σ 12 10 (a.1 5) (a.2.1 4) (a.2.1 5) z0) (h5 : σ.1 k 5 = nI (dd a)) (h : ∀ σ', (∀ c j, ¬ c = k + 5 → σ'.1 c j = σ.1 c j) → (∀ d, d < 40 → σ'.1 (k + 5) d = nI (tn a w d)) → K σ') :
    ∀ m i, i + m = a.1 5 → ∀ σ', (∀ c j, ¬ c = k + 5 → σ'.1 c j = σ.1 c j) → (∀ d, d < 40 → σ'.1 (k + 5) d = nI (xr (tnF a w d) i)) → R_X1_gatherTurned_23 k σ' K w (nI i) := by
  have hE := hW.2.2.2.2.2.2.1
  have h23 : dd a ≤ 8 := dd_le hW.1
  intro m
  induction m with
  | zero =>
    intro i hi σ' hF hj
    have e : i = a.1 5 := by omega
    subst e
    refine b_X1_gatherTurned_23 hk ⟨fun _ => h σ' hF hj, fun c => ?_⟩
    rw [hF 12 4 (by omega), hR.2.1] at c
    exact absurd (Int32.le_refl _) c
  | succ m ih =>
    intro i hi σ' hF hj
    have hlt : i < a.1 5 := by omega
    obtain ⟨hd40, hdd⟩ := hE.2 i hlt
    have R' : R3 σ' 12 10 (a.1 5) (a.2.1 4) (a.2.1 5) z0 := hR.mv (fun c j _ _ => hF c j (by omega))
    have v1 : σ'.1 13 i = nI (a.2.1 4 i) := (R'.2.2 i hlt).1
    have v2 : σ'.1 14 i = nI (a.2.1 5 i) := (R'.2.2 i hlt).2.1
    have skip : (∀ d, d < 40 → tnF a w d i = 0) → R_X1_gatherTurned_23 k σ' K w (nI i + 1) := by
      intro hz
      rw [nI_1]
      refine ih (i + 1) (by omega) σ' hF (fun d hd => ?_)
      rw [hj d hd]
      show nI (xr (tnF a w d) i) = nI (xr (tnF a w d) i ^^^ tnF a w d i)
      rw [hz d hd, Nat.xor_zero]
    refine b_X1_gatherTurned_23 hk ⟨fun c => ?_, fun c => ?_⟩
    · rw [R'.2.1] at c
      have := le_of_nI (by omega) (by omega) c
      omega
    · refine k3_first isRows_12 R'.2.1 hE.1 hlt (k3_second isRows_12 R'.2.1 hE.1 hlt ?_)
      show (nI i = w → _) ∧ (¬ nI i = w → (IN (σ'.1 13 i) 0 39 → _) ∧ _)
      rw [v1, show σ'.1 (12 + 2) i = nI (a.2.1 5 i) from v2, hF k 5 (by omega), h5]
      refine ⟨fun c => skip (fun d hd => ?_), fun c => ⟨fun _ => ⟨fun c2 => ?_, fun c2 => skip (fun d hd => ?_)⟩, fun c2 => ?_⟩⟩
      · unfold tnF
        rw [if_neg (fun q => q.2.1 c)]
      · obtain ⟨q, q1, q2⟩ := (IN_lt_iff (by omega)).mp c2
        have q3 := nI_inj (by omega) (by omega) q2
        refine ⟨a.2.1 4 i, rfl, hd40, a.2.1 4 i, rfl, hd40, ?_⟩
        rw [nI_1]
        refine ih (i + 1) (by omega) _ (fun c j hc => by rw [wI_cell _ _ _ hc]; exact hF c j hc) (fun d hd => ?_)
        show _ = nI (xr (tnF a w d) i ^^^ tnF a w d i)
        by_cases hq : d = a.2.1 4 i
        · subst hq
          rw [wI_same, hj _ hd, sl_1 (by omega), n_xor]
          congr 2
          unfold tnF
          rw [if_pos ⟨rfl, c, by omega⟩]
        · rw [wI_place _ _ _ hq, hj d hd]
          congr 1
          unfold tnF
          rw [if_neg (fun q => hq q.1.symm), Nat.xor_zero]
      · unfold tnF
        rw [if_neg (fun q => c2 ((IN_lt_iff (by omega)).mpr ⟨_, q.2.2, rfl⟩))]
      · exact absurd ((IN_iff (lo := 0) (hi := 39) (by decide) (by decide)).mpr ⟨_, by omega, by omega, rfl⟩) c2
theorem l1_gather1 {a : ab} {w : Int32} {k : Nat} {σ : r_St} (hk : isLaws k) (h32 : 32 ≤ k) (hW : WF a) (hR : R3 σ 12 10 (a.1 5) (a.2.1 4) (a.2.1 5) z0) (h5 : σ.1 k 5 = nI (dd a)) (h : ∀ σ', (∀ c j, ¬ c = k + 5 → σ'.1 c j = σ.1 c j) → (∀ d, d < 40 → σ'.1 (k + 5) d = nI (tn a w d)) → K σ') :
    ∀ m i, i + m = 40 → ∀ σ', (∀ c j, ¬ c = k + 5 → σ'.1 c j = σ.1 c j) → (∀ d, d < i → σ'.1 (k + 5) d = 0) → R_X1_gatherTurned_2 k σ' K w (nI i) := by
  intro m
  induction m with
  | zero =>
    intro i hi σ' hF hj
    have e : i = 40 := by omega
    subst e
    refine b_X1_gatherTurned_2 hk ⟨fun _ => ?_, fun c => absurd (Int32.le_refl _) c⟩
    exact l1_gather2 hk h32 hW hR h5 h (a.1 5) 0 (by omega) σ' hF hj
  | succ m ih =>
    intro i hi σ' hF hj
    refine b_X1_gatherTurned_2 hk ⟨fun c => ?_, fun c => ⟨i, rfl, by omega, ?_⟩⟩
    · have := le_of_nI (x := 40) (by decide) (by omega) c
      omega
    · rw [nI_1]
      refine ih (i + 1) (by omega) _ (fun c j hc => by rw [wI_cell _ _ _ hc]; exact hF c j hc) (fun j hj2 => ?_)
      rcases (show j < i ∨ j = i by omega) with q | q
      · rw [wI_place _ _ _ (by omega)]; exact hj j q
      · subst q; rw [wI_same]
theorem k1_gather {a : ab} {w : Int32} {k : Nat} {σ : r_St} (hk : isLaws k) (h32 : 32 ≤ k) (hW : WF a) (hR : R3 σ 12 10 (a.1 5) (a.2.1 4) (a.2.1 5) z0) (h5 : σ.1 k 5 = nI (dd a)) (h : ∀ σ', (∀ c j, ¬ c = k + 5 → σ'.1 c j = σ.1 c j) → (∀ d, d < 40 → σ'.1 (k + 5) d = nI (tn a w d)) → K σ') : M_X1_gatherTurned k σ K w :=
  b_X1_gatherTurned hk (l1_gather1 hk h32 hW hR h5 h 40 0 (by omega) σ (fun _ _ _ => rfl) (fun d hd => absurd hd (by omega)))
end LAW2
