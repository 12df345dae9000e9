/-! ===== the class: Rows and DeedText ===== -/
theorem le_of_nI {x y : Nat} (hx : x < 2147483648) (hy : y < 2147483648) (h : nI x ≤ nI y) : x ≤ y := (nI_leI hx hy).mp h
theorem lt_of_nI {x y : Nat} (hx : x < 2147483648) (hy : y < 2147483648) (h : nI x < nI y) : x < y := (nI_ltI hx hy).mp h
theorem nle_of_nI {x y : Nat} (hx : x < 2147483648) (hy : y < 2147483648) (h : ¬ nI x ≤ nI y) : y < x := by
  rcases Nat.lt_or_ge y x with q | q
  · exact q
  · exact absurd ((nI_leI hx hy).mpr q) h
theorem nlt_of_nI {x y : Nat} (hx : x < 2147483648) (hy : y < 2147483648) (h : ¬ nI x < nI y) : y ≤ x := by
  rcases Nat.lt_or_ge x y with q | q
  · exact absurd ((nI_ltI hx hy).mpr q) h
  · exact q
section TXT
variable {σ : r_St} {K : Int32 → r_St → Prop}
def addS (σ : r_St) (k s : Nat) (x y z : Int32) : r_St := wI (wI (wI (wI σ (k + 1) s x) (k + 2) s y) (k + 3) s z) k 4 (nI (s + 1))
theorem addS_cell {k s c : Nat} {x y z : Int32} (h : c < k ∨ k + 3 < c) : (addS σ k s x y z).1 c = σ.1 c := by
  unfold addS
  rw [wI_cell _ _ _ (by omega), wI_cell _ _ _ (by omega), wI_cell _ _ _ (by omega), wI_cell _ _ _ (by omega)]
theorem k3_add {k n s : Nat} {x y z : Int32} (hk : isRows k n) (h0 : σ.1 k 0 = nI n) (h4 : σ.1 k 4 = nI s) (hf : n ≤ s → K (-4) σ) (ha : s < n → K (nI (s + 1)) (addS σ k s x y z)) (hs : s < 2147483648) : M_X3_add k n σ K x y z := by
  have hn := hk.2.2.2.2
  refine b_X3_add hk ⟨fun c => ?_, fun c => ?_⟩
  · rw [h0, h4] at c
    have hlt := lt_of_nI (by omega) hn c
    have e1 : (wI σ (k + 1) s x).1 k 4 = nI s := by rw [wI_cell _ _ _ (by omega)]; exact h4
    have e2 : (wI (wI σ (k + 1) s x) (k + 2) s y).1 k 4 = nI s := by rw [wI_cell _ _ _ (by omega)]; exact e1
    have e3 : (wI (wI (wI σ (k + 1) s x) (k + 2) s y) (k + 3) s z).1 k 4 + 1 = nI (s + 1) := by rw [wI_cell _ _ _ (by omega), e2, nI_succ]
    refine ⟨s, h4, hlt, s, e1, hlt, s, e2, hlt, ?_⟩
    rw [wI_same, e3]
    exact ha hlt
  · rw [h0, h4] at c
    exact hf (nlt_of_nI (by omega) hn c)
theorem k3_drop {k n s : Nat} (hk : isRows k n) (h4 : σ.1 k 4 = nI s) (hf : s = 0 → K (-3) σ) (ha : 0 < s → K (nI (s - 1)) (wI σ k 4 (nI (s - 1)))) (hs : s < 2147483648) : M_X3_dropLast k n σ K := by
  refine b_X3_dropLast hk ⟨fun c => ?_, fun c => ?_⟩
  · rw [h4] at c
    have hp : 0 < s := by
      rcases Nat.eq_zero_or_pos s with q | q
      · subst q; exact absurd rfl c
      · exact q
    have e : σ.1 k 4 - 1 = nI (s - 1) := by
      rw [h4]
      obtain ⟨q, rfl⟩ : ∃ q, s = q + 1 := ⟨s - 1, by omega⟩
      rw [nI_pred]; rfl
    rw [wI_same, e]
    exact ha hp
  · rw [h4] at c
    exact hf (nI_inj (b := 0) hs (by decide) c)
theorem k3_first {k n s j : Nat} (hk : isRows k n) (h4 : σ.1 k 4 = nI s) (hs : s ≤ n) (hj : j < s) (h : K (σ.1 (k + 1) j) σ) : M_X3_first k n σ K (nI j) := by
  have hn := hk.2.2.2.2
  refine b_X3_first hk ⟨fun c => ⟨j, rfl, by omega, h⟩, fun c => ?_⟩
  rw [h4] at c
  exact absurd ((IN_lt_iff (by omega)).mpr ⟨j, hj, rfl⟩) c
theorem k3_second {k n s j : Nat} (hk : isRows k n) (h4 : σ.1 k 4 = nI s) (hs : s ≤ n) (hj : j < s) (h : K (σ.1 (k + 2) j) σ) : M_X3_second k n σ K (nI j) := by
  have hn := hk.2.2.2.2
  refine b_X3_second hk ⟨fun c => ⟨j, rfl, by omega, h⟩, fun c => ?_⟩
  rw [h4] at c
  exact absurd ((IN_lt_iff (by omega)).mpr ⟨j, hj, rfl⟩) c
theorem k3_third {k n s j : Nat} (hk : isRows k n) (h4 : σ.1 k 4 = nI s) (hs : s ≤ n) (hj : j < s) (h : K (σ.1 (k + 3) j) σ) : M_X3_third k n σ K (nI j) := by
  have hn := hk.2.2.2.2
  refine b_X3_third hk ⟨fun c => ⟨j, rfl, by omega, h⟩, fun c => ?_⟩
  rw [h4] at c
  exact absurd ((IN_lt_iff (by omega)).mpr ⟨j, hj, rfl⟩) c
theorem l3_holds {k n s : Nat} {x y : Int32} (hk : isRows k n) (h4 : σ.1 k 4 = nI s) (hs : s ≤ n) (h1 : (∃ j, j < s ∧ σ.1 (k + 1) j = x ∧ σ.1 (k + 2) j = y) → K 1 σ) (h0 : (∀ j, j < s → ¬ (σ.1 (k + 1) j = x ∧ σ.1 (k + 2) j = y)) → K 0 σ) :
    ∀ m i, i + m = s → (∀ j, j < i → ¬ (σ.1 (k + 1) j = x ∧ σ.1 (k + 2) j = y)) → R_X3_holds_2 k n σ K x y (nI i) := by
  have hn := hk.2.2.2.2
  intro m
  induction m with
  | zero =>
    intro i hi hno
    have e : i = s := by omega
    subst e
    refine b_X3_holds_2 hk ⟨fun _ => h0 hno, fun c => ?_⟩
    rw [h4] at c
    exact absurd (Int32.le_refl _) c
  | succ m ih =>
    intro i hi hno
    refine b_X3_holds_2 hk ⟨fun c => ?_, fun c => ⟨i, rfl, by omega, fun c1 => ?_, fun c1 => ⟨i, rfl, by omega, fun c2 => ?_, fun c2 => h1 ⟨i, by omega, c1, c2⟩⟩⟩⟩
    · rw [h4] at c
      have := le_of_nI (by omega) (by omega) c
      omega
    · rw [nI_1]
      refine ih (i + 1) (by omega) (fun j hj => ?_)
      rcases (show j < i ∨ j = i by omega) with q | q
      · exact hno j q
      · subst q; exact fun q2 => c1 q2.1
    · rw [nI_1]
      refine ih (i + 1) (by omega) (fun j hj => ?_)
      rcases (show j < i ∨ j = i by omega) with q | q
      · exact hno j q
      · subst q; exact fun q2 => c2 q2.2
theorem k3_holds {k n s : Nat} {x y : Int32} (hk : isRows k n) (h4 : σ.1 k 4 = nI s) (hs : s ≤ n) (h1 : (∃ j, j < s ∧ σ.1 (k + 1) j = x ∧ σ.1 (k + 2) j = y) → K 1 σ) (h0 : (∀ j, j < s → ¬ (σ.1 (k + 1) j = x ∧ σ.1 (k + 2) j = y)) → K 0 σ) : M_X3_holds k n σ K x y :=
  b_X3_holds hk (l3_holds hk h4 hs h1 h0 s 0 (by omega) (fun j hj => absurd hj (by omega)))
/-! the text -/
theorem tscan_le (tx : Nat → Nat) : ∀ m i, i ≤ tscan tx m i ∧ tscan tx m i ≤ i + m := by
  intro m
  induction m with
  | zero => intro i; exact ⟨Nat.le_refl _, Nat.le_refl _⟩
  | succ m ih =>
    intro i
    unfold tscan
    split
    · have := ih (i + 1); omega
    · omega
theorem tscan_fit (tx : Nat → Nat) : ∀ m i j, i ≤ j → j < tscan tx m i → tfit tx j = true := by
  intro m
  induction m with
  | zero => intro i j h1 h2; unfold tscan at h2; omega
  | succ m ih =>
    intro i j h1 h2
    unfold tscan at h2
    split at h2
    · rename_i hf
      rcases (show i = j ∨ i + 1 ≤ j by omega) with q | q
      · subst q; exact hf
      · exact ih (i + 1) j q h2
    · omega
theorem tscan_at (tx : Nat → Nat) : ∀ m i p, i ≤ p → p ≤ i + m → (∀ j, i ≤ j → j < p → tfit tx j = true) → (p < i + m → tfit tx p = false) → tscan tx m i = p := by
  intro m
  induction m with
  | zero => intro i p h1 h2 h3 h4; unfold tscan; omega
  | succ m ih =>
    intro i p h1 h2 h3 h4
    unfold tscan
    split
    · rename_i hf
      rcases (show i = p ∨ i + 1 ≤ p by omega) with q | q
      · subst q
        rw [h4 (by omega)] at hf
        cases hf
      · exact ih (i + 1) p q (by omega) (fun j a b => h3 j (by omega) b) (fun a => h4 (by omega))
    · rename_i hf
      rcases (show i = p ∨ i + 1 ≤ p by omega) with q | q
      · exact q
      · exact absurd (h3 i (by omega) (by omega)) hf
def TxP (a : ab) (σ : r_St) : Prop := σ.1 1 2 = nI (a.1 0) ∧ C1 σ 2 (a.1 0) (a.2.1 0) ∧ a.1 0 ≤ 23 ∧ ∀ j, j < a.1 0 → a.2.1 0 j < 256
theorem k0_fits {a : ab} {i : Nat} (hT : TxP a σ) (hi : i < a.1 0) (h1 : tfit (a.2.1 0) i = true → K 1 σ) (h0 : tfit (a.2.1 0) i = false → K 0 σ) : M_X0_fits σ K (nI i) := by
  obtain ⟨hn, ht, h23, hb⟩ := hT
  have e3 : rm (nI i) 3 = nI (i % 3) := rm_3 (by omega)
  have e2 : σ.1 2 i = nI (a.2.1 0 i) := ht i hi
  have hbi := hb i hi
  have m3 : i % 3 < 3 := Nat.mod_lt _ (by decide)
  refine b_X0_fits ⟨fun _ => ⟨fun _ => ⟨i, rfl, by omega, ?_⟩, fun c => absurd (nI_lt (b := 24) (by omega) (by decide)) c⟩, fun c => ?_⟩
  · rw [e3, e2]
    refine ⟨fun c => ?_, fun c => ?_, fun c => ?_⟩
    · have c := nI_inj (b := 0) (by omega) (by decide) c
      refine ⟨fun g => h1 ?_, fun g => h0 ?_⟩
      · obtain ⟨j, j1, j2, j3⟩ := (IN_iff (lo := 48) (hi := 57) (by decide) (by decide)).mp g
        have := nI_inj (by omega) (by omega) j3
        unfold tfit
        rw [if_pos c]
        exact decide_eq_true ⟨by omega, by omega⟩
      · unfold tfit
        rw [if_pos c]
        exact decide_eq_false (fun q => g ((IN_iff (lo := 48) (hi := 57) (by decide) (by decide)).mpr ⟨_, q.1, q.2, rfl⟩))
    · have c := nI_inj (b := 1) (by omega) (by decide) c
      have tf : tfit (a.2.1 0) i = decide (a.2.1 0 i = 97 ∨ a.2.1 0 i = 102) := by
        unfold tfit
        rw [if_neg (by omega), if_pos c]
      refine ⟨fun g => h1 ?_, fun g => ⟨fun g2 => h0 ?_, fun g2 => h1 ?_⟩⟩
      · have := nI_inj (b := 97) (by omega) (by decide) g
        rw [tf]; exact decide_eq_true (Or.inl this)
      · rw [tf]
        refine decide_eq_false (fun q => ?_)
        rcases q with q | q
        · exact g (by rw [q]; rfl)
        · exact g2 (by rw [q]; rfl)
      · have := nI_inj (b := 102) (by omega) (by decide) g2
        rw [tf]; exact decide_eq_true (Or.inr this)
    · have c0 : ¬ i % 3 = 0 := fun q => c.1 (by rw [q]; rfl)
      have c1 : ¬ i % 3 = 1 := fun q => c.2 (by rw [q]; rfl)
      have tf : tfit (a.2.1 0) i = decide (a.2.1 0 i = 59) := by
        unfold tfit
        rw [if_neg c0, if_neg c1]
      refine ⟨fun g => h0 ?_, fun g => h1 ?_⟩
      · rw [tf]; exact decide_eq_false (fun q => g (by rw [q]; rfl))
      · rw [tf]; exact decide_eq_true (nI_inj (b := 59) (by omega) (by decide) g)
  · rw [hn] at c
    exact absurd ((IN_lt_iff (by omega)).mpr ⟨i, hi, rfl⟩) c
theorem l0_findFault {a : ab} (hT : TxP a σ) : ∀ m i, i + m = a.1 0 → K (if tscan (a.2.1 0) m i < a.1 0 then nI (tscan (a.2.1 0) m i) else if a.1 0 = 0 ∨ a.1 0 % 3 = 2 then -1 else nI (a.1 0)) σ → R_X0_findFault_2 σ K (nI i) := by
  obtain ⟨hn, ht, h23, hb⟩ := id hT
  intro m
  induction m with
  | zero =>
    intro i hi h
    have e : i = a.1 0 := by omega
    subst e
    unfold tscan at h
    rw [if_neg (by omega)] at h
    refine b_X0_findFault_2 ⟨fun _ => ⟨fun c => ?_, fun c => ⟨fun c2 => ?_, fun c2 => ?_⟩⟩, fun c => ?_⟩
    · rw [hn] at c
      rw [if_pos (Or.inl (nI_inj (b := 0) (by omega) (by decide) c))] at h
      exact h
    · rw [hn] at c c2 ⊢
      rw [rm_3 (by omega)] at c2
      rw [if_neg (fun q => by
        rcases q with q | q
        · exact c (by rw [q]; rfl)
        · exact c2 (by rw [q]; rfl))] at h
      exact h
    · rw [hn, rm_3 (by omega)] at c2
      rw [if_pos (Or.inr (nI_inj (b := 2) (by omega) (by decide) c2))] at h
      exact h
    · rw [hn] at c
      exact absurd (Int32.le_refl _) c
  | succ m ih =>
    intro i hi h
    refine b_X0_findFault_2 ⟨fun c => ?_, fun c => ?_⟩
    · rw [hn] at c
      have := le_of_nI (by omega) (by omega) c
      omega
    · refine k0_fits hT (i := i) (by omega) (fun hf => ⟨fun _ => ?_, fun c => absurd c (by decide)⟩) (fun hf => ⟨fun c => absurd rfl c, fun _ => ?_⟩)
      · rw [nI_1]
        refine ih (i + 1) (by omega) ?_
        unfold tscan at h
        rw [hf] at h
        exact h
      · unfold tscan at h
        rw [hf] at h
        simp only [Bool.false_eq_true, if_false] at h
        rw [if_pos (by omega)] at h
        exact h
theorem k0_findFault {a : ab} (hT : TxP a σ) (h : K (tflt a) σ) : M_X0_findFault σ K := b_X0_findFault (l0_findFault hT (a.1 0) 0 (by omega) h)
end TXT
