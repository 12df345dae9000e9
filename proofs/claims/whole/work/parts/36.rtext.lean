/-! ===== the reference: the text is read; what the younger one says; who rules ===== -/
def FrN (σ σ' : r_St) : Prop := ∀ c j, ¬ (c = 0 ∧ (j = 2 ∨ j = 4)) → ¬ c = 2 → σ'.1 c j = σ.1 c j
theorem FrN.sm {σ σ' : r_St} (h : FrN σ σ') : sm1 σ σ' := fun c j q1 q2 => h c j (by omega) (by omega)
section RTX
variable {K : Int32 → r_St → Prop}
theorem tb_at {a : ab} {p : Nat} (h1 : p ≤ a.1 0) (h2 : ∀ j, j < p → tfit (a.2.1 0) j = true) (h3 : p < a.1 0 → tfit (a.2.1 0) p = false) : tbad a = p := tscan_at _ (a.1 0) 0 p (by omega) (by omega) (fun j _ q => h2 j q) (fun q => h3 (by omega))
theorem flt_bad {a : ab} (h : tbad a < a.1 0) : tflt a = nI (tbad a) ∧ dd a = 0 := by
  unfold tflt dd
  rw [if_pos h, if_pos h]
  exact ⟨rfl, rfl⟩
theorem flt_end {a : ab} (h : tbad a = a.1 0) (h2 : ¬ (a.1 0 = 0 ∨ a.1 0 % 3 = 2)) : tflt a = nI (a.1 0) ∧ dd a = 0 := by
  unfold tflt dd
  have h1 : ¬ tbad a < a.1 0 := by omega
  rw [if_neg h1, if_neg h1, if_neg h2, if_neg h2]
  exact ⟨rfl, rfl⟩
theorem flt_ok {a : ab} (h : tbad a = a.1 0) (h2 : a.1 0 = 0 ∨ a.1 0 % 3 = 2) : tflt a = -1 ∧ dd a = (a.1 0 + 1) / 3 := by
  unfold tflt dd
  have h1 : ¬ tbad a < a.1 0 := by omega
  rw [if_neg h1, if_neg h1, if_pos h2, if_pos h2]
  exact ⟨rfl, rfl⟩
theorem el_0 {a : ab} (h : dd a = 0) : el a = 0 := by unfold el; rw [h]; rfl
theorem l6_fault {a : ab} {σ : r_St} (hT : Tx1 a σ) (h23 : a.1 0 ≤ 23) (hb : ∀ j, j < a.1 0 → a.2.1 0 j < 256) (h : ∀ σ', FrN σ σ' → Read1 a σ' → K (tflt a) σ') :
    ∀ m n, n + m = 8 → 3 * n ≤ a.1 0 → (∀ j, j < 3 * n → tfit (a.2.1 0) j = true) → ∀ σ', FrN σ σ' → σ'.1 0 2 = 0 → σ'.1 0 4 = 0 → C1 σ' 2 n (fin a) → R_X6_faultNow_16 σ' K (nI n) (nI (3 * n)) (nI (mkb (fun k => decide (a.2.1 0 (3 * k + 1) = 97)) n)) := by
  intro m
  induction m with
  | zero => intro n hn h3 hfit σ' hF h2 h4 hC; omega
  | succ m ih =>
    intro n hn h3 hfit σ' hF h2 h4 hC
    have hty : σ'.1 0 1 = nI (a.1 0) := by rw [hF 0 1 (by omega) (by omega)]; exact hT.1
    have htx : C1 σ' 1 (a.1 0) (a.2.1 0) := hT.2.mv (fun j _ => hF 1 j (by omega) (by omega))
    -- an end with a fault
    have bad : ∀ v σ2, FrN σ σ2 → σ2.1 0 2 = 0 → σ2.1 0 4 = 0 → tflt a = v → dd a = 0 → K v σ2 := by
      intro v σ2 f q1 q2 q3 q4
      rw [← q3]
      exact h σ2 f ⟨by rw [q4]; exact q1, by rw [el_0 q4]; exact q2, fun j hj => by omega⟩
    have bad2 : ∀ p σ2, FrN σ σ2 → σ2.1 0 2 = 0 → σ2.1 0 4 = 0 → p < a.1 0 → (∀ j, j < p → tfit (a.2.1 0) j = true) → tfit (a.2.1 0) p = false → K (nI p) σ2 := by
      intro p σ2 f q1 q2 q3 q4 q5
      have e := tb_at (a := a) (p := p) (by omega) q4 (fun _ => q5)
      have e2 := flt_bad (a := a) (by omega)
      rw [e] at e2
      exact bad _ σ2 f q1 q2 e2.1 e2.2
    have f0 : tfit (a.2.1 0) (3 * n) = decide (48 ≤ a.2.1 0 (3 * n) ∧ a.2.1 0 (3 * n) ≤ 57) := by
      unfold tfit
      rw [if_pos (by omega)]
    have f1 : tfit (a.2.1 0) (3 * n + 1) = decide (a.2.1 0 (3 * n + 1) = 97 ∨ a.2.1 0 (3 * n + 1) = 102) := by
      unfold tfit
      rw [if_neg (by omega), if_pos (by omega)]
    have f2 : tfit (a.2.1 0) (3 * n + 2) = decide (a.2.1 0 (3 * n + 2) = 59) := by
      unfold tfit
      rw [if_neg (by omega), if_neg (by omega)]
    -- at 102: figure and letter are there
    have at102 : ∀ t : Nat, 3 * n + 1 < a.1 0 → a.2.1 0 (3 * n + 1) = t → (t = 97 ∨ t = 102) → tfit (a.2.1 0) (3 * n) = true → R_X6_faultNow_102 σ' K (nI n) (nI (3 * n)) (nI (mkb (fun k => decide (a.2.1 0 (3 * k + 1) = 97)) n)) (nI t) := by
      intro t hlt ht htt hf
      have fit2 : ∀ j, j < 3 * n + 2 → tfit (a.2.1 0) j = true := by
        intro j hj
        rcases (show j < 3 * n ∨ j = 3 * n ∨ j = 3 * n + 1 by omega) with q | q | q
        · exact hfit j q
        · subst q; exact hf
        · subst q
          rw [f1]
          exact decide_eq_true (by omega)
      have hd := of_decide_eq_true (f0 ▸ hf)
      have eA : σ'.1 1 (3 * n) - 48 = nI (fin a n) := by
        rw [htx _ (by omega)]
        exact pk_sub hd.1
      -- at 132
      have at132 : ∀ x : Nat, nI (mkb (fun k => decide (a.2.1 0 (3 * k + 1) = 97)) n) ||| nI x = nI (mkb (fun k => decide (a.2.1 0 (3 * k + 1) = 97)) (n + 1)) → R_X6_faultNow_132 (wI σ' 2 n (σ'.1 1 (3 * n) - 48)) K (nI n) (nI (3 * n)) (nI x) (nI (mkb (fun k => decide (a.2.1 0 (3 * k + 1) = 97)) n)) := by
        intro x hx
        have F2 : FrN σ (wI σ' 2 n (σ'.1 1 (3 * n) - 48)) := fun c j q1 q2 => by rw [wI_cell _ _ _ q2]; exact hF c j q1 q2
        have C2 : C1 (wI σ' 2 n (σ'.1 1 (3 * n) - 48)) 2 (n + 1) (fin a) := by
          intro j hj
          rcases (show j < n ∨ j = n by omega) with q | q
          · rw [wI_place _ _ _ (by omega)]; exact hC j q
          · subst q; rw [wI_same]; exact eA
        have e2 : nI (3 * n) + 2 = nI (3 * n + 2) := nI_add _ 2
        rw [show R_X6_faultNow_132 (wI σ' 2 n (σ'.1 1 (3 * n) - 48)) K (nI n) (nI (3 * n)) (nI x) (nI (mkb (fun k => decide (a.2.1 0 (3 * k + 1) = 97)) n)) = R_X6_faultNow_132 (wI σ' 2 n (σ'.1 1 (3 * n) - 48)) K (nI n) (nI (3 * n)) (nI x) (nI (mkb (fun k => decide (a.2.1 0 (3 * k + 1) = 97)) n)) from rfl]
        refine b_X6_faultNow_132 ⟨fun c => ?_, fun c => ?_⟩
        · rw [e2, wI_cell _ _ _ (by omega), hty] at c
          have c' : ¬ 3 * n + 2 = a.1 0 := fun q => c (by rw [q])
          refine ⟨3 * n + 2, e2, by omega, ?_⟩
          rw [wI_cell _ _ _ (by omega), htx _ (by omega), hx]
          refine ⟨fun g => ?_, fun g => ?_⟩
          · have g := nI_inj (b := 59) (by have := hb (3 * n + 2) (by omega); omega) (by decide) g
            have e3 : nI (3 * n) + 2 + 1 = nI (3 * (n + 1)) := by
              rw [e2, nI_1]; rfl
            rw [e3, nI_1]
            refine ih (n + 1) (by omega) (by omega) (fun j hj => ?_) _ F2 (by rw [wI_cell _ _ _ (by omega)]; exact h2) (by rw [wI_cell _ _ _ (by omega)]; exact h4) C2
            rcases (show j < 3 * n + 2 ∨ j = 3 * n + 2 by omega) with q | q
            · exact fit2 j q
            · subst q; rw [f2]; exact decide_eq_true g
          · rw [e2]
            refine bad2 (3 * n + 2) _ F2 (by rw [wI_cell _ _ _ (by omega)]; exact h2) (by rw [wI_cell _ _ _ (by omega)]; exact h4) (by omega) fit2 ?_
            rw [f2]
            exact decide_eq_false (fun q => g (by rw [q]; rfl))
        · rw [e2, wI_cell _ _ _ (by omega), hty] at c
          have c' := nI_inj (by omega) (by omega) c
          have tb : tbad a = a.1 0 := tb_at (by omega) (fun j hj => fit2 j (by omega)) (fun q => by omega)
          obtain ⟨e5, e6⟩ := flt_ok tb (by omega)
          have e7 : dd a = n + 1 := by omega
          rw [hx, ← e5]
          refine h _ (fun c j q1 q2 => ?_) ⟨?_, ?_, ?_⟩
          · rcases Nat.decEq c 0 with q3 | q3
            · rw [wI_cell _ _ _ q3, wI_cell _ _ _ q3]; exact F2 c j q1 q2
            · subst q3
              rw [wI_place _ _ _ (by omega), wI_place _ _ _ (by omega)]; exact F2 0 j q1 q2
          · rw [wI_place _ _ _ (by omega), wI_same, e7, nI_1]
          · rw [wI_same]
            unfold el
            rw [e7]
          · rw [e7]
            exact C2.mv (fun j _ => by rw [wI_cell _ _ _ (by omega), wI_cell _ _ _ (by omega)])
      refine b_X6_faultNow_102 ⟨3 * n, rfl, by omega, n, rfl, by omega, fun c => ?_, fun c => ?_⟩
      · refine at132 0 ?_
        rw [n_or]
        have : decide (a.2.1 0 (3 * n + 1) = 97) = false := decide_eq_false (fun q => c (by rw [← ht, q]; rfl))
        simp [mkb, this]
      · rw [sl_1 (by omega)]
        refine at132 (2 ^ n) ?_
        have c := nI_inj (b := 97) (by omega) (by decide) c
        rw [n_or, mkb_or]
        simp [mkb, ht, c]
    have at28 : ¬ (a.1 0 = 0) → R_X6_faultNow_28 σ' K (nI n) (nI (3 * n)) (nI (mkb (fun k => decide (a.2.1 0 (3 * k + 1) = 97)) n)) := by
      intro hne
      have at50 : ∀ t0 : Int32, (3 * n + 1 < a.1 0 → t0 = nI (a.2.1 0 (3 * n + 1))) → (a.1 0 ≤ 3 * n + 1 → t0 = -1) → R_X6_faultNow_50 σ' K (nI n) (nI (3 * n)) (nI (mkb (fun k => decide (a.2.1 0 (3 * k + 1) = 97)) n)) t0 := by
        intro t0 ht1 ht2
        refine b_X6_faultNow_50 ⟨fun c => ?_, fun c => ⟨fun c => ?_, fun c => ⟨3 * n, rfl, by omega, ?_⟩⟩⟩
        · have := nI_inj (b := 8) (by omega) (by decide) c
          omega
        · rw [hty] at c
          have c := nI_inj (by omega) (by omega) c
          have tb : tbad a = a.1 0 := tb_at (by omega) (fun j hj => hfit j (by omega)) (fun q => by omega)
          have e := flt_end tb (by omega)
          rw [c]
          exact bad _ σ' hF h2 h4 e.1 e.2
        · have hlt : 3 * n < a.1 0 := by
            rcases Nat.lt_or_ge (3 * n) (a.1 0) with q | q
            · exact q
            · exact absurd (by rw [hty, show 3 * n = a.1 0 by omega]) c
          rw [htx _ hlt]
          refine ⟨fun g => ?_, fun g => ?_⟩
          · obtain ⟨j, j1, j2, j3⟩ := (IN_iff (lo := 48) (hi := 57) (by decide) (by decide)).mp g
            have j3 := nI_inj (by have := hb _ hlt; omega) (by omega) j3
            have hf : tfit (a.2.1 0) (3 * n) = true := by rw [f0]; exact decide_eq_true ⟨by omega, by omega⟩
            rcases Nat.lt_or_ge (3 * n + 1) (a.1 0) with q | q
            · rw [ht1 q]
              have hbq := hb _ q
              refine ⟨fun g => at102 _ q rfl (Or.inl (nI_inj (b := 97) (by omega) (by decide) g)) hf, fun g => ⟨fun g2 => at102 _ q rfl (Or.inr (nI_inj (b := 102) (by omega) (by decide) g2)) hf, fun g2 => ?_⟩⟩
              rw [nI_1]
              refine bad2 (3 * n + 1) σ' hF h2 h4 q (fun j hj => ?_) ?_
              · rcases (show j < 3 * n ∨ j = 3 * n by omega) with q2 | q2
                · exact hfit j q2
                · subst q2; exact hf
              · rw [f1]
                refine decide_eq_false (fun q2 => ?_)
                rcases q2 with q2 | q2
                · exact g (by rw [q2]; rfl)
                · exact g2 (by rw [q2]; rfl)
            · rw [ht2 q]
              refine ⟨fun g => absurd g (by decide), fun _ => ⟨fun g => absurd g (by decide), fun _ => ?_⟩⟩
              have tb : tbad a = a.1 0 := tb_at (by omega) (fun j hj => by
                rcases (show j < 3 * n ∨ j = 3 * n by omega) with q2 | q2
                · exact hfit j q2
                · subst q2; exact hf) (fun q => by omega)
              have e := flt_end tb (by omega)
              rw [nI_1, show 3 * n + 1 = a.1 0 by omega]
              exact bad _ σ' hF h2 h4 e.1 e.2
          · refine bad2 (3 * n) σ' hF h2 h4 hlt hfit ?_
            rw [f0]
            exact decide_eq_false (fun q => g ((IN_iff (lo := 48) (hi := 57) (by decide) (by decide)).mpr ⟨_, q.1, q.2, rfl⟩))
      refine b_X6_faultNow_28 ⟨fun c => ?_, fun c => ⟨3 * n + 1, nI_1 _, ?_, ?_⟩⟩
      · rw [hty, nI_1] at c
        have c := le_of_nI (by omega) (by omega) c
        exact at50 _ (fun q => by omega) (fun _ => rfl)
      · rw [hty, nI_1] at c
        have c := nle_of_nI (by omega) (by omega) c
        omega
      · rw [hty, nI_1] at c
        have c := nle_of_nI (by omega) (by omega) c
        exact at50 _ (fun _ => htx _ c) (fun q => by omega)
    refine b_X6_faultNow_16 ⟨fun c => ?_, fun c => ⟨fun c2 => ?_, fun c2 => ?_⟩⟩
    · rw [hty] at c
      have c := lt_of_nI (by omega) (by omega) c
      exact at28 (by omega)
    · rw [hty] at c
      have c := nlt_of_nI (by omega) (by omega) c
      have c2 := le_of_nI (y := 0) (by omega) (by decide) c2
      have e : a.1 0 = 0 := by omega
      have tb : tbad a = a.1 0 := tb_at (by omega) (fun j hj => by omega) (fun q => by omega)
      obtain ⟨e5, e6⟩ := flt_ok tb (Or.inl e)
      exact bad _ σ' hF h2 h4 e5 (by omega)
    · have c2 := nle_of_nI (y := 0) (by omega) (by decide) c2
      exact at28 (by omega)
theorem k6_fault {a : ab} {σ : r_St} (hT : Tx1 a σ) (h23 : a.1 0 ≤ 23) (hb : ∀ j, j < a.1 0 → a.2.1 0 j < 256) (h : ∀ σ', FrN σ σ' → Read1 a σ' → K (tflt a) σ') : M_X6_faultNow σ K := by
  refine b_X6_faultNow (l6_fault hT h23 hb h 8 0 (by omega) (by omega) (fun j hj => by omega) _ (fun c j q1 q2 => ?_) ?_ ?_ (fun j hj => by omega))
  · rcases Nat.decEq c 0 with q3 | q3
    · rw [wI_cell _ _ _ q3, wI_cell _ _ _ q3]
    · subst q3
      rw [wI_place _ _ _ (by omega), wI_place _ _ _ (by omega)]
  · rw [wI_place _ _ _ (by omega), wI_same]
  · rw [wI_same]
/-- with the whole invariant -/
theorem k6_read {a : ab} {σ : r_St} (hI : Inv1 a σ) (h : ∀ σ', Inv1 a σ' → FrN σ σ' → Read1 a σ' → K (tflt a) σ') : M_X6_faultNow σ K :=
  k6_fault hI.2.1 hI.1.1 hI.1.2.1 (fun σ' f r => h σ' (hI.mv f.sm) f r)
end RTX
