/-! ===== the reference: the younger, the rulers, the laws laid ===== -/
section RLA
variable {σ : r_St} {K : Int32 → r_St → Prop}
theorem xor1 : ∀ k, k < 8 → (k % 2 = 0 → k ^^^ 1 = k + 1) ∧ (k % 2 = 1 → k ^^^ 1 = k - 1) := by decide
theorem l6_younger {a : ab} (h8 : dd a ≤ 8) (hr : a.1 1 ≤ 2) (h2 : σ.1 0 2 = nI (dd a)) (h4 : σ.1 0 4 = nI (el a)) (h5 : σ.1 0 5 = nI (a.1 1)) (h : K (nI (yo a)) σ) : ∀ m k, k + m = dd a → R_X6_youngerFirst_4 σ K (nI (mkb (yoB a) k)) (nI k) := by
  have hel := bits_small (el_lt a) h8
  have bt : ∀ q, q < 32 → sr (σ.1 0 4) (nI q) &&& 1 = nI (b2n ((el a).testBit q)) := fun q hq => by rw [h4]; exact sr_bit hq (by omega)
  intro m
  induction m with
  | zero =>
    intro k hk
    have e : k = dd a := by omega
    subst e
    refine b_X6_youngerFirst_4 ⟨fun _ => h, fun c => ?_⟩
    rw [h2] at c
    exact absurd (Int32.le_refl _) c
  | succ m ih =>
    intro k hk
    have hx1 := xor1 k (by omega)
    have fin97 : ∀ b : Bool, yoB a k = b → R_X6_youngerFirst_97 σ K (nI (mkb (yoB a) k)) (nI k) (nI (b2n b)) := by
      intro b hb
      have N := ih (k + 1) (by omega)
      rw [← mkb_put _ (by omega), hb] at N
      refine b_X6_youngerFirst_97 ⟨fun c => ?_, fun c => ?_⟩
      · have c := b2n_0.mp c
        subst c
        rw [nI_1]
        have e : sl (nI (b2n false)) (nI k) = 0 := by rw [sl_nI (by omega) (by simp [b2n])]; simp [b2n]; rfl
        rw [e] at N
        exact N
      · have c : b = true := by
          cases b
          · exact absurd rfl c
          · rfl
        subst c
        rw [nI_1]
        exact N
    have lit97 : ∀ b : Bool, ∀ v : Int32, v = nI (b2n b) → yoB a k = b → R_X6_youngerFirst_97 σ K (nI (mkb (yoB a) k)) (nI k) v := fun b v hv hb => by rw [hv]; exact fin97 b hb
    have s72 : ∀ b : Bool, ∀ v : Int32, v = nI (b2n b) → (¬ a.1 1 = 2 → yoB a k = b) → R_X6_youngerFirst_72 σ K (nI (mkb (yoB a) k)) (nI k) v := by
      intro b v hv hb
      refine b_X6_youngerFirst_72 ⟨fun c => ?_, fun c => ⟨?_, ?_⟩⟩
      · rw [h5] at c
        exact lit97 b v hv (hb (fun q => c (by rw [q]; rfl)))
      · rw [h2]
        exact nI_ne0 (by omega) (by omega)
      · rw [h5] at c
        have c := nI_inj (b := 2) (by omega) (by decide) c
        rw [nI_1, h2, rm_nI (by omega) (by omega) (by omega)]
        have e : (k + 1) % dd a = if k + 1 < dd a then k + 1 else 0 := by
          split
          · exact Nat.mod_eq_of_lt (by omega)
          · have : k + 1 = dd a := by omega
            rw [this, Nat.mod_self]
        have e2 : yoB a k = (el a).testBit ((k + 1) % dd a) := by
          unfold yoB
          rw [if_pos c, e]
        have hlt : (k + 1) % dd a < dd a := Nat.mod_lt _ (by omega)
        rw [bt _ (by omega), ← e2]
        refine ⟨fun c => lit97 false 0 rfl ?_, fun c => lit97 true 1 rfl (b2n_1.mp c)⟩
        cases hq : yoB a k with
        | false => rfl
        | true => rw [hq] at c; exact absurd rfl c
    have s44 : R_X6_youngerFirst_44 σ K (nI (mkb (yoB a) k)) (nI k) (nI (k ^^^ 1)) (nI (b2n (!(el a).testBit k))) := by
      have hx8 : k ^^^ 1 < 8 := by
        have : k ^^^ 1 < 2 ^ 3 := xor_lt (by omega) (by decide)
        omega
      refine b_X6_youngerFirst_44 ⟨fun c => ?_, fun c => ⟨fun c2 => ?_, fun c2 => ?_⟩⟩
      · rw [h5] at c
        refine s72 _ _ rfl (fun q2 => ?_)
        unfold yoB
        rw [if_neg q2, if_neg (fun q => c (by rw [q.1]; rfl))]
      · rw [h2] at c2
        have c2 := le_of_nI (by omega) (by omega) c2
        refine s72 _ _ rfl (fun q2 => ?_)
        unfold yoB
        rw [if_neg q2, if_neg (by omega)]
      · rw [h2] at c2
        have c2 := nle_of_nI (by omega) (by omega) c2
        rw [h5] at c
        have c := nI_inj (b := 1) (by omega) (by decide) c
        have e : ¬ a.1 1 = 2 → yoB a k = (el a).testBit (k ^^^ 1) := by
          intro q2
          unfold yoB
          rw [if_neg q2, if_pos ⟨c, c2⟩]
        rw [bt _ (by omega)]
        refine ⟨fun g => s72 false 0 rfl (fun q => ?_), fun g => s72 true 1 rfl (fun q => ?_)⟩
        · rw [e q]
          cases hq : (el a).testBit (k ^^^ 1) with
          | false => rfl
          | true => rw [hq] at g; exact absurd rfl g
        · rw [e q]; exact b2n_1.mp g
    have s27 : R_X6_youngerFirst_27 σ K (nI (mkb (yoB a) k)) (nI k) (nI (k ^^^ 1)) := by
      refine b_X6_youngerFirst_27 ?_
      rw [bt _ (by omega)]
      cases hq : (el a).testBit k with
      | false =>
        rw [hq] at s44
        exact ⟨fun _ => s44, fun g => absurd g (by decide)⟩
      | true =>
        rw [hq] at s44
        exact ⟨fun g => absurd rfl g, fun _ => s44⟩
    refine b_X6_youngerFirst_4 ⟨fun c => ?_, fun _ => ?_⟩
    · rw [h2] at c
      have := le_of_nI (by omega) (by omega) c
      omega
    · rw [rm_2 (by omega)]
      refine ⟨fun c => ?_, fun c => ?_⟩
      · have e : k % 2 = 1 := by
          rcases Nat.mod_two_eq_zero_or_one k with q | q
          · exact absurd (by rw [q]; rfl) c
          · exact q
        rw [show nI k - 1 = nI (k - 1) from pk_sub (b := 1) (by omega), ← hx1.2 e]
        exact s27
      · have e := nI_inj (b := 0) (by omega) (by decide) c
        rw [nI_1, ← hx1.1 e]
        exact s27
theorem k6_younger {a : ab} (h8 : dd a ≤ 8) (hr : a.1 1 ≤ 2) (h2 : σ.1 0 2 = nI (dd a)) (h4 : σ.1 0 4 = nI (el a)) (h5 : σ.1 0 5 = nI (a.1 1)) (h : K (nI (yo a)) σ) : M_X6_youngerFirst σ K :=
  b_X6_youngerFirst (l6_younger h8 hr h2 h4 h5 h (dd a) 0 (by omega))
theorem l6_isSick {n : Nat} {x y : Int32} {f g : Nat → Nat} (h0 : σ.1 3 0 = nI n) (hn : n ≤ 8) (h : ∀ b : Bool, (b = true ↔ ∃ j, j < n ∧ σ.1 4 j = x ∧ σ.1 5 j = y) → K (nI (b2n b)) σ) :
    ∀ m i, i + m = n → ∀ b : Bool, (b = true ↔ ∃ j, j < i ∧ σ.1 4 j = x ∧ σ.1 5 j = y) → R_X6_isSick_5 σ K x y (nI (b2n b)) (nI i) := by
  intro m
  induction m with
  | zero =>
    intro i hi b hb
    have e : i = n := by omega
    subst e
    refine b_X6_isSick_5 ⟨fun _ => ⟨by cases b <;> decide, h b hb⟩, fun c => ?_⟩
    rw [h0] at c
    exact absurd (Int32.le_refl _) c
  | succ m ih =>
    intro i hi b hb
    have step : ∀ b2 : Bool, ∀ v : Int32, v = nI (b2n b2) → (b2 = true ↔ (b = true ∨ (σ.1 4 i = x ∧ σ.1 5 i = y))) → R_X6_isSick_5 σ K x y v (nI i + 1) := by
      intro b2 v hv h2
      rw [nI_1, hv]
      refine ih (i + 1) (by omega) b2 ?_
      rw [h2, hb]
      constructor
      · rintro (⟨j, q1, q2⟩ | q)
        · exact ⟨j, by omega, q2⟩
        · exact ⟨i, by omega, q⟩
      · rintro ⟨j, q1, q2⟩
        rcases (show j < i ∨ j = i by omega) with q | q
        · exact Or.inl ⟨j, q, q2⟩
        · subst q; exact Or.inr q2
    refine b_X6_isSick_5 ⟨fun c => ?_, fun _ => ⟨fun c => ?_, fun c => ⟨i, rfl, by omega, fun c1 => ?_, fun c1 => ⟨i, rfl, by omega, fun c2 => ?_, fun c2 => ?_⟩⟩⟩⟩
    · rw [h0] at c
      have := le_of_nI (by omega) (by omega) c
      omega
    · have : b = true := by
        cases b
        · exact absurd rfl c
        · rfl
      exact step true 1 rfl (by simp [this])
    · have : b = false := b2n_0.mp c
      exact step false 0 rfl (by simp [this, c1])
    · have : b = false := b2n_0.mp c
      exact step false 0 rfl (by simp [this, c2])
    · exact step true 1 rfl (by simp [c1, c2])
theorem k6_isSick {a : ab} {q d : Nat} (hI : Inv1 a σ) (hd : d < 40) (hq : q < 2) (h : K (nI (b2n (sickB a q d))) σ) : M_X6_isSick σ K (nI q) (nI d) := by
  obtain ⟨hW, hB⟩ := hI
  obtain ⟨g0, g1, g2⟩ := hB.2.2.1
  have hw := hW.2.2.2.2.1
  refine b_X6_isSick (l6_isSick (n := a.1 3) (f := z0) (g := z0) g0 hw.1 (fun b hb => ?_) (a.1 3) 0 (by omega) false (by
    simp))
  have e : b = sickB a q d := by
    rw [Bool.eq_iff_iff, hb]
    unfold sickB
    rw [exB_iff]
    constructor
    · rintro ⟨j, q1, q2, q3⟩
      rw [g1 j q1] at q2
      rw [g2 j q1] at q3
      have := hw.2 j q1
      exact ⟨j, q1, decide_eq_true ⟨nI_inj (by omega) (by omega) q2, nI_inj (by omega) (by omega) q3⟩⟩
    · rintro ⟨j, q1, q2⟩
      have q2 := of_decide_eq_true q2
      exact ⟨j, q1, by rw [g1 j q1, q2.1], by rw [g2 j q1, q2.2]⟩
  rw [e]
  exact h
theorem l6_isLeap {n : Nat} {x : Int32} (h0 : σ.1 3 1 = nI n) (hn : n ≤ 4) (h : ∀ b : Bool, (b = true ↔ ∃ j, j < n ∧ σ.1 6 j = x) → K (nI (b2n b)) σ) :
    ∀ m i, i + m = n → ∀ b : Bool, (b = true ↔ ∃ j, j < i ∧ σ.1 6 j = x) → R_X6_isLeap_4 σ K x (nI (b2n b)) (nI i) := by
  intro m
  induction m with
  | zero =>
    intro i hi b hb
    have e : i = n := by omega
    subst e
    refine b_X6_isLeap_4 ⟨fun _ => ⟨by cases b <;> decide, h b hb⟩, fun c => ?_⟩
    rw [h0] at c
    exact absurd (Int32.le_refl _) c
  | succ m ih =>
    intro i hi b hb
    have step : ∀ b2 : Bool, ∀ v : Int32, v = nI (b2n b2) → (b2 = true ↔ (b = true ∨ σ.1 6 i = x)) → R_X6_isLeap_4 σ K x v (nI i + 1) := by
      intro b2 v hv h2
      rw [nI_1, hv]
      refine ih (i + 1) (by omega) b2 ?_
      rw [h2, hb]
      constructor
      · rintro (⟨j, q1, q2⟩ | q)
        · exact ⟨j, by omega, q2⟩
        · exact ⟨i, by omega, q⟩
      · rintro ⟨j, q1, q2⟩
        rcases (show j < i ∨ j = i by omega) with q | q
        · exact Or.inl ⟨j, q, q2⟩
        · subst q; exact Or.inr q2
    refine b_X6_isLeap_4 ⟨fun c => ?_, fun _ => ⟨fun c => ?_, fun c => ⟨i, rfl, by omega, fun c1 => ?_, fun c1 => ?_⟩⟩⟩
    · rw [h0] at c
      have := le_of_nI (by omega) (by omega) c
      omega
    · have : b = true := by
        cases b
        · exact absurd rfl c
        · rfl
      exact step true 1 rfl (by simp [this])
    · have : b = false := b2n_0.mp c
      exact step false 0 rfl (by simp [this, c1])
    · exact step true 1 rfl (by simp [c1])
theorem k6_isLeap {a : ab} {d : Nat} (hI : Inv1 a σ) (hd : d < 40) (h : K (nI (b2n (leapB a d))) σ) : M_X6_isLeap σ K (nI d) := by
  obtain ⟨hW, hB⟩ := hI
  obtain ⟨g0, g1⟩ := hB.2.2.2.1
  have hw := hW.2.2.2.2.2.1
  refine b_X6_isLeap (l6_isLeap (n := a.1 4) g0 hw.1 (fun b hb => ?_) (a.1 4) 0 (by omega) false (by simp))
  have e : b = leapB a d := by
    rw [Bool.eq_iff_iff, hb]
    unfold leapB
    rw [exB_iff]
    constructor
    · rintro ⟨j, q1, q2⟩
      rw [g1 j q1] at q2
      have := hw.2 j q1
      exact ⟨j, q1, decide_eq_true (nI_inj (by omega) (by omega) q2)⟩
    · rintro ⟨j, q1, q2⟩
      have q2 := of_decide_eq_true q2
      exact ⟨j, q1, by rw [g1 j q1, q2]⟩
  rw [e]
  exact h
theorem k6_rulesOf {a : ab} {d : Nat} (hI : Inv1 a σ) (hd : d < 40) (h : K (ruI (ru a d)) σ) : M_X6_rulesOf σ K (nI d) := by
  have hm : d % 2 < 2 := Nat.mod_lt _ (by decide)
  have e1 : (1 : Int32) - nI (d % 2) = nI (1 - d % 2) := pk_sub (a := 1) (by omega)
  refine b_X6_rulesOf (k6_isLeap hI hd ?_)
  rw [rm_7 (by omega), rm_2 (by omega), e1]
  refine ⟨fun c => ?_, fun c => ?_⟩
  · have hl := b2n_0.mp c
    refine ⟨fun c => ?_, fun c => ?_⟩
    · have c7 : ¬ d % 7 = 6 := fun q => c (by rw [q]; rfl)
      refine k6_isSick hI hd hm ⟨fun c => ?_, fun c => ?_⟩
      · have hs : sickB a (d % 2) d = true := by
          cases hq : sickB a (d % 2) d with
          | false => rw [hq] at c; exact absurd rfl c
          | true => rfl
        refine k6_isSick hI hd (by omega) ⟨fun c => ?_, fun c => ?_⟩
        · have hs2 : sickB a (1 - d % 2) d = true := by
            cases hq : sickB a (1 - d % 2) d with
            | false => rw [hq] at c; exact absurd rfl c
            | true => rfl
          have e : ru a d = 3 := by unfold ru; rw [hl, hs, hs2]; simp [c7]
          rw [e] at h; exact h
        · have hs2 := b2n_0.mp c
          have e : ru a d = 1 - d % 2 := by unfold ru; rw [hl, hs, hs2]; simp [c7]
          rw [e] at h
          unfold ruI at h
          rw [if_neg (by omega)] at h; exact h
      · have hs := b2n_0.mp c
        have e : ru a d = d % 2 := by unfold ru; rw [hl, hs]; simp [c7]
        rw [e] at h
        unfold ruI at h
        rw [if_neg (by omega)] at h; exact h
    · have c7 := nI_inj (b := 6) (by omega) (by decide) c
      have e : ru a d = 3 := by unfold ru; rw [hl]; simp [c7]
      rw [e] at h; exact h
  · have hl : leapB a d = true := by
      cases hq : leapB a d with
      | false => rw [hq] at c; exact absurd rfl c
      | true => rfl
    have e : ru a d = 2 := by unfold ru; rw [hl]; rfl
    rw [e] at h; exact h
end RLA
