/-! ===== the class: the text is read; what the younger one says ===== -/
def FrT (σ σ' : r_St) : Prop := ∀ c j, ¬ (c = 1 ∧ (j = 3 ∨ j = 4 ∨ j = 5)) → ¬ c = 3 → σ'.1 c j = σ.1 c j
theorem dd_le {a : ab} (h : a.1 0 ≤ 23) : dd a ≤ 8 := by
  unfold dd
  split
  · omega
  · split <;> omega
theorem el_lt (a : ab) : el a < 2 ^ dd a := mkb_lt _ _
theorem yo_lt (a : ab) : yo a < 2 ^ dd a := mkb_lt _ _
theorem bits_small {m n : Nat} (h : m < 2 ^ n) (hn : n ≤ 8) : m < 256 := Nat.lt_of_lt_of_le h (pow_lt8 hn)
/-- with deeds, the text is well -/
theorem dd_text {a : ab} {k : Nat} (h : k < dd a) : 3 * k + 1 < a.1 0 ∧ a.1 0 + 1 = 3 * dd a ∧ 48 ≤ a.2.1 0 (3 * k) ∧ a.2.1 0 (3 * k) ≤ 57 ∧ (a.2.1 0 (3 * k + 1) = 97 ∨ a.2.1 0 (3 * k + 1) = 102) := by
  have hd : dd a = (a.1 0 + 1) / 3 ∧ ¬ tbad a < a.1 0 ∧ (a.1 0 = 0 ∨ a.1 0 % 3 = 2) := by
    unfold dd at h ⊢
    split at h
    · omega
    · rename_i h1
      split at h
      · rename_i h2
        rw [if_neg h1, if_pos h2]
        exact ⟨rfl, h1, h2⟩
      · omega
  obtain ⟨e, h1, h2⟩ := hd
  have hk : 3 * k + 1 < a.1 0 := by omega
  have f : ∀ j, j < a.1 0 → tfit (a.2.1 0) j = true := fun j hj => tscan_fit _ (a.1 0) 0 j (by omega) (by
    have : tbad a = tscan (a.2.1 0) (a.1 0) 0 := rfl
    omega)
  have f0 := f (3 * k) (by omega)
  have f1 := f (3 * k + 1) hk
  unfold tfit at f0 f1
  rw [if_pos (by omega)] at f0
  rw [if_neg (by omega), if_pos (by omega)] at f1
  have g0 := of_decide_eq_true f0
  have g1 := of_decide_eq_true f1
  exact ⟨hk, by omega, g0.1, g0.2, g1⟩
theorem l0_parse {a : ab} {σ0 : r_St} {K : r_St → Prop} (hT : TxP a σ0) (hK : ∀ σ', FrT σ0 σ' → σ'.1 1 3 = -1 → σ'.1 1 4 = nI (dd a) → σ'.1 1 5 = nI (el a) → C1 σ' 3 (dd a) (fin a) → K σ') (hz : dd a = 0 → a.1 0 = 0) :
    ∀ m k, k + m = dd a → ∀ σ', FrT σ0 σ' → σ'.1 1 3 = -1 → σ'.1 1 4 = nI k → σ'.1 1 5 = nI (mkb (fun k => decide (a.2.1 0 (3 * k + 1) = 97)) k) → C1 σ' 3 k (fin a) → R_X0_parse_29 σ' K (nI (3 * k)) := by
  obtain ⟨hn, ht, h23, hb⟩ := id hT
  have h8 := dd_le h23
  intro m
  induction m with
  | zero =>
    intro k hk σ' hF h3 h4 h5 hC
    have e : k = dd a := by omega
    subst e
    refine b_X0_parse_29 ⟨fun _ => hK σ' hF h3 h4 h5 hC, fun c => ?_⟩
    rw [hF 1 2 (by omega) (by omega), hn, nI_1] at c
    have := nle_of_nI (by omega) (by omega) c
    rcases Nat.eq_zero_or_pos (dd a) with q | q
    · have := hz q; omega
    · have := (dd_text (a := a) (k := dd a - 1) (by omega)).2.1
      omega
  | succ m ih =>
    intro k hk σ' hF h3 h4 h5 hC
    obtain ⟨t1, t2, t3, t4, t5⟩ := dd_text (a := a) (k := k) (by omega)
    have eA : σ'.1 2 (3 * k) - 48 = nI (fin a k) := by
      rw [hF 2 _ (by omega) (by omega), ht _ (by omega)]
      exact pk_sub t3
    have eB : (wI σ' 3 k (σ'.1 2 (3 * k) - 48)).1 2 (3 * k + 1) = nI (a.2.1 0 (3 * k + 1)) := by
      rw [wI_cell _ _ _ (by omega), hF 2 _ (by omega) (by omega), ht _ t1]
    refine b_X0_parse_29 ⟨fun c => ?_, fun c => ⟨fun c => ?_, fun c => ⟨3 * k, rfl, by omega, k, h4, by omega, 3 * k + 1, nI_1 _, by omega, ?_⟩⟩⟩
    · rw [hF 1 2 (by omega) (by omega), hn, nI_1] at c
      have := le_of_nI (by omega) (by omega) c
      omega
    · rw [h4] at c
      have := le_of_nI (x := 8) (by omega) (by omega) c
      omega
    · have hC' : ∀ σ2 : r_St, (∀ j, σ2.1 3 j = (wI σ' 3 k (σ'.1 2 (3 * k) - 48)).1 3 j) → C1 σ2 3 (k + 1) (fin a) := by
        intro σ2 h2 j hj
        rw [h2]
        rcases (show j = k ∨ j < k by omega) with q | q
        · subst q; rw [wI_same]; exact eA
        · rw [wI_place _ _ _ (by omega)]; exact hC j q
      have e48 : nI (3 * k) + 3 = nI (3 * (k + 1)) := by
        show nI (3 * k) + nI 3 = _
        rw [nI_add]
        congr 1
      refine ⟨fun c => ?_, fun c => ?_⟩
      · rw [eB] at c
        refine b_X0_parse_94 ?_
        rw [e48]
        refine ih (k + 1) (by omega) _ ?_ ?_ ?_ ?_ (hC' _ (fun j => by rw [wI_cell _ _ _ (by omega)]))
        · intro c' j' q1 q2
          rcases Nat.decEq c' 1 with q3 | q3
          · rw [wI_cell _ _ _ q3, wI_cell _ _ _ q2]; exact hF c' j' q1 q2
          · subst q3
            rw [wI_place _ _ _ (by omega), wI_cell _ _ _ (by omega)]; exact hF 1 j' q1 q2
        · rw [wI_place _ _ _ (by omega), wI_cell _ _ _ (by omega)]; exact h3
        · rw [wI_same, wI_cell _ _ _ (by omega), h4, nI_1]
        · rw [wI_place _ _ _ (by omega), wI_cell _ _ _ (by omega), h5]
          have : decide (a.2.1 0 (3 * k + 1) = 97) = false := decide_eq_false (fun q => c (by rw [q]; rfl))
          simp [mkb, this]
      · rw [eB] at c
        have c := nI_inj (b := 97) (by have := hb _ t1; omega) (by decide) c
        refine b_X0_parse_94 ?_
        rw [e48]
        refine ih (k + 1) (by omega) _ ?_ ?_ ?_ ?_ (hC' _ (fun j => by rw [wI_cell _ _ _ (by omega), wI_cell _ _ _ (by omega)]))
        · intro c' j' q1 q2
          rcases Nat.decEq c' 1 with q3 | q3
          · rw [wI_cell _ _ _ q3, wI_cell _ _ _ q3, wI_cell _ _ _ q2]; exact hF c' j' q1 q2
          · subst q3
            rw [wI_place _ _ _ (by omega), wI_place _ _ _ (by omega), wI_cell _ _ _ (by omega)]; exact hF 1 j' q1 q2
        · rw [wI_place _ _ _ (by omega), wI_place _ _ _ (by omega), wI_cell _ _ _ (by omega)]; exact h3
        · rw [wI_same, wI_place _ _ _ (by omega), wI_cell _ _ _ (by omega), h4, nI_1]
        · rw [wI_place _ _ _ (by omega), wI_same, h5, h4, sl_1 (by omega), n_or, mkb_or]
          simp [mkb, c]
theorem k0_parse {a : ab} {σ : r_St} {K : r_St → Prop} (hT : TxP a σ) (h : ∀ σ', FrT σ σ' → Tx0 a σ' → K σ') : M_X0_parse σ K := by
  obtain ⟨hn, ht, h23, hb⟩ := id hT
  have hF0 : FrT σ (wI (wI σ 1 4 0) 1 5 0) := by
    intro c j q1 q2
    rcases Nat.decEq c 1 with q3 | q3
    · rw [wI_cell _ _ _ q3, wI_cell _ _ _ q3]
    · subst q3
      rw [wI_place _ _ _ (by omega), wI_place _ _ _ (by omega)]
  have hT2 : TxP a (wI (wI σ 1 4 0) 1 5 0) := ⟨by rw [hF0 1 2 (by omega) (by omega)]; exact hn, ht.mv (fun j _ => hF0 2 j (by omega) (by omega)), h23, hb⟩
  have fr3 : ∀ v, FrT σ (wI (wI (wI σ 1 4 0) 1 5 0) 1 3 v) := by
    intro v c j q1 q2
    rcases Nat.decEq c 1 with q3 | q3
    · rw [wI_cell _ _ _ q3]; exact hF0 c j q1 q2
    · subst q3
      rw [wI_place _ _ _ (by omega)]; exact hF0 1 j q1 q2
  have fin' : ∀ σ', FrT σ σ' → σ'.1 1 3 = tflt a → σ'.1 1 4 = nI (dd a) → σ'.1 1 5 = nI (el a) → C1 σ' 3 (dd a) (fin a) → K σ' := fun σ' f a1 a2 a3 a4 => h σ' f ⟨by rw [f 1 2 (by omega) (by omega)]; exact hn, ht.mv (fun j _ => f 2 j (by omega) (by omega)), a2, a3, a1, a4⟩
  refine b_X0_parse (k0_findFault hT2 ⟨fun c => ?_, fun c => ?_⟩)
  · have hok : ¬ tbad a < a.1 0 ∧ (a.1 0 = 0 ∨ a.1 0 % 3 = 2) := by
      unfold tflt at c
      have hl : tbad a ≤ a.1 0 := by
        have := (tscan_le (a.2.1 0) (a.1 0) 0).2
        have e : tbad a = tscan (a.2.1 0) (a.1 0) 0 := rfl
        omega
      split at c
      · exact absurd c (nI_m1 (by omega))
      · rename_i h1
        split at c
        · rename_i h2
          exact ⟨h1, h2⟩
        · exact absurd c (nI_m1 (by omega))
    have hdd : dd a = (a.1 0 + 1) / 3 := by
      unfold dd
      rw [if_neg hok.1, if_pos hok.2]
    refine l0_parse (a := a) (σ0 := σ) hT (fun σ' f a1 a2 a3 a4 => fin' σ' f (by rw [a1, c]) a2 a3 a4) (fun q => ?_) (dd a) 0 (by omega) _ (fr3 _) ?_ ?_ ?_ (fun j hj => absurd hj (by omega))
    · rcases hok.2 with q2 | q2 <;> omega
    · rw [wI_same]; exact c
    · rw [wI_place _ _ _ (by omega), wI_place _ _ _ (by omega), wI_same]; rfl
    · rw [wI_place _ _ _ (by omega), wI_same]; rfl
  · have hdd : dd a = 0 := by
      unfold dd
      unfold tflt at c
      split
      · rfl
      · rename_i h1
        rw [if_neg h1] at c
        split
        · rename_i h2
          rw [if_pos h2] at c
          exact absurd rfl c
        · rfl
    refine fin' _ (fr3 _) (by rw [wI_same]) ?_ ?_ ?_
    · rw [hdd, wI_place _ _ _ (by omega), wI_place _ _ _ (by omega), wI_same]; rfl
    · rw [wI_place _ _ _ (by omega), wI_same]
      unfold el
      rw [hdd]; rfl
    · rw [hdd]; exact fun j hj => absurd hj (by omega)
section YNG
variable {σ : r_St} {K : Int32 → r_St → Prop}
theorem k0_youngerSays {a : ab} {k : Nat} (h23 : a.1 0 ≤ 23) (h4 : σ.1 1 4 = nI (dd a)) (h5 : σ.1 1 5 = nI (el a)) (hr : a.1 1 ≤ 2) (hk : k < dd a) (h : K (nI (b2n (yoB a k))) σ) : M_X0_youngerSays σ K (nI k) (nI (a.1 1)) := by
  have h8 := dd_le h23
  have hel := bits_small (el_lt a) h8
  have hx : nI k ^^^ 1 = nI (k ^^^ 1) := n_xor k 1
  have hx8 : k ^^^ 1 < 8 := by
    have : k ^^^ 1 < 2 ^ 3 := xor_lt (by omega) (by decide)
    omega
  have neg : ∀ b : Bool, (1 : Int32) - nI (b2n b) = nI (b2n (!b)) := by intro b; cases b <;> decide
  have bt : ∀ q, q < 32 → iu (σ.1 1 5) (nI q) &&& 1 = nI (b2n ((el a).testBit q)) := fun q hq => by rw [h5]; exact iu_bit hq (by omega)
  refine b_X0_youngerSays ⟨fun c => ⟨fun c1 => ?_, fun c1 => ⟨fun c2 => ?_, fun c2 => ?_⟩⟩, fun c => ⟨fun c2 => ?_, fun c2 => ?_⟩⟩
  · rw [bt k (by omega), neg]
    have e : yoB a k = !(el a).testBit k := by
      unfold yoB
      rw [if_neg (fun q => c (by rw [q]; rfl)), if_neg (fun q => c1 (by rw [q.1]; rfl))]
    rw [← e]; exact h
  · rw [h4, hx] at c2
    have c2 := le_of_nI (by omega) (by omega) c2
    rw [bt k (by omega), neg]
    have e : yoB a k = !(el a).testBit k := by
      unfold yoB
      rw [if_neg (fun q => c (by rw [q]; rfl)), if_neg (fun q => by omega)]
    rw [← e]; exact h
  · rw [h4, hx] at c2
    have c2 := nle_of_nI (by omega) (by omega) c2
    rw [hx, bt _ (by omega)]
    have e : yoB a k = (el a).testBit (k ^^^ 1) := by
      unfold yoB
      rw [if_neg (fun q => c (by rw [q]; rfl)), if_pos ⟨nI_inj (b := 1) (by omega) (by decide) c1, c2⟩]
    rw [← e]; exact h
  · rw [h4, nI_1] at c2
    have c2 := le_of_nI (by omega) (by omega) c2
    rw [show (0 : Int32) = nI 0 from rfl, bt 0 (by omega)]
    have e : yoB a k = (el a).testBit 0 := by
      unfold yoB
      rw [if_pos (nI_inj (b := 2) (by omega) (by decide) c), if_neg (by omega)]
    rw [← e]; exact h
  · rw [h4, nI_1] at c2
    have c2 := nle_of_nI (by omega) (by omega) c2
    rw [nI_1, bt _ (by omega)]
    have e : yoB a k = (el a).testBit (k + 1) := by
      unfold yoB
      rw [if_pos (nI_inj (b := 2) (by omega) (by decide) c), if_pos (by omega)]
    rw [← e]; exact h
theorem mkb_put (p : Nat → Bool) {k : Nat} (hk : k < 31) : nI (mkb p k) ||| sl (nI (b2n (p k))) (nI k) = nI (mkb p (k + 1)) := by
  have h2 : 2 ^ k < 2 ^ 31 := Nat.pow_lt_pow_right (by decide) hk
  cases hp : p k with
  | false =>
    rw [sl_nI (by omega) (by simp [b2n]), n_or]
    simp [b2n, mkb, hp]
  | true =>
    rw [sl_nI (by omega) (by simp [b2n]; omega), n_or]
    simp only [b2n, if_true, Nat.one_mul]
    rw [mkb_or]
    simp [mkb, hp]
theorem l0_youngerBits {a : ab} (h23 : a.1 0 ≤ 23) (h4 : σ.1 1 4 = nI (dd a)) (h5 : σ.1 1 5 = nI (el a)) (hr : a.1 1 ≤ 2) (h : K (nI (yo a)) σ) : ∀ m k, k + m = dd a → R_X0_youngerBits_4 σ K (nI (a.1 1)) (nI (mkb (yoB a) k)) (nI k) := by
  have h8 := dd_le h23
  intro m
  induction m with
  | zero =>
    intro k hk
    have e : k = dd a := by omega
    subst e
    refine b_X0_youngerBits_4 ⟨fun _ => h, fun c => ?_⟩
    rw [h4] at c
    exact absurd (Int32.le_refl _) c
  | succ m ih =>
    intro k hk
    refine b_X0_youngerBits_4 ⟨fun c => ?_, fun c => ?_⟩
    · rw [h4] at c
      have := le_of_nI (by omega) (by omega) c
      omega
    · refine k0_youngerSays h23 h4 h5 hr (by omega) ?_
      rw [mkb_put _ (by omega), nI_1]
      exact ih (k + 1) (by omega)
theorem k0_youngerBits {a : ab} (h23 : a.1 0 ≤ 23) (h4 : σ.1 1 4 = nI (dd a)) (h5 : σ.1 1 5 = nI (el a)) (hr : a.1 1 ≤ 2) (h : K (nI (yo a)) σ) : M_X0_youngerBits σ K (nI (a.1 1)) :=
  b_X0_youngerBits (l0_youngerBits h23 h4 h5 hr h (dd a) 0 (by omega))
theorem k0_fineOf {a : ab} {k : Nat} (h23 : a.1 0 ≤ 23) (h4 : σ.1 1 4 = nI (dd a)) (hC : C1 σ 3 (dd a) (fin a)) (hk : k < dd a) (h : K (nI (fin a k)) σ) : M_X0_fineOf σ K (nI k) := by
  have h8 := dd_le h23
  refine b_X0_fineOf ⟨fun _ => ⟨k, rfl, by omega, by rw [hC k hk]; exact h⟩, fun c => ?_⟩
  rw [h4] at c
  exact absurd ((IN_lt_iff (by omega)).mpr ⟨k, hk, rfl⟩) c
end YNG
