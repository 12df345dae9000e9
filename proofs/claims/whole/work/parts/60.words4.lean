/-! ===== words: both sides ===== -/
def fs (f : Nat → Bool) : Nat → Nat → Nat
  | 0, q => q
  | n + 1, q => if f q then q else fs f n (q + 1)
theorem fs_end {f : Nat → Bool} : ∀ r q, (∀ i, q ≤ i → i < q + r → f i = false) → fs f r q = q + r := by
  intro r
  induction r with
  | zero => intro q _; rfl
  | succ r ih =>
    intro q h
    unfold fs
    rw [if_neg (by rw [h q (by omega) (by omega)]; decide), ih (q + 1) (fun i h1 h2 => h i (by omega) (by omega))]
    omega
theorem pow9 {n : Nat} (h : n ≤ 3) : 9 ^ n ≤ 729 := by
  have := Nat.pow_le_pow_right (n := 9) (by decide) h
  exact this
section WR4
variable {a : ab} {K : Int32 → r_St → Prop}
theorem wX_lt (h8 : dd a ≤ 8) {d n c : Nat} (h : ∀ j, j < n → lgB a (ru a (d + j)) (wdg n c j) = true) (j : Nat) : wX a d n c j < 2 ^ dd a := by
  unfold wX
  split
  · rename_i q
    have h2 := h (j - d) q.2.1
    rw [show d + (j - d) = j by omega] at h2
    unfold lgB at h2
    simp only [Bool.or_eq_true, Bool.and_eq_true, decide_eq_true_eq] at h2
    exact Nat.pow_lt_pow_right (by decide) (by omega)
  · exact Nat.two_pow_pos _
theorem l6_code {K : r_St → Prop} {d n : Nat} (hn : n ≤ 3) (hn1 : 1 ≤ n) (hd : d + n < 40) (h : ∀ σ', Inv1 a σ' → Read1 a σ' → (∀ j, j < 9 ^ n → σ'.1 21 j = oI (nvO a d 0 n j)) → K σ') : ∀ q c, c + q = 9 ^ n → ∀ σ', Inv1 a σ' → Read1 a σ' → σ'.1 0 21 = -1 → (∀ j, j < c → σ'.1 21 j = oI (nvO a d 0 n j)) → R_X6_laysOuts_3 σ' K (nI d) (nI n) (nI (9 ^ n)) (nI c) := by
  have p9 := pow9 hn
  intro q
  induction q with
  | zero =>
    intro c hc σ' I R h21 hj
    have e : c = 9 ^ n := by omega
    subst e
    exact b_X6_laysOuts_3 ⟨fun _ => h σ' I R hj, fun c => absurd (Int32.le_refl _) c⟩
  | succ q ih =>
    intro c hc σ' I R h21 hj
    have h8 := dd_le I.1.1
    have N := ih (c + 1) (by omega)
    have hlg := wst_lg a d (n := n) (c := c) n (Nat.le_refl _)
    rw [Nat.sub_self, Nat.pow_zero, Nat.div_one] at hlg
    refine b_X6_laysOuts_3 ⟨fun g => ?_, fun _ => ?_⟩
    · have := le_of_nI (by omega) (by omega) g
      omega
    · have f2 : ∀ c2 j, ¬ (c2 = 0 ∧ (j = 22 ∨ j = 23)) → (wI (wI σ' 0 22 (nI d)) 0 23 (nI n)).1 c2 j = σ'.1 c2 j := fun c2 j q => by rw [wI_ne _ _ (by omega), wI_ne _ _ (by omega)]
      have v22 : (wI (wI σ' 0 22 (nI d)) 0 23 (nI n)).1 0 22 = nI d := by rw [wI_place _ _ _ (by decide), wI_same]
      have v23 : (wI (wI σ' 0 22 (nI d)) 0 23 (nI n)).1 0 23 = nI n := wI_same _ _ _ _
      generalize wI (wI σ' 0 22 (nI d)) 0 23 (nI n) = σ2 at f2 v22 v23 ⊢
      have I2 : Inv1 a σ2 := I.mv (fun c2 j q1 q2 => f2 c2 j (by omega))
      have R2 : Read1 a σ2 := R.mv (fun c2 j q => f2 c2 j (by omega))
      have D := l6_decw (K := K) (d := d) (n := n) (c := c) (x3 := nI (9 ^ n)) I2 R2 hn hd (by omega) (fun σ3 F3 hno => ?_) (fun σ3 F3 w3 hyes => ?_) n (Nat.le_refl _) σ2 1 (fun _ _ _ => rfl) (fun j h1 h2 => by omega) (Or.inl ⟨rfl, fun j h1 h2 => by omega⟩)
      · rw [Nat.sub_self, Nat.pow_zero, Nat.div_one] at D
        exact D
      · have ev : nvO a d 0 n c = none := by
          unfold nvO
          rw [if_neg (fun g => hno (hlg.mp g))]
        refine b_X6_laysOuts_100 ⟨fun _ => ⟨c, rfl, by omega, ?_⟩, fun g => absurd rfl g⟩
        rw [nI_1]
        have F4 : ∀ c2 j, ¬ c2 = 17 → ¬ c2 = 21 → (wI σ3 21 c (-1)).1 c2 j = σ2.1 c2 j := fun c2 j q1 q2 => by rw [wI_cell _ _ _ q2]; exact F3 c2 j q1
        refine N _ (I2.mv (fun c2 j q1 q2 => F4 c2 j (by omega) (by omega))) (R2.mv (fun c2 j q => F4 c2 j (by omega) (by omega))) (by rw [F4 0 21 (by omega) (by omega), f2 0 21 (by omega)]; exact h21) (fun j hj2 => ?_)
        rcases (show j < c ∨ j = c by omega) with g | g
        · rw [wI_place _ _ _ (by omega), F3 21 j (by omega), f2 21 j (by omega)]; exact hj j g
        · subst g; rw [wI_same, ev]; rfl
      · have ev : nvO a d 0 n c = some (plW a 0 (d + n) (wst a d n c).1 (wst a d n c).2.1) := by
          unfold nvO
          rw [if_pos (hlg.mpr hyes)]
        have hs := syp_wd a (d := d) (n := n) (c := c) n (Nat.le_refl _)
        rw [Nat.sub_self, Nat.pow_zero, Nat.div_one] at hs
        obtain ⟨we, wy⟩ := wst_lt a h8 d n c (hlg.mpr hyes)
        refine k6_lays (a := a) (w := -1) (X := wX a d n c) (T := fun j => tn a (-1) j ^^^ wX a d n c j) (I2.mv (fun c2 j q1 q2 => F3 c2 j (by omega))) (R2.mv (fun c2 j q => F3 c2 j (by omega))) (by rw [F3 0 21 (by omega), f2 0 21 (by omega)]; exact h21) (Or.inr ⟨d, n, wdg n c, by rw [F3 0 22 (by omega)]; exact v22, by omega, by rw [F3 0 23 (by omega)]; exact v23, hn, fun j hj2 => ⟨w3 j hj2, by have : wdg n c j < 9 := Nat.mod_lt _ (by decide); omega⟩, fun j hj2 => rfl⟩) (fun _ _ => rfl) (fun j => xor_lt (tn_lt a (-1) j) (wX_lt h8 hyes j)) (fun σ4 F4 L4 => ?_)
        refine b_X6_laysOuts_100 ⟨fun g => absurd g (by decide), fun _ => ⟨d + n, nI_add d n, by omega, ?_⟩⟩
        rw [(L4.2 (d + n) (by omega)).2.2.2, hs]
        dsimp only
        have hsm : opn (dd a) (ru a (d + n)) (sE a (-1) (d + n) ^^^ (wst a d n c).1) (sY a (-1) (d + n) ^^^ (wst a d n c).2.1) < 256 := bits_small (opn_lt (xor_lt (sE_lt a (-1) _) we) (xor_lt (sY_lt a (-1) _) wy)) h8
        refine k6_ones hsm ⟨c, rfl, by omega, ?_⟩
        rw [nI_1]
        have F5 : ∀ c2 j, ¬ c2 = 17 → ¬ c2 = 21 → ¬ c2 = 14 → ¬ c2 = 15 → ¬ c2 = 16 → ∀ v, (wI σ4 21 c v).1 c2 j = σ2.1 c2 j := fun c2 j q1 q2 q3 q4 q5 v => by rw [wI_cell _ _ _ q2, F4 c2 j q3 q4 q5]; exact F3 c2 j q1
        refine N _ (I2.mv (fun c2 j q1 q2 => F5 c2 j (by omega) (by omega) (by omega) (by omega) (by omega) _)) (R2.mv (fun c2 j q => F5 c2 j (by omega) (by omega) (by omega) (by omega) (by omega) _)) (by rw [F5 0 21 (by omega) (by omega) (by omega) (by omega) (by omega), f2 0 21 (by omega)]; exact h21) (fun j hj2 => ?_)
        rcases (show j < c ∨ j = c by omega) with g | g
        · rw [wI_place _ _ _ (by omega), F4 21 j (by omega) (by omega) (by omega), F3 21 j (by omega), f2 21 j (by omega)]; exact hj j g
        · subst g; rw [wI_same, ev]; rfl
theorem dec_ru {r : Nat} (h : r ≤ 3) : decide (ruI r = 1) = decide (r = 1) := by
  by_cases q : r = 1
  · rw [decide_eq_true q, decide_eq_true ((ruI_1 h).mpr q)]
  · rw [decide_eq_false q, decide_eq_false (fun g => q ((ruI_1 h).mp g))]
theorem nv0 (d r : Nat) : nvO a d r 0 0 = some (plW a r d 0 0) := rfl
theorem l6_last {d m w : Nat} {σ : r_St} (hI : Inv1 a σ) (hR : Read1 a σ) (hd : d + (m + 1) < 40) (hm : m ≤ 2) (hw : w < 2) (ho : ∀ j, j < 9 → σ.1 21 j = oI (nvO a d m 1 j)) (h : K (woV a d m w) σ) : R_X6_wordsOf_46 σ K (nI d) (nI w) (nI 9) (nI 0) := by
  have h8 := dd_le hI.1.1
  have hr := ru_le a d
  have hb := bo_up a h8 d m 0 0
  have hf : (fun w => nvO a d m (0 + 1) (9 * 0 + w)) = fun w => nvO a d m 1 w := by funext w; rw [Nat.mul_zero, Nat.zero_add, Nat.zero_add]
  rw [hf, nv0, Nat.add_zero] at hb
  have hs := bo_spec (decide (ru a d = 1)) (fun w => nvO a d m 1 w) 9
  rw [hb] at hs
  have hex : ∃ i, i < 9 ∧ nvO a d m 1 i = some (plW a (m + 1) d 0 0) := by
    rcases hs with ⟨h1, _⟩ | ⟨v, h1, ⟨i, h2, h3⟩, _⟩
    · cases h1
    · cases h1; exact ⟨i, h2, h3⟩
  have hB := plW_le a (m + 1) d 0 0
  have ev : ∀ i, i < 9 → nvO a d m 1 i = if lgB a (ru a d) i = true then some (plW a m (d + 1) (if ru a d = 0 ∧ i < 8 then 2 ^ i else 0) (if ru a d = 1 ∧ i < 8 then 2 ^ i else 0)) else none := by
    intro i hi
    have e := wst_at a d 0 0 i hi
    rw [Nat.mul_zero, Nat.zero_add, Nat.zero_add, Nat.add_zero] at e
    unfold nvO
    rw [e]
    show (if (true && lgB a (ru a d) i) = true then some (plW a m (d + 1) (if ru a d = 0 ∧ i < 8 then 0 ^^^ 2 ^ i else 0) (if ru a d = 1 ∧ i < 8 then 0 ^^^ 2 ^ i else 0)) else none) = _
    rw [Bool.true_and, Nat.zero_xor]
  -- the search for the word
  have loop : ∀ n i, i + n = 8 → (∀ j, j < i → ¬ nvO a d m 1 j = some (plW a (m + 1) d 0 0)) → (w = 0 → K (nI (plW a (m + 1) d 0 0)) σ) → (¬ w = 0 → ru a d ≤ 1 → K (nI (fs (fun j => decide (nvO a d m 1 j = some (plW a (m + 1) d 0 0))) n i)) σ) → (¬ w = 0 → ¬ ru a d ≤ 1 → K (-1) σ) → R_X6_wordsOf_123 σ K (nI w) (ruI (ru a d)) (nI (plW a (m + 1) d 0 0)) (nI i) := by
    intro n
    induction n with
    | zero =>
      intro i hi hno k0 k1 k2
      have e : i = 8 := by omega
      subst e
      have e8 : nvO a d m 1 8 = some (plW a (m + 1) d 0 0) := by
        obtain ⟨i, h1, h2⟩ := hex
        rcases (show i < 8 ∨ i = 8 by omega) with g | g
        · exact absurd h2 (hno i g)
        · subst g; exact h2
      refine b_X6_wordsOf_123 ⟨8, rfl, by omega, ⟨fun _ => ⟨fun c => ⟨fun c2 => k1 (fun q => c (by rw [q]; rfl)) ((ruI_IN hr).mp c2), fun c2 => k2 (fun q => c (by rw [q]; rfl)) (fun q => c2 ((ruI_IN hr).mpr q))⟩, fun c => k0 (nI_inj (b := 0) (by omega) (by decide) c)⟩, fun c => ?_⟩⟩
      rw [ho 8 (by decide), e8] at c
      exact absurd rfl c
    | succ n ih =>
      intro i hi hno k0 k1 k2
      unfold fs at k1
      refine b_X6_wordsOf_123 ⟨i, rfl, by omega, ⟨fun c0 => ?_, fun c0 => ?_⟩⟩
      · rw [ho i (by omega)] at c0
        have ei : nvO a d m 1 i = some (plW a (m + 1) d 0 0) := by
          cases hq : nvO a d m 1 i with
          | none => rw [hq] at c0; exact absurd c0.symm (nI_m1 (by omega))
          | some u =>
            rw [hq] at c0
            have := nvO_le hq
            have := nI_inj (a := u) (by omega) (by omega) c0
            rw [this]
        rw [if_pos (decide_eq_true ei)] at k1
        exact ⟨fun c => ⟨fun c2 => k1 (fun q => c (by rw [q]; rfl)) ((ruI_IN hr).mp c2), fun c2 => k2 (fun q => c (by rw [q]; rfl)) (fun q => c2 ((ruI_IN hr).mpr q))⟩, fun c => k0 (nI_inj (b := 0) (by omega) (by decide) c)⟩
      · rw [ho i (by omega)] at c0
        have ei : ¬ nvO a d m 1 i = some (plW a (m + 1) d 0 0) := fun q => c0 (by rw [q]; rfl)
        rw [if_neg (by rw [decide_eq_false ei]; decide)] at k1
        rw [nI_1]
        refine ih (i + 1) (by omega) (fun j hj => ?_) k0 k1 k2
        rcases (show j < i ∨ j = i by omega) with g | g
        · exact hno j g
        · subst g; exact ei
  have efs : ru a d ≤ 1 → ∀ n q, q + n = dd a → fs (fun j => decide (nvO a d m 1 j = some (plW a (m + 1) d 0 0))) (n + (8 - dd a)) q = wdR a m d n q := by
    intro r1 n
    induction n with
    | zero =>
      intro q hq
      rw [Nat.zero_add, fs_end]
      · show q + (8 - dd a) = 8
        omega
      · intro i h1 h2
        have hl : lgB a (ru a d) i = false := by unfold lgB; simp [show ¬ i < dd a by omega]; omega
        rw [decide_eq_false]
        rw [ev i (by omega), hl, if_neg (by decide)]
        exact fun g => by cases g
    | succ n ih =>
      intro q hq
      have hl : lgB a (ru a d) q = true := by unfold lgB; simp [show q < dd a by omega, r1]
      have eq : nvO a d m 1 q = some (wvF a m d q) := by
        rw [ev q (by omega), if_pos hl]
        unfold wvF
        rcases (show ru a d = 0 ∨ ru a d = 1 by omega) with g | g
        · rw [if_pos ⟨g, by omega⟩, if_neg (by omega), if_pos g]
        · rw [if_neg (by omega), if_pos ⟨g, by omega⟩, if_neg (by omega)]
      rw [show n + 1 + (8 - dd a) = (n + (8 - dd a)) + 1 by omega]
      unfold fs wdR
      rw [ih (q + 1) (by omega)]
      by_cases g : wvF a m d q = plW a (m + 1) d 0 0
      · rw [if_pos g, if_pos (decide_eq_true (by rw [eq, g]))]
      · rw [if_neg g, if_neg]
        rw [decide_eq_false (fun q2 => g (Option.some.inj (eq.symm.trans q2)))]
        decide
  unfold woV at h
  refine b_X6_wordsOf_46 ⟨fun _ => k6_rulesOf hI (by omega) (k6_best (b := 0) (f := fun w => nvO a d m 1 w) (by omega) (fun i u _ hu => nvO_le hu) (fun i hi => by rw [Nat.zero_add]; exact ho i hi) ?_), fun c => absurd (Int32.le_refl _) c⟩
  rw [dec_ru hr, hb]
  refine loop 8 0 (by omega) (fun j hj => by omega) (fun q => ?_) (fun q q2 => ?_) (fun q q2 => ?_)
  · rw [if_pos q] at h; exact h
  · rw [if_neg q, if_pos q2] at h
    have := efs q2 (dd a) 0 (by omega)
    rw [show dd a + (8 - dd a) = 8 by omega] at this
    rw [this]; exact h
  · rw [if_neg q, if_neg q2] at h; exact h
theorem l6_levels {d m w : Nat} (hd : d + (m + 1) < 40) (hm : m ≤ 2) (hw : w < 2) (h : ∀ σ', Inv1 a σ' → Read1 a σ' → K (woV a d m w) σ') : ∀ k r, k + r = m → ∀ σ, Inv1 a σ → Read1 a σ → (∀ j, j < 9 ^ (k + 1) → σ.1 21 j = oI (nvO a d r (k + 1) j)) → R_X6_wordsOf_46 σ K (nI d) (nI w) (nI (9 ^ (k + 1))) (nI k) := by
  intro k
  induction k with
  | zero =>
    intro r hk σ I R ho
    have e : r = m := by omega
    subst e
    exact l6_last I R hd hm hw ho (h σ I R)
  | succ k ih =>
    intro r hk σ I R ho
    have h8 := dd_le I.1.1
    have hr := ru_le a (d + (k + 1))
    have p9 : 9 ^ (k + 1 + 1) ≤ 729 := pow9 (by omega)
    have p8 : 9 ^ (k + 1 + 1) = 9 * 9 ^ (k + 1) := by rw [Nat.pow_succ, Nat.mul_comm]
    have ed : nI (9 ^ (k + 1 + 1)) / 9 = nI (9 ^ (k + 1)) := by
      rw [show (9 : Int32) = nI 9 from rfl, pk_div (by omega) (by omega) (by omega), p8, Nat.mul_div_cancel_left _ (by decide)]
    have loop : ∀ q i, i + q = 9 ^ (k + 1) → ∀ σ', Inv1 a σ' → Read1 a σ' → (∀ j, j < i → σ'.1 21 j = oI (nvO a d (r + 1) (k + 1) j)) → (∀ j, i ≤ j → j < 9 ^ (k + 1 + 1) → σ'.1 21 j = oI (nvO a d r (k + 1 + 1) j)) → R_X6_wordsOf_61 σ' K (nI d) (nI w) (nI (9 ^ (k + 1))) (nI (k + 1)) (nI i) := by
      intro q
      induction q with
      | zero =>
        intro i hi σ' I' R' ho1 ho2
        have e : i = 9 ^ (k + 1) := by omega
        subst e
        refine b_X6_wordsOf_61 ⟨fun _ => ?_, fun c => absurd (Int32.le_refl _) c⟩
        rw [show nI (k + 1) + -1 = nI k from by rw [← Int32.sub_eq_add_neg]; exact nI_pred k]
        exact ih (r + 1) (by omega) σ' I' R' ho1
      | succ q ihq =>
        intro i hi σ' I' R' ho1 ho2
        refine b_X6_wordsOf_61 ⟨fun c => ?_, fun _ => ?_⟩
        · have := le_of_nI (by omega) (by omega) c
          omega
        · rw [nI_add, show (9 : Int32) = nI 9 from rfl, pk_mul]
          refine k6_rulesOf I' (by omega) (k6_best (b := 9 * i) (f := fun w => nvO a d r (k + 1 + 1) (9 * i + w)) (by omega) (fun i u _ hu => nvO_le hu) (fun w hw => ho2 _ (by omega) (by omega)) ⟨i, rfl, by omega, ?_⟩)
          rw [dec_ru hr, bo_up a h8 d r (k + 1) i, nI_1]
          have F : ∀ c2 j, ¬ c2 = 21 → ∀ v, (wI σ' 21 i v).1 c2 j = σ'.1 c2 j := fun c2 j q v => by rw [wI_cell _ _ _ q]
          refine ihq (i + 1) (by omega) _ (I'.mv (fun c2 j q1 q2 => F c2 j (by omega) _)) (R'.mv (fun c2 j q => F c2 j (by omega) _)) (fun j hj => ?_) (fun j h1 h2 => ?_)
          · rcases (show j < i ∨ j = i by omega) with g | g
            · rw [wI_place _ _ _ (by omega)]; exact ho1 j g
            · subst g; rw [wI_same]
          · rw [wI_place _ _ _ (by omega)]; exact ho2 j (by omega) h2
    refine b_X6_wordsOf_46 ⟨fun c => ?_, fun _ => ?_⟩
    · have := le_of_nI (y := 0) (by omega) (by decide) c
      omega
    · rw [ed]
      exact loop _ 0 (Nat.zero_add _) σ I R (fun j hj => by omega) (fun j _ h2 => ho j h2)
theorem c6_words {σ : r_St} {d m w : Nat} (hI : Inv1 a σ) (hd : d + (m + 1) < 40) (hm : m ≤ 2) (hw : w < 2) (h : ∀ σ', Inv1 a σ' → Read1 a σ' → K (woV a d m w) σ') : M_X6_wordsOf σ K (nI d) (nI (m + 1)) (nI w) := by
  have at31 : ∀ s, Inv1 a s → Read1 a s → R_X6_wordsOf_31 (wI (wI s 0 21 (-1)) 0 23 0) K (nI d) (nI (m + 1)) (nI w) (nI (9 ^ (m + 1))) := by
    intro s I R
    have F : ∀ c j, ¬ (c = 0 ∧ (j = 21 ∨ j = 23)) → (wI (wI s 0 21 (-1)) 0 23 0).1 c j = s.1 c j := fun c j q => by rw [wI_ne _ _ (by omega), wI_ne _ _ (by omega)]
    refine b_X6_wordsOf_31 (b_X6_laysOuts (l6_code (a := a) (n := m + 1) (by omega) (by omega) hd (fun s2 I2 R2 o2 => ?_) (9 ^ (m + 1)) 0 (Nat.zero_add _) _ (I.mv (fun c j q1 q2 => F c j (by omega))) (R.mv (fun c j q => F c j (by omega))) (by rw [wI_place _ _ _ (by decide), wI_same]) (fun j hj => by omega)))
    rw [nI_pred m]
    exact l6_levels hd hm hw h m 0 (by omega) s2 I2 R2 o2
  refine b_X6_wordsOf (k6_read hI (fun s I _ R => ?_))
  rcases (show m = 0 ∨ m = 1 ∨ m = 2 by omega) with g | g | g
  · subst g; exact ⟨fun c => absurd rfl c, fun _ => at31 s I R⟩
  · subst g; exact ⟨fun _ => ⟨fun c => absurd rfl c, fun _ => at31 s I R⟩, fun c => absurd c (by decide)⟩
  · subst g; exact ⟨fun _ => ⟨fun _ => at31 s I R, fun c => absurd c (by decide)⟩, fun c => absurd c (by decide)⟩
theorem p_words (a : ab) (hW : WF a) (x1 x2 x3 : Int32) : PI a (fun σ K => M_X5_words σ K x1 x2 x3) (fun σ K => M_X6_words σ K x1 x2 x3) := by
  by_cases c0 : ¬ IN x1 0 39
  · exact ⟨-2, a, fun σ K hI h => b_X5_words ⟨fun c => absurd c c0, fun _ => h σ hI⟩, fun σ K hI h => b_X6_words ⟨fun c => absurd c c0, fun _ => h σ hI⟩⟩
  have c0 := Classical.not_not.mp c0
  by_cases c1 : ¬ IN x2 1 3
  · exact ⟨-2, a, fun σ K hI h => b_X5_words ⟨fun _ => ⟨fun c => absurd c c1, fun _ => h σ hI⟩, fun c => absurd c0 c⟩, fun σ K hI h => b_X6_words ⟨fun _ => ⟨fun c => absurd c c1, fun _ => h σ hI⟩, fun c => absurd c0 c⟩⟩
  have c1 := Classical.not_not.mp c1
  by_cases c2 : 39 < x1 + x2
  · exact ⟨-2, a, fun σ K hI h => b_X5_words ⟨fun _ => ⟨fun _ => ⟨fun _ => h σ hI, fun c => absurd c2 c⟩, fun c => absurd c1 c⟩, fun c => absurd c0 c⟩, fun σ K hI h => b_X6_words ⟨fun _ => ⟨fun _ => ⟨fun _ => h σ hI, fun c => absurd c2 c⟩, fun c => absurd c1 c⟩, fun c => absurd c0 c⟩⟩
  by_cases c3 : ¬ IN x3 0 1
  · exact ⟨-2, a, fun σ K hI h => b_X5_words ⟨fun _ => ⟨fun _ => ⟨fun c => absurd c c2, fun _ => ⟨fun c => absurd c c3, fun _ => h σ hI⟩⟩, fun c => absurd c1 c⟩, fun c => absurd c0 c⟩, fun σ K hI h => b_X6_words ⟨fun _ => ⟨fun _ => ⟨fun c => absurd c c2, fun _ => ⟨fun c => absurd c c3, fun _ => h σ hI⟩⟩, fun c => absurd c1 c⟩, fun c => absurd c0 c⟩⟩
  have c3 := Classical.not_not.mp c3
  obtain ⟨d, l0, r0, e0⟩ := (IN_iff (lo := 0) (hi := 39) (by decide) (by decide)).mp c0
  obtain ⟨n, l1, r1, e1⟩ := (IN_iff (lo := 1) (hi := 3) (by decide) (by decide)).mp c1
  obtain ⟨w, l3, r3, e3⟩ := (IN_iff (lo := 0) (hi := 1) (by decide) (by decide)).mp c3
  obtain ⟨m, rfl⟩ : ∃ m, n = m + 1 := ⟨n - 1, by omega⟩
  subst e0 e1 e3
  have c2' : d + (m + 1) < 40 := by
    rw [nI_add] at c2
    have := nlt_of_nI (x := 39) (by decide) (by omega) c2
    omega
  exact ⟨woV a d m w, a, fun σ K hI h => c5_words hI c2' (by omega) (by omega) h, fun σ K hI h => b_X6_words ⟨fun _ => ⟨fun _ => ⟨fun c => absurd c c2, fun _ => ⟨fun _ => c6_words hI c2' (by omega) (by omega) (fun s I _ => h s I), fun c => absurd c3 c⟩⟩, fun c => absurd c1 c⟩, fun c => absurd c0 c⟩⟩
end WR4
