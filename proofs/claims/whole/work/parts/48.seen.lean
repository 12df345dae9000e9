/-! ===== when, ask, forged ===== -/
def alB (p : Nat → Bool) : Nat → Bool
  | 0 => true
  | n + 1 => alB p n && p n
theorem alB_iff (p : Nat → Bool) (n : Nat) : alB p n = true ↔ ∀ k, k < n → p k = true := by
  induction n with
  | zero => exact ⟨fun _ k hk => absurd hk (by omega), fun _ => rfl⟩
  | succ n ih =>
    unfold alB
    rw [Bool.and_eq_true, ih]
    constructor
    · rintro ⟨h1, h2⟩ k hk
      rcases (show k < n ∨ k = n by omega) with q | q
      · exact h1 k q
      · subst q; exact h2
    · intro h; exact ⟨fun k hk => h k (by omega), h n (by omega)⟩
def soB (a : ab) (w : Int32) (d q i : Nat) : Bool := decide (q < dd a) && decide (b2n ((op a w d).testBit q) = i)
def whP (a : ab) (d k : Nat) : Bool := soB a (-1) d (a.2.1 11 k) (a.2.1 12 k)
def whB (a : ab) (d : Nat) : Bool := alB (whP a d) (a.1 8)
def whM (a : ab) : Nat := mkb (whB a) 40
theorem l_andn (a b : Nat) (ha : a < 1099511627776) : lN a &&& (lN b ^^^ (-1)) = lN (a ^^^ (a &&& b)) := by
  rw [show (-1 : Int64) = lN (2 ^ 64 - 1) by decide, l_xor, l_and]
  congr 1
  apply Nat.eq_of_testBit_eq
  intro i
  simp only [Nat.testBit_xor, Nat.testBit_and, Nat.testBit_two_pow_sub_one]
  by_cases hi : i < 64
  · simp only [hi, decide_true]
    cases a.testBit i <;> cases b.testBit i <;> rfl
  · have : a.testBit i = false := Nat.testBit_lt_two_pow (Nat.lt_of_lt_of_le ha (by
      have := Nat.pow_le_pow_right (n := 2) (by decide) (show 64 ≤ i by omega)
      omega))
    rw [this]
    simp
theorem mkb_no {p : Nat → Bool} {n : Nat} (h : ∀ k, k < n → p k = false) : mkb p n = 0 := by
  induction n with
  | zero => rfl
  | succ n ih =>
    unfold mkb
    rw [ih (fun k hk => h k (by omega)), h n (by omega)]
    rfl
theorem bit_ext {x y n : Nat} (hx : x < 2 ^ n) (hy : y < 2 ^ n) (h : ∀ i, i < n → x.testBit i = y.testBit i) : x = y := by
  apply Nat.eq_of_testBit_eq
  intro i
  by_cases hi : i < n
  · exact h i hi
  · have hp := Nat.pow_le_pow_right (n := 2) (by decide) (show n ≤ i by omega)
    rw [Nat.testBit_lt_two_pow (Nat.lt_of_lt_of_le hx hp), Nat.testBit_lt_two_pow (Nat.lt_of_lt_of_le hy hp)]
section SEE
variable {σ : r_St} {K : Int32 → r_St → Prop} {L : Int64 → r_St → Prop} {a : ab}
theorem l5_seen (hI : Inv0 a σ) (hT : Told a (-1) 32 σ) (h : L (lN (whM a)) σ) : ∀ m k, k + m = a.1 8 → R_X5_daysAsSeen_12 σ L (lN (mkb (fun d => alB (whP a d) k) 40)) (nI k) := by
  obtain ⟨hW, hB, -⟩ := id hI
  have h8 := dd_le hW.1
  have hs := hW.2.2.2.2.2.2.2.2.2.1
  obtain ⟨r1, r2, r3⟩ := hB.2.2.2.2.2.2.2.1
  intro m
  induction m with
  | zero =>
    intro k hk
    have e : k = a.1 8 := by omega
    subst e
    refine b_X5_daysAsSeen_12 ⟨fun _ => h, fun c => ?_⟩
    rw [r2] at c
    exact absurd (Int32.le_refl _) c
  | succ m ih =>
    intro k hk
    obtain ⟨q1, q2⟩ := hs.2 k (by omega)
    have v1 : σ.1 25 k = nI (a.2.1 11 k) := (r3 k (by omega)).1
    have v2 : σ.1 26 k = nI (a.2.1 12 k) := (r3 k (by omega)).2.1
    have N := ih (k + 1) (by omega)
    have hm : mkb (fun d => alB (whP a d) k) 40 < 2 ^ 40 := mkb_lt _ _
    refine b_X5_daysAsSeen_12 ⟨fun c => ?_, fun _ => k3_first isRows_24 r2 hs.1 (by omega) ?_⟩
    · rw [r2] at c
      have := le_of_nI (by omega) (by omega) c
      omega
    · show M_X1_openDays 32 σ _ (σ.1 25 k)
      rw [v1]
      refine k1_openDays isLaws_32 hW hT (by omega) ?_
      rw [hB.1.2.2.1]
      refine ⟨fun c => k3_second isRows_24 r2 hs.1 (by omega) ?_, fun c => ?_⟩
      · obtain ⟨j, j1, j2⟩ := (IN_lt_iff (by omega)).mp c
        have j2 := nI_inj (by omega) (by omega) j2
        have hd : a.2.1 11 k < dd a := by omega
        show (¬ σ.1 26 k = 1 → _) ∧ (σ.1 26 k = 1 → _)
        rw [v2, nI_1]
        have ho : odm a (a.2.1 11 k) < 2 ^ 40 := odm_lt _ _
        refine ⟨fun c => ?_, fun c => ?_⟩
        · have e0 : a.2.1 12 k = 0 := by
            rcases (show a.2.1 12 k = 0 ∨ a.2.1 12 k = 1 by omega) with e | e
            · exact e
            · exact absurd (by rw [e]; rfl) c
          rw [l_andn _ _ (by omega)]
          have e : mkb (fun d => alB (whP a d) k) 40 ^^^ (mkb (fun d => alB (whP a d) k) 40 &&& odm a (a.2.1 11 k)) = mkb (fun d => alB (whP a d) (k + 1)) 40 := by
            refine bit_ext (n := 40) (xor_lt hm (and_lt hm)) (mkb_lt _ _) (fun i hi => ?_)
            rw [Nat.testBit_xor, Nat.testBit_and, mkb_test hi, mkb_test hi, odm_bit hd hi]
            show _ = (alB (whP a i) k && whP a i k)
            unfold whP soB
            rw [e0]
            cases alB (fun k => decide (a.2.1 11 k < dd a) && decide (b2n ((op a (-1) i).testBit (a.2.1 11 k)) = a.2.1 12 k)) k <;> cases (op a (-1) i).testBit (a.2.1 11 k) <;> simp [hd, b2n]
          rw [e]
          exact N
        · have e1 := nI_inj (b := 1) (by omega) (by decide) c
          rw [l_and]
          have e : mkb (fun d => alB (whP a d) k) 40 &&& odm a (a.2.1 11 k) = mkb (fun d => alB (whP a d) (k + 1)) 40 := by
            refine bit_ext (n := 40) (and_lt hm) (mkb_lt _ _) (fun i hi => ?_)
            rw [Nat.testBit_and, mkb_test hi, mkb_test hi, odm_bit hd hi]
            show _ = (alB (whP a i) k && whP a i k)
            unfold whP soB
            rw [e1]
            cases alB (fun k => decide (a.2.1 11 k < dd a) && decide (b2n ((op a (-1) i).testBit (a.2.1 11 k)) = a.2.1 12 k)) k <;> cases (op a (-1) i).testBit (a.2.1 11 k) <;> simp [hd, b2n]
          rw [e]
          exact N
      · have hn : ¬ a.2.1 11 k < dd a := fun g => c ((IN_lt_iff (by omega)).mpr ⟨_, g, rfl⟩)
        rw [nI_1]
        have e : mkb (fun d => alB (whP a d) (k + 1)) 40 = 0 := mkb_no (fun i hi => by
          show (alB (whP a i) k && whP a i k) = false
          unfold whP soB
          simp [hn])
        rw [e] at N
        exact N
theorem c5_daysAsSeen (hI : Inv0 a σ) (h : ∀ σ', Inv0 a σ' → Told a (-1) 32 σ' → L (lN (whM a)) σ') : M_X5_daysAsSeen σ L := by
  refine b_X5_daysAsSeen (k5_laws hI (fun s I T _ => ?_))
  have e : mkb (fun d => alB (whP a d) 0) 40 = 1099511627775 := by
    show mkb (fun _ => true) 40 = _
    decide
  have := l5_seen I T (h s I T) (a.1 8) 0 (by omega)
  rw [e] at this
  exact this
def dio (p : Nat → Bool) : Nat → Nat → Nat → Nat → Int32
  | 0, _, _, _ => -1
  | m + 1, d, n, i => if p d then (if n = i then nI d else dio p m (d + 1) (n + 1) i) else dio p m (d + 1) n i
theorem l5_dio {i M : Nat} (hM : M < 9223372036854775808) (hi : i ≤ 40) : ∀ m d n, d + m = 40 → n ≤ d → K (dio (fun d => M.testBit d) m d n i) σ → R_X5_dayInOrder_5 σ K (lN M) (nI i) (nI n) (nI d) := by
  intro m
  induction m with
  | zero =>
    intro d n hd hn h
    have e : d = 40 := by omega
    subst e
    exact b_X5_dayInOrder_5 ⟨fun _ => h, fun c => absurd (Int32.le_refl _) c⟩
  | succ m ih =>
    intro d n hd hn h
    unfold dio at h
    refine b_X5_dayInOrder_5 ⟨fun c => ?_, fun _ => ⟨fun c => ?_, fun c => ⟨fun c2 => ?_, fun c2 => ?_⟩⟩⟩
    · have := le_of_nI (x := 40) (by decide) (by omega) c
      omega
    · have hb : M.testBit d = false := by
        cases hq : M.testBit d with
        | false => rfl
        | true => exact absurd ((hold_iff (by omega) hM).mpr hq) c
      rw [hb] at h
      rw [nI_1]
      exact ih (d + 1) n (by omega) (by omega) h
    · rw [(hold_iff (by omega) hM).mp c, if_pos rfl, if_neg (fun g => c2 (by rw [g]))] at h
      rw [nI_1, nI_1]
      exact ih (d + 1) (n + 1) (by omega) (by omega) h
    · rw [(hold_iff (by omega) hM).mp c, if_pos rfl, if_pos (nI_inj (by omega) (by omega) c2)] at h
      exact h
def whV (a : ab) (x : Int32) : Int32 := if x = -1 then nI (pc40 (whM a)) else dio (fun d => (whM a).testBit d) 40 0 0 x.toNatClampNeg
theorem c5_when {x : Int32} (hI : Inv0 a σ) (hx : x = -1 ∨ ∃ i : Nat, i ≤ 39 ∧ x = nI i) (h : ∀ σ', Inv0 a σ' → K (whV a x) σ') : M_X5_when σ K x := by
  have hM : whM a < 2 ^ 40 := mkb_lt _ _
  have hin : IN x (-1) 39 := by
    rcases hx with rfl | ⟨i, hi, rfl⟩
    · exact ⟨Int32.le_refl _, by decide⟩
    · refine ⟨?_, nI_le (b := 39) hi (by decide)⟩
      apply Int32.le_iff_toInt_le.mpr
      rw [nI_toInt (by omega)]
      show (-1 : Int) ≤ _
      omega
  refine b_X5_when ⟨fun _ => c5_daysAsSeen hI (fun s I T => ⟨fun c => ?_, fun c => ?_⟩), fun c => absurd hin c⟩
  · have h := h s I
    unfold whV at h
    rw [if_neg c] at h
    rcases hx with rfl | ⟨i, hi, rfl⟩
    · exact absurd rfl c
    · rw [nI_clamp (by omega)] at h
      exact b_X5_dayInOrder (l5_dio (by omega) (by omega) 40 0 0 (by omega) (by omega) h)
  · have h := h s I
    unfold whV at h
    rw [if_pos c] at h
    exact kJ_long hM h
/-! the reference -/
theorem k6_isSo {w : Int32} {d q i : Nat} (hI : Inv1 a σ) (hL : Laid1 a w σ) (hd : d < 40) (hq : q < 8) (hi : i < 2) (h : K (nI (b2n (soB a w d q i))) σ) : M_X6_isSo σ K (nI d) (nI q) (nI i) := by
  have h8 := dd_le hI.1.1
  have no : soB a w d q i = false → K 0 σ := fun e => by rw [e] at h; exact h
  refine b_X6_isSo ?_
  rw [hL.1.1]
  refine ⟨fun c => no ?_, fun c => ⟨d, rfl, hd, ?_⟩⟩
  · have c := le_of_nI (by omega) (by omega) c
    unfold soB
    rw [decide_eq_false (by omega)]; rfl
  · have c := nle_of_nI (by omega) (by omega) c
    rw [hL.opd hd, sr_bit (by omega) (by have := op_small hI.1 w d; omega)]
    refine ⟨fun c2 => no ?_, fun c2 => ?_⟩
    · unfold soB
      rw [decide_eq_true c, decide_eq_false (fun g => c2 (by rw [g]))]; rfl
    · have c2 := nI_inj (by have := b2n_lt ((op a w d).testBit q); omega) (by omega) c2
      have e : soB a w d q i = true := by
        unfold soB
        rw [decide_eq_true c, decide_eq_true c2]; rfl
      rw [e] at h
      exact h
theorem l6_isWhen {d : Nat} (hI : Inv1 a σ) (hL : Laid1 a (-1) σ) (hd : d < 40) (h : K (nI (b2n (whB a d))) σ) : ∀ m k, k + m = a.1 8 → R_X6_isWhen_4 σ K (nI d) (nI (b2n (alB (whP a d) k))) (nI k) := by
  obtain ⟨hW, hB⟩ := id hI
  have hs := hW.2.2.2.2.2.2.2.2.2.1
  obtain ⟨r1, r2, r3⟩ := hB.2.2.2.2.2.2.2.1
  intro m
  induction m with
  | zero =>
    intro k hk
    have e : k = a.1 8 := by omega
    subst e
    refine b_X6_isWhen_4 ⟨fun _ => ⟨by cases alB (whP a d) (a.1 8) <;> decide, h⟩, fun c => ?_⟩
    rw [r1] at c
    exact absurd (Int32.le_refl _) c
  | succ m ih =>
    intro k hk
    obtain ⟨q1, q2⟩ := hs.2 k (by omega)
    have step : ∀ (b2 : Bool) (v : Int32), v = nI (b2n b2) → alB (whP a d) (k + 1) = b2 → R_X6_isWhen_4 σ K (nI d) v (nI k + 1) := by
      intro b2 v hv e
      rw [hv, ← e, nI_1]
      exact ih (k + 1) (by omega)
    have e1 : alB (whP a d) (k + 1) = (alB (whP a d) k && whP a d k) := rfl
    refine b_X6_isWhen_4 ⟨fun c => ?_, fun _ => ⟨fun c => step false 0 rfl ?_, fun c => ⟨k, rfl, by omega, k, rfl, by omega, ?_⟩⟩⟩
    · rw [r1] at c
      have := le_of_nI (by omega) (by omega) c
      omega
    · rw [e1, b2n_0.mp c]; rfl
    · have hb : alB (whP a d) k = true := by
        cases hq : alB (whP a d) k with
        | true => rfl
        | false => rw [hq] at c; exact absurd rfl c
      rw [r2 k (by omega), r3 k (by omega)]
      refine k6_isSo hI hL hd (by omega) (by omega) ⟨fun c2 => step false 0 rfl ?_, fun c2 => step true 1 rfl ?_⟩
      · rw [e1, hb]
        exact b2n_0.mp c2
      · rw [e1, hb]
        show whP a d k = true
        cases hq : whP a d k with
        | true => rfl
        | false =>
          have : soB a (-1) d (a.2.1 11 k) (a.2.1 12 k) = false := hq
          rw [this] at c2; exact absurd rfl c2
theorem k6_isWhen {d : Nat} (hI : Inv1 a σ) (hL : Laid1 a (-1) σ) (hd : d < 40) (h : K (nI (b2n (whB a d))) σ) : M_X6_isWhen σ K (nI d) :=
  b_X6_isWhen (l6_isWhen hI hL hd h (a.1 8) 0 (by omega))
theorem whM_bit {d : Nat} (hd : d < 40) : (whM a).testBit d = whB a d := mkb_test hd
theorem l6_when {x : Int32} (hI : Inv1 a σ) (hL : Laid1 a (-1) σ) (hx : x = -1 ∨ ∃ i : Nat, i ≤ 39 ∧ x = nI i) :
    ∀ m d n f, d + m = 40 → n ≤ d → (x = -1 → K (nI (n + sm (fun j => b2n (whB a (d + j))) m)) σ) → (∀ i : Nat, i ≤ 39 → x = nI i → K (if n ≤ i then (if f = -1 then dio (fun d => (whM a).testBit d) m d n i else f) else f) σ) → (∀ i : Nat, i ≤ 39 → x = nI i → n ≤ i → f = -1) → R_X6_whenOf_11 σ K x (nI n) f (nI d) := by
  intro m
  induction m with
  | zero =>
    intro d n f hd hn h1 h2 h3
    have e : d = 40 := by omega
    subst e
    refine b_X6_whenOf_11 ⟨fun _ => ⟨fun c => ?_, fun c => h1 c⟩, fun c => absurd (Int32.le_refl _) c⟩
    rcases hx with hx | ⟨i, hi, hx⟩
    · exact absurd hx c
    · have := h2 i hi hx
      have g := h3 i hi hx
      by_cases q : n ≤ i
      · rw [if_pos q, if_pos (g q)] at this
        rw [g q]
        exact this
      · rw [if_neg q] at this
        exact this
  | succ m ih =>
    intro d n f hd hn h1 h2 h3
    have esm : sm (fun j => b2n (whB a (d + j))) (m + 1) = b2n (whB a d) + sm (fun j => b2n (whB a (d + 1 + j))) m := by
      clear ih h1
      have gen : ∀ (g : Nat → Nat) (m : Nat), sm g (m + 1) = g 0 + sm (fun j => g (j + 1)) m := by
        intro g m
        induction m with
        | zero => show 0 + g 0 = g 0 + 0; omega
        | succ m ih2 =>
          show sm g (m + 1) + g (m + 1) = g 0 + (sm (fun j => g (j + 1)) m + g (m + 1))
          rw [ih2]; omega
      rw [gen]
      congr 1
      refine sm_cong (fun j _ => ?_)
      rw [show d + 1 + j = d + (j + 1) by omega]
    rw [esm] at h1
    refine b_X6_whenOf_11 ⟨fun c => ?_, fun _ => k6_isWhen hI hL (by omega) ?_⟩
    · have := le_of_nI (x := 40) (by decide) (by omega) c
      omega
    · have hdio : ∀ i : Nat, dio (fun d => (whM a).testBit d) (m + 1) d n i = if whB a d then (if n = i then nI d else dio (fun d => (whM a).testBit d) m (d + 1) (n + 1) i) else dio (fun d => (whM a).testBit d) m (d + 1) n i := by
        intro i
        show (if (whM a).testBit d then _ else _) = _
        rw [whM_bit (by omega)]
      refine ⟨fun c => ?_, fun c => ⟨fun c2 => ?_, fun c2 => ?_⟩⟩
      · have hb := b2n_0.mp c
        refine b_X6_whenOf_42 ⟨fun _ => ?_, fun c2 => absurd c c2⟩
        rw [nI_1, show nI n + 0 = nI n from Int32.add_zero _]
        refine ih (d + 1) n f (by omega) (by omega) (fun g => ?_) (fun i hi hxi => ?_) h3
        · have := h1 g
          rw [hb] at this
          simpa [b2n] using this
        · have := h2 i hi hxi
          rw [hdio, hb] at this
          exact this
      · have hb : whB a d = true := by
          cases hq : whB a d with
          | true => rfl
          | false => rw [hq] at c; exact absurd rfl c
        refine b_X6_whenOf_42 ⟨fun c3 => absurd c3 c, fun _ => ?_⟩
        rw [nI_1, nI_1]
        refine ih (d + 1) (n + 1) f (by omega) (by omega) (fun g => ?_) (fun i hi hxi => ?_) (fun i hi hxi q => h3 i hi hxi (by omega))
        · have := h1 g
          rw [hb] at this
          rw [show n + 1 + sm (fun j => b2n (whB a (d + 1 + j))) m = n + (b2n true + sm (fun j => b2n (whB a (d + 1 + j))) m) by simp [b2n]; omega]
          exact this
        · have hne : ¬ n = i := fun g => c2 (by rw [hxi, g])
          have := h2 i hi hxi
          rw [hdio, hb, if_pos rfl, if_neg hne] at this
          by_cases q : n ≤ i
          · rw [if_pos q] at this
            rw [if_pos (by omega)]
            exact this
          · rw [if_neg q] at this
            rw [if_neg (by omega)]
            exact this
      · have hb : whB a d = true := by
          cases hq : whB a d with
          | true => rfl
          | false => rw [hq] at c; exact absurd rfl c
        refine b_X6_whenOf_42 ⟨fun c3 => absurd c3 c, fun _ => ?_⟩
        rw [nI_1, nI_1]
        refine ih (d + 1) (n + 1) (nI d) (by omega) (by omega) (fun g => ?_) (fun i hi hxi => ?_) (fun i hi hxi q => ?_)
        · rw [g] at c2
          exact absurd c2 (nI_m1 (by omega))
        · rw [hxi] at c2
          have c2 := nI_inj (by omega) (by omega) c2
          have := h2 i hi hxi
          rw [if_pos (by omega), if_pos (h3 i hi hxi (by omega)), hdio, hb, if_pos rfl, if_pos c2] at this
          rw [if_neg (by omega)]
          exact this
        · rw [hxi] at c2
          have c2 := nI_inj (by omega) (by omega) c2
          omega
theorem c6_when {x : Int32} (hI : Inv1 a σ) (hx : x = -1 ∨ ∃ i : Nat, i ≤ 39 ∧ x = nI i) (h : ∀ σ', Inv1 a σ' → Read1 a σ' → K (whV a x) σ') : M_X6_whenOf σ K x := by
  refine b_X6_whenOf (k6_laysTold hI (fun s I L => ?_))
  have h := h s I L.1
  unfold whV at h
  refine l6_when I L hx 40 0 0 (-1) (by omega) (by omega) (fun g => ?_) (fun i hi hxi => ?_) (fun _ _ _ _ => rfl)
  · rw [if_pos g] at h
    have e : pc40 (whM a) = 0 + sm (fun j => b2n (whB a (0 + j))) 40 := by
      rw [Nat.zero_add]
      unfold pc40
      exact sm_cong (fun j hj => by rw [whM_bit hj, Nat.zero_add])
    rw [e] at h
    exact h
  · rw [hxi, if_neg (nI_m1 (by omega)), nI_clamp (by omega)] at h
    rw [if_pos (by omega), if_pos rfl]
    exact h
theorem p_when (a : ab) (hW : WF a) (x1 : Int32) : PI a (fun σ K => M_X5_when σ K x1) (fun σ K => M_X6_when σ K x1) := by
  by_cases c0 : ¬ IN x1 (-1) 39
  · exact ⟨-2, a, fun σ K hI h => b_X5_when ⟨fun c => absurd c c0, fun _ => h σ hI⟩, fun σ K hI h => b_X6_when ⟨fun c => absurd c c0, fun _ => h σ hI⟩⟩
  have c0 := Classical.not_not.mp c0
  have hx := IN_m1 (n := 39) (by decide) c0
  exact ⟨whV a x1, a, fun σ K hI h => c5_when hI hx h, fun σ K hI h => b_X6_when ⟨fun _ => c6_when hI hx (fun s I _ => h s I), fun c => absurd c0 c⟩⟩
/-! ask -/
theorem imax_nI {x y : Nat} (hx : x < 2147483648) (hy : y < 2147483648) : imax (nI x) (nI y) = nI (if x < y then y else x) := by
  unfold imax
  by_cases h : x < y
  · rw [if_pos h, if_pos (nI_lt h hy)]
  · rw [if_neg h, if_neg (nI_nlt (by omega) hx)]
theorem imin_nI {x y : Nat} (hx : x < 2147483648) (hy : y < 2147483648) : imin (nI x) (nI y) = nI (if y < x then y else x) := by
  unfold imin
  by_cases h : y < x
  · rw [if_pos h, if_pos (nI_lt h hx)]
  · rw [if_neg h, if_neg (nI_nlt (by omega) hy)]
/-- on how many of the days seen a deed is allowed, is not -/
def asI (a : ab) (q n : Nat) : Nat := sm (fun d => b2n (whB a d && (op a (-1) d).testBit q)) n
def asN (a : ab) (q n : Nat) : Nat := sm (fun d => b2n (whB a d && !(op a (-1) d).testBit q)) n
def asC (a : ab) (q : Nat) : Nat := if asI a q 40 < asN a q 40 then asN a q 40 else asI a q 40
theorem as_sum (a : ab) (q : Nat) : asI a q 40 + asN a q 40 = pc40 (whM a) := by
  unfold asI asN pc40
  rw [← sm_add]
  refine sm_cong (fun d hd => ?_)
  rw [whM_bit hd]
  cases whB a d <;> cases (op a (-1) d).testBit q <;> rfl
theorem sm_le {f : Nat → Nat} {c : Nat} : ∀ {n : Nat}, (∀ k, k < n → f k ≤ c) → sm f n ≤ n * c := by
  intro n
  induction n with
  | zero => intro _; show 0 ≤ 0 * c; omega
  | succ n ih =>
    intro h
    have := ih (fun k hk => h k (by omega))
    have := h n (by omega)
    show sm f n + f n ≤ _
    rw [Nat.succ_mul]
    omega
theorem asI_le (a : ab) (q n : Nat) : asI a q n ≤ n ∧ asN a q n ≤ n := by
  have h1 := sm_le (f := fun d => b2n (whB a d && (op a (-1) d).testBit q)) (c := 1) (n := n) (fun k _ => by have := b2n_lt (whB a k && (op a (-1) k).testBit q); omega)
  have h2 := sm_le (f := fun d => b2n (whB a d && !(op a (-1) d).testBit q)) (c := 1) (n := n) (fun k _ => by have := b2n_lt (whB a k && !(op a (-1) k).testBit q); omega)
  rw [Nat.mul_one] at h1 h2
  exact ⟨h1, h2⟩
theorem l5_ask (hI : Inv0 a σ) (hT : Told a (-1) 32 σ) : ∀ m q b l, q + m = dd a → K (chR (asC a) m q b l).1 σ → R_X5_ask_19 σ K (lN (whM a)) b l (nI q) := by
  obtain ⟨hW, hB, -⟩ := id hI
  have h8 := dd_le hW.1
  have hM : whM a < 2 ^ 40 := mkb_lt _ _
  intro m
  induction m with
  | zero =>
    intro q b l hq h
    have e : q = dd a := by omega
    subst e
    refine b_X5_ask_19 ⟨fun _ => h, fun c => ?_⟩
    rw [hB.1.2.2.1] at c
    exact absurd (Int32.le_refl _) c
  | succ m ih =>
    intro q b l hq h
    have hq' : q < dd a := by omega
    have ei : pc40 (whM a &&& odm a q) = asI a q 40 := by
      unfold pc40 asI
      refine sm_cong (fun d hd => ?_)
      rw [Nat.testBit_and, whM_bit hd, odm_bit hq' hd]
    have es := as_sum a q
    obtain ⟨g1, g2⟩ := asI_le a q 40
    refine b_X5_ask_19 ⟨fun c => ?_, fun _ => k1_openDays isLaws_32 hW hT (by omega) ?_⟩
    · rw [hB.1.2.2.1] at c
      have := le_of_nI (by omega) (by omega) c
      omega
    · rw [l_and]
      refine kJ_long (and_lt (n := 40) hM) (kJ_long hM ?_)
      have e3 : imax (nI (pc40 (whM a &&& odm a q))) (nI (pc40 (whM a)) - nI (pc40 (whM a &&& odm a q))) = nI (asC a q) := by
        rw [ei, pk_sub (by omega), show pc40 (whM a) - asI a q 40 = asN a q 40 by omega, imax_nI (by omega) (by omega)]
        rfl
      rw [e3, nI_1]
      unfold chR at h
      refine ⟨fun c => ?_, fun c => ⟨fun c2 => ?_, fun c2 => ?_⟩⟩
      · rw [if_pos c] at h
        exact ih (q + 1) _ _ (by omega) h
      · rw [if_neg c, if_pos c2] at h
        exact ih (q + 1) _ _ (by omega) h
      · rw [if_neg c, if_neg c2] at h
        exact ih (q + 1) _ _ (by omega) h
def akV (a : ab) : Int32 := (chR (asC a) (dd a) 0 (-1) 0).1
theorem c5_ask (hI : Inv0 a σ) (h : ∀ σ', Inv0 a σ' → K (akV a) σ') : M_X5_ask σ K :=
  b_X5_ask (k5_laws hI (fun s I T _ => c5_daysAsSeen I (fun s2 I2 T2 => l5_ask I2 T2 (dd a) 0 (-1) 0 (by omega) (h s2 I2))))
theorem l6_ask2 {q : Nat} {b l : Int32} (hI : Inv1 a σ) (hL : Laid1 a (-1) σ) (hq : q < dd a) (h : R_X6_askNow_120 σ K b l (nI q) (nI (asC a q))) : ∀ m d, d + m = 40 → R_X6_askNow_27 σ K b l (nI q) (nI (asI a q d)) (nI (asN a q d)) (nI d) := by
  have h8 := dd_le hI.1.1
  intro m
  induction m with
  | zero =>
    intro d hd
    have e : d = 40 := by omega
    subst e
    obtain ⟨g1, g2⟩ := asI_le a q 40
    refine b_X6_askNow_27 ⟨fun _ => ⟨fun c => ?_, fun c => ?_⟩, fun c => absurd (Int32.le_refl _) c⟩
    · have c := le_of_nI (by omega) (by omega) c
      have e : asC a q = asN a q 40 := by
        unfold asC
        split
        · rfl
        · omega
      rw [e] at h
      exact h
    · have c := nle_of_nI (by omega) (by omega) c
      have e : asC a q = asI a q 40 := by
        unfold asC
        rw [if_neg (by omega)]
      rw [e] at h
      exact h
  | succ m ih =>
    intro d hd
    have N := ih (d + 1) (by omega)
    have eI : asI a q (d + 1) = asI a q d + b2n (whB a d && (op a (-1) d).testBit q) := rfl
    have eN : asN a q (d + 1) = asN a q d + b2n (whB a d && !(op a (-1) d).testBit q) := rfl
    rw [eI, eN] at N
    have ob := sr_bit (m := op a (-1) d) (k := q) (by omega) (by have := op_small hI.1 (-1) d; omega)
    have s64 : ∀ t0 : Int32, t0 = nI (b2n (whB a d && (op a (-1) d).testBit q)) → R_X6_askNow_64 σ K b l (nI q) (nI (asN a q d)) (nI d) t0 (nI (asI a q d)) := by
      intro t0 ht
      refine b_X6_askNow_64 (k6_isWhen hI hL (by omega) ?_)
      rw [ht, nI_add, nI_1]
      refine ⟨fun c => ?_, fun c => ⟨d, rfl, by omega, ?_⟩⟩
      · have hb := b2n_0.mp c
        rw [hb] at N ⊢
        rw [show nI (asN a q d) + 0 = nI (asN a q d) from Int32.add_zero _]
        exact N
      · have hb : whB a d = true := by
          cases hq : whB a d with
          | true => rfl
          | false => rw [hq] at c; exact absurd rfl c
        rw [hL.opd (by omega), ob]
        refine ⟨fun c2 => ?_, fun c2 => ?_⟩
        · have hb2 : (op a (-1) d).testBit q = false := by
            cases hq2 : (op a (-1) d).testBit q with
            | false => rfl
            | true => rw [hq2] at c2; exact absurd rfl c2
          rw [hb, hb2] at N ⊢
          rw [nI_1]
          exact N
        · rw [hb, b2n_1.mp c2] at N ⊢
          rw [show nI (asN a q d) + 0 = nI (asN a q d) from Int32.add_zero _]
          exact N
    refine b_X6_askNow_27 ⟨fun c => ?_, fun _ => k6_isWhen hI hL (by omega) ⟨fun c => ?_, fun c => ⟨d, rfl, by omega, ?_⟩⟩⟩
    · have := le_of_nI (x := 40) (by decide) (by omega) c
      omega
    · exact s64 0 (by rw [b2n_0.mp c]; rfl)
    · have hb : whB a d = true := by
        cases hq : whB a d with
        | true => rfl
        | false => rw [hq] at c; exact absurd rfl c
      rw [hL.opd (by omega), ob]
      refine ⟨fun c2 => s64 0 ?_, fun c2 => s64 1 ?_⟩
      · have hb2 : (op a (-1) d).testBit q = false := by
          cases hq2 : (op a (-1) d).testBit q with
          | false => rfl
          | true => rw [hq2] at c2; exact absurd rfl c2
        rw [hb, hb2]; rfl
      · rw [hb, b2n_1.mp c2]; rfl
theorem l6_ask (hI : Inv1 a σ) (hL : Laid1 a (-1) σ) : ∀ m q b l, q + m = dd a → K (chR (asC a) m q b l).1 σ → R_X6_askNow_10 σ K b l (nI q) := by
  have h8 := dd_le hI.1.1
  intro m
  induction m with
  | zero =>
    intro q b l hq h
    have e : q = dd a := by omega
    subst e
    refine b_X6_askNow_10 ⟨fun _ => h, fun c => ?_⟩
    rw [hL.1.1] at c
    exact absurd (Int32.le_refl _) c
  | succ m ih =>
    intro q b l hq h
    unfold chR at h
    have old : (¬ b = -1) → l ≤ nI (asC a q) → R_X6_askNow_138 σ K b l (nI q) (nI (asC a q)) 0 := by
      intro c c2
      rw [if_neg c, if_pos c2] at h
      refine b_X6_askNow_138 ⟨fun _ => b_X6_askNow_150 ⟨fun _ => ?_, fun c => absurd rfl c⟩, fun c => absurd rfl c⟩
      rw [nI_1]
      exact ih (q + 1) _ _ (by omega) h
    have new : (b = -1 ∨ ¬ l ≤ nI (asC a q)) → R_X6_askNow_138 σ K b l (nI q) (nI (asC a q)) 1 := by
      intro c
      have h2 : K (chR (asC a) m (q + 1) (nI q) (nI (asC a q))).1 σ := by
        by_cases c0 : b = -1
        · rw [if_pos c0] at h; exact h
        · rw [if_neg c0, if_neg (by rcases c with c | c; exact absurd c c0; exact c)] at h; exact h
      refine b_X6_askNow_138 ⟨fun c => absurd c (by decide), fun _ => b_X6_askNow_150 ⟨fun c => absurd c (by decide), fun _ => ?_⟩⟩
      rw [nI_1]
      exact ih (q + 1) _ _ (by omega) h2
    refine b_X6_askNow_10 ⟨fun c => ?_, fun _ => l6_ask2 hI hL (by omega) ?_ 40 0 (by omega)⟩
    · rw [hL.1.1] at c
      have := le_of_nI (by omega) (by omega) c
      omega
    · exact b_X6_askNow_120 ⟨fun c => new (Or.inl c), fun c => ⟨fun c2 => old c c2, fun c2 => new (Or.inr c2)⟩⟩
theorem c6_ask (hI : Inv1 a σ) (h : ∀ σ', Inv1 a σ' → Read1 a σ' → K (akV a) σ') : M_X6_askNow σ K :=
  b_X6_askNow (k6_laysTold hI (fun s I L => l6_ask I L (dd a) 0 (-1) 0 (by omega) (h s I L.1)))
theorem p_ask (a : ab) (hW : WF a) : PI a (fun σ K => M_X5_ask σ K) (fun σ K => M_X6_ask σ K) :=
  ⟨akV a, a, fun σ K hI h => c5_ask hI h, fun σ K hI h => b_X6_ask (c6_ask hI (fun s I _ => h s I))⟩
end SEE
