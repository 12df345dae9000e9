/-! ===== the class: days of a deed, first days ===== -/
theorem Told.bit {a : ab} {w : Int32} {k d : Nat} {σ : r_St} (hT : Told a w k σ) (hd : d < 40) : σ.1 (k + 4) d = nI (op a w d) := (hT.2.2 d hd).2.2
theorem op_small {a : ab} (hW : WF a) (w : Int32) (d : Nat) : op a w d < 256 := bits_small (op_lt a w d) (dd_le hW.1)
theorem sE_small {a : ab} (hW : WF a) (w : Int32) (d : Nat) : sE a w d < 256 := bits_small (sE_lt a w d) (dd_le hW.1)
theorem sY_small {a : ab} (hW : WF a) (w : Int32) (d : Nat) : sY a w d < 256 := bits_small (sY_lt a w d) (dd_le hW.1)
theorem IN_day {d : Nat} (h : d < 40) : IN (nI d) 0 39 := (IN_iff (lo := 0) (hi := 39) (by decide) (by decide)).mpr ⟨d, by omega, by omega, rfl⟩
section DAY
variable {σ : r_St} {K : Int32 → r_St → Prop} {L : Int64 → r_St → Prop} {a : ab} {w : Int32} {k : Nat}
theorem k1_rulerOn {d : Nat} (hk : isLaws k) (hS : Seat a k σ) (hd : d < 40) (h : K (ruI (ru a d)) σ) : M_X1_rulerOn k σ K (nI d) :=
  b_X1_rulerOn hk ⟨fun _ => ⟨d, rfl, hd, by rw [hS d hd]; exact h⟩, fun c => absurd (IN_day hd) c⟩
theorem k1_openOn {d : Nat} (hk : isLaws k) (hT : Told a w k σ) (hd : d < 40) (h : K (nI (op a w d)) σ) : M_X1_openOn k σ K (nI d) :=
  b_X1_openOn hk ⟨fun _ => ⟨d, rfl, hd, by rw [hT.bit hd]; exact h⟩, fun c => absurd (IN_day hd) c⟩
theorem k1_said0 {d : Nat} (hk : isLaws k) (hT : Told a w k σ) (hd : d < 40) (h : K (nI (sE a w d)) σ) : M_X1_saidOn k σ K (nI d) 0 :=
  b_X1_saidOn hk ⟨fun _ => ⟨fun c => absurd rfl c, fun _ => ⟨d, rfl, hd, by rw [(hT.2.2 d hd).1]; exact h⟩⟩, fun c => absurd (IN_day hd) c⟩
theorem k1_said1 {d : Nat} (hk : isLaws k) (hT : Told a w k σ) (hd : d < 40) (h : K (nI (sY a w d)) σ) : M_X1_saidOn k σ K (nI d) 1 :=
  b_X1_saidOn hk ⟨fun _ => ⟨fun _ => ⟨d, rfl, hd, by rw [(hT.2.2 d hd).2.1]; exact h⟩, fun c => absurd c (by decide)⟩, fun c => absurd (IN_day hd) c⟩
def sK (a : ab) (w : Int32) (d q : Nat) : Nat := if q = 0 then sE a w d else sY a w d
theorem k1_said {d q : Nat} (hk : isLaws k) (hT : Told a w k σ) (hd : d < 40) (hq : q < 2) (h : K (nI (sK a w d q)) σ) : M_X1_saidOn k σ K (nI d) (nI q) := by
  rcases (show q = 0 ∨ q = 1 by omega) with rfl | rfl
  · exact k1_said0 hk hT hd h
  · exact k1_said1 hk hT hd h
/-- days on which a deed is allowed -/
def odm (a : ab) (q : Nat) : Nat := if q < dd a then mkb (fun d => (op a (-1) d).testBit q) 40 else 0
theorem odm_lt (a : ab) (q : Nat) : odm a q < 1099511627776 := by
  unfold odm
  split
  · exact mkb_lt _ 40
  · decide
theorem odm_bit {q d : Nat} (hq : q < dd a) (hd : d < 40) : (odm a q).testBit d = (op a (-1) d).testBit q := by
  unfold odm
  rw [if_pos hq, mkb_test hd]
theorem odm_out {q d : Nat} (hd : 40 ≤ d) : (odm a q).testBit d = false := by
  unfold odm
  split
  · exact mkb_out hd
  · simp
theorem l1_openDays {q : Nat} (hk : isLaws k) (hW : WF a) (hT : Told a (-1) k σ) (hq : q < dd a) (h : L (lN (odm a q)) σ) : ∀ m i, i + m = 40 → R_X1_openDays_21 k σ L (nI q) (lN (mkb (fun d => (op a (-1) d).testBit q) i)) (nI i) := by
  have h8 := dd_le hW.1
  intro m
  induction m with
  | zero =>
    intro i hi
    have e : i = 40 := by omega
    subst e
    refine b_X1_openDays_21 hk ⟨fun _ => ?_, fun c => absurd (Int32.le_refl _) c⟩
    unfold odm at h
    rw [if_pos hq] at h
    exact h
  | succ m ih =>
    intro i hi
    have ho := op_small hW (-1) i
    refine b_X1_openDays_21 hk ⟨fun c => ?_, fun _ => ⟨i, rfl, by omega, ?_⟩⟩
    · have := le_of_nI (x := 40) (by decide) (by omega) c
      omega
    · rw [hT.bit (by omega), iu_bit (by omega) (by omega), nI_l (by have := b2n_lt ((op a (-1) i).testBit q); omega), lsl_lN (by omega), l_or, nI_1]
      have e : mkb (fun d => (op a (-1) d).testBit q) i ||| b2n ((op a (-1) i).testBit q) * 2 ^ i = mkb (fun d => (op a (-1) d).testBit q) (i + 1) := by
        cases hb : (op a (-1) i).testBit q with
        | false => simp [b2n, mkb, hb]
        | true =>
          simp only [b2n, if_true, Nat.one_mul]
          rw [mkb_or]
          simp [mkb, hb]
      rw [e]
      exact ih (i + 1) (by omega)
theorem k1_openDays {q : Nat} (hk : isLaws k) (hW : WF a) (hT : Told a (-1) k σ) (hq : q < 8) (h : L (lN (odm a q)) σ) : M_X1_openDays k σ L (nI q) := by
  have h8 := dd_le hW.1
  refine b_X1_openDays hk ⟨fun c => ?_, fun c => ?_⟩
  · rw [hT.1] at c
    obtain ⟨j, j1, j2⟩ := (IN_lt_iff (by omega)).mp c
    have := nI_inj (by omega) (by omega) j2
    exact l1_openDays hk hW hT (by omega) h 40 0 (by omega)
  · rw [hT.1] at c
    have hn : ¬ q < dd a := fun hq => c ((IN_lt_iff (by omega)).mpr ⟨q, hq, rfl⟩)
    unfold odm at h
    rw [if_neg hn] at h
    exact h
/-- from which days on for so many more -/
def stD (M : Nat) : Nat → Nat
  | 0 => M
  | n + 1 => stD M n &&& M / 2 ^ (n + 1)
theorem stD_le (M n : Nat) : stD M n ≤ M := by
  induction n with
  | zero => exact Nat.le_refl _
  | succ n ih => exact Nat.le_trans Nat.and_le_left ih
theorem stD_bit (M n d : Nat) : (stD M n).testBit d = true ↔ ∀ i, i ≤ n → M.testBit (d + i) = true := by
  induction n with
  | zero =>
    constructor
    · intro h i hi
      have : i = 0 := by omega
      subst this; exact h
    · intro h; exact h 0 (by omega)
  | succ n ih =>
    unfold stD
    rw [Nat.testBit_and, Nat.testBit_div_two_pow, Bool.and_eq_true, ih]
    constructor
    · rintro ⟨h1, h2⟩ i hi
      rcases (show i ≤ n ∨ i = n + 1 by omega) with q | q
      · exact h1 i q
      · subst q
        exact h2
    · intro h
      refine ⟨fun i hi => h i (by omega), ?_⟩
      exact h (n + 1) (by omega)
theorem l1_startDays {M n : Nat} (hk : isLaws k) (hM : M < 1099511627776) (hn : n ≤ 40) (h : L (lN (stD M n)) σ) : ∀ m i, i + m = n → R_X1_startDays_12 k σ L (nI (n + 1)) (lN M) (lN (stD M i)) (nI (i + 1)) := by
  intro m
  induction m with
  | zero =>
    intro i hi
    have e : i = n := by omega
    subst e
    exact b_X1_startDays_12 hk ⟨fun _ => h, fun c => absurd (Int32.le_refl _) c⟩
  | succ m ih =>
    intro i hi
    refine b_X1_startDays_12 hk ⟨fun c => ?_, fun _ => ?_⟩
    · have := le_of_nI (by omega) (by omega) c
      omega
    · rw [lu_lN (by omega) (by omega), l_and, nI_1]
      exact ih (i + 1) (by omega)
theorem k1_startDays {q n : Nat} (hk : isLaws k) (hW : WF a) (hT : Told a (-1) k σ) (hq : q < 8) (hn : n ≤ 40) (h : L (lN (stD (odm a q) n)) σ) : M_X1_startDays k σ L (nI q) (nI (n + 1)) :=
  b_X1_startDays hk (k1_openDays hk hW hT hq (l1_startDays hk (odm_lt a q) hn h n 0 (by omega)))
/-- the first day from one on -/
def fdR (M : Nat) : Nat → Nat → Int32
  | 0, _ => -1
  | m + 1, d => if M.testBit d then nI d else fdR M m (d + 1)
theorem fdR_none {M : Nat} : ∀ m d, (∀ i, d ≤ i → i < d + m → M.testBit i = false) → fdR M m d = -1 := by
  intro m
  induction m with
  | zero => intro d _; rfl
  | succ m ih =>
    intro d h
    unfold fdR
    rw [h d (by omega) (by omega)]
    exact ih (d + 1) (fun i h1 h2 => h i (by omega) (by omega))
theorem fdR_cases {M : Nat} : ∀ m d, (fdR M m d = -1 ∧ ∀ i, d ≤ i → i < d + m → M.testBit i = false) ∨ ∃ i, d ≤ i ∧ i < d + m ∧ M.testBit i = true ∧ (∀ j, d ≤ j → j < i → M.testBit j = false) ∧ fdR M m d = nI i := by
  intro m
  induction m with
  | zero => intro d; exact Or.inl ⟨rfl, fun i h1 h2 => by omega⟩
  | succ m ih =>
    intro d
    unfold fdR
    cases hb : M.testBit d with
    | true => exact Or.inr ⟨d, by omega, by omega, hb, fun j h1 h2 => by omega, rfl⟩
    | false =>
      simp only [Bool.false_eq_true, if_false]
      rcases ih (d + 1) with ⟨h1, h2⟩ | ⟨i, h1, h2, h3, h4, h5⟩
      · refine Or.inl ⟨h1, fun i g1 g2 => ?_⟩
        rcases (show i = d ∨ d + 1 ≤ i by omega) with q | q
        · subst q; exact hb
        · exact h2 i q (by omega)
      · refine Or.inr ⟨i, by omega, by omega, h3, fun j g1 g2 => ?_, h5⟩
        rcases (show j = d ∨ d + 1 ≤ j by omega) with q | q
        · subst q; exact hb
        · exact h4 j q g2
theorem l5_firstDay {M : Nat} (hM : M < 9223372036854775808) : ∀ m d, d + m = 40 → K (fdR M m d) σ → R_X5_firstDay_2 σ K (lN M) (nI d) := by
  intro m
  induction m with
  | zero =>
    intro d hd h
    have e : d = 40 := by omega
    subst e
    exact b_X5_firstDay_2 ⟨fun _ => h, fun c => absurd (Int32.le_refl _) c⟩
  | succ m ih =>
    intro d hd h
    unfold fdR at h
    refine b_X5_firstDay_2 ⟨fun c => ?_, fun _ => ⟨fun c => ?_, fun c => ?_⟩⟩
    · have := le_of_nI (x := 40) (by decide) (by omega) c
      omega
    · have hb : M.testBit d = false := by
        cases hq : M.testBit d with
        | false => rfl
        | true => exact absurd ((hold_iff (by omega) hM).mpr hq) c
      rw [hb] at h
      rw [nI_1]
      exact ih (d + 1) (by omega) h
    · rw [(hold_iff (by omega) hM).mp c] at h
      exact h
theorem k5_firstDay {M d : Nat} (hM : M < 9223372036854775808) (hd : d ≤ 40) (h : K (fdR M (40 - d) d) σ) : M_X5_firstDay σ K (lN M) (nI d) := b_X5_firstDay (l5_firstDay hM (40 - d) d (by omega) h)
end DAY
/-! ===== the reference: firstFor ===== -/
section RDY
variable {σ : r_St} {K : Int32 → r_St → Prop} {a : ab}
theorem Laid1.opd {w : Int32} {d : Nat} (h : Laid1 a w σ) (hd : d < 40) : σ.1 16 d = nI (op a w d) := (h.2 d hd).2.2.2
theorem l6_firstFor2 {q n d : Nat} (hW : WF a) (hL : Laid1 a (-1) σ) (hq : q < dd a) (hn : 1 ≤ n) (hd : d + n ≤ 40)
    (h1 : (∀ i, i < n → (op a (-1) (d + i)).testBit q = true) → K (nI d) σ) (h0 : ¬ (∀ i, i < n → (op a (-1) (d + i)).testBit q = true) → R_X6_firstFor_3 σ K (nI q) (nI n) (nI d + 1)) :
    ∀ m i, i + m = n → ∀ b : Bool, (b = true ↔ ∀ j, j < i → (op a (-1) (d + j)).testBit q = true) → R_X6_firstFor_26 σ K (nI q) (nI n) (nI d) (nI (b2n b)) (nI i) := by
  have h8 := dd_le hW.1
  intro m
  induction m with
  | zero =>
    intro i hi b hb
    have e : i = n := by omega
    subst e
    refine b_X6_firstFor_26 ⟨fun _ => ⟨fun c => h0 (fun q => ?_), fun c => h1 (hb.mp ?_)⟩, fun c => absurd (Int32.le_refl _) c⟩
    · have := b2n_0.mp c
      rw [hb.mpr q] at this
      cases this
    · cases b
      · exact absurd rfl c
      · rfl
  | succ m ih =>
    intro i hi b hb
    have step : ∀ b2 : Bool, ∀ v : Int32, v = nI (b2n b2) → (b2 = true ↔ (b = true ∧ (op a (-1) (d + i)).testBit q = true)) → R_X6_firstFor_26 σ K (nI q) (nI n) (nI d) v (nI i + 1) := by
      intro b2 v hv h2
      rw [nI_1, hv]
      refine ih (i + 1) (by omega) b2 ?_
      rw [h2, hb]
      constructor
      · rintro ⟨g1, g2⟩ j hj
        rcases (show j < i ∨ j = i by omega) with q | q
        · exact g1 j q
        · subst q; exact g2
      · intro g; exact ⟨fun j hj => g j (by omega), g i (by omega)⟩
    refine b_X6_firstFor_26 ⟨fun c => ?_, fun _ => ⟨fun c => ?_, fun c => ⟨d + i, nI_add _ _, by omega, ?_⟩⟩⟩
    · have := le_of_nI (by omega) (by omega) c
      omega
    · have : b = false := b2n_0.mp c
      exact step false 0 rfl (by simp [this])
    · have hbt : b = true := by
        cases b
        · exact absurd rfl c
        · rfl
      rw [hL.opd (by omega), sr_bit (by omega) (by have := op_small hW (-1) (d + i); omega)]
      refine ⟨fun c2 => step false 0 rfl ?_, fun c2 => step true 1 rfl ?_⟩
      · have : (op a (-1) (d + i)).testBit q = false := by
          cases hq2 : (op a (-1) (d + i)).testBit q with
          | false => rfl
          | true => rw [hq2] at c2; exact absurd rfl c2
        simp [this]
      · simp [hbt, b2n_1.mp c2]
theorem st_iff {q n d : Nat} (hq : q < dd a) (hn : 1 ≤ n) (hd : d + n ≤ 40) : (stD (odm a q) (n - 1)).testBit d = true ↔ ∀ i, i < n → (op a (-1) (d + i)).testBit q = true := by
  rw [stD_bit]
  constructor
  · intro h i hi
    rw [← odm_bit hq (by omega)]
    exact h i (by omega)
  · intro h i hi
    rw [odm_bit hq (by omega)]
    exact h i (by omega)
theorem st_out {q n d : Nat} (hn : 1 ≤ n) (hd : 40 < d + n) : (stD (odm a q) (n - 1)).testBit d = false := by
  cases h : (stD (odm a q) (n - 1)).testBit d with
  | false => rfl
  | true =>
    have := (stD_bit _ _ _).mp h (n - 1) (by omega)
    rw [odm_out (by omega)] at this
    cases this
theorem l6_firstFor {q n : Nat} (hW : WF a) (hL : Laid1 a (-1) σ) (hq : q < 8) (hn : 1 ≤ n) (hn9 : n ≤ 9) : ∀ m d, d + m = 40 → K (fdR (stD (odm a q) (n - 1)) m d) σ → R_X6_firstFor_3 σ K (nI q) (nI n) (nI d) := by
  have h8 := dd_le hW.1
  intro m
  induction m with
  | zero =>
    intro d hd h
    refine b_X6_firstFor_3 ⟨fun _ => h, fun c => ?_⟩
    rw [nI_add] at c
    exact absurd (nI_lt (a := 40) (by omega) (by omega)) c
  | succ m ih =>
    intro d hd h
    refine b_X6_firstFor_3 ⟨fun c => ?_, fun c => ⟨fun c2 => ?_, fun c2 => ?_⟩⟩
    · rw [nI_add] at c
      have c := lt_of_nI (x := 40) (by decide) (by omega) c
      rw [fdR_none _ _ (fun i h1 h2 => st_out hn (by omega))] at h
      exact h
    · rw [hL.1.1] at c2
      have c2 := le_of_nI (by omega) (by omega) c2
      have e : odm a q = 0 := by unfold odm; rw [if_neg (by omega)]
      rw [fdR_none _ _ (fun i h1 h2 => ?_)] at h
      · exact h
      · have : stD (odm a q) (n - 1) = 0 := by
          have := stD_le (odm a q) (n - 1)
          omega
        rw [this]
        simp
    · rw [hL.1.1] at c2
      have c2 := nle_of_nI (by omega) (by omega) c2
      rw [nI_add] at c
      have c := nlt_of_nI (x := 40) (by decide) (by omega) c
      unfold fdR at h
      refine l6_firstFor2 hW hL c2 hn c (fun g => ?_) (fun g => ?_) n 0 (by omega) true (by simp)
      · rw [(st_iff c2 hn c).mpr g] at h
        exact h
      · have : (stD (odm a q) (n - 1)).testBit d = false := by
          cases hq2 : (stD (odm a q) (n - 1)).testBit d with
          | false => rfl
          | true => exact absurd ((st_iff c2 hn c).mp hq2) g
        rw [this] at h
        rw [nI_1]
        exact ih (d + 1) (by omega) h
theorem k6_firstFor {q n d : Nat} (hW : WF a) (hL : Laid1 a (-1) σ) (hq : q < 8) (hn : 1 ≤ n) (hn9 : n ≤ 9) (hd : d ≤ 40) (h : K (fdR (stD (odm a q) (n - 1)) (40 - d) d) σ) : M_X6_firstFor σ K (nI q) (nI n) (nI d) :=
  b_X6_firstFor (l6_firstFor hW hL hq hn hn9 (40 - d) d (by omega) h)
end RDY
