/-! ===== chance (pf_ rows: pasted from the kit's BITS) ===== -/
theorem pf_lI {a : Nat} (h : a < 2 ^ 63) : (lN a).toInt = (a : Int) := lg_ofNat_toInt h
theorem pf_shr {a d : Nat} {D : Int64} (hD : (D.toBitVec.smod 64).toNat = d) (h : a < 2 ^ 62) : lN a >>> D = lN (a / 2 ^ d) := by
  have hd : a / 2 ^ d ≤ a := Nat.div_le_self _ _
  apply Int64.toInt_inj.mp
  have e : (lN a >>> D).toInt = (lN a).toInt >>> d := by
    rw [← hD]
    exact BitVec.toInt_sshiftRight ..
  rw [e, Int.shiftRight_eq_div_pow, pf_lI (by omega), pf_lI (by omega)]
  rfl

theorem lsr_1 {x : Nat} (h : x < 4611686018427387904) : lsr (lN x) 1 = lN (x / 2) := by
  unfold lsr
  have := pf_shr (a := x) (d := 1) (D := (1 : Int32).toInt64 &&& 63) (by decide) h
  rw [Nat.pow_one] at this
  exact this
/-- in lowest terms: above (w = 0), below -/
def ltV (A B w : Nat) : Nat := if w = 0 then A / Nat.gcd A B else B / Nat.gcd A B
theorem gcd_half {A B : Nat} : Nat.gcd (2 * A) (2 * B) = 2 * Nat.gcd A B := Nat.gcd_mul_left 2 A B
theorem ltV_half {A B w : Nat} (hB : 0 < B) : ltV (2 * A) (2 * B) w = ltV A B w := by
  have hg : 0 < Nat.gcd A B := Nat.gcd_pos_of_pos_right _ hB
  unfold ltV
  rw [gcd_half]
  split
  · exact Nat.mul_div_mul_left _ _ (by decide)
  · exact Nat.mul_div_mul_left _ _ (by decide)
theorem odd_pow {A : Nat} (h : A % 2 = 1) : ∀ e, Nat.gcd A (2 ^ e) = 1 := by
  have h2 : Nat.Coprime A 2 := by
    show Nat.gcd A 2 = 1
    rw [Nat.gcd_comm, Nat.gcd_rec, h]
    decide
  intro e
  induction e with
  | zero => rw [Nat.pow_zero]; exact Nat.gcd_one_right A
  | succ e ih =>
    rw [Nat.pow_succ]
    exact Nat.Coprime.mul_right ih h2
theorem l_even {x : Nat} : lg_cmp (lN x &&& 1) 0 = 0 ↔ x % 2 = 0 := by
  rw [l_and1]
  rcases Nat.mod_two_eq_zero_or_one x with h | h <;> rw [h] <;> decide
section CHC
variable {σ : r_St} {K : Int32 → r_St → Prop} {L : Int64 → r_St → Prop} {a : ab}
theorem l5_low {w : Nat} (hw : w < 2) : ∀ e A k, k + e ≤ 61 → A < 4611686018427387904 → L (lN (ltV A (2 ^ e) w)) σ → R_X5_inLowestTerms_9 σ L (nI w) (lN A) (lN (2 ^ e)) (nI k) := by
  have fin : ∀ A B, Nat.gcd A B = 1 → L (lN (ltV A B w)) σ → R_X5_inLowestTerms_52 σ L (nI w) (lN A) (lN B) := by
    intro A B hg h
    unfold ltV at h
    rw [hg, Nat.div_one, Nat.div_one] at h
    refine b_X5_inLowestTerms_52 ⟨fun c => ?_, fun c => ?_⟩
    · rw [if_neg (fun q => c (by rw [q]; rfl))] at h
      exact h
    · rw [if_pos (nI_inj (b := 0) (by omega) (by decide) c)] at h
      exact h
  intro e
  induction e with
  | zero =>
    intro A k hk hA h
    have f := fin A (2 ^ 0) (Nat.gcd_one_right A) h
    refine b_X5_inLowestTerms_9 ⟨fun _ => f, fun _ => ⟨fun _ => f, fun _ => ⟨fun _ => f, fun c => absurd c (by decide)⟩⟩⟩
  | succ e ih =>
    intro A k hk hA h
    have hp := Nat.two_pow_pos e
    refine b_X5_inLowestTerms_9 ⟨fun c => ?_, fun _ => ⟨fun c => ?_, fun c => ⟨fun c2 => ?_, fun _ => ?_⟩⟩⟩
    · have := le_of_nI (x := 62) (by decide) (by omega) c
      omega
    · have hodd : A % 2 = 1 := by
        rcases Nat.mod_two_eq_zero_or_one A with q | q
        · exact absurd (l_even.mpr q) c
        · exact q
      exact fin A _ (odd_pow hodd _) h
    · refine absurd (l_even.mpr ?_) c2
      rw [Nat.pow_succ]
      omega
    · have hev := l_even.mp c
      have h62 : 2 ^ (e + 1) < 4611686018427387904 := Nat.lt_of_lt_of_le (Nat.pow_lt_pow_right (by decide) (show e + 1 < 62 by omega)) (by decide)
      rw [lsr_1 hA, lsr_1 h62, nI_1]
      have e2 : 2 ^ (e + 1) / 2 = 2 ^ e := by rw [Nat.pow_succ]; omega
      rw [e2]
      refine ih (A / 2) (k + 1) (by omega) (by omega) ?_
      have e3 := ltV_half (A := A / 2) (B := 2 ^ e) (w := w) hp
      rw [show 2 * (A / 2) = A by omega, show 2 * 2 ^ e = 2 ^ (e + 1) by rw [Nat.pow_succ]; omega] at e3
      rw [e3] at h
      exact h
theorem k5_low {A e w : Nat} (hw : w < 2) (he : e ≤ 48) (hA : A < 4611686018427387904) (h : L (lN (ltV A (2 ^ e) w)) σ) : M_X5_inLowestTerms σ L (lN A) (lN (2 ^ e)) (nI w) :=
  b_X5_inLowestTerms (l5_low hw e A 0 (by omega) hA h)
theorem l6_low {A B w : Nat} (hw : w < 2) (hB : 0 < B) (hA63 : A < 9223372036854775808) (hB63 : B < 9223372036854775808) (h : L (lN (ltV A B w)) σ) : ∀ n y x, y < n → x < 9223372036854775808 → y < 9223372036854775808 → Nat.gcd x y = Nat.gcd A B → R_X6_lowest_6 σ L (lN A) (lN B) (nI w) (lN x) (lN y) := by
  have gp : 0 < Nat.gcd A B := Nat.gcd_pos_of_pos_right _ hB
  intro n
  induction n with
  | zero => intro y x hy; exact absurd hy (Nat.not_lt_zero _)
  | succ n ih =>
    intro y x hy hx hy63 hg
    have c0 : lg_cmp (lN y) 0 = 0 ↔ y = 0 := by
      constructor
      · intro c
        rcases Nat.eq_zero_or_pos y with q | q
        · exact q
        · have g := (l_cmp (x := lN y) (y := lN 0)).1.mpr ((pk_lLT (by decide) hy63).mpr q)
          have c' : lg_cmp (lN y) (lN 0) = 0 := c
          rw [c'] at g
          exact absurd g (by decide)
      · intro e; subst e; decide
    refine b_X6_lowest_6 ⟨fun c => ?_, fun c => ?_⟩
    · have c := c0.mp c
      subst c
      rw [Nat.gcd_zero_right] at hg
      have hxp : 0 < x := by omega
      have hne : ¬ lN x = 0 := fun q => by
        have := (pk_lEQ hx (show 0 < 2 ^ 63 by decide)).mp q
        omega
      unfold ltV at h
      rw [← hg] at h
      refine ⟨fun c => ⟨hne, ?_⟩, fun c => ⟨hne, ?_⟩⟩
      · rw [if_neg (fun q => c (by rw [q]; rfl))] at h
        rw [pk_lDiv hB63 hxp hx]
        exact h
      · rw [if_pos (nI_inj (b := 0) (by omega) (by decide) c)] at h
        rw [pk_lDiv hA63 hxp hx]
        exact h
    · have c : ¬ y = 0 := fun q => c (c0.mpr q)
      have hyp : 0 < y := by omega
      refine ⟨fun q => c ((pk_lEQ hy63 (show 0 < 2 ^ 63 by decide)).mp q), ?_⟩
      have e : lrm (lN x) (lN y) = lN (x % y) := pk_lRem hx hyp hy63
      rw [e]
      have hm := Nat.mod_lt x hyp
      refine ih (x % y) y (by omega) hy63 (by omega) ?_
      rw [← hg, Nat.gcd_comm x y, Nat.gcd_rec y x, Nat.gcd_comm]
theorem k6_low {A B w : Nat} (hw : w < 2) (hB : 0 < B) (hA63 : A < 9223372036854775808) (hB63 : B < 9223372036854775808) (h : L (lN (ltV A B w)) σ) : M_X6_lowest σ L (lN A) (lN B) (nI w) :=
  b_X6_lowest (l6_low hw hB hA63 hB63 h (B + 1) B A (by omega) hA63 hB63 rfl)
/-- by how many 256ths -/
def cvV (a : ab) (d q c : Nat) : Nat := if leapB a d then 256 * (b2n ((sE a (-1) d).testBit q) * b2n ((sY a (-1) d).testBit q)) else if d % 7 = 6 then 256 else 16 * (16 - c) * b2n ((sK a (-1) d (d % 2)).testBit q) + c * (16 - c) * b2n ((sK a (-1) d (1 - d % 2)).testBit q) + c * c
theorem cv_le (d q : Nat) {c : Nat} (hc : c ≤ 16) : cvV a d q c ≤ 256 := by
  have all : ∀ c, c ≤ 16 → 16 * (16 - c) + c * (16 - c) + c * c ≤ 256 := by decide
  have h := all c hc
  unfold cvV
  split
  · cases (sE a (-1) d).testBit q <;> cases (sY a (-1) d).testBit q <;> decide
  · split
    · omega
    · cases (sK a (-1) d (d % 2)).testBit q <;> cases (sK a (-1) d (1 - d % 2)).testBit q <;> simp only [b2n, if_true, if_false, Bool.false_eq_true, Nat.mul_one, Nat.mul_zero] <;> omega
theorem ru_leap {d : Nat} : ru a d = 2 ↔ leapB a d = true := by
  unfold ru
  cases leapB a d with
  | true => simp
  | false =>
    simp only [Bool.false_eq_true, if_false, iff_false]
    intro h
    have hm : d % 2 < 2 := Nat.mod_lt _ (by decide)
    split at h
    · omega
    · split at h
      · split at h <;> omega
      · omega
theorem b2n_and (x y : Bool) : b2n (x && y) = b2n x * b2n y := by cases x <;> cases y <;> rfl
theorem k1_open256 {d q c : Nat} (hW : WF a) (hT : Told a (-1) 32 σ) (hd : d < 40) (hq : q < 8) (hc : c ≤ 16) (h : K (nI (cvV a d q c)) σ) : M_X1_openIn256 32 σ K (nI d) (nI q) (nI c) := by
  have hr := ru_le a d
  have hm : d % 2 < 2 := Nat.mod_lt _ (by decide)
  have e1 : (1 : Int32) - nI (d % 2) = nI (1 - d % 2) := pk_sub (a := 1) (by omega)
  unfold cvV at h
  refine b_X1_openIn256 isLaws_32 (k1_rulerOn isLaws_32 hT.2.1 hd ⟨fun c1 => ⟨fun c2 => ?_, fun c2 => ?_⟩, fun c1 => k1_openOn isLaws_32 hT hd ?_⟩)
  · have hl : leapB a d = false := by
      cases hq2 : leapB a d with
      | false => rfl
      | true => exact absurd ((ruI_2 hr).mpr (ru_leap.mpr hq2)) c1
    rw [rm_7 (by omega)] at c2
    have c7 : ¬ d % 7 = 6 := fun q => c2 (by rw [q]; rfl)
    rw [hl, if_neg (by decide), if_neg c7] at h
    refine k1_kingInTurn (by omega) (k1_said isLaws_32 hT hd hm ?_)
    rw [e1]
    refine k1_said isLaws_32 hT hd (by omega) ?_
    have s0 : ∀ q2, sK a (-1) d q2 < 256 := fun q2 => by unfold sK; split; exact sE_small hW _ _; exact sY_small hW _ _
    rw [iu_bit (by omega) (by have := s0 (d % 2); omega), iu_bit (by omega) (by have := s0 (1 - d % 2); omega), show (16 : Int32) - nI c = nI (16 - c) from pk_sub (a := 16) hc, show (16 : Int32) = nI 16 from rfl, pk_mul, pk_mul, pk_mul, pk_mul, pk_mul, nI_add, nI_add]
    exact h
  · have hl : leapB a d = false := by
      cases hq2 : leapB a d with
      | false => rfl
      | true => exact absurd ((ruI_2 hr).mpr (ru_leap.mpr hq2)) c1
    rw [rm_7 (by omega)] at c2
    rw [hl, if_neg (by decide), if_pos (nI_inj (b := 6) (by omega) (by decide) c2)] at h
    exact h
  · have r2 := (ruI_2 hr).mp c1
    have hl := ru_leap.mp r2
    rw [hl, if_pos rfl, ← b2n_and] at h
    have eo : op a (-1) d = sE a (-1) d &&& sY a (-1) d := by
      unfold op opn
      rw [r2]; rfl
    rw [iu_bit (by omega) (by have := op_small hW (-1) d; omega), show (256 : Int32) = nI 256 from rfl, pk_mul, eo, Nat.testBit_and]
    exact h
theorem k6_chanceOn {d q c : Nat} (hI : Inv1 a σ) (hL : Laid1 a (-1) σ) (hd : d < 40) (hq : q < 8) (hc : c ≤ 16) (h : K (nI (cvV a d q c)) σ) : M_X6_chanceOn σ K (nI c) (nI d) (nI q) := by
  have hW := hI.1
  have hm : d % 2 < 2 := Nat.mod_lt _ (by decide)
  unfold cvV at h
  refine b_X6_chanceOn ⟨d, rfl, by omega, 40 + d, nI_add 40 d, by omega, k6_isLeap hI hd ?_⟩
  rw [(hL.2 d hd).2.1, (hL.2 d hd).2.2.1, sr_bit (by omega) (by have := sE_small hW (-1) d; omega), sr_bit (by omega) (by have := sY_small hW (-1) d; omega), rm_7 (by omega), rm_2 (by omega)]
  have fin86 : ∀ x y : Nat, K (nI (x * 16 * (16 - c) + y * c * (16 - c) + c * c)) σ → R_X6_chanceOn_86 σ K (nI c) (nI x) (nI y) := by
    intro x y hh
    refine b_X6_chanceOn_86 ?_
    rw [show (16 : Int32) - nI c = nI (16 - c) from pk_sub (a := 16) hc, show (16 : Int32) = nI 16 from rfl, pk_mul, pk_mul, pk_mul, pk_mul, pk_mul, nI_add, nI_add]
    exact hh
  refine ⟨fun c1 => ⟨fun c2 => ⟨fun c3 => ?_, fun c3 => ?_⟩, fun c2 => ?_⟩, fun c1 => ?_⟩
  · have hl := b2n_0.mp c1
    have c7 : ¬ d % 7 = 6 := fun q => c2 (by rw [q]; rfl)
    have e1 : d % 2 = 1 := by
      rcases (show d % 2 = 0 ∨ d % 2 = 1 by omega) with g | g
      · exact absurd (by rw [g]; rfl) c3
      · exact g
    rw [hl, if_neg (by decide), if_neg c7, e1] at h
    refine b_X6_chanceOn_71 ?_
    rw [rm_2 (by omega), e1]
    refine ⟨fun _ => fin86 _ _ ?_, fun g => absurd g (by decide)⟩
    have e9 : b2n ((sY a (-1) d).testBit q) * 16 * (16 - c) + b2n ((sE a (-1) d).testBit q) * c * (16 - c) + c * c = 16 * (16 - c) * b2n ((sK a (-1) d 1).testBit q) + c * (16 - c) * b2n ((sK a (-1) d (1 - 1)).testBit q) + c * c := by
      show _ = 16 * (16 - c) * b2n ((sY a (-1) d).testBit q) + c * (16 - c) * b2n ((sE a (-1) d).testBit q) + c * c
      cases (sE a (-1) d).testBit q <;> cases (sY a (-1) d).testBit q <;> simp [b2n]
    rw [e9]
    exact h
  · have hl := b2n_0.mp c1
    have c7 : ¬ d % 7 = 6 := fun q => c2 (by rw [q]; rfl)
    have e1 := nI_inj (b := 0) (by omega) (by decide) c3
    rw [hl, if_neg (by decide), if_neg c7, e1] at h
    refine b_X6_chanceOn_71 ?_
    rw [rm_2 (by omega), e1]
    refine ⟨fun g => absurd rfl g, fun _ => fin86 _ _ ?_⟩
    have e9 : b2n ((sE a (-1) d).testBit q) * 16 * (16 - c) + b2n ((sY a (-1) d).testBit q) * c * (16 - c) + c * c = 16 * (16 - c) * b2n ((sK a (-1) d 0).testBit q) + c * (16 - c) * b2n ((sK a (-1) d (1 - 0)).testBit q) + c * c := by
      show _ = 16 * (16 - c) * b2n ((sE a (-1) d).testBit q) + c * (16 - c) * b2n ((sY a (-1) d).testBit q) + c * c
      cases (sE a (-1) d).testBit q <;> cases (sY a (-1) d).testBit q <;> simp [b2n]
    rw [e9]
    exact h
  · have hl := b2n_0.mp c1
    rw [hl, if_neg (by decide), if_pos (nI_inj (b := 6) (by omega) (by decide) c2)] at h
    exact h
  · have hl : leapB a d = true := by
      cases hq2 : leapB a d with
      | true => rfl
      | false => rw [hq2] at c1; exact absurd rfl c1
    rw [hl, if_pos rfl] at h
    rw [show (256 : Int32) = nI 256 from rfl, pk_mul, pk_mul, Nat.mul_assoc]
    exact h
def prV (a : ab) (d q c : Nat) : Nat → Nat
  | 0 => 1
  | n + 1 => prV a d q c n * cvV a (d + n) q c
theorem pr_le (d q : Nat) {c : Nat} (hc : c ≤ 16) (n : Nat) : prV a d q c n ≤ 256 ^ n := by
  induction n with
  | zero => exact Nat.le_refl _
  | succ n ih =>
    unfold prV
    rw [Nat.pow_succ]
    exact Nat.mul_le_mul ih (cv_le _ _ hc)
theorem p48 {n : Nat} (h : n ≤ 6) : (256 : Nat) ^ n = 2 ^ (8 * n) ∧ (256 : Nat) ^ n ≤ 281474976710656 := by
  constructor
  · rw [Nat.pow_mul]
  · have := Nat.pow_le_pow_right (n := 256) (by decide) h
    have e : (256 : Nat) ^ 6 = 281474976710656 := by decide
    omega
def caV (a : ab) (c d q n w : Nat) : Int64 := lN (ltV (prV a d q c n) (256 ^ n) w)
theorem l5_chance {c d q n w : Nat} (hI : Inv0 a σ) (hT : Told a (-1) 32 σ) (hc : c ≤ 16) (hd : d + n ≤ 40) (hq : q < 8) (hn : n ≤ 6) (hw : w < 2) (h : L (caV a c d q n w) σ) : ∀ m i, i + m = n → R_X5_chance_80 σ L (nI c) (nI d) (nI q) (nI n) (nI w) (lN (prV a d q c i)) (lN (256 ^ i)) (nI (d + i)) := by
  intro m
  induction m with
  | zero =>
    intro i hi
    have e : i = n := by omega
    subst e
    obtain ⟨p1, p2⟩ := p48 hn
    have hp := pr_le (a := a) d q hc i
    refine b_X5_chance_80 ⟨fun _ => ?_, fun c => ?_⟩
    · unfold caV at h
      rw [p1] at h ⊢
      exact k5_low hw (by omega) (by omega) h
    · rw [nI_add] at c
      exact absurd (Int32.le_refl _) c
  | succ m ih =>
    intro i hi
    refine b_X5_chance_80 ⟨fun c => ?_, fun _ => k1_open256 hI.1 hT (by omega) hq hc ?_⟩
    · rw [nI_add] at c
      have := le_of_nI (by omega) (by omega) c
      omega
    · have hv := cv_le (a := a) (d + i) q hc
      rw [nI_l (by omega), lN_mul, show (256 : Int64) = lN 256 from rfl, lN_mul, ← Nat.pow_succ, nI_1]
      exact ih (i + 1) (by omega)
theorem c5_chance {c d q n w : Nat} (hI : Inv0 a σ) (hc : c ≤ 16) (hd : d < 40) (hd2 : d + n ≤ 40) (hq : q < dd a) (hn1 : 1 ≤ n) (hn : n ≤ 6) (hw : w < 2) (h : ∀ σ', Inv0 a σ' → L (caV a c d q n w) σ') : M_X5_chance σ L (nI c) (nI d) (nI q) (nI n) (nI w) := by
  have h8 := dd_le hI.1.1
  have e5 : nI d + nI n - 1 = nI (d + n - 1) := by rw [nI_add]; exact pk_sub (b := 1) (by omega)
  refine b_X5_chance ⟨fun _ => ⟨fun _ => ⟨fun _ => ⟨fun _ => ⟨fun _ => ⟨fun _ => k5_laws hI (fun s I T _ => l5_chance I T hc hd2 (by omega) hn hw (h s I) n 0 (by omega)), fun g => absurd ((IN_iff (lo := 0) (hi := 1) (by decide) (by decide)).mpr ⟨w, by omega, by omega, rfl⟩) g⟩, fun g => absurd (by rw [e5]; exact IN_day (by omega)) g⟩, fun g => absurd ((IN_iff (lo := 1) (hi := 6) (by decide) (by decide)).mpr ⟨n, hn1, hn, rfl⟩) g⟩, fun g => absurd (is_deed hI hq) g⟩, fun g => absurd (IN_day hd) g⟩, fun g => absurd ((IN_iff (lo := 0) (hi := 16) (by decide) (by decide)).mpr ⟨c, by omega, hc, rfl⟩) g⟩
theorem l6_chance {c d q n w : Nat} (hI : Inv1 a σ) (hL : Laid1 a (-1) σ) (hc : c ≤ 16) (hd : d + n ≤ 40) (hq : q < 8) (hn : n ≤ 6) (hw : w < 2) (h : L (caV a c d q n w) σ) : ∀ m i, i + m = n → R_X6_chanceOf_13 σ L (nI c) (nI d) (nI q) (nI n) (nI w) (lN (prV a d q c i)) (lN (256 ^ i)) (nI i) := by
  intro m
  induction m with
  | zero =>
    intro i hi
    have e : i = n := by omega
    subst e
    obtain ⟨p1, p2⟩ := p48 hn
    have hp := pr_le (a := a) d q hc i
    exact b_X6_chanceOf_13 ⟨fun _ => k6_low hw (Nat.pow_pos (by decide)) (by omega) (by omega) h, fun c => absurd (Int32.le_refl _) c⟩
  | succ m ih =>
    intro i hi
    refine b_X6_chanceOf_13 ⟨fun c => ?_, fun _ => ?_⟩
    · have := le_of_nI (by omega) (by omega) c
      omega
    · rw [nI_add]
      refine k6_chanceOn hI hL (by omega) hq hc ?_
      have hv := cv_le (a := a) (d + i) q hc
      rw [nI_l (by omega), lN_mul, show (256 : Int64) = lN 256 from rfl, lN_mul, ← Nat.pow_succ, nI_1]
      exact ih (i + 1) (by omega)
theorem c6_chance {c d q n w : Nat} (hI : Inv1 a σ) (hc : c ≤ 16) (hd2 : d + n ≤ 40) (hq : q < dd a) (hn : n ≤ 6) (hw : w < 2) (h : ∀ σ', Inv1 a σ' → Read1 a σ' → L (caV a c d q n w) σ') : M_X6_chanceOf σ L (nI c) (nI d) (nI q) (nI n) (nI w) := by
  have h8 := dd_le hI.1.1
  exact b_X6_chanceOf (k6_laysTold hI (fun s I Ld => l6_chance I Ld hc hd2 (by omega) hn hw (h s I Ld.1) n 0 (by omega)))
theorem p_chance (a : ab) (hW : WF a) (x1 x2 x3 x4 x5 : Int32) : PL a (fun σ K => M_X5_chance σ K x1 x2 x3 x4 x5) (fun σ K => M_X6_chance σ K x1 x2 x3 x4 x5) := by
  have en : (-9223372036854775808 : Int64) - ((-2) : Int32).toInt64 = -9223372036854775806 := by decide
  have no6 : ∀ σ (K : Int64 → r_St → Prop), K (-9223372036854775806) σ → R_X6_chance_50 σ K x1 x2 x3 x4 x5 0 := fun σ K h => b_X6_chance_50 ⟨fun _ => by rw [en]; exact h, fun c => absurd rfl c⟩
  by_cases c0 : ¬ IN x1 0 16
  · exact ⟨-9223372036854775806, a, fun σ K hI h => b_X5_chance ⟨fun c => absurd c c0, fun _ => h σ hI⟩, fun σ K hI h => b_X6_chance ⟨fun c => absurd c c0, fun _ => no6 σ K (h σ hI)⟩⟩
  have c0 := Classical.not_not.mp c0
  by_cases c1 : ¬ IN x2 0 39
  · exact ⟨-9223372036854775806, a, fun σ K hI h => b_X5_chance ⟨fun _ => ⟨fun c => absurd c c1, fun _ => h σ hI⟩, fun c => absurd c0 c⟩, fun σ K hI h => b_X6_chance ⟨fun _ => ⟨fun c => absurd c c1, fun _ => no6 σ K (h σ hI)⟩, fun c => absurd c0 c⟩⟩
  have c1 := Classical.not_not.mp c1
  by_cases c2 : ¬ ∃ q, q < dd a ∧ x3 = nI q
  · have c2 : ∀ q, q < dd a → ¬ x3 = nI q := fun q h e => c2 ⟨q, h, e⟩
    exact ⟨-9223372036854775806, a, fun σ K hI h => b_X5_chance ⟨fun _ => ⟨fun _ => ⟨fun c => absurd c (no_deed hI c2), fun _ => h σ hI⟩, fun c => absurd c1 c⟩, fun c => absurd c0 c⟩, fun σ K hI h => b_X6_chance ⟨fun _ => ⟨fun _ => k6_isDeed hI (fun q h1 h2 => absurd h2 (c2 q h1)) (fun _ s I => ⟨fun _ => no6 s K (h s I), fun c => absurd rfl c⟩), fun c => absurd c1 c⟩, fun c => absurd c0 c⟩⟩
  obtain ⟨q, hq, rfl⟩ := Classical.not_not.mp c2
  by_cases c3 : ¬ IN x4 1 6
  · exact ⟨-9223372036854775806, a, fun σ K hI h => b_X5_chance ⟨fun _ => ⟨fun _ => ⟨fun _ => ⟨fun c => absurd c c3, fun _ => h σ hI⟩, fun c => absurd (is_deed hI hq) c⟩, fun c => absurd c1 c⟩, fun c => absurd c0 c⟩, fun σ K hI h => b_X6_chance ⟨fun _ => ⟨fun _ => k6_isDeed hI (fun q h1 h2 s I R => ⟨fun c => absurd c (by decide), fun _ => ⟨fun c => absurd c c3, fun _ => no6 s K (h s I)⟩⟩) (fun c => absurd rfl (c q hq)), fun c => absurd c1 c⟩, fun c => absurd c0 c⟩⟩
  have c3 := Classical.not_not.mp c3
  obtain ⟨c, l0, r0, rfl⟩ := (IN_iff (lo := 0) (hi := 16) (by decide) (by decide)).mp c0
  obtain ⟨d, l1, r1, rfl⟩ := (IN_iff (lo := 0) (hi := 39) (by decide) (by decide)).mp c1
  obtain ⟨n, l3, r3, rfl⟩ := (IN_iff (lo := 1) (hi := 6) (by decide) (by decide)).mp c3
  have e5 : nI d + nI n - 1 = nI (d + n - 1) := by rw [nI_add]; exact pk_sub (b := 1) (by omega)
  by_cases c4 : ¬ d + n ≤ 40
  · refine ⟨-9223372036854775806, a, fun σ K hI h => b_X5_chance ⟨fun _ => ⟨fun _ => ⟨fun _ => ⟨fun _ => ⟨fun g => ?_, fun _ => h σ hI⟩, fun g => absurd c3 g⟩, fun g => absurd (is_deed hI hq) g⟩, fun g => absurd c1 g⟩, fun g => absurd c0 g⟩, fun σ K hI h => b_X6_chance ⟨fun _ => ⟨fun _ => k6_isDeed hI (fun q h1 h2 s I R => ⟨fun g => absurd g (by decide), fun _ => ⟨fun _ => ⟨fun _ => no6 s K (h s I), fun g => ?_⟩, fun g => absurd c3 g⟩⟩) (fun g => absurd rfl (g q hq)), fun g => absurd c1 g⟩, fun g => absurd c0 g⟩⟩
    · rw [e5] at g
      obtain ⟨j, j1, j2, j3⟩ := (IN_iff (lo := 0) (hi := 39) (by decide) (by decide)).mp g
      have := nI_inj (by omega) (by omega) j3
      omega
    · rw [nI_add] at g
      have := nlt_of_nI (x := 40) (by decide) (by omega) g
      omega
  have c4 := Classical.not_not.mp c4
  have d5 : IN (nI d + nI n - 1) 0 39 := by rw [e5]; exact IN_day (by omega)
  have d6 : ¬ (40 : Int32) < nI d + nI n := by rw [nI_add]; exact nI_nlt (b := d + n) (a := 40) c4 (by decide)
  by_cases c5 : ¬ IN x5 0 1
  · exact ⟨-9223372036854775806, a, fun σ K hI h => b_X5_chance ⟨fun _ => ⟨fun _ => ⟨fun _ => ⟨fun _ => ⟨fun _ => ⟨fun g => absurd g c5, fun _ => h σ hI⟩, fun g => absurd d5 g⟩, fun g => absurd c3 g⟩, fun g => absurd (is_deed hI hq) g⟩, fun g => absurd c1 g⟩, fun g => absurd c0 g⟩, fun σ K hI h => b_X6_chance ⟨fun _ => ⟨fun _ => k6_isDeed hI (fun q h1 h2 s I R => ⟨fun g => absurd g (by decide), fun _ => ⟨fun _ => ⟨fun g => absurd g d6, fun _ => b_X6_chance_50 ⟨fun g => absurd g (by decide), fun _ => ⟨fun g => absurd g c5, fun _ => by rw [en]; exact h s I⟩⟩⟩, fun g => absurd c3 g⟩⟩) (fun g => absurd rfl (g q hq)), fun g => absurd c1 g⟩, fun g => absurd c0 g⟩⟩
  have c5 := Classical.not_not.mp c5
  obtain ⟨w, l5, r5, rfl⟩ := (IN_iff (lo := 0) (hi := 1) (by decide) (by decide)).mp c5
  exact ⟨caV a c d q n w, a, fun σ K hI h => c5_chance hI r0 (by omega) c4 hq l3 r3 (by omega) h, fun σ K hI h => b_X6_chance ⟨fun _ => ⟨fun _ => k6_isDeed hI (fun q2 h1 h2 s I R => ⟨fun g => absurd g (by decide), fun _ => ⟨fun _ => ⟨fun g => absurd g d6, fun _ => b_X6_chance_50 ⟨fun g => absurd g (by decide), fun _ => ⟨fun _ => c6_chance I r0 c4 hq r3 (by omega) (fun s I _ => h s I), fun g => absurd c5 g⟩⟩⟩, fun g => absurd c3 g⟩⟩) (fun g => absurd rfl (g q hq)), fun g => absurd c1 g⟩, fun g => absurd c0 g⟩⟩
end CHC
