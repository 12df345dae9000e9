/-! ===== fined, coins, cheapest, year ===== -/
def sm (f : Nat → Nat) : Nat → Nat
  | 0 => 0
  | n + 1 => sm f n + f n
theorem sm_cong {f g : Nat → Nat} : ∀ {n : Nat}, (∀ k, k < n → f k = g k) → sm f n = sm g n := by
  intro n
  induction n with
  | zero => intro _; rfl
  | succ n ih => intro h; unfold sm; rw [ih (fun k hk => h k (by omega)), h n (by omega)]
theorem sm_zero {f : Nat → Nat} : ∀ {n : Nat}, (∀ k, k < n → f k = 0) → sm f n = 0 := by
  intro n
  induction n with
  | zero => intro _; rfl
  | succ n ih => intro h; unfold sm; rw [ih (fun k hk => h k (by omega)), h n (by omega)]
theorem sm_add (f g : Nat → Nat) (n : Nat) : sm (fun k => f k + g k) n = sm f n + sm g n := by
  induction n with
  | zero => rfl
  | succ n ih => unfold sm; rw [ih]; omega
theorem sm_tail {f : Nat → Nat} {n : Nat} : ∀ m, (∀ k, n ≤ k → k < n + m → f k = 0) → sm f (n + m) = sm f n := by
  intro m
  induction m with
  | zero => intro _; rfl
  | succ m ih => intro h; show sm f (n + m) + f (n + m) = _; rw [ih (fun k h1 h2 => h k h1 (by omega)), h (n + m) (by omega) (by omega)]; rfl
theorem sm_comm (f : Nat → Nat → Nat) (m n : Nat) : sm (fun i => sm (f i) m) n = sm (fun j => sm (fun i => f i j) n) m := by
  induction n with
  | zero => exact (sm_zero (fun k _ => rfl)).symm
  | succ n ih =>
    show sm (fun i => sm (f i) m) n + sm (f n) m = _
    rw [ih]
    have e : (fun j => sm (fun i => f i j) (n + 1)) = fun j => sm (fun i => f i j) n + f n j := rfl
    rw [e, sm_add]
/-- the days that the court looks at -/
def frD (a : ab) (k : Nat) : Nat := if a.1 2 = 2 then a.2.1 6 k + a.2.1 8 k - 1 else a.2.1 6 k
def toD (a : ab) (k : Nat) : Nat := if a.1 2 = 0 then a.2.1 6 k else a.2.1 6 k + a.2.1 8 k - 1
def fnV (a : ab) (k d : Nat) : Nat := if a.2.1 7 k < dd a ∧ (frD a k ≤ d ∧ d ≤ toD a k) ∧ (op a (-1) d).testBit (a.2.1 7 k) = false then fin a (a.2.1 7 k) else 0
def his (a : ab) (q d : Nat) : Prop := ru a d = q ∨ (q = 0 ∧ ru a d = 2)
def gV (a : ab) (q k d : Nat) : Nat := if (a.2.1 7 k < dd a ∧ (frD a k ≤ d ∧ d ≤ toD a k) ∧ (op a (-1) d).testBit (a.2.1 7 k) = false) ∧ (ru a d = q ∨ (q = 0 ∧ ru a d = 2)) then fin a (a.2.1 7 k) else 0
theorem gV_out {a : ab} {q k d : Nat} (h : ¬ (frD a k ≤ d ∧ d ≤ toD a k)) : gV a q k d = 0 := by unfold gV; rw [if_neg (fun g => h g.1.2.1)]
theorem op_none {a : ab} {w : Int32} {d q : Nat} (h : ru a d = 3) (hq : q < dd a) : (op a w d).testBit q = true := by
  unfold op opn
  rw [if_neg (by omega), if_neg (by omega), if_neg (by omega), Nat.testBit_two_pow_sub_one]
  exact decide_eq_true hq
theorem gV_sum (a : ab) (k d : Nat) : gV a 0 k d + gV a 1 k d = fnV a k d := by
  have hr := ru_le a d
  unfold gV fnV
  by_cases h : a.2.1 7 k < dd a ∧ (frD a k ≤ d ∧ d ≤ toD a k) ∧ (op a (-1) d).testBit (a.2.1 7 k) = false
  · have h3 : ¬ ru a d = 3 := fun q => by
      have := op_none (w := -1) q h.1
      rw [this] at h
      cases h.2.2
    rcases (show ru a d = 0 ∨ ru a d = 1 ∨ ru a d = 2 by omega) with q | q | q <;> simp [h, q]
  · rw [if_neg (fun g => h g.1), if_neg (fun g => h g.1), if_neg h]
section FIN
variable {σ : r_St} {K : Int32 → r_St → Prop} {a : ab}
theorem k1_coinOn {d : Nat} (hS : Seat a 32 σ) (hd : d < 40) (h : K (if ru a d = 2 then 0 else ruI (ru a d)) σ) : M_X1_coinOn 32 σ K (nI d) := by
  have hr := ru_le a d
  refine b_X1_coinOn isLaws_32 (k1_rulerOn isLaws_32 hS hd ⟨fun c => k1_rulerOn isLaws_32 hS hd ?_, fun c => ?_⟩)
  · rw [if_neg (fun q => c ((ruI_2 hr).mpr q))] at h
    exact h
  · rw [if_pos ((ruI_2 hr).mp c)] at h
    exact h
theorem coin_iff {d q : Nat} (hq : q < 2) : (if ru a d = 2 then 0 else ruI (ru a d)) = nI q ↔ (ru a d = q ∨ (q = 0 ∧ ru a d = 2)) := by
  have hr := ru_le a d
  rcases (show q = 0 ∨ q = 1 by omega) with rfl | rfl
  · rcases (show ru a d = 0 ∨ ru a d = 1 ∨ ru a d = 2 ∨ ru a d = 3 by omega) with e | e | e | e <;> rw [e] <;> decide
  · rcases (show ru a d = 0 ∨ ru a d = 1 ∨ ru a d = 2 ∨ ru a d = 3 by omega) with e | e | e | e <;> rw [e] <;> decide
theorem l5_fines {k q : Nat} (hI : Inv0 a σ) (hT : Told a (-1) 32 σ) (hk : k < a.1 6) (hd : a.2.1 7 k < dd a) (hq : q < 2) (h : K (nI (sm (gV a q k) 40)) σ) (ht : toD a k < 40) : ∀ m d, d + m = toD a k + 1 → frD a k ≤ d → R_X5_finesInCoin_89 σ K (nI q) (nI (a.2.1 7 k)) (nI (toD a k)) (nI (sm (gV a q k) d)) (nI d) := by
  obtain ⟨hW, hB, -⟩ := id hI
  have h8 := dd_le hW.1
  intro m
  induction m with
  | zero =>
    intro d hd2 hf
    refine b_X5_finesInCoin_89 ⟨fun _ => ?_, fun c => ?_⟩
    · have e : sm (gV a q k) 40 = sm (gV a q k) d := by
        have : 40 = d + (40 - d) := by omega
        rw [this]
        exact sm_tail _ (fun j h1 h2 => gV_out (by omega))
      rw [← e]
      exact h
    · have := nlt_of_nI (by omega) (by omega) c
      omega
  | succ m ih =>
    intro d hd2 hf
    have skip : gV a q k d = 0 → R_X5_finesInCoin_89 σ K (nI q) (nI (a.2.1 7 k)) (nI (toD a k)) (nI (sm (gV a q k) d)) (nI d + 1) := by
      intro hz
      have N := ih (d + 1) (by omega) (by omega)
      have e : sm (gV a q k) (d + 1) = sm (gV a q k) d := by show sm (gV a q k) d + gV a q k d = _; rw [hz]; rfl
      rw [e] at N
      rw [nI_1]; exact N
    refine b_X5_finesInCoin_89 ⟨fun c => ?_, fun _ => k1_openOn isLaws_32 hT (by omega) ?_⟩
    · have := lt_of_nI (by omega) (by omega) c
      omega
    · rw [iu_bit (by omega) (by have := op_small hW (-1) d; omega)]
      refine ⟨fun c => skip ?_, fun c => ?_⟩
      · unfold gV
        rw [if_neg (fun g => c (b2n_0.mpr g.1.2.2))]
      · have c := b2n_0.mp c
        refine k1_coinOn hT.2.1 (by omega) ⟨fun c2 => skip ?_, fun c2 => k0_fineOf hW.1 hB.1.2.2.1 hB.1.2.2.2.2.2 hd ?_⟩
        · unfold gV
          rw [if_neg (fun g => c2 ((coin_iff hq).mpr g.2))]
        · have N := ih (d + 1) (by omega) (by omega)
          have e : sm (gV a q k) (d + 1) = sm (gV a q k) d + fin a (a.2.1 7 k) := by
            show sm (gV a q k) d + gV a q k d = _
            unfold gV
            rw [if_pos ⟨⟨hd, ⟨hf, by omega⟩, c⟩, (coin_iff hq).mp c2⟩]
          rw [nI_add, nI_1, ← e]
          exact N
theorem c5_fines {k q : Nat} (hI : Inv0 a σ) (hT : Told a (-1) 32 σ) (hk : k < a.1 6) (hq : q < 2) (h : K (nI (sm (gV a q k) 40)) σ) : M_X5_finesInCoin σ K (nI k) (nI q) := by
  obtain ⟨hW, hB, -⟩ := id hI
  have h8 := dd_le hW.1
  have hD := hW.2.2.2.2.2.2.2.1
  obtain ⟨d1, d2, d3, d4, d5⟩ := hD.2 k hk
  obtain ⟨r1, r2, r3⟩ := hB.2.2.2.2.2.1
  obtain ⟨v1, v2, v3⟩ := r3 k hk
  have v1 : σ.1 17 k = nI (a.2.1 6 k) := v1
  have v2 : σ.1 18 k = nI (a.2.1 7 k) := v2
  have v3 : σ.1 19 k = nI (a.2.1 8 k) := v3
  have hc := hW.2.2.2.1
  refine b_X5_finesInCoin (k3_second isRows_16 r2 hD.1 hk ?_)
  show (IN (σ.1 18 k) 0 (σ.1 1 4 - 1) → _) ∧ (¬ IN (σ.1 18 k) 0 (σ.1 1 4 - 1) → _)
  rw [v2, hB.1.2.2.1]
  refine ⟨fun c => ?_, fun c => ?_⟩
  · obtain ⟨j, j1, j2⟩ := (IN_lt_iff (by omega)).mp c
    have j2 := nI_inj (by omega) (by omega) j2
    have hd : a.2.1 7 k < dd a := by omega
    refine k3_first isRows_16 r2 hD.1 hk (k3_third isRows_16 r2 hD.1 hk ?_)
    show (¬ σ.1 0 13 = 2 → R_X5_finesInCoin_64 σ K (nI q) (nI (a.2.1 7 k)) (σ.1 17 k) (σ.1 17 k + σ.1 19 k - 1) (σ.1 17 k)) ∧ (σ.1 0 13 = 2 → R_X5_finesInCoin_64 σ K (nI q) (nI (a.2.1 7 k)) (σ.1 17 k) (σ.1 17 k + σ.1 19 k - 1) (σ.1 17 k + σ.1 19 k - 1))
    have el : σ.1 17 k + σ.1 19 k - 1 = nI (a.2.1 6 k + a.2.1 8 k - 1) := by rw [v1, v3, nI_add]; exact pk_sub (b := 1) (by omega)
    rw [el, v1, hB.2.1.2.1]
    have z : sm (gV a q k) (frD a k) = 0 := sm_zero (fun j hj => gV_out (by omega))
    have tlt : toD a k < 40 := by unfold toD; split <;> omega
    have fle : frD a k ≤ toD a k := by unfold frD toD; split <;> split <;> omega
    have s89 : ∀ x : Int32, x = nI (toD a k) → R_X5_finesInCoin_89 σ K (nI q) (nI (a.2.1 7 k)) x 0 (nI (frD a k)) := by
      intro x hx
      have := l5_fines hI hT hk hd hq h tlt (toD a k + 1 - frD a k) (frD a k) (by omega) (by omega)
      rw [z] at this
      rw [hx]; exact this
    have s64 : ∀ x : Int32, x = nI (frD a k) → R_X5_finesInCoin_64 σ K (nI q) (nI (a.2.1 7 k)) (nI (a.2.1 6 k)) (nI (a.2.1 6 k + a.2.1 8 k - 1)) x := by
      intro x hx
      rw [hx]
      refine b_X5_finesInCoin_64 ?_
      rw [hB.2.1.2.1]
      refine ⟨fun c => s89 _ ?_, fun c => s89 _ ?_⟩
      · unfold toD
        rw [if_neg (fun q => c (by rw [q]; rfl))]
      · unfold toD
        rw [if_pos (nI_inj (b := 0) (by omega) (by decide) c)]
    refine ⟨fun c => s64 _ ?_, fun c => s64 _ ?_⟩
    · unfold frD
      rw [if_neg (fun q => c (by rw [q]; rfl))]
    · unfold frD
      rw [if_pos (nI_inj (b := 2) (by omega) (by decide) c)]
  · have hn : ¬ a.2.1 7 k < dd a := fun g => c ((IN_lt_iff (by omega)).mpr ⟨_, g, rfl⟩)
    rw [sm_zero (fun d _ => by unfold gV; rw [if_neg (fun g => hn g.1.1)])] at h
    exact h
def fdV (a : ab) (k : Nat) : Nat := sm (fnV a k) 40
theorem c5_fined {k : Nat} (hI : Inv0 a σ) (hk : k < a.1 6) (h : ∀ σ', Inv0 a σ' → K (nI (fdV a k)) σ') : M_X5_fined σ K (nI k) := by
  have hD := hI.1.2.2.2.2.2.2.2.1
  refine b_X5_fined ⟨fun _ => k5_laws hI (fun s I T _ => c5_fines I T hk (q := 0) (by omega) (c5_fines I T hk (q := 1) (by omega) ?_)), fun c => ?_⟩
  · rw [nI_add, ← sm_add, sm_cong (fun d _ => gV_sum a k d)]
    exact h s I
  · rw [hI.2.1.2.2.2.2.2.1.2.1] at c
    exact absurd ((IN_lt_iff (by omega)).mpr ⟨k, hk, rfl⟩) c
def coV (a : ab) (q : Nat) : Nat := sm (fun k => sm (gV a q k) 40) (a.1 6)
theorem l5_coins {q : Nat} (hI : Inv0 a σ) (hT : Told a (-1) 32 σ) (hq : q < 2) (h : K (nI (coV a q)) σ) : ∀ m k, k + m = a.1 6 → R_X5_coins_20 σ K (nI q) (nI (sm (fun k => sm (gV a q k) 40) k)) (nI k) := by
  have hD := hI.1.2.2.2.2.2.2.2.1
  have r2 := hI.2.1.2.2.2.2.2.1.2.1
  intro m
  induction m with
  | zero =>
    intro k hk
    have e : k = a.1 6 := by omega
    subst e
    refine b_X5_coins_20 ⟨fun _ => h, fun c => ?_⟩
    rw [r2] at c
    exact absurd (Int32.le_refl _) c
  | succ m ih =>
    intro k hk
    refine b_X5_coins_20 ⟨fun c => ?_, fun _ => c5_fines hI hT (by omega) hq ?_⟩
    · rw [r2] at c
      have := le_of_nI (by omega) (by omega) c
      omega
    · rw [nI_add, nI_1]
      exact ih (k + 1) (by omega)
theorem c5_coins {q : Nat} (hI : Inv0 a σ) (hq : q < 2) (h : ∀ σ', Inv0 a σ' → K (nI (coV a q)) σ') : M_X5_coins σ K (nI q) :=
  b_X5_coins ⟨fun _ => k5_laws hI (fun s I T _ => l5_coins I T hq (h s I) (a.1 6) 0 (by omega)), fun c => absurd ((IN_iff (lo := 0) (hi := 1) (by decide) (by decide)).mpr ⟨q, by omega, by omega, rfl⟩) c⟩
/-! the reference -/
theorem c6_finedOn {k d : Nat} (hI : Inv1 a σ) (hL : Laid1 a (-1) σ) (hk : k < a.1 6) (hd : d < 40) (h : K (nI (fnV a k d)) σ) : M_X6_finedOn σ K (nI k) (nI d) := by
  obtain ⟨hW, hB⟩ := id hI
  have h8 := dd_le hW.1
  have hD := hW.2.2.2.2.2.2.2.1
  obtain ⟨d1, d2, d3, d4, d5⟩ := hD.2 k hk
  obtain ⟨r1, r2, r3, r4⟩ := hB.2.2.2.2.2.1
  have v1 := r2 k hk
  have v2 := r3 k hk
  have v3 := r4 k hk
  have hc := hW.2.2.2.1
  have el : σ.1 9 k + σ.1 11 k - 1 = nI (a.2.1 6 k + a.2.1 8 k - 1) := by rw [v1, v3, nI_add]; exact pk_sub (b := 1) (by omega)
  have s92 : ∀ (t : Int32) (b : Bool), t = nI (b2n b) → (b = true ↔ (frD a k ≤ d ∧ d ≤ toD a k)) → R_X6_finedOn_92 σ K (nI d) (σ.1 10 k) t := by
    intro t b ht hb
    rw [v2, ht]
    refine b_X6_finedOn_92 ?_
    rw [hL.1.1]
    have zero : fnV a k d = 0 → K 0 σ := fun e => by rw [e] at h; exact h
    refine ⟨fun c => zero ?_, fun c => ⟨fun c2 => zero ?_, fun c2 => ⟨d, rfl, hd, ?_⟩⟩⟩
    · have c := le_of_nI (by omega) (by omega) c
      unfold fnV
      rw [if_neg (by omega)]
    · have c2 := b2n_0.mp c2
      unfold fnV
      rw [if_neg (fun g => ?_)]
      rw [hb.mpr g.2.1] at c2
      cases c2
    · have c := nle_of_nI (by omega) (by omega) c
      have c2 : b = true := by
        cases b
        · exact absurd rfl c2
        · rfl
      rw [hL.opd hd, sr_bit (by omega) (by have := op_small hW (-1) d; omega)]
      refine ⟨fun c3 => ⟨a.2.1 7 k, rfl, by omega, ?_⟩, fun c3 => zero ?_⟩
      · have c3 : (op a (-1) d).testBit (a.2.1 7 k) = false := by
          cases hq : (op a (-1) d).testBit (a.2.1 7 k) with
          | false => rfl
          | true => rw [hq] at c3; exact absurd rfl c3
        rw [hL.1.2.2 _ c]
        unfold fnV at h
        rw [if_pos ⟨c, hb.mp c2, c3⟩] at h
        exact h
      · unfold fnV
        rw [if_neg (fun g => ?_)]
        rw [b2n_1.mp c3] at g
        cases g.2.2
  refine b_X6_finedOn ⟨k, rfl, by omega, k, rfl, by omega, k, rfl, by omega, ?_⟩
  rw [hB.2.1.2.1, el]
  refine ⟨fun c => ⟨fun c2 => ⟨k, rfl, by omega, ?_⟩, fun c2 => ?_⟩, fun c => ⟨k, rfl, by omega, ?_⟩⟩
  · have c : ¬ a.1 2 = 0 := fun q => c (by rw [q]; rfl)
    have c2 : ¬ a.1 2 = 2 := fun q => c2 (by rw [q]; rfl)
    have ef : frD a k = a.2.1 6 k := by unfold frD; rw [if_neg c2]
    have et : toD a k = a.2.1 6 k + a.2.1 8 k - 1 := by unfold toD; rw [if_neg c]
    rw [v1]
    refine ⟨fun g => s92 0 false rfl ?_, fun g => ⟨fun g2 => s92 0 false rfl ?_, fun g2 => s92 1 true rfl ?_⟩⟩
    · have := lt_of_nI (by omega) (by omega) g
      simp; omega
    · have := lt_of_nI (by omega) (by omega) g2
      simp; omega
    · have := nlt_of_nI (by omega) (by omega) g
      have := nlt_of_nI (by omega) (by omega) g2
      simp; omega
  · have c2 := nI_inj (b := 2) (by omega) (by decide) c2
    have ef : frD a k = a.2.1 6 k + a.2.1 8 k - 1 := by unfold frD; rw [if_pos c2]
    have et : toD a k = a.2.1 6 k + a.2.1 8 k - 1 := by unfold toD; rw [if_neg (by omega)]
    refine ⟨fun g => s92 0 false rfl ?_, fun g => s92 1 true rfl ?_⟩
    · have g : ¬ d = a.2.1 6 k + a.2.1 8 k - 1 := fun q => g (by rw [q])
      simp; omega
    · have := nI_inj (by omega) (by omega) g
      simp; omega
  · have c := nI_inj (b := 0) (by omega) (by decide) c
    have ef : frD a k = a.2.1 6 k := by unfold frD; rw [if_neg (by omega)]
    have et : toD a k = a.2.1 6 k := by unfold toD; rw [if_pos c]
    rw [v1]
    refine ⟨fun g => s92 0 false rfl ?_, fun g => s92 1 true rfl ?_⟩
    · have g : ¬ d = a.2.1 6 k := fun q => g (by rw [q])
      simp; omega
    · have := nI_inj (by omega) (by omega) g
      simp; omega
theorem l6_fined {k : Nat} (hI : Inv1 a σ) (hL : Laid1 a (-1) σ) (hk : k < a.1 6) (h : K (nI (fdV a k)) σ) : ∀ m d, d + m = 40 → R_X6_finedOf_8 σ K (nI k) (nI (sm (fnV a k) d)) (nI d) := by
  intro m
  induction m with
  | zero =>
    intro d hd
    have e : d = 40 := by omega
    subst e
    exact b_X6_finedOf_8 ⟨fun _ => h, fun c => absurd (Int32.le_refl _) c⟩
  | succ m ih =>
    intro d hd
    refine b_X6_finedOf_8 ⟨fun c => ?_, fun _ => c6_finedOn hI hL hk (by omega) ?_⟩
    · have := le_of_nI (x := 40) (by decide) (by omega) c
      omega
    · rw [nI_add, nI_1]
      exact ih (d + 1) (by omega)
theorem c6_fined {k : Nat} (hI : Inv1 a σ) (hk : k < a.1 6) (h : ∀ σ', Inv1 a σ' → Read1 a σ' → K (nI (fdV a k)) σ') : M_X6_finedOf σ K (nI k) :=
  b_X6_finedOf (k6_laysTold hI (fun s I L => l6_fined I L hk (h s I L.1) 40 0 (by omega)))
theorem p_fined (a : ab) (hW : WF a) (x1 : Int32) : PI a (fun σ K => M_X5_fined σ K x1) (fun σ K => M_X6_fined σ K x1) := by
  have hD := hW.2.2.2.2.2.2.2.1
  by_cases c0 : ¬ IN x1 0 (nI (a.1 6) - 1)
  · refine ⟨-2, a, fun σ K hI h => b_X5_fined ⟨fun c => ?_, fun _ => h σ hI⟩, fun σ K hI h => b_X6_fined ⟨fun c => ?_, fun _ => h σ hI⟩⟩
    · rw [hI.2.1.2.2.2.2.2.1.2.1] at c; exact absurd c c0
    · rw [hI.2.2.2.2.2.2.1.1] at c; exact absurd c c0
  have c0 := Classical.not_not.mp c0
  obtain ⟨k, hk, rfl⟩ := (IN_lt_iff (by omega)).mp c0
  refine ⟨nI (fdV a k), a, fun σ K hI h => c5_fined hI hk h, fun σ K hI h => b_X6_fined ⟨fun _ => c6_fined hI hk (fun s I _ => h s I), fun c => ?_⟩⟩
  rw [hI.2.2.2.2.2.2.1.1] at c; exact absurd c0 c
def hsV (a : ab) (q d : Nat) : Nat := if ru a d = q ∨ (q = 0 ∧ ru a d = 2) then sm (fun k => fnV a k d) (a.1 6) else 0
theorem coV_eq (a : ab) (q : Nat) : coV a q = sm (hsV a q) 40 := by
  unfold coV
  rw [sm_comm]
  refine sm_cong (fun d _ => ?_)
  unfold hsV
  by_cases h : ru a d = q ∨ (q = 0 ∧ ru a d = 2)
  · rw [if_pos h]
    refine sm_cong (fun k _ => ?_)
    unfold gV fnV
    simp [h]
  · rw [if_neg h]
    refine sm_zero (fun k _ => ?_)
    unfold gV
    rw [if_neg (fun g => h g.2)]
theorem l6_coins2 {q d S : Nat} (hI : Inv1 a σ) (hL : Laid1 a (-1) σ) (hd : d < 40) (h : R_X6_coinsOf_8 σ K (nI q) (nI (S + sm (fun k => fnV a k d) (a.1 6))) (nI d + 1)) : ∀ m k, k + m = a.1 6 → R_X6_coinsOf_48 σ K (nI q) (nI (S + sm (fun k => fnV a k d) k)) (nI d) 1 (nI k) := by
  have hD := hI.1.2.2.2.2.2.2.2.1
  have r2 := hI.2.2.2.2.2.2.1.1
  intro m
  induction m with
  | zero =>
    intro k hk
    have e : k = a.1 6 := by omega
    subst e
    refine b_X6_coinsOf_48 ⟨fun _ => h, fun c => ?_⟩
    rw [r2] at c
    exact absurd (Int32.le_refl _) c
  | succ m ih =>
    intro k hk
    refine b_X6_coinsOf_48 ⟨fun c => ?_, fun _ => ⟨fun c => absurd c (by decide), fun _ => c6_finedOn hI hL (by omega) hd ?_⟩⟩
    · rw [r2] at c
      have := le_of_nI (by omega) (by omega) c
      omega
    · rw [nI_add, nI_1, Nat.add_assoc]
      exact ih (k + 1) (by omega)
theorem l6_coins {q : Nat} (hI : Inv1 a σ) (hL : Laid1 a (-1) σ) (hq : q < 2) (h : K (nI (coV a q)) σ) : ∀ m d, d + m = 40 → R_X6_coinsOf_8 σ K (nI q) (nI (sm (hsV a q) d)) (nI d) := by
  have r2 := hI.2.2.2.2.2.2.1.1
  intro m
  induction m with
  | zero =>
    intro d hd
    have e : d = 40 := by omega
    subst e
    refine b_X6_coinsOf_8 ⟨fun _ => ?_, fun c => absurd (Int32.le_refl _) c⟩
    rw [← coV_eq]
    exact h
  | succ m ih =>
    intro d hd
    have hr := ru_le a d
    have N := ih (d + 1) (by omega)
    have yes : (ru a d = q ∨ (q = 0 ∧ ru a d = 2)) → R_X6_coinsOf_48 σ K (nI q) (nI (sm (hsV a q) d)) (nI d) 1 0 := by
      intro hh
      refine l6_coins2 (S := sm (hsV a q) d) hI hL (by omega) ?_ (a.1 6) 0 (by omega)
      have e : sm (hsV a q) (d + 1) = sm (hsV a q) d + sm (fun k => fnV a k d) (a.1 6) := by
        show sm (hsV a q) d + hsV a q d = _
        unfold hsV
        rw [if_pos hh]
      rw [← e, nI_1]
      exact N
    have no : ¬ (ru a d = q ∨ (q = 0 ∧ ru a d = 2)) → R_X6_coinsOf_48 σ K (nI q) (nI (sm (hsV a q) d)) (nI d) 0 0 := by
      intro hh
      have e : sm (hsV a q) (d + 1) = sm (hsV a q) d := by
        show sm (hsV a q) d + hsV a q d = _
        unfold hsV
        rw [if_neg hh]; rfl
      rw [e] at N
      rw [← nI_1] at N
      exact b_X6_coinsOf_48 ⟨fun _ => N, fun _ => ⟨fun _ => N, fun c => absurd rfl c⟩⟩
    have ev : ∀ q2, q2 < 2 → (ruI (ru a d) = nI q2 ↔ ru a d = q2) := by
      intro q2 h2
      rcases (show q2 = 0 ∨ q2 = 1 by omega) with rfl | rfl
      · exact ruI_0 hr
      · exact ruI_1 hr
    refine b_X6_coinsOf_8 ⟨fun c => ?_, fun _ => ⟨d, rfl, by omega, ?_⟩⟩
    · have := le_of_nI (x := 40) (by decide) (by omega) c
      omega
    · rw [(hL.2 d (by omega)).1]
      refine ⟨fun c => yes (Or.inl ((ev q hq).mp c)), fun c => ⟨fun c2 => no ?_, fun c2 => ⟨d, rfl, by omega, ?_⟩⟩⟩
      · have c : ¬ ru a d = q := fun g => c ((ev q hq).mpr g)
        have c2 : ¬ q = 0 := fun g => c2 (by rw [g]; rfl)
        omega
      · have c : ¬ ru a d = q := fun g => c ((ev q hq).mpr g)
        have c2 := nI_inj (b := 0) (by omega) (by decide) c2
        rw [(hL.2 d (by omega)).1]
        refine ⟨fun c3 => no ?_, fun c3 => yes (Or.inr ⟨c2, (ruI_2 hr).mp c3⟩)⟩
        have c3 : ¬ ru a d = 2 := fun g => c3 ((ruI_2 hr).mpr g)
        omega
theorem c6_coins {q : Nat} (hI : Inv1 a σ) (hq : q < 2) (h : ∀ σ', Inv1 a σ' → Read1 a σ' → K (nI (coV a q)) σ') : M_X6_coinsOf σ K (nI q) :=
  b_X6_coinsOf (k6_laysTold hI (fun s I L => l6_coins I L hq (h s I L.1) 40 0 (by omega)))
theorem p_coins (a : ab) (hW : WF a) (x1 : Int32) : PI a (fun σ K => M_X5_coins σ K x1) (fun σ K => M_X6_coins σ K x1) := by
  by_cases c0 : ¬ IN x1 0 1
  · exact ⟨-2, a, fun σ K hI h => b_X5_coins ⟨fun c => absurd c c0, fun _ => h σ hI⟩, fun σ K hI h => b_X6_coins ⟨fun c => absurd c c0, fun _ => h σ hI⟩⟩
  have c0 := Classical.not_not.mp c0
  obtain ⟨q, l, r, rfl⟩ := (IN_iff (lo := 0) (hi := 1) (by decide) (by decide)).mp c0
  exact ⟨nI (coV a q), a, fun σ K hI h => c5_coins hI (by omega) h, fun σ K hI h => b_X6_coins ⟨fun _ => c6_coins hI (by omega) (fun s I _ => h s I), fun c => absurd c0 c⟩⟩
end FIN
