/-! ===== the digest ===== -/
def mxV (h v : Int64) : Int64 := ((31 : Int64) * h) + v
def mxI (h : Int64) (v : Int32) : Int64 := ((31 : Int64) * h) + v.toInt64
def dgC (a : ab) : Nat → Int64
  | 0 => 17
  | i + 1 => mxI (dgC a i) (cnt a (nI i))
def dgQ (a : ab) (h : Int64) (q : Nat) : Int64 := mxV (mxV (mxI (mxI (mxI (mxI (mxI (mxI (mxI h (nI (dedV a q 0))) (nI (dedV a q 1))) (nI (dedV a q 2))) (crV a q)) (soV a q 3 5)) (chV a q 4 2 0)) (chV a q 4 2 1)) (caV a 5 3 q 4 0)) (caV a 5 3 q 4 1)
def dgD (a : ab) (h : Int64) : Nat → Int64
  | 0 => h
  | q + 1 => dgQ a (dgD a h q) q
def dgY (a : ab) (h : Int64) (d : Nat) : Int64 := mxI (mxI (mxI (mxI h (ruI (ru a d))) (nI (sK a (-1) d 0))) (nI (sK a (-1) d 1))) (nI (op a (-1) d))
def dgYs (a : ab) (h : Int64) : Int64 := dgY a (dgY a (dgY a (dgY a (dgY a h 0) 1) 6) 20) 39
def dgF (a : ab) (h : Int64) : Nat → Int64
  | 0 => h
  | k + 1 => mxI (dgF a h k) (nI (fdV a k))
def dgP (a : ab) (h : Int64) : Int64 := mxI (mxI (mxI (mxI (mxI (mxI h (finV a 2 (-1))) (finV a 2 0)) (plaV a 2 (-1))) (plaV a 2 0)) (woV a 4 1 0)) (woV a 4 1 1)
def dgB (a : ab) : Int64 := dgYs a (dgD a (mxI (dgC a 8) (tflt a)) (dd a))
def dgM (a : ab) : Int64 := dgF a (mxI (mxI (dgB a) (nI (neV a))) (alR a 40 0)) (a.1 6)
def dgV (a : ab) : Int64 := mxI (mxI (mxI (mxI (mxI (mxI (dgP a (mxI (mxI (dgM a) (nI (coV a 0))) (nI (coV a 1)))) (whV a (-1))) (whV a 0)) (akV a)) (nI (fgV a))) (yrV a 7 30 0)) (yrV a 7 30 1)
section DGS
variable {a : ab} {K : Int64 → r_St → Prop}
/-! the class -/
theorem g5_deeds {h0 : Int64} (h : ∀ σ', Inv0 a σ' → K (dgD a h0 (dd a)) σ') : ∀ m q, q + m = dd a → ∀ σ, Inv0 a σ → R_X5_mixDeeds_5 σ K (dgD a h0 q) (nI q) := by
  intro m
  induction m with
  | zero =>
    intro q hq σ I
    have e : q = dd a := by omega
    subst e
    refine b_X5_mixDeeds_5 ⟨fun _ => h σ I, fun c => ?_⟩
    rw [I.2.1.1.2.2.1] at c
    exact absurd (Int32.le_refl _) c
  | succ m ih =>
    intro q hq σ I
    have h8 := dd_le I.1.1
    have hq2 : q < dd a := by omega
    refine b_X5_mixDeeds_5 ⟨fun c => ?_, fun _ => ?_⟩
    · rw [I.2.1.1.2.2.1] at c
      have := le_of_nI (by omega) (by omega) c
      omega
    · refine c5_deed (w := 0) I hq2 (by decide) (c5_deed (w := 1) I hq2 (by decide) (c5_deed (w := 2) I hq2 (by decide) (c5_crossing I hq2 (fun s1 I1 => c5_soonest (n := 3) (d := 5) I1 hq2 (by decide) (by decide) (by decide) (fun s2 I2 => c5_cheapest (n := 4) (d := 2) (w := 0) I2 hq2 (by decide) (by decide) (by decide) (by decide) (fun s3 I3 => c5_cheapest (n := 4) (d := 2) (w := 1) I3 hq2 (by decide) (by decide) (by decide) (by decide) (fun s4 I4 => c5_chance (c := 5) (d := 3) (n := 4) (w := 0) I4 (by decide) (by decide) (by decide) hq2 (by decide) (by decide) (by decide) (fun s5 I5 => c5_chance (c := 5) (d := 3) (n := 4) (w := 1) I5 (by decide) (by decide) (by decide) hq2 (by decide) (by decide) (by decide) (fun s6 I6 => ?_)))))))))
      rw [nI_1]
      exact ih (q + 1) (by omega) s6 I6
theorem g5_day {y : Int64} {σ : r_St} {j d : Nat} (hI : Inv0 a σ) (hj : j < 5) (hd : r_ddI j = nI d) (h40 : d < 40) (h : ∀ σ', Inv0 a σ' → R_X5_mixDays_15 σ' K (dgY a y d) 5 (nI (j + 1))) : R_X5_mixDays_15 σ K y 5 (nI j) := by
  refine b_X5_mixDays_15 ⟨fun c => ?_, fun _ => ⟨j, rfl, hj, ?_⟩⟩
  · have := le_of_nI (x := 5) (by decide) (by omega) c
    omega
  · rw [hd, nI_1]
    exact c5_rules hI h40 (fun s1 I1 => c5_allows (q := 0) I1 h40 (by decide) (fun s2 I2 => c5_allows (q := 1) I2 h40 (by decide) (fun s3 I3 => c5_allowed I3 h40 (fun s4 I4 => h s4 I4))))
theorem g5_days {y : Int64} {σ : r_St} (hI : Inv0 a σ) (h : ∀ σ', Inv0 a σ' → K (dgYs a y) σ') : M_X5_mixDays σ K y :=
  b_X5_mixDays (g5_day (j := 0) (d := 0) hI (by decide) rfl (by decide) (fun _ I1 => g5_day (j := 1) (d := 1) I1 (by decide) rfl (by decide) (fun _ I2 => g5_day (j := 2) (d := 6) I2 (by decide) rfl (by decide) (fun _ I3 => g5_day (j := 3) (d := 20) I3 (by decide) rfl (by decide) (fun _ I4 => g5_day (j := 4) (d := 39) I4 (by decide) rfl (by decide) (fun s5 I5 => b_X5_mixDays_15 ⟨fun _ => h s5 I5, fun c => absurd (Int32.le_refl _) c⟩))))))
theorem g5_fines {h0 : Int64} (h : ∀ σ', Inv0 a σ' → K (mxI (mxI (dgF a h0 (a.1 6)) (nI (coV a 0))) (nI (coV a 1))) σ') : ∀ m k, k + m = a.1 6 → ∀ σ, Inv0 a σ → R_X5_mixFines_5 σ K (dgF a h0 k) (nI k) := by
  intro m
  induction m with
  | zero =>
    intro k hk σ I
    have e : k = a.1 6 := by omega
    subst e
    refine b_X5_mixFines_5 ⟨fun _ => c5_coins (q := 0) I (by decide) (fun s1 I1 => c5_coins (q := 1) I1 (by decide) (fun s2 I2 => h s2 I2)), fun c => ?_⟩
    rw [I.2.1.2.2.2.2.2.1.2.1] at c
    exact absurd (Int32.le_refl _) c
  | succ m ih =>
    intro k hk σ I
    have h12 := I.1.2.2.2.2.2.2.2.1.1
    refine b_X5_mixFines_5 ⟨fun c => ?_, fun _ => c5_fined I (by omega) (fun s1 I1 => ?_)⟩
    · rw [I.2.1.2.2.2.2.2.1.2.1] at c
      have := le_of_nI (by omega) (by omega) c
      omega
    · rw [nI_1]
      exact ih (k + 1) (by omega) s1 I1
theorem g5_plans {y : Int64} {σ : r_St} (hI : Inv0 a σ) (h : ∀ σ', Inv0 a σ' → K (dgP a y) σ') : M_X5_mixPlans σ K y :=
  b_X5_mixPlans (c5_finish (d := 2) hI (by decide) (Or.inl rfl) (fun _ I1 => c5_finish (d := 2) I1 (by decide) (Or.inr ⟨0, by decide, rfl⟩) (fun _ I2 => c5_plan (d := 2) I2 (by decide) (Or.inl rfl) (fun _ I3 => c5_plan (d := 2) I3 (by decide) (Or.inr ⟨0, by decide, rfl⟩) (fun _ I4 => c5_words (d := 4) (m := 1) (w := 0) I4 (by decide) (by decide) (by decide) (fun _ I5 => c5_words (d := 4) (m := 1) (w := 1) I5 (by decide) (by decide) (by decide) (fun s6 I6 => h s6 I6)))))))
theorem g5_digest (h : ∀ σ', Inv0 a σ' → K (dgV a) σ') : ∀ m i, i + m = 8 → ∀ σ, Inv0 a σ → R_X5_digest_6 σ K (dgC a i) (nI i) := by
  intro m
  induction m with
  | zero =>
    intro i hi σ I
    have e : i = 8 := by omega
    subst e
    refine b_X5_digest_6 ⟨fun _ => b_X5_fault ?_, fun c => absurd (by decide) c⟩
    rw [I.2.1.1.2.2.2.2.1]
    refine b_X5_mixDeeds (g5_deeds (fun s1 I1 => g5_days I1 (fun s2 I2 => c5_never I2 (fun s3 I3 => c5_alike I3 (fun s4 I4 => b_X5_mixFines (g5_fines (fun s5 I5 => g5_plans I5 (fun s6 I6 => c5_when I6 (Or.inl rfl) (fun s7 I7 => c5_when I7 (Or.inr ⟨0, by decide, rfl⟩) (fun s8 I8 => c5_ask I8 (fun s9 I9 => c5_forged I9 (fun s10 I10 => c5_year (n := 30) (w := 0) I10 (by decide) (by decide) (by decide) (fun s11 I11 => c5_year (n := 30) (w := 1) I11 (by decide) (by decide) (by decide) (fun s12 I12 => h s12 I12)))))))) (a.1 6) 0 (by omega) s4 I4))))) (dd a) 0 (by omega) σ I)
  | succ m ih =>
    intro i hi σ I
    refine b_X5_digest_6 ⟨fun c => ?_, fun _ => c5_count I (fun s1 I1 => ?_)⟩
    · have := lt_of_nI (x := 7) (by decide) (by omega) c
      omega
    · rw [nI_1]
      exact ih (i + 1) (by omega) s1 I1
/-! the reference -/
theorem g6_deed {y : Int64} {q : Nat} {σ : r_St} (hI : Inv1 a σ) (hR : Read1 a σ) (hq : q < dd a) (h : ∀ σ', Inv1 a σ' → Read1 a σ' → K (dgQ a y q) σ') : M_X6_deedDigest σ K y (nI q) := by
  refine b_X6_deedDigest (b_X6_deedDigest_6 ⟨fun c => absurd c (by decide), fun _ => c6_deedOf (w := 0) hI hR hq (by decide) (b_X6_deedDigest_6 ⟨fun c => absurd c (by decide), fun _ => c6_deedOf (w := 1) hI hR hq (by decide) (b_X6_deedDigest_6 ⟨fun c => absurd c (by decide), fun _ => c6_deedOf (w := 2) hI hR hq (by decide) (b_X6_deedDigest_6 ⟨fun _ => ?_, fun c => absurd (by decide) c⟩)⟩)⟩)⟩)
  exact c6_crossing hI hq (fun s1 I1 _ => c6_soonestOf (n := 3) (d := 5) I1 hq (by decide) (by decide) (by decide) (fun s2 I2 _ => c6_cheapest (n := 4) (d := 2) (w := 0) I2 hq (by decide) (by decide) (by decide) (by decide) (fun s3 I3 _ => c6_cheapest (n := 4) (d := 2) (w := 1) I3 hq (by decide) (by decide) (by decide) (by decide) (fun s4 I4 _ => c6_chance (c := 5) (d := 3) (n := 4) (w := 0) I4 (by decide) (by decide) hq (by decide) (by decide) (fun s5 I5 _ => c6_chance (c := 5) (d := 3) (n := 4) (w := 1) I5 (by decide) (by decide) hq (by decide) (by decide) (fun s6 I6 R6 => h s6 I6 R6))))))
theorem g6_day {y : Int64} {d : Nat} {σ : r_St} (hI : Inv1 a σ) (hd : d < 40) (h : ∀ σ', Inv1 a σ' → K (dgY a y d) σ') : M_X6_dayDigest σ K y (nI d) :=
  b_X6_dayDigest (k6_rulesOf hI hd (c6_allowsOf (q := 0) hI hd (by decide) (fun _ I1 _ => c6_allowsOf (q := 1) I1 hd (by decide) (fun _ I2 _ => c6_allowedOf I2 hd (fun s3 I3 _ => h s3 I3)))))
theorem g6_fines (h : ∀ σ', Inv1 a σ' → K (dgV a) σ') : ∀ m k, k + m = a.1 6 → ∀ σ, Inv1 a σ → R_X6_digest_130 σ K (dgF a (mxI (mxI (dgB a) (nI (neV a))) (alR a 40 0)) k) (nI k) := by
  intro m
  induction m with
  | zero =>
    intro k hk σ I
    have e : k = a.1 6 := by omega
    subst e
    refine b_X6_digest_130 ⟨fun _ => ?_, fun c => ?_⟩
    · exact c6_coins (q := 0) I (by decide) (fun _ I1 _ => c6_coins (q := 1) I1 (by decide) (fun _ I2 _ => c6_finish (d := 2) I2 (by decide) (Or.inl rfl) (fun _ I1 _ => c6_finish (d := 2) I1 (by decide) (Or.inr ⟨0, by decide, rfl⟩) (fun _ I2 _ => c6_plan (d := 2) I2 (by decide) (Or.inl rfl) (fun _ I3 _ => c6_plan (d := 2) I3 (by decide) (Or.inr ⟨0, by decide, rfl⟩) (fun _ I4 _ => c6_words (d := 4) (m := 1) (w := 0) I4 (by decide) (by decide) (by decide) (fun _ I5 _ => c6_words (d := 4) (m := 1) (w := 1) I5 (by decide) (by decide) (by decide) (fun s6 I6 _ => c6_when I6 (Or.inl rfl) (fun s7 I7 _ => c6_when I7 (Or.inr ⟨0, by decide, rfl⟩) (fun s8 I8 _ => c6_ask I8 (fun s9 I9 _ => c6_forged I9 (fun s10 I10 _ => c6_year (n := 30) (w := 0) I10 (by decide) (by decide) (by decide) (fun s11 I11 _ => c6_year (n := 30) (w := 1) I11 (by decide) (by decide) (by decide) (fun s12 I12 _ => h s12 I12))))))))))))))
    · rw [I.2.2.2.2.2.2.1.1] at c
      exact absurd (Int32.le_refl _) c
  | succ m ih =>
    intro k hk σ I
    have h12 := I.1.2.2.2.2.2.2.2.1.1
    refine b_X6_digest_130 ⟨fun c => ?_, fun _ => c6_fined I (by omega) (fun s1 I1 _ => ?_)⟩
    · rw [I.2.2.2.2.2.2.1.1] at c
      have := le_of_nI (by omega) (by omega) c
      omega
    · rw [nI_1]
      exact ih (k + 1) (by omega) s1 I1
theorem g6_deeds (h : ∀ σ', Inv1 a σ' → K (dgV a) σ') : ∀ m q, q + m = dd a → ∀ σ, Inv1 a σ → Read1 a σ → R_X6_digest_45 σ K (dgD a (mxI (dgC a 8) (tflt a)) q) (nI q) := by
  intro m
  induction m with
  | zero =>
    intro q hq σ I R
    have e : q = dd a := by omega
    subst e
    refine b_X6_digest_45 ⟨fun _ => ?_, fun c => ?_⟩
    · exact g6_day (d := 0) I (by decide) (fun _ I1 => g6_day (d := 1) I1 (by decide) (fun _ I2 => g6_day (d := 6) I2 (by decide) (fun _ I3 => g6_day (d := 20) I3 (by decide) (fun _ I4 => g6_day (d := 39) I4 (by decide) (fun _ I5 => c6_never I5 (fun _ I6 _ => c6_alike I6 (fun s7 I7 _ => g6_fines h (a.1 6) 0 (by omega) s7 I7)))))))
    · rw [R.1] at c
      exact absurd (Int32.le_refl _) c
  | succ m ih =>
    intro q hq σ I R
    have h8 := dd_le I.1.1
    refine b_X6_digest_45 ⟨fun c => ?_, fun _ => g6_deed I R (by omega) (fun s1 I1 R1 => ?_)⟩
    · rw [R.1] at c
      have := le_of_nI (by omega) (by omega) c
      omega
    · rw [nI_1]
      exact ih (q + 1) (by omega) s1 I1 R1
theorem g6_digest (h : ∀ σ', Inv1 a σ' → K (dgV a) σ') : ∀ m i, i + m = 8 → ∀ σ, Inv1 a σ → R_X6_digest_6 σ K (dgC a i) (nI i) := by
  intro m
  induction m with
  | zero =>
    intro i hi σ I
    have e : i = 8 := by omega
    subst e
    exact b_X6_digest_6 ⟨fun _ => k6_read I (fun s1 I1 _ R1 => g6_deeds h (dd a) 0 (by omega) s1 I1 R1), fun c => absurd (by decide) c⟩
  | succ m ih =>
    intro i hi σ I
    refine b_X6_digest_6 ⟨fun c => ?_, fun _ => c6_count I (fun s1 I1 => ?_)⟩
    · have := le_of_nI (x := 8) (by decide) (by omega) c
      omega
    · rw [nI_1]
      exact ih (i + 1) (by omega) s1 I1
theorem p_digest (a : ab) (hW : WF a) : PL a (fun σ K => M_X5_digest σ K) (fun σ K => M_X6_digest σ K) :=
  ⟨dgV a, a, fun σ K hI h => b_X5_digest (g5_digest h 8 0 (by omega) σ hI), fun σ K hI h => b_X6_digest (g6_digest h 8 0 (by omega) σ hI)⟩
end DGS
