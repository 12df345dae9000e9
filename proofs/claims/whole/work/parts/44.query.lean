/-! ===== queries: deed, rules, allows, allowed, soonest, never, alike, crossing ===== -/
theorem nI_big (n : Nat) : nI n = nI (n % 4294967296) := by
  apply Int32.toBitVec_inj.1
  show BitVec.ofNat 32 n = BitVec.ofNat 32 (n % 4294967296)
  apply BitVec.eq_of_toNat_eq
  rw [BitVec.toNat_ofNat, BitVec.toNat_ofNat]
  show n % 4294967296 = n % 4294967296 % 4294967296
  omega
theorem n_andn (a b : Nat) (ha : a < 4294967296) : nI a &&& (nI b ^^^ (-1)) = nI (a ^^^ (a &&& b)) := by
  rw [show (-1 : Int32) = nI (2 ^ 32 - 1) by decide, n_xor, n_and]
  congr 1
  apply Nat.eq_of_testBit_eq
  intro i
  simp only [Nat.testBit_xor, Nat.testBit_and, Nat.testBit_two_pow_sub_one]
  by_cases hi : i < 32
  · simp only [hi, decide_true]
    cases a.testBit i <;> cases b.testBit i <;> rfl
  · have : a.testBit i = false := Nat.testBit_lt_two_pow (Nat.lt_of_lt_of_le ha (by
      have := Nat.pow_le_pow_right (n := 2) (by decide) (show 32 ≤ i by omega)
      omega))
    rw [this]
    simp
section QRY
variable {σ : r_St} {K : Int32 → r_St → Prop} {a : ab}
/-! deed -/
def dedV (a : ab) (q w : Nat) : Nat := if w = 0 then fin a q else if w = 1 then b2n ((el a).testBit q) else b2n ((yo a).testBit q)
theorem c5_deed {q w : Nat} (hI : Inv0 a σ) (hq : q < dd a) (hw : w ≤ 2) (h : K (nI (dedV a q w)) σ) : M_X5_deed σ K (nI q) (nI w) := by
  obtain ⟨hW, hB, hT⟩ := hI
  have h8 := dd_le hW.1
  obtain ⟨t1, t2, t3, t4, t5, t6⟩ := hB.1
  have hel := bits_small (el_lt a) h8
  have hyo := bits_small (yo_lt a) h8
  refine b_X5_deed ⟨fun _ => ⟨fun c => ?_, fun c => ?_, fun c => ?_, fun c => ?_⟩, fun c => ?_⟩
  · have c := nI_inj (b := 0) (by omega) (by decide) c
    subst c
    exact k0_fineOf hW.1 t3 t6 hq h
  · have c := nI_inj (b := 1) (by omega) (by decide) c
    subst c
    rw [t4, iu_bit (by omega) (by omega)]
    exact h
  · have c := nI_inj (b := 2) (by omega) (by decide) c
    subst c
    rw [hB.2.1.1]
    refine k0_youngerBits hW.1 t3 t4 hW.2.2.1 ?_
    rw [iu_bit (by omega) (by omega)]
    exact h
  · exfalso
    rcases (show w = 0 ∨ w = 1 ∨ w = 2 by omega) with rfl | rfl | rfl
    · exact c.1 rfl
    · exact c.2.1 rfl
    · exact c.2.2 rfl
  · rw [t3] at c
    exact absurd ((IN_lt_iff (by omega)).mpr ⟨q, hq, rfl⟩) c
theorem c6_deedOf {q w : Nat} (hI : Inv1 a σ) (hR : Read1 a σ) (hq : q < dd a) (hw : w ≤ 2) (h : K (nI (dedV a q w)) σ) : M_X6_deedOf σ K (nI q) (nI w) := by
  have hW := hI.1
  have h8 := dd_le hW.1
  have hel := bits_small (el_lt a) h8
  have hyo := bits_small (yo_lt a) h8
  refine b_X6_deedOf ⟨fun c => ⟨fun c2 => ?_, fun c2 => ?_⟩, fun c => ⟨q, rfl, by omega, ?_⟩⟩
  · have e : w = 2 := by
      rcases (show w = 0 ∨ w = 1 ∨ w = 2 by omega) with rfl | rfl | rfl
      · exact absurd rfl c
      · exact absurd rfl c2
      · rfl
    subst e
    refine k6_younger h8 hW.2.2.1 hR.1 hR.2.1 hI.2.2.1.1 ?_
    rw [sr_bit (by omega) (by omega)]
    exact h
  · have c := nI_inj (b := 1) (by omega) (by decide) c2
    subst c
    rw [hR.2.1, sr_bit (by omega) (by omega)]
    exact h
  · have c := nI_inj (b := 0) (by omega) (by decide) c
    subst c
    rw [hR.2.2 q hq]
    exact h
/-- is there such a deed: the reference's test -/
theorem k6_isDeed {x : Int32} (hI : Inv1 a σ) (h1 : ∀ q, q < dd a → x = nI q → ∀ σ', Inv1 a σ' → Read1 a σ' → K 1 σ') (h0 : (∀ q, q < dd a → ¬ x = nI q) → ∀ σ', Inv1 a σ' → K 0 σ') : M_X6_isDeed σ K x := by
  have h8 := dd_le hI.1.1
  refine b_X6_isDeed (k6_read hI (fun s I f R => ?_))
  rw [R.1]
  refine ⟨fun c => ?_, fun c => ?_⟩
  · obtain ⟨j, j1, j2⟩ := (IN_lt_iff (by omega)).mp c
    exact h1 j j1 j2 s I R
  · exact h0 (fun q hq e => c ((IN_lt_iff (by omega)).mpr ⟨q, hq, e⟩)) s I
theorem no_deed {x : Int32} (hI : Inv0 a σ) (h : ∀ q, q < dd a → ¬ x = nI q) : ¬ IN x 0 (σ.1 1 4 - 1) := by
  have h8 := dd_le hI.1.1
  intro c
  rw [hI.2.1.1.2.2.1] at c
  obtain ⟨j, j1, j2⟩ := (IN_lt_iff (by omega)).mp c
  exact h j j1 j2
theorem is_deed {q : Nat} (hI : Inv0 a σ) (h : q < dd a) : IN (nI q) 0 (σ.1 1 4 - 1) := by
  have h8 := dd_le hI.1.1
  rw [hI.2.1.1.2.2.1]
  exact (IN_lt_iff (by omega)).mpr ⟨q, h, rfl⟩
theorem p_deed (a : ab) (hW : WF a) (x1 x2 : Int32) : PI a (fun σ K => M_X5_deed σ K x1 x2) (fun σ K => M_X6_deed σ K x1 x2) := by
  have h8 := dd_le hW.1
  by_cases c0 : ¬ ∃ q, q < dd a ∧ x1 = nI q
  · have c0 : ∀ q, q < dd a → ¬ x1 = nI q := fun q h e => c0 ⟨q, h, e⟩
    exact ⟨-2, a, fun σ K hI h => b_X5_deed ⟨fun c => absurd c (no_deed hI c0), fun _ => h σ hI⟩, fun σ K hI h => b_X6_deed (k6_isDeed hI (fun q h1 h2 => absurd h2 (c0 q h1)) (fun _ s I => ⟨fun _ => h s I, fun c => absurd rfl c⟩))⟩
  obtain ⟨q, hq, rfl⟩ := Classical.not_not.mp c0
  by_cases c1 : ¬ IN x2 0 2
  · refine ⟨-2, a, fun σ K hI h => b_X5_deed ⟨fun _ => ⟨fun c => ?_, fun c => ?_, fun c => ?_, fun _ => h σ hI⟩, fun c => absurd (is_deed hI hq) c⟩, fun σ K hI h => b_X6_deed (k6_isDeed hI (fun q h1 h2 s I R => ⟨fun c => absurd c (by decide), fun _ => ⟨fun c => absurd c c1, fun _ => h s I⟩⟩) (fun c => absurd rfl (c q hq)))⟩
    · exact absurd (by rw [c]; exact (IN_iff (lo := 0) (hi := 2) (by decide) (by decide)).mpr ⟨0, by omega, by omega, rfl⟩) c1
    · exact absurd (by rw [c]; exact (IN_iff (lo := 0) (hi := 2) (by decide) (by decide)).mpr ⟨1, by omega, by omega, rfl⟩) c1
    · exact absurd (by rw [c]; exact (IN_iff (lo := 0) (hi := 2) (by decide) (by decide)).mpr ⟨2, by omega, by omega, rfl⟩) c1
  have c1 := Classical.not_not.mp c1
  obtain ⟨w, l, r, rfl⟩ := (IN_iff (lo := 0) (hi := 2) (by decide) (by decide)).mp c1
  exact ⟨nI (dedV a q w), a, fun σ K hI h => c5_deed hI hq r (h σ hI), fun σ K hI h => b_X6_deed (k6_isDeed hI (fun q2 h1 h2 s I R => ⟨fun c => absurd c (by decide), fun _ => ⟨fun _ => c6_deedOf I R hq r (h s I), fun c => absurd c1 c⟩⟩) (fun c => absurd rfl (c q hq)))⟩
/-! rules, allows, allowed -/
theorem c5_rules {d : Nat} (hI : Inv0 a σ) (hd : d < 40) (h : ∀ σ', Inv0 a σ' → K (ruI (ru a d)) σ') : M_X5_rules σ K (nI d) :=
  b_X5_rules ⟨fun _ => k5_laws hI (fun s I T _ => k1_rulerOn isLaws_32 T.2.1 hd (h s I)), fun c => absurd (IN_day hd) c⟩
theorem c5_allows {d q : Nat} (hI : Inv0 a σ) (hd : d < 40) (hq : q < 2) (h : ∀ σ', Inv0 a σ' → K (nI (sK a (-1) d q)) σ') : M_X5_allows σ K (nI d) (nI q) :=
  b_X5_allows ⟨fun _ => ⟨fun _ => k5_laws hI (fun s I T _ => k1_said isLaws_32 T hd hq (h s I)), fun c => absurd ((IN_iff (lo := 0) (hi := 1) (by decide) (by decide)).mpr ⟨q, by omega, by omega, rfl⟩) c⟩, fun c => absurd (IN_day hd) c⟩
theorem c5_allowed {d : Nat} (hI : Inv0 a σ) (hd : d < 40) (h : ∀ σ', Inv0 a σ' → K (nI (op a (-1) d)) σ') : M_X5_allowed σ K (nI d) :=
  b_X5_allowed ⟨fun _ => k5_laws hI (fun s I T _ => k1_openOn isLaws_32 T hd (h s I)), fun c => absurd (IN_day hd) c⟩
theorem c6_allowsOf {d q : Nat} (hI : Inv1 a σ) (hd : d < 40) (hq : q < 2) (h : ∀ σ', Inv1 a σ' → Read1 a σ' → K (nI (sK a (-1) d q)) σ') : M_X6_allowsOf σ K (nI d) (nI q) := by
  refine b_X6_allowsOf (k6_laysTold hI (fun s I L => ?_))
  have e : (40 : Int32) * nI q + nI d = nI (40 * q + d) := by
    rw [show (40 : Int32) = nI 40 from rfl, pk_mul, nI_add]
  refine ⟨40 * q + d, e, by omega, ?_⟩
  rcases (show q = 0 ∨ q = 1 by omega) with rfl | rfl
  · rw [show 40 * 0 + d = d by omega, (L.2 d hd).2.1]
    exact h s I L.1
  · rw [show 40 * 1 + d = 40 + d by omega, (L.2 d hd).2.2.1]
    exact h s I L.1
theorem c6_allowedOf {d : Nat} (hI : Inv1 a σ) (hd : d < 40) (h : ∀ σ', Inv1 a σ' → Read1 a σ' → K (nI (op a (-1) d)) σ') : M_X6_allowedOf σ K (nI d) := by
  refine b_X6_allowedOf (k6_laysTold hI (fun s I L => ⟨d, rfl, hd, ?_⟩))
  rw [L.opd hd]
  exact h s I L.1
theorem p_rules (a : ab) (hW : WF a) (x1 : Int32) : PI a (fun σ K => M_X5_rules σ K x1) (fun σ K => M_X6_rules σ K x1) := by
  by_cases c0 : ¬ IN x1 0 39
  · exact ⟨-2, a, fun σ K hI h => b_X5_rules ⟨fun c => absurd c c0, fun _ => h σ hI⟩, fun σ K hI h => b_X6_rules ⟨fun c => absurd c c0, fun _ => h σ hI⟩⟩
  have c0 := Classical.not_not.mp c0
  obtain ⟨d, l, r, rfl⟩ := (IN_iff (lo := 0) (hi := 39) (by decide) (by decide)).mp c0
  exact ⟨ruI (ru a d), a, fun σ K hI h => c5_rules hI (by omega) h, fun σ K hI h => b_X6_rules ⟨fun _ => k6_rulesOf hI (by omega) (h σ hI), fun c => absurd c0 c⟩⟩
theorem p_allows (a : ab) (hW : WF a) (x1 x2 : Int32) : PI a (fun σ K => M_X5_allows σ K x1 x2) (fun σ K => M_X6_allows σ K x1 x2) := by
  by_cases c0 : ¬ IN x1 0 39
  · exact ⟨-2, a, fun σ K hI h => b_X5_allows ⟨fun c => absurd c c0, fun _ => h σ hI⟩, fun σ K hI h => b_X6_allows ⟨fun c => absurd c c0, fun _ => h σ hI⟩⟩
  have c0 := Classical.not_not.mp c0
  by_cases c1 : ¬ IN x2 0 1
  · exact ⟨-2, a, fun σ K hI h => b_X5_allows ⟨fun _ => ⟨fun c => absurd c c1, fun _ => h σ hI⟩, fun c => absurd c0 c⟩, fun σ K hI h => b_X6_allows ⟨fun _ => ⟨fun c => absurd c c1, fun _ => h σ hI⟩, fun c => absurd c0 c⟩⟩
  have c1 := Classical.not_not.mp c1
  obtain ⟨d, l, r, rfl⟩ := (IN_iff (lo := 0) (hi := 39) (by decide) (by decide)).mp c0
  obtain ⟨q, l2, r2, rfl⟩ := (IN_iff (lo := 0) (hi := 1) (by decide) (by decide)).mp c1
  exact ⟨nI (sK a (-1) d q), a, fun σ K hI h => c5_allows hI (by omega) (by omega) h, fun σ K hI h => b_X6_allows ⟨fun _ => ⟨fun _ => c6_allowsOf hI (by omega) (by omega) (fun s I _ => h s I), fun c => absurd c1 c⟩, fun c => absurd c0 c⟩⟩
theorem p_allowed (a : ab) (hW : WF a) (x1 : Int32) : PI a (fun σ K => M_X5_allowed σ K x1) (fun σ K => M_X6_allowed σ K x1) := by
  by_cases c0 : ¬ IN x1 0 39
  · exact ⟨-2, a, fun σ K hI h => b_X5_allowed ⟨fun c => absurd c c0, fun _ => h σ hI⟩, fun σ K hI h => b_X6_allowed ⟨fun c => absurd c c0, fun _ => h σ hI⟩⟩
  have c0 := Classical.not_not.mp c0
  obtain ⟨d, l, r, rfl⟩ := (IN_iff (lo := 0) (hi := 39) (by decide) (by decide)).mp c0
  exact ⟨nI (op a (-1) d), a, fun σ K hI h => c5_allowed hI (by omega) h, fun σ K hI h => b_X6_allowed ⟨fun _ => c6_allowedOf hI (by omega) (fun s I _ => h s I), fun c => absurd c0 c⟩⟩
/-! soonest -/
def soV (a : ab) (q n d : Nat) : Int32 := fdR (stD (odm a q) (n - 1)) (40 - d) d
theorem c5_soonest {q n d : Nat} (hI : Inv0 a σ) (hq : q < dd a) (hn : 1 ≤ n) (hn9 : n ≤ 9) (hd : d < 40) (h : ∀ σ', Inv0 a σ' → K (soV a q n d) σ') : M_X5_soonest σ K (nI q) (nI n) (nI d) := by
  have h8 := dd_le hI.1.1
  have hs := stD_le (odm a q) (n - 1)
  have ho := odm_lt a q
  refine b_X5_soonest ⟨fun _ => ⟨fun _ => ⟨fun _ => k5_laws hI (fun s I T _ => ?_), fun c => absurd (IN_day hd) c⟩, fun c => absurd ((IN_iff (lo := 1) (hi := 9) (by decide) (by decide)).mpr ⟨n, hn, hn9, rfl⟩) c⟩, fun c => absurd (is_deed hI hq) c⟩
  obtain ⟨m, rfl⟩ : ∃ m, n = m + 1 := ⟨n - 1, by omega⟩
  exact k1_startDays isLaws_32 hI.1 T (by omega) (by omega) (k5_firstDay (Nat.lt_of_le_of_lt hs (by omega)) (by omega) (h s I))
theorem c6_soonestOf {q n d : Nat} (hI : Inv1 a σ) (hq : q < dd a) (hn : 1 ≤ n) (hn9 : n ≤ 9) (hd : d < 40) (h : ∀ σ', Inv1 a σ' → Read1 a σ' → K (soV a q n d) σ') : M_X6_soonestOf σ K (nI q) (nI n) (nI d) := by
  have h8 := dd_le hI.1.1
  exact b_X6_soonestOf (k6_laysTold hI (fun s I L => k6_firstFor hI.1 L (by omega) hn hn9 (by omega) (h s I L.1)))
theorem p_soonest (a : ab) (hW : WF a) (x1 x2 x3 : Int32) : PI a (fun σ K => M_X5_soonest σ K x1 x2 x3) (fun σ K => M_X6_soonest σ K x1 x2 x3) := by
  by_cases c0 : ¬ ∃ q, q < dd a ∧ x1 = nI q
  · have c0 : ∀ q, q < dd a → ¬ x1 = nI q := fun q h e => c0 ⟨q, h, e⟩
    exact ⟨-2, a, fun σ K hI h => b_X5_soonest ⟨fun c => absurd c (no_deed hI c0), fun _ => h σ hI⟩, fun σ K hI h => b_X6_soonest (k6_isDeed hI (fun q h1 h2 => absurd h2 (c0 q h1)) (fun _ s I => ⟨fun _ => h s I, fun c => absurd rfl c⟩))⟩
  obtain ⟨q, hq, rfl⟩ := Classical.not_not.mp c0
  by_cases c1 : ¬ IN x2 1 9
  · exact ⟨-2, a, fun σ K hI h => b_X5_soonest ⟨fun _ => ⟨fun c => absurd c c1, fun _ => h σ hI⟩, fun c => absurd (is_deed hI hq) c⟩, fun σ K hI h => b_X6_soonest (k6_isDeed hI (fun q h1 h2 s I R => ⟨fun c => absurd c (by decide), fun _ => ⟨fun c => absurd c c1, fun _ => h s I⟩⟩) (fun c => absurd rfl (c q hq)))⟩
  have c1 := Classical.not_not.mp c1
  by_cases c2 : ¬ IN x3 0 39
  · exact ⟨-2, a, fun σ K hI h => b_X5_soonest ⟨fun _ => ⟨fun _ => ⟨fun c => absurd c c2, fun _ => h σ hI⟩, fun c => absurd c1 c⟩, fun c => absurd (is_deed hI hq) c⟩, fun σ K hI h => b_X6_soonest (k6_isDeed hI (fun q h1 h2 s I R => ⟨fun c => absurd c (by decide), fun _ => ⟨fun _ => ⟨fun c => absurd c c2, fun _ => h s I⟩, fun c => absurd c1 c⟩⟩) (fun c => absurd rfl (c q hq)))⟩
  have c2 := Classical.not_not.mp c2
  obtain ⟨n, l, r, rfl⟩ := (IN_iff (lo := 1) (hi := 9) (by decide) (by decide)).mp c1
  obtain ⟨d, l2, r2, rfl⟩ := (IN_iff (lo := 0) (hi := 39) (by decide) (by decide)).mp c2
  exact ⟨soV a q n d, a, fun σ K hI h => c5_soonest hI hq l r (by omega) h, fun σ K hI h => b_X6_soonest (k6_isDeed hI (fun q2 h1 h2 s I R => ⟨fun c => absurd c (by decide), fun _ => ⟨fun _ => ⟨fun _ => c6_soonestOf I hq l r (by omega) (fun s I _ => h s I), fun c => absurd c2 c⟩, fun c => absurd c1 c⟩⟩) (fun c => absurd rfl (c q hq)))⟩
/-! never -/
def nvR (f : Nat → Nat) (m : Nat) : Nat → Nat
  | 0 => m
  | n + 1 => nvR f m n ^^^ (nvR f m n &&& f n)
def orR (f : Nat → Nat) : Nat → Nat
  | 0 => 0
  | n + 1 => orR f n ||| f n
theorem nv_or (f : Nat → Nat) (m n : Nat) : nvR f m n = m ^^^ (m &&& orR f n) := by
  induction n with
  | zero => simp [nvR, orR]
  | succ n ih =>
    unfold nvR orR
    rw [ih]
    apply Nat.eq_of_testBit_eq
    intro i
    simp only [Nat.testBit_xor, Nat.testBit_and, Nat.testBit_or]
    cases m.testBit i <;> cases (orR f n).testBit i <;> cases (f n).testBit i <;> rfl
def neV (a : ab) : Nat := nvR (op a (-1)) (2 ^ dd a - 1) 40
theorem nvR_le (f : Nat → Nat) (m n : Nat) {b : Nat} (h : m < 2 ^ b) : nvR f m n < 2 ^ b := by
  induction n with
  | zero => exact h
  | succ n ih => exact xor_lt ih (and_lt ih)
theorem l5_never (hW : WF a) (hT : Told a (-1) 32 σ) (h : K (nI (neV a)) σ) : ∀ m i, i + m = 40 → R_X5_never_12 σ K (nI (nvR (op a (-1)) (2 ^ dd a - 1) i)) (nI i) := by
  have h8 := dd_le hW.1
  have hp := pow_lt8 h8
  intro m
  induction m with
  | zero =>
    intro i hi
    have e : i = 40 := by omega
    subst e
    exact b_X5_never_12 ⟨fun _ => h, fun c => absurd (Int32.le_refl _) c⟩
  | succ m ih =>
    intro i hi
    refine b_X5_never_12 ⟨fun c => ?_, fun _ => k1_openOn isLaws_32 hT (by omega) ?_⟩
    · have := le_of_nI (x := 40) (by decide) (by omega) c
      omega
    · have := nvR_le (op a (-1)) (2 ^ dd a - 1) i (b := 8) (by
        have := Nat.two_pow_pos (dd a)
        omega)
      rw [n_andn _ _ (by omega), nI_1]
      exact ih (i + 1) (by omega)
theorem c5_never (hI : Inv0 a σ) (h : ∀ σ', Inv0 a σ' → K (nI (neV a)) σ') : M_X5_never σ K := by
  refine b_X5_never (k5_laws hI (fun s I T _ => ?_))
  rw [T.1, all_nI (dd_le hI.1.1)]
  exact l5_never hI.1 T (h s I) 40 0 (by omega)
theorem l6_never (hW : WF a) (hL : Laid1 a (-1) σ) (h : K (nI (neV a)) σ) : ∀ m i, i + m = 40 → R_X6_neverNow_8 σ K (nI (orR (op a (-1)) i)) (nI i) := by
  have h8 := dd_le hW.1
  have hp := pow_lt8 h8
  intro m
  induction m with
  | zero =>
    intro i hi
    have e : i = 40 := by omega
    subst e
    refine b_X6_neverNow_8 ⟨fun _ => ?_, fun c => absurd (Int32.le_refl _) c⟩
    rw [hL.1.1, all_nI h8, n_andn _ _ (by omega), ← nv_or]
    exact h
  | succ m ih =>
    intro i hi
    refine b_X6_neverNow_8 ⟨fun c => ?_, fun _ => ⟨i, rfl, by omega, ?_⟩⟩
    · have := le_of_nI (x := 40) (by decide) (by omega) c
      omega
    · rw [hL.opd (by omega), n_or, nI_1]
      exact ih (i + 1) (by omega)
theorem c6_never (hI : Inv1 a σ) (h : ∀ σ', Inv1 a σ' → Read1 a σ' → K (nI (neV a)) σ') : M_X6_neverNow σ K :=
  b_X6_neverNow (k6_laysTold hI (fun s I L => l6_never hI.1 L (h s I L.1) 40 0 (by omega)))
theorem p_never (a : ab) (hW : WF a) : PI a (fun σ K => M_X5_never σ K) (fun σ K => M_X6_never σ K) :=
  ⟨nI (neV a), a, fun σ K hI h => c5_never hI h, fun σ K hI h => b_X6_never (c6_never hI (fun s I _ => h s I))⟩
/-! alike -/
def alR (a : ab) : Nat → Nat → Int32
  | 0, _ => -1
  | m + 1, d => if sE a (-1) d = sY a (-1) d then nI d else alR a m (d + 1)
theorem l5_alike (hW : WF a) (hT : Told a (-1) 32 σ) : ∀ m d, d + m = 40 → K (alR a m d) σ → R_X5_alike_7 σ K (nI d) := by
  intro m
  induction m with
  | zero =>
    intro d hd h
    have e : d = 40 := by omega
    subst e
    exact b_X5_alike_7 ⟨fun _ => h, fun c => absurd (Int32.le_refl _) c⟩
  | succ m ih =>
    intro d hd h
    unfold alR at h
    refine b_X5_alike_7 ⟨fun c => ?_, fun _ => k1_said0 isLaws_32 hT (by omega) (k1_said1 isLaws_32 hT (by omega) ⟨fun c => ?_, fun c => ?_⟩)⟩
    · have := le_of_nI (x := 40) (by decide) (by omega) c
      omega
    · rw [if_neg (fun q => c (by rw [q]))] at h
      rw [nI_1]
      exact ih (d + 1) (by omega) h
    · have c := nI_inj (by have := sE_small hW (-1) d; omega) (by have := sY_small hW (-1) d; omega) c
      rw [if_pos c] at h
      exact h
theorem c5_alike (hI : Inv0 a σ) (h : ∀ σ', Inv0 a σ' → K (alR a 40 0) σ') : M_X5_alike σ K :=
  b_X5_alike (k5_laws hI (fun s I T _ => l5_alike hI.1 T 40 0 (by omega) (h s I)))
theorem l6_alike (hW : WF a) (hL : Laid1 a (-1) σ) : ∀ m d, d + m = 40 → K (alR a m d) σ → R_X6_alikeNow_6 σ K (nI d) := by
  intro m
  induction m with
  | zero =>
    intro d hd h
    have e : d = 40 := by omega
    subst e
    exact b_X6_alikeNow_6 ⟨fun _ => b_X6_alikeNow_36 ⟨fun _ => h, fun c => absurd (Int32.le_refl _) c⟩, fun c => absurd (Int32.le_refl _) c⟩
  | succ m ih =>
    intro d hd h
    unfold alR at h
    refine b_X6_alikeNow_6 ⟨fun c => ?_, fun c0 => ⟨d, rfl, by omega, 40 + d, nI_add 40 d, by omega, ?_⟩⟩
    · have := le_of_nI (x := 40) (by decide) (by omega) c
      omega
    · rw [(hL.2 d (by omega)).2.1, (hL.2 d (by omega)).2.2.1]
      refine ⟨fun c => ?_, fun c => ?_⟩
      · have c := nI_inj (by have := sE_small hW (-1) d; omega) (by have := sY_small hW (-1) d; omega) c
        rw [if_pos c] at h
        exact b_X6_alikeNow_36 ⟨fun c => absurd c c0, fun _ => h⟩
      · rw [if_neg (fun q => c (by rw [q]))] at h
        rw [nI_1]
        exact ih (d + 1) (by omega) h
theorem c6_alike (hI : Inv1 a σ) (h : ∀ σ', Inv1 a σ' → Read1 a σ' → K (alR a 40 0) σ') : M_X6_alikeNow σ K :=
  b_X6_alikeNow (k6_laysTold hI (fun s I L => l6_alike hI.1 L 40 0 (by omega) (h s I L.1)))
theorem p_alike (a : ab) (hW : WF a) : PI a (fun σ K => M_X5_alike σ K) (fun σ K => M_X6_alike σ K) :=
  ⟨alR a 40 0, a, fun σ K hI h => c5_alike hI h, fun σ K hI h => b_X6_alike (c6_alike hI (fun s I _ => h s I))⟩
/-! crossing -/
def crV (a : ab) (q : Nat) : Int32 := nI (stD (odm a q) 1)
theorem c5_crossing {q : Nat} (hI : Inv0 a σ) (hq : q < dd a) (h : ∀ σ', Inv0 a σ' → K (crV a q) σ') : M_X5_crossing σ K (nI q) := by
  have h8 := dd_le hI.1.1
  refine b_X5_crossing ⟨fun _ => k5_laws hI (fun s I T _ => k1_startDays (n := 1) isLaws_32 hI.1 T (by omega) (by omega) ?_), fun c => absurd (is_deed hI hq) c⟩
  rw [lN_i]
  exact h s I
theorem sl_1' {k : Nat} (hk : k < 32) : sl 1 (nI k) = nI (2 ^ k) := by
  have s_l : ∀ n, n < 32 → ((nI n &&& 31).toBitVec.smod 32).toNat = n := by decide
  have h : 2 ^ k < 2 ^ 32 := Nat.pow_lt_pow_right (by decide) hk
  have e := pk_shlN (n := 1) (nI k &&& 31) k (s_l k hk) (by omega)
  rw [Nat.one_mul] at e
  exact e
theorem l6_crossing {q : Nat} (hW : WF a) (hL : Laid1 a (-1) σ) (hq : q < dd a) (h : K (crV a q) σ) : ∀ m i, i + m = 32 → R_X6_crossingOf_8 σ K (nI q) (nI (mkb (fun d => (stD (odm a q) 1).testBit d) i)) (nI i) := by
  have h8 := dd_le hW.1
  intro m
  induction m with
  | zero =>
    intro i hi
    have e : i = 32 := by omega
    subst e
    refine b_X6_crossingOf_8 ⟨fun _ => ?_, fun c => absurd (Int32.le_refl _) c⟩
    have e2 : mkb (fun d => (stD (odm a q) 1).testBit d) 32 = stD (odm a q) 1 % 4294967296 := by
      apply Nat.eq_of_testBit_eq
      intro i
      rw [mkb_bit, show (4294967296 : Nat) = 2 ^ 32 from rfl, Nat.testBit_mod_two_pow]
    rw [e2, ← nI_big]
    exact h
  | succ m ih =>
    intro i hi
    have o1 := op_small hW (-1) i
    refine b_X6_crossingOf_8 ⟨fun c => ?_, fun _ => ⟨i, rfl, by omega, i + 1, nI_1 i, by omega, ?_⟩⟩
    · have := le_of_nI (x := 32) (by decide) (by omega) c
      omega
    · rw [hL.opd (by omega), hL.opd (by omega), n_and, sr_bit (by omega) (by
        have : op a (-1) i &&& op a (-1) (i + 1) ≤ op a (-1) i := Nat.and_le_left
        omega), Nat.testBit_and]
      have e : (stD (odm a q) 1).testBit i = ((op a (-1) i).testBit q && (op a (-1) (i + 1)).testBit q) := by
        rw [Bool.eq_iff_iff, stD_bit, Bool.and_eq_true]
        constructor
        · intro g
          have g0 := g 0 (by omega)
          have g1 := g 1 (by omega)
          rw [odm_bit hq (by omega)] at g0 g1
          exact ⟨g0, g1⟩
        · rintro ⟨g0, g1⟩ j hj
          rcases (show j = 0 ∨ j = 1 by omega) with rfl | rfl
          · rw [odm_bit hq (by omega)]; exact g0
          · rw [odm_bit hq (by omega)]; exact g1
      rw [← e]
      refine ⟨fun c => ?_, fun c => ?_⟩
      · have hb : (stD (odm a q) 1).testBit i = false := by
          cases hq2 : (stD (odm a q) 1).testBit i with
          | false => rfl
          | true => rw [hq2] at c; exact absurd rfl c
        rw [show (0 : Int32) = nI 0 from rfl, n_or, nI_1]
        have e3 : mkb (fun d => (stD (odm a q) 1).testBit d) i ||| 0 = mkb (fun d => (stD (odm a q) 1).testBit d) (i + 1) := by simp [mkb, hb]
        rw [e3]
        exact ih (i + 1) (by omega)
      · have hb := b2n_1.mp c
        rw [sl_1' (by omega), n_or, mkb_or, nI_1]
        have e3 : mkb (fun d => (stD (odm a q) 1).testBit d) i + 2 ^ i = mkb (fun d => (stD (odm a q) 1).testBit d) (i + 1) := by simp [mkb, hb]
        rw [e3]
        exact ih (i + 1) (by omega)
theorem c6_crossing {q : Nat} (hI : Inv1 a σ) (hq : q < dd a) (h : ∀ σ', Inv1 a σ' → Read1 a σ' → K (crV a q) σ') : M_X6_crossingOf σ K (nI q) :=
  b_X6_crossingOf (k6_laysTold hI (fun s I L => l6_crossing hI.1 L hq (h s I L.1) 32 0 (by omega)))
theorem p_crossing (a : ab) (hW : WF a) (x1 : Int32) : PI a (fun σ K => M_X5_crossing σ K x1) (fun σ K => M_X6_crossing σ K x1) := by
  by_cases c0 : ¬ ∃ q, q < dd a ∧ x1 = nI q
  · have c0 : ∀ q, q < dd a → ¬ x1 = nI q := fun q h e => c0 ⟨q, h, e⟩
    exact ⟨-2, a, fun σ K hI h => b_X5_crossing ⟨fun c => absurd c (no_deed hI c0), fun _ => h σ hI⟩, fun σ K hI h => b_X6_crossing (k6_isDeed hI (fun q h1 h2 => absurd h2 (c0 q h1)) (fun _ s I => ⟨fun _ => h s I, fun c => absurd rfl c⟩))⟩
  obtain ⟨q, hq, rfl⟩ := Classical.not_not.mp c0
  exact ⟨crV a q, a, fun σ K hI h => c5_crossing hI hq h, fun σ K hI h => b_X6_crossing (k6_isDeed hI (fun q2 h1 h2 s I R => ⟨fun c => absurd c (by decide), fun _ => c6_crossing I hq (fun s I _ => h s I)⟩) (fun c => absurd rfl (c q hq)))⟩
end QRY
