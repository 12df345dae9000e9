/-! ===== cheapest, year ===== -/
theorem i_nat (x : Int32) : ∃ t : Nat, t < 4294967296 ∧ x = nI t := by
  refine ⟨x.toBitVec.toNat, x.toBitVec.isLt, ?_⟩
  apply Int32.toBitVec_inj.1
  show x.toBitVec = BitVec.ofNat 32 x.toBitVec.toNat
  simp
section CHP
variable {σ : r_St} {K : Int32 → r_St → Prop} {a : ab}
/-- closed days among n from d on -/
def clV (M d n : Nat) : Nat := sm (fun i => if M.testBit (d + i) then 0 else 1) n
theorem l5_closed {M d n : Nat} (hM : M < 9223372036854775808) (hd : d + n ≤ 40) (h : K (nI (clV M d n)) σ) : ∀ m i, i + m = n → R_X5_closedDays_6 σ K (lN M) (nI d) (nI n) (nI (clV M d i)) (nI (d + i)) := by
  intro m
  induction m with
  | zero =>
    intro i hi
    have e : i = n := by omega
    subst e
    refine b_X5_closedDays_6 ⟨fun _ => h, fun c => ?_⟩
    rw [nI_add] at c
    exact absurd (Int32.le_refl _) c
  | succ m ih =>
    intro i hi
    have N := ih (i + 1) (by omega)
    have e : clV M d (i + 1) = clV M d i + (if M.testBit (d + i) then 0 else 1) := rfl
    rw [e] at N
    refine b_X5_closedDays_6 ⟨fun c => ?_, fun _ => ⟨fun c => ?_, fun c => ?_⟩⟩
    · rw [nI_add] at c
      have := le_of_nI (by omega) (by omega) c
      omega
    · have hb : M.testBit (d + i) = false := by
        cases hq : M.testBit (d + i) with
        | false => rfl
        | true => exact absurd ((hold_iff (by omega) hM).mpr hq) c
      rw [hb] at N
      rw [nI_1, nI_1]
      exact N
    · rw [(hold_iff (by omega) hM).mp c] at N
      rw [nI_1]
      exact N
theorem k5_closed {M d n : Nat} (hM : M < 9223372036854775808) (hd : d + n ≤ 40) (h : K (nI (clV M d n)) σ) : M_X5_closedDays σ K (lN M) (nI d) (nI n) := b_X5_closedDays (l5_closed hM hd h n 0 (by omega))
/-- the best so far (day, how much) over m days from s on -/
def chR (c : Nat → Nat) : Nat → Nat → Int32 → Int32 → Int32 × Int32
  | 0, _, b, l => (b, l)
  | m + 1, s, b, l => if b = -1 then chR c m (s + 1) (nI s) (nI (c s)) else if l ≤ nI (c s) then chR c m (s + 1) b l else chR c m (s + 1) (nI s) (nI (c s))
def chC (a : ab) (q n s : Nat) : Nat := fin a q * clV (odm a q) s n
def chV (a : ab) (q n d w : Nat) : Int32 := if w = 0 then (chR (chC a q n) (41 - n - d) d (-1) (-1)).1 else (chR (chC a q n) (41 - n - d) d (-1) (-1)).2
theorem l5_cheap {q n w : Nat} (hI : Inv0 a σ) (hq : q < dd a) (hn : 1 ≤ n) (hn9 : n ≤ 9) (hw : w < 2) : ∀ m s b l, (s + n + m = 41 ∨ (m = 0 ∧ 40 < s + n)) → s ≤ 40 → K (if w = 0 then (chR (chC a q n) m s b l).1 else (chR (chC a q n) m s b l).2) σ → R_X5_cheapest_60 σ K (nI q) (nI n) (nI w) (lN (odm a q)) b l (nI s) := by
  obtain ⟨hW, hB, -⟩ := id hI
  have h8 := dd_le hW.1
  have ho := odm_lt a q
  intro m
  induction m with
  | zero =>
    intro s b l hs hs40 h
    refine b_X5_cheapest_60 ⟨fun _ => ⟨fun c => ?_, fun c => ?_⟩, fun c => ?_⟩
    · rw [if_neg (fun g => c (by rw [g]; rfl))] at h
      exact h
    · rw [if_pos (nI_inj (b := 0) (by omega) (by decide) c)] at h
      exact h
    · rw [nI_add] at c
      exact absurd (nI_lt (a := 40) (by omega) (by omega)) c
  | succ m ih =>
    intro s b l hs hs40 h
    refine b_X5_cheapest_60 ⟨fun c => ?_, fun _ => k0_fineOf hW.1 hB.1.2.2.1 hB.1.2.2.2.2.2 hq (k5_closed (by omega) (by omega) ?_)⟩
    · rw [nI_add] at c
      have := lt_of_nI (x := 40) (by decide) (by omega) c
      omega
    · rw [pk_mul, nI_1]
      show (b = -1 → R_X5_cheapest_60 σ K (nI q) (nI n) (nI w) (lN (odm a q)) (nI s) (nI (chC a q n s)) (nI (s + 1))) ∧ (¬ b = -1 → (l ≤ nI (chC a q n s) → R_X5_cheapest_60 σ K (nI q) (nI n) (nI w) (lN (odm a q)) b l (nI (s + 1))) ∧ (¬ l ≤ nI (chC a q n s) → R_X5_cheapest_60 σ K (nI q) (nI n) (nI w) (lN (odm a q)) (nI s) (nI (chC a q n s)) (nI (s + 1))))
      unfold chR at h
      refine ⟨fun c => ?_, fun c => ⟨fun c2 => ?_, fun c2 => ?_⟩⟩
      · rw [if_pos c] at h
        exact ih (s + 1) _ _ (by omega) (by omega) h
      · rw [if_neg c, if_pos c2] at h
        exact ih (s + 1) _ _ (by omega) (by omega) h
      · rw [if_neg c, if_neg c2] at h
        exact ih (s + 1) _ _ (by omega) (by omega) h
theorem c5_cheapest {q n d w : Nat} (hI : Inv0 a σ) (hq : q < dd a) (hn : 1 ≤ n) (hn9 : n ≤ 9) (hd : d < 40) (hw : w < 2) (h : ∀ σ', Inv0 a σ' → K (chV a q n d w) σ') : M_X5_cheapest σ K (nI q) (nI n) (nI d) (nI w) := by
  have h8 := dd_le hI.1.1
  refine b_X5_cheapest ⟨fun _ => ⟨fun _ => ⟨fun _ => ⟨fun _ => k5_laws hI (fun s I T _ => k1_openDays isLaws_32 hI.1 T (by omega) (l5_cheap I hq hn hn9 hw (41 - n - d) d (-1) (-1) (by omega) (by omega) (h s I))), fun c => absurd ((IN_iff (lo := 0) (hi := 1) (by decide) (by decide)).mpr ⟨w, by omega, by omega, rfl⟩) c⟩, fun c => absurd (IN_day hd) c⟩, fun c => absurd ((IN_iff (lo := 1) (hi := 9) (by decide) (by decide)).mpr ⟨n, hn, hn9, rfl⟩) c⟩, fun c => absurd (is_deed hI hq) c⟩
theorem l6_cheap2 {q n w s : Nat} {b l : Int32} (hI : Inv1 a σ) (hL : Laid1 a (-1) σ) (hq : q < dd a) (hs : s + n ≤ 40)
    (h : ∀ x8 : Int32, x8 = nI (chC a q n s) → (b = -1 → R_X6_cheapestOf_90 σ K (nI q) (nI n) (nI w) b l (nI s) x8 1) ∧ (¬ b = -1 → (l ≤ x8 → R_X6_cheapestOf_90 σ K (nI q) (nI n) (nI w) b l (nI s) x8 0) ∧ (¬ l ≤ x8 → R_X6_cheapestOf_90 σ K (nI q) (nI n) (nI w) b l (nI s) x8 1))) :
    ∀ m i, i + m = n → R_X6_cheapestOf_28 σ K (nI q) (nI n) (nI w) b l (nI s) (nI (fin a q * clV (odm a q) s i)) (nI i) := by
  obtain ⟨hW, hB⟩ := id hI
  have h8 := dd_le hW.1
  intro m
  induction m with
  | zero =>
    intro i hi
    have e : i = n := by omega
    subst e
    exact b_X6_cheapestOf_28 ⟨fun _ => h _ rfl, fun c => absurd (Int32.le_refl _) c⟩
  | succ m ih =>
    intro i hi
    have N := ih (i + 1) (by omega)
    have e : clV (odm a q) s (i + 1) = clV (odm a q) s i + (if (odm a q).testBit (s + i) then 0 else 1) := rfl
    rw [e, odm_bit hq (by omega)] at N
    refine b_X6_cheapestOf_28 ⟨fun c => ?_, fun _ => ⟨s + i, nI_add _ _, by omega, ?_⟩⟩
    · have := le_of_nI (by omega) (by omega) c
      omega
    · rw [hL.opd (by omega), sr_bit (by omega) (by have := op_small hW (-1) (s + i); omega)]
      refine ⟨fun c => ⟨q, rfl, by omega, ?_⟩, fun c => ?_⟩
      · have hb : (op a (-1) (s + i)).testBit q = false := by
          cases hq2 : (op a (-1) (s + i)).testBit q with
          | false => rfl
          | true => rw [hq2] at c; exact absurd rfl c
        rw [hb] at N
        rw [hL.1.2.2 q hq, nI_add, nI_1]
        simp only [Bool.false_eq_true, if_false, Nat.mul_add, Nat.mul_one] at N
        exact N
      · rw [b2n_1.mp c] at N
        rw [show (0 : Int32) = nI 0 from rfl, nI_add, nI_1]
        exact N
theorem l6_cheap {q n w : Nat} (hI : Inv1 a σ) (hL : Laid1 a (-1) σ) (hq : q < dd a) (hn : 1 ≤ n) (hn9 : n ≤ 9) (hw : w < 2) : ∀ m s b l, (s + n + m = 41 ∨ (m = 0 ∧ 40 < s + n)) → s ≤ 40 → K (if w = 0 then (chR (chC a q n) m s b l).1 else (chR (chC a q n) m s b l).2) σ → R_X6_cheapestOf_13 σ K (nI q) (nI n) (nI w) b l (nI s) := by
  intro m
  induction m with
  | zero =>
    intro s b l hs hs40 h
    refine b_X6_cheapestOf_13 ⟨fun _ => ⟨fun c => ?_, fun c => ?_⟩, fun c => ?_⟩
    · rw [if_neg (fun g => c (by rw [g]; rfl))] at h
      exact h
    · rw [if_pos (nI_inj (b := 0) (by omega) (by decide) c)] at h
      exact h
    · rw [nI_add] at c
      exact absurd (nI_lt (a := 40) (by omega) (by omega)) c
  | succ m ih =>
    intro s b l hs hs40 h
    refine b_X6_cheapestOf_13 ⟨fun c => ?_, fun _ => ?_⟩
    · rw [nI_add] at c
      have := lt_of_nI (x := 40) (by decide) (by omega) c
      omega
    · unfold chR at h
      refine l6_cheap2 hI hL hq (by omega) (fun x8 ex => ?_) n 0 (by omega)
      have old : (¬ b = -1) → l ≤ x8 → R_X6_cheapestOf_90 σ K (nI q) (nI n) (nI w) b l (nI s) x8 0 := by
        intro c c2
        rw [ex] at c2
        rw [if_neg c, if_pos c2] at h
        refine b_X6_cheapestOf_90 ⟨fun _ => b_X6_cheapestOf_104 ⟨fun _ => ?_, fun c => absurd rfl c⟩, fun c => absurd rfl c⟩
        rw [nI_1]
        exact ih (s + 1) _ _ (by omega) (by omega) h
      have new : (b = -1 ∨ ¬ l ≤ x8) → R_X6_cheapestOf_90 σ K (nI q) (nI n) (nI w) b l (nI s) x8 1 := by
        intro c
        have h2 : K (if w = 0 then (chR (chC a q n) m (s + 1) (nI s) (nI (chC a q n s))).1 else (chR (chC a q n) m (s + 1) (nI s) (nI (chC a q n s))).2) σ := by
          rcases c with c | c
          · rw [if_pos c] at h; exact h
          · rw [ex] at c
            by_cases c0 : b = -1
            · rw [if_pos c0] at h; exact h
            · rw [if_neg c0, if_neg c] at h; exact h
        refine b_X6_cheapestOf_90 ⟨fun c => absurd c (by decide), fun _ => b_X6_cheapestOf_104 ⟨fun c => absurd c (by decide), fun _ => ?_⟩⟩
        rw [ex, nI_1]
        exact ih (s + 1) _ _ (by omega) (by omega) h2
      exact ⟨fun c => new (Or.inl c), fun c => ⟨fun c2 => old c c2, fun c2 => new (Or.inr c2)⟩⟩
theorem c6_cheapest {q n d w : Nat} (hI : Inv1 a σ) (hq : q < dd a) (hn : 1 ≤ n) (hn9 : n ≤ 9) (hd : d < 40) (hw : w < 2) (h : ∀ σ', Inv1 a σ' → Read1 a σ' → K (chV a q n d w) σ') : M_X6_cheapestOf σ K (nI q) (nI n) (nI d) (nI w) :=
  b_X6_cheapestOf (k6_laysTold hI (fun s I L => l6_cheap I L hq hn hn9 hw (41 - n - d) d (-1) (-1) (by omega) (by omega) (h s I L.1)))
theorem p_cheapest (a : ab) (hW : WF a) (x1 x2 x3 x4 : Int32) : PI a (fun σ K => M_X5_cheapest σ K x1 x2 x3 x4) (fun σ K => M_X6_cheapest σ K x1 x2 x3 x4) := by
  by_cases c0 : ¬ ∃ q, q < dd a ∧ x1 = nI q
  · have c0 : ∀ q, q < dd a → ¬ x1 = nI q := fun q h e => c0 ⟨q, h, e⟩
    exact ⟨-2, a, fun σ K hI h => b_X5_cheapest ⟨fun c => absurd c (no_deed hI c0), fun _ => h σ hI⟩, fun σ K hI h => b_X6_cheapest (k6_isDeed hI (fun q h1 h2 => absurd h2 (c0 q h1)) (fun _ s I => ⟨fun _ => h s I, fun c => absurd rfl c⟩))⟩
  obtain ⟨q, hq, rfl⟩ := Classical.not_not.mp c0
  by_cases c1 : ¬ IN x2 1 9
  · exact ⟨-2, a, fun σ K hI h => b_X5_cheapest ⟨fun _ => ⟨fun c => absurd c c1, fun _ => h σ hI⟩, fun c => absurd (is_deed hI hq) c⟩, fun σ K hI h => b_X6_cheapest (k6_isDeed hI (fun q h1 h2 s I R => ⟨fun c => absurd c (by decide), fun _ => ⟨fun c => absurd c c1, fun _ => h s I⟩⟩) (fun c => absurd rfl (c q hq)))⟩
  have c1 := Classical.not_not.mp c1
  by_cases c2 : ¬ IN x3 0 39
  · exact ⟨-2, a, fun σ K hI h => b_X5_cheapest ⟨fun _ => ⟨fun _ => ⟨fun c => absurd c c2, fun _ => h σ hI⟩, fun c => absurd c1 c⟩, fun c => absurd (is_deed hI hq) c⟩, fun σ K hI h => b_X6_cheapest (k6_isDeed hI (fun q h1 h2 s I R => ⟨fun c => absurd c (by decide), fun _ => ⟨fun _ => ⟨fun c => absurd c c2, fun _ => h s I⟩, fun c => absurd c1 c⟩⟩) (fun c => absurd rfl (c q hq)))⟩
  have c2 := Classical.not_not.mp c2
  by_cases c3 : ¬ IN x4 0 1
  · exact ⟨-2, a, fun σ K hI h => b_X5_cheapest ⟨fun _ => ⟨fun _ => ⟨fun _ => ⟨fun c => absurd c c3, fun _ => h σ hI⟩, fun c => absurd c2 c⟩, fun c => absurd c1 c⟩, fun c => absurd (is_deed hI hq) c⟩, fun σ K hI h => b_X6_cheapest (k6_isDeed hI (fun q h1 h2 s I R => ⟨fun c => absurd c (by decide), fun _ => ⟨fun _ => ⟨fun _ => ⟨fun c => absurd c c3, fun _ => h s I⟩, fun c => absurd c2 c⟩, fun c => absurd c1 c⟩⟩) (fun c => absurd rfl (c q hq)))⟩
  have c3 := Classical.not_not.mp c3
  obtain ⟨n, l, r, rfl⟩ := (IN_iff (lo := 1) (hi := 9) (by decide) (by decide)).mp c1
  obtain ⟨d, l2, r2, rfl⟩ := (IN_iff (lo := 0) (hi := 39) (by decide) (by decide)).mp c2
  obtain ⟨w, l3, r3, rfl⟩ := (IN_iff (lo := 0) (hi := 1) (by decide) (by decide)).mp c3
  exact ⟨chV a q n d w, a, fun σ K hI h => c5_cheapest hI hq l r (by omega) (by omega) h, fun σ K hI h => b_X6_cheapest (k6_isDeed hI (fun q2 h1 h2 s I R => ⟨fun c => absurd c (by decide), fun _ => ⟨fun _ => ⟨fun _ => ⟨fun _ => c6_cheapest I hq l r (by omega) (by omega) (fun s I _ => h s I), fun c => absurd c3 c⟩, fun c => absurd c2 c⟩, fun c => absurd c1 c⟩⟩) (fun c => absurd rfl (c q hq)))⟩
/-! year -/
def lotN (s : Int32) : Int32 := 1103515245 * s + 12345
def lotQ (a : ab) (s : Int32) : Nat := s.toBitVec.toNat / 65536 % dd a
theorem lot_eq {s : Int32} (hd : 0 < dd a) (h8 : dd a ≤ 8) : rm (iu s 16) (nI (dd a)) = nI (lotQ a s) ∧ lotQ a s < dd a := by
  have e : s = nI s.toBitVec.toNat := by
    apply Int32.toBitVec_inj.1
    show s.toBitVec = BitVec.ofNat 32 s.toBitVec.toNat
    simp
  have hl : s.toBitVec.toNat < 4294967296 := s.toBitVec.isLt
  refine ⟨?_, Nat.mod_lt _ hd⟩
  have e2 : iu s 16 = nI (s.toBitVec.toNat / 65536) := by
    have e3 : iu (nI s.toBitVec.toNat) (nI 16) = nI (s.toBitVec.toNat / 2 ^ 16) := iu_nI (by decide) hl
    rw [← e] at e3
    exact e3
  rw [e2]
  exact rm_nI (by omega) hd (by omega)
/-- what one lot adds: number (w = 0), how much -/
def yrA (a : ab) (w d : Nat) (s : Int32) : Nat := if (op a (-1) d).testBit (lotQ a s) then 0 else if w = 0 then 1 else fin a (lotQ a s)
def yrR (a : ab) (w : Nat) : Nat → Nat → Int32 → Int32 → Int32
  | 0, _, _, t => t
  | m + 1, d, s, t => yrR a w m (d + 1) (lotN s) (t + nI (yrA a w d (lotN s)))
def yrV (a : ab) (s : Int32) (n w : Nat) : Int32 := if dd a = 0 then 0 else yrR a w n 0 s 0
theorem l5_year {n w : Nat} (hI : Inv0 a σ) (hT : Told a (-1) 32 σ) (hn : n ≤ 40) (hw : w < 2) (hd : 0 < dd a) : ∀ m d s t, d + m = n → K (yrR a w m d s t) σ → R_X5_year_46 σ K (nI n) (nI w) (nI (dd a)) s t (nI d) := by
  obtain ⟨hW, hB, -⟩ := id hI
  have h8 := dd_le hW.1
  intro m
  induction m with
  | zero =>
    intro d s t hd2 h
    have e : d = n := by omega
    subst e
    exact b_X5_year_46 ⟨fun _ => h, fun c => absurd (Int32.le_refl _) c⟩
  | succ m ih =>
    intro d s t hd2 h
    unfold yrR at h
    obtain ⟨e1, e2⟩ := lot_eq (a := a) (s := lotN s) hd h8
    refine b_X5_year_46 ⟨fun c => ?_, fun _ => ⟨fun c => ?_, fun _ => ⟨nI_ne0 hd (by omega), k1_openOn isLaws_32 hT (by omega) ?_⟩⟩⟩
    · have := le_of_nI (by omega) (by omega) c
      omega
    · exact absurd c (nI_nle hd (by omega))
    · show (¬ (iu (nI (op a (-1) d)) (rm (iu (lotN s) 16) (nI (dd a))) &&& 1) = 0 → R_X5_year_46 σ K (nI n) (nI w) (nI (dd a)) (lotN s) t (nI d + 1)) ∧ _
      rw [show (1103515245 * s + 12345 : Int32) = lotN s from rfl, e1, iu_bit (by omega) (by have := op_small hW (-1) d; omega), nI_1]
      refine ⟨fun c => ?_, fun c => ⟨fun c2 => k0_fineOf hW.1 hB.1.2.2.1 hB.1.2.2.2.2.2 e2 ?_, fun c2 => ?_⟩⟩
      · have hb : (op a (-1) d).testBit (lotQ a (lotN s)) = true := by
          cases hq2 : (op a (-1) d).testBit (lotQ a (lotN s)) with
          | true => rfl
          | false => rw [hq2] at c; exact absurd rfl c
        refine ih (d + 1) _ _ (by omega) ?_
        unfold yrA at h
        rw [hb] at h
        have e : t + nI 0 = t := Int32.add_zero t
        simp only [if_true] at h
        rw [e] at h
        exact h
      · have hb := b2n_0.mp c
        refine ih (d + 1) _ _ (by omega) ?_
        unfold yrA at h
        rw [hb, if_neg (by decide), if_neg (fun g => c2 (by rw [g]; rfl))] at h
        exact h
      · have hb := b2n_0.mp c
        refine ih (d + 1) _ _ (by omega) ?_
        unfold yrA at h
        rw [hb, if_neg (by decide), if_pos (nI_inj (b := 0) (by omega) (by decide) c2)] at h
        exact h
theorem c5_year {n w : Nat} {x : Int32} (hI : Inv0 a σ) (hn1 : 1 ≤ n) (hn : n ≤ 40) (hw : w < 2) (h : ∀ σ', Inv0 a σ' → K (yrV a x n w) σ') : M_X5_year σ K x (nI n) (nI w) := by
  have h8 := dd_le hI.1.1
  refine b_X5_year ⟨fun _ => ⟨fun _ => k5_laws hI (fun s I T _ => ?_), fun c => absurd ((IN_iff (lo := 0) (hi := 1) (by decide) (by decide)).mpr ⟨w, by omega, by omega, rfl⟩) c⟩, fun c => absurd ((IN_iff (lo := 1) (hi := 40) (by decide) (by decide)).mpr ⟨n, hn1, hn, rfl⟩) c⟩
  rw [I.2.1.1.2.2.1]
  have h := h s I
  unfold yrV at h
  rcases Nat.eq_zero_or_pos (dd a) with q | q
  · rw [if_pos q] at h
    rw [q]
    exact b_X5_year_46 ⟨fun _ => h, fun _ => ⟨fun _ => h, fun c => absurd (Int32.le_refl _) c⟩⟩
  · rw [if_neg (by omega)] at h
    exact l5_year I T hn hw q n 0 x 0 (by omega) h
theorem l6_year {n w : Nat} (hI : Inv1 a σ) (hL : Laid1 a (-1) σ) (hn : n ≤ 40) (hw : w < 2) (hd : 0 < dd a) : ∀ m d s t u, d + m = n → K (if w = 0 then yrR a 0 m d s t else yrR a 1 m d s u) σ → R_X6_yearOf_16 σ K (nI n) (nI w) s t u (nI d) := by
  obtain ⟨hW, hB⟩ := id hI
  have h8 := dd_le hW.1
  intro m
  induction m with
  | zero =>
    intro d s t u hd2 h
    have e : d = n := by omega
    subst e
    refine b_X6_yearOf_16 ⟨fun _ => b_X6_yearOf_117 ⟨fun c => ?_, fun c => ?_⟩, fun c => absurd (Int32.le_refl _) c⟩
    · rw [if_neg (fun g => c (by rw [g]; rfl))] at h
      exact h
    · rw [if_pos (nI_inj (b := 0) (by omega) (by decide) c)] at h
      exact h
  | succ m ih =>
    intro d s t u hd2 h
    unfold yrR at h
    obtain ⟨e1, e2⟩ := lot_eq (a := a) (s := lotN s) hd h8
    refine b_X6_yearOf_16 ⟨fun c => ?_, fun _ => ?_⟩
    · have := le_of_nI (by omega) (by omega) c
      omega
    · rw [hL.1.1]
      refine ⟨fun c => absurd c (nI_nle hd (by omega)), fun _ => ⟨nI_ne0 hd (by omega), d, rfl, by omega, ?_⟩⟩
      rw [show (1103515245 * s + 12345 : Int32) = lotN s from rfl, e1, hL.opd (by omega), sr_bit (by omega) (by have := op_small hW (-1) d; omega)]
      have e0 : ∀ z : Int32, z + nI 0 = z := fun z => Int32.add_zero z
      refine ⟨fun c => ?_, fun c => ?_⟩
      · have hb : (op a (-1) d).testBit (lotQ a (lotN s)) = false := by
          cases hq2 : (op a (-1) d).testBit (lotQ a (lotN s)) with
          | false => rfl
          | true => rw [hq2] at c; exact absurd rfl c
        have a0 : yrA a 0 d (lotN s) = 1 := by unfold yrA; rw [hb, if_neg (by decide), if_pos rfl]
        have a1 : yrA a 1 d (lotN s) = fin a (lotQ a (lotN s)) := by unfold yrA; rw [hb, if_neg (by decide), if_neg (by decide)]
        rw [a0, a1] at h
        refine b_X6_yearOf_73 ⟨fun c => absurd c (by decide), fun _ => b_X6_yearOf_87 ⟨fun c => absurd c (by decide), fun _ => ⟨lotQ a (lotN s), rfl, by omega, ?_⟩⟩⟩
        rw [hL.1.2.2 _ e2, nI_1]
        exact ih (d + 1) _ _ _ (by omega) h
      · have hb := b2n_1.mp c
        have a0 : ∀ w, yrA a w d (lotN s) = 0 := by intro w; unfold yrA; rw [hb]; rfl
        rw [a0, a0, e0, e0] at h
        refine b_X6_yearOf_73 ⟨fun _ => b_X6_yearOf_87 ⟨fun _ => ?_, fun c => absurd rfl c⟩, fun c => absurd rfl c⟩
        rw [nI_1, show (0 : Int32) = nI 0 from rfl, e0, e0]
        exact ih (d + 1) _ _ _ (by omega) h
theorem c6_year {n w : Nat} {x : Int32} (hI : Inv1 a σ) (hn1 : 1 ≤ n) (hn : n ≤ 40) (hw : w < 2) (h : ∀ σ', Inv1 a σ' → Read1 a σ' → K (yrV a x n w) σ') : M_X6_yearOf σ K x (nI n) (nI w) := by
  have h8 := dd_le hI.1.1
  refine b_X6_yearOf (k6_laysTold hI (fun s I L => ?_))
  have h := h s I L.1
  unfold yrV at h
  rcases Nat.eq_zero_or_pos (dd a) with q | q
  · rw [if_pos q] at h
    have e117 : R_X6_yearOf_117 s K (nI w) 0 0 := b_X6_yearOf_117 ⟨fun _ => h, fun _ => h⟩
    refine b_X6_yearOf_16 ⟨fun _ => e117, fun _ => ⟨fun _ => e117, fun c => ?_⟩⟩
    rw [L.1.1, q] at c
    exact absurd (Int32.le_refl _) c
  · rw [if_neg (by omega)] at h
    refine l6_year I L hn hw q n 0 x 0 0 (by omega) ?_
    rcases (show w = 0 ∨ w = 1 by omega) with rfl | rfl
    · exact h
    · exact h
theorem p_year (a : ab) (hW : WF a) (x1 x2 x3 : Int32) : PI a (fun σ K => M_X5_year σ K x1 x2 x3) (fun σ K => M_X6_year σ K x1 x2 x3) := by
  by_cases c0 : ¬ IN x2 1 40
  · exact ⟨-2, a, fun σ K hI h => b_X5_year ⟨fun c => absurd c c0, fun _ => h σ hI⟩, fun σ K hI h => b_X6_year ⟨fun c => absurd c c0, fun _ => h σ hI⟩⟩
  have c0 := Classical.not_not.mp c0
  by_cases c1 : ¬ IN x3 0 1
  · exact ⟨-2, a, fun σ K hI h => b_X5_year ⟨fun _ => ⟨fun c => absurd c c1, fun _ => h σ hI⟩, fun c => absurd c0 c⟩, fun σ K hI h => b_X6_year ⟨fun _ => ⟨fun c => absurd c c1, fun _ => h σ hI⟩, fun c => absurd c0 c⟩⟩
  have c1 := Classical.not_not.mp c1
  obtain ⟨n, l, r, rfl⟩ := (IN_iff (lo := 1) (hi := 40) (by decide) (by decide)).mp c0
  obtain ⟨w, l2, r2, rfl⟩ := (IN_iff (lo := 0) (hi := 1) (by decide) (by decide)).mp c1
  exact ⟨yrV a x1 n w, a, fun σ K hI h => c5_year hI l r (by omega) h, fun σ K hI h => b_X6_year ⟨fun _ => ⟨fun _ => c6_year hI l r (by omega) (fun s I _ => h s I), fun c => absurd c1 c⟩, fun c => absurd c0 c⟩⟩
end CHP
