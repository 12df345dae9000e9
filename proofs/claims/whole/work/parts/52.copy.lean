/-! ===== copy, write, read ===== -/
section CPY
variable {a : ab}
/-- m items from i of sheet s come to sheet t from j on -/
def cpI (a : ab) (s t i j m : Nat) : Nat → Int32 := fun k => if j ≤ k ∧ k < j + m then a.2.2 s (i + (k - j)) else a.2.2 t k
def cpA (a : ab) (s t i j m : Nat) : ab := setH a t 1 (a.1 (24 + t)) (a.1 (28 + t)) (cpI a s t i j m)
theorem cp5 {σ : r_St} {s t i j m : Nat} (hI : Inv0 a σ) (hs : s < 4) (ht : t < 4) (h1 : a.1 (20 + s) = 1) (h2 : a.1 (20 + t) = 1) (hi : i + m ≤ a.1 (28 + s)) (hj : j + m ≤ a.1 (28 + t)) : Inv0 (cpA a s t i j m) (cpS σ (51 + 2 * s + 1) (51 + 2 * t + 1) i j m) := by
  have w := hI.1.2.2.2.2.2.2.2.2.2.2.2 t ht
  obtain ⟨g1, g2, g3⟩ := held5 hI ht h2
  obtain ⟨f1, f2, f3⟩ := held5 hI hs h1
  refine sh0_set hI ht (by omega) w.2.1 w.2.2 (fun c k q1 q2 => ?_) ⟨fun q => ?_, fun _ => ?_⟩
  · show (if c = 51 + 2 * t + 1 then va_cpy (σ.1 (51 + 2 * s + 1)) (σ.1 (51 + 2 * t + 1)) i j m else σ.1 c) k = _
    rw [if_neg (by omega)]
  · rw [setH_t] at q; omega
  · rw [setH_f, setH_n, setH_it]
    have e0 : (cpS σ (51 + 2 * s + 1) (51 + 2 * t + 1) i j m).1 (51 + 2 * t) = σ.1 (51 + 2 * t) := by
      show (if 51 + 2 * t = 51 + 2 * t + 1 then _ else σ.1 (51 + 2 * t)) = _
      rw [if_neg (by omega)]
    rw [e0]
    refine ⟨g1, g2, fun k hk => ?_⟩
    have e1 : (cpS σ (51 + 2 * s + 1) (51 + 2 * t + 1) i j m).1 (52 + 2 * t) = va_cpy (σ.1 (51 + 2 * s + 1)) (σ.1 (51 + 2 * t + 1)) i j m := by
      show (if 52 + 2 * t = 51 + 2 * t + 1 then _ else _) = _
      rw [if_pos (by omega)]
    rw [e1, show 51 + 2 * s + 1 = 52 + 2 * s by omega, show 51 + 2 * t + 1 = 52 + 2 * t by omega]
    unfold va_cpy cpI
    by_cases q : j ≤ k ∧ k < j + m
    · rw [if_pos q, if_pos q]
      exact f3 _ (by omega)
    · rw [if_neg q, if_neg q]
      exact g3 k hk
theorem l6_copy2 {σ : r_St} {K : Int32 → r_St → Prop} {s t i j m : Nat} (hI : Inv1 a σ) (hs : s < 4) (ht : t < 4) (h2 : a.1 (20 + t) = 1) (hj : j + m ≤ a.1 (28 + t)) (hm : ∀ k, k < m → σ.1 31 k = a.2.2 s (i + k)) (h : ∀ σ', Inv1 (cpA a s t i j m) σ' → K 1 σ') :
    ∀ n k, k + n = m → ∀ σ', (∀ c p, ¬ (c = 30 ∧ 60 * t + j ≤ p ∧ p < 60 * t + j + m) → σ'.1 c p = σ.1 c p) → (∀ p, p < m → (p < k → σ'.1 30 (60 * t + j + p) = a.2.2 s (i + p)) ∧ (k ≤ p → σ'.1 30 (60 * t + j + p) = σ.1 30 (60 * t + j + p))) → R_X6_copy_157 σ' K (nI t) (nI j) (nI m) (nI k) := by
  have w := hI.1.2.2.2.2.2.2.2.2.2.2.2 t ht
  obtain ⟨g1, g2, g3⟩ := held6 hI ht h2
  intro n
  induction n with
  | zero =>
    intro k hk σ' hF hp
    have e : k = m := by omega
    subst e
    refine b_X6_copy_157 ⟨fun _ => h σ' ?_, fun c => absurd (Int32.le_refl _) c⟩
    refine sh1_set hI ht (by omega) w.2.1 w.2.2 (fun c p q1 q2 q3 => hF c p (by omega)) ⟨?_, fun _ => ?_⟩
    · rw [setH_t, hF 27 t (by omega), there6 hI ht, h2]
    · rw [setH_f, setH_n, setH_it, hF 28 t (by omega), hF 29 t (by omega)]
      refine ⟨g1, g2, fun p hpn => ?_⟩
      unfold cpI
      by_cases q : j ≤ p ∧ p < j + k
      · rw [if_pos q]
        have := (hp (p - j) (by omega)).1 (by omega)
        rw [show 60 * t + j + (p - j) = 60 * t + p by omega] at this
        exact this
      · rw [if_neg q, hF 30 _ (by omega)]
        exact g3 p hpn
  | succ n ih =>
    intro k hk σ' hF hp
    have ei : (60 : Int32) * nI t + nI j + nI k = nI (60 * t + j + k) := by rw [show (60 : Int32) = nI 60 from rfl, pk_mul, nI_add, nI_add]
    refine b_X6_copy_157 ⟨fun c => ?_, fun _ => ⟨k, rfl, by omega, 60 * t + j + k, ei, by omega, ?_⟩⟩
    · have := le_of_nI (by omega) (by omega) c
      omega
    · rw [hF 31 k (by omega), hm k (by omega), nI_1]
      refine ih (k + 1) (by omega) _ (fun c p q => ?_) (fun p hpm => ⟨fun q => ?_, fun q => ?_⟩)
      · rw [wI_ne _ _ (by omega)]; exact hF c p q
      · rcases (show p < k ∨ p = k by omega) with g | g
        · rw [wI_place _ _ _ (by omega)]; exact (hp p hpm).1 g
        · subst g; rw [wI_same]
      · rw [wI_place _ _ _ (by omega)]; exact (hp p hpm).2 (by omega)
theorem l6_copy1 {σ : r_St} {K : Int32 → r_St → Prop} {s t i j m : Nat} (hI : Inv1 a σ) (hs : s < 4) (ht : t < 4) (h1 : a.1 (20 + s) = 1) (h2 : a.1 (20 + t) = 1) (hi : i + m ≤ a.1 (28 + s)) (hj : j + m ≤ a.1 (28 + t)) (h : ∀ σ', Inv1 (cpA a s t i j m) σ' → K 1 σ') :
    ∀ n k, k + n = m → ∀ σ', (∀ c p, ¬ c = 31 → σ'.1 c p = σ.1 c p) → (∀ p, p < k → σ'.1 31 p = a.2.2 s (i + p)) → R_X6_copy_120 σ' K (nI s) (nI i) (nI t) (nI j) (nI m) (nI k) := by
  have w := hI.1.2.2.2.2.2.2.2.2.2.2.2 s hs
  obtain ⟨g1, g2, g3⟩ := held6 hI hs h1
  intro n
  induction n with
  | zero =>
    intro k hk σ' hF hp
    have e : k = m := by omega
    subst e
    have I' : Inv1 a σ' := hI.mv (fun c p q1 q2 => hF c p (by omega))
    refine b_X6_copy_120 ⟨fun _ => l6_copy2 I' hs ht h2 hj hp h k 0 (by omega) σ' (fun _ _ _ => rfl) (fun p hp2 => ⟨fun q => by omega, fun _ => rfl⟩), fun c => absurd (Int32.le_refl _) c⟩
  | succ n ih =>
    intro k hk σ' hF hp
    have ei : (60 : Int32) * nI s + nI i + nI k = nI (60 * s + i + k) := by rw [show (60 : Int32) = nI 60 from rfl, pk_mul, nI_add, nI_add]
    refine b_X6_copy_120 ⟨fun c => ?_, fun _ => ⟨60 * s + i + k, ei, by omega, k, rfl, by omega, ?_⟩⟩
    · have := le_of_nI (by omega) (by omega) c
      omega
    · rw [nI_1]
      refine ih (k + 1) (by omega) _ (fun c p q => by rw [wI_cell _ _ _ q]; exact hF c p q) (fun p hp2 => ?_)
      rcases (show p < k ∨ p = k by omega) with g | g
      · rw [wI_place _ _ _ (by omega)]; exact hp p g
      · subst g
        rw [wI_same, hF 30 _ (by omega), show 60 * s + i + p = 60 * s + (i + p) by omega]
        exact g3 _ (by omega)
theorem l_cmp {x y : Int64} : (0 < lg_cmp x y ↔ y < x) ∧ (lg_cmp x y ≤ 0 ↔ x ≤ y) := by
  unfold lg_cmp
  by_cases h1 : x > y
  · rw [if_pos h1]
    refine ⟨⟨fun _ => h1, fun _ => by decide⟩, ⟨fun q => absurd q (by decide), fun q => ?_⟩⟩
    have a1 := Int64.lt_iff_toInt_lt.mp h1
    have a2 := Int64.le_iff_toInt_le.mp q
    omega
  · rw [if_neg h1]
    have a1 : ¬ y.toInt < x.toInt := fun q => h1 (Int64.lt_iff_toInt_lt.mpr q)
    have le : x ≤ y := Int64.le_iff_toInt_le.mpr (by omega)
    by_cases h2 : x = y
    · rw [if_pos h2]
      exact ⟨⟨fun q => absurd q (by decide), fun q => absurd q h1⟩, ⟨fun _ => le, fun _ => by decide⟩⟩
    · rw [if_neg h2]
      exact ⟨⟨fun q => absurd q (by decide), fun q => absurd q h1⟩, ⟨fun _ => le, fun _ => by decide⟩⟩
theorem cmp_range {x y : Int32} {n : Nat} (hx : ¬ x < 0) (hy : ¬ y < 0) (hn : n ≤ 60) : (0 < lg_cmp (x.toInt64 + y.toInt64) (nI n).toInt64 ↔ ¬ ∃ i m : Nat, i + m ≤ n ∧ x = nI i ∧ y = nI m) ∧ (lg_cmp (x.toInt64 + y.toInt64) (nI n).toInt64 ≤ 0 ↔ ∃ i m : Nat, i + m ≤ n ∧ x = nI i ∧ y = nI m) := by
  obtain ⟨i, hi, rfl⟩ := nI_of hx
  obtain ⟨m, hm, rfl⟩ := nI_of hy
  have e : (nI i).toInt64 + (nI m).toInt64 = lN (i + m) := by rw [nI_l hi, nI_l hm, lN_add]
  have ex : (∃ i2 m2 : Nat, i2 + m2 ≤ n ∧ nI i = nI i2 ∧ nI m = nI m2) ↔ i + m ≤ n := by
    constructor
    · rintro ⟨i2, m2, g1, g2, g3⟩
      have := nI_inj hi (by omega) g2
      have := nI_inj hm (by omega) g3
      omega
    · intro g; exact ⟨i, m, g, rfl, rfl⟩
  rw [ex, e, nI_l (by omega), l_cmp.1, l_cmp.2, pk_lLT (by omega) (by omega), pk_lLE (by omega) (by omega)]
  omega
theorem p_copy (a : ab) (hW : WF a) (x1 x2 x3 x4 x5 : Int32) : PI a (fun σ K => M_X5_copy σ K x1 x2 x3 x4 x5) (fun σ K => M_X6_copy σ K x1 x2 x3 x4 x5) := by
  by_cases c0 : ¬ IN x1 0 3
  · exact ⟨-2, a, fun σ K hI h => b_X5_copy ⟨fun c => absurd c c0, fun _ => h σ hI⟩, fun σ K hI h => b_X6_copy ⟨fun c => absurd c c0, fun _ => h σ hI⟩⟩
  have c0 := Classical.not_not.mp c0
  by_cases c1 : ¬ IN x3 0 3
  · exact ⟨-2, a, fun σ K hI h => b_X5_copy ⟨fun _ => ⟨fun c => absurd c c1, fun _ => h σ hI⟩, fun c => absurd c0 c⟩, fun σ K hI h => b_X6_copy ⟨fun _ => ⟨fun c => absurd c c1, fun _ => h σ hI⟩, fun c => absurd c0 c⟩⟩
  have c1 := Classical.not_not.mp c1
  obtain ⟨s, l, r, rfl⟩ := (IN_iff (lo := 0) (hi := 3) (by decide) (by decide)).mp c0
  obtain ⟨t, l2, r2, rfl⟩ := (IN_iff (lo := 0) (hi := 3) (by decide) (by decide)).mp c1
  have hs : s < 4 := by omega
  have ht : t < 4 := by omega
  have ws := hW.2.2.2.2.2.2.2.2.2.2.2 s hs
  have wt := hW.2.2.2.2.2.2.2.2.2.2.2 t ht
  rcases there hW hs with h1 | h1
  · exact ⟨-10 - 1, setS a 10 1, fun σ K hI h => b_X5_copy ⟨fun _ => ⟨fun _ => ⟨s, rfl, hs, t, rfl, ht, fun c => absurd (lost5 hI hs h1) c, fun _ => h _ (fnd0 hI)⟩, fun c => absurd c1 c⟩, fun c => absurd c0 c⟩, fun σ K hI h => b_X6_copy ⟨fun _ => ⟨fun _ => ⟨s, rfl, hs, fun _ => h _ (fnd1 hI), fun c => absurd (by rw [there6 hI hs, h1]; rfl) c⟩, fun c => absurd c1 c⟩, fun c => absurd c0 c⟩⟩
  have n5 : ∀ σ, Inv0 a σ → ¬ σ.1 (51 + 2 * s) 1 = -1 := fun σ hI c => by
    rw [(held5 hI hs h1).1] at c
    exact nI_m1 (by omega) c
  have n6 : ∀ σ, Inv1 a σ → ¬ σ.1 27 s = 0 := fun σ hI c => by
    rw [there6 hI hs, h1] at c
    exact absurd c (by decide)
  rcases there hW ht with h2 | h2
  · exact ⟨-10 - 1, setS a 10 1, fun σ K hI h => b_X5_copy ⟨fun _ => ⟨fun _ => ⟨s, rfl, hs, t, rfl, ht, fun _ => ⟨fun c => absurd (lost5 hI ht h2) c, fun _ => h _ (fnd0 hI)⟩, fun c => absurd c (n5 σ hI)⟩, fun c => absurd c1 c⟩, fun c => absurd c0 c⟩, fun σ K hI h => b_X6_copy ⟨fun _ => ⟨fun _ => ⟨s, rfl, hs, fun c => absurd c (n6 σ hI), fun _ => ⟨t, rfl, ht, fun c => absurd (by rw [there6 hI ht, h2]; rfl) c, fun _ => h _ (fnd1 hI)⟩⟩, fun c => absurd c1 c⟩, fun c => absurd c0 c⟩⟩
  have m5 : ∀ σ, Inv0 a σ → ¬ σ.1 (51 + 2 * t) 1 = -1 := fun σ hI c => by
    rw [(held5 hI ht h2).1] at c
    exact nI_m1 (by omega) c
  have m6 : ∀ σ, Inv1 a σ → ¬ σ.1 27 t = 0 := fun σ hI c => by
    rw [there6 hI ht, h2] at c
    exact absurd c (by decide)
  by_cases hf : ¬ a.1 (24 + s) = a.1 (24 + t)
  · refine ⟨-10 - 4, setS a 10 4, fun σ K hI h => b_X5_copy ⟨fun _ => ⟨fun _ => ⟨s, rfl, hs, t, rfl, ht, fun _ => ⟨fun _ => ⟨fun c => ?_, fun _ => h _ (fnd0 hI)⟩, fun c => absurd c (m5 σ hI)⟩, fun c => absurd c (n5 σ hI)⟩, fun c => absurd c1 c⟩, fun c => absurd c0 c⟩, fun σ K hI h => b_X6_copy ⟨fun _ => ⟨fun _ => ⟨s, rfl, hs, fun c => absurd c (n6 σ hI), fun _ => ⟨t, rfl, ht, fun _ => ⟨s, rfl, hs, t, rfl, ht, fun c => ?_, fun _ => h _ (fnd1 hI)⟩, fun c => absurd c (m6 σ hI)⟩⟩, fun c => absurd c1 c⟩, fun c => absurd c0 c⟩⟩
    · rw [(held5 hI hs h1).1, (held5 hI ht h2).1] at c
      exact absurd (nI_inj (by omega) (by omega) c) hf
    · rw [(held6 hI hs h1).1, (held6 hI ht h2).1] at c
      exact absurd (nI_inj (by omega) (by omega) c) hf
  have hf := Classical.not_not.mp hf
  have f5 : ∀ σ, Inv0 a σ → σ.1 (51 + 2 * s) 1 = σ.1 (51 + 2 * t) 1 := fun σ hI => by rw [(held5 hI hs h1).1, (held5 hI ht h2).1, hf]
  have f6 : ∀ σ, Inv1 a σ → σ.1 28 s = σ.1 28 t := fun σ hI => by rw [(held6 hI hs h1).1, (held6 hI ht h2).1, hf]
  by_cases hr : ¬ ((∃ i m : Nat, i + m ≤ a.1 (28 + s) ∧ x2 = nI i ∧ x5 = nI m) ∧ ∃ j m : Nat, j + m ≤ a.1 (28 + t) ∧ x4 = nI j ∧ x5 = nI m)
  · refine ⟨-10 - 2, setS a 10 2, fun σ K hI h => b_X5_copy ⟨fun _ => ⟨fun _ => ⟨s, rfl, hs, t, rfl, ht, fun _ => ⟨fun _ => ⟨fun _ => k4_range (isSheet_at hs) ws.2.2 (held5 hI hs h1).2.1 (fun g => ⟨fun c => absurd c (by decide), fun _ => k4_range (isSheet_at ht) wt.2.2 (held5 hI ht h2).2.1 (fun g2 => absurd ⟨g, g2⟩ hr) (fun g2 => ⟨fun c => absurd rfl c, fun _ => h _ (fnd0 hI)⟩)⟩) (fun g => ⟨fun _ => h _ (fnd0 hI), fun c => absurd rfl c⟩), fun c => absurd (f5 σ hI) c⟩, fun c => absurd c (m5 σ hI)⟩, fun c => absurd c (n5 σ hI)⟩, fun c => absurd c1 c⟩, fun c => absurd c0 c⟩, fun σ K hI h => b_X6_copy ⟨fun _ => ⟨fun _ => ⟨s, rfl, hs, fun c => absurd c (n6 σ hI), fun _ => ⟨t, rfl, ht, fun _ => ⟨s, rfl, hs, t, rfl, ht, fun _ => ⟨fun _ => h _ (fnd1 hI), fun g2 => ⟨fun _ => h _ (fnd1 hI), fun g4 => ⟨fun _ => h _ (fnd1 hI), fun g5 => ⟨s, rfl, hs, fun _ => h _ (fnd1 hI), fun c => ⟨t, rfl, ht, fun c2 => ?_, fun _ => h _ (fnd1 hI)⟩⟩⟩⟩⟩, fun c => absurd (f6 σ hI) c⟩, fun c => absurd c (m6 σ hI)⟩⟩, fun c => absurd c1 c⟩, fun c => absurd c0 c⟩⟩
    rw [(held6 hI hs h1).2.1] at c
    rw [(held6 hI ht h2).2.1] at c2
    exact absurd ⟨Classical.not_not.mp (fun q => c ((cmp_range g2 g5 ws.2.2).1.mpr q)), (cmp_range g4 g5 wt.2.2).2.mp c2⟩ hr
  obtain ⟨⟨i, m, e1, rfl, rfl⟩, j, m2, e2, rfl, e3⟩ := Classical.not_not.mp hr
  have e3 := nI_inj (by omega) (by omega) e3
  subst e3
  refine ⟨1, cpA a s t i j m, fun σ K hI h => b_X5_copy ⟨fun _ => ⟨fun _ => ⟨s, rfl, hs, t, rfl, ht, fun _ => ⟨fun _ => ⟨fun _ => k4_range (isSheet_at hs) ws.2.2 (held5 hI hs h1).2.1 (fun g => ⟨fun c => absurd c (by decide), fun _ => k4_range (isSheet_at ht) wt.2.2 (held5 hI ht h2).2.1 (fun g2 => ⟨fun _ => b_X4_takeItems (isSheet_at ht) (isSheet_at hs) ?_, fun c => absurd c (by decide)⟩) (fun g2 => absurd ⟨j, m, e2, rfl, rfl⟩ g2)⟩) (fun g => absurd ⟨i, m, e1, rfl, rfl⟩ g), fun c => absurd (f5 σ hI) c⟩, fun c => absurd c (m5 σ hI)⟩, fun c => absurd c (n5 σ hI)⟩, fun c => absurd c1 c⟩, fun c => absurd c0 c⟩, fun σ K hI h => b_X6_copy ⟨fun _ => ⟨fun _ => ⟨s, rfl, hs, fun c => absurd c (n6 σ hI), fun _ => ⟨t, rfl, ht, fun _ => ⟨s, rfl, hs, t, rfl, ht, fun _ => ⟨fun c => absurd c (nI_pos (by omega)), fun g2 => ⟨fun c => absurd c (nI_pos (by omega)), fun g4 => ⟨fun c => absurd c (nI_pos (by omega)), fun g5 => ⟨s, rfl, hs, fun c => ?_, fun c => ⟨t, rfl, ht, fun c2 => ?_, fun c2 => ?_⟩⟩⟩⟩⟩, fun c => absurd (f6 σ hI) c⟩, fun c => absurd c (m6 σ hI)⟩⟩, fun c => absurd c1 c⟩, fun c => absurd c0 c⟩⟩
  · refine k4_range (isSheet_at ht) wt.2.2 (held5 hI ht h2).2.1 (fun _ => ⟨fun c => absurd c (by decide), fun _ => k4_range (isSheet_at hs) ws.2.2 (held5 hI hs h1).2.1 (fun _ => ⟨fun c => absurd c (by decide), fun _ => ⟨i, j, m, rfl, rfl, rfl, by omega, by omega, h _ (cp5 hI hs ht h1 h2 e1 e2)⟩⟩) (fun g => absurd ⟨i, m, e1, rfl, rfl⟩ g)⟩) (fun g => absurd ⟨j, m, e2, rfl, rfl⟩ g)
  · rw [(held6 hI hs h1).2.1] at c
    exact absurd ⟨i, m, e1, rfl, rfl⟩ ((cmp_range g2 g5 ws.2.2).1.mp c)
  · exact l6_copy1 hI hs ht h1 h2 e1 e2 h m 0 (by omega) σ (fun _ _ _ => rfl) (fun p hp => by omega)
  · rw [(held6 hI ht h2).2.1] at c2
    exact absurd ((cmp_range g4 g5 wt.2.2).2.mpr ⟨j, m, e2, rfl, rfl⟩) c2
/-! write -/
def wrI (a : ab) (s n : Nat) : Nat → Int32 := fun k => if k < n then cutF (a.1 (24 + s)) (nI (op a (-1) k)) else a.2.2 s k
def wrA (a : ab) (s n : Nat) : ab := setH a s 1 (a.1 (24 + s)) (a.1 (28 + s)) (wrI a s n)
theorem wrA_0 (a : ab) (s : Nat) {σ : r_St} (hI : Inv0 a σ) (hs : s < 4) (ht : a.1 (20 + s) = 1) : Inv0 (wrA a s 0) σ := by
  have w := hI.1.2.2.2.2.2.2.2.2.2.2.2 s hs
  obtain ⟨g1, g2, g3⟩ := held5 hI hs ht
  refine sh0_set hI hs (by omega) w.2.1 w.2.2 (fun c j q1 q2 => rfl) ⟨fun q => ?_, fun _ => ?_⟩
  · rw [setH_t] at q; omega
  · rw [setH_f, setH_n, setH_it]
    exact ⟨g1, g2, fun j hj => g3 j hj⟩
theorem wr5 {σ : r_St} {s n : Nat} (hI : Inv0 (wrA a s n) σ) (hs : s < 4) (hn : n < a.1 (28 + s)) (hw : a.1 (24 + s) ≤ 2) (hw2 : a.1 (28 + s) ≤ 60) : Inv0 (wrA a s (n + 1)) (wI σ (51 + 2 * s + 1) n (cutF (a.1 (24 + s)) (nI (op a (-1) n)))) := by
  have P := put5 (v := cutF (a.1 (24 + s)) (nI (op a (-1) n))) hI hs setH_t (i := n) (by unfold wrA; rw [setH_n]; exact hn)
  have e : put1 (wrA a s n) s n (cutF (a.1 (24 + s)) (nI (op a (-1) n))) = wrA a s (n + 1) := by
    unfold put1 wrA
    rw [setH_f, setH_n, setH_it]
    have e2 : updI (wrI a s n) n (cutF (a.1 (24 + s)) (nI (op a (-1) n))) = wrI a s (n + 1) := by
      funext k
      unfold updI wrI
      by_cases q : k = n
      · subst q; rw [if_pos rfl, if_pos (by omega)]
      · rw [if_neg q]
        by_cases q2 : k < n
        · rw [if_pos q2, if_pos (by omega)]
        · rw [if_neg q2, if_neg (by omega)]
    rw [e2]
    unfold setH
    refine Prod.ext (funext fun i => ?_) (Prod.ext rfl (funext fun s' => ?_))
    · show (if i = 20 + s then 1 else if i = 24 + s then a.1 (24 + s) else if i = 28 + s then a.1 (28 + s) else (if i = 20 + s then 1 else if i = 24 + s then a.1 (24 + s) else if i = 28 + s then a.1 (28 + s) else a.1 i)) = if i = 20 + s then 1 else if i = 24 + s then a.1 (24 + s) else if i = 28 + s then a.1 (28 + s) else a.1 i
      split
      · rfl
      · split
        · rfl
        · split <;> rfl
    · show (if s' = s then wrI a s (n + 1) else if s' = s then wrI a s n else a.2.2 s') = if s' = s then wrI a s (n + 1) else a.2.2 s'
      split <;> rfl
  rw [e] at P
  exact P
theorem wrA_L (a : ab) (s n : Nat) : sameL a (wrA a s n) := sameL_H
theorem l5_write {K : Int32 → r_St → Prop} {s n : Nat} (hW : WF a) (hs : s < 4) (ht : a.1 (20 + s) = 1) (hn : n ≤ a.1 (28 + s)) (h40 : n ≤ 40) (h : ∀ σ', Inv0 (wrA a s n) σ' → K (nI n) σ') : ∀ m i, i + m = n → ∀ σ, Inv0 (wrA a s i) σ → Told a (-1) 32 σ → R_X5_write_49 σ K (51 + 2 * s) (nI n) (nI i) := by
  have w := hW.2.2.2.2.2.2.2.2.2.2.2 s hs
  intro m
  induction m with
  | zero =>
    intro i hi σ hI hT
    have e : i = n := by omega
    subst e
    exact b_X5_write_49 (isSheet_at hs) ⟨fun _ => h σ hI, fun c => absurd (Int32.le_refl _) c⟩
  | succ m ih =>
    intro i hi σ hI hT
    refine b_X5_write_49 (isSheet_at hs) ⟨fun c => ?_, fun _ => k1_openOn isLaws_32 hT (by omega) ?_⟩
    · have := le_of_nI (by omega) (by omega) c
      omega
    · refine k4_keep (a := wrA a s i) hI hs setH_t (by unfold wrA; rw [setH_n]; omega) ?_
      have ef : (wrA a s i).1 (24 + s) = a.1 (24 + s) := setH_f
      rw [ef, nI_1]
      exact ih (i + 1) (by omega) _ (wr5 hI hs (by omega) w.2.1 w.2.2) (hT.mv sameL.rf (fun c j _ _ => by rw [wI_cell _ _ _ (by omega)]))
theorem wr6 {σ : r_St} {s n : Nat} (hI : Inv1 (wrA a s n) σ) (hs : s < 4) (hn : n < a.1 (28 + s)) : Inv1 (wrA a s (n + 1)) (wI σ 30 (60 * s + n) (cutF (a.1 (24 + s)) (nI (op a (-1) n)))) := by
  have P := put6 (v := cutF (a.1 (24 + s)) (nI (op a (-1) n))) hI hs setH_t (i := n) (by unfold wrA; rw [setH_n]; exact hn)
  have e : put1 (wrA a s n) s n (cutF (a.1 (24 + s)) (nI (op a (-1) n))) = wrA a s (n + 1) := by
    unfold put1 wrA
    rw [setH_f, setH_n, setH_it]
    have e2 : updI (wrI a s n) n (cutF (a.1 (24 + s)) (nI (op a (-1) n))) = wrI a s (n + 1) := by
      funext k
      unfold updI wrI
      by_cases q : k = n
      · subst q; rw [if_pos rfl, if_pos (by omega)]
      · rw [if_neg q]
        by_cases q2 : k < n
        · rw [if_pos q2, if_pos (by omega)]
        · rw [if_neg q2, if_neg (by omega)]
    rw [e2]
    unfold setH
    refine Prod.ext (funext fun i => ?_) (Prod.ext rfl (funext fun s' => ?_))
    · show (if i = 20 + s then 1 else if i = 24 + s then a.1 (24 + s) else if i = 28 + s then a.1 (28 + s) else (if i = 20 + s then 1 else if i = 24 + s then a.1 (24 + s) else if i = 28 + s then a.1 (28 + s) else a.1 i)) = if i = 20 + s then 1 else if i = 24 + s then a.1 (24 + s) else if i = 28 + s then a.1 (28 + s) else a.1 i
      split
      · rfl
      · split
        · rfl
        · split <;> rfl
    · show (if s' = s then wrI a s (n + 1) else if s' = s then wrI a s n else a.2.2 s') = if s' = s then wrI a s (n + 1) else a.2.2 s'
      split <;> rfl
  rw [e] at P
  exact P
theorem wrA_06 (a : ab) (s : Nat) {σ : r_St} (hI : Inv1 a σ) (hs : s < 4) (ht : a.1 (20 + s) = 1) : Inv1 (wrA a s 0) σ := by
  have w := hI.1.2.2.2.2.2.2.2.2.2.2.2 s hs
  obtain ⟨g1, g2, g3⟩ := held6 hI hs ht
  refine sh1_set hI hs (by omega) w.2.1 w.2.2 (fun c j q1 q2 q3 => rfl) ⟨?_, fun _ => ?_⟩
  · rw [setH_t, there6 hI hs, ht]
  · rw [setH_f, setH_n, setH_it]
    exact ⟨g1, g2, fun j hj => g3 j hj⟩
theorem l6_write {K : Int32 → r_St → Prop} {s n : Nat} (hW : WF a) (hs : s < 4) (ht : a.1 (20 + s) = 1) (hn : n = if a.1 (28 + s) < 40 then a.1 (28 + s) else 40) (h : ∀ σ', Inv1 (wrA a s n) σ' → K (nI n) σ') : ∀ m i, i + m = n → ∀ σ, Inv1 (wrA a s i) σ → (∀ j, j < 40 → σ.1 16 j = nI (op a (-1) j)) → R_X6_write_31 σ K (nI s) (nI i) := by
  have w := hW.2.2.2.2.2.2.2.2.2.2.2 s hs
  intro m
  induction m with
  | zero =>
    intro i hi σ hI hT
    have e : i = n := by omega
    subst e
    have g : σ.1 29 s = nI (a.1 (28 + s)) := by
      have := (held6 hI hs setH_t).2.1
      unfold wrA at this
      rw [setH_n] at this
      exact this
    refine b_X6_write_31 ⟨s, rfl, hs, ?_⟩
    rw [g]
    refine ⟨fun _ => h σ hI, fun c => ⟨fun _ => h σ hI, fun c2 => ?_⟩⟩
    have c := nle_of_nI (by omega) (by split at hn <;> omega) c
    have c2 := nle_of_nI (x := 40) (by decide) (by split at hn <;> omega) c2
    split at hn <;> omega
  | succ m ih =>
    intro i hi σ hI hT
    have hb : i < a.1 (28 + s) ∧ i < 40 := by split at hn <;> omega
    have g : σ.1 29 s = nI (a.1 (28 + s)) := by
      have := (held6 hI hs setH_t).2.1
      unfold wrA at this
      rw [setH_n] at this
      exact this
    refine b_X6_write_31 ⟨s, rfl, hs, ?_⟩
    rw [g]
    refine ⟨fun c => ?_, fun _ => ⟨fun c => ?_, fun _ => ⟨i, rfl, hb.2, ?_⟩⟩⟩
    · have := le_of_nI (by omega) (by omega) c
      omega
    · have := le_of_nI (x := 40) (by decide) (by omega) c
      omega
    · rw [hT i hb.2]
      refine k6_keep (a := wrA a s i) hI hs setH_t (by unfold wrA; rw [setH_n]; omega) ?_
      have ef : (wrA a s i).1 (24 + s) = a.1 (24 + s) := setH_f
      rw [ef, nI_1]
      exact ih (i + 1) (by omega) _ (wr6 hI hs hb.1) (fun j hj => by rw [wI_cell _ _ _ (by omega)]; exact hT j hj)
theorem p_write (a : ab) (hW : WF a) (x1 : Int32) : PI a (fun σ K => M_X5_write σ K x1) (fun σ K => M_X6_write σ K x1) := by
  by_cases c0 : ¬ IN x1 0 3
  · exact ⟨-2, a, fun σ K hI h => b_X5_write ⟨fun c => absurd c c0, fun _ => h σ hI⟩, fun σ K hI h => b_X6_write ⟨fun c => absurd c c0, fun _ => h σ hI⟩⟩
  have c0 := Classical.not_not.mp c0
  obtain ⟨s, l, r, rfl⟩ := (IN_iff (lo := 0) (hi := 3) (by decide) (by decide)).mp c0
  have hs : s < 4 := by omega
  have w := hW.2.2.2.2.2.2.2.2.2.2.2 s hs
  rcases there hW hs with ht | ht
  · exact ⟨-10 - 1, setS a 10 1, fun σ K hI h => b_X5_write ⟨fun _ => ⟨s, rfl, hs, fun c => absurd (lost5 hI hs ht) c, fun _ => h _ (fnd0 hI)⟩, fun c => absurd c0 c⟩, fun σ K hI h => b_X6_write ⟨fun _ => ⟨s, rfl, hs, fun c => absurd (by rw [there6 hI hs, ht]; rfl) c, fun _ => h _ (fnd1 hI)⟩, fun c => absurd c0 c⟩⟩
  · obtain ⟨n, hn⟩ : ∃ n, n = if a.1 (28 + s) < 40 then a.1 (28 + s) else 40 := ⟨_, rfl⟩
    have hb : n ≤ a.1 (28 + s) ∧ n ≤ 40 := by split at hn <;> omega
    refine ⟨nI n, wrA a s n, fun σ K hI h => b_X5_write ⟨fun _ => ⟨s, rfl, hs, fun _ => k5_laws hI (fun s1 I T _ => ?_), fun c => ?_⟩, fun c => absurd c0 c⟩, fun σ K hI h => b_X6_write ⟨fun _ => ⟨s, rfl, hs, fun _ => k6_laysTold hI (fun s1 I L => l6_write hW hs ht hn h n 0 (by omega) s1 (wrA_06 a s I hs ht) (fun j hj => L.opd hj)), fun c => ?_⟩, fun c => absurd c0 c⟩⟩
    · have e : imin (s1.1 (51 + 2 * s) 2) 40 = nI n := by
        rw [(held5 I hs ht).2.1, show (40 : Int32) = nI 40 from rfl, imin_nI (by omega) (by omega), hn]
        congr 1
        split <;> split <;> omega
      rw [e]
      exact l5_write hW hs ht hb.1 hb.2 h n 0 (by omega) s1 (wrA_0 a s I hs ht) T
    · rw [(held5 hI hs ht).1] at c
      exact absurd c (nI_m1 (by omega))
    · rw [there6 hI hs, ht] at c
      exact absurd c (by decide)
/-! read -/
theorem q_edict (a : ab) (hW : WF a) (x1 x2 : Int32) : ∃ (v : Int32) (a' : ab), WF a' ∧ (v < 0 ∨ 0 < v) ∧ (∀ i, 20 ≤ i → a'.1 i = a.1 i) ∧ a'.2.2 = a.2.2 ∧ (∀ σ K, Inv0 a σ → (∀ σ', Inv0 a' σ' → K v σ') → M_X5_edict σ K x1 x2) ∧ (∀ σ K, Inv1 a σ → (∀ σ', Inv1 a' σ' → K v σ') → M_X6_edict σ K x1 x2) := by
  by_cases c0 : ¬ IN x1 0 39
  · exact ⟨-2, a, hW, by decide, fun _ _ => rfl, rfl, fun σ K hI h => b_X5_edict ⟨fun c => absurd c c0, fun _ => h σ hI⟩, fun σ K hI h => b_X6_edict ⟨fun c => absurd c c0, fun _ => h σ hI⟩⟩
  have c0 := Classical.not_not.mp c0
  by_cases c1 : ¬ IN x2 0 7
  · exact ⟨-2, a, hW, by decide, fun _ _ => rfl, rfl, fun σ K hI h => b_X5_edict ⟨fun _ => ⟨fun c => absurd c c1, fun _ => h σ hI⟩, fun c => absurd c0 c⟩, fun σ K hI h => b_X6_edict ⟨fun _ => ⟨fun c => absurd c c1, fun _ => h σ hI⟩, fun c => absurd c0 c⟩⟩
  have c1 := Classical.not_not.mp c1
  obtain ⟨q0, l0, r0, rfl⟩ := (IN_iff (lo := 0) (hi := 39) (by decide) (by decide)).mp c0
  obtain ⟨q1, l1, r1, rfl⟩ := (IN_iff (lo := 0) (hi := 7) (by decide) (by decide)).mp c1
  have hn : a.1 5 ≤ 10 := hW.2.2.2.2.2.2.1.1
  rcases (show a.1 5 = 10 ∨ a.1 5 < 10 by omega) with hs | hs
  · refine ⟨-4, a, hW, by decide, fun _ _ => rfl, rfl, fun σ K hI h => b_X5_edict ⟨fun _ => ⟨fun _ => k3_add isRows_12 (hI.2.1.2.2.2.2.1).1 (hI.2.1.2.2.2.2.1).2.1 (fun _ => (h _ (Inv0.stale hI))) (fun c => absurd c (by omega)) (by omega), fun c => absurd c1 c⟩, fun c => absurd c0 c⟩, fun σ K hI h => b_X6_edict ⟨fun _ => ⟨fun _ => ⟨fun c => ?_, fun _ => h σ hI⟩, fun c => absurd c1 c⟩, fun c => absurd c0 c⟩⟩
    rw [hI.2.2.2.2.2.1.1, hs] at c
    exact absurd rfl c
  · refine ⟨nI (a.1 5 + 1), ad_edict a q0 q1, wf_edict hW hs r0 r1, Or.inr (nI_lt (a := 0) (by omega) (by omega)), fun i hi => setS_other (by omega), rfl, fun σ K hI h => b_X5_edict ⟨fun _ => ⟨fun _ => k3_add isRows_12 (hI.2.1.2.2.2.2.1).1 (hI.2.1.2.2.2.2.1).2.1 (fun c => absurd c (by omega)) (fun _ => h _ (b0_edict hI hs r0 r1)) (by omega), fun c => absurd c1 c⟩, fun c => absurd c0 c⟩, fun σ K hI h => b_X6_edict ⟨fun _ => ⟨fun _ => ⟨fun _ => ⟨a.1 5, hI.2.2.2.2.2.1.1, hs, ⟨a.1 5, hI.2.2.2.2.2.1.1, hs, ?_⟩⟩, fun c => ?_⟩, fun c => absurd c1 c⟩, fun c => absurd c0 c⟩⟩
    · rw [hI.2.2.2.2.2.1.1, nI_1]
      exact h _ (b1_edict hI hs r0 r1)
    · rw [hI.2.2.2.2.2.1.1] at c
      have := nI_inj (b := 10) (by omega) (by decide) c
      omega
theorem p_readL {s : Nat} (hs : s < 4) : ∀ m n (a : ab), WF a → a.1 (20 + s) = 1 → n + m = 31 → 2 * n ≤ a.1 (28 + s) + 1 → PI a (fun σ K => R_X5_read_35 σ K (51 + 2 * s) (nI n) (nI (2 * n))) (fun σ K => R_X6_read_27 σ K (nI s) (nI n)) := by
  intro m
  induction m with
  | zero =>
    intro n a hW ht hn h2
    have w := hW.2.2.2.2.2.2.2.2.2.2.2 s hs
    exact absurd h2 (by omega)
  | succ m ih =>
    intro n a hW ht hn h2
    have w := hW.2.2.2.2.2.2.2.2.2.2.2 s hs
    have e2 : (2 : Int32) * nI n + 1 = nI (2 * n + 1) := by rw [show (2 : Int32) = nI 2 from rfl, pk_mul, nI_1]
    rcases (show a.1 (28 + s) ≤ 2 * n + 1 ∨ 2 * n + 1 < a.1 (28 + s) by omega) with hc | hc
    · refine ⟨nI n, a, fun σ K hI h => b_X5_read_35 (isSheet_at hs) ⟨fun _ => h σ hI, fun c => ?_⟩, fun σ K hI h => b_X6_read_27 ⟨s, rfl, hs, fun _ => h σ hI, fun c => ?_⟩⟩
      · rw [(held5 hI hs ht).2.1, nI_1] at c
        exact absurd (nI_le hc (by omega)) c
      · rw [(held6 hI hs ht).2.1, e2] at c
        exact absurd (nI_le hc (by omega)) c
    · obtain ⟨v, a', W', hv, hk, hk2, m5, m6⟩ := q_edict a hW (a.2.2 s (2 * n)) (a.2.2 s (2 * n + 1))
      have ei : (60 : Int32) * nI s + 2 * nI n = nI (60 * s + 2 * n) := by rw [show (60 : Int32) = nI 60 from rfl, show (2 : Int32) = nI 2 from rfl, pk_mul, pk_mul, nI_add]
      have pre5 : ∀ σ (K : Int32 → r_St → Prop), Inv0 a σ → (M_X5_edict σ (fun v6 s5 => (0 ≤ v6 → R_X5_read_35 s5 K (51 + 2 * s) (nI n + 1) (nI (2 * n) + 2)) ∧ (¬ (0 ≤ v6) → K (nI n) s5)) (a.2.2 s (2 * n)) (a.2.2 s (2 * n + 1))) → R_X5_read_35 σ K (51 + 2 * s) (nI n) (nI (2 * n)) := by
        intro σ K hI h
        refine b_X5_read_35 (isSheet_at hs) ⟨fun c => ?_, fun _ => k4_item hI hs ht (i := 2 * n) (by omega) ?_⟩
        · rw [(held5 hI hs ht).2.1, nI_1] at c
          have := le_of_nI (by omega) (by omega) c
          omega
        · rw [nI_1 (2 * n)]
          exact k4_item hI hs ht (i := 2 * n + 1) hc h
      have pre6 : ∀ σ (K : Int32 → r_St → Prop), Inv1 a σ → (M_X6_edict σ (fun v11 s10 => (v11 ≤ 0 → K (nI n) s10) ∧ (¬ (v11 ≤ 0) → R_X6_read_27 s10 K (nI s) (nI n + 1))) (a.2.2 s (2 * n)) (a.2.2 s (2 * n + 1))) → R_X6_read_27 σ K (nI s) (nI n) := by
        intro σ K hI h
        refine b_X6_read_27 ⟨s, rfl, hs, fun c => ?_, fun _ => ⟨60 * s + 2 * n, ei, by omega, 60 * s + 2 * n + 1, by rw [ei, nI_1], by omega, ?_⟩⟩
        · rw [(held6 hI hs ht).2.1, e2] at c
          have := le_of_nI (by omega) (by omega) c
          omega
        · rw [(held6 hI hs ht).2.2 (2 * n) (by omega), show 60 * s + 2 * n + 1 = 60 * s + (2 * n + 1) by omega, (held6 hI hs ht).2.2 (2 * n + 1) hc]
          exact h
      rcases hv with hv | hv
      · have n1 : ¬ (0 : Int32) ≤ v := Int32.not_le.mpr hv
        have n2 : v ≤ 0 := Int32.le_of_lt hv
        exact ⟨nI n, a', fun σ K hI h => pre5 σ K hI (m5 σ _ hI (fun σ' I' => ⟨fun c => absurd c n1, fun _ => h σ' I'⟩)), fun σ K hI h => pre6 σ K hI (m6 σ _ hI (fun σ' I' => ⟨fun _ => h σ' I', fun c => absurd n2 c⟩))⟩
      · have n1 : (0 : Int32) ≤ v := Int32.le_of_lt hv
        have n2 : ¬ v ≤ 0 := Int32.not_le.mpr hv
        obtain ⟨v', a2, g5, g6⟩ := ih (n + 1) a' W' (by rw [hk _ (by omega)]; exact ht) (by omega) (by rw [hk _ (by omega)]; omega)
        have en : nI (2 * n) + 2 = nI (2 * (n + 1)) := nI_add (2 * n) 2
        refine ⟨v', a2, fun σ K hI h => pre5 σ K hI (m5 σ _ hI (fun σ' I' => ⟨fun _ => ?_, fun c => absurd n1 c⟩)), fun σ K hI h => pre6 σ K hI (m6 σ _ hI (fun σ' I' => ⟨fun c => absurd c n2, fun _ => ?_⟩))⟩
        · rw [en, nI_1]
          exact g5 σ' K I' h
        · rw [nI_1]
          exact g6 σ' K I' h
theorem p_read (a : ab) (hW : WF a) (x1 : Int32) : PI a (fun σ K => M_X5_read σ K x1) (fun σ K => M_X6_read σ K x1) := by
  by_cases c0 : ¬ IN x1 0 3
  · exact ⟨-2, a, fun σ K hI h => b_X5_read ⟨fun c => absurd c c0, fun _ => h σ hI⟩, fun σ K hI h => b_X6_read ⟨fun c => absurd c c0, fun _ => h σ hI⟩⟩
  have c0 := Classical.not_not.mp c0
  obtain ⟨s, l, r, rfl⟩ := (IN_iff (lo := 0) (hi := 3) (by decide) (by decide)).mp c0
  have hs : s < 4 := by omega
  have w := hW.2.2.2.2.2.2.2.2.2.2.2 s hs
  rcases there hW hs with ht | ht
  · exact ⟨-10 - 1, setS a 10 1, fun σ K hI h => b_X5_read ⟨fun _ => ⟨s, rfl, hs, fun c => absurd (lost5 hI hs ht) c, fun _ => h _ (fnd0 hI)⟩, fun c => absurd c0 c⟩, fun σ K hI h => b_X6_read ⟨fun _ => ⟨s, rfl, hs, fun c => absurd (by rw [there6 hI hs, ht]; rfl) c, fun _ => h _ (fnd1 hI)⟩, fun c => absurd c0 c⟩⟩
  · obtain ⟨v, a', g5, g6⟩ := p_readL hs 31 0 a hW ht (by omega) (by omega)
    refine ⟨v, a', fun σ K hI h => b_X5_read ⟨fun _ => ⟨s, rfl, hs, fun _ => g5 σ K hI h, fun c => ?_⟩, fun c => absurd c0 c⟩, fun σ K hI h => b_X6_read ⟨fun _ => ⟨s, rfl, hs, fun _ => g6 σ K hI h, fun c => ?_⟩, fun c => absurd c0 c⟩⟩
    · rw [(held5 hI hs ht).1] at c
      exact absurd c (nI_m1 (by omega))
    · rw [there6 hI hs, ht] at c
      exact absurd c (by decide)
end CPY
