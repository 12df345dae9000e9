/-! ===== put, get, copy, write, read ===== -/
def cutF (f : Nat) (v : Int32) : Int32 := if f = 0 then v.toInt8.toInt32 else if f = 1 then v.toInt16.toInt32 else v
def updI (g : Nat → Int32) (i : Nat) (v : Int32) : Nat → Int32 := fun j => if j = i then v else g j
section ITM
variable {a : ab} {s : Nat}
/-- what the item's use finds: 0 nothing -/
def lkV (a : ab) (s : Nat) (x2 x3 : Int32) : Nat := if a.1 (20 + s) = 0 then 1 else if ¬ nI (a.1 (24 + s)) = x2 then 3 else if 0 ≤ x3 ∧ x3 ≤ nI (a.1 (28 + s)) - 1 then 0 else 2
theorem k4_range {σ : r_St} {K : Int32 → r_St → Prop} {k n : Nat} {x y : Int32} (hk : isSheet k) (hn : n ≤ 60) (h2 : σ.1 k 2 = nI n) (h1 : (∃ i m : Nat, i + m ≤ n ∧ x = nI i ∧ y = nI m) → K 1 σ) (h0 : (¬ ∃ i m : Nat, i + m ≤ n ∧ x = nI i ∧ y = nI m) → K 0 σ) : M_X4_hasRange k σ K x y := by
  refine b_X4_hasRange hk ?_
  rw [h2]
  refine ⟨fun c => h0 ?_, fun c => ⟨fun c2 => h0 ?_, fun c2 => ⟨fun c3 => h0 ?_, fun c3 => ?_⟩⟩⟩
  · rintro ⟨i, m, g1, rfl, rfl⟩
    exact nI_pos (by omega) c
  · rintro ⟨i, m, g1, rfl, rfl⟩
    exact nI_pos (by omega) c2
  · rintro ⟨i, m, g1, rfl, rfl⟩
    have := lt_of_nI (by omega) (by omega) c3
    omega
  · obtain ⟨i, hi, rfl⟩ := nI_of c
    obtain ⟨m, hm, rfl⟩ := nI_of c2
    have c3 := nlt_of_nI (by omega) (by omega) c3
    rw [pk_sub c3]
    refine ⟨fun c4 => h0 ?_, fun c4 => h1 ⟨i, m, ?_, rfl, rfl⟩⟩
    · rintro ⟨i2, m2, g1, g2, g3⟩
      have e1 := nI_inj (by omega) (by omega) g2
      have e2 := nI_inj (by omega) (by omega) g3
      have := lt_of_nI (by omega) (by omega) c4
      omega
    · have := nlt_of_nI (by omega) (by omega) c4
      omega
theorem range1 {n : Nat} {x : Int32} (hn : n ≤ 60) : (∃ i m : Nat, i + m ≤ n ∧ x = nI i ∧ (1 : Int32) = nI m) ↔ IN x 0 (nI n - 1) := by
  rw [IN_lt_iff (by omega)]
  constructor
  · rintro ⟨i, m, g1, g2, g3⟩
    by_cases hm : m < 2147483648
    · have := nI_inj (a := 1) (by decide) hm g3
      exact ⟨i, by omega, g2⟩
    · omega
  · rintro ⟨i, g1, g2⟩
    exact ⟨i, 1, by omega, g2, rfl⟩
theorem k5_finding {σ : r_St} {K : Int32 → r_St → Prop} {x2 x3 : Int32} (hI : Inv0 a σ) (hs : s < 4) (h : K (nI (lkV a s x2 x3)) σ) : M_X5_itemFinding (51 + 2 * s) σ K x2 x3 := by
  have w := hI.1.2.2.2.2.2.2.2.2.2.2.2 s hs
  unfold lkV at h
  refine b_X5_itemFinding (isSheet_at hs) ⟨fun c => ?_, fun c => ?_⟩
  · rcases there hI.1 hs with ht | ht
    · exact absurd (lost5 hI hs ht) c
    · obtain ⟨g1, g2, g3⟩ := held5 hI hs ht
      rw [if_neg (by omega)] at h
      rw [g1]
      refine ⟨fun c2 => k4_range (isSheet_at hs) w.2.2 g2 (fun g => ⟨fun c => absurd c (by decide), fun _ => ?_⟩) (fun g => ⟨fun _ => ?_, fun c => absurd rfl c⟩), fun c2 => ?_⟩
      · rw [if_neg (fun q => q c2), if_pos (show 0 ≤ x3 ∧ x3 ≤ nI (a.1 (28 + s)) - 1 from (range1 w.2.2).mp g)] at h
        exact h
      · rw [if_neg (fun q => q c2), if_neg (show ¬ (0 ≤ x3 ∧ x3 ≤ nI (a.1 (28 + s)) - 1) from fun q => g ((range1 w.2.2).mpr q))] at h
        exact h
      · rw [if_pos c2] at h
        exact h
  · rcases there hI.1 hs with ht | ht
    · rw [if_pos ht] at h
      exact h
    · rw [(held5 hI hs ht).1] at c
      exact absurd c (nI_m1 (by omega))
theorem k6_lacks {σ : r_St} {K : Int32 → r_St → Prop} {x2 x3 : Int32} (hI : Inv1 a σ) (hs : s < 4) (h : K (nI (lkV a s x2 x3)) σ) : M_X6_lacks σ K (nI s) x2 x3 := by
  unfold lkV at h
  refine b_X6_lacks ⟨s, rfl, hs, fun c => ⟨s, rfl, hs, ?_⟩, fun c => ?_⟩
  · rcases there hI.1 hs with ht | ht
    · exact absurd (by rw [there6 hI hs, ht]; rfl) c
    · obtain ⟨g1, g2, g3⟩ := held6 hI hs ht
      rw [if_neg (by omega)] at h
      rw [g1]
      refine ⟨fun c2 => ⟨s, rfl, hs, ?_⟩, fun c2 => ?_⟩
      · rw [if_neg (fun q => q c2)] at h
        rw [g2]
        refine ⟨fun g => ?_, fun g => ?_⟩
        · rw [if_pos (show 0 ≤ x3 ∧ x3 ≤ nI (a.1 (28 + s)) - 1 from g)] at h; exact h
        · rw [if_neg (show ¬ (0 ≤ x3 ∧ x3 ≤ nI (a.1 (28 + s)) - 1) from g)] at h; exact h
      · rw [if_pos c2] at h
        exact h
  · rcases there hI.1 hs with ht | ht
    · rw [if_pos ht] at h
      exact h
    · rw [there6 hI hs, ht] at c
      exact absurd c (by decide)
theorem lk_le (a : ab) (s : Nat) (x2 x3 : Int32) : lkV a s x2 x3 ≤ 3 := by
  unfold lkV
  split
  · omega
  · split
    · omega
    · split <;> omega
/-- nothing found: the sheet is there, of that form, the item is there -/
theorem lk_0 {x2 x3 : Int32} (hW : WF a) (hs : s < 4) (h : lkV a s x2 x3 = 0) : a.1 (20 + s) = 1 ∧ ∃ i : Nat, i < a.1 (28 + s) ∧ x3 = nI i := by
  have w := hW.2.2.2.2.2.2.2.2.2.2.2 s hs
  unfold lkV at h
  split at h
  · omega
  · rename_i ht
    split at h
    · omega
    · split at h
      · rename_i g
        exact ⟨by have := there hW hs; omega, (IN_lt_iff (by omega)).mp g⟩
      · omega
theorem k4_keep {σ : r_St} {K : r_St → Prop} {i : Nat} {v : Int32} (hI : Inv0 a σ) (hs : s < 4) (ht : a.1 (20 + s) = 1) (hi : i < a.1 (28 + s)) (h : K (wI σ (51 + 2 * s + 1) i (cutF (a.1 (24 + s)) v))) : M_X4_keep (51 + 2 * s) σ K (nI i) v := by
  have w := hI.1.2.2.2.2.2.2.2.2.2.2.2 s hs
  obtain ⟨g1, g2, g3⟩ := held5 hI hs ht
  unfold cutF at h
  refine b_X4_keep (isSheet_at hs) ⟨fun _ => b_X4_cut (isSheet_at hs) ?_, fun c => ?_⟩
  · rw [g1]
    refine ⟨fun c => ⟨i, rfl, by omega, ?_⟩, fun c => ⟨i, rfl, by omega, ?_⟩, fun c => ⟨i, rfl, by omega, ?_⟩⟩
    · rw [if_pos (nI_inj (b := 0) (by omega) (by decide) c)] at h
      exact h
    · have c := nI_inj (b := 1) (by omega) (by decide) c
      rw [if_neg (by omega), if_pos c] at h
      exact h
    · rw [if_neg (fun q => c.1 (by rw [q]; rfl)), if_neg (fun q => c.2 (by rw [q]; rfl))] at h
      exact h
  · rw [g2] at c
    exact absurd ((IN_lt_iff (by omega)).mpr ⟨i, hi, rfl⟩) c
theorem k6_keep {σ : r_St} {K : r_St → Prop} {i : Nat} {v : Int32} (hI : Inv1 a σ) (hs : s < 4) (ht : a.1 (20 + s) = 1) (hi : i < a.1 (28 + s)) (h : K (wI σ 30 (60 * s + i) (cutF (a.1 (24 + s)) v))) : M_X6_keep σ K (nI s) (nI i) v := by
  have w := hI.1.2.2.2.2.2.2.2.2.2.2.2 s hs
  obtain ⟨g1, g2, g3⟩ := held6 hI hs ht
  have ei : (60 : Int32) * nI s + nI i = nI (60 * s + i) := by rw [show (60 : Int32) = nI 60 from rfl, pk_mul, nI_add]
  unfold cutF at h
  refine b_X6_keep ⟨s, rfl, hs, ?_⟩
  rw [g1]
  refine ⟨fun c => ⟨s, rfl, hs, ?_⟩, fun c => ⟨60 * s + i, ei, by omega, ?_⟩⟩
  · have c : ¬ a.1 (24 + s) = 0 := fun q => c (by rw [q]; rfl)
    rw [g1]
    refine ⟨fun c2 => ⟨60 * s + i, ei, by omega, ?_⟩, fun c2 => ⟨60 * s + i, ei, by omega, ?_⟩⟩
    · rw [if_neg c, if_neg (fun q => c2 (by rw [q]; rfl))] at h
      exact h
    · rw [if_neg c, if_pos (nI_inj (b := 1) (by omega) (by decide) c2)] at h
      exact h
  · rw [if_pos (nI_inj (b := 0) (by omega) (by decide) c)] at h
    exact h
/-- one item is written -/
def put1 (a : ab) (s i : Nat) (v : Int32) : ab := setH a s 1 (a.1 (24 + s)) (a.1 (28 + s)) (updI (a.2.2 s) i v)
theorem put5 {σ : r_St} {i : Nat} {v : Int32} (hI : Inv0 a σ) (hs : s < 4) (ht : a.1 (20 + s) = 1) (hi : i < a.1 (28 + s)) : Inv0 (put1 a s i v) (wI σ (51 + 2 * s + 1) i v) := by
  have w := hI.1.2.2.2.2.2.2.2.2.2.2.2 s hs
  obtain ⟨g1, g2, g3⟩ := held5 hI hs ht
  refine sh0_set hI hs (by omega) w.2.1 w.2.2 (fun c j q1 q2 => by rw [wI_cell _ _ _ (by omega)]) ⟨fun q => ?_, fun _ => ?_⟩
  · rw [setH_t] at q; omega
  · rw [setH_f, setH_n, setH_it, wI_cell _ _ _ (by omega)]
    refine ⟨g1, g2, fun j hj => ?_⟩
    rw [show 52 + 2 * s = 51 + 2 * s + 1 by omega]
    unfold updI
    rcases Nat.decEq j i with q | q
    · rw [wI_place _ _ _ q, if_neg q, show 51 + 2 * s + 1 = 52 + 2 * s by omega]
      exact g3 j hj
    · subst q; rw [wI_same, if_pos rfl]
theorem put6 {σ : r_St} {i : Nat} {v : Int32} (hI : Inv1 a σ) (hs : s < 4) (ht : a.1 (20 + s) = 1) (hi : i < a.1 (28 + s)) : Inv1 (put1 a s i v) (wI σ 30 (60 * s + i) v) := by
  have w := hI.1.2.2.2.2.2.2.2.2.2.2.2 s hs
  obtain ⟨g1, g2, g3⟩ := held6 hI hs ht
  refine sh1_set hI hs (by omega) w.2.1 w.2.2 (fun c j q1 q2 q3 => wI_ne _ _ (by omega)) ⟨?_, fun _ => ?_⟩
  · rw [setH_t, wI_cell _ _ _ (by omega), there6 hI hs, ht]
  · rw [setH_f, setH_n, setH_it, wI_cell _ _ _ (by omega), wI_cell _ _ _ (by omega)]
    refine ⟨g1, g2, fun j hj => ?_⟩
    unfold updI
    rcases Nat.decEq j i with q | q
    · rw [wI_place _ _ _ (by omega), if_neg q]
      exact g3 j hj
    · subst q; rw [wI_same, if_pos rfl]
theorem fd_sub {q : Nat} : (-10 : Int32) - nI q = -10 - nI q := rfl
theorem p_put (a : ab) (hW : WF a) (x1 x2 x3 x4 : Int32) : PI a (fun σ K => M_X5_put σ K x1 x2 x3 x4) (fun σ K => M_X6_put σ K x1 x2 x3 x4) := by
  by_cases c0 : ¬ IN x1 0 3
  · exact ⟨-2, a, fun σ K hI h => b_X5_put ⟨fun c => absurd c c0, fun _ => h σ hI⟩, fun σ K hI h => b_X6_put ⟨fun c => absurd c c0, fun _ => h σ hI⟩⟩
  have c0 := Classical.not_not.mp c0
  by_cases c1 : ¬ IN x2 0 2
  · exact ⟨-2, a, fun σ K hI h => b_X5_put ⟨fun _ => ⟨fun c => absurd c c1, fun _ => h σ hI⟩, fun c => absurd c0 c⟩, fun σ K hI h => b_X6_put ⟨fun _ => ⟨fun c => absurd c c1, fun _ => h σ hI⟩, fun c => absurd c0 c⟩⟩
  have c1 := Classical.not_not.mp c1
  obtain ⟨s, l, r, rfl⟩ := (IN_iff (lo := 0) (hi := 3) (by decide) (by decide)).mp c0
  have hs : s < 4 := by omega
  have hl := lk_le a s x2 x3
  rcases Nat.eq_zero_or_pos (lkV a s x2 x3) with q | q
  · obtain ⟨ht, i, hi, rfl⟩ := lk_0 hW hs q
    refine ⟨1, put1 a s i (cutF (a.1 (24 + s)) x4), fun σ K hI h => b_X5_put ⟨fun _ => ⟨fun _ => ⟨s, rfl, hs, k5_finding hI hs ?_⟩, fun c => absurd c1 c⟩, fun c => absurd c0 c⟩, fun σ K hI h => b_X6_put ⟨fun _ => ⟨fun _ => k6_lacks hI hs ?_, fun c => absurd c1 c⟩, fun c => absurd c0 c⟩⟩
    · rw [q]
      exact ⟨fun _ => ⟨s, rfl, hs, k4_keep hI hs ht hi (h _ (put5 hI hs ht hi))⟩, fun c => absurd rfl c⟩
    · rw [q]
      exact ⟨fun _ => k6_keep hI hs ht hi (h _ (put6 hI hs ht hi)), fun c => absurd (Int32.le_refl _) c⟩
  · refine ⟨-10 - nI (lkV a s x2 x3), setS a 10 (lkV a s x2 x3), fun σ K hI h => b_X5_put ⟨fun _ => ⟨fun _ => ⟨s, rfl, hs, k5_finding hI hs ⟨fun c => absurd c (nI_ne0 q (by omega)), fun _ => h _ (fnd0 hI)⟩⟩, fun c => absurd c1 c⟩, fun c => absurd c0 c⟩, fun σ K hI h => b_X6_put ⟨fun _ => ⟨fun _ => k6_lacks hI hs ⟨fun c => absurd c (nI_nle q (by omega)), fun _ => h _ (fnd1 hI)⟩, fun c => absurd c1 c⟩, fun c => absurd c0 c⟩⟩
theorem k4_item {σ : r_St} {K : Int32 → r_St → Prop} {i : Nat} (hI : Inv0 a σ) (hs : s < 4) (ht : a.1 (20 + s) = 1) (hi : i < a.1 (28 + s)) (h : K (a.2.2 s i) σ) : M_X4_item (51 + 2 * s) σ K (nI i) := by
  have w := hI.1.2.2.2.2.2.2.2.2.2.2.2 s hs
  obtain ⟨g1, g2, g3⟩ := held5 hI hs ht
  refine b_X4_item (isSheet_at hs) ⟨fun _ => ⟨i, rfl, by omega, ?_⟩, fun c => ?_⟩
  · rw [show 51 + 2 * s + 1 = 52 + 2 * s by omega, g3 i hi]
    exact h
  · rw [g2] at c
    exact absurd ((IN_lt_iff (by omega)).mpr ⟨i, hi, rfl⟩) c
theorem p_get (a : ab) (hW : WF a) (x1 x2 x3 : Int32) : PI a (fun σ K => M_X5_get σ K x1 x2 x3) (fun σ K => M_X6_get σ K x1 x2 x3) := by
  by_cases c0 : ¬ IN x1 0 3
  · exact ⟨-2147483648, a, fun σ K hI h => b_X5_get ⟨fun c => absurd c c0, fun _ => h σ hI⟩, fun σ K hI h => b_X6_get ⟨fun c => absurd c c0, fun _ => h σ hI⟩⟩
  have c0 := Classical.not_not.mp c0
  by_cases c1 : ¬ IN x2 0 2
  · exact ⟨-2147483648, a, fun σ K hI h => b_X5_get ⟨fun _ => ⟨fun c => absurd c c1, fun _ => h σ hI⟩, fun c => absurd c0 c⟩, fun σ K hI h => b_X6_get ⟨fun _ => ⟨fun c => absurd c c1, fun _ => h σ hI⟩, fun c => absurd c0 c⟩⟩
  have c1 := Classical.not_not.mp c1
  obtain ⟨s, l, r, rfl⟩ := (IN_iff (lo := 0) (hi := 3) (by decide) (by decide)).mp c0
  have hs : s < 4 := by omega
  have hl := lk_le a s x2 x3
  rcases Nat.eq_zero_or_pos (lkV a s x2 x3) with q | q
  · obtain ⟨ht, i, hi, rfl⟩ := lk_0 hW hs q
    have w := hW.2.2.2.2.2.2.2.2.2.2.2 s hs
    have ei : (60 : Int32) * nI s + nI i = nI (60 * s + i) := by rw [show (60 : Int32) = nI 60 from rfl, pk_mul, nI_add]
    refine ⟨a.2.2 s i, a, fun σ K hI h => b_X5_get ⟨fun _ => ⟨fun _ => ⟨s, rfl, hs, k5_finding hI hs ?_⟩, fun c => absurd c1 c⟩, fun c => absurd c0 c⟩, fun σ K hI h => b_X6_get ⟨fun _ => ⟨fun _ => k6_lacks hI hs ?_, fun c => absurd c1 c⟩, fun c => absurd c0 c⟩⟩
    · rw [q]
      exact ⟨fun _ => ⟨s, rfl, hs, k4_item hI hs ht hi (h σ hI)⟩, fun c => absurd rfl c⟩
    · rw [q]
      refine ⟨fun _ => ⟨60 * s + i, ei, by omega, ?_⟩, fun c => absurd (Int32.le_refl _) c⟩
      rw [(held6 hI hs ht).2.2 i hi]
      exact h σ hI
  · refine ⟨-2147483648, setS a 10 (lkV a s x2 x3), fun σ K hI h => b_X5_get ⟨fun _ => ⟨fun _ => ⟨s, rfl, hs, k5_finding hI hs ⟨fun c => absurd c (nI_ne0 q (by omega)), fun _ => h _ (fnd0 hI)⟩⟩, fun c => absurd c1 c⟩, fun c => absurd c0 c⟩, fun σ K hI h => b_X6_get ⟨fun _ => ⟨fun _ => k6_lacks hI hs ⟨fun c => absurd c (nI_nle q (by omega)), fun _ => h _ (fnd1 hI)⟩, fun c => absurd c1 c⟩, fun c => absurd c0 c⟩⟩
end ITM
