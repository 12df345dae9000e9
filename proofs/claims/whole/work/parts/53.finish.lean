/-! ===== finish ===== -/
def fdO (M : Nat) : Nat → Nat → Option Nat
  | 0, _ => none
  | m + 1, d => if M.testBit d then some d else fdO M m (d + 1)
def oI : Option Nat → Int32
  | none => -1
  | some i => nI i
theorem fdR_o (M : Nat) : ∀ m d, fdR M m d = oI (fdO M m d) := by
  intro m
  induction m with
  | zero => intro d; rfl
  | succ m ih =>
    intro d
    unfold fdR fdO
    split
    · rfl
    · exact ih (d + 1)
theorem fdO_some {M : Nat} : ∀ {m d i : Nat}, fdO M m d = some i → d ≤ i ∧ i < d + m ∧ M.testBit i = true := by
  intro m
  induction m with
  | zero => intro d i h; cases h
  | succ m ih =>
    intro d i h
    unfold fdO at h
    split at h
    · rename_i hb
      cases h
      exact ⟨Nat.le_refl _, by omega, hb⟩
    · have := ih h
      exact ⟨by omega, by omega, this.2.2⟩
/-- the days from which on task k may go; its next start from t on; behind it -/
def tM (a : ab) (k : Nat) : Nat := stD (odm a (a.2.1 9 k)) (a.2.1 10 k - 1)
def nxt (a : ab) (k t : Nat) : Option Nat := fdO (tM a k) (40 - t) t
def atR (a : ab) (o : Nat → Nat) (d : Nat) : Nat → Option Nat
  | 0 => some d
  | k + 1 => match atR a o d k with
    | none => none
    | some t => match nxt a (o k) t with
      | none => none
      | some i => some (i + a.2.1 10 (o k))
def stR (a : ab) (o : Nat → Nat) (d k : Nat) : Option Nat := match atR a o d k with
  | none => none
  | some t => nxt a (o k) t
theorem tM_lt (a : ab) (k : Nat) : tM a k < 1099511627776 := Nat.lt_of_le_of_lt (stD_le _ _) (odm_lt _ _)
theorem nxt_le {a : ab} {k t i : Nat} (hl : 1 ≤ a.2.1 10 k) (h : nxt a k t = some i) : t ≤ i ∧ i + a.2.1 10 k ≤ 40 := by
  obtain ⟨h1, h2, h3⟩ := fdO_some h
  refine ⟨h1, ?_⟩
  rcases Nat.lt_or_ge 40 (i + a.2.1 10 k) with q | q
  · have := st_out (a := a) (q := a.2.1 9 k) hl q
    have e : (stD (odm a (a.2.1 9 k)) (a.2.1 10 k - 1)).testBit i = true := h3
    rw [e] at this
    cases this
  · exact q
theorem atR_le {a : ab} {o : Nat → Nat} {d n : Nat} (hd : d ≤ 40) (hl : ∀ k, k < n → 1 ≤ a.2.1 10 (o k)) : ∀ k, k ≤ n → ∀ t, atR a o d k = some t → t ≤ 40 := by
  intro k
  induction k with
  | zero => intro _ t h; cases h; exact hd
  | succ k ih =>
    intro hk t h
    unfold atR at h
    split at h
    · cases h
    · split at h
      · cases h
      · rename_i i hi
        cases h
        exact (nxt_le (hl k (by omega)) hi).2
theorem atR_cong {a : ab} {o o' : Nat → Nat} {d : Nat} : ∀ k, (∀ j, j < k → o j = o' j) → atR a o d k = atR a o' d k := by
  intro k
  induction k with
  | zero => intro _; rfl
  | succ k ih =>
    intro h
    unfold atR
    rw [ih (fun j hj => h j (by omega)), h k (by omega)]
def endI (n : Nat) (o : Option Nat) : Int32 := if n = 0 then -1 else match o with
  | none => -1
  | some t => nI (t - 1)
/-- the planner is ready -/
def Prep (a : ab) (σ : r_St) : Prop := σ.1 44 5 = nI (a.1 7) ∧ ∀ i, i < a.1 7 → σ.1 46 i = nI (a.2.1 10 i) ∧ σ.2 i = lN (tM a i)
theorem Inv0.pl {a : ab} {σ σ' : r_St} (hI : Inv0 a σ) (e : ∀ c j, c < 44 ∨ 49 < c → σ'.1 c j = σ.1 c j) : Inv0 a σ' := by
  refine ⟨hI.1, hI.2.1.mv (fun c j _ q => e c j (by omega)), fun hz => (hI.2.2 ?_).mv sameL.rf (fun c j _ _ => e c j (by omega))⟩
  rw [← e 0 15 (by omega)]; exact hz
section PRP
variable {a : ab}
theorem l2_prepare {K : r_St → Prop} (h : ∀ σ', Inv0 a σ' → Told a (-1) 32 σ' → Prep a σ' → K σ') : ∀ m i, i + m = a.1 7 → ∀ σ, Inv0 a σ → Told a (-1) 32 σ → σ.1 44 5 = nI (a.1 7) → (∀ j, j < i → σ.1 46 j = nI (a.2.1 10 j) ∧ σ.2 j = lN (tM a j)) → R_X2_prepare_15 σ K (nI i) := by
  intro m
  induction m with
  | zero =>
    intro i hi σ hI hT h5 hp
    have e : i = a.1 7 := by omega
    subst e
    refine b_X2_prepare_15 ⟨fun _ => h σ hI hT ⟨h5, hp⟩, fun c => ?_⟩
    rw [h5] at c
    exact absurd (Int32.le_refl _) c
  | succ m ih =>
    intro i hi σ hI hT h5 hp
    have hw := hI.1.2.2.2.2.2.2.2.2.1
    obtain ⟨d1, d2, d3⟩ := hw.2 i (by omega)
    obtain ⟨r1, r2, r3⟩ := hI.2.1.2.2.2.2.2.2.1
    have v1 : σ.1 21 i = nI (a.2.1 9 i) := (r3 i (by omega)).1
    have v2 : σ.1 22 i = nI (a.2.1 10 i) := (r3 i (by omega)).2.1
    refine b_X2_prepare_15 ⟨fun c => ?_, fun _ => k3_second isRows_20 r2 hw.1 (by omega) ⟨i, rfl, by omega, ?_⟩⟩
    · rw [h5] at c
      have := le_of_nI (by omega) (by omega) c
      omega
    · show M_X3_first 20 6 (wI σ 46 i (σ.1 22 i)) _ (nI i)
      rw [v2]
      refine k3_first isRows_20 (s := a.1 7) (by rw [wI_cell _ _ _ (by omega)]; exact r2) hw.1 (by omega) ⟨i, rfl, by omega, ?_⟩
      have e1 : (wI σ 46 i (nI (a.2.1 10 i))).1 (20 + 1) i = nI (a.2.1 9 i) := by rw [wI_cell _ _ _ (by omega)]; exact v1
      rw [e1, wI_same]
      have I1 : Inv0 a (wI σ 46 i (nI (a.2.1 10 i))) := hI.pl (fun c j q => by rw [wI_cell _ _ _ (by omega)])
      have T1 : Told a (-1) 32 (wI σ 46 i (nI (a.2.1 10 i))) := hT.mv sameL.rf (fun c j _ _ => by rw [wI_cell _ _ _ (by omega)])
      obtain ⟨l, hl⟩ : ∃ l, a.2.1 10 i = l + 1 := ⟨a.2.1 10 i - 1, by omega⟩
      have em : tM a i = stD (odm a (a.2.1 9 i)) l := by unfold tM; rw [hl]; rfl
      have goal : M_X1_startDays 32 (wI σ 46 i (nI (a.2.1 10 i))) (fun v12 s11 => ∃ j13 : Nat, nI i = nI j13 ∧ j13 < 6 ∧ R_X2_prepare_15 (wL s11 j13 v12) K (nI i + 1)) (nI (a.2.1 9 i)) (nI (l + 1)) := by
        refine k1_startDays isLaws_32 hI.1 T1 (by omega) (by omega) ⟨i, rfl, by omega, ?_⟩
        rw [nI_1, ← em]
        refine ih (i + 1) (by omega) _ (I1.pl (fun c j _ => rfl)) (T1.mv sameL.rf (fun c j _ _ => rfl)) ?_ (fun j hj => ?_)
        · show (wI σ 46 i (nI (a.2.1 10 i))).1 44 5 = _
          rw [wI_cell _ _ _ (by omega)]; exact h5
        · rw [wL_int, wL_rd]
          rcases (show j < i ∨ j = i by omega) with q | q
          · rw [wI_place _ _ _ (by omega), if_neg (by omega)]; exact hp j q
          · subst q; rw [wI_same, if_pos rfl]; exact ⟨rfl, rfl⟩
      rw [hl] at goal ⊢
      exact goal
theorem k2_prepare {K : r_St → Prop} {σ : r_St} (hI : Inv0 a σ) (hT : Told a (-1) 32 σ) (h : ∀ σ', Inv0 a σ' → Told a (-1) 32 σ' → Prep a σ' → K σ') : M_X2_prepare σ K := by
  have hw := hI.1.2.2.2.2.2.2.2.2.1
  refine b_X2_prepare ?_
  have e : imin (σ.1 20 4) 6 = nI (a.1 7) := by
    rw [hI.2.1.2.2.2.2.2.2.1.2.1, show (6 : Int32) = nI 6 from rfl, imin_nI (by omega) (by omega), if_neg (by omega)]
  rw [e]
  exact l2_prepare h (a.1 7) 0 (by omega) _ (hI.pl (fun c j q => by rw [wI_cell _ _ _ (by omega)])) (hT.mv sameL.rf (fun c j _ _ => by rw [wI_cell _ _ _ (by omega)])) (wI_same _ _ _ _) (fun j hj => by omega)
theorem l2_lay {K : Int32 → r_St → Prop} {d : Nat} {σ : r_St} (hW : WF a) (hd : d ≤ 40) (hP : Prep a σ) (h : ∀ σ', (∀ c j, ¬ c = 47 → σ'.1 c j = σ.1 c j) → σ'.2 = σ.2 → (∀ t, atR a (fun j => j) d (a.1 7) = some t → ∀ j, j < a.1 7 → σ'.1 47 j = oI (stR a (fun j => j) d j)) → K (endI (a.1 7) (atR a (fun j => j) d (a.1 7))) σ') :
    ∀ m k, k + m = a.1 7 → ∀ t, atR a (fun j => j) d k = some t → ∀ σ', (∀ c j, ¬ c = 47 → σ'.1 c j = σ.1 c j) → σ'.2 = σ.2 → (∀ j, j < k → σ'.1 47 j = oI (stR a (fun j => j) d j)) → R_X2_layInTurn_4 σ' K (nI t) (nI k) := by
  have hw := hW.2.2.2.2.2.2.2.2.1
  have hle := atR_le (a := a) (o := fun j => j) (d := d) (n := a.1 7) hd (fun k hk => (hw.2 k hk).2.1)
  intro m
  induction m with
  | zero =>
    intro k hk t ht σ' hF hL hj
    have e : k = a.1 7 := by omega
    subst e
    have t40 := hle _ (Nat.le_refl _) t ht
    have H := h σ' hF hL (fun t _ j hj2 => hj j hj2)
    rw [ht] at H
    refine b_X2_layInTurn_4 ⟨fun _ => ?_, fun c => ?_⟩
    · rw [hF 44 5 (by omega), hP.1]
      unfold endI at H
      refine ⟨fun c => ?_, fun c => ?_⟩
      · have hn : ¬ a.1 7 = 0 := fun q => c (by rw [q]; rfl)
        rw [if_neg hn] at H
        have ht1 : 1 ≤ t := by
          obtain ⟨q, hq⟩ : ∃ q, a.1 7 = q + 1 := ⟨a.1 7 - 1, by omega⟩
          rw [hq] at ht
          unfold atR at ht
          split at ht
          · cases ht
          · split at ht
            · cases ht
            · cases ht
              have := (hw.2 q (by omega)).2.1
              omega
        rw [show nI t - 1 = nI (t - 1) from pk_sub (b := 1) ht1]
        exact H
      · rw [if_pos (nI_inj (b := 0) (by omega) (by decide) c)] at H
        exact H
    · rw [hF 44 5 (by omega), hP.1] at c
      exact absurd (Int32.le_refl _) c
  | succ m ih =>
    intro k hk t ht σ' hF hL hj
    have hk' : k < a.1 7 := by omega
    have t40 := hle k (by omega) t ht
    have hl := (hw.2 k hk').2
    have est : stR a (fun j => j) d k = nxt a k t := by unfold stR; rw [ht]
    refine b_X2_layInTurn_4 ⟨fun c => ?_, fun _ => ⟨k, rfl, by omega, ?_⟩⟩
    · rw [hF 44 5 (by omega), hP.1] at c
      have := le_of_nI (by omega) (by omega) c
      omega
    · rw [hL, (hP.2 k hk').2]
      refine k5_firstDay (by have := tM_lt a k; omega) t40 ?_
      rw [fdR_o]
      cases hx : nxt a k t with
      | none =>
        have hx' : fdO (tM a k) (40 - t) t = none := hx
        rw [hx']
        refine ⟨fun c => absurd rfl c, fun _ => ?_⟩
        have none_up : ∀ q, k + 1 ≤ q → atR a (fun j => j) d q = none := by
          intro q hq
          induction q with
          | zero => omega
          | succ q ihq =>
            unfold atR
            rcases (show q = k ∨ k + 1 ≤ q by omega) with g | g
            · subst g; rw [ht]; simp only [hx]
            · rw [ihq g]
        have H := h σ' hF hL (fun t2 ht2 => by rw [none_up _ (by omega)] at ht2; cases ht2)
        rw [none_up _ (by omega)] at H
        unfold endI at H
        rw [if_neg (by omega)] at H
        exact H
      | some i =>
        have hx' : fdO (tM a k) (40 - t) t = some i := hx
        rw [hx']
        have hi := nxt_le hl.1 hx
        refine ⟨fun _ => ⟨k, rfl, by omega, k, rfl, by omega, ?_⟩, fun c => absurd c (nI_m1 (by omega))⟩
        show R_X2_layInTurn_4 (wI σ' 47 k (nI i)) K (nI i + (wI σ' 47 k (nI i)).1 46 k) (nI k + 1)
        rw [wI_cell _ _ _ (by omega), hF 46 k (by omega), (hP.2 k hk').1, nI_add, nI_1]
        refine ih (k + 1) (by omega) _ ?_ _ (fun c j q => by rw [wI_cell _ _ _ q]; exact hF c j q) hL (fun j hj2 => ?_)
        · show atR a (fun j => j) d (k + 1) = _
          unfold atR
          rw [ht]
          simp only [hx]
        · rcases (show j < k ∨ j = k by omega) with q | q
          · rw [wI_place _ _ _ (by omega)]; exact hj j q
          · subst q; rw [wI_same, est, hx]; rfl
def finV (a : ab) (d : Nat) (x : Int32) : Int32 := if x = -1 ∨ endI (a.1 7) (atR a (fun j => j) d (a.1 7)) = -1 then endI (a.1 7) (atR a (fun j => j) d (a.1 7)) else if x.toNatClampNeg < a.1 7 then oI (stR a (fun j => j) d x.toNatClampNeg) else -1
theorem IN_m5 {x : Int32} (hx : x = -1 ∨ ∃ i : Nat, i ≤ 5 ∧ x = nI i) : IN x (-1) 5 := by
  rcases hx with rfl | ⟨i, hi, rfl⟩
  · exact ⟨Int32.le_refl _, by decide⟩
  · refine ⟨?_, nI_le (b := 5) hi (by decide)⟩
    apply Int32.le_iff_toInt_le.mpr
    rw [nI_toInt (by omega)]
    show (-1 : Int) ≤ _
    omega
theorem end_some {o : Nat → Nat} {d : Nat} (h : ¬ endI (a.1 7) (atR a o d (a.1 7)) = -1) : ∃ t, atR a o d (a.1 7) = some t := by
  cases hq : atR a o d (a.1 7) with
  | none =>
    rw [hq] at h
    unfold endI at h
    split at h <;> exact absurd rfl h
  | some t => exact ⟨t, rfl⟩
theorem c5_finish {K : Int32 → r_St → Prop} {σ : r_St} {d : Nat} {x : Int32} (hI : Inv0 a σ) (hd : d < 40) (hx : x = -1 ∨ ∃ i : Nat, i ≤ 5 ∧ x = nI i) (h : ∀ σ', Inv0 a σ' → K (finV a d x) σ') : M_X5_finish σ K (nI d) x := by
  have hw := hI.1.2.2.2.2.2.2.2.2.1
  refine b_X5_finish ⟨fun _ => ⟨fun _ => k5_laws hI (fun s1 I1 T1 _ => k2_prepare I1 T1 (fun s2 I2 T2 P2 => ?_)), fun c => absurd (IN_m5 hx) c⟩, fun c => absurd (IN_day hd) c⟩
  refine b_X2_layInTurn (l2_lay hI.1 (by omega) P2 (fun s3 hF hL hj => ?_) (a.1 7) 0 (by omega) d rfl s2 (fun _ _ _ => rfl) rfl (fun j hj => by omega))
  have I3 : Inv0 a s3 := I2.pl (fun c j q => hF c j (by omega))
  have h := h s3 I3
  unfold finV at h
  refine ⟨fun c => ?_, fun c => ⟨fun c2 => ?_, fun c2 => ?_⟩⟩
  · rw [if_pos (Or.inr c)] at h
    exact h
  · rw [if_neg (fun q => by rcases q with q | q; exact c2 q; exact c q)] at h
    rcases hx with rfl | ⟨i, hi, rfl⟩
    · exact absurd rfl c2
    · rw [nI_clamp (by omega)] at h
      obtain ⟨t, ht⟩ := end_some c
      refine b_X2_startInTurn ?_
      rw [hF 44 5 (by omega), P2.1]
      refine ⟨fun g => ⟨i, rfl, by omega, ?_⟩, fun g => ?_⟩
      · obtain ⟨j, j1, j2⟩ := (IN_lt_iff (by omega)).mp g
        have j2 := nI_inj (by omega) (by omega) j2
        rw [if_pos (by omega)] at h
        rw [hj t ht i (by omega)]
        exact h
      · rw [if_neg (fun q => g ((IN_lt_iff (by omega)).mpr ⟨i, q, rfl⟩))] at h
        exact h
  · rw [if_pos (Or.inl c2)] at h
    exact h
/-! the reference -/
def FrF (σ σ' : r_St) : Prop := ∀ c j, ¬ c = 18 → σ'.1 c j = σ.1 c j
theorem l6_finishBy {K : Int32 → r_St → Prop} {o : Nat → Nat} {d : Nat} {σ : r_St} (hI : Inv1 a σ) (hL : Laid1 a (-1) σ) (hd : d ≤ 40) (ho : ∀ j, j < a.1 7 → σ.1 19 j = nI (o j) ∧ o j < a.1 7) (h : ∀ σ', FrF σ σ' → (∀ t, atR a o d (a.1 7) = some t → ∀ j, j < a.1 7 → σ'.1 18 j = oI (stR a o d j)) → K (endI (a.1 7) (atR a o d (a.1 7))) σ') :
    ∀ m k, k + m = a.1 7 → ∀ t, atR a o d k = some t → ∀ σ', FrF σ σ' → (∀ j, j < k → σ'.1 18 j = oI (stR a o d j)) → R_X6_finishBy_4 σ' K (nI t) (nI k) := by
  have hw := hI.1.2.2.2.2.2.2.2.2.1
  obtain ⟨r1, r2, r3⟩ := hI.2.2.2.2.2.2.2.1
  have hle := atR_le (a := a) (o := o) (d := d) (n := a.1 7) hd (fun k hk => (hw.2 _ (ho k hk).2).2.1)
  intro m
  induction m with
  | zero =>
    intro k hk t ht σ' hF hj
    have e : k = a.1 7 := by omega
    subst e
    have t40 := hle _ (Nat.le_refl _) t ht
    have H := h σ' hF (fun t _ j hj2 => hj j hj2)
    rw [ht] at H
    refine b_X6_finishBy_4 ⟨fun _ => ?_, fun c => ?_⟩
    · rw [hF 3 4 (by omega), r1]
      unfold endI at H
      refine ⟨fun c => ?_, fun c => ?_⟩
      · have hn : ¬ a.1 7 = 0 := fun q => c (by rw [q]; rfl)
        rw [if_neg hn] at H
        have ht1 : 1 ≤ t := by
          obtain ⟨q, hq⟩ : ∃ q, a.1 7 = q + 1 := ⟨a.1 7 - 1, by omega⟩
          rw [hq] at ht
          unfold atR at ht
          split at ht
          · cases ht
          · split at ht
            · cases ht
            · cases ht
              have := (hw.2 (o q) (ho q (by omega)).2).2.1
              omega
        rw [show nI t - 1 = nI (t - 1) from pk_sub (b := 1) ht1]
        exact H
      · rw [if_pos (nI_inj (b := 0) (by omega) (by decide) c)] at H
        exact H
    · rw [hF 3 4 (by omega), r1] at c
      exact absurd (Int32.le_refl _) c
  | succ m ih =>
    intro k hk t ht σ' hF hj
    have hk' : k < a.1 7 := by omega
    obtain ⟨o1, o2⟩ := ho k hk'
    have t40 := hle k (by omega) t ht
    obtain ⟨q1, hl⟩ := hw.2 (o k) o2
    have est : stR a o d k = nxt a (o k) t := by unfold stR; rw [ht]
    have eo : σ'.1 19 k = nI (o k) := by rw [hF 19 k (by omega)]; exact o1
    have L' : Laid1 a (-1) σ' := ⟨hL.1.mv (fun c j q => hF c j (by omega)), fun j hj => by rw [hF 14 j (by omega), hF 15 j (by omega), hF 15 _ (by omega), hF 16 j (by omega)]; exact hL.2 j hj⟩
    refine b_X6_finishBy_4 ⟨fun c => ?_, fun _ => ⟨k, rfl, by omega, o k, eo, by omega, o k, eo, by omega, ?_⟩⟩
    · rw [hF 3 4 (by omega), r1] at c
      have := le_of_nI (by omega) (by omega) c
      omega
    · rw [hF 12 _ (by omega), r2 _ o2, hF 13 _ (by omega), r3 _ o2]
      refine k6_firstFor hI.1 L' q1 hl.1 (by omega) t40 ?_
      rw [fdR_o]
      show ∃ j18 : Nat, nI k = nI j18 ∧ j18 < 6 ∧ _
      refine ⟨k, rfl, by omega, k, rfl, by omega, ?_⟩
      rw [wI_same]
      cases hx : nxt a (o k) t with
      | none =>
        have hx' : fdO (stD (odm a (a.2.1 9 (o k))) (a.2.1 10 (o k) - 1)) (40 - t) t = none := hx
        rw [hx']
        refine ⟨fun c => absurd rfl c, fun _ => ?_⟩
        have none_up : ∀ q, k + 1 ≤ q → atR a o d q = none := by
          intro q hq
          induction q with
          | zero => omega
          | succ q ihq =>
            unfold atR
            rcases (show q = k ∨ k + 1 ≤ q by omega) with g | g
            · subst g; rw [ht]; simp only [hx]
            · rw [ihq g]
        have H := h (wI σ' 18 k (oI none)) (fun c j q => by rw [wI_cell _ _ _ q]; exact hF c j q) (fun t2 ht2 => by rw [none_up _ (by omega)] at ht2; cases ht2)
        rw [none_up _ (by omega)] at H
        unfold endI at H
        rw [if_neg (by omega)] at H
        exact H
      | some i =>
        have hx' : fdO (stD (odm a (a.2.1 9 (o k))) (a.2.1 10 (o k) - 1)) (40 - t) t = some i := hx
        rw [hx']
        have hi := nxt_le hl.1 hx
        refine ⟨fun _ => ⟨k, rfl, by omega, o k, eo, by omega, ?_⟩, fun c => absurd c (nI_m1 (by omega))⟩
        show R_X6_finishBy_4 (wI σ' 18 k (nI i)) K ((wI σ' 18 k (nI i)).1 18 k + (wI σ' 18 k (nI i)).1 13 (o k)) (nI k + 1)
        rw [wI_same, wI_cell _ _ _ (by omega), hF 13 _ (by omega), r3 _ o2, nI_add, nI_1]
        refine ih (k + 1) (by omega) _ ?_ _ (fun c j q => by rw [wI_cell _ _ _ q]; exact hF c j q) (fun j hj2 => ?_)
        · show atR a o d (k + 1) = _
          unfold atR
          rw [ht]
          simp only [hx]
        · rcases (show j < k ∨ j = k by omega) with q | q
          · rw [wI_place _ _ _ (by omega)]; exact hj j q
          · subst q; rw [wI_same, est, hx]; rfl
theorem k6_finishBy {K : Int32 → r_St → Prop} {o : Nat → Nat} {d : Nat} {σ : r_St} (hI : Inv1 a σ) (hL : Laid1 a (-1) σ) (hd : d ≤ 40) (ho : ∀ j, j < a.1 7 → σ.1 19 j = nI (o j) ∧ o j < a.1 7) (h : ∀ σ', FrF σ σ' → (∀ t, atR a o d (a.1 7) = some t → ∀ j, j < a.1 7 → σ'.1 18 j = oI (stR a o d j)) → K (endI (a.1 7) (atR a o d (a.1 7))) σ') : M_X6_finishBy σ K (nI d) :=
  b_X6_finishBy (l6_finishBy hI hL hd ho h (a.1 7) 0 (by omega) d rfl σ (fun _ _ _ => rfl) (fun j hj => by omega))
theorem l6_finishOf {K : Int32 → r_St → Prop} {d : Nat} {x : Int32} {σ : r_St} (hI : Inv1 a σ) (hL : Laid1 a (-1) σ) (hd : d < 40) (hx : x = -1 ∨ ∃ i : Nat, i ≤ 5 ∧ x = nI i) (h : ∀ σ', Inv1 a σ' → Read1 a σ' → K (finV a d x) σ') :
    ∀ m k, k + m = 6 → ∀ σ', (∀ c j, ¬ c = 19 → σ'.1 c j = σ.1 c j) → (∀ j, j < k → σ'.1 19 j = nI j) → R_X6_finishOf_6 σ' K (nI d) x (nI k) := by
  have hw := hI.1.2.2.2.2.2.2.2.2.1
  intro m
  induction m with
  | zero =>
    intro k hk σ' hF hj
    have e : k = 6 := by omega
    subst e
    have I' : Inv1 a σ' := hI.mv (fun c j q1 q2 => hF c j (by omega))
    have L' : Laid1 a (-1) σ' := ⟨hL.1.mv (fun c j q => hF c j (by omega)), fun j hj => by rw [hF 14 j (by omega), hF 15 j (by omega), hF 15 _ (by omega), hF 16 j (by omega)]; exact hL.2 j hj⟩
    refine b_X6_finishOf_6 ⟨fun _ => k6_finishBy (o := fun j => j) I' L' (by omega) (fun j hj2 => ⟨hj j (by omega), hj2⟩) (fun s2 f2 hs => ?_), fun c => absurd (Int32.le_refl _) c⟩
    have I2 : Inv1 a s2 := I'.mv (fun c j q1 q2 => f2 c j (by omega))
    have h := h s2 I2 (L'.1.mv (fun c j q => f2 c j (by omega)))
    unfold finV at h
    refine ⟨fun c => ?_, fun c => ⟨fun c2 => ?_, fun c2 => ?_⟩⟩
    · rw [if_pos (Or.inl c)] at h
      exact h
    · rw [if_neg (fun q => by rcases q with q | q; exact c q; exact c2 q)] at h
      rcases hx with rfl | ⟨i, hi, rfl⟩
      · exact absurd rfl c
      · rw [nI_clamp (by omega)] at h
        obtain ⟨t, ht⟩ := end_some c2
        rw [I2.2.2.2.2.2.2.2.1.1]
        refine ⟨fun g => ?_, fun g => ⟨i, rfl, by omega, ?_⟩⟩
        · have := le_of_nI (by omega) (by omega) g
          rw [if_neg (by omega)] at h
          exact h
        · have g := nle_of_nI (by omega) (by omega) g
          rw [if_pos g] at h
          rw [hs t ht i g]
          exact h
    · rw [if_pos (Or.inr c2)] at h
      exact h
  | succ m ih =>
    intro k hk σ' hF hj
    refine b_X6_finishOf_6 ⟨fun c => ?_, fun _ => ⟨k, rfl, by omega, ?_⟩⟩
    · have := le_of_nI (x := 6) (by decide) (by omega) c
      omega
    · rw [nI_1]
      refine ih (k + 1) (by omega) _ (fun c j q => by rw [wI_cell _ _ _ q]; exact hF c j q) (fun j hj2 => ?_)
      rcases (show j < k ∨ j = k by omega) with q | q
      · rw [wI_place _ _ _ (by omega)]; exact hj j q
      · subst q; rw [wI_same]
theorem c6_finish {K : Int32 → r_St → Prop} {σ : r_St} {d : Nat} {x : Int32} (hI : Inv1 a σ) (hd : d < 40) (hx : x = -1 ∨ ∃ i : Nat, i ≤ 5 ∧ x = nI i) (h : ∀ σ', Inv1 a σ' → Read1 a σ' → K (finV a d x) σ') : M_X6_finishOf σ K (nI d) x :=
  b_X6_finishOf (k6_laysTold hI (fun s I L => l6_finishOf I L hd hx h 6 0 (by omega) s (fun _ _ _ => rfl) (fun j hj => by omega)))
theorem p_finish (a : ab) (hW : WF a) (x1 x2 : Int32) : PI a (fun σ K => M_X5_finish σ K x1 x2) (fun σ K => M_X6_finish σ K x1 x2) := by
  by_cases c0 : ¬ IN x1 0 39
  · exact ⟨-2, a, fun σ K hI h => b_X5_finish ⟨fun c => absurd c c0, fun _ => h σ hI⟩, fun σ K hI h => b_X6_finish ⟨fun c => absurd c c0, fun _ => h σ hI⟩⟩
  have c0 := Classical.not_not.mp c0
  by_cases c1 : ¬ IN x2 (-1) 5
  · exact ⟨-2, a, fun σ K hI h => b_X5_finish ⟨fun _ => ⟨fun c => absurd c c1, fun _ => h σ hI⟩, fun c => absurd c0 c⟩, fun σ K hI h => b_X6_finish ⟨fun _ => ⟨fun c => absurd c c1, fun _ => h σ hI⟩, fun c => absurd c0 c⟩⟩
  have c1 := Classical.not_not.mp c1
  obtain ⟨d, l, r, rfl⟩ := (IN_iff (lo := 0) (hi := 39) (by decide) (by decide)).mp c0
  have hx := IN_m1 (n := 5) (by decide) c1
  exact ⟨finV a d x2, a, fun σ K hI h => c5_finish hI (by omega) hx h, fun σ K hI h => b_X6_finish ⟨fun _ => ⟨fun _ => c6_finish hI (by omega) hx (fun s I _ => h s I), fun c => absurd c1 c⟩, fun c => absurd c0 c⟩⟩
end PRP
