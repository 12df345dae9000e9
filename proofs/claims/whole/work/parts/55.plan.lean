/-! ===== plan ===== -/
/-- the best so far, in the class's cells -/
def BS (n : Nat) (s : rS) (σ : r_St) : Prop := match s with
  | none => σ.1 44 6 = nI 40
  | some p => σ.1 44 6 = nI (p.1 - 1) ∧ 1 ≤ p.1 ∧ p.1 ≤ 40 ∧ ∀ j, j < n → σ.1 49 j = nI (p.2 j)
def FrS (σ σ' : r_St) : Prop := (∀ c j, ¬ (c = 44 ∧ j = 6) → ¬ c = 48 → ¬ c = 49 → σ'.1 c j = σ.1 c j) ∧ σ'.2 = σ.2
theorem FrS.tr {σ σ' σ'' : r_St} (h : FrS σ σ') (g : FrS σ' σ'') : FrS σ σ'' := ⟨fun c j a b d => (g.1 c j a b d).trans (h.1 c j a b d), g.2.trans h.2⟩
theorem Prep.mv {a : ab} {σ σ' : r_St} (h : Prep a σ) (f : FrS σ σ') : Prep a σ' := ⟨by rw [f.1 44 5 (by omega) (by omega) (by omega)]; exact h.1, fun i hi => by rw [f.1 46 i (by omega) (by omega) (by omega), f.2]; exact h.2 i hi⟩
def btR (s : rS) (t : Nat) : Prop := match s with
  | none => True
  | some p => t < p.1
section PLN
variable {a : ab}
theorem l2_keepRow {K : r_St → Prop} {n : Nat} {row : Nat → Nat} {σ : r_St} (hn : n ≤ 6) (h5 : σ.1 44 5 = nI n) (hr : ∀ j, j < n → σ.1 48 j = nI (row j)) (h : ∀ σ', (∀ c j, ¬ c = 49 → σ'.1 c j = σ.1 c j) → σ'.2 = σ.2 → (∀ j, j < n → σ'.1 49 j = nI (row j)) → K σ') : ∀ m i, i + m = n → ∀ σ', (∀ c j, ¬ c = 49 → σ'.1 c j = σ.1 c j) → σ'.2 = σ.2 → (∀ j, j < i → σ'.1 49 j = nI (row j)) → R_X2_keepRow_2 σ' K (nI i) := by
  intro m
  induction m with
  | zero =>
    intro i hi σ' hF hL hj
    have e : i = n := by omega
    subst e
    refine b_X2_keepRow_2 ⟨fun _ => h σ' hF hL hj, fun c => ?_⟩
    rw [hF 44 5 (by omega), h5] at c
    exact absurd (Int32.le_refl _) c
  | succ m ih =>
    intro i hi σ' hF hL hj
    refine b_X2_keepRow_2 ⟨fun c => ?_, fun _ => ⟨i, rfl, by omega, i, rfl, by omega, ?_⟩⟩
    · rw [hF 44 5 (by omega), h5] at c
      have := le_of_nI (by omega) (by omega) c
      omega
    · rw [nI_1, hF 48 i (by omega), hr i (by omega)]
      refine ih (i + 1) (by omega) _ (fun c j q => by rw [wI_cell _ _ _ q]; exact hF c j q) hL (fun j hj2 => ?_)
      rcases (show j < i ∨ j = i by omega) with q | q
      · rw [wI_place _ _ _ (by omega)]; exact hj j q
      · subst q; rw [wI_same]
theorem up_same {r : Nat → Nat} {k i : Nat} : upN r k i k = i := if_pos rfl
theorem up_other {r : Nat → Nat} {k i j : Nat} (h : ¬ j = k) : upN r k i j = r j := if_neg h
theorem um_up (r : Nat → Nat) (k i : Nat) : um (upN r k i) (k + 1) = um r k ||| 2 ^ i := by
  have e : ∀ m, m ≤ k → um (upN r k i) m = um r m := by
    intro m
    induction m with
    | zero => intro _; rfl
    | succ m ih =>
      intro hm
      unfold um
      rw [ih (by omega), up_other (by omega)]
  show um (upN r k i) k ||| 2 ^ upN r k i k = _
  rw [e k (Nat.le_refl _), up_same]
theorem l2_search (hW : WF a) {d : Nat} (hd : d ≤ 40) : ∀ m k dp row t s σ (K : r_St → Prop), k + m = a.1 7 → 0 < a.1 7 → 5 + m ≤ dp → (∀ j, j < k → row j < a.1 7) → (∀ i j, i < j → j < k → ¬ row i = row j) → (∀ j, k ≤ j → row j = 0) → atR a row d k = some t → Prep a σ → (∀ j, j < k → σ.1 48 j = nI (row j)) → BS (a.1 7) s σ → btR s t →
    (∀ σ', FrS σ σ' → (∀ j, j < k → σ'.1 48 j = σ.1 48 j) → BS (a.1 7) (sc a d m k row s) σ' → K σ') → M_X2_search dp σ K (nI k) (nI t) (nI (um row k)) := by
  have hw := hW.2.2.2.2.2.2.2.2.1
  intro m
  induction m with
  | zero =>
    intro k dp row t s σ K hk hn hdp hr hdis hz hat hP hrow hB hb h
    obtain ⟨dp, rfl⟩ : ∃ q, dp = q + 1 := ⟨dp - 1, by omega⟩
    have e : k = a.1 7 := by omega
    subst e
    have hl : ∀ j, j < a.1 7 → 1 ≤ a.2.1 10 (row j) := fun j hj => (hw.2 _ (hr j hj)).2.1
    have t40 := atR_le (a := a) (o := row) hd hl _ (Nat.le_refl _) t hat
    have t1 : 1 ≤ t := by
      obtain ⟨q, hq⟩ : ∃ q, a.1 7 = q + 1 := ⟨a.1 7 - 1, by omega⟩
      rw [hq] at hat
      unfold atR at hat
      split at hat
      · cases hat
      · split at hat
        · cases hat
        · cases hat
          have := hl q (by omega)
          omega
    have ev : vlR a d row = some t := by
      unfold vlR
      rw [inj_onto hr hdis]
      exact hat
    have es : stp a d s row = some (t, row) := by
      unfold stp
      rw [ev]
      cases s with
      | none => rfl
      | some p =>
        show (if t < p.1 then some (t, row) else some p) = _
        rw [if_pos (show t < p.1 from hb)]
    refine b_X2_search (by omega) ⟨fun c => ?_, fun _ => ?_⟩
    · rw [hP.1] at c
      have := lt_of_nI (by omega) (by omega) c
      omega
    · rw [show nI t - 1 = nI (t - 1) from pk_sub (b := 1) t1]
      refine b_X2_keepRow (l2_keepRow (n := a.1 7) (row := row) (σ := wI σ 44 6 (nI (t - 1))) hw.1 (by rw [wI_place _ _ _ (by omega)]; exact hP.1) (fun j hj => by rw [wI_cell _ _ _ (by omega)]; exact hrow j hj) (fun σ' hF hL hj => h σ' ⟨fun c j q1 q2 q3 => ?_, hL⟩ (fun j hj2 => ?_) ?_) (a.1 7) 0 (by omega) _ (fun _ _ _ => rfl) rfl (fun j hj => by omega))
      · rw [hF c j q3, wI_ne _ _ q1]
      · rw [hF 48 j (by omega), wI_cell _ _ _ (by omega)]
      · show BS (a.1 7) (stp a d s row) σ'
        rw [es]
        exact ⟨by rw [hF 44 6 (by omega), wI_same], t1, t40, hj⟩
  | succ m ih =>
    intro k dp row t s σ K hk hn hdp hr hdis hz hat hP hrow hB hb h
    obtain ⟨dp, rfl⟩ : ∃ q, dp = q + 1 := ⟨dp - 1, by omega⟩
    have hk6 : k < a.1 7 := by omega
    have hl : ∀ j, j < k → 1 ≤ a.2.1 10 (row j) := fun j hj => (hw.2 _ (hr j hj)).2.1
    have t40 := atR_le (a := a) (o := row) hd hl k (Nat.le_refl _) t hat
    have humlt : um row k < 2 ^ a.1 7 := um_lt k hr
    have hum64 : um row k < 64 := Nat.lt_of_lt_of_le humlt (by
      have := Nat.pow_le_pow_right (n := 2) (by decide) hw.1
      omega)
    -- the loop over the tasks
    have loop : ∀ q i, i + q = a.1 7 → ∀ σ', FrS σ σ' → (∀ j, j < k → σ'.1 48 j = σ.1 48 j) → BS (a.1 7) (fo (fun i s => sc a d m (k + 1) (upN row k i) s) i s) σ' → R_X2_search_23 (dp + 1) σ' K (nI k) (nI t) (nI (um row k)) (nI i) := by
      intro q
      induction q with
      | zero =>
        intro i hi σ' hF h48 hB'
        have e : i = a.1 7 := by omega
        subst e
        refine b_X2_search_23 (by omega) ⟨fun _ => h σ' hF h48 hB', fun c => ?_⟩
        rw [(hP.mv hF).1] at c
        exact absurd (Int32.le_refl _) c
      | succ q ihq =>
        intro i hi σ' hF h48 hB'
        have hi6 : i < a.1 7 := by omega
        have P' := hP.mv hF
        have hli := (hw.2 i hi6).2
        generalize hS : fo (fun i s => sc a d m (k + 1) (upN row k i) s) i s = S at hB'
        have eS : fo (fun i s => sc a d m (k + 1) (upN row k i) s) (i + 1) s = sc a d m (k + 1) (upN row k i) S := by
          show sc a d m (k + 1) (upN row k i) (fo (fun i s => sc a d m (k + 1) (upN row k i) s) i s) = _
          rw [hS]
        have IHq := ihq (i + 1) (by omega)
        rw [eS] at IHq
        have hr' : ∀ j, j < k + 1 → upN row k i j < a.1 7 := by
          intro j hj
          rcases Nat.decEq j k with g | g
          · rw [up_other g]; exact hr j (by omega)
          · subst g; rw [up_same]; exact hi6
        have skip : (∀ r, (∀ j, j < k + 1 → r j = upN row k i j) → (∀ j, j < a.1 7 → r j < a.1 7) → stp a d S r = S) → R_X2_search_23 (dp + 1) σ' K (nI k) (nI t) (nI (um row k)) (nI i + 1) := by
          intro hno
          rw [nI_1]
          have e := sc_noop a d m (k + 1) (upN row k i) S (by omega) hr' hno
          rw [e] at IHq
          exact IHq σ' hF h48 hB'
        have at' : ∀ r, (∀ j, j < k + 1 → r j = upN row k i j) → atR a r d k = some t ∧ r k = i := by
          intro r h1
          refine ⟨?_, by rw [h1 k (by omega), up_same]⟩
          rw [← hat]
          exact atR_cong k (fun j hj => by rw [h1 j (by omega), up_other (by omega)])
        refine b_X2_search_23 (by omega) ⟨fun c => ?_, fun _ => ⟨i, rfl, by omega, ?_⟩⟩
        · rw [P'.1] at c
          have := le_of_nI (by omega) (by omega) c
          omega
        · rw [(P'.2 i hi6).2]
          refine k5_firstDay (by have := tM_lt a i; omega) t40 ⟨i, rfl, by omega, ?_⟩
          rw [fdR_o, iu_bit (by omega) (by omega), (P'.2 i hi6).1]
          refine ⟨fun c => skip (fun r h1 h2 => ?_), fun c => ?_⟩
          · -- taken
            have hb2 : (um row k).testBit i = true := by
              cases hq2 : (um row k).testBit i with
              | true => rfl
              | false => rw [hq2] at c; exact absurd rfl c
            obtain ⟨j, j1, j2⟩ := (um_bit row k i).mp hb2
            refine stp_none ?_
            unfold vlR
            cases hon : ontoB r (a.1 7) with
            | false => rfl
            | true =>
              exfalso
              refine onto_inj hon (i := j) (k := k) j1 hk6 ?_
              rw [h1 j (by omega), h1 k (by omega), up_same, up_other (by omega)]
              exact j2
          · have hb2 := b2n_0.mp c
            have hnew : ∀ j, j < k → ¬ row j = i := fun j hj e => by
              have := (um_bit row k i).mpr ⟨j, hj, e⟩
              rw [hb2] at this
              cases this
            cases hx : nxt a i t with
            | none =>
              have hx' : fdO (tM a i) (40 - t) t = none := hx
              rw [hx']
              refine ⟨fun _ => skip (fun r h1 h2 => ?_), fun c => absurd rfl c⟩
              obtain ⟨g1, g2⟩ := at' r h1
              refine stp_none ?_
              have none_up : ∀ q, k + 1 ≤ q → atR a r d q = none := by
                intro q hq
                induction q with
                | zero => omega
                | succ q ihq =>
                  unfold atR
                  rcases (show q = k ∨ k + 1 ≤ q by omega) with g | g
                  · subst g; rw [g1]; simp only [g2, hx]
                  · rw [ihq g]
              unfold vlR
              rw [none_up _ (by omega)]
              split <;> rfl
            | some i0 =>
              have hx' : fdO (tM a i) (40 - t) t = some i0 := hx
              rw [hx']
              obtain ⟨n1, n2⟩ := nxt_le hli.1 hx
              refine ⟨fun c => absurd c (nI_m1 (by omega)), fun _ => ?_⟩
              have ee : (oI (some i0)) + nI (a.2.1 10 i) - 1 = nI (i0 + a.2.1 10 i - 1) := by
                show nI i0 + nI (a.2.1 10 i) - 1 = _
                rw [nI_add]
                exact pk_sub (b := 1) (by omega)
              rw [ee]
              have atk1 : ∀ r, (∀ j, j < k + 1 → r j = upN row k i j) → atR a r d (k + 1) = some (i0 + a.2.1 10 i) := by
                intro r h1
                obtain ⟨g1, g2⟩ := at' r h1
                show atR a r d (k + 1) = _
                unfold atR
                rw [g1]
                simp only [g2, hx]
              refine ⟨fun c => skip (fun r h1 h2 => ?_), fun c => ⟨k, rfl, by omega, ?_⟩⟩
              · -- not sooner
                have hmono := atR_mono (a := a) (o := r) (d := d) (n := a.1 7) (fun j hj => (hw.2 _ (h2 j hj)).2.1) (atk1 r h1) (a.1 7) (by omega) (Nat.le_refl _)
                unfold stp
                cases hv : vlR a d r with
                | none => rfl
                | some w =>
                  have hw2 : atR a r d (a.1 7) = some w := by
                    unfold vlR at hv
                    split at hv
                    · exact hv
                    · cases hv
                  have hge := hmono w hw2
                  cases hSS : S with
                  | none =>
                    rw [hSS] at hB'
                    have hB'' : σ'.1 44 6 = nI 40 := hB'
                    rw [hB''] at c
                    have := le_of_nI (by omega) (by omega) c
                    omega
                  | some p =>
                    rw [hSS] at hB'
                    obtain ⟨q1, q2, q3, q4⟩ := hB'
                    rw [q1] at c
                    have := le_of_nI (by omega) (by omega) c
                    show (if w < p.1 then some (w, r) else some p) = some p
                    rw [if_neg (by omega)]
              · have hbt : btR S (i0 + a.2.1 10 i) := by
                  cases hSS : S with
                  | none => exact trivial
                  | some p =>
                    rw [hSS] at hB'
                    obtain ⟨q1, q2, q3, q4⟩ := hB'
                    rw [q1] at c
                    have := nle_of_nI (by omega) (by omega) c
                    show i0 + a.2.1 10 i < p.1
                    omega
                have e1 : nI (i0 + a.2.1 10 i - 1) + 1 = nI (i0 + a.2.1 10 i) := by rw [nI_1]; congr 1; omega
                rw [e1, sl_1 (by omega), n_or, nI_1, nI_1, ← um_up]
                refine ih (k + 1) dp (upN row k i) (i0 + a.2.1 10 i) S (wI σ' 48 k (nI i)) _ (by omega) hn (by omega) hr' (fun x y hxy hy => ?_) (fun j hj => ?_) (atk1 _ (fun _ _ => rfl)) (P'.mv ⟨fun c j q1 q2 q3 => by rw [wI_cell _ _ _ q2], rfl⟩) (fun j hj => ?_) ?_ hbt (fun σ2 f2 g48 B2 => ?_)
                · rcases (show y < k ∨ y = k by omega) with g | g
                  · rw [up_other (by omega), up_other (by omega)]; exact hdis x y hxy g
                  · subst g; rw [up_same, up_other (by omega)]; exact hnew x (by omega)
                · rw [up_other (by omega)]; exact hz j (by omega)
                · rcases Nat.decEq j k with g | g
                  · rw [wI_place _ _ _ g, up_other g, h48 j (by omega)]; exact hrow j (by omega)
                  · subst g; rw [wI_same, up_same]
                · cases hSS : S with
                  | none =>
                    rw [hSS] at hB'
                    show (wI σ' 48 k (nI i)).1 44 6 = nI 40
                    rw [wI_cell _ _ _ (by omega)]; exact hB'
                  | some p =>
                    rw [hSS] at hB'
                    obtain ⟨q1, q2, q3, q4⟩ := hB'
                    exact ⟨by rw [wI_cell _ _ _ (by omega)]; exact q1, q2, q3, fun j hj => by rw [wI_cell _ _ _ (by omega)]; exact q4 j hj⟩
                · have fm : FrS σ' (wI σ' 48 k (nI i)) := ⟨fun c j q1 q2 q3 => by rw [wI_cell _ _ _ q2], rfl⟩
                  refine IHq σ2 ((hF.tr fm).tr f2) (fun j hj => ?_) B2
                  rw [g48 j (by omega), wI_place _ _ _ (by omega)]; exact h48 j hj
    refine b_X2_search (by omega) ⟨fun _ => loop (a.1 7) 0 (by omega) σ ⟨fun _ _ _ _ _ => rfl, rfl⟩ (fun _ _ => rfl) hB, fun c => ?_⟩
    rw [hP.1] at c
    exact absurd (nI_lt hk6 (by omega)) c
def bsE (s : rS) : Int32 := match s with
  | none => -1
  | some p => nI (p.1 - 1)
def bsR (s : rS) (i : Nat) : Int32 := match s with
  | none => -1
  | some p => nI (p.2 i)
def bst' (a : ab) (d : Nat) : rS := if a.1 7 = 0 then none else bst a d
def plaV (a : ab) (d : Nat) (x : Int32) : Int32 := if x = -1 ∨ bst' a d = none then bsE (bst' a d) else if x.toNatClampNeg < a.1 7 then bsR (bst' a d) x.toNatClampNeg else -1
theorem c5_plan {K : Int32 → r_St → Prop} {σ : r_St} {d : Nat} {x : Int32} (hI : Inv0 a σ) (hd : d < 40) (hx : x = -1 ∨ ∃ i : Nat, i ≤ 5 ∧ x = nI i) (h : ∀ σ', Inv0 a σ' → K (plaV a d x) σ') : M_X5_plan σ K (nI d) x := by
  have hw := hI.1.2.2.2.2.2.2.2.2.1
  refine b_X5_plan ⟨fun _ => ⟨fun _ => k5_laws hI (fun s1 I1 T1 _ => k2_prepare I1 T1 (fun s2 I2 T2 P2 => ?_)), fun c => absurd (IN_m5 hx) c⟩, fun c => absurd (IN_day hd) c⟩
  have f2 : FrS s2 (wI s2 44 6 40) := ⟨fun c j q1 q2 q3 => wI_ne _ _ q1, rfl⟩
  -- behind the search
  have fin : ∀ s3, FrS s2 s3 → BS (a.1 7) (bst' a d) s3 → R_X2_findBestRow_20 s3 (fun v4 s3 => (v4 = (-1) → K v4 s3) ∧ (¬ (v4 = (-1)) → ((¬ x = (-1) → M_X2_taskInBestRow s3 (fun v6 s5 => K v6 s5) x) ∧ (x = (-1) → K v4 s3)))) := by
    intro s3 f3 B3
    have I3 : Inv0 a s3 := I2.pl (fun c j q => f3.1 c j (by omega) (by omega) (by omega))
    have h := h s3 I3
    unfold plaV at h
    cases hS : bst' a d with
    | none =>
      rw [hS] at B3 h
      have B3 : s3.1 44 6 = nI 40 := B3
      rw [if_pos (Or.inr rfl)] at h
      refine b_X2_findBestRow_20 ⟨fun c => ?_, fun _ => ⟨fun _ => h, fun c => absurd rfl c⟩⟩
      rw [B3] at c
      exact absurd rfl c
    | some p =>
      rw [hS] at B3 h
      obtain ⟨q1, q2, q3, q4⟩ := B3
      refine b_X2_findBestRow_20 ⟨fun _ => ?_, fun c => ?_⟩
      · rw [q1]
        refine ⟨fun c => absurd c (nI_m1 (by omega)), fun _ => ⟨fun c2 => ?_, fun c2 => ?_⟩⟩
        · rw [if_neg (fun q => by rcases q with q | q; exact c2 q; cases q)] at h
          rcases hx with rfl | ⟨i, hi, rfl⟩
          · exact absurd rfl c2
          · rw [nI_clamp (by omega)] at h
            refine b_X2_taskInBestRow ?_
            rw [f3.1 44 5 (by omega) (by omega) (by omega), P2.1]
            refine ⟨fun g => ⟨i, rfl, by omega, ?_⟩, fun g => ?_⟩
            · obtain ⟨j, j1, j2⟩ := (IN_lt_iff (by omega)).mp g
              have j2 := nI_inj (by omega) (by omega) j2
              rw [if_pos (by omega)] at h
              rw [q4 i (by omega)]
              exact h
            · rw [if_neg (fun q => g ((IN_lt_iff (by omega)).mpr ⟨i, q, rfl⟩))] at h
              exact h
        · rw [if_pos (Or.inl c2)] at h
          exact h
      · rw [q1] at c
        have := nI_inj (b := 40) (by omega) (by decide) c
        omega
  refine b_X2_findBestRow ⟨fun c => ?_, fun c => ?_⟩
  · rw [P2.1] at c
    have c := le_of_nI (y := 0) (by omega) (by decide) c
    refine fin _ f2 ?_
    unfold bst'
    rw [if_pos (by omega)]
    exact wI_same _ _ _ _
  · rw [P2.1] at c
    have c := nle_of_nI (y := 0) (by omega) (by decide) c
    refine l2_search hI.1 (d := d) (by omega) (a.1 7) 0 19 row0 d none (wI s2 44 6 40) _ (by omega) c (by omega) (fun j hj => by omega) (fun i j _ hj => by omega) (fun j _ => rfl) rfl (P2.mv f2) (fun j hj => by omega) (wI_same _ _ _ _) trivial (fun s3 f3 _ B3 => fin s3 (f2.tr f3) ?_)
    unfold bst'
    rw [if_neg (by omega)]
    exact B3
/-! the reference -/
/-- the best so far, in the reference's cells -/
def BR (n : Nat) (s : rS) (x : Int32) (σ : r_St) : Prop := match s with
  | none => x = -1
  | some p => x = nI (p.1 - 1) ∧ 1 ≤ p.1 ∧ p.1 ≤ 40 ∧ ∀ j, j < n → σ.1 20 j = nI (p.2 j)
def FrP (σ σ' : r_St) : Prop := ∀ c j, ¬ c = 18 → ¬ c = 19 → ¬ c = 20 → σ'.1 c j = σ.1 c j
theorem FrP.L {w : Int32} {σ σ' : r_St} (hL : Laid1 a w σ) (hF : FrP σ σ') : Laid1 a w σ' := ⟨hL.1.mv (fun c j q => hF c j (by omega) (by omega) (by omega)), fun j hj => by rw [hF 14 j (by omega) (by omega) (by omega), hF 15 j (by omega) (by omega) (by omega), hF 15 _ (by omega) (by omega) (by omega), hF 16 j (by omega) (by omega) (by omega)]; exact hL.2 j hj⟩
theorem l6_copyRow {K : Int32 → r_St → Prop} {n : Nat} {x1 x3 x4 x5 : Int32} {r : Nat → Nat} {σ : r_St} (hn : n ≤ 6) (hr : ∀ j, j < n → σ.1 19 j = nI (r j)) (h : ∀ σ', (∀ c j, ¬ c = 20 → σ'.1 c j = σ.1 c j) → (∀ j, j < n → σ'.1 20 j = nI (r j)) → R_X6_planBy_34 σ' K x1 (nI n) x3 x4 (x5 + 1)) : ∀ m i, i + m = n → ∀ σ', (∀ c j, ¬ c = 20 → σ'.1 c j = σ.1 c j) → (∀ j, j < i → σ'.1 20 j = nI (r j)) → R_X6_planBy_141 σ' K x1 (nI n) x3 x4 x5 (nI i) := by
  intro m
  induction m with
  | zero =>
    intro i hi σ' hF hj
    have e : i = n := by omega
    subst e
    exact b_X6_planBy_141 ⟨fun _ => h σ' hF hj, fun c => absurd (Int32.le_refl _) c⟩
  | succ m ih =>
    intro i hi σ' hF hj
    refine b_X6_planBy_141 ⟨fun c => ?_, fun _ => ⟨i, rfl, by omega, i, rfl, by omega, ?_⟩⟩
    · have := le_of_nI (by omega) (by omega) c
      omega
    · rw [nI_1, hF 19 i (by omega), hr i (by omega)]
      refine ih (i + 1) (by omega) _ (fun c j q => by rw [wI_cell _ _ _ q]; exact hF c j q) (fun j hj2 => ?_)
      rcases (show j < i ∨ j = i by omega) with q | q
      · rw [wI_place _ _ _ (by omega)]; exact hj j q
      · subst q; rw [wI_same]
/-- the mask from place k on -/
def umD (r : Nat → Nat) (n : Nat) : Nat → Nat
  | 0 => 0
  | m + 1 => umD r n m ||| 2 ^ r (n - 1 - m)
theorem umD_um (r : Nat → Nat) (n : Nat) : umD r n n = um r n := by
  apply Nat.eq_of_testBit_eq
  intro i
  rw [Bool.eq_iff_iff, um_bit]
  have gen : ∀ m, m ≤ n → ((umD r n m).testBit i = true ↔ ∃ j, n - m ≤ j ∧ j < n ∧ r j = i) := by
    intro m
    induction m with
    | zero =>
      intro _
      constructor
      · intro h; unfold umD at h; simp at h
      · rintro ⟨j, h1, h2, _⟩; omega
    | succ m ih =>
      intro hm
      unfold umD
      rw [Nat.testBit_or, Bool.or_eq_true, ih (by omega), Nat.testBit_two_pow]
      constructor
      · rintro (⟨j, h1, h2, h3⟩ | h)
        · exact ⟨j, by omega, h2, h3⟩
        · exact ⟨n - 1 - m, by omega, by omega, of_decide_eq_true h⟩
      · rintro ⟨j, h1, h2, h3⟩
        rcases (show n - m ≤ j ∨ j = n - 1 - m by omega) with q | q
        · exact Or.inl ⟨j, q, h2, h3⟩
        · subst q; exact Or.inr (decide_eq_true h3)
  rw [gen n (Nat.le_refl _)]
  constructor
  · rintro ⟨j, _, h2, h3⟩; exact ⟨j, h2, h3⟩
  · rintro ⟨j, h2, h3⟩; exact ⟨j, by omega, h2, h3⟩
theorem dig_lt {n N j : Nat} (hn : 0 < n) : dig n N j < n := by
  unfold dig
  split
  · exact Nat.mod_lt _ hn
  · exact hn
theorem umD_lt {r : Nat → Nat} {n : Nat} (h : ∀ j, r j < n) : ∀ m, umD r n m < 2 ^ n := by
  intro m
  induction m with
  | zero => exact Nat.two_pow_pos n
  | succ m ih => exact Nat.or_lt_two_pow ih (Nat.pow_lt_pow_right (by decide) (h _))
theorem l6_decode {K : Int32 → r_St → Prop} {n N : Nat} {x1 x3 x4 : Int32} {σ : r_St} (hn1 : 1 ≤ n) (hn : n ≤ 6) (hN : N < 2147483648) (h : ∀ σ', (∀ c j, ¬ c = 19 → σ'.1 c j = σ.1 c j) → (∀ j, j < n → σ'.1 19 j = nI (dig n N j)) → (¬ nI (um (dig n N) n) = sl 1 (nI n) - 1 → R_X6_planBy_113 σ' K x1 (nI n) x3 x4 (nI N) (-1)) ∧ (nI (um (dig n N) n) = sl 1 (nI n) - 1 → M_X6_finishBy σ' (fun v2 s1 => R_X6_planBy_113 s1 K x1 (nI n) x3 x4 (nI N) v2) x1)) :
    ∀ m q, q + m = n → ∀ σ', (∀ c j, ¬ c = 19 → σ'.1 c j = σ.1 c j) → (∀ j, n - q ≤ j → j < n → σ'.1 19 j = nI (dig n N j)) → R_X6_planBy_52 σ' K x1 (nI n) x3 x4 (nI N) (nI (N / n ^ q)) (nI (umD (dig n N) n q)) (nI m - 1) := by
  intro m
  induction m with
  | zero =>
    intro q hq σ' hF hj
    have e : q = n := by omega
    subst e
    rw [umD_um]
    refine b_X6_planBy_52 ⟨fun _ => h σ' hF (fun j hj2 => hj j (by omega) hj2), fun c => absurd (by decide) c⟩
  | succ m ih =>
    intro q hq σ' hF hj
    have hle : N / n ^ q ≤ N := Nat.div_le_self _ _
    have ed : N / n ^ q % n = dig n N m := by
      unfold dig
      rw [if_pos (by omega), show n - 1 - m = q by omega]
    have e2 : nI (N / n ^ q) / nI n = nI (N / n ^ (q + 1)) := by
      rw [pk_div (by omega) (by omega) (by omega), Nat.div_div_eq_div_mul, Nat.pow_succ]
    have hm1 : nI (m + 1) - 1 = nI m := nI_pred m
    rw [hm1]
    refine b_X6_planBy_52 ⟨fun c => absurd c (nI_pos (by omega)), fun _ => ⟨nI_ne0 (by omega) (by omega), m, rfl, by omega, nI_ne0 (by omega) (by omega), m, rfl, by omega, ?_⟩⟩
    have hd6 : dig n N m < n := dig_lt (by omega)
    rw [wI_same, rm_nI (by omega) (by omega) (by omega), ed, e2, sl_1 (by omega), n_or]
    have eu : umD (dig n N) n q ||| 2 ^ dig n N m = umD (dig n N) n (q + 1) := by
      show _ = umD (dig n N) n q ||| 2 ^ dig n N (n - 1 - q)
      rw [show n - 1 - q = m by omega]
    rw [eu, show nI m + -1 = nI m - 1 from by rw [Int32.sub_eq_add_neg]]
    refine ih (q + 1) (by omega) _ (fun c j g => by rw [wI_cell _ _ _ g]; exact hF c j g) (fun j h1 h2 => ?_)
    rcases (show j = m ∨ n - q ≤ j by omega) with g | g
    · subst g; rw [wI_same]
    · rw [wI_place _ _ _ (by omega)]; exact hj j g h2
theorem l6_rows {K : Int32 → r_St → Prop} {d : Nat} {σ : r_St} (hI : Inv1 a σ) (hL : Laid1 a (-1) σ) (hd : d ≤ 40) (hn1 : 1 ≤ a.1 7) (hp : a.1 7 ^ a.1 7 < 2147483648) (h : ∀ σ', FrP σ σ' → ∀ x, BR (a.1 7) (bst a d) x σ' → K x σ') :
    ∀ m N, N + m = a.1 7 ^ a.1 7 → ∀ σ' x, FrP σ σ' → BR (a.1 7) (fo2 (fun N s => stp a d s (dig (a.1 7) N)) 0 N none) x σ' → R_X6_planBy_34 σ' K (nI d) (nI (a.1 7)) (nI (a.1 7 ^ a.1 7)) x (nI N) := by
  have hw := hI.1.2.2.2.2.2.2.2.2.1
  intro m
  induction m with
  | zero =>
    intro N hN σ' x hF hB
    have e : N = a.1 7 ^ a.1 7 := by omega
    subst e
    rw [bst_rows] at hB
    exact b_X6_planBy_34 ⟨fun _ => h σ' hF x hB, fun c => absurd (Int32.le_refl _) c⟩
  | succ m ih =>
    intro N hN σ' x hF hB
    generalize hS : fo2 (fun N s => stp a d s (dig (a.1 7) N)) 0 N none = S at hB
    have eS : fo2 (fun N s => stp a d s (dig (a.1 7) N)) 0 (N + 1) none = stp a d S (dig (a.1 7) N) := by
      show stp a d (fo2 (fun N s => stp a d s (dig (a.1 7) N)) 0 N none) (dig (a.1 7) (0 + N)) = _
      rw [hS, Nat.zero_add]
    have IH := ih (N + 1) (by omega)
    rw [eS] at IH
    have hdl : ∀ j, dig (a.1 7) N j < a.1 7 := fun j => dig_lt (by omega)
    have same : ∀ s2 : r_St, FrP σ s2 → (∀ j, s2.1 20 j = σ'.1 20 j) → stp a d S (dig (a.1 7) N) = S → R_X6_planBy_34 s2 K (nI d) (nI (a.1 7)) (nI (a.1 7 ^ a.1 7)) x (nI N + 1) := by
      intro s2 f2 g2 es
      rw [nI_1]
      rw [es] at IH
      refine IH s2 x f2 ?_
      cases hSS : S with
      | none => rw [hSS] at hB; exact hB
      | some p =>
        rw [hSS] at hB
        obtain ⟨b1, b2, b3, b4⟩ := hB
        exact ⟨b1, b2, b3, fun j hj => by rw [g2 j]; exact b4 j hj⟩
    refine b_X6_planBy_34 ⟨fun c => ?_, fun _ => ?_⟩
    · have := le_of_nI (by omega) (by omega) c
      omega
    · suffices D : R_X6_planBy_52 σ' K (nI d) (nI (a.1 7)) (nI (a.1 7 ^ a.1 7)) x (nI N) (nI (N / a.1 7 ^ 0)) (nI (umD (dig (a.1 7) N) (a.1 7) 0)) (nI (a.1 7) - 1) by
        rw [Nat.pow_zero, Nat.div_one] at D
        exact D
      refine l6_decode (σ := σ') hn1 hw.1 (by omega) (fun s1 f1 o1 => ?_) (a.1 7) 0 (by omega) σ' (fun _ _ _ => rfl) (fun j h1 h2 => by omega)
      · have F1 : FrP σ s1 := fun c j q1 q2 q3 => by rw [f1 c j q2]; exact hF c j q1 q2 q3
        have I1 : Inv1 a s1 := hI.mv (fun c j q1 q2 => F1 c j (by omega) (by omega) (by omega))
        have L1 := F1.L hL
        rw [all_nI (by omega)]
        have h6 : 2 ^ a.1 7 ≤ 64 := by
          have := Nat.pow_le_pow_right (n := 2) (by decide) hw.1
          omega
        have hul : um (dig (a.1 7) N) (a.1 7) < 2 ^ a.1 7 := um_lt _ (fun j _ => hdl j)
        refine ⟨fun c => ?_, fun c => ?_⟩
        · have hno : ontoB (dig (a.1 7) N) (a.1 7) = false := by
            cases hq : ontoB (dig (a.1 7) N) (a.1 7) with
            | false => rfl
            | true => exact absurd (by rw [(um_all (fun j _ => hdl j)).mpr hq]) c
          refine b_X6_planBy_113 ⟨fun _ => same s1 F1 (fun j => f1 20 j (by omega)) (stp_none ?_), fun c => absurd rfl c⟩
          unfold vlR
          rw [hno]; rfl
        · have c := nI_inj (by omega) (by omega) c
          have hon := (um_all (fun j _ => hdl j)).mp c
          have ev : vlR a d (dig (a.1 7) N) = atR a (dig (a.1 7) N) d (a.1 7) := by unfold vlR; rw [hon]; rfl
          refine k6_finishBy (o := dig (a.1 7) N) I1 L1 hd (fun j hj => ⟨o1 j hj, hdl j⟩) (fun s2 f2 hs => ?_)
          have F2 : FrP σ s2 := fun c j q1 q2 q3 => by rw [f2 c j q1]; exact F1 c j q1 q2 q3
          have g20 : ∀ j, s2.1 20 j = σ'.1 20 j := fun j => by rw [f2 20 j (by omega), f1 20 j (by omega)]
          have o2 : ∀ j, j < a.1 7 → s2.1 19 j = nI (dig (a.1 7) N j) := fun j hj => by rw [f2 19 j (by omega)]; exact o1 j hj
          unfold endI
          rw [if_neg (by omega)]
          cases hv : atR a (dig (a.1 7) N) d (a.1 7) with
          | none =>
            exact b_X6_planBy_113 ⟨fun _ => same s2 F2 g20 (stp_none (by rw [ev, hv])), fun c => absurd rfl c⟩
          | some t =>
            have hl : ∀ j, j < a.1 7 → 1 ≤ a.2.1 10 (dig (a.1 7) N j) := fun j hj => (hw.2 _ (hdl j)).2.1
            have t40 := atR_le (a := a) (o := dig (a.1 7) N) hd hl _ (Nat.le_refl _) t hv
            have t1 : 1 ≤ t := by
              obtain ⟨q, hq⟩ : ∃ q, a.1 7 = q + 1 := ⟨a.1 7 - 1, by omega⟩
              have hv2 : atR a (dig (a.1 7) N) d (q + 1) = some t := by rw [← hq]; exact hv
              unfold atR at hv2
              split at hv2
              · cases hv2
              · split at hv2
                · cases hv2
                · cases hv2
                  have := hl q (by omega)
                  omega
            have take : stp a d S (dig (a.1 7) N) = some (t, dig (a.1 7) N) → R_X6_planBy_141 s2 K (nI d) (nI (a.1 7)) (nI (a.1 7 ^ a.1 7)) (nI (t - 1)) (nI N) 0 := by
              intro es
              refine l6_copyRow (r := dig (a.1 7) N) hw.1 o2 (fun s3 f3 g3 => ?_) (a.1 7) 0 (by omega) s2 (fun _ _ _ => rfl) (fun j hj => by omega)
              rw [nI_1]
              rw [es] at IH
              exact IH s3 _ (fun c j q1 q2 q3 => by rw [f3 c j q3]; exact F2 c j q1 q2 q3) ⟨rfl, t1, t40, g3⟩
            refine b_X6_planBy_113 ⟨fun c => absurd c (nI_m1 (by omega)), fun _ => ⟨fun c => take ?_, fun c => ⟨fun c2 => same s2 F2 g20 ?_, fun c2 => take ?_⟩⟩⟩
            · cases hSS : S with
              | none => unfold stp; rw [ev, hv]
              | some p =>
                rw [hSS] at hB
                rw [hB.1] at c
                exact absurd c (nI_m1 (by have := hB.2.2.1; omega))
            · cases hSS : S with
              | none => rw [hSS] at hB; exact absurd hB c
              | some p =>
                rw [hSS] at hB
                obtain ⟨b1, b2, b3, b4⟩ := hB
                rw [b1] at c2
                have := le_of_nI (by omega) (by omega) c2
                unfold stp
                rw [ev, hv]
                show (if t < p.1 then some (t, dig (a.1 7) N) else some p) = some p
                rw [if_neg (by omega)]
            · cases hSS : S with
              | none => rw [hSS] at hB; exact absurd hB c
              | some p =>
                rw [hSS] at hB
                obtain ⟨b1, b2, b3, b4⟩ := hB
                rw [b1] at c2
                have := nle_of_nI (by omega) (by omega) c2
                unfold stp
                rw [ev, hv]
                show (if t < p.1 then some (t, dig (a.1 7) N) else some p) = _
                rw [if_pos (by omega)]
theorem l6_pow {K : Int32 → r_St → Prop} {n : Nat} {x1 : Int32} {σ : r_St} (hn : n ≤ 6) (h : R_X6_planBy_34 σ K x1 (nI n) (nI (n ^ n)) (-1) 0) : ∀ m k, k + m = n → R_X6_planBy_12 σ K x1 (nI n) (nI (n ^ k)) (nI k) := by
  intro m
  induction m with
  | zero =>
    intro k hk
    have e : k = n := by omega
    subst e
    exact b_X6_planBy_12 ⟨fun _ => h, fun c => absurd (Int32.le_refl _) c⟩
  | succ m ih =>
    intro k hk
    refine b_X6_planBy_12 ⟨fun c => ?_, fun _ => ?_⟩
    · have := le_of_nI (by omega) (by omega) c
      omega
    · rw [pk_mul, nI_1, ← Nat.pow_succ]
      exact ih (k + 1) (by omega)
theorem k6_planBy {K : Int32 → r_St → Prop} {d : Nat} {σ : r_St} (hI : Inv1 a σ) (hL : Laid1 a (-1) σ) (hd : d ≤ 40) (h : ∀ σ', FrP σ σ' → ∀ x, BR (a.1 7) (bst' a d) x σ' → K x σ') : M_X6_planBy σ K (nI d) := by
  have hw := hI.1.2.2.2.2.2.2.2.2.1
  have r1 := hI.2.2.2.2.2.2.2.1.1
  refine b_X6_planBy ?_
  rw [r1]
  rcases Nat.eq_zero_or_pos (a.1 7) with q | q
  · have B0 : BR (a.1 7) (bst' a d) (-1) σ := by unfold bst'; rw [if_pos q]; exact rfl
    have none_ : ∀ s1, FrP σ s1 → K (-1) s1 := fun s1 f => h s1 f (-1) (by unfold bst'; rw [if_pos q]; exact rfl)
    rw [q]
    refine b_X6_planBy_12 ⟨fun _ => b_X6_planBy_34 ⟨fun c => absurd c (by decide), fun _ => b_X6_planBy_52 ⟨fun _ => ⟨fun c => absurd (by decide) c, fun _ => ?_⟩, fun c => absurd (by decide) c⟩⟩, fun c => absurd (Int32.le_refl _) c⟩
    refine k6_finishBy (o := fun j => j) hI hL hd (fun j hj => by omega) (fun s1 f1 _ => ?_)
    unfold endI
    rw [if_pos q]
    refine b_X6_planBy_113 ⟨fun _ => b_X6_planBy_34 ⟨fun _ => none_ s1 (fun c j q1 _ _ => f1 c j q1), fun c => absurd (by decide) c⟩, fun c => absurd rfl c⟩
  · have hp : a.1 7 ^ a.1 7 < 2147483648 := by
      have h1 : a.1 7 ^ a.1 7 ≤ 6 ^ a.1 7 := Nat.pow_le_pow_left hw.1 _
      have h2 : 6 ^ a.1 7 ≤ 6 ^ 6 := Nat.pow_le_pow_right (by decide) hw.1
      have h3 : (6 : Nat) ^ 6 = 46656 := by decide
      omega
    refine l6_pow hw.1 (l6_rows hI hL hd (by omega) hp (fun s1 f1 x B => h s1 f1 x ?_) (a.1 7 ^ a.1 7) 0 (by omega) σ (-1) (fun _ _ _ _ _ => rfl) rfl) (a.1 7) 0 (by omega)
    unfold bst'
    rw [if_neg (by omega)]
    exact B
theorem c6_plan {K : Int32 → r_St → Prop} {σ : r_St} {d : Nat} {x : Int32} (hI : Inv1 a σ) (hd : d < 40) (hx : x = -1 ∨ ∃ i : Nat, i ≤ 5 ∧ x = nI i) (h : ∀ σ', Inv1 a σ' → Read1 a σ' → K (plaV a d x) σ') : M_X6_planOf σ K (nI d) x := by
  have hw := hI.1.2.2.2.2.2.2.2.2.1
  refine b_X6_planOf (k6_laysTold hI (fun s1 I1 L1 => k6_planBy I1 L1 (by omega) (fun s2 f2 y B => ?_)))
  have I2 : Inv1 a s2 := I1.mv (fun c j q1 q2 => f2 c j (by omega) (by omega) (by omega))
  have h := h s2 I2 (f2.L L1).1
  unfold plaV at h
  cases hS : bst' a d with
  | none =>
    rw [hS] at B h
    have B : y = -1 := B
    rw [if_pos (Or.inr rfl)] at h
    subst B
    exact ⟨fun _ => h, fun _ => ⟨fun c => absurd rfl c, fun _ => h⟩⟩
  | some p =>
    rw [hS] at B h
    obtain ⟨b1, b2, b3, b4⟩ := B
    subst b1
    refine ⟨fun c => ?_, fun c => ⟨fun _ => ?_, fun c2 => absurd c2 (nI_m1 (by omega))⟩⟩
    · rw [if_pos (Or.inl c)] at h
      exact h
    · rw [if_neg (fun q => by rcases q with q | q; exact c q; cases q)] at h
      rcases hx with rfl | ⟨i, hi, rfl⟩
      · exact absurd rfl c
      · rw [nI_clamp (by omega)] at h
        rw [I2.2.2.2.2.2.2.2.1.1]
        refine ⟨fun g => ?_, fun g => ⟨i, rfl, by omega, ?_⟩⟩
        · have := le_of_nI (by omega) (by omega) g
          rw [if_neg (by omega)] at h
          exact h
        · have g := nle_of_nI (by omega) (by omega) g
          rw [if_pos g] at h
          rw [b4 i g]
          exact h
theorem p_plan (a : ab) (hW : WF a) (x1 x2 : Int32) : PI a (fun σ K => M_X5_plan σ K x1 x2) (fun σ K => M_X6_plan σ K x1 x2) := by
  by_cases c0 : ¬ IN x1 0 39
  · exact ⟨-2, a, fun σ K hI h => b_X5_plan ⟨fun c => absurd c c0, fun _ => h σ hI⟩, fun σ K hI h => b_X6_plan ⟨fun c => absurd c c0, fun _ => h σ hI⟩⟩
  have c0 := Classical.not_not.mp c0
  by_cases c1 : ¬ IN x2 (-1) 5
  · exact ⟨-2, a, fun σ K hI h => b_X5_plan ⟨fun _ => ⟨fun c => absurd c c1, fun _ => h σ hI⟩, fun c => absurd c0 c⟩, fun σ K hI h => b_X6_plan ⟨fun _ => ⟨fun c => absurd c c1, fun _ => h σ hI⟩, fun c => absurd c0 c⟩⟩
  have c1 := Classical.not_not.mp c1
  obtain ⟨d, l, r, rfl⟩ := (IN_iff (lo := 0) (hi := 39) (by decide) (by decide)).mp c0
  have hx := IN_m1 (n := 5) (by decide) c1
  exact ⟨plaV a d x2, a, fun σ K hI h => c5_plan hI (by omega) hx h, fun σ K hI h => b_X6_plan ⟨fun _ => ⟨fun _ => c6_plan hI (by omega) hx (fun s I _ => h s I), fun c => absurd c1 c⟩, fun c => absurd c0 c⟩⟩
end PLN
