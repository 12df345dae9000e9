/-! ===== forged ===== -/
def agP (a : ab) (e k : Nat) : Bool := soB a (nI e) (a.2.1 13 k) (a.2.1 14 k) (a.2.1 15 k)
def agB (a : ab) (e : Nat) : Bool := alB (agP a e) (a.1 9)
def fgV (a : ab) : Nat := mkb (agB a) (a.1 5)
section FRG
variable {σ : r_St} {K : Int32 → r_St → Prop} {a : ab}
theorem l5_agrees {e : Nat} (hI : Inv0 a σ) (hT : Told a (nI e) 38 σ) (h1 : agB a e = true → K 1 σ) (h0 : agB a e = false → K 0 σ) : ∀ m k, k + m = a.1 9 → alB (agP a e) k = true → R_X5_agreesWithBook_2 σ K (nI k) := by
  obtain ⟨hW, hB, -⟩ := id hI
  have h8 := dd_le hW.1
  have hs := hW.2.2.2.2.2.2.2.2.2.2.1
  obtain ⟨r1, r2, r3⟩ := hB.2.2.2.2.2.2.2.2.1
  have no : ∀ k, k < a.1 9 → agP a e k = false → K 0 σ := by
    intro k hk hf
    refine h0 ?_
    cases hq : agB a e with
    | false => rfl
    | true =>
      have := (alB_iff _ _).mp hq k hk
      rw [hf] at this
      cases this
  intro m
  induction m with
  | zero =>
    intro k hk hal
    have e : k = a.1 9 := by omega
    subst e
    refine b_X5_agreesWithBook_2 ⟨fun _ => h1 hal, fun c => ?_⟩
    rw [r2] at c
    exact absurd (Int32.le_refl _) c
  | succ m ih =>
    intro k hk hal
    have hk' : k < a.1 9 := by omega
    obtain ⟨q1, q2, q3⟩ := hs.2 k hk'
    have v1 : σ.1 29 k = nI (a.2.1 13 k) := (r3 k hk').1
    have v2 : σ.1 30 k = nI (a.2.1 14 k) := (r3 k hk').2.1
    have v3 : σ.1 31 k = nI (a.2.1 15 k) := (r3 k hk').2.2
    refine b_X5_agreesWithBook_2 ⟨fun c => ?_, fun _ => k3_second isRows_28 r2 hs.1 hk' ?_⟩
    · rw [r2] at c
      have := le_of_nI (by omega) (by omega) c
      omega
    · show (IN (σ.1 30 k) 0 (σ.1 1 4 - 1) → M_X3_first 28 8 σ (fun v4 s3 => M_X1_openOn 38 s3 (fun v6 s5 => M_X3_third 28 8 s5 (fun v8 s7 => ((iu v6 (σ.1 30 k)) &&& 1 = v8 → R_X5_agreesWithBook_2 s7 K (nI k + 1)) ∧ (¬ ((iu v6 (σ.1 30 k)) &&& 1 = v8) → K 0 s7)) (nI k)) v4) (nI k)) ∧ (¬ IN (σ.1 30 k) 0 (σ.1 1 4 - 1) → K 0 σ)
      rw [v2, hB.1.2.2.1]
      refine ⟨fun c => k3_first isRows_28 r2 hs.1 hk' ?_, fun c => no k hk' ?_⟩
      · obtain ⟨j, j1, j2⟩ := (IN_lt_iff (by omega)).mp c
        have j2 := nI_inj (by omega) (by omega) j2
        have hd : a.2.1 14 k < dd a := by omega
        show M_X1_openOn 38 σ _ (σ.1 29 k)
        rw [v1]
        refine k1_openOn isLaws_38 hT q1 (k3_third isRows_28 r2 hs.1 hk' ?_)
        show (iu (nI (op a (nI e) (a.2.1 13 k))) (nI (a.2.1 14 k)) &&& 1 = σ.1 31 k → _) ∧ (¬ iu (nI (op a (nI e) (a.2.1 13 k))) (nI (a.2.1 14 k)) &&& 1 = σ.1 31 k → _)
        rw [iu_bit (by omega) (by have := op_small hW (nI e) (a.2.1 13 k); omega), v3]
        refine ⟨fun c2 => ?_, fun c2 => no k hk' ?_⟩
        · rw [nI_1]
          refine ih (k + 1) (by omega) ?_
          show (alB (agP a e) k && agP a e k) = true
          rw [hal]
          have c2 := nI_inj (by have := b2n_lt ((op a (nI e) (a.2.1 13 k)).testBit (a.2.1 14 k)); omega) (by omega) c2
          show agP a e k = true
          unfold agP soB
          rw [decide_eq_true hd, decide_eq_true c2]; rfl
        · unfold agP soB
          rw [decide_eq_true hd, decide_eq_false (fun g => c2 (by rw [g]))]; rfl
      · have hn : ¬ a.2.1 14 k < dd a := fun g => c ((IN_lt_iff (by omega)).mpr ⟨_, g, rfl⟩)
        unfold agP soB
        rw [decide_eq_false hn]; rfl
theorem k5_agrees {e : Nat} (hI : Inv0 a σ) (hT : Told a (nI e) 38 σ) (h1 : agB a e = true → K 1 σ) (h0 : agB a e = false → K 0 σ) : M_X5_agreesWithBook σ K :=
  b_X5_agreesWithBook (l5_agrees hI hT h1 h0 (a.1 9) 0 (by omega) rfl)
/-- a store that differs in the second Laws alone -/
theorem Inv0.sup {σ σ' : r_St} (hI : Inv0 a σ) (e : ∀ c j, c < 38 ∨ 43 < c → σ'.1 c j = σ.1 c j) : Inv0 a σ' := by
  refine ⟨hI.1, hI.2.1.mv (fun c j _ q => e c j (by omega)), fun hz => (hI.2.2 ?_).mv sameL.rf (fun c j _ _ => e c j (by omega))⟩
  rw [← e 0 15 (by omega)]; exact hz
theorem l5_forged (h : ∀ σ', Inv0 a σ' → K (nI (fgV a)) σ') : ∀ m i, i + m = a.1 5 → ∀ σ, Inv0 a σ → Seat a 38 σ → R_X5_forged_19 σ K (nI (mkb (agB a) i)) (nI i) := by
  intro m
  induction m with
  | zero =>
    intro i hi σ hI hS
    have e : i = a.1 5 := by omega
    subst e
    refine b_X5_forged_19 ⟨fun _ => h σ hI, fun c => ?_⟩
    rw [hI.2.1.2.2.2.2.1.2.1] at c
    exact absurd (Int32.le_refl _) c
  | succ m ih =>
    intro i hi σ hI hS
    have hE := hI.1.2.2.2.2.2.2.1
    refine b_X5_forged_19 ⟨fun c => ?_, fun _ => ?_⟩
    · rw [hI.2.1.2.2.2.2.1.2.1] at c
      have := le_of_nI (by omega) (by omega) c
      omega
    · rw [hI.2.1.2.1.1]
      refine k1_speak (a := a) isLaws_38 (by omega) hI.1 hI.2.1.1 hI.2.1.2.2.2.2.1 hS (fun s hF hT => ?_)
      have I' : Inv0 a s := hI.sup (fun c j q => hF c j (by omega) (by omega))
      have S' : Seat a 38 s := hT.2.1
      refine k5_agrees I' hT (fun hb => ⟨fun c => absurd c (by decide), fun _ => ?_⟩) (fun hb => ⟨fun _ => ?_, fun c => absurd rfl c⟩)
      · rw [sl_1 (by omega), n_or, mkb_or, nI_1]
        have e : mkb (agB a) i + 2 ^ i = mkb (agB a) (i + 1) := by simp [mkb, hb]
        rw [e]
        exact ih (i + 1) (by omega) s I' S'
      · rw [nI_1]
        have e : mkb (agB a) (i + 1) = mkb (agB a) i := by simp [mkb, hb]
        have := ih (i + 1) (by omega) s I' S'
        rw [e] at this
        exact this
theorem c5_forged (hI : Inv0 a σ) (h : ∀ σ', Inv0 a σ' → K (nI (fgV a)) σ') : M_X5_forged σ K := by
  refine b_X5_forged (k1_seat (a := a) isLaws_38 (by omega) hI.1 ⟨hI.2.1.2.2.1, hI.2.1.2.2.2.1⟩ (fun s hF hS => ?_))
  exact l5_forged h (a.1 5) 0 (by omega) s (hI.sup (fun c j q => hF c j (by omega))) hS
theorem l6_forged2 {e x1 : Nat} (hI : Inv1 a σ) (hL : Laid1 a (nI e) σ) (h : ∀ v : Int32, v = nI (b2n (agB a e)) → (v = 0 → R_X6_forgedNow_12 σ K (nI x1 ||| 0) (nI e + 1)) ∧ (¬ v = 0 → R_X6_forgedNow_12 σ K (nI x1 ||| sl 1 (nI e)) (nI e + 1))) : ∀ m k, k + m = a.1 9 → R_X6_forgedNow_36 σ K (nI x1) (nI e) (nI (b2n (alB (agP a e) k))) (nI k) := by
  obtain ⟨hW, hB⟩ := id hI
  have hs := hW.2.2.2.2.2.2.2.2.2.2.1
  obtain ⟨r1, r2, r3, r4⟩ := hB.2.2.2.2.2.2.2.2.1
  intro m
  induction m with
  | zero =>
    intro k hk
    have e : k = a.1 9 := by omega
    subst e
    refine b_X6_forgedNow_36 ⟨fun _ => h _ rfl, fun c => ?_⟩
    rw [r1] at c
    exact absurd (Int32.le_refl _) c
  | succ m ih =>
    intro k hk
    have hk' : k < a.1 9 := by omega
    obtain ⟨q1, q2, q3⟩ := hs.2 k hk'
    have step : ∀ (b2 : Bool) (v : Int32), v = nI (b2n b2) → alB (agP a e) (k + 1) = b2 → R_X6_forgedNow_36 σ K (nI x1) (nI e) v (nI k + 1) := by
      intro b2 v hv he
      rw [hv, ← he, nI_1]
      exact ih (k + 1) (by omega)
    have e1 : alB (agP a e) (k + 1) = (alB (agP a e) k && agP a e k) := rfl
    refine b_X6_forgedNow_36 ⟨fun c => ?_, fun _ => ⟨fun c => step false 0 rfl ?_, fun c => ⟨k, rfl, by omega, k, rfl, by omega, k, rfl, by omega, ?_⟩⟩⟩
    · rw [r1] at c
      have := le_of_nI (by omega) (by omega) c
      omega
    · rw [e1, b2n_0.mp c]; rfl
    · have hb : alB (agP a e) k = true := by
        cases hq : alB (agP a e) k with
        | true => rfl
        | false => rw [hq] at c; exact absurd rfl c
      rw [r2 k hk', r3 k hk', r4 k hk']
      refine k6_isSo hI hL q1 q2 q3 ⟨fun c2 => step false 0 rfl ?_, fun c2 => step true 1 rfl ?_⟩
      · rw [e1, hb]
        exact b2n_0.mp c2
      · rw [e1, hb]
        show agP a e k = true
        cases hq : agP a e k with
        | true => rfl
        | false =>
          have : soB a (nI e) (a.2.1 13 k) (a.2.1 14 k) (a.2.1 15 k) = false := hq
          rw [this] at c2; exact absurd rfl c2
theorem l6_forged (h : ∀ σ', Inv1 a σ' → Read1 a σ' → K (nI (fgV a)) σ') : ∀ m i, i + m = a.1 5 → ∀ σ, Inv1 a σ → Read1 a σ → σ.1 0 23 = 0 → R_X6_forgedNow_12 σ K (nI (mkb (agB a) i)) (nI i) := by
  intro m
  induction m with
  | zero =>
    intro i hi σ hI hR h23
    have e : i = a.1 5 := by omega
    subst e
    refine b_X6_forgedNow_12 ⟨fun _ => h σ hI hR, fun c => ?_⟩
    rw [hI.2.2.2.2.2.1.1] at c
    exact absurd (Int32.le_refl _) c
  | succ m ih =>
    intro i hi σ hI hR h23
    have hE := hI.1.2.2.2.2.2.2.1
    refine b_X6_forgedNow_12 ⟨fun c => ?_, fun _ => ?_⟩
    · rw [hI.2.2.2.2.2.1.1] at c
      have := le_of_nI (by omega) (by omega) c
      omega
    · have z : ∀ c j, ¬ (c = 0 ∧ j = 21) → (wI σ 0 21 (nI i)).1 c j = σ.1 c j := by
        intro c j q
        rcases Nat.decEq c 0 with q3 | q3
        · rw [wI_cell _ _ _ q3]
        · subst q3; rw [wI_place _ _ _ (by omega)]
      refine k6_laysW (a := a) (w := nI i) (hI.mv (fun c j q1 q2 => z c j (by omega))) (hR.mv (fun c j q => z c j (by omega))) (wI_same _ _ _ _) (by rw [z 0 23 (by omega)]; exact h23) (fun s f I L => ?_)
      have h23' : s.1 0 23 = 0 := by rw [f 0 23 (by omega) (by omega) (by omega), z 0 23 (by omega)]; exact h23
      refine l6_forged2 I L (fun v hv => ?_) (a.1 9) 0 (by omega)
      have N := ih (i + 1) (by omega) s I L.1 h23'
      rw [hv]
      refine ⟨fun c => ?_, fun c => ?_⟩
      · have hb := b2n_0.mp c
        rw [show (0 : Int32) = nI 0 from rfl, n_or, nI_1]
        have e : mkb (agB a) (i + 1) = mkb (agB a) i ||| 0 := by simp [mkb, hb]
        rw [e] at N
        exact N
      · have hb : agB a i = true := by
          cases hq : agB a i with
          | true => rfl
          | false => rw [hq] at c; exact absurd rfl c
        rw [sl_1 (by omega), n_or, mkb_or, nI_1]
        have e : mkb (agB a) (i + 1) = mkb (agB a) i + 2 ^ i := by simp [mkb, hb]
        rw [e] at N
        exact N
theorem c6_forged (hI : Inv1 a σ) (h : ∀ σ', Inv1 a σ' → Read1 a σ' → K (nI (fgV a)) σ') : M_X6_forgedNow σ K := by
  refine b_X6_forgedNow (k6_read hI (fun s1 I1 f1 R1 => ?_))
  have m2 : sm1 s1 (wI (wI s1 0 21 (-1)) 0 23 0) := by
    intro c j q1 q2
    rcases Nat.decEq c 0 with q3 | q3
    · rw [wI_cell _ _ _ q3, wI_cell _ _ _ q3]
    · subst q3
      rw [wI_place _ _ _ (by omega), wI_place _ _ _ (by omega)]
  refine l6_forged h (a.1 5) 0 (by omega) _ (I1.mv m2) (R1.mv (fun c j q => ?_)) (wI_same _ _ _ _)
  rcases q with ⟨q1, q2⟩ | q
  · subst q1
    rw [wI_place _ _ _ (by omega), wI_place _ _ _ (by omega)]
  · subst q
    rw [wI_cell _ _ _ (by omega), wI_cell _ _ _ (by omega)]
theorem p_forged (a : ab) (hW : WF a) : PI a (fun σ K => M_X5_forged σ K) (fun σ K => M_X6_forged σ K) :=
  ⟨nI (fgV a), a, fun σ K hI h => c5_forged hI h, fun σ K hI h => b_X6_forged (c6_forged hI (fun s I _ => h s I))⟩
end FRG
