/-! ===== the reference: the laws laid ===== -/
/-- what words turn, day by day -/
def Wd (a : ab) (X : Nat → Nat) (σ : r_St) : Prop := (σ.1 0 23 = 0 ∧ ∀ d, X d = 0) ∨ ∃ (f m : Nat) (wd : Nat → Nat), σ.1 0 22 = nI f ∧ f < 40 ∧ σ.1 0 23 = nI m ∧ m ≤ 3 ∧ (∀ j, j < m → σ.1 17 j = nI (wd j) ∧ wd j ≤ 8) ∧ ∀ d, d < 40 → X d = if f ≤ d ∧ d - f < m ∧ ru a d ≤ 1 ∧ wd (d - f) < 8 then 2 ^ wd (d - f) else 0
def LaidT (a : ab) (T : Nat → Nat) (σ : r_St) : Prop := Read1 a σ ∧ ∀ j, j < 40 → σ.1 14 j = ruI (ru a j) ∧ σ.1 15 j = nI (syp (ru a) T (el a) (yo a) j).1 ∧ σ.1 15 (40 + j) = nI (syp (ru a) T (el a) (yo a) j).2 ∧ σ.1 16 j = nI (opn (dd a) (ru a j) (syp (ru a) T (el a) (yo a) j).1 (syp (ru a) T (el a) (yo a) j).2)
def FrL (σ σ' : r_St) : Prop := ∀ c j, ¬ c = 14 → ¬ c = 15 → ¬ c = 16 → σ'.1 c j = σ.1 c j
theorem FrL.sm {σ σ' : r_St} (h : FrL σ σ') : sm1 σ σ' := fun c j q1 q2 => h c j (by omega) (by omega) (by omega)
theorem all_and {n e : Nat} (h : e < 2 ^ n) : (2 ^ n - 1) &&& e = e := by
  rw [Nat.and_comm, Nat.and_two_pow_sub_one_eq_mod, Nat.mod_eq_of_lt h]
section RL2
variable {K : r_St → Prop}
theorem l6_ed {a : ab} {w : Int32} {X : Nat → Nat} {d : Nat} {σ : r_St} {x1 x2 : Int32} (hI : Inv1 a σ) (hR : Read1 a σ) (hw : σ.1 0 21 = w) (hX : Wd a X σ) (hd : d < 40)
    (h : R_X6_lays_242 σ K x1 x2 (nI d) (ruI (ru a d)) (nI (tn a w d ^^^ X d))) : ∀ m i, i + m = a.1 5 → R_X6_lays_115 σ K x1 x2 (nI d) (ruI (ru a d)) (nI (xr (tnF a w d) i)) (nI i) := by
  obtain ⟨hW, hB⟩ := id hI
  obtain ⟨g0, g1, g2⟩ := hB.2.2.2.2.1
  have hE := hW.2.2.2.2.2.2.1
  have h8 : dd a ≤ 8 := dd_le hW.1
  have hr := ru_le a d
  intro m
  induction m with
  | zero =>
    intro i hi
    have e : i = a.1 5 := by omega
    subst e
    have et : xr (tnF a w d) (a.1 5) = tn a w d := rfl
    rw [et]
    refine b_X6_lays_115 ⟨fun _ => ?_, fun c => ?_⟩
    · rcases hX with ⟨q1, q2⟩ | ⟨f, mm, wd, q1, q2, q3, q4, q5, q6⟩
      · rw [q2, Nat.xor_zero] at h
        refine ⟨fun _ => h, fun c => ⟨fun _ => h, fun c2 => ?_⟩⟩
        rw [q1] at c2
        exact absurd (Int32.not_lt.mp c) c2
      · rw [q6 d hd] at h
        rw [q1, q3]
        by_cases hf : f ≤ d
        · have es : nI d - nI f = nI (d - f) := pk_sub hf
          rw [es]
          refine ⟨fun c => absurd c (nI_pos (by omega)), fun _ => ⟨fun c => ?_, fun c => ⟨fun c2 => ?_, fun c2 => ?_⟩⟩⟩
          · have c := le_of_nI (by omega) (by omega) c
            rw [if_neg (by omega), Nat.xor_zero] at h
            exact h
          · have c := nle_of_nI (by omega) (by omega) c
            have c2 := (ruI_IN hr).mp c2
            obtain ⟨w1, w2⟩ := q5 (d - f) c
            refine ⟨d - f, rfl, by omega, ?_⟩
            rw [w1]
            refine ⟨fun c3 => ?_, fun c3 => ⟨d - f, rfl, by omega, ?_⟩⟩
            · have c3 := le_of_nI (x := 8) (by decide) (by omega) c3
              rw [if_neg (by omega), Nat.xor_zero] at h
              exact h
            · have c3 := nle_of_nI (x := 8) (by decide) (by omega) c3
              rw [if_pos ⟨hf, c, c2, c3⟩] at h
              rw [w1, sl_1 (by omega), n_xor]
              exact h
          · have c2 : ¬ ru a d ≤ 1 := fun q => c2 ((ruI_IN hr).mpr q)
            rw [if_neg (by omega), Nat.xor_zero] at h
            exact h
        · rw [if_neg (by omega), Nat.xor_zero] at h
          exact ⟨fun _ => h, fun c => absurd (pk_sneg (by omega) (by omega)) c⟩
    · rw [g0] at c
      exact absurd (Int32.le_refl _) c
  | succ m ih =>
    intro i hi
    have hlt : i < a.1 5 := by omega
    obtain ⟨hd40, hdd⟩ := hE.2 i hlt
    have N := ih (i + 1) (by omega)
    have N0 : tnF a w d i = 0 → R_X6_lays_115 σ K x1 x2 (nI d) (ruI (ru a d)) (nI (xr (tnF a w d) i) ^^^ 0) (nI i + 1) := by
      intro hz
      rw [nI_1, show (0 : Int32) = nI 0 from rfl, n_xor]
      have e : xr (tnF a w d) (i + 1) = xr (tnF a w d) i ^^^ 0 := by
        show xr (tnF a w d) i ^^^ tnF a w d i = _
        rw [hz]
      rw [← e]
      exact N
    refine b_X6_lays_115 ⟨fun c => ?_, fun _ => ⟨i, rfl, by omega, ?_⟩⟩
    · rw [g0] at c
      have := le_of_nI (by omega) (by omega) c
      omega
    · rw [g1 i hlt, hw, hR.1]
      refine ⟨fun c => N0 ?_, fun c => ⟨fun c2 => N0 ?_, fun c2 => ⟨i, rfl, by omega, ?_⟩⟩⟩
      · unfold tnF
        rw [if_neg (fun q => c (by rw [q.1]))]
      · unfold tnF
        rw [if_neg (fun q => q.2.1 c2)]
      · rw [g2 i hlt]
        refine ⟨fun c3 => N0 ?_, fun c3 => ⟨i, rfl, by omega, ?_⟩⟩
        · have c3 := le_of_nI (by omega) (by omega) c3
          unfold tnF
          rw [if_neg (by omega)]
        · have c3 := nle_of_nI (by omega) (by omega) c3
          have c := nI_inj (by omega) (by omega) c
          rw [g2 i hlt, sl_1 (by omega), n_xor, nI_1]
          have e : xr (tnF a w d) (i + 1) = xr (tnF a w d) i ^^^ 2 ^ a.2.1 5 i := by
            show xr (tnF a w d) i ^^^ tnF a w d i = _
            unfold tnF
            rw [if_pos ⟨c, c2, c3⟩]
          rw [← e]
          exact N
theorem Read1.mv {a : ab} {σ σ' : r_St} (h : Read1 a σ) (e : ∀ c j, c = 0 ∧ (j = 2 ∨ j = 4) ∨ c = 2 → σ'.1 c j = σ.1 c j) : Read1 a σ' := ⟨by rw [e 0 2 (by omega)]; exact h.1, by rw [e 0 4 (by omega)]; exact h.2.1, h.2.2.mv (fun j _ => e 2 j (by omega))⟩
theorem Wd.mv {a : ab} {X : Nat → Nat} {σ σ' : r_St} (h : Wd a X σ) (e : ∀ c j, c = 0 ∧ (j = 22 ∨ j = 23) ∨ c = 17 → σ'.1 c j = σ.1 c j) : Wd a X σ' := by
  rcases h with ⟨q1, q2⟩ | ⟨f, mm, wd, q1, q2, q3, q4, q5, q6⟩
  · exact Or.inl ⟨by rw [e 0 23 (by omega)]; exact q1, q2⟩
  · exact Or.inr ⟨f, mm, wd, by rw [e 0 22 (by omega)]; exact q1, q2, by rw [e 0 23 (by omega)]; exact q3, q4, fun j hj => by rw [e 17 j (by omega)]; exact q5 j hj, q6⟩
theorem l6_lays {a : ab} {w : Int32} {X T : Nat → Nat} {σ : r_St} (hI : Inv1 a σ) (hR : Read1 a σ) (hw : σ.1 0 21 = w) (hX : Wd a X σ) (hT : ∀ d, d < 40 → T d = tn a w d ^^^ X d) (hTl : ∀ d, T d < 2 ^ dd a)
    (h : ∀ σ', FrL σ σ' → LaidT a T σ' → K σ') : ∀ m i, i + m = 40 → ∀ σ', FrL σ σ' → (∀ j, j < i → σ'.1 14 j = ruI (ru a j) ∧ σ'.1 15 j = nI (syp (ru a) T (el a) (yo a) j).1 ∧ σ'.1 15 (40 + j) = nI (syp (ru a) T (el a) (yo a) j).2 ∧ σ'.1 16 j = nI (opn (dd a) (ru a j) (syp (ru a) T (el a) (yo a) j).1 (syp (ru a) T (el a) (yo a) j).2)) →
      R_X6_lays_12 σ' K (nI (syp (ru a) T (el a) (yo a) i).1) (nI (syp (ru a) T (el a) (yo a) i).2) (nI i) := by
  have hW := hI.1
  have h8 : dd a ≤ 8 := dd_le hW.1
  intro m
  induction m with
  | zero =>
    intro i hi σ' hF hj
    have e : i = 40 := by omega
    subst e
    exact b_X6_lays_12 ⟨fun _ => h σ' hF ⟨hR.mv (fun c j _ => hF c j (by omega) (by omega) (by omega)), hj⟩, fun c => absurd (Int32.le_refl _) c⟩
  | succ m ih =>
    intro i hi σ' hF hj
    have hr := ru_le a i
    have hs := syp_lt (r := ru a) (t := T) (el_lt a) (yo_lt a) hTl i
    have eE : (syp (ru a) T (el a) (yo a) (i + 1)).1 = if ru a i = 0 ∨ ru a i = 2 then (syp (ru a) T (el a) (yo a) i).1 ^^^ T i else (syp (ru a) T (el a) (yo a) i).1 := rfl
    have eY : (syp (ru a) T (el a) (yo a) (i + 1)).2 = if ru a i = 1 ∨ ru a i = 2 then (syp (ru a) T (el a) (yo a) i).2 ^^^ T i else (syp (ru a) T (el a) (yo a) i).2 := rfl
    have IH := ih (i + 1) (by omega)
    rw [eE, eY] at IH
    generalize hex : (syp (ru a) T (el a) (yo a) i).1 = ex at hs IH ⊢
    generalize hey : (syp (ru a) T (el a) (yo a) i).2 = ey at hs IH ⊢
    have I' : Inv1 a σ' := hI.mv hF.sm
    refine b_X6_lays_12 ⟨fun c => ?_, fun c => ?_⟩
    · have := le_of_nI (x := 40) (by decide) (by omega) c
      omega
    · refine k6_rulesOf I' (by omega) ?_
      refine ⟨i, rfl, by omega, i, rfl, by omega, 40 + i, nI_add 40 i, by omega, ?_⟩
      have all : sl 1 (σ'.1 0 2) - 1 = nI (2 ^ dd a - 1) := by
        rw [hF 0 2 (by omega) (by omega) (by omega), hR.1]
        exact all_nI h8
      rw [all]
      generalize e3 : wI (wI (wI σ' 14 i (ruI (ru a i))) 15 i (nI ex)) 15 (40 + i) (nI ey) = σ3
      have at98 : R_X6_lays_115 (wI σ3 16 i (nI (opn (dd a) (ru a i) ex ey))) K (nI ex) (nI ey) (nI i) (ruI (ru a i)) 0 0 := by
        generalize e4 : wI σ3 16 i (nI (opn (dd a) (ru a i) ex ey)) = σ4
        have F4 : FrL σ σ4 := by
          intro c j q1 q2 q3
          rw [← e4, ← e3, wI_cell _ _ _ q3, wI_cell _ _ _ q2, wI_cell _ _ _ q2, wI_cell _ _ _ q1]
          exact hF c j q1 q2 q3
        have I4 : Inv1 a σ4 := hI.mv F4.sm
        have R4 : Read1 a σ4 := hR.mv (fun c j _ => F4 c j (by omega) (by omega) (by omega))
        have w4 : σ4.1 0 21 = w := by rw [F4 0 21 (by omega) (by omega) (by omega)]; exact hw
        have X4 : Wd a X σ4 := hX.mv (fun c j _ => F4 c j (by omega) (by omega) (by omega))
        have c4 : ∀ j, j < i + 1 → σ4.1 14 j = ruI (ru a j) ∧ σ4.1 15 j = nI (syp (ru a) T (el a) (yo a) j).1 ∧ σ4.1 15 (40 + j) = nI (syp (ru a) T (el a) (yo a) j).2 ∧ σ4.1 16 j = nI (opn (dd a) (ru a j) (syp (ru a) T (el a) (yo a) j).1 (syp (ru a) T (el a) (yo a) j).2) := by
          intro j hj2
          rw [← e4, ← e3]
          rcases (show j < i ∨ j = i by omega) with q | q
          · rw [wI_cell _ _ _ (by omega), wI_cell _ _ _ (by omega), wI_cell _ _ _ (by omega), wI_place _ _ _ (by omega), wI_cell _ _ _ (by omega), wI_place _ _ _ (by omega), wI_place _ _ _ (by omega), wI_cell _ _ _ (by omega), wI_place _ _ _ (by omega), wI_place _ _ _ (by omega), wI_cell _ _ _ (by omega), wI_place _ _ _ (by omega), wI_cell _ _ _ (by omega), wI_cell _ _ _ (by omega), wI_cell _ _ _ (by omega)]
            exact hj j q
          · subst q
            rw [hex, hey]
            refine ⟨?_, ?_, ?_, ?_⟩
            · rw [wI_cell _ _ _ (by omega), wI_cell _ _ _ (by omega), wI_cell _ _ _ (by omega), wI_same]
            · rw [wI_cell _ _ _ (by omega), wI_place _ _ _ (by omega), wI_same]
            · rw [wI_cell _ _ _ (by omega), wI_same]
            · rw [wI_same]
        have N := IH σ4 F4 c4
        have at260 : ∀ t0 : Nat, ex ^^^ t0 = (if ru a i = 0 ∨ ru a i = 2 then ex ^^^ T i else ex) → R_X6_lays_260 σ4 K (nI ey) (nI i) (ruI (ru a i)) (nI (T i)) (nI t0) (nI ex) := by
          intro t0 ht0
          rw [← ht0] at N
          refine b_X6_lays_260 ?_
          rw [n_xor, nI_1]
          refine ⟨fun c => ?_, fun c => ⟨fun c2 => ?_, fun c2 => ?_⟩⟩
          · have c := (ruI_1 hr).mp c
            rw [if_pos (Or.inl c)] at N
            rw [n_xor]
            exact N
          · have c : ¬ ru a i = 1 := fun q => c ((ruI_1 hr).mpr q)
            have c2 : ¬ ru a i = 2 := fun q => c2 ((ruI_2 hr).mpr q)
            rw [if_neg (show ¬ (ru a i = 1 ∨ ru a i = 2) by omega)] at N
            rw [show (0 : Int32) = nI 0 from rfl, n_xor, Nat.xor_zero]
            exact N
          · have c2 := (ruI_2 hr).mp c2
            rw [if_pos (Or.inr c2)] at N
            rw [n_xor]
            exact N
        have h242 : R_X6_lays_242 σ4 K (nI ex) (nI ey) (nI i) (ruI (ru a i)) (nI (tn a w i ^^^ X i)) := by
          rw [← hT i (by omega)]
          refine b_X6_lays_242 ⟨fun c => ?_, fun c => ⟨fun c2 => ?_, fun c2 => ?_⟩⟩
          · have c := (ruI_0 hr).mp c
            exact at260 (T i) (by rw [if_pos (Or.inl c)])
          · have c : ¬ ru a i = 0 := fun q => c ((ruI_0 hr).mpr q)
            have c2 : ¬ ru a i = 2 := fun q => c2 ((ruI_2 hr).mpr q)
            exact at260 0 (by rw [if_neg (by omega), Nat.xor_zero])
          · have c2 := (ruI_2 hr).mp c2
            exact at260 (T i) (by rw [if_pos (Or.inr c2)])
        exact l6_ed I4 R4 w4 X4 (by omega) h242 (a.1 5) 0 (by omega)
      have a98 : ∀ t0 t1 : Nat, t1 &&& t0 = opn (dd a) (ru a i) ex ey → R_X6_lays_98 σ3 K (nI ex) (nI ey) (nI i) (ruI (ru a i)) (nI t0) (nI t1) := by
        intro t0 t1 ht
        refine b_X6_lays_98 ⟨i, rfl, by omega, ?_⟩
        rw [n_and, ht]
        exact at98
      have a75 : ∀ t0 : Nat, ((ru a i = 1 ∨ ru a i = 2) → ((2 ^ dd a - 1) &&& t0) &&& ey = opn (dd a) (ru a i) ex ey) → (¬ (ru a i = 1 ∨ ru a i = 2) → ((2 ^ dd a - 1) &&& t0) = opn (dd a) (ru a i) ex ey) → R_X6_lays_75 σ3 K (nI ex) (nI ey) (nI i) (ruI (ru a i)) (nI t0) (nI (2 ^ dd a - 1)) := by
        intro t0 q1 q2
        refine b_X6_lays_75 ?_
        rw [n_and]
        refine ⟨fun c => a98 _ _ (q1 (Or.inl ((ruI_1 hr).mp c))), fun c => ⟨fun c2 => a98 _ _ ?_, fun c2 => a98 _ _ (q1 (Or.inr ((ruI_2 hr).mp c2)))⟩⟩
        have c : ¬ ru a i = 1 := fun q => c ((ruI_1 hr).mpr q)
        have c2 : ¬ ru a i = 2 := fun q => c2 ((ruI_2 hr).mpr q)
        rw [Nat.and_self]
        exact q2 (by omega)
      refine ⟨fun c => ?_, fun c => ⟨fun c2 => ?_, fun c2 => ?_⟩⟩
      · have c := (ruI_0 hr).mp c
        refine a75 ex (fun q => by omega) (fun _ => ?_)
        rw [all_and hs.1]
        unfold opn
        rw [if_pos c]
      · have c : ¬ ru a i = 0 := fun q => c ((ruI_0 hr).mpr q)
        have c2 : ¬ ru a i = 2 := fun q => c2 ((ruI_2 hr).mpr q)
        refine a75 (2 ^ dd a - 1) (fun q => ?_) (fun q => ?_)
        · rw [Nat.and_self, all_and hs.2]
          unfold opn
          rw [if_neg c, if_pos (by omega)]
        · rw [Nat.and_self]
          unfold opn
          rw [if_neg c, if_neg (by omega), if_neg c2]
      · have c2 := (ruI_2 hr).mp c2
        refine a75 ex (fun _ => ?_) (fun q => by omega)
        rw [all_and hs.1]
        unfold opn
        rw [if_neg (by omega), if_neg (by omega), if_pos c2]
theorem k6_lays {a : ab} {w : Int32} {X T : Nat → Nat} {σ : r_St} (hI : Inv1 a σ) (hR : Read1 a σ) (hw : σ.1 0 21 = w) (hX : Wd a X σ) (hT : ∀ d, d < 40 → T d = tn a w d ^^^ X d) (hTl : ∀ d, T d < 2 ^ dd a)
    (h : ∀ σ', FrL σ σ' → LaidT a T σ' → K σ') : M_X6_lays σ K := by
  refine b_X6_lays (k6_younger (a := a) (dd_le hI.1.1) hI.1.2.2.1 hR.1 hR.2.1 hI.2.2.1.1 ?_)
  rw [hR.2.1]
  exact l6_lays hI hR hw hX hT hTl h 40 0 (by omega) σ (fun _ _ _ _ _ => rfl) (fun j hj => by omega)
/-- without words -/
theorem k6_laysW {a : ab} {w : Int32} {σ : r_St} (hI : Inv1 a σ) (hR : Read1 a σ) (hw : σ.1 0 21 = w) (h23 : σ.1 0 23 = 0) (h : ∀ σ', FrL σ σ' → Inv1 a σ' → Laid1 a w σ' → K σ') : M_X6_lays σ K :=
  k6_lays (a := a) (w := w) (X := fun _ => 0) (T := tn a w) hI hR hw (Or.inl ⟨h23, fun _ => rfl⟩) (fun d _ => (Nat.xor_zero _).symm) (tn_lt a w) (fun σ' f l => h σ' f (hI.mv f.sm) l)
theorem k6_laysTold {a : ab} {σ : r_St} (hI : Inv1 a σ) (h : ∀ σ', Inv1 a σ' → Laid1 a (-1) σ' → K σ') : M_X6_laysTold σ K := by
  refine b_X6_laysTold (k6_read hI (fun s1 I1 f1 R1 => ?_))
  have m2 : sm1 s1 (wI (wI s1 0 21 (-1)) 0 23 0) := by
    intro c j q1 q2
    rcases Nat.decEq c 0 with q3 | q3
    · rw [wI_cell _ _ _ q3, wI_cell _ _ _ q3]
    · subst q3
      rw [wI_place _ _ _ (by omega), wI_place _ _ _ (by omega)]
  refine k6_laysW (a := a) (I1.mv m2) (R1.mv (fun c j q => ?_)) (by rw [wI_place _ _ _ (by omega), wI_same]) (wI_same _ _ _ _) (fun σ' _ I' L' => h σ' I' L')
  rcases q with ⟨q1, q2⟩ | q
  · subst q1
    rw [wI_place _ _ _ (by omega), wI_place _ _ _ (by omega)]
  · subst q
    rw [wI_cell _ _ _ (by omega), wI_cell _ _ _ (by omega)]
end RL2
