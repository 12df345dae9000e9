/-! ===== words: the reference ===== -/
def lgB (a : ab) (r w : Nat) : Bool := decide (w = 8) || (decide (r ≤ 1) && decide (w < dd a))
def wst (a : ab) (d : Nat) : Nat → Nat → Nat × Nat × Bool
  | 0, _ => (0, 0, true)
  | k + 1, c => (if ru a (d + k) = 0 ∧ c % 9 < 8 then (wst a d k (c / 9)).1 ^^^ 2 ^ (c % 9) else (wst a d k (c / 9)).1, if ru a (d + k) = 1 ∧ c % 9 < 8 then (wst a d k (c / 9)).2.1 ^^^ 2 ^ (c % 9) else (wst a d k (c / 9)).2.1, (wst a d k (c / 9)).2.2 && lgB a (ru a (d + k)) (c % 9))
def nvO (a : ab) (d r k c : Nat) : Option Nat := if (wst a d k c).2.2 then some (plW a r (d + k) (wst a d k c).1 (wst a d k c).2.1) else none
def bo (mn : Bool) (f : Nat → Option Nat) : Nat → Option Nat
  | 0 => none
  | i + 1 => match f i with
    | none => bo mn f i
    | some v => match bo mn f i with
      | none => some v
      | some u => if (mn = true ∧ v < u) ∨ (mn = false ∧ u < v) then some v else some u
theorem bo_none {mn : Bool} {f : Nat → Option Nat} {i : Nat} (h : f i = none) : bo mn f (i + 1) = bo mn f i := by
  show (match f i with | none => bo mn f i | some v => match bo mn f i with | none => some v | some u => if (mn = true ∧ v < u) ∨ (mn = false ∧ u < v) then some v else some u) = _
  rw [h]
theorem bo_first {mn : Bool} {f : Nat → Option Nat} {i v : Nat} (h : f i = some v) (h2 : bo mn f i = none) : bo mn f (i + 1) = some v := by
  show (match f i with | none => bo mn f i | some v => match bo mn f i with | none => some v | some u => if (mn = true ∧ v < u) ∨ (mn = false ∧ u < v) then some v else some u) = _
  rw [h, h2]
theorem bo_some {mn : Bool} {f : Nat → Option Nat} {i v u : Nat} (h : f i = some v) (h2 : bo mn f i = some u) : bo mn f (i + 1) = if (mn = true ∧ v < u) ∨ (mn = false ∧ u < v) then some v else some u := by
  show (match f i with | none => bo mn f i | some v => match bo mn f i with | none => some v | some u => if (mn = true ∧ v < u) ∨ (mn = false ∧ u < v) then some v else some u) = _
  rw [h, h2]
theorem bo_spec (mn : Bool) (f : Nat → Option Nat) : ∀ n, (bo mn f n = none ∧ ∀ i, i < n → f i = none) ∨ ∃ v, bo mn f n = some v ∧ (∃ i, i < n ∧ f i = some v) ∧ ∀ i u, i < n → f i = some u → (mn = true → v ≤ u) ∧ (mn = false → u ≤ v) := by
  intro n
  induction n with
  | zero => exact Or.inl ⟨rfl, fun i hi => absurd hi (by omega)⟩
  | succ n ih =>
    cases hf : f n with
    | none =>
      rw [bo_none hf]
      rcases ih with ⟨h1, h2⟩ | ⟨v, h1, ⟨i, h2, h3⟩, h4⟩
      · refine Or.inl ⟨h1, fun i hi => ?_⟩
        rcases (show i < n ∨ i = n by omega) with g | g
        · exact h2 i g
        · subst g; exact hf
      · refine Or.inr ⟨v, h1, ⟨i, by omega, h3⟩, fun j u hj hu => ?_⟩
        rcases (show j < n ∨ j = n by omega) with g | g
        · exact h4 j u g hu
        · subst g; rw [hf] at hu; cases hu
    | some v =>
      rcases ih with ⟨h1, h2⟩ | ⟨u, h1, ⟨i, h2, h3⟩, h4⟩
      · rw [bo_first hf h1]
        refine Or.inr ⟨v, rfl, ⟨n, by omega, hf⟩, fun j w hj hw => ?_⟩
        rcases (show j < n ∨ j = n by omega) with g | g
        · rw [h2 j g] at hw; cases hw
        · subst g; rw [hf] at hw; cases hw; exact ⟨fun _ => Nat.le_refl _, fun _ => Nat.le_refl _⟩
      · rw [bo_some hf h1]
        by_cases q : (mn = true ∧ v < u) ∨ (mn = false ∧ u < v)
        · rw [if_pos q]
          refine Or.inr ⟨v, rfl, ⟨n, by omega, hf⟩, fun j w hj hw => ?_⟩
          rcases (show j < n ∨ j = n by omega) with g | g
          · obtain ⟨g1, g2⟩ := h4 j w g hw
            refine ⟨fun e => ?_, fun e => ?_⟩
            · have := g1 e
              rcases q with q | q
              · omega
              · rw [e] at q; exact absurd q.1 (by decide)
            · have := g2 e
              rcases q with q | q
              · rw [e] at q; exact absurd q.1 (by decide)
              · omega
          · subst g; rw [hf] at hw; cases hw; exact ⟨fun _ => Nat.le_refl _, fun _ => Nat.le_refl _⟩
        · rw [if_neg q]
          refine Or.inr ⟨u, rfl, ⟨i, by omega, h3⟩, fun j w hj hw => ?_⟩
          rcases (show j < n ∨ j = n by omega) with g | g
          · exact h4 j w g hw
          · subst g
            rw [hf] at hw
            cases hw
            exact ⟨fun e => Nat.le_of_not_lt (fun c => q (Or.inl ⟨e, c⟩)), fun e => Nat.le_of_not_lt (fun c => q (Or.inr ⟨e, c⟩))⟩
theorem wst_lt (a : ab) (h8 : dd a ≤ 8) (d : Nat) : ∀ k c, (wst a d k c).2.2 = true → (wst a d k c).1 < 2 ^ dd a ∧ (wst a d k c).2.1 < 2 ^ dd a := by
  intro k
  induction k with
  | zero => intro c _; exact ⟨Nat.two_pow_pos _, Nat.two_pow_pos _⟩
  | succ k ih =>
    intro c h
    unfold wst at h ⊢
    simp only [Bool.and_eq_true] at h ⊢
    obtain ⟨i1, i2⟩ := ih (c / 9) h.1
    have h2 := h.2
    unfold lgB at h2
    simp only [Bool.or_eq_true, Bool.and_eq_true, decide_eq_true_eq] at h2
    have hp : c % 9 < 8 → 2 ^ (c % 9) < 2 ^ dd a := fun q => Nat.pow_lt_pow_right (by decide) (by omega)
    refine ⟨?_, ?_⟩
    · split
      · rename_i q; exact xor_lt i1 (hp q.2)
      · exact i1
    · split
      · rename_i q; exact xor_lt i2 (hp q.2)
      · exact i2
theorem wst_at (a : ab) (d k c w : Nat) (hw : w < 9) : wst a d (k + 1) (9 * c + w) = (if ru a (d + k) = 0 ∧ w < 8 then (wst a d k c).1 ^^^ 2 ^ w else (wst a d k c).1, if ru a (d + k) = 1 ∧ w < 8 then (wst a d k c).2.1 ^^^ 2 ^ w else (wst a d k c).2.1, (wst a d k c).2.2 && lgB a (ru a (d + k)) w) := by
  have e1 : (9 * c + w) / 9 = c := by omega
  have e2 : (9 * c + w) % 9 = w := by omega
  show (if ru a (d + k) = 0 ∧ (9 * c + w) % 9 < 8 then (wst a d k ((9 * c + w) / 9)).1 ^^^ 2 ^ ((9 * c + w) % 9) else (wst a d k ((9 * c + w) / 9)).1, if ru a (d + k) = 1 ∧ (9 * c + w) % 9 < 8 then (wst a d k ((9 * c + w) / 9)).2.1 ^^^ 2 ^ ((9 * c + w) % 9) else (wst a d k ((9 * c + w) / 9)).2.1, (wst a d k ((9 * c + w) / 9)).2.2 && lgB a (ru a (d + k)) ((9 * c + w) % 9)) = _
  rw [e1, e2]
theorem bo_up (a : ab) (h8 : dd a ≤ 8) (d r k c : Nat) : bo (decide (ru a (d + k) = 1)) (fun w => nvO a d r (k + 1) (9 * c + w)) 9 = nvO a d (r + 1) k c := by
  have hs := bo_spec (decide (ru a (d + k) = 1)) (fun w => nvO a d r (k + 1) (9 * c + w)) 9
  have ev : ∀ w, w < 9 → nvO a d r (k + 1) (9 * c + w) = if ((wst a d k c).2.2 && lgB a (ru a (d + k)) w) = true then some (plW a r (d + k + 1) (if ru a (d + k) = 0 ∧ w < 8 then (wst a d k c).1 ^^^ 2 ^ w else (wst a d k c).1) (if ru a (d + k) = 1 ∧ w < 8 then (wst a d k c).2.1 ^^^ 2 ^ w else (wst a d k c).2.1)) else none := by
    intro w hw
    unfold nvO
    rw [wst_at a d k c w hw]
    rfl
  have ev2 : nvO a d (r + 1) k c = if (wst a d k c).2.2 = true then some (plW a (r + 1) (d + k) (wst a d k c).1 (wst a d k c).2.1) else none := rfl
  generalize (wst a d k c).1 = e at ev ev2
  generalize (wst a d k c).2.1 = y at ev ev2
  generalize (wst a d k c).2.2 = l at ev ev2
  rw [ev2]
  cases l with
  | false =>
    rw [if_neg (by decide)]
    rcases hs with ⟨h1, _⟩ | ⟨v, h1, ⟨i, h2, h3⟩, _⟩
    · exact h1
    · have h3' : nvO a d r (k + 1) (9 * c + i) = some v := h3
      rw [ev i h2, Bool.false_and, if_neg (by decide)] at h3'
      cases h3'
  | true =>
    rw [if_pos rfl]
    have n8 : nvO a d r (k + 1) (9 * c + 8) = some (plW a r (d + k + 1) e y) := by
      rw [ev 8 (by decide), if_pos (show (true && lgB a (ru a (d + k)) 8) = true from rfl), if_neg (by omega), if_neg (by omega)]
    rcases hs with ⟨_, h2⟩ | ⟨v, h1, ⟨i, h2, h3⟩, h4⟩
    · have := h2 8 (by decide)
      have h9 : nvO a d r (k + 1) (9 * c + 8) = none := this
      rw [n8] at h9; cases h9
    · rw [h1]
      have h3' : nvO a d r (k + 1) (9 * c + i) = some v := h3
      have h4' : ∀ i u, i < 9 → nvO a d r (k + 1) (9 * c + i) = some u → (decide (ru a (d + k) = 1) = true → v ≤ u) ∧ (decide (ru a (d + k) = 1) = false → u ≤ v) := h4
      have b8 := h4' 8 _ (by decide) n8
      rw [ev i h2] at h3'
      unfold plW
      rcases (show ru a (d + k) = 0 ∨ ru a (d + k) = 1 ∨ (¬ ru a (d + k) = 0 ∧ ¬ ru a (d + k) = 1 ∧ ¬ ru a (d + k) ≤ 1) by omega) with q | q | q
      · rw [if_pos q]
        have hF : decide (ru a (d + k) = 1) = false := by rw [q]; rfl
        obtain ⟨f1, f2, f3⟩ := fmx_spec (fun q => plW a r (d + k + 1) (e ^^^ 2 ^ q) y) (plW a r (d + k + 1) e y) (dd a)
        have nq : ∀ w, w < dd a → nvO a d r (k + 1) (9 * c + w) = some (plW a r (d + k + 1) (e ^^^ 2 ^ w) y) := by
          intro w hw
          have hl : lgB a (ru a (d + k)) w = true := by unfold lgB; rw [q]; simp [hw]
          rw [ev w (by omega), hl, if_pos (by decide), if_pos ⟨q, by omega⟩, if_neg (by omega)]
        have up : v ≤ fmx (fun q => plW a r (d + k + 1) (e ^^^ 2 ^ q) y) (dd a) (plW a r (d + k + 1) e y) := by
          rcases (show i = 8 ∨ i < 8 by omega) with g | g
          · subst g
            rw [if_pos (show (true && lgB a (ru a (d + k)) 8) = true from rfl), if_neg (by omega), if_neg (by omega)] at h3'
            cases h3'; exact f2
          · by_cases g2 : i < dd a
            · have := nq i g2
              rw [ev i h2] at this
              rw [this] at h3'
              cases h3'
              exact f3 i g2
            · have hl : lgB a (ru a (d + k)) i = false := by unfold lgB; simp [g2]; omega
              rw [hl, if_neg (by decide)] at h3'
              cases h3'
        congr 1
        rcases f1 with g | ⟨j, g1, g2⟩
        · rw [g] at up ⊢
          have := b8.2 hF
          omega
        · rw [g2] at up ⊢
          have := (h4' j _ (by omega) (nq j g1)).2 hF
          omega
      · rw [if_neg (by omega), if_pos q]
        have hF : decide (ru a (d + k) = 1) = true := by rw [q]; rfl
        obtain ⟨f1, f2, f3⟩ := fmn_spec (fun q => plW a r (d + k + 1) e (y ^^^ 2 ^ q)) (plW a r (d + k + 1) e y) (dd a)
        have nq : ∀ w, w < dd a → nvO a d r (k + 1) (9 * c + w) = some (plW a r (d + k + 1) e (y ^^^ 2 ^ w)) := by
          intro w hw
          have hl : lgB a (ru a (d + k)) w = true := by unfold lgB; rw [q]; simp [hw]
          rw [ev w (by omega), hl, if_pos (by decide), if_neg (by omega), if_pos ⟨q, by omega⟩]
        have up : fmn (fun q => plW a r (d + k + 1) e (y ^^^ 2 ^ q)) (dd a) (plW a r (d + k + 1) e y) ≤ v := by
          rcases (show i = 8 ∨ i < 8 by omega) with g | g
          · subst g
            rw [if_pos (show (true && lgB a (ru a (d + k)) 8) = true from rfl), if_neg (by omega), if_neg (by omega)] at h3'
            cases h3'; exact f2
          · by_cases g2 : i < dd a
            · have := nq i g2
              rw [ev i h2] at this
              rw [this] at h3'
              cases h3'
              exact f3 i g2
            · have hl : lgB a (ru a (d + k)) i = false := by unfold lgB; simp [g2]; omega
              rw [hl, if_neg (by decide)] at h3'
              cases h3'
        congr 1
        rcases f1 with g | ⟨j, g1, g2⟩
        · rw [g] at up ⊢
          have := b8.1 hF
          omega
        · rw [g2] at up ⊢
          have := (h4' j _ (by omega) (nq j g1)).1 hF
          omega
      · rw [if_neg q.1, if_neg q.2.1]
        rcases (show i = 8 ∨ i < 8 by omega) with g | g
        · subst g
          rw [if_pos (show (true && lgB a (ru a (d + k)) 8) = true from rfl), if_neg (by omega), if_neg (by omega)] at h3'
          cases h3'; rfl
        · have hl : lgB a (ru a (d + k)) i = false := by unfold lgB; simp [q.2.2]; omega
          rw [hl, if_neg (by decide)] at h3'
          cases h3'
theorem nvO_le {a : ab} {d r k c u : Nat} (h : nvO a d r k c = some u) : u ≤ 8 := by
  unfold nvO at h
  split at h
  · cases h; exact plW_le _ _ _ _ _
  · cases h
section WR2
variable {a : ab}
theorem k6_ones {σ : r_St} {K : Int32 → r_St → Prop} {m : Nat} (hm : m < 256) (h : K (nI (pc8 m)) σ) : M_X6_ones σ K (nI m) := by
  have loop : ∀ q i, i + q = 8 → R_X6_ones_4 σ K (nI m) (nI (sm (fun i => b2n (m.testBit i)) i)) (nI i) := by
    intro q
    induction q with
    | zero =>
      intro i hi
      have e : i = 8 := by omega
      subst e
      exact b_X6_ones_4 ⟨fun _ => h, fun c => absurd (Int32.le_refl _) c⟩
    | succ q ih =>
      intro i hi
      refine b_X6_ones_4 ⟨fun c => ?_, fun _ => ?_⟩
      · have := le_of_nI (x := 8) (by decide) (by omega) c
        omega
      · rw [sr_bit (by omega) (by omega), nI_add, nI_1]
        exact ih (i + 1) (by omega)
  exact b_X6_ones (loop 8 0 (by omega))
theorem k6_best {σ : r_St} {K : Int32 → r_St → Prop} {f : Nat → Option Nat} {x2 : Int32} {b : Nat} (hb : b + 9 ≤ 729) (hv : ∀ i u, i < 9 → f i = some u → u ≤ 8) (hf : ∀ i, i < 9 → σ.1 21 (b + i) = oI (f i)) (h : K (oI (bo (decide (x2 = 1)) f 9)) σ) : M_X6_bestOut σ K (nI b) x2 := by
  have hbv : ∀ i u, i ≤ 9 → bo (decide (x2 = 1)) f i = some u → u ≤ 8 := by
    intro i u hi hu
    rcases bo_spec (decide (x2 = 1)) f i with ⟨h1, _⟩ | ⟨v, h1, ⟨j, h2, h3⟩, _⟩
    · rw [h1] at hu; cases hu
    · rw [h1] at hu; cases hu; exact hv j u (by omega) h3
  have loop : ∀ q i, i + q = 9 → R_X6_bestOut_5 σ K (nI b) x2 (oI (bo (decide (x2 = 1)) f i)) (nI i) := by
    intro q
    induction q with
    | zero =>
      intro i hi
      have e : i = 9 := by omega
      subst e
      exact b_X6_bestOut_5 ⟨fun _ => h, fun c => absurd (Int32.le_refl _) c⟩
    | succ q ih =>
      intro i hi
      have N := ih (i + 1) (by omega)
      have s53 : ∀ t0 : Int32, (∀ v u, f i = some v → bo (decide (x2 = 1)) f i = some u → (t0 = 0 → ¬ ((decide (x2 = 1) = true ∧ v < u) ∨ (decide (x2 = 1) = false ∧ u < v))) ∧ (¬ t0 = 0 → ((decide (x2 = 1) = true ∧ v < u) ∨ (decide (x2 = 1) = false ∧ u < v)))) → R_X6_bestOut_53 σ K (nI b) x2 (oI (bo (decide (x2 = 1)) f i)) (nI i) (oI (f i)) t0 := by
        intro t0 ht
        refine b_X6_bestOut_53 ?_
        rw [nI_1]
        cases hfi : f i with
        | none =>
          rw [bo_none hfi] at N
          exact ⟨fun _ => N, fun c => absurd rfl c⟩
        | some v =>
          have v8 := hv i v (by omega) hfi
          refine ⟨fun c => absurd c (nI_m1 (by omega)), fun _ => ?_⟩
          cases hbi : bo (decide (x2 = 1)) f i with
          | none =>
            rw [bo_first hfi hbi] at N
            exact ⟨fun _ => N, fun c => absurd rfl c⟩
          | some u =>
            have u8 := hbv i u (by omega) hbi
            rw [bo_some hfi hbi] at N
            obtain ⟨t1, t2⟩ := ht v u hfi hbi
            refine ⟨fun c => absurd c (nI_m1 (by omega)), fun _ => ⟨fun c => ?_, fun c => ?_⟩⟩
            · rw [if_neg (t1 c)] at N; exact N
            · rw [if_pos (t2 c)] at N; exact N
      refine b_X6_bestOut_5 ⟨fun c => ?_, fun _ => ⟨b + i, nI_add b i, by omega, ?_⟩⟩
      · have := le_of_nI (x := 9) (by decide) (by omega) c
        omega
      · rw [hf i (by omega)]
        refine ⟨fun c1 => ⟨fun c2 => s53 0 (fun v u e1 e2 => ⟨fun _ => ?_, fun c => absurd rfl c⟩), fun c2 => s53 1 (fun v u e1 e2 => ⟨fun c => absurd c (by decide), fun _ => ?_⟩)⟩, fun c1 => ⟨fun c2 => s53 0 (fun v u e1 e2 => ⟨fun _ => ?_, fun c => absurd rfl c⟩), fun c2 => s53 1 (fun v u e1 e2 => ⟨fun c => absurd c (by decide), fun _ => ?_⟩)⟩⟩
        all_goals
          have v8 := hv i v (by omega) e1
          have u8 := hbv i u (by omega) e2
          rw [e1, e2] at c2
          simp only [c1, decide_true, decide_false, true_and, false_and, or_false, false_or, Bool.false_eq_true, reduceCtorEq]
        · have := le_of_nI (x := v) (y := u) (by omega) (by omega) c2
          omega
        · have := nle_of_nI (x := v) (y := u) (by omega) (by omega) c2
          omega
        · have := le_of_nI (x := u) (y := v) (by omega) (by omega) c2
          omega
        · have := nle_of_nI (x := u) (y := v) (by omega) (by omega) c2
          omega
  exact b_X6_bestOut (loop 9 0 (by omega))
end WR2
