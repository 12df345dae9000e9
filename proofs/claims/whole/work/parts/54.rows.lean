/-! ===== rows of tasks: the best one, pure (fb_ rows: pasted from the kit's COUNTS) ===== -/
theorem fb_holes : ∀ (m n : Nat) (f : Nat → Nat), (∀ i, i < n → f i < m) → (∀ i j, i < j → j < n → f i ≠ f j) → n ≤ m := by
  intro m
  induction m with
  | zero =>
    intro n f h1 _
    rcases Nat.eq_zero_or_pos n with h | h
    · omega
    · exact absurd (h1 0 h) (Nat.not_lt_zero _)
  | succ m ih =>
    intro n f h1 h2
    by_cases hx : ∃ i, i < n ∧ f i = m
    · obtain ⟨a, ha, hfa⟩ := hx
      have hg := ih (n - 1) (fun i => if i < a then f i else f (i + 1)) (by
        intro i hi
        by_cases q : i < a
        · simp only [if_pos q]
          have b1 := h1 i (by omega)
          have b2 := h2 i a q ha
          omega
        · simp only [if_neg q]
          have b1 := h1 (i + 1) (by omega)
          have b2 := h2 a (i + 1) (by omega) (by omega)
          omega) (by
        intro i j hij hj
        by_cases q : i < a
        · by_cases r : j < a
          · simp only [if_pos q, if_pos r]
            exact h2 i j hij (by omega)
          · simp only [if_pos q, if_neg r]
            exact h2 i (j + 1) (by omega) (by omega)
        · have r : ¬ j < a := by omega
          simp only [if_neg q, if_neg r]
          exact h2 (i + 1) (j + 1) (by omega) (by omega))
      omega
    · have hg := ih n f (fun i hi => by
        have b1 := h1 i hi
        have b2 : f i ≠ m := fun e => hx ⟨i, hi, e⟩
        omega) h2
      omega
/-- two of them in one place -/
theorem fb_twice {m n : Nat} {f : Nat → Nat} (h : ∀ i, i < n → f i < m) (hm : m < n) : ∃ i j, i < j ∧ j < n ∧ f i = f j := by
  refine Classical.byContradiction fun hx => ?_
  have := fb_holes m n f h (fun i j hij hj e => hx ⟨i, j, hij, hj, e⟩)
  omega
/-- as many as places, none twice: each place is taken -/
theorem fb_onto {n : Nat} {f : Nat → Nat} (h : ∀ i, i < n → f i < n) (h2 : ∀ i j, i < j → j < n → f i ≠ f j) {y : Nat} (hy : y < n) : ∃ i, i < n ∧ f i = y := by
  refine Classical.byContradiction fun hx => ?_
  have hne : ∀ i, i < n → f i ≠ y := fun i hi e => hx ⟨i, hi, e⟩
  have := fb_holes (n - 1) n (fun i => if f i < y then f i else f i - 1) (by
    intro i hi
    have b1 := h i hi
    have b2 := hne i hi
    by_cases q : f i < y
    · simp only [if_pos q]; omega
    · simp only [if_neg q]; omega) (by
    intro i j hij hj
    have b1 := hne i (by omega)
    have b2 := hne j hj
    have b3 := h2 i j hij hj
    by_cases q : f i < y
    · by_cases r : f j < y
      · simp only [if_pos q, if_pos r]; exact b3
      · simp only [if_pos q, if_neg r]; omega
    · by_cases r : f j < y
      · simp only [if_neg q, if_pos r]; omega
      · simp only [if_neg q, if_neg r]; omega)
  omega
/-! ===== how many places have a property ===== -/

abbrev rS : Type := Option (Nat × (Nat → Nat))
def upN (r : Nat → Nat) (k i : Nat) : Nat → Nat := fun j => if j = k then i else r j
def ontoB (r : Nat → Nat) (n : Nat) : Bool := alB (fun y => exB n (fun j => decide (r j = y))) n
theorem ontoB_iff {r : Nat → Nat} {n : Nat} : ontoB r n = true ↔ ∀ y, y < n → ∃ j, j < n ∧ r j = y := by
  unfold ontoB
  rw [alB_iff]
  constructor
  · intro h y hy
    obtain ⟨j, h1, h2⟩ := exB_iff.mp (h y hy)
    exact ⟨j, h1, of_decide_eq_true h2⟩
  · intro h y hy
    obtain ⟨j, h1, h2⟩ := h y hy
    exact exB_iff.mpr ⟨j, h1, decide_eq_true h2⟩
theorem onto_inj {r : Nat → Nat} {n i k : Nat} (h : ontoB r n = true) (hi : i < k) (hk : k < n) : ¬ r i = r k := by
  intro e
  have h := ontoB_iff.mp h
  have hg : ∀ y, ∃ j, y < n → (j < n ∧ r j = y) := fun y => by
    by_cases hy : y < n
    · obtain ⟨j, h1, h2⟩ := h y hy
      exact ⟨j, fun _ => ⟨h1, h2⟩⟩
    · exact ⟨0, fun q => absurd q hy⟩
  have hc : ∀ y, y < n → (Classical.choose (hg y) < n ∧ r (Classical.choose (hg y)) = y) := fun y hy => Classical.choose_spec (hg y) hy
  have inj : ∀ y z, y < z → z < n → Classical.choose (hg y) ≠ Classical.choose (hg z) := by
    intro y z hyz hz e2
    have e3 := (hc y (by omega)).2
    rw [e2, (hc z hz).2] at e3
    omega
  obtain ⟨y1, y1n, e1⟩ := fb_onto (f := fun y => Classical.choose (hg y)) (fun y hy => (hc y hy).1) inj (y := i) (by omega)
  obtain ⟨y2, y2n, e2⟩ := fb_onto (f := fun y => Classical.choose (hg y)) (fun y hy => (hc y hy).1) inj (y := k) hk
  have r1 := (hc y1 y1n).2
  have r2 := (hc y2 y2n).2
  rw [e1] at r1
  rw [e2] at r2
  have : y1 = y2 := by omega
  subst this
  have e1 : Classical.choose (hg y1) = i := e1
  have e2 : Classical.choose (hg y1) = k := e2
  omega
theorem inj_onto {r : Nat → Nat} {n : Nat} (h : ∀ j, j < n → r j < n) (h2 : ∀ i j, i < j → j < n → ¬ r i = r j) : ontoB r n = true := ontoB_iff.mpr (fun _ hy => fb_onto h h2 hy)
def vlR (a : ab) (d : Nat) (r : Nat → Nat) : Option Nat := if ontoB r (a.1 7) then atR a r d (a.1 7) else none
def stp (a : ab) (d : Nat) (s : rS) (r : Nat → Nat) : rS := match vlR a d r with
  | none => s
  | some t => match s with
    | none => some (t, r)
    | some p => if t < p.1 then some (t, r) else s
def fo {α : Type} (f : Nat → α → α) : Nat → α → α
  | 0, s => s
  | i + 1, s => f i (fo f i s)
def fo2 {α : Type} (f : Nat → α → α) (st : Nat) : Nat → α → α
  | 0, s => s
  | i + 1, s => f (st + i) (fo2 f st i s)
def sc (a : ab) (d : Nat) : Nat → Nat → (Nat → Nat) → rS → rS
  | 0, _, row, s => stp a d s row
  | m + 1, k, row, s => fo (fun i s => sc a d m (k + 1) (upN row k i) s) (a.1 7) s
theorem fo2_split {α : Type} (f : Nat → α → α) (st : Nat) (c1 : Nat) (s : α) : ∀ c2, fo2 f st (c1 + c2) s = fo2 f (st + c1) c2 (fo2 f st c1 s) := by
  intro c2
  induction c2 with
  | zero => rfl
  | succ c2 ih =>
    show f (st + (c1 + c2)) (fo2 f st (c1 + c2) s) = f (st + c1 + c2) (fo2 f (st + c1) c2 (fo2 f st c1 s))
    rw [ih, Nat.add_assoc]
def dig (n N j : Nat) : Nat := if j < n then N / n ^ (n - 1 - j) % n else 0
theorem sc_rows (a : ab) (d : Nat) : ∀ m k row v, k + m = a.1 7 → (∀ N, v * a.1 7 ^ m ≤ N → N < (v + 1) * a.1 7 ^ m → ∀ j, j < k → dig (a.1 7) N j = row j) → (∀ j, k ≤ j → row j = 0) → ∀ s, fo2 (fun N s => stp a d s (dig (a.1 7) N)) (v * a.1 7 ^ m) (a.1 7 ^ m) s = sc a d m k row s := by
  intro m
  induction m with
  | zero =>
    intro k row v hk hd hz s
    have e : dig (a.1 7) (v * a.1 7 ^ 0 + 0) = row := by
      funext j
      rcases Nat.lt_or_ge j k with q | q
      · exact hd _ (by omega) (by rw [Nat.add_mul]; simp) j q
      · rw [hz j q]
        unfold dig
        rw [if_neg (by omega)]
    show stp a d s (dig (a.1 7) (v * a.1 7 ^ 0 + 0)) = stp a d s row
    rw [e]
  | succ m ih =>
    intro k row v hk hd hz s
    have np : 0 < a.1 7 := by omega
    have pp : 0 < a.1 7 ^ m := Nat.pow_pos np
    have blocks : ∀ i, i ≤ a.1 7 → fo2 (fun N s => stp a d s (dig (a.1 7) N)) (v * a.1 7 ^ (m + 1)) (i * a.1 7 ^ m) s = fo (fun i s => sc a d m (k + 1) (upN row k i) s) i s := by
      intro i
      induction i with
      | zero => intro _; rw [Nat.zero_mul]; rfl
      | succ i ihi =>
        intro hi
        have e0 : v * a.1 7 ^ (m + 1) + i * a.1 7 ^ m = (v * a.1 7 + i) * a.1 7 ^ m := by
          rw [Nat.pow_succ, Nat.add_mul, ← Nat.mul_assoc, Nat.mul_right_comm]
        have bnd : ∀ N, (v * a.1 7 + i) * a.1 7 ^ m ≤ N → N < (v * a.1 7 + i + 1) * a.1 7 ^ m → v * a.1 7 ^ (m + 1) ≤ N ∧ N < (v + 1) * a.1 7 ^ (m + 1) ∧ N / a.1 7 ^ m = v * a.1 7 + i := by
          intro N h1 h2
          refine ⟨by omega, ?_, ?_⟩
          · have e2 : (v + 1) * a.1 7 ^ (m + 1) = (v * a.1 7 + a.1 7) * a.1 7 ^ m := by
              rw [Nat.pow_succ, Nat.add_mul, Nat.add_mul, Nat.one_mul, ← Nat.mul_assoc, Nat.mul_right_comm, Nat.mul_comm (a.1 7 ^ m) (a.1 7)]
            rw [e2]
            exact Nat.lt_of_lt_of_le h2 (Nat.mul_le_mul_right _ (by omega))
          · exact Nat.div_eq_of_lt_le h1 h2
        rw [Nat.add_mul, Nat.one_mul, fo2_split, ihi (by omega), e0]
        show _ = sc a d m (k + 1) (upN row k i) (fo (fun i s => sc a d m (k + 1) (upN row k i) s) i s)
        refine ih (k + 1) (upN row k i) (v * a.1 7 + i) (by omega) (fun N h1 h2 j hj => ?_) (fun j hj => ?_) _
        · obtain ⟨b1, b2, b3⟩ := bnd N h1 h2
          unfold upN
          rcases Nat.decEq j k with q | q
          · rw [if_neg q]
            exact hd N b1 b2 j (by omega)
          · subst q
            rw [if_pos rfl]
            unfold dig
            rw [if_pos (by omega), show a.1 7 - 1 - j = m by omega, b3, Nat.mul_comm, Nat.mul_add_mod, Nat.mod_eq_of_lt (by omega)]
        · unfold upN
          rw [if_neg (by omega)]
          exact hz j (by omega)
    have := blocks (a.1 7) (Nat.le_refl _)
    rw [show a.1 7 ^ (m + 1) = a.1 7 * a.1 7 ^ m by rw [Nat.pow_succ, Nat.mul_comm]]
    rw [show a.1 7 ^ (m + 1) = a.1 7 * a.1 7 ^ m by rw [Nat.pow_succ, Nat.mul_comm]] at this
    exact this
def row0 : Nat → Nat := fun _ => 0
/-- the best row of all -/
def bst (a : ab) (d : Nat) : rS := sc a d (a.1 7) 0 row0 none
theorem bst_rows (a : ab) (d : Nat) : fo2 (fun N s => stp a d s (dig (a.1 7) N)) 0 (a.1 7 ^ a.1 7) none = bst a d := by
  have := sc_rows a d (a.1 7) 0 row0 0 (by omega) (fun N _ _ j hj => by omega) (fun j _ => rfl) none
  rw [Nat.zero_mul] at this
  exact this
theorem stp_none {a : ab} {d : Nat} {s : rS} {r : Nat → Nat} (h : vlR a d r = none) : stp a d s r = s := by unfold stp; rw [h]
theorem sc_noop (a : ab) (d : Nat) : ∀ m k row s, k + m = a.1 7 → (∀ j, j < k → row j < a.1 7) → (∀ r, (∀ j, j < k → r j = row j) → (∀ j, j < a.1 7 → r j < a.1 7) → stp a d s r = s) → sc a d m k row s = s := by
  intro m
  induction m with
  | zero =>
    intro k row s hk hr h
    exact h row (fun j _ => rfl) (fun j hj => hr j (by omega))
  | succ m ih =>
    intro k row s hk hr h
    have all : ∀ i, i ≤ a.1 7 → fo (fun i s => sc a d m (k + 1) (upN row k i) s) i s = s := by
      intro i
      induction i with
      | zero => intro _; rfl
      | succ i ihi =>
        intro hi
        show sc a d m (k + 1) (upN row k i) (fo (fun i s => sc a d m (k + 1) (upN row k i) s) i s) = s
        rw [ihi (by omega)]
        refine ih (k + 1) (upN row k i) s (by omega) (fun j hj => ?_) (fun r h1 h2 => h r (fun j hj => ?_) h2)
        · unfold upN
          split
          · omega
          · exact hr j (by omega)
        · rw [h1 j (by omega)]
          unfold upN
          rw [if_neg (by omega)]
    exact all _ (Nat.le_refl _)
theorem atR_mono {a : ab} {o : Nat → Nat} {d n : Nat} (hl : ∀ k, k < n → 1 ≤ a.2.1 10 (o k)) {k u : Nat} (hu : atR a o d k = some u) : ∀ k2, k ≤ k2 → k2 ≤ n → ∀ w, atR a o d k2 = some w → u ≤ w := by
  intro k2
  induction k2 with
  | zero =>
    intro h1 h2 w hw
    have : k = 0 := by omega
    subst this
    rw [hu] at hw
    cases hw
    exact Nat.le_refl _
  | succ k2 ih =>
    intro h1 h2 w hw
    rcases (show k = k2 + 1 ∨ k ≤ k2 by omega) with q | q
    · subst q
      rw [hu] at hw
      cases hw
      exact Nat.le_refl _
    · unfold atR at hw
      split at hw
      · cases hw
      · rename_i t ht
        split at hw
        · cases hw
        · rename_i i hi
          cases hw
          have := ih q (by omega) t ht
          have := (fdO_some hi).1
          omega
/-- a mask of the tasks in a row -/
def um (r : Nat → Nat) : Nat → Nat
  | 0 => 0
  | k + 1 => um r k ||| 2 ^ r k
theorem um_bit (r : Nat → Nat) (k i : Nat) : (um r k).testBit i = true ↔ ∃ j, j < k ∧ r j = i := by
  induction k with
  | zero =>
    constructor
    · intro h; unfold um at h; simp at h
    · rintro ⟨j, h1, _⟩; omega
  | succ k ih =>
    unfold um
    rw [Nat.testBit_or, Bool.or_eq_true, ih, Nat.testBit_two_pow]
    constructor
    · rintro (⟨j, h1, h2⟩ | h)
      · exact ⟨j, by omega, h2⟩
      · exact ⟨k, by omega, of_decide_eq_true h⟩
    · rintro ⟨j, h1, h2⟩
      rcases (show j < k ∨ j = k by omega) with q | q
      · exact Or.inl ⟨j, q, h2⟩
      · subst q; exact Or.inr (decide_eq_true h2)
theorem um_lt {r : Nat → Nat} {n : Nat} : ∀ k, (∀ j, j < k → r j < n) → um r k < 2 ^ n := by
  intro k
  induction k with
  | zero => intro _; exact Nat.two_pow_pos n
  | succ k ih =>
    intro h
    unfold um
    exact Nat.or_lt_two_pow (ih (fun j hj => h j (by omega))) (Nat.pow_lt_pow_right (by decide) (h k (by omega)))
theorem um_all {r : Nat → Nat} {n : Nat} (h : ∀ j, j < n → r j < n) : um r n = 2 ^ n - 1 ↔ ontoB r n = true := by
  rw [ontoB_iff]
  have hp := Nat.two_pow_pos n
  constructor
  · intro e y hy
    have : (um r n).testBit y = true := by rw [e, Nat.testBit_two_pow_sub_one]; exact decide_eq_true hy
    exact (um_bit r n y).mp this
  · intro g
    refine bit_ext (n := n) (um_lt n h) (by omega) (fun i hi => ?_)
    rw [Nat.testBit_two_pow_sub_one, decide_eq_true hi]
    exact (um_bit r n i).mpr (g i hi)
