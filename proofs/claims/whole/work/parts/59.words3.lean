/-! ===== words: the reference, walked ===== -/
def wdg (n c j : Nat) : Nat := c / 9 ^ (n - 1 - j) % 9
def wX (a : ab) (d n c j : Nat) : Nat := if d ≤ j ∧ j - d < n ∧ ru a j ≤ 1 ∧ wdg n c (j - d) < 8 then 2 ^ wdg n c (j - d) else 0
theorem wd_up {n c k : Nat} (h : k < n) : c / 9 ^ (n - (k + 1)) / 9 = c / 9 ^ (n - k) := by
  rw [Nat.div_div_eq_div_mul, ← Nat.pow_succ, show (n - (k + 1)).succ = n - k by omega]
theorem wst_wd (a : ab) (d : Nat) {n c k : Nat} (h : k < n) : wst a d (k + 1) (c / 9 ^ (n - (k + 1))) = (if ru a (d + k) = 0 ∧ wdg n c k < 8 then (wst a d k (c / 9 ^ (n - k))).1 ^^^ 2 ^ wdg n c k else (wst a d k (c / 9 ^ (n - k))).1, if ru a (d + k) = 1 ∧ wdg n c k < 8 then (wst a d k (c / 9 ^ (n - k))).2.1 ^^^ 2 ^ wdg n c k else (wst a d k (c / 9 ^ (n - k))).2.1, (wst a d k (c / 9 ^ (n - k))).2.2 && lgB a (ru a (d + k)) (wdg n c k)) := by
  have e : wdg n c k = c / 9 ^ (n - (k + 1)) % 9 := by unfold wdg; rw [show n - 1 - k = n - (k + 1) by omega]
  rw [e, ← wd_up h]
  rfl
theorem wst_lg (a : ab) (d : Nat) {n c : Nat} : ∀ k, k ≤ n → ((wst a d k (c / 9 ^ (n - k))).2.2 = true ↔ ∀ j, j < k → lgB a (ru a (d + j)) (wdg n c j) = true) := by
  intro k
  induction k with
  | zero => intro _; exact ⟨fun _ j hj => absurd hj (by omega), fun _ => rfl⟩
  | succ k ih =>
    intro hk
    rw [wst_wd a d (by omega)]
    simp only [Bool.and_eq_true]
    rw [ih (by omega)]
    refine ⟨fun h j hj => ?_, fun h => ⟨fun j hj => h j (by omega), h k (by omega)⟩⟩
    rcases (show j < k ∨ j = k by omega) with g | g
    · exact h.1 j g
    · subst g; exact h.2
theorem syp_cong {r t t' : Nat → Nat} {e y : Nat} : ∀ n, (∀ j, j < n → t j = t' j) → syp r t e y n = syp r t' e y n := by
  intro n
  induction n with
  | zero => intro _; rfl
  | succ n ih =>
    intro h
    unfold syp
    rw [ih (fun j hj => h j (by omega)), h n (by omega)]
theorem syp_wd (a : ab) {d n c : Nat} : ∀ k, k ≤ n → syp (ru a) (fun j => tn a (-1) j ^^^ wX a d n c j) (el a) (yo a) (d + k) = (sE a (-1) (d + k) ^^^ (wst a d k (c / 9 ^ (n - k))).1, sY a (-1) (d + k) ^^^ (wst a d k (c / 9 ^ (n - k))).2.1) := by
  intro k
  induction k with
  | zero =>
    intro _
    have e : syp (ru a) (fun j => tn a (-1) j ^^^ wX a d n c j) (el a) (yo a) (d + 0) = syp (ru a) (tn a (-1)) (el a) (yo a) (d + 0) := by
      refine syp_cong _ (fun j hj => ?_)
      show tn a (-1) j ^^^ wX a d n c j = tn a (-1) j
      unfold wX
      rw [if_neg (by omega), Nat.xor_zero]
    rw [e]
    show _ = (sE a (-1) (d + 0) ^^^ 0, sY a (-1) (d + 0) ^^^ 0)
    rw [Nat.xor_zero, Nat.xor_zero]
    rfl
  | succ k ih =>
    intro hk
    have IH := ih (by omega)
    rw [wst_wd a d (by omega)]
    have x1 : wX a d n c (d + k) = if ru a (d + k) ≤ 1 ∧ wdg n c k < 8 then 2 ^ wdg n c k else 0 := by
      unfold wX
      rw [show d + k - d = k by omega]
      by_cases q : ru a (d + k) ≤ 1 ∧ wdg n c k < 8
      · rw [if_pos q, if_pos ⟨by omega, by omega, q.1, q.2⟩]
      · rw [if_neg q, if_neg (fun h => q h.2.2)]
    show syp (ru a) (fun j => tn a (-1) j ^^^ wX a d n c j) (el a) (yo a) ((d + k) + 1) = (sE a (-1) ((d + k) + 1) ^^^ _, sY a (-1) ((d + k) + 1) ^^^ _)
    have eE : sE a (-1) ((d + k) + 1) = if ru a (d + k) = 0 ∨ ru a (d + k) = 2 then sE a (-1) (d + k) ^^^ tn a (-1) (d + k) else sE a (-1) (d + k) := rfl
    have eY : sY a (-1) ((d + k) + 1) = if ru a (d + k) = 1 ∨ ru a (d + k) = 2 then sY a (-1) (d + k) ^^^ tn a (-1) (d + k) else sY a (-1) (d + k) := rfl
    rw [eE, eY]
    unfold syp
    rw [IH]
    dsimp only
    rw [x1]
    generalize sE a (-1) (d + k) = E
    generalize sY a (-1) (d + k) = Y
    generalize tn a (-1) (d + k) = t
    generalize (wst a d k (c / 9 ^ (n - k))).1 = e
    generalize (wst a d k (c / 9 ^ (n - k))).2.1 = y
    generalize 2 ^ wdg n c k = p
    have ac : ∀ p q r s : Nat, (p ^^^ q) ^^^ (r ^^^ s) = (p ^^^ r) ^^^ (q ^^^ s) := by
      intro p q r s
      rw [Nat.xor_assoc, Nat.xor_assoc, ← Nat.xor_assoc q, Nat.xor_comm q r, Nat.xor_assoc]
    rcases (show ru a (d + k) = 0 ∨ ru a (d + k) = 1 ∨ ru a (d + k) = 2 ∨ 3 ≤ ru a (d + k) by omega) with q | q | q | q
    · by_cases w : wdg n c k < 8
      · simp [q, w, ac]
      · simp [q, w, Nat.xor_assoc, Nat.xor_comm e t]
    · by_cases w : wdg n c k < 8
      · simp [q, w, ac]
      · simp [q, w, Nat.xor_assoc, Nat.xor_comm y t]
    · simp [q, Nat.xor_assoc, Nat.xor_comm y t, Nat.xor_comm e t]
    · have q0 : ¬ ru a (d + k) = 0 := by omega
      have q1 : ¬ ru a (d + k) = 1 := by omega
      have q2 : ¬ ru a (d + k) = 2 := by omega
      simp [q0, q1, q2]
section WR3
variable {a : ab}
theorem k6_isWord {σ : r_St} {K : Int32 → r_St → Prop} {d w : Nat} (hI : Inv1 a σ) (hR : Read1 a σ) (hd : d < 40) (hw : w ≤ 8) (h1 : lgB a (ru a d) w = true → K 1 σ) (h0 : lgB a (ru a d) w = false → K 0 σ) : M_X6_isWord σ K (nI d) (nI w) := by
  have hr := ru_le a d
  have h8 := dd_le hI.1.1
  unfold lgB at h1 h0
  refine b_X6_isWord (k6_rulesOf hI hd ?_)
  rw [hR.1]
  refine ⟨fun c => ?_, fun c => ?_⟩
  · have c := (ruI_IN hr).mp c
    refine ⟨fun c2 => h1 ?_, fun c2 => ⟨fun c3 => h0 ?_, fun c3 => h1 ?_⟩⟩
    · have := nI_inj (b := 8) (by omega) (by decide) c2
      simp [this]
    · have c3 := le_of_nI (by omega) (by omega) c3
      have c2 : ¬ w = 8 := fun q => c2 (by rw [q]; rfl)
      simp [c2]; omega
    · have c3 := nle_of_nI (by omega) (by omega) c3
      simp [c, c3]
  · have c : ¬ ru a d ≤ 1 := fun q => c ((ruI_IN hr).mpr q)
    refine ⟨fun c2 => h1 ?_, fun c2 => h0 ?_⟩
    · have := nI_inj (b := 8) (by omega) (by decide) c2
      simp [this]
    · have c2 : ¬ w = 8 := fun q => c2 (by rw [q]; rfl)
      simp [c2]; omega
theorem l6_decw {K : r_St → Prop} {d n c : Nat} {x3 : Int32} {σ : r_St} (hI : Inv1 a σ) (hR : Read1 a σ) (hn : n ≤ 3) (hd : d + n < 40) (hc : c < 729)
    (h0 : ∀ σ', (∀ c j, ¬ c = 17 → σ'.1 c j = σ.1 c j) → ¬ (∀ j, j < n → lgB a (ru a (d + j)) (wdg n c j) = true) → R_X6_laysOuts_100 σ' K (nI d) (nI n) x3 (nI c) 0)
    (h1 : ∀ σ', (∀ c j, ¬ c = 17 → σ'.1 c j = σ.1 c j) → (∀ j, j < n → σ'.1 17 j = nI (wdg n c j)) → (∀ j, j < n → lgB a (ru a (d + j)) (wdg n c j) = true) → M_X6_lays σ' (fun s1 => R_X6_laysOuts_100 s1 K (nI d) (nI n) x3 (nI c) 1)) :
    ∀ r, r ≤ n → ∀ σ' x6, (∀ c j, ¬ c = 17 → σ'.1 c j = σ.1 c j) → (∀ j, r ≤ j → j < n → σ'.1 17 j = nI (wdg n c j)) → ((x6 = 1 ∧ ∀ j, r ≤ j → j < n → lgB a (ru a (d + j)) (wdg n c j) = true) ∨ (x6 = 0 ∧ ¬ ∀ j, j < n → lgB a (ru a (d + j)) (wdg n c j) = true)) →
      R_X6_laysOuts_31 σ' K (nI d) (nI n) x3 (nI c) (nI (c / 9 ^ (n - r))) x6 (nI r - 1) := by
  intro r
  induction r with
  | zero =>
    intro _ σ' x6 hF hj hx
    refine b_X6_laysOuts_31 ⟨fun _ => ?_, fun c => absurd (by decide) c⟩
    rcases hx with ⟨rfl, hx⟩ | ⟨rfl, hx⟩
    · exact ⟨fun c => absurd c (by decide), fun _ => h1 σ' hF (fun j hj2 => hj j (by omega) hj2) (fun j hj2 => hx j (by omega) hj2)⟩
    · exact ⟨fun _ => h0 σ' hF hx, fun c => absurd rfl c⟩
  | succ r ih =>
    intro hr σ' x6 hF hj hx
    have hle : c / 9 ^ (n - (r + 1)) ≤ c := Nat.div_le_self _ _
    have ed : c / 9 ^ (n - (r + 1)) % 9 = wdg n c r := by unfold wdg; rw [show n - 1 - r = n - (r + 1) by omega]
    have e2 : nI (c / 9 ^ (n - (r + 1))) / 9 = nI (c / 9 ^ (n - r)) := by
      rw [show (9 : Int32) = nI 9 from rfl, pk_div (by omega) (by omega) (by omega), wd_up (by omega)]
    have hw : wdg n c r < 9 := Nat.mod_lt _ (by decide)
    have hm1 : nI (r + 1) - 1 = nI r := nI_pred r
    have hF2 : ∀ c2 j, ¬ c2 = 17 → (wI σ' 17 r (nI (wdg n c r))).1 c2 j = σ.1 c2 j := fun c2 j q => by rw [wI_cell _ _ _ q]; exact hF c2 j q
    have hj2 : ∀ j, r ≤ j → j < n → (wI σ' 17 r (nI (wdg n c r))).1 17 j = nI (wdg n c j) := by
      intro j h1 h2
      rcases (show j = r ∨ r + 1 ≤ j by omega) with g | g
      · subst g; rw [wI_same]
      · rw [wI_place _ _ _ (by omega)]; exact hj j g h2
    have em : nI r + -1 = nI r - 1 := by rw [Int32.sub_eq_add_neg]
    rw [hm1]
    refine b_X6_laysOuts_31 ⟨fun c => absurd c (nI_pos (by omega)), fun _ => ⟨r, rfl, by omega, ?_⟩⟩
    rw [rm_9 (by omega), ed, e2, em]
    rcases hx with ⟨rfl, hx⟩ | ⟨rfl, hx⟩
    · refine ⟨fun c => absurd c (by decide), fun _ => ⟨r, rfl, by omega, ?_⟩⟩
      rw [wI_same, nI_add]
      have sm : sm1 σ (wI σ' 17 r (nI (wdg n c r))) := fun c2 j q1 q2 => hF2 c2 j (by omega)
      refine k6_isWord (hI.mv sm) (hR.mv (fun c2 j q => hF2 c2 j (by omega))) (by omega) (by omega) (fun g => ⟨fun c => absurd c (by decide), fun _ => ?_⟩) (fun g => ⟨fun _ => ?_, fun c => absurd rfl c⟩)
      · refine ih (by omega) _ 1 hF2 hj2 (Or.inl ⟨rfl, fun j h1 h2 => ?_⟩)
        rcases (show j = r ∨ r + 1 ≤ j by omega) with g2 | g2
        · subst g2; exact g
        · exact hx j g2 h2
      · refine ih (by omega) _ 0 hF2 hj2 (Or.inr ⟨rfl, fun g2 => ?_⟩)
        rw [g2 r (by omega)] at g
        cases g
    · exact ⟨fun _ => ih (by omega) _ 0 hF2 hj2 (Or.inr ⟨rfl, hx⟩), fun c => absurd rfl c⟩
end WR3
