/-! ===== words: each one's best, pure; the class ===== -/
def fmx (f : Nat → Nat) : Nat → Nat → Nat
  | 0, b => b
  | i + 1, b => if fmx f i b < f i then f i else fmx f i b
def fmn (f : Nat → Nat) : Nat → Nat → Nat
  | 0, b => b
  | i + 1, b => if f i < fmn f i b then f i else fmn f i b
theorem fmx_spec (f : Nat → Nat) (b : Nat) : ∀ n, (fmx f n b = b ∨ ∃ i, i < n ∧ fmx f n b = f i) ∧ b ≤ fmx f n b ∧ ∀ i, i < n → f i ≤ fmx f n b := by
  intro n
  induction n with
  | zero => exact ⟨Or.inl rfl, Nat.le_refl _, fun i hi => absurd hi (by omega)⟩
  | succ n ih =>
    obtain ⟨h1, h2, h3⟩ := ih
    unfold fmx
    by_cases q : fmx f n b < f n
    · rw [if_pos q]
      refine ⟨Or.inr ⟨n, by omega, rfl⟩, by omega, fun i hi => ?_⟩
      rcases (show i < n ∨ i = n by omega) with g | g
      · have := h3 i g; omega
      · subst g; omega
    · rw [if_neg q]
      refine ⟨?_, h2, fun i hi => ?_⟩
      · rcases h1 with h1 | ⟨i, h1, h4⟩
        · exact Or.inl h1
        · exact Or.inr ⟨i, by omega, h4⟩
      · rcases (show i < n ∨ i = n by omega) with g | g
        · exact h3 i g
        · subst g; omega
theorem fmn_spec (f : Nat → Nat) (b : Nat) : ∀ n, (fmn f n b = b ∨ ∃ i, i < n ∧ fmn f n b = f i) ∧ fmn f n b ≤ b ∧ ∀ i, i < n → fmn f n b ≤ f i := by
  intro n
  induction n with
  | zero => exact ⟨Or.inl rfl, Nat.le_refl _, fun i hi => absurd hi (by omega)⟩
  | succ n ih =>
    obtain ⟨h1, h2, h3⟩ := ih
    unfold fmn
    by_cases q : f n < fmn f n b
    · rw [if_pos q]
      refine ⟨Or.inr ⟨n, by omega, rfl⟩, by omega, fun i hi => ?_⟩
      rcases (show i < n ∨ i = n by omega) with g | g
      · have := h3 i g; omega
      · subst g; omega
    · rw [if_neg q]
      refine ⟨?_, h2, fun i hi => ?_⟩
      · rcases h1 with h1 | ⟨i, h1, h4⟩
        · exact Or.inl h1
        · exact Or.inr ⟨i, by omega, h4⟩
      · rcases (show i < n ∨ i = n by omega) with g | g
        · exact h3 i g
        · subst g; omega
/-- how many, both doing their best: m days left, from day d on -/
def plW (a : ab) : Nat → Nat → Nat → Nat → Nat
  | 0, d, e, y => pc8 (opn (dd a) (ru a d) (sE a (-1) d ^^^ e) (sY a (-1) d ^^^ y))
  | m + 1, d, e, y => if ru a d = 0 then fmx (fun q => plW a m (d + 1) (e ^^^ 2 ^ q) y) (dd a) (plW a m (d + 1) e y) else if ru a d = 1 then fmn (fun q => plW a m (d + 1) e (y ^^^ 2 ^ q)) (dd a) (plW a m (d + 1) e y) else plW a m (d + 1) e y
theorem pc8_le (m : Nat) : pc8 m ≤ 8 := by
  have := sm_le (f := fun i => b2n (m.testBit i)) (c := 1) (n := 8) (fun k _ => by have := b2n_lt (m.testBit k); omega)
  unfold pc8
  omega
theorem plW_le (a : ab) : ∀ m d e y, plW a m d e y ≤ 8 := by
  intro m
  induction m with
  | zero => intro d e y; exact pc8_le _
  | succ m ih =>
    intro d e y
    unfold plW
    split
    · rcases (fmx_spec (fun q => plW a m (d + 1) (e ^^^ 2 ^ q) y) (plW a m (d + 1) e y) (dd a)).1 with h | ⟨i, _, h⟩
      · rw [h]; exact ih _ _ _
      · rw [h]; exact ih _ _ _
    · split
      · rcases (fmn_spec (fun q => plW a m (d + 1) e (y ^^^ 2 ^ q)) (plW a m (d + 1) e y) (dd a)).1 with h | ⟨i, _, h⟩
        · rw [h]; exact ih _ _ _
        · rw [h]; exact ih _ _ _
      · exact ih _ _ _
section WRD
variable {a : ab}
theorem l1_play {σ : r_St} (hW : WF a) (hT : Told a (-1) 32 σ) : ∀ m d dp e y (K : Int32 → r_St → Prop), d + m < 40 → m ≤ 3 → 5 + m ≤ dp → e < 2 ^ dd a → y < 2 ^ dd a → K (nI (plW a m d e y)) σ → M_X1_playOn dp 32 σ K (nI d) (nI m) (nI e) (nI y) := by
  have h8 := dd_le hW.1
  intro m
  induction m with
  | zero =>
    intro d dp e y K hd hm hdp he hy h
    obtain ⟨dp, rfl⟩ : ∃ q, dp = q + 1 := ⟨dp - 1, by omega⟩
    refine b_X1_playOn isLaws_32 (by omega) ⟨fun c => absurd c (by decide), fun _ => k1_said0 isLaws_32 hT (by omega) (k1_said1 isLaws_32 hT (by omega) (k1_rulerOn isLaws_32 hT.2.1 (by omega) ?_))⟩
    rw [n_xor, n_xor]
    refine k1_openBy isLaws_32 h8 hT.1 (ru_le a d) (kJ_int ?_ h)
    exact bits_small (opn_lt (xor_lt (sE_lt a (-1) d) he) (xor_lt (sY_lt a (-1) d) hy)) h8
  | succ m ih =>
    intro d dp e y K hd hm hdp he hy h
    obtain ⟨dp, rfl⟩ : ∃ q, dp = q + 1 := ⟨dp - 1, by omega⟩
    have hr := ru_le a d
    have e1 : nI (m + 1) - 1 = nI m := nI_pred m
    have loop0 : ru a d = 0 → ∀ q i, i + q = dd a → R_X1_playOn_67 (dp + 1) 32 σ K (nI d) (nI (m + 1)) (nI e) (nI y) (nI (fmx (fun q => plW a m (d + 1) (e ^^^ 2 ^ q) y) i (plW a m (d + 1) e y))) (ruI (ru a d)) (nI i) := by
      intro h0 q
      unfold plW at h
      rw [if_pos h0] at h
      induction q with
      | zero =>
        intro i hi
        have ei : i = dd a := by omega
        subst ei
        refine b_X1_playOn_67 isLaws_32 (by omega) ⟨fun _ => h, fun c => ?_⟩
        rw [hT.1] at c
        exact absurd (Int32.le_refl _) c
      | succ q ihq =>
        intro i hi
        refine b_X1_playOn_67 isLaws_32 (by omega) ⟨fun c => ?_, fun _ => ⟨fun _ => ⟨fun c => absurd ((ruI_0 hr).mpr h0) c, fun _ => ?_⟩, fun c => absurd ((ruI_IN hr).mpr (by omega)) c⟩⟩
        · rw [hT.1] at c
          have := le_of_nI (by omega) (by omega) c
          omega
        · rw [e1, nI_1 d, sl_1 (by omega), n_xor]
          refine ih (d + 1) dp (e ^^^ 2 ^ i) y _ (by omega) (by omega) (by omega) (xor_lt he (Nat.pow_lt_pow_right (by decide) (by omega))) hy ?_
          have hb := plW_le a m (d + 1) (e ^^^ 2 ^ i) y
          have hc : fmx (fun q => plW a m (d + 1) (e ^^^ 2 ^ q) y) i (plW a m (d + 1) e y) ≤ 8 := by
            rcases (fmx_spec (fun q => plW a m (d + 1) (e ^^^ 2 ^ q) y) (plW a m (d + 1) e y) i).1 with g | ⟨j, _, g⟩
            · rw [g]; exact plW_le _ _ _ _ _
            · rw [g]; exact plW_le _ _ _ _ _
          rw [imax_nI (by omega) (by omega), nI_1 i]
          exact ihq (i + 1) (by omega)
    have loop1 : ru a d = 1 → ∀ q i, i + q = dd a → R_X1_playOn_67 (dp + 1) 32 σ K (nI d) (nI (m + 1)) (nI e) (nI y) (nI (fmn (fun q => plW a m (d + 1) e (y ^^^ 2 ^ q)) i (plW a m (d + 1) e y))) (ruI (ru a d)) (nI i) := by
      intro h0 q
      unfold plW at h
      rw [if_neg (by omega), if_pos h0] at h
      induction q with
      | zero =>
        intro i hi
        have ei : i = dd a := by omega
        subst ei
        refine b_X1_playOn_67 isLaws_32 (by omega) ⟨fun _ => h, fun c => ?_⟩
        rw [hT.1] at c
        exact absurd (Int32.le_refl _) c
      | succ q ihq =>
        intro i hi
        refine b_X1_playOn_67 isLaws_32 (by omega) ⟨fun c => ?_, fun _ => ⟨fun _ => ⟨fun _ => ?_, fun c => ?_⟩, fun c => absurd ((ruI_IN hr).mpr (by omega)) c⟩⟩
        · rw [hT.1] at c
          have := le_of_nI (by omega) (by omega) c
          omega
        · rw [e1, nI_1 d, sl_1 (by omega), n_xor]
          refine ih (d + 1) dp e (y ^^^ 2 ^ i) _ (by omega) (by omega) (by omega) he (xor_lt hy (Nat.pow_lt_pow_right (by decide) (by omega))) ?_
          have hb := plW_le a m (d + 1) e (y ^^^ 2 ^ i)
          have hc : fmn (fun q => plW a m (d + 1) e (y ^^^ 2 ^ q)) i (plW a m (d + 1) e y) ≤ 8 := by
            rcases (fmn_spec (fun q => plW a m (d + 1) e (y ^^^ 2 ^ q)) (plW a m (d + 1) e y) i).1 with g | ⟨j, _, g⟩
            · rw [g]; exact plW_le _ _ _ _ _
            · rw [g]; exact plW_le _ _ _ _ _
          rw [imin_nI (by omega) (by omega), nI_1 i]
          exact ihq (i + 1) (by omega)
        · have := (ruI_0 hr).mp c
          omega
    refine b_X1_playOn isLaws_32 (by omega) ⟨fun _ => ?_, fun c => absurd (nI_lt (a := 0) (by omega) (by omega)) c⟩
    rw [e1, nI_1 d]
    refine ih (d + 1) dp e y _ (by omega) (by omega) (by omega) he hy (k1_rulerOn isLaws_32 hT.2.1 (by omega) ?_)
    rcases (show ru a d = 0 ∨ ru a d = 1 ∨ (¬ ru a d = 0 ∧ ¬ ru a d = 1) by omega) with q | q | q
    · exact loop0 q (dd a) 0 (by omega)
    · exact loop1 q (dd a) 0 (by omega)
    · unfold plW at h
      rw [if_neg q.1, if_neg q.2] at h
      refine b_X1_playOn_67 isLaws_32 (by omega) ⟨fun _ => h, fun _ => ⟨fun c => ?_, fun _ => h⟩⟩
      have := (ruI_IN hr).mp c
      omega
/-- what is said by the one that rules on the first day -/
def wvF (a : ab) (m d q : Nat) : Nat := if ru a d = 0 then plW a m (d + 1) (2 ^ q) 0 else plW a m (d + 1) 0 (2 ^ q)
def wdR (a : ab) (m d : Nat) : Nat → Nat → Nat
  | 0, _ => 8
  | n + 1, q => if wvF a m d q = plW a (m + 1) d 0 0 then q else wdR a m d n (q + 1)
def woV (a : ab) (d m w : Nat) : Int32 := if w = 0 then nI (plW a (m + 1) d 0 0) else if ru a d ≤ 1 then nI (wdR a m d (dd a) 0) else -1
theorem c5_words {σ : r_St} {K : Int32 → r_St → Prop} {d m w : Nat} (hI : Inv0 a σ) (hd : d + (m + 1) < 40) (hm : m ≤ 2) (hw : w < 2) (h : ∀ σ', Inv0 a σ' → K (woV a d m w) σ') : M_X5_words σ K (nI d) (nI (m + 1)) (nI w) := by
  have h8 := dd_le hI.1.1
  have hp := Nat.two_pow_pos (dd a)
  refine b_X5_words ⟨fun _ => ⟨fun _ => ⟨fun c => ?_, fun _ => ⟨fun _ => k5_laws hI (fun s I T _ => ?_), fun c => absurd ((IN_iff (lo := 0) (hi := 1) (by decide) (by decide)).mpr ⟨w, by omega, by omega, rfl⟩) c⟩⟩, fun c => absurd ((IN_iff (lo := 1) (hi := 3) (by decide) (by decide)).mpr ⟨m + 1, by omega, by omega, rfl⟩) c⟩, fun c => absurd (IN_day (by omega)) c⟩
  · rw [nI_add] at c
    have := lt_of_nI (x := 39) (by decide) (by omega) c
    omega
  · have hr := ru_le a d
    have h := h s I
    unfold woV at h
    refine ⟨fun c => ?_, fun c => ?_⟩
    · rw [if_neg (fun q => c (by rw [q]; rfl))] at h
      refine b_X1_wordAtBest isLaws_32 (k1_rulerOn isLaws_32 T.2.1 (by omega) ⟨fun c2 => ?_, fun c2 => ?_⟩)
      · have c2 := (ruI_IN hr).mp c2
        rw [if_pos c2] at h
        refine l1_play hI.1 T (m + 1) d 19 0 0 _ (by omega) (by omega) (by omega) hp hp ?_
        have loop : ∀ n q, q + n = dd a → K (nI (wdR a m d n q)) s → R_X1_wordAtBest_26 32 s K (nI d) (nI (m + 1)) (ruI (ru a d)) (nI (plW a (m + 1) d 0 0)) (nI q) := by
          intro n
          induction n with
          | zero =>
            intro q hq hk
            have ei : q = dd a := by omega
            subst ei
            refine b_X1_wordAtBest_26 isLaws_32 ⟨fun _ => hk, fun c => ?_⟩
            rw [T.1] at c
            exact absurd (Int32.le_refl _) c
          | succ n ih =>
            intro q hq hk
            unfold wdR at hk
            have s68 : ∀ e y : Nat, e < 2 ^ dd a → y < 2 ^ dd a → plW a m (d + 1) e y = wvF a m d q → R_X1_wordAtBest_68 32 s K (nI d) (nI (m + 1)) (ruI (ru a d)) (nI (plW a (m + 1) d 0 0)) (nI q) (nI y) (nI e) (nI (m + 1) - 1) (nI d + 1) := by
              intro e y he hy ev
              refine b_X1_wordAtBest_68 isLaws_32 ?_
              rw [nI_1 d, nI_pred m]
              refine l1_play hI.1 T m (d + 1) 19 e y _ (by omega) (by omega) (by omega) he hy ?_
              rw [ev]
              have l1 := plW_le a (m + 1) d 0 0
              have l2 : wvF a m d q ≤ 8 := by rw [← ev]; exact plW_le _ _ _ _ _
              refine ⟨fun g => ?_, fun g => ?_⟩
              · rw [if_neg (fun g2 => g (by rw [g2]))] at hk
                rw [nI_1 q]
                exact ih (q + 1) (by omega) hk
              · rw [if_pos (nI_inj (by omega) (by omega) g)] at hk
                exact hk
            have hq2 : 2 ^ q < 2 ^ dd a := Nat.pow_lt_pow_right (by decide) (by omega)
            refine b_X1_wordAtBest_26 isLaws_32 ⟨fun c => ?_, fun _ => ?_⟩
            · rw [T.1] at c
              have := le_of_nI (by omega) (by omega) c
              omega
            · rw [sl_1 (by omega)]
              refine ⟨fun g => b_X1_wordAtBest_58 isLaws_32 ⟨fun _ => s68 0 (2 ^ q) hp hq2 ?_, fun g2 => absurd g2 g⟩, fun g => b_X1_wordAtBest_58 isLaws_32 ⟨fun g2 => absurd g g2, fun _ => s68 (2 ^ q) 0 hq2 hp ?_⟩⟩
              · unfold wvF
                rw [if_neg (fun g2 => g ((ruI_0 hr).mpr g2))]
              · unfold wvF
                rw [if_pos ((ruI_0 hr).mp g)]
        exact loop (dd a) 0 (by omega) h
      · rw [if_neg (fun q => c2 ((ruI_IN hr).mpr q))] at h
        exact h
    · rw [if_pos (nI_inj (b := 0) (by omega) (by decide) c)] at h
      exact l1_play hI.1 T (m + 1) d 19 0 0 _ (by omega) (by omega) (by omega) hp hp h
end WRD
