/-! ===== tests of a range (written by mk.py) ===== -/
def M_X5_within (σ : r_St) (K : Int32 → r_St → Prop) (x0 : Int32) (x1 : Int32) (x2 : Int32) : Prop := RR 0 1 mX5_within 0 (lv_args 0 [.int x0, .int x1, .int x2]) [] σ (rI K)
set_option maxRecDepth 20000 in
theorem b_X5_within {σ : r_St} {K : Int32 → r_St → Prop} {x0 : Int32} {x1 : Int32} {x2 : Int32}  (H : (x0 < x1 → K 0 σ) ∧ (¬ (x0 < x1) → ((x2 < x0 → K 0 σ) ∧ (¬ (x2 < x0) → K 1 σ)))) : M_X5_within σ K x0 x1 x2 := by
  show RR 0 1 mX5_within 0 [(0, .int x0), (1, .int x1), (2, .int x2)] [] σ (rI K)
  refine RR.s2 (pc' := 1) (lv' := [(0, .int x0), (1, .int x1), (2, .int x2)]) (st' := [.int x0]) dX5_within_0 rfl ?_
  refine RR.s2 (pc' := 2) (lv' := [(0, .int x0), (1, .int x1), (2, .int x2)]) (st' := [.int x1, .int x0]) dX5_within_1 rfl ?_
  refine RR.br dX5_within_2 rfl (fun c => ?_) (fun c => ?_)
  · have H := H.1 c
    refine RR.ic (v := 0) dX5_within_14 (by decide) ?_
    exact RR.zret dX5_within_15 rfl (by decide) ⟨_, rfl, H⟩
  · have H := H.2 c
    refine RR.s2 (pc' := 6) (lv' := [(0, .int x0), (1, .int x1), (2, .int x2)]) (st' := [.int x0]) dX5_within_5 rfl ?_
    refine RR.s2 (pc' := 7) (lv' := [(0, .int x0), (1, .int x1), (2, .int x2)]) (st' := [.int x2, .int x0]) dX5_within_6 rfl ?_
    refine RR.br dX5_within_7 rfl (fun c => ?_) (fun c => ?_)
    · have H := H.1 c
      refine RR.ic (v := 0) dX5_within_14 (by decide) ?_
      exact RR.zret dX5_within_15 rfl (by decide) ⟨_, rfl, H⟩
    · have H := H.2 c
      refine RR.ic (v := 1) dX5_within_10 (by decide) ?_
      refine RR.s2 (pc' := 15) (lv' := [(0, .int x0), (1, .int x1), (2, .int x2)]) (st' := [.int 1]) dX5_within_11 rfl ?_
      exact RR.zret dX5_within_15 rfl (by decide) ⟨_, rfl, H⟩
theorem kb_X5_within {σ : r_St} {Q : Option Value → r_St → Prop} {x0 : Int32} {x1 : Int32} {x2 : Int32} (h1 : IN x0 x1 x2 → Q (some (.int 1)) σ) (h0 : ¬ IN x0 x1 x2 → Q (some (.int 0)) σ) : RR 0 1 mX5_within 0 (lv_args 0 [.int x0, .int x1, .int x2]) [] σ Q := by
  refine RR.toI (K := fun v σ' => Q (some (.int v)) σ') (b_X5_within ?_) (fun v σ' h => h)
  exact ⟨fun c => h0 (fun g => Int32.not_lt.mpr g.1 c), fun c => ⟨fun c2 => h0 (fun g => Int32.not_lt.mpr g.2 c2), fun c2 => h1 ⟨Int32.not_lt.mp c, Int32.not_lt.mp c2⟩⟩⟩
def M_X5_isDay (σ : r_St) (K : Int32 → r_St → Prop) (x0 : Int32) : Prop := RR 0 1 mX5_isDay 0 (lv_args 0 [.int x0]) [] σ (rI K)
set_option maxRecDepth 20000 in
theorem b_X5_isDay {σ : r_St} {K : Int32 → r_St → Prop} {x0 : Int32}  (H : (x0 < 0 → K 0 σ) ∧ (¬ (x0 < 0) → ((40 ≤ x0 → K 0 σ) ∧ (¬ (40 ≤ x0) → K 1 σ)))) : M_X5_isDay σ K x0 := by
  show RR 0 1 mX5_isDay 0 [(0, .int x0)] [] σ (rI K)
  refine RR.s2 (pc' := 1) (lv' := [(0, .int x0)]) (st' := [.int x0]) dX5_isDay_0 rfl ?_
  refine RR.br dX5_isDay_1 rfl (fun c => ?_) (fun c => ?_)
  · have H := H.1 c
    refine RR.ic (v := 0) dX5_isDay_14 (by decide) ?_
    exact RR.zret dX5_isDay_15 rfl (by decide) ⟨_, rfl, H⟩
  · have H := H.2 c
    refine RR.s2 (pc' := 5) (lv' := [(0, .int x0)]) (st' := [.int x0]) dX5_isDay_4 rfl ?_
    refine RR.bp (v := 40) dX5_isDay_5 (by decide) ?_
    refine RR.br dX5_isDay_7 rfl (fun c => ?_) (fun c => ?_)
    · have H := H.1 c
      refine RR.ic (v := 0) dX5_isDay_14 (by decide) ?_
      exact RR.zret dX5_isDay_15 rfl (by decide) ⟨_, rfl, H⟩
    · have H := H.2 c
      refine RR.ic (v := 1) dX5_isDay_10 (by decide) ?_
      refine RR.s2 (pc' := 15) (lv' := [(0, .int x0)]) (st' := [.int 1]) dX5_isDay_11 rfl ?_
      exact RR.zret dX5_isDay_15 rfl (by decide) ⟨_, rfl, H⟩
theorem kb_X5_isDay {σ : r_St} {Q : Option Value → r_St → Prop} {x0 : Int32} (h1 : IN x0 0 39 → Q (some (.int 1)) σ) (h0 : ¬ IN x0 0 39 → Q (some (.int 0)) σ) : RR 0 1 mX5_isDay 0 (lv_args 0 [.int x0]) [] σ Q := by
  refine RR.toI (K := fun v σ' => Q (some (.int v)) σ') (b_X5_isDay ?_) (fun v σ' h => h)
  exact ⟨fun c => h0 (fun g => Int32.not_lt.mpr g.1 c), fun c => ⟨fun c2 => h0 (fun g => absurd (Int32.le_trans c2 g.2) (by decide)), fun c2 => h1 ⟨Int32.not_lt.mp c, lt40 c2⟩⟩⟩
def M_X5_isKing (σ : r_St) (K : Int32 → r_St → Prop) (x0 : Int32) : Prop := RR 0 2 mX5_isKing 0 (lv_args 0 [.int x0]) [] σ (rI K)
set_option maxRecDepth 20000 in
theorem b_X5_isKing {σ : r_St} {K : Int32 → r_St → Prop} {x0 : Int32}  (H : (IN x0 0 1 → K 1 σ) ∧ (¬ IN x0 0 1 → K 0 σ)) : M_X5_isKing σ K x0 := by
  show RR 0 2 mX5_isKing 0 [(0, .int x0)] [] σ (rI K)
  refine RR.s2 (pc' := 1) (lv' := [(0, .int x0)]) (st' := [.int x0]) dX5_isKing_0 rfl ?_
  refine RR.ic (v := 0) dX5_isKing_1 (by decide) ?_
  refine RR.ic (v := 1) dX5_isKing_2 (by decide) ?_
  refine RR.cS dX5_isKing_3 ml_X5_71 (as := [.int x0, .int 0, .int 1]) (rest := []) rfl rfl (Nat.le_of_ble_eq_true rfl) (Nat.le_of_ble_eq_true rfl) (by decide) (kb_X5_within (fun c => ?_) (fun c => ?_))
  · have H := H.1 c
    show RR 0 2 mX5_isKing 6 [(0, .int x0)] [.int 1] σ _
    exact RR.zret dX5_isKing_6 rfl (by decide) ⟨_, rfl, H⟩
  · have H := H.2 c
    show RR 0 2 mX5_isKing 6 [(0, .int x0)] [.int 0] σ _
    exact RR.zret dX5_isKing_6 rfl (by decide) ⟨_, rfl, H⟩
theorem kb_X5_isKing {σ : r_St} {Q : Option Value → r_St → Prop} {x0 : Int32} (h1 : IN x0 0 1 → Q (some (.int 1)) σ) (h0 : ¬ IN x0 0 1 → Q (some (.int 0)) σ) : RR 0 2 mX5_isKing 0 (lv_args 0 [.int x0]) [] σ Q := by
  refine RR.toI (K := fun v σ' => Q (some (.int v)) σ') (b_X5_isKing ?_) (fun v σ' h => h)
  exact ⟨h1, h0⟩
def M_X5_mayBeDeed (σ : r_St) (K : Int32 → r_St → Prop) (x0 : Int32) : Prop := RR 0 2 mX5_mayBeDeed 0 (lv_args 0 [.int x0]) [] σ (rI K)
set_option maxRecDepth 20000 in
theorem b_X5_mayBeDeed {σ : r_St} {K : Int32 → r_St → Prop} {x0 : Int32}  (H : (IN x0 0 7 → K 1 σ) ∧ (¬ IN x0 0 7 → K 0 σ)) : M_X5_mayBeDeed σ K x0 := by
  show RR 0 2 mX5_mayBeDeed 0 [(0, .int x0)] [] σ (rI K)
  refine RR.s2 (pc' := 1) (lv' := [(0, .int x0)]) (st' := [.int x0]) dX5_mayBeDeed_0 rfl ?_
  refine RR.ic (v := 0) dX5_mayBeDeed_1 (by decide) ?_
  refine RR.bp (v := 7) dX5_mayBeDeed_2 (by decide) ?_
  refine RR.cS dX5_mayBeDeed_4 ml_X5_71 (as := [.int x0, .int 0, .int 7]) (rest := []) rfl rfl (Nat.le_of_ble_eq_true rfl) (Nat.le_of_ble_eq_true rfl) (by decide) (kb_X5_within (fun c => ?_) (fun c => ?_))
  · have H := H.1 c
    show RR 0 2 mX5_mayBeDeed 7 [(0, .int x0)] [.int 1] σ _
    exact RR.zret dX5_mayBeDeed_7 rfl (by decide) ⟨_, rfl, H⟩
  · have H := H.2 c
    show RR 0 2 mX5_mayBeDeed 7 [(0, .int x0)] [.int 0] σ _
    exact RR.zret dX5_mayBeDeed_7 rfl (by decide) ⟨_, rfl, H⟩
theorem kb_X5_mayBeDeed {σ : r_St} {Q : Option Value → r_St → Prop} {x0 : Int32} (h1 : IN x0 0 7 → Q (some (.int 1)) σ) (h0 : ¬ IN x0 0 7 → Q (some (.int 0)) σ) : RR 0 2 mX5_mayBeDeed 0 (lv_args 0 [.int x0]) [] σ Q := by
  refine RR.toI (K := fun v σ' => Q (some (.int v)) σ') (b_X5_mayBeDeed ?_) (fun v σ' h => h)
  exact ⟨h1, h0⟩
def M_X5_isSheet (σ : r_St) (K : Int32 → r_St → Prop) (x0 : Int32) : Prop := RR 0 2 mX5_isSheet 0 (lv_args 0 [.int x0]) [] σ (rI K)
set_option maxRecDepth 20000 in
theorem b_X5_isSheet {σ : r_St} {K : Int32 → r_St → Prop} {x0 : Int32}  (H : (IN x0 0 3 → K 1 σ) ∧ (¬ IN x0 0 3 → K 0 σ)) : M_X5_isSheet σ K x0 := by
  show RR 0 2 mX5_isSheet 0 [(0, .int x0)] [] σ (rI K)
  refine RR.s2 (pc' := 1) (lv' := [(0, .int x0)]) (st' := [.int x0]) dX5_isSheet_0 rfl ?_
  refine RR.ic (v := 0) dX5_isSheet_1 (by decide) ?_
  refine RR.ic (v := 3) dX5_isSheet_2 (by decide) ?_
  refine RR.cS dX5_isSheet_3 ml_X5_71 (as := [.int x0, .int 0, .int 3]) (rest := []) rfl rfl (Nat.le_of_ble_eq_true rfl) (Nat.le_of_ble_eq_true rfl) (by decide) (kb_X5_within (fun c => ?_) (fun c => ?_))
  · have H := H.1 c
    show RR 0 2 mX5_isSheet 6 [(0, .int x0)] [.int 1] σ _
    exact RR.zret dX5_isSheet_6 rfl (by decide) ⟨_, rfl, H⟩
  · have H := H.2 c
    show RR 0 2 mX5_isSheet 6 [(0, .int x0)] [.int 0] σ _
    exact RR.zret dX5_isSheet_6 rfl (by decide) ⟨_, rfl, H⟩
theorem kb_X5_isSheet {σ : r_St} {Q : Option Value → r_St → Prop} {x0 : Int32} (h1 : IN x0 0 3 → Q (some (.int 1)) σ) (h0 : ¬ IN x0 0 3 → Q (some (.int 0)) σ) : RR 0 2 mX5_isSheet 0 (lv_args 0 [.int x0]) [] σ Q := by
  refine RR.toI (K := fun v σ' => Q (some (.int v)) σ') (b_X5_isSheet ?_) (fun v σ' h => h)
  exact ⟨h1, h0⟩
def M_X5_isForm (σ : r_St) (K : Int32 → r_St → Prop) (x0 : Int32) : Prop := RR 0 2 mX5_isForm 0 (lv_args 0 [.int x0]) [] σ (rI K)
set_option maxRecDepth 20000 in
theorem b_X5_isForm {σ : r_St} {K : Int32 → r_St → Prop} {x0 : Int32}  (H : (IN x0 0 2 → K 1 σ) ∧ (¬ IN x0 0 2 → K 0 σ)) : M_X5_isForm σ K x0 := by
  show RR 0 2 mX5_isForm 0 [(0, .int x0)] [] σ (rI K)
  refine RR.s2 (pc' := 1) (lv' := [(0, .int x0)]) (st' := [.int x0]) dX5_isForm_0 rfl ?_
  refine RR.ic (v := 0) dX5_isForm_1 (by decide) ?_
  refine RR.ic (v := 2) dX5_isForm_2 (by decide) ?_
  refine RR.cS dX5_isForm_3 ml_X5_71 (as := [.int x0, .int 0, .int 2]) (rest := []) rfl rfl (Nat.le_of_ble_eq_true rfl) (Nat.le_of_ble_eq_true rfl) (by decide) (kb_X5_within (fun c => ?_) (fun c => ?_))
  · have H := H.1 c
    show RR 0 2 mX5_isForm 6 [(0, .int x0)] [.int 1] σ _
    exact RR.zret dX5_isForm_6 rfl (by decide) ⟨_, rfl, H⟩
  · have H := H.2 c
    show RR 0 2 mX5_isForm 6 [(0, .int x0)] [.int 0] σ _
    exact RR.zret dX5_isForm_6 rfl (by decide) ⟨_, rfl, H⟩
theorem kb_X5_isForm {σ : r_St} {Q : Option Value → r_St → Prop} {x0 : Int32} (h1 : IN x0 0 2 → Q (some (.int 1)) σ) (h0 : ¬ IN x0 0 2 → Q (some (.int 0)) σ) : RR 0 2 mX5_isForm 0 (lv_args 0 [.int x0]) [] σ Q := by
  refine RR.toI (K := fun v σ' => Q (some (.int v)) σ') (b_X5_isForm ?_) (fun v σ' h => h)
  exact ⟨h1, h0⟩
def M_X6_in (σ : r_St) (K : Int32 → r_St → Prop) (x0 : Int32) (x1 : Int32) (x2 : Int32) : Prop := RR 1 1 mX6_in 0 (lv_args 0 [.int x0, .int x1, .int x2]) [] σ (rI K)
set_option maxRecDepth 20000 in
theorem b_X6_in {σ : r_St} {K : Int32 → r_St → Prop} {x0 : Int32} {x1 : Int32} {x2 : Int32}  (H : (x0 < x1 → K 0 σ) ∧ (¬ (x0 < x1) → ((x2 < x0 → K 0 σ) ∧ (¬ (x2 < x0) → K 1 σ)))) : M_X6_in σ K x0 x1 x2 := by
  show RR 1 1 mX6_in 0 [(0, .int x0), (1, .int x1), (2, .int x2)] [] σ (rI K)
  refine RR.s2 (pc' := 1) (lv' := [(0, .int x0), (1, .int x1), (2, .int x2)]) (st' := [.int x0]) dX6_in_0 rfl ?_
  refine RR.s2 (pc' := 2) (lv' := [(0, .int x0), (1, .int x1), (2, .int x2)]) (st' := [.int x1, .int x0]) dX6_in_1 rfl ?_
  refine RR.br dX6_in_2 rfl (fun c => ?_) (fun c => ?_)
  · have H := H.1 c
    refine RR.ic (v := 0) dX6_in_14 (by decide) ?_
    exact RR.zret dX6_in_15 rfl (by decide) ⟨_, rfl, H⟩
  · have H := H.2 c
    refine RR.s2 (pc' := 6) (lv' := [(0, .int x0), (1, .int x1), (2, .int x2)]) (st' := [.int x0]) dX6_in_5 rfl ?_
    refine RR.s2 (pc' := 7) (lv' := [(0, .int x0), (1, .int x1), (2, .int x2)]) (st' := [.int x2, .int x0]) dX6_in_6 rfl ?_
    refine RR.br dX6_in_7 rfl (fun c => ?_) (fun c => ?_)
    · have H := H.1 c
      refine RR.ic (v := 0) dX6_in_14 (by decide) ?_
      exact RR.zret dX6_in_15 rfl (by decide) ⟨_, rfl, H⟩
    · have H := H.2 c
      refine RR.ic (v := 1) dX6_in_10 (by decide) ?_
      refine RR.s2 (pc' := 15) (lv' := [(0, .int x0), (1, .int x1), (2, .int x2)]) (st' := [.int 1]) dX6_in_11 rfl ?_
      exact RR.zret dX6_in_15 rfl (by decide) ⟨_, rfl, H⟩
theorem kb_X6_in {σ : r_St} {Q : Option Value → r_St → Prop} {x0 : Int32} {x1 : Int32} {x2 : Int32} (h1 : IN x0 x1 x2 → Q (some (.int 1)) σ) (h0 : ¬ IN x0 x1 x2 → Q (some (.int 0)) σ) : RR 1 1 mX6_in 0 (lv_args 0 [.int x0, .int x1, .int x2]) [] σ Q := by
  refine RR.toI (K := fun v σ' => Q (some (.int v)) σ') (b_X6_in ?_) (fun v σ' h => h)
  exact ⟨fun c => h0 (fun g => Int32.not_lt.mpr g.1 c), fun c => ⟨fun c2 => h0 (fun g => Int32.not_lt.mpr g.2 c2), fun c2 => h1 ⟨Int32.not_lt.mp c, Int32.not_lt.mp c2⟩⟩⟩
def M_X6_isDay (σ : r_St) (K : Int32 → r_St → Prop) (x0 : Int32) : Prop := RR 1 2 mX6_isDay 0 (lv_args 0 [.int x0]) [] σ (rI K)
set_option maxRecDepth 20000 in
theorem b_X6_isDay {σ : r_St} {K : Int32 → r_St → Prop} {x0 : Int32}  (H : (IN x0 0 39 → K 1 σ) ∧ (¬ IN x0 0 39 → K 0 σ)) : M_X6_isDay σ K x0 := by
  show RR 1 2 mX6_isDay 0 [(0, .int x0)] [] σ (rI K)
  refine RR.s2 (pc' := 1) (lv' := [(0, .int x0)]) (st' := [.int x0]) dX6_isDay_0 rfl ?_
  refine RR.ic (v := 0) dX6_isDay_1 (by decide) ?_
  refine RR.bp (v := 39) dX6_isDay_2 (by decide) ?_
  refine RR.cS dX6_isDay_4 ml_X6_106 (as := [.int x0, .int 0, .int 39]) (rest := []) rfl rfl (Nat.le_of_ble_eq_true rfl) (Nat.le_of_ble_eq_true rfl) (by decide) (kb_X6_in (fun c => ?_) (fun c => ?_))
  · have H := H.1 c
    show RR 1 2 mX6_isDay 7 [(0, .int x0)] [.int 1] σ _
    exact RR.zret dX6_isDay_7 rfl (by decide) ⟨_, rfl, H⟩
  · have H := H.2 c
    show RR 1 2 mX6_isDay 7 [(0, .int x0)] [.int 0] σ _
    exact RR.zret dX6_isDay_7 rfl (by decide) ⟨_, rfl, H⟩
theorem kb_X6_isDay {σ : r_St} {Q : Option Value → r_St → Prop} {x0 : Int32} (h1 : IN x0 0 39 → Q (some (.int 1)) σ) (h0 : ¬ IN x0 0 39 → Q (some (.int 0)) σ) : RR 1 2 mX6_isDay 0 (lv_args 0 [.int x0]) [] σ Q := by
  refine RR.toI (K := fun v σ' => Q (some (.int v)) σ') (b_X6_isDay ?_) (fun v σ' h => h)
  exact ⟨h1, h0⟩
def M_X6_isEight (σ : r_St) (K : Int32 → r_St → Prop) (x0 : Int32) : Prop := RR 1 2 mX6_isEight 0 (lv_args 0 [.int x0]) [] σ (rI K)
set_option maxRecDepth 20000 in
theorem b_X6_isEight {σ : r_St} {K : Int32 → r_St → Prop} {x0 : Int32}  (H : (IN x0 0 7 → K 1 σ) ∧ (¬ IN x0 0 7 → K 0 σ)) : M_X6_isEight σ K x0 := by
  show RR 1 2 mX6_isEight 0 [(0, .int x0)] [] σ (rI K)
  refine RR.s2 (pc' := 1) (lv' := [(0, .int x0)]) (st' := [.int x0]) dX6_isEight_0 rfl ?_
  refine RR.ic (v := 0) dX6_isEight_1 (by decide) ?_
  refine RR.bp (v := 7) dX6_isEight_2 (by decide) ?_
  refine RR.cS dX6_isEight_4 ml_X6_106 (as := [.int x0, .int 0, .int 7]) (rest := []) rfl rfl (Nat.le_of_ble_eq_true rfl) (Nat.le_of_ble_eq_true rfl) (by decide) (kb_X6_in (fun c => ?_) (fun c => ?_))
  · have H := H.1 c
    show RR 1 2 mX6_isEight 7 [(0, .int x0)] [.int 1] σ _
    exact RR.zret dX6_isEight_7 rfl (by decide) ⟨_, rfl, H⟩
  · have H := H.2 c
    show RR 1 2 mX6_isEight 7 [(0, .int x0)] [.int 0] σ _
    exact RR.zret dX6_isEight_7 rfl (by decide) ⟨_, rfl, H⟩
theorem kb_X6_isEight {σ : r_St} {Q : Option Value → r_St → Prop} {x0 : Int32} (h1 : IN x0 0 7 → Q (some (.int 1)) σ) (h0 : ¬ IN x0 0 7 → Q (some (.int 0)) σ) : RR 1 2 mX6_isEight 0 (lv_args 0 [.int x0]) [] σ Q := by
  refine RR.toI (K := fun v σ' => Q (some (.int v)) σ') (b_X6_isEight ?_) (fun v σ' h => h)
  exact ⟨h1, h0⟩
def M_X6_isTwo (σ : r_St) (K : Int32 → r_St → Prop) (x0 : Int32) : Prop := RR 1 2 mX6_isTwo 0 (lv_args 0 [.int x0]) [] σ (rI K)
set_option maxRecDepth 20000 in
theorem b_X6_isTwo {σ : r_St} {K : Int32 → r_St → Prop} {x0 : Int32}  (H : (IN x0 0 1 → K 1 σ) ∧ (¬ IN x0 0 1 → K 0 σ)) : M_X6_isTwo σ K x0 := by
  show RR 1 2 mX6_isTwo 0 [(0, .int x0)] [] σ (rI K)
  refine RR.s2 (pc' := 1) (lv' := [(0, .int x0)]) (st' := [.int x0]) dX6_isTwo_0 rfl ?_
  refine RR.ic (v := 0) dX6_isTwo_1 (by decide) ?_
  refine RR.ic (v := 1) dX6_isTwo_2 (by decide) ?_
  refine RR.cS dX6_isTwo_3 ml_X6_106 (as := [.int x0, .int 0, .int 1]) (rest := []) rfl rfl (Nat.le_of_ble_eq_true rfl) (Nat.le_of_ble_eq_true rfl) (by decide) (kb_X6_in (fun c => ?_) (fun c => ?_))
  · have H := H.1 c
    show RR 1 2 mX6_isTwo 6 [(0, .int x0)] [.int 1] σ _
    exact RR.zret dX6_isTwo_6 rfl (by decide) ⟨_, rfl, H⟩
  · have H := H.2 c
    show RR 1 2 mX6_isTwo 6 [(0, .int x0)] [.int 0] σ _
    exact RR.zret dX6_isTwo_6 rfl (by decide) ⟨_, rfl, H⟩
theorem kb_X6_isTwo {σ : r_St} {Q : Option Value → r_St → Prop} {x0 : Int32} (h1 : IN x0 0 1 → Q (some (.int 1)) σ) (h0 : ¬ IN x0 0 1 → Q (some (.int 0)) σ) : RR 1 2 mX6_isTwo 0 (lv_args 0 [.int x0]) [] σ Q := by
  refine RR.toI (K := fun v σ' => Q (some (.int v)) σ') (b_X6_isTwo ?_) (fun v σ' h => h)
  exact ⟨h1, h0⟩
def M_X6_isSheet (σ : r_St) (K : Int32 → r_St → Prop) (x0 : Int32) : Prop := RR 1 2 mX6_isSheet 0 (lv_args 0 [.int x0]) [] σ (rI K)
set_option maxRecDepth 20000 in
theorem b_X6_isSheet {σ : r_St} {K : Int32 → r_St → Prop} {x0 : Int32}  (H : (IN x0 0 3 → K 1 σ) ∧ (¬ IN x0 0 3 → K 0 σ)) : M_X6_isSheet σ K x0 := by
  show RR 1 2 mX6_isSheet 0 [(0, .int x0)] [] σ (rI K)
  refine RR.s2 (pc' := 1) (lv' := [(0, .int x0)]) (st' := [.int x0]) dX6_isSheet_0 rfl ?_
  refine RR.ic (v := 0) dX6_isSheet_1 (by decide) ?_
  refine RR.ic (v := 3) dX6_isSheet_2 (by decide) ?_
  refine RR.cS dX6_isSheet_3 ml_X6_106 (as := [.int x0, .int 0, .int 3]) (rest := []) rfl rfl (Nat.le_of_ble_eq_true rfl) (Nat.le_of_ble_eq_true rfl) (by decide) (kb_X6_in (fun c => ?_) (fun c => ?_))
  · have H := H.1 c
    show RR 1 2 mX6_isSheet 6 [(0, .int x0)] [.int 1] σ _
    exact RR.zret dX6_isSheet_6 rfl (by decide) ⟨_, rfl, H⟩
  · have H := H.2 c
    show RR 1 2 mX6_isSheet 6 [(0, .int x0)] [.int 0] σ _
    exact RR.zret dX6_isSheet_6 rfl (by decide) ⟨_, rfl, H⟩
theorem kb_X6_isSheet {σ : r_St} {Q : Option Value → r_St → Prop} {x0 : Int32} (h1 : IN x0 0 3 → Q (some (.int 1)) σ) (h0 : ¬ IN x0 0 3 → Q (some (.int 0)) σ) : RR 1 2 mX6_isSheet 0 (lv_args 0 [.int x0]) [] σ Q := by
  refine RR.toI (K := fun v σ' => Q (some (.int v)) σ') (b_X6_isSheet ?_) (fun v σ' h => h)
  exact ⟨h1, h0⟩
