/-! ===== block lemmas (written by mk.py) ===== -/
set_option maxRecDepth 20000 in
theorem b_X6_allowed {σ : r_St} {K : Int32 → r_St → Prop} {x1 : Int32}  (H : (IN x1 0 39 → M_X6_allowedOf σ (fun v2 s1 => K v2 s1) x1) ∧ (¬ IN x1 0 39 → K (-2) σ)) : M_X6_allowed σ K x1 := by
  show RR 1 6 mX6_allowed 0 [(0, .ref 0), (1, .int x1)] [] σ (rI K)
  refine RR.s2 (pc' := 1) (lv' := [(0, .ref 0), (1, .int x1)]) (st' := [.int x1]) dX6_allowed_0 rfl ?_
  refine RR.cS dX6_allowed_1 ml_X6_151 (as := [.int x1]) (rest := []) rfl rfl (Nat.le_of_ble_eq_true rfl) (Nat.le_of_ble_eq_true rfl) (by decide) (kb_X6_isDay (fun c => ?_) (fun c => ?_))
  · have H := H.1 c
    show RR 1 6 mX6_allowed 4 [(0, .ref 0), (1, .int x1)] [.int 1] σ _
    refine RR.brF dX6_allowed_4 rfl (by decide) ?_
    refine RR.s2 (pc' := 8) (lv' := [(0, .ref 0), (1, .int x1)]) (st' := [.ref 0]) dX6_allowed_7 rfl ?_
    refine RR.s2 (pc' := 9) (lv' := [(0, .ref 0), (1, .int x1)]) (st' := [.int x1, .ref 0]) dX6_allowed_8 rfl ?_
    refine RR.cV dX6_allowed_9 ml_X6_200 rfl rfl (as := [.int x1]) (rest := []) rfl rfl (Nat.le_of_ble_eq_true rfl) (Nat.le_of_ble_eq_true rfl) (by decide) (RR.toI H (fun v2 s1 H => ?_))
    show RR 1 6 mX6_allowed 12 [(0, .ref 0), (1, .int x1)] [.int v2] s1 _
    refine RR.s2 (pc' := 17) (lv' := [(0, .ref 0), (1, .int x1)]) (st' := [.int v2]) dX6_allowed_12 rfl ?_
    exact RR.iret dX6_allowed_17 rfl ⟨_, rfl, H⟩
  · have H := H.2 c
    show RR 1 6 mX6_allowed 4 [(0, .ref 0), (1, .int x1)] [.int 0] σ _
    refine RR.brT dX6_allowed_4 rfl (by decide) ?_
    refine RR.bp (v := (-2)) dX6_allowed_15 (by decide) ?_
    exact RR.iret dX6_allowed_17 rfl ⟨_, rfl, H⟩
set_option maxRecDepth 20000 in
theorem b_X6_neverNow {σ : r_St} {K : Int32 → r_St → Prop}  (H : M_X6_laysTold σ (fun s1 => R_X6_neverNow_8 s1 K 0 0)) : M_X6_neverNow σ K := by
  show RR 1 5 mX6_neverNow 0 [(0, .ref 0)] [] σ (rI K)
  refine RR.s2 (pc' := 1) (lv' := [(0, .ref 0)]) (st' := [.ref 0]) dX6_neverNow_0 rfl ?_
  refine RR.cV dX6_neverNow_1 ml_X6_194 rfl rfl (as := []) (rest := []) rfl rfl (Nat.le_of_ble_eq_true rfl) (Nat.le_of_ble_eq_true rfl) (by decide) (RR.toV H (fun s1 H => ?_))
  show RR 1 5 mX6_neverNow 4 [(0, .ref 0)] [] s1 _
  refine RR.ic (v := 0) dX6_neverNow_4 (by decide) ?_
  refine RR.s2 (pc' := 6) (lv' := [(0, .ref 0), (1, .int 0)]) (st' := []) dX6_neverNow_5 rfl ?_
  refine RR.ic (v := 0) dX6_neverNow_6 (by decide) ?_
  refine RR.s2 (pc' := 8) (lv' := [(0, .ref 0), (1, .int 0), (2, .int 0)]) (st' := []) dX6_neverNow_7 rfl ?_
  exact RR.cut [0, 1, 2] rfl H
set_option maxRecDepth 20000 in
theorem b_X6_neverNow_8 {σ : r_St} {K : Int32 → r_St → Prop} {x1 : Int32} {x2 : Int32}  (H : (40 ≤ x2 → K (((sl 1 (σ.1 0 2)) - 1) &&& (x1 ^^^ (-1))) σ) ∧ (¬ (40 ≤ x2) → (∃ j1 : Nat, x2 = nI j1 ∧ j1 < 40 ∧ R_X6_neverNow_8 σ K (x1 ||| (σ.1 16 j1)) (x2 + 1)))) : R_X6_neverNow_8 σ K x1 x2 := by
  show RR 1 5 mX6_neverNow 8 [(0, .ref 0), (1, .int x1), (2, .int x2)] [] σ (rI K)
  refine RR.s2 (pc' := 9) (lv' := [(0, .ref 0), (1, .int x1), (2, .int x2)]) (st' := [.int x2]) dX6_neverNow_8 rfl ?_
  refine RR.bp (v := 40) dX6_neverNow_9 (by decide) ?_
  refine RR.br dX6_neverNow_11 rfl (fun c => ?_) (fun c => ?_)
  · have H := H.1 c
    refine RR.s2 (pc' := 30) (lv' := [(0, .ref 0), (1, .int x1), (2, .int x2)]) (st' := [.ref 0]) dX6_neverNow_29 rfl ?_
    refine RR.cV (d' := 1) dX6_neverNow_30 ml_X6_182 rfl rfl (as := []) (rest := []) rfl rfl (Nat.le_of_ble_eq_true rfl) (Nat.le_of_ble_eq_true rfl) (by decide) ?_
    show RR 1 1 mX6_allDeeds 0 [(0, .ref 0)] [] σ _
    refine RR.ic (v := 1) dX6_allDeeds_0 (by decide) ?_
    refine RR.s2 (pc' := 2) (lv' := [(0, .ref 0)]) (st' := [.ref 0, .int 1]) dX6_allDeeds_1 rfl ?_
    refine RR.getI dX6_allDeeds_2 fl_X6_114 rfl rfl ?_
    refine RR.s2 (pc' := 6) (lv' := [(0, .ref 0)]) (st' := [.int (sl 1 (σ.1 0 2))]) dX6_allDeeds_5 rfl ?_
    refine RR.ic (v := 1) dX6_allDeeds_6 (by decide) ?_
    refine RR.s2 (pc' := 8) (lv' := [(0, .ref 0)]) (st' := [.int ((sl 1 (σ.1 0 2)) - 1)]) dX6_allDeeds_7 rfl ?_
    refine RR.iret dX6_allDeeds_8 rfl ?_
    show RR 1 5 mX6_neverNow 33 [(0, .ref 0), (1, .int x1), (2, .int x2)] [.int ((sl 1 (σ.1 0 2)) - 1)] σ _
    refine RR.s2 (pc' := 34) (lv' := [(0, .ref 0), (1, .int x1), (2, .int x2)]) (st' := [.int x1, .int ((sl 1 (σ.1 0 2)) - 1)]) dX6_neverNow_33 rfl ?_
    refine RR.ic (v := (-1)) dX6_neverNow_34 (by decide) ?_
    refine RR.s2 (pc' := 36) (lv' := [(0, .ref 0), (1, .int x1), (2, .int x2)]) (st' := [.int (x1 ^^^ (-1)), .int ((sl 1 (σ.1 0 2)) - 1)]) dX6_neverNow_35 rfl ?_
    refine RR.s2 (pc' := 37) (lv' := [(0, .ref 0), (1, .int x1), (2, .int x2)]) (st' := [.int (((sl 1 (σ.1 0 2)) - 1) &&& (x1 ^^^ (-1)))]) dX6_neverNow_36 rfl ?_
    exact RR.iret dX6_neverNow_37 rfl ⟨_, rfl, H⟩
  · have H := H.2 c
    refine RR.s2 (pc' := 15) (lv' := [(0, .ref 0), (1, .int x1), (2, .int x2)]) (st' := [.int x1]) dX6_neverNow_14 rfl ?_
    refine RR.s2 (pc' := 16) (lv' := [(0, .ref 0), (1, .int x1), (2, .int x2)]) (st' := [.ref 0, .int x1]) dX6_neverNow_15 rfl ?_
    refine RR.getR dX6_neverNow_16 fl_X6_55 rfl rfl ?_
    refine RR.s2 (pc' := 20) (lv' := [(0, .ref 0), (1, .int x1), (2, .int x2)]) (st' := [.int x2, .ref 16, .int x1]) dX6_neverNow_19 rfl ?_
    obtain ⟨j1, e2, b3, H⟩ := H
    refine RR.iald dX6_neverNow_20 rfl e2 b3 ?_
    refine RR.s2 (pc' := 22) (lv' := [(0, .ref 0), (1, .int x1), (2, .int x2)]) (st' := [.int (x1 ||| (σ.1 16 j1))]) dX6_neverNow_21 rfl ?_
    refine RR.s2 (pc' := 23) (lv' := [(0, .ref 0), (1, .int (x1 ||| (σ.1 16 j1))), (2, .int x2)]) (st' := []) dX6_neverNow_22 rfl ?_
    refine RR.inc (c := 1) (lv' := [(0, .ref 0), (1, .int (x1 ||| (σ.1 16 j1))), (2, .int (x2 + 1))]) dX6_neverNow_23 rfl (by decide) (by decide) rfl ?_
    refine RR.s2 (pc' := 8) (lv' := [(0, .ref 0), (1, .int (x1 ||| (σ.1 16 j1))), (2, .int (x2 + 1))]) (st' := []) dX6_neverNow_26 rfl ?_
    exact RR.cut [0, 1, 2] rfl H
set_option maxRecDepth 20000 in
theorem b_X6_never {σ : r_St} {K : Int32 → r_St → Prop}  (H : M_X6_neverNow σ (fun v2 s1 => K v2 s1)) : M_X6_never σ K := by
  show RR 1 6 mX6_never 0 [(0, .ref 0)] [] σ (rI K)
  refine RR.s2 (pc' := 1) (lv' := [(0, .ref 0)]) (st' := [.ref 0]) dX6_never_0 rfl ?_
  refine RR.cV dX6_never_1 ml_X6_203 rfl rfl (as := []) (rest := []) rfl rfl (Nat.le_of_ble_eq_true rfl) (Nat.le_of_ble_eq_true rfl) (by decide) (RR.toI H (fun v2 s1 H => ?_))
  show RR 1 6 mX6_never 4 [(0, .ref 0)] [.int v2] s1 _
  exact RR.iret dX6_never_4 rfl ⟨_, rfl, H⟩
set_option maxRecDepth 20000 in
theorem b_X6_alikeNow {σ : r_St} {K : Int32 → r_St → Prop}  (H : M_X6_laysTold σ (fun s1 => R_X6_alikeNow_6 s1 K 0)) : M_X6_alikeNow σ K := by
  show RR 1 5 mX6_alikeNow 0 [(0, .ref 0)] [] σ (rI K)
  refine RR.s2 (pc' := 1) (lv' := [(0, .ref 0)]) (st' := [.ref 0]) dX6_alikeNow_0 rfl ?_
  refine RR.cV dX6_alikeNow_1 ml_X6_194 rfl rfl (as := []) (rest := []) rfl rfl (Nat.le_of_ble_eq_true rfl) (Nat.le_of_ble_eq_true rfl) (by decide) (RR.toV H (fun s1 H => ?_))
  show RR 1 5 mX6_alikeNow 4 [(0, .ref 0)] [] s1 _
  refine RR.ic (v := 0) dX6_alikeNow_4 (by decide) ?_
  refine RR.s2 (pc' := 6) (lv' := [(0, .ref 0), (1, .int 0)]) (st' := []) dX6_alikeNow_5 rfl ?_
  exact RR.cut [0, 1] rfl H
set_option maxRecDepth 20000 in
theorem b_X6_alikeNow_6 {σ : r_St} {K : Int32 → r_St → Prop} {x1 : Int32}  (H : (40 ≤ x1 → R_X6_alikeNow_36 σ K x1) ∧ (¬ (40 ≤ x1) → (∃ j1 : Nat, x1 = nI j1 ∧ j1 < 80 ∧ (∃ j4 : Nat, 40 + x1 = nI j4 ∧ j4 < 80 ∧ ((σ.1 15 j1 = σ.1 15 j4 → R_X6_alikeNow_36 σ K x1) ∧ (¬ (σ.1 15 j1 = σ.1 15 j4) → R_X6_alikeNow_6 σ K (x1 + 1))))))) : R_X6_alikeNow_6 σ K x1 := by
  show RR 1 5 mX6_alikeNow 6 [(0, .ref 0), (1, .int x1)] [] σ (rI K)
  refine RR.s2 (pc' := 7) (lv' := [(0, .ref 0), (1, .int x1)]) (st' := [.int x1]) dX6_alikeNow_6 rfl ?_
  refine RR.bp (v := 40) dX6_alikeNow_7 (by decide) ?_
  refine RR.br dX6_alikeNow_9 rfl (fun c => ?_) (fun c => ?_)
  · have H := H.1 c
    exact RR.cut [1] rfl H
  · have H := H.2 c
    refine RR.s2 (pc' := 13) (lv' := [(0, .ref 0), (1, .int x1)]) (st' := [.ref 0]) dX6_alikeNow_12 rfl ?_
    refine RR.getR dX6_alikeNow_13 fl_X6_52 rfl rfl ?_
    refine RR.s2 (pc' := 17) (lv' := [(0, .ref 0), (1, .int x1)]) (st' := [.int x1, .ref 15]) dX6_alikeNow_16 rfl ?_
    obtain ⟨j1, e2, b3, H⟩ := H
    refine RR.iald dX6_alikeNow_17 rfl e2 b3 ?_
    refine RR.s2 (pc' := 19) (lv' := [(0, .ref 0), (1, .int x1)]) (st' := [.ref 0, .int (σ.1 15 j1)]) dX6_alikeNow_18 rfl ?_
    refine RR.getR dX6_alikeNow_19 fl_X6_52 rfl rfl ?_
    refine RR.bp (v := 40) dX6_alikeNow_22 (by decide) ?_
    refine RR.s2 (pc' := 25) (lv' := [(0, .ref 0), (1, .int x1)]) (st' := [.int x1, .int 40, .ref 15, .int (σ.1 15 j1)]) dX6_alikeNow_24 rfl ?_
    refine RR.s2 (pc' := 26) (lv' := [(0, .ref 0), (1, .int x1)]) (st' := [.int (40 + x1), .ref 15, .int (σ.1 15 j1)]) dX6_alikeNow_25 rfl ?_
    obtain ⟨j4, e5, b6, H⟩ := H
    refine RR.iald dX6_alikeNow_26 rfl e5 b6 ?_
    refine RR.br dX6_alikeNow_27 rfl (fun c => ?_) (fun c => ?_)
    · have H := H.1 c
      exact RR.cut [1] rfl H
    · have H := H.2 c
      refine RR.inc (c := 1) (lv' := [(0, .ref 0), (1, .int (x1 + 1))]) dX6_alikeNow_30 rfl (by decide) (by decide) rfl ?_
      refine RR.s2 (pc' := 6) (lv' := [(0, .ref 0), (1, .int (x1 + 1))]) (st' := []) dX6_alikeNow_33 rfl ?_
      exact RR.cut [0, 1] rfl H
set_option maxRecDepth 20000 in
theorem b_X6_alikeNow_36 {σ : r_St} {K : Int32 → r_St → Prop} {x1 : Int32}  (H : (40 ≤ x1 → K (-1) σ) ∧ (¬ (40 ≤ x1) → K x1 σ)) : R_X6_alikeNow_36 σ K x1 := by
  show RR 1 5 mX6_alikeNow 36 [(1, .int x1)] [] σ (rI K)
  refine RR.s2 (pc' := 37) (lv' := [(1, .int x1)]) (st' := [.int x1]) dX6_alikeNow_36 rfl ?_
  refine RR.bp (v := 40) dX6_alikeNow_37 (by decide) ?_
  refine RR.br dX6_alikeNow_39 rfl (fun c => ?_) (fun c => ?_)
  · have H := H.1 c
    refine RR.ic (v := (-1)) dX6_alikeNow_46 (by decide) ?_
    exact RR.iret dX6_alikeNow_47 rfl ⟨_, rfl, H⟩
  · have H := H.2 c
    refine RR.s2 (pc' := 43) (lv' := [(1, .int x1)]) (st' := [.int x1]) dX6_alikeNow_42 rfl ?_
    refine RR.s2 (pc' := 47) (lv' := [(1, .int x1)]) (st' := [.int x1]) dX6_alikeNow_43 rfl ?_
    exact RR.iret dX6_alikeNow_47 rfl ⟨_, rfl, H⟩
set_option maxRecDepth 20000 in
theorem b_X6_alike {σ : r_St} {K : Int32 → r_St → Prop}  (H : M_X6_alikeNow σ (fun v2 s1 => K v2 s1)) : M_X6_alike σ K := by
  show RR 1 6 mX6_alike 0 [(0, .ref 0)] [] σ (rI K)
  refine RR.s2 (pc' := 1) (lv' := [(0, .ref 0)]) (st' := [.ref 0]) dX6_alike_0 rfl ?_
  refine RR.cV dX6_alike_1 ml_X6_206 rfl rfl (as := []) (rest := []) rfl rfl (Nat.le_of_ble_eq_true rfl) (Nat.le_of_ble_eq_true rfl) (by decide) (RR.toI H (fun v2 s1 H => ?_))
  show RR 1 6 mX6_alike 4 [(0, .ref 0)] [.int v2] s1 _
  exact RR.iret dX6_alike_4 rfl ⟨_, rfl, H⟩
set_option maxRecDepth 20000 in
theorem b_X6_crossingOf {σ : r_St} {K : Int32 → r_St → Prop} {x1 : Int32}  (H : M_X6_laysTold σ (fun s1 => R_X6_crossingOf_8 s1 K x1 0 0)) : M_X6_crossingOf σ K x1 := by
  show RR 1 5 mX6_crossingOf 0 [(0, .ref 0), (1, .int x1)] [] σ (rI K)
  refine RR.s2 (pc' := 1) (lv' := [(0, .ref 0), (1, .int x1)]) (st' := [.ref 0]) dX6_crossingOf_0 rfl ?_
  refine RR.cV dX6_crossingOf_1 ml_X6_194 rfl rfl (as := []) (rest := []) rfl rfl (Nat.le_of_ble_eq_true rfl) (Nat.le_of_ble_eq_true rfl) (by decide) (RR.toV H (fun s1 H => ?_))
  show RR 1 5 mX6_crossingOf 4 [(0, .ref 0), (1, .int x1)] [] s1 _
  refine RR.ic (v := 0) dX6_crossingOf_4 (by decide) ?_
  refine RR.s2 (pc' := 6) (lv' := [(0, .ref 0), (1, .int x1), (2, .int 0)]) (st' := []) dX6_crossingOf_5 rfl ?_
  refine RR.ic (v := 0) dX6_crossingOf_6 (by decide) ?_
  refine RR.s2 (pc' := 8) (lv' := [(0, .ref 0), (1, .int x1), (2, .int 0), (3, .int 0)]) (st' := []) dX6_crossingOf_7 rfl ?_
  exact RR.cut [0, 1, 2, 3] rfl H
set_option maxRecDepth 20000 in
theorem b_X6_crossingOf_8 {σ : r_St} {K : Int32 → r_St → Prop} {x1 : Int32} {x2 : Int32} {x3 : Int32}  (H : (32 ≤ x3 → K x2 σ) ∧ (¬ (32 ≤ x3) → (∃ j1 : Nat, x3 = nI j1 ∧ j1 < 40 ∧ (∃ j4 : Nat, x3 + 1 = nI j4 ∧ j4 < 40 ∧ ((¬ (sr ((σ.1 16 j1) &&& (σ.1 16 j4)) x1) &&& 1 = 1 → R_X6_crossingOf_8 σ K x1 (x2 ||| 0) (x3 + 1)) ∧ ((sr ((σ.1 16 j1) &&& (σ.1 16 j4)) x1) &&& 1 = 1 → R_X6_crossingOf_8 σ K x1 (x2 ||| (sl 1 x3)) (x3 + 1))))))) : R_X6_crossingOf_8 σ K x1 x2 x3 := by
  show RR 1 5 mX6_crossingOf 8 [(0, .ref 0), (1, .int x1), (2, .int x2), (3, .int x3)] [] σ (rI K)
  refine RR.s2 (pc' := 9) (lv' := [(0, .ref 0), (1, .int x1), (2, .int x2), (3, .int x3)]) (st' := [.int x3]) dX6_crossingOf_8 rfl ?_
  refine RR.bp (v := 32) dX6_crossingOf_9 (by decide) ?_
  refine RR.br dX6_crossingOf_11 rfl (fun c => ?_) (fun c => ?_)
  · have H := H.1 c
    refine RR.s2 (pc' := 53) (lv' := [(0, .ref 0), (1, .int x1), (2, .int x2), (3, .int x3)]) (st' := [.int x2]) dX6_crossingOf_52 rfl ?_
    exact RR.iret dX6_crossingOf_53 rfl ⟨_, rfl, H⟩
  · have H := H.2 c
    refine RR.s2 (pc' := 15) (lv' := [(0, .ref 0), (1, .int x1), (2, .int x2), (3, .int x3)]) (st' := [.int x2]) dX6_crossingOf_14 rfl ?_
    refine RR.s2 (pc' := 16) (lv' := [(0, .ref 0), (1, .int x1), (2, .int x2), (3, .int x3)]) (st' := [.ref 0, .int x2]) dX6_crossingOf_15 rfl ?_
    refine RR.getR dX6_crossingOf_16 fl_X6_55 rfl rfl ?_
    refine RR.s2 (pc' := 20) (lv' := [(0, .ref 0), (1, .int x1), (2, .int x2), (3, .int x3)]) (st' := [.int x3, .ref 16, .int x2]) dX6_crossingOf_19 rfl ?_
    obtain ⟨j1, e2, b3, H⟩ := H
    refine RR.iald dX6_crossingOf_20 rfl e2 b3 ?_
    refine RR.s2 (pc' := 22) (lv' := [(0, .ref 0), (1, .int x1), (2, .int x2), (3, .int x3)]) (st' := [.ref 0, .int (σ.1 16 j1), .int x2]) dX6_crossingOf_21 rfl ?_
    refine RR.getR dX6_crossingOf_22 fl_X6_55 rfl rfl ?_
    refine RR.s2 (pc' := 26) (lv' := [(0, .ref 0), (1, .int x1), (2, .int x2), (3, .int x3)]) (st' := [.int x3, .ref 16, .int (σ.1 16 j1), .int x2]) dX6_crossingOf_25 rfl ?_
    refine RR.ic (v := 1) dX6_crossingOf_26 (by decide) ?_
    refine RR.s2 (pc' := 28) (lv' := [(0, .ref 0), (1, .int x1), (2, .int x2), (3, .int x3)]) (st' := [.int (x3 + 1), .ref 16, .int (σ.1 16 j1), .int x2]) dX6_crossingOf_27 rfl ?_
    obtain ⟨j4, e5, b6, H⟩ := H
    refine RR.iald dX6_crossingOf_28 rfl e5 b6 ?_
    refine RR.s2 (pc' := 30) (lv' := [(0, .ref 0), (1, .int x1), (2, .int x2), (3, .int x3)]) (st' := [.int ((σ.1 16 j1) &&& (σ.1 16 j4)), .int x2]) dX6_crossingOf_29 rfl ?_
    refine RR.s2 (pc' := 31) (lv' := [(0, .ref 0), (1, .int x1), (2, .int x2), (3, .int x3)]) (st' := [.int x1, .int ((σ.1 16 j1) &&& (σ.1 16 j4)), .int x2]) dX6_crossingOf_30 rfl ?_
    refine RR.cS (d' := 1) dX6_crossingOf_31 ml_X6_127 (as := [.int ((σ.1 16 j1) &&& (σ.1 16 j4)), .int x1]) (rest := [.int x2]) rfl rfl (Nat.le_of_ble_eq_true rfl) (Nat.le_of_ble_eq_true rfl) (by decide) ?_
    show RR 1 1 mX6_isIn 0 [(0, .int ((σ.1 16 j1) &&& (σ.1 16 j4))), (1, .int x1)] [] σ _
    refine RR.s2 (pc' := 1) (lv' := [(0, .int ((σ.1 16 j1) &&& (σ.1 16 j4))), (1, .int x1)]) (st' := [.int ((σ.1 16 j1) &&& (σ.1 16 j4))]) dX6_isIn_0 rfl ?_
    refine RR.s2 (pc' := 2) (lv' := [(0, .int ((σ.1 16 j1) &&& (σ.1 16 j4))), (1, .int x1)]) (st' := [.int x1, .int ((σ.1 16 j1) &&& (σ.1 16 j4))]) dX6_isIn_1 rfl ?_
    refine RR.s2 (pc' := 3) (lv' := [(0, .int ((σ.1 16 j1) &&& (σ.1 16 j4))), (1, .int x1)]) (st' := [.int (sr ((σ.1 16 j1) &&& (σ.1 16 j4)) x1)]) dX6_isIn_2 rfl ?_
    refine RR.ic (v := 1) dX6_isIn_3 (by decide) ?_
    refine RR.s2 (pc' := 5) (lv' := [(0, .int ((σ.1 16 j1) &&& (σ.1 16 j4))), (1, .int x1)]) (st' := [.int ((sr ((σ.1 16 j1) &&& (σ.1 16 j4)) x1) &&& 1)]) dX6_isIn_4 rfl ?_
    refine RR.ic (v := 1) dX6_isIn_5 (by decide) ?_
    refine RR.br dX6_isIn_6 rfl (fun c => ?_) (fun c => ?_)
    · have H := H.1 c
      refine RR.ic (v := 0) dX6_isIn_13 (by decide) ?_
      refine RR.zret dX6_isIn_14 rfl (by decide) ?_
      show RR 1 5 mX6_crossingOf 34 [(0, .ref 0), (1, .int x1), (2, .int x2), (3, .int x3)] [.int 0, .int x2] σ _
      refine RR.brT dX6_crossingOf_34 rfl (by decide) ?_
      refine RR.ic (v := 0) dX6_crossingOf_43 (by decide) ?_
      refine RR.s2 (pc' := 45) (lv' := [(0, .ref 0), (1, .int x1), (2, .int x2), (3, .int x3)]) (st' := [.int (x2 ||| 0)]) dX6_crossingOf_44 rfl ?_
      refine RR.s2 (pc' := 46) (lv' := [(0, .ref 0), (1, .int x1), (2, .int (x2 ||| 0)), (3, .int x3)]) (st' := []) dX6_crossingOf_45 rfl ?_
      refine RR.inc (c := 1) (lv' := [(0, .ref 0), (1, .int x1), (2, .int (x2 ||| 0)), (3, .int (x3 + 1))]) dX6_crossingOf_46 rfl (by decide) (by decide) rfl ?_
      refine RR.s2 (pc' := 8) (lv' := [(0, .ref 0), (1, .int x1), (2, .int (x2 ||| 0)), (3, .int (x3 + 1))]) (st' := []) dX6_crossingOf_49 rfl ?_
      exact RR.cut [0, 1, 2, 3] rfl H
    · have H := H.2 (Classical.not_not.mp c)
      refine RR.ic (v := 1) dX6_isIn_9 (by decide) ?_
      refine RR.s2 (pc' := 14) (lv' := [(0, .int ((σ.1 16 j1) &&& (σ.1 16 j4))), (1, .int x1)]) (st' := [.int 1]) dX6_isIn_10 rfl ?_
      refine RR.zret dX6_isIn_14 rfl (by decide) ?_
      show RR 1 5 mX6_crossingOf 34 [(0, .ref 0), (1, .int x1), (2, .int x2), (3, .int x3)] [.int 1, .int x2] σ _
      refine RR.brF dX6_crossingOf_34 rfl (by decide) ?_
      refine RR.ic (v := 1) dX6_crossingOf_37 (by decide) ?_
      refine RR.s2 (pc' := 39) (lv' := [(0, .ref 0), (1, .int x1), (2, .int x2), (3, .int x3)]) (st' := [.int x3, .int 1, .int x2]) dX6_crossingOf_38 rfl ?_
      refine RR.s2 (pc' := 40) (lv' := [(0, .ref 0), (1, .int x1), (2, .int x2), (3, .int x3)]) (st' := [.int (sl 1 x3), .int x2]) dX6_crossingOf_39 rfl ?_
      refine RR.s2 (pc' := 44) (lv' := [(0, .ref 0), (1, .int x1), (2, .int x2), (3, .int x3)]) (st' := [.int (sl 1 x3), .int x2]) dX6_crossingOf_40 rfl ?_
      refine RR.s2 (pc' := 45) (lv' := [(0, .ref 0), (1, .int x1), (2, .int x2), (3, .int x3)]) (st' := [.int (x2 ||| (sl 1 x3))]) dX6_crossingOf_44 rfl ?_
      refine RR.s2 (pc' := 46) (lv' := [(0, .ref 0), (1, .int x1), (2, .int (x2 ||| (sl 1 x3))), (3, .int x3)]) (st' := []) dX6_crossingOf_45 rfl ?_
      refine RR.inc (c := 1) (lv' := [(0, .ref 0), (1, .int x1), (2, .int (x2 ||| (sl 1 x3))), (3, .int (x3 + 1))]) dX6_crossingOf_46 rfl (by decide) (by decide) rfl ?_
      refine RR.s2 (pc' := 8) (lv' := [(0, .ref 0), (1, .int x1), (2, .int (x2 ||| (sl 1 x3))), (3, .int (x3 + 1))]) (st' := []) dX6_crossingOf_49 rfl ?_
      exact RR.cut [0, 1, 2, 3] rfl H
set_option maxRecDepth 20000 in
theorem b_X6_crossing {σ : r_St} {K : Int32 → r_St → Prop} {x1 : Int32}  (H : M_X6_isDeed σ (fun v2 s1 => (v2 = 0 → K (-2) s1) ∧ (¬ (v2 = 0) → M_X6_crossingOf s1 (fun v4 s3 => K v4 s3) x1)) x1) : M_X6_crossing σ K x1 := by
  show RR 1 6 mX6_crossing 0 [(0, .ref 0), (1, .int x1)] [] σ (rI K)
  refine RR.s2 (pc' := 1) (lv' := [(0, .ref 0), (1, .int x1)]) (st' := [.ref 0]) dX6_crossing_0 rfl ?_
  refine RR.s2 (pc' := 2) (lv' := [(0, .ref 0), (1, .int x1)]) (st' := [.int x1, .ref 0]) dX6_crossing_1 rfl ?_
  refine RR.cV dX6_crossing_2 ml_X6_137 rfl rfl (as := [.int x1]) (rest := []) rfl rfl (Nat.le_of_ble_eq_true rfl) (Nat.le_of_ble_eq_true rfl) (by decide) (RR.toI H (fun v2 s1 H => ?_))
  show RR 1 6 mX6_crossing 5 [(0, .ref 0), (1, .int x1)] [.int v2] s1 _
  refine RR.br dX6_crossing_5 rfl (fun c => ?_) (fun c => ?_)
  · have H := H.1 c
    refine RR.bp (v := (-2)) dX6_crossing_16 (by decide) ?_
    exact RR.iret dX6_crossing_18 rfl ⟨_, rfl, H⟩
  · have H := H.2 c
    refine RR.s2 (pc' := 9) (lv' := [(0, .ref 0), (1, .int x1)]) (st' := [.ref 0]) dX6_crossing_8 rfl ?_
    refine RR.s2 (pc' := 10) (lv' := [(0, .ref 0), (1, .int x1)]) (st' := [.int x1, .ref 0]) dX6_crossing_9 rfl ?_
    refine RR.cV dX6_crossing_10 ml_X6_209 rfl rfl (as := [.int x1]) (rest := []) rfl rfl (Nat.le_of_ble_eq_true rfl) (Nat.le_of_ble_eq_true rfl) (by decide) (RR.toI H (fun v4 s3 H => ?_))
    show RR 1 6 mX6_crossing 13 [(0, .ref 0), (1, .int x1)] [.int v4] s3 _
    refine RR.s2 (pc' := 18) (lv' := [(0, .ref 0), (1, .int x1)]) (st' := [.int v4]) dX6_crossing_13 rfl ?_
    exact RR.iret dX6_crossing_18 rfl ⟨_, rfl, H⟩
set_option maxRecDepth 20000 in
theorem b_X6_finedOn {σ : r_St} {K : Int32 → r_St → Prop} {x1 : Int32} {x2 : Int32}  (H : ∃ j1 : Nat, x1 = nI j1 ∧ j1 < 12 ∧ (∃ j4 : Nat, x1 = nI j4 ∧ j4 < 12 ∧ (∃ j7 : Nat, x1 = nI j7 ∧ j7 < 12 ∧ ((¬ σ.1 0 6 = 0 → ((¬ σ.1 0 6 = 2 → (∃ j10 : Nat, x1 = nI j10 ∧ j10 < 12 ∧ ((x2 < σ.1 9 j10 → R_X6_finedOn_92 σ K x2 (σ.1 10 j1) 0) ∧ (¬ (x2 < σ.1 9 j10) → ((((σ.1 9 j4) + (σ.1 11 j7)) - 1 < x2 → R_X6_finedOn_92 σ K x2 (σ.1 10 j1) 0) ∧ (¬ (((σ.1 9 j4) + (σ.1 11 j7)) - 1 < x2) → R_X6_finedOn_92 σ K x2 (σ.1 10 j1) 1)))))) ∧ (σ.1 0 6 = 2 → ((¬ x2 = ((σ.1 9 j4) + (σ.1 11 j7)) - 1 → R_X6_finedOn_92 σ K x2 (σ.1 10 j1) 0) ∧ (x2 = ((σ.1 9 j4) + (σ.1 11 j7)) - 1 → R_X6_finedOn_92 σ K x2 (σ.1 10 j1) 1))))) ∧ (σ.1 0 6 = 0 → (∃ j13 : Nat, x1 = nI j13 ∧ j13 < 12 ∧ ((¬ x2 = σ.1 9 j13 → R_X6_finedOn_92 σ K x2 (σ.1 10 j1) 0) ∧ (x2 = σ.1 9 j13 → R_X6_finedOn_92 σ K x2 (σ.1 10 j1) 1)))))))) : M_X6_finedOn σ K x1 x2 := by
  show RR 1 2 mX6_finedOn 0 [(0, .ref 0), (1, .int x1), (2, .int x2)] [] σ (rI K)
  refine RR.s2 (pc' := 1) (lv' := [(0, .ref 0), (1, .int x1), (2, .int x2)]) (st' := [.ref 0]) dX6_finedOn_0 rfl ?_
  refine RR.getR dX6_finedOn_1 fl_X6_37 rfl rfl ?_
  refine RR.s2 (pc' := 5) (lv' := [(0, .ref 0), (1, .int x1), (2, .int x2)]) (st' := [.int x1, .ref 10]) dX6_finedOn_4 rfl ?_
  obtain ⟨j1, e2, b3, H⟩ := H
  refine RR.iald dX6_finedOn_5 rfl e2 b3 ?_
  refine RR.s2 (pc' := 7) (lv' := [(0, .ref 0), (1, .int x1), (2, .int x2), (3, .int (σ.1 10 j1))]) (st' := []) dX6_finedOn_6 rfl ?_
  refine RR.s2 (pc' := 8) (lv' := [(0, .ref 0), (1, .int x1), (2, .int x2), (3, .int (σ.1 10 j1))]) (st' := [.ref 0]) dX6_finedOn_7 rfl ?_
  refine RR.getR dX6_finedOn_8 fl_X6_34 rfl rfl ?_
  refine RR.s2 (pc' := 12) (lv' := [(0, .ref 0), (1, .int x1), (2, .int x2), (3, .int (σ.1 10 j1))]) (st' := [.int x1, .ref 9]) dX6_finedOn_11 rfl ?_
  obtain ⟨j4, e5, b6, H⟩ := H
  refine RR.iald dX6_finedOn_12 rfl e5 b6 ?_
  refine RR.s2 (pc' := 14) (lv' := [(0, .ref 0), (1, .int x1), (2, .int x2), (3, .int (σ.1 10 j1))]) (st' := [.ref 0, .int (σ.1 9 j4)]) dX6_finedOn_13 rfl ?_
  refine RR.getR dX6_finedOn_14 fl_X6_40 rfl rfl ?_
  refine RR.s2 (pc' := 18) (lv' := [(0, .ref 0), (1, .int x1), (2, .int x2), (3, .int (σ.1 10 j1))]) (st' := [.int x1, .ref 11, .int (σ.1 9 j4)]) dX6_finedOn_17 rfl ?_
  obtain ⟨j7, e8, b9, H⟩ := H
  refine RR.iald dX6_finedOn_18 rfl e8 b9 ?_
  refine RR.s2 (pc' := 20) (lv' := [(0, .ref 0), (1, .int x1), (2, .int x2), (3, .int (σ.1 10 j1))]) (st' := [.int ((σ.1 9 j4) + (σ.1 11 j7))]) dX6_finedOn_19 rfl ?_
  refine RR.ic (v := 1) dX6_finedOn_20 (by decide) ?_
  refine RR.s2 (pc' := 22) (lv' := [(0, .ref 0), (1, .int x1), (2, .int x2), (3, .int (σ.1 10 j1))]) (st' := [.int (((σ.1 9 j4) + (σ.1 11 j7)) - 1)]) dX6_finedOn_21 rfl ?_
  refine RR.s2 (pc' := 24) (lv' := [(0, .ref 0), (1, .int x1), (2, .int x2), (3, .int (σ.1 10 j1)), (4, .int (((σ.1 9 j4) + (σ.1 11 j7)) - 1))]) (st' := []) dX6_finedOn_22 rfl ?_
  refine RR.s2 (pc' := 25) (lv' := [(0, .ref 0), (1, .int x1), (2, .int x2), (3, .int (σ.1 10 j1)), (4, .int (((σ.1 9 j4) + (σ.1 11 j7)) - 1))]) (st' := [.ref 0]) dX6_finedOn_24 rfl ?_
  refine RR.getI dX6_finedOn_25 fl_X6_148 rfl rfl ?_
  refine RR.br dX6_finedOn_28 rfl (fun c => ?_) (fun c => ?_)
  · have H := H.1 c
    refine RR.s2 (pc' := 50) (lv' := [(0, .ref 0), (1, .int x1), (2, .int x2), (3, .int (σ.1 10 j1)), (4, .int (((σ.1 9 j4) + (σ.1 11 j7)) - 1))]) (st' := [.ref 0]) dX6_finedOn_49 rfl ?_
    refine RR.getI dX6_finedOn_50 fl_X6_148 rfl rfl ?_
    refine RR.ic (v := 2) dX6_finedOn_53 (by decide) ?_
    refine RR.br dX6_finedOn_54 rfl (fun c => ?_) (fun c => ?_)
    · have H := H.1 c
      refine RR.s2 (pc' := 72) (lv' := [(0, .ref 0), (1, .int x1), (2, .int x2), (3, .int (σ.1 10 j1)), (4, .int (((σ.1 9 j4) + (σ.1 11 j7)) - 1))]) (st' := [.int x2]) dX6_finedOn_71 rfl ?_
      refine RR.s2 (pc' := 73) (lv' := [(0, .ref 0), (1, .int x1), (2, .int x2), (3, .int (σ.1 10 j1)), (4, .int (((σ.1 9 j4) + (σ.1 11 j7)) - 1))]) (st' := [.ref 0, .int x2]) dX6_finedOn_72 rfl ?_
      refine RR.getR dX6_finedOn_73 fl_X6_34 rfl rfl ?_
      refine RR.s2 (pc' := 77) (lv' := [(0, .ref 0), (1, .int x1), (2, .int x2), (3, .int (σ.1 10 j1)), (4, .int (((σ.1 9 j4) + (σ.1 11 j7)) - 1))]) (st' := [.int x1, .ref 9, .int x2]) dX6_finedOn_76 rfl ?_
      obtain ⟨j10, e11, b12, H⟩ := H
      refine RR.iald dX6_finedOn_77 rfl e11 b12 ?_
      refine RR.br dX6_finedOn_78 rfl (fun c => ?_) (fun c => ?_)
      · have H := H.1 c
        refine RR.ic (v := 0) dX6_finedOn_91 (by decide) ?_
        exact RR.cut [0, 2, 3] rfl H
      · have H := H.2 c
        refine RR.s2 (pc' := 82) (lv' := [(0, .ref 0), (1, .int x1), (2, .int x2), (3, .int (σ.1 10 j1)), (4, .int (((σ.1 9 j4) + (σ.1 11 j7)) - 1))]) (st' := [.int x2]) dX6_finedOn_81 rfl ?_
        refine RR.s2 (pc' := 84) (lv' := [(0, .ref 0), (1, .int x1), (2, .int x2), (3, .int (σ.1 10 j1)), (4, .int (((σ.1 9 j4) + (σ.1 11 j7)) - 1))]) (st' := [.int (((σ.1 9 j4) + (σ.1 11 j7)) - 1), .int x2]) dX6_finedOn_82 rfl ?_
        refine RR.br dX6_finedOn_84 rfl (fun c => ?_) (fun c => ?_)
        · have H := H.1 c
          refine RR.ic (v := 0) dX6_finedOn_91 (by decide) ?_
          exact RR.cut [0, 2, 3] rfl H
        · have H := H.2 c
          refine RR.ic (v := 1) dX6_finedOn_87 (by decide) ?_
          refine RR.s2 (pc' := 92) (lv' := [(0, .ref 0), (1, .int x1), (2, .int x2), (3, .int (σ.1 10 j1)), (4, .int (((σ.1 9 j4) + (σ.1 11 j7)) - 1))]) (st' := [.int 1]) dX6_finedOn_88 rfl ?_
          exact RR.cut [0, 2, 3] rfl H
    · have H := H.2 (Classical.not_not.mp c)
      refine RR.s2 (pc' := 58) (lv' := [(0, .ref 0), (1, .int x1), (2, .int x2), (3, .int (σ.1 10 j1)), (4, .int (((σ.1 9 j4) + (σ.1 11 j7)) - 1))]) (st' := [.int x2]) dX6_finedOn_57 rfl ?_
      refine RR.s2 (pc' := 60) (lv' := [(0, .ref 0), (1, .int x1), (2, .int x2), (3, .int (σ.1 10 j1)), (4, .int (((σ.1 9 j4) + (σ.1 11 j7)) - 1))]) (st' := [.int (((σ.1 9 j4) + (σ.1 11 j7)) - 1), .int x2]) dX6_finedOn_58 rfl ?_
      refine RR.br dX6_finedOn_60 rfl (fun c => ?_) (fun c => ?_)
      · have H := H.1 c
        refine RR.ic (v := 0) dX6_finedOn_67 (by decide) ?_
        refine RR.s2 (pc' := 92) (lv' := [(0, .ref 0), (1, .int x1), (2, .int x2), (3, .int (σ.1 10 j1)), (4, .int (((σ.1 9 j4) + (σ.1 11 j7)) - 1))]) (st' := [.int 0]) dX6_finedOn_68 rfl ?_
        exact RR.cut [0, 2, 3] rfl H
      · have H := H.2 (Classical.not_not.mp c)
        refine RR.ic (v := 1) dX6_finedOn_63 (by decide) ?_
        refine RR.s2 (pc' := 92) (lv' := [(0, .ref 0), (1, .int x1), (2, .int x2), (3, .int (σ.1 10 j1)), (4, .int (((σ.1 9 j4) + (σ.1 11 j7)) - 1))]) (st' := [.int 1]) dX6_finedOn_64 rfl ?_
        exact RR.cut [0, 2, 3] rfl H
  · have H := H.2 (Classical.not_not.mp c)
    refine RR.s2 (pc' := 32) (lv' := [(0, .ref 0), (1, .int x1), (2, .int x2), (3, .int (σ.1 10 j1)), (4, .int (((σ.1 9 j4) + (σ.1 11 j7)) - 1))]) (st' := [.int x2]) dX6_finedOn_31 rfl ?_
    refine RR.s2 (pc' := 33) (lv' := [(0, .ref 0), (1, .int x1), (2, .int x2), (3, .int (σ.1 10 j1)), (4, .int (((σ.1 9 j4) + (σ.1 11 j7)) - 1))]) (st' := [.ref 0, .int x2]) dX6_finedOn_32 rfl ?_
    refine RR.getR dX6_finedOn_33 fl_X6_34 rfl rfl ?_
    refine RR.s2 (pc' := 37) (lv' := [(0, .ref 0), (1, .int x1), (2, .int x2), (3, .int (σ.1 10 j1)), (4, .int (((σ.1 9 j4) + (σ.1 11 j7)) - 1))]) (st' := [.int x1, .ref 9, .int x2]) dX6_finedOn_36 rfl ?_
    obtain ⟨j13, e14, b15, H⟩ := H
    refine RR.iald dX6_finedOn_37 rfl e14 b15 ?_
    refine RR.br dX6_finedOn_38 rfl (fun c => ?_) (fun c => ?_)
    · have H := H.1 c
      refine RR.ic (v := 0) dX6_finedOn_45 (by decide) ?_
      refine RR.s2 (pc' := 92) (lv' := [(0, .ref 0), (1, .int x1), (2, .int x2), (3, .int (σ.1 10 j1)), (4, .int (((σ.1 9 j4) + (σ.1 11 j7)) - 1))]) (st' := [.int 0]) dX6_finedOn_46 rfl ?_
      exact RR.cut [0, 2, 3] rfl H
    · have H := H.2 (Classical.not_not.mp c)
      refine RR.ic (v := 1) dX6_finedOn_41 (by decide) ?_
      refine RR.s2 (pc' := 92) (lv' := [(0, .ref 0), (1, .int x1), (2, .int x2), (3, .int (σ.1 10 j1)), (4, .int (((σ.1 9 j4) + (σ.1 11 j7)) - 1))]) (st' := [.int 1]) dX6_finedOn_42 rfl ?_
      exact RR.cut [0, 2, 3] rfl H
set_option maxRecDepth 20000 in
theorem b_X6_finedOn_92 {σ : r_St} {K : Int32 → r_St → Prop} {x2 : Int32} {x3 : Int32} {t0 : Int32}  (H : (σ.1 0 2 ≤ x3 → K 0 σ) ∧ (¬ (σ.1 0 2 ≤ x3) → ((t0 = 0 → K 0 σ) ∧ (¬ (t0 = 0) → (∃ j1 : Nat, x2 = nI j1 ∧ j1 < 40 ∧ ((¬ (sr (σ.1 16 j1) x3) &&& 1 = 1 → (∃ j4 : Nat, x3 = nI j4 ∧ j4 < 9 ∧ K (σ.1 2 j4) σ)) ∧ ((sr (σ.1 16 j1) x3) &&& 1 = 1 → K 0 σ))))))) : R_X6_finedOn_92 σ K x2 x3 t0 := by
  show RR 1 2 mX6_finedOn 92 [(0, .ref 0), (2, .int x2), (3, .int x3)] [.int t0] σ (rI K)
  refine RR.s2 (pc' := 94) (lv' := [(0, .ref 0), (2, .int x2), (3, .int x3), (5, .int t0)]) (st' := []) dX6_finedOn_92 rfl ?_
  refine RR.s2 (pc' := 95) (lv' := [(0, .ref 0), (2, .int x2), (3, .int x3), (5, .int t0)]) (st' := [.int x3]) dX6_finedOn_94 rfl ?_
  refine RR.s2 (pc' := 96) (lv' := [(0, .ref 0), (2, .int x2), (3, .int x3), (5, .int t0)]) (st' := [.ref 0, .int x3]) dX6_finedOn_95 rfl ?_
  refine RR.getI dX6_finedOn_96 fl_X6_114 rfl rfl ?_
  refine RR.br dX6_finedOn_99 rfl (fun c => ?_) (fun c => ?_)
  · have H := H.1 c
    refine RR.ic (v := 0) dX6_finedOn_129 (by decide) ?_
    exact RR.iret dX6_finedOn_130 rfl ⟨_, rfl, H⟩
  · have H := H.2 c
    refine RR.s2 (pc' := 104) (lv' := [(0, .ref 0), (2, .int x2), (3, .int x3), (5, .int t0)]) (st' := [.int t0]) dX6_finedOn_102 rfl ?_
    refine RR.br dX6_finedOn_104 rfl (fun c => ?_) (fun c => ?_)
    · have H := H.1 c
      refine RR.ic (v := 0) dX6_finedOn_129 (by decide) ?_
      exact RR.iret dX6_finedOn_130 rfl ⟨_, rfl, H⟩
    · have H := H.2 c
      refine RR.s2 (pc' := 108) (lv' := [(0, .ref 0), (2, .int x2), (3, .int x3), (5, .int t0)]) (st' := [.ref 0]) dX6_finedOn_107 rfl ?_
      refine RR.getR dX6_finedOn_108 fl_X6_55 rfl rfl ?_
      refine RR.s2 (pc' := 112) (lv' := [(0, .ref 0), (2, .int x2), (3, .int x3), (5, .int t0)]) (st' := [.int x2, .ref 16]) dX6_finedOn_111 rfl ?_
      obtain ⟨j1, e2, b3, H⟩ := H
      refine RR.iald dX6_finedOn_112 rfl e2 b3 ?_
      refine RR.s2 (pc' := 114) (lv' := [(0, .ref 0), (2, .int x2), (3, .int x3), (5, .int t0)]) (st' := [.int x3, .int (σ.1 16 j1)]) dX6_finedOn_113 rfl ?_
      refine RR.cS (d' := 1) dX6_finedOn_114 ml_X6_127 (as := [.int (σ.1 16 j1), .int x3]) (rest := []) rfl rfl (Nat.le_of_ble_eq_true rfl) (Nat.le_of_ble_eq_true rfl) (by decide) ?_
      show RR 1 1 mX6_isIn 0 [(0, .int (σ.1 16 j1)), (1, .int x3)] [] σ _
      refine RR.s2 (pc' := 1) (lv' := [(0, .int (σ.1 16 j1)), (1, .int x3)]) (st' := [.int (σ.1 16 j1)]) dX6_isIn_0 rfl ?_
      refine RR.s2 (pc' := 2) (lv' := [(0, .int (σ.1 16 j1)), (1, .int x3)]) (st' := [.int x3, .int (σ.1 16 j1)]) dX6_isIn_1 rfl ?_
      refine RR.s2 (pc' := 3) (lv' := [(0, .int (σ.1 16 j1)), (1, .int x3)]) (st' := [.int (sr (σ.1 16 j1) x3)]) dX6_isIn_2 rfl ?_
      refine RR.ic (v := 1) dX6_isIn_3 (by decide) ?_
      refine RR.s2 (pc' := 5) (lv' := [(0, .int (σ.1 16 j1)), (1, .int x3)]) (st' := [.int ((sr (σ.1 16 j1) x3) &&& 1)]) dX6_isIn_4 rfl ?_
      refine RR.ic (v := 1) dX6_isIn_5 (by decide) ?_
      refine RR.br dX6_isIn_6 rfl (fun c => ?_) (fun c => ?_)
      · have H := H.1 c
        refine RR.ic (v := 0) dX6_isIn_13 (by decide) ?_
        refine RR.zret dX6_isIn_14 rfl (by decide) ?_
        show RR 1 2 mX6_finedOn 117 [(0, .ref 0), (2, .int x2), (3, .int x3), (5, .int t0)] [.int 0] σ _
        refine RR.brF dX6_finedOn_117 rfl (by decide) ?_
        refine RR.s2 (pc' := 121) (lv' := [(0, .ref 0), (2, .int x2), (3, .int x3), (5, .int t0)]) (st' := [.ref 0]) dX6_finedOn_120 rfl ?_
        refine RR.getR dX6_finedOn_121 fl_X6_13 rfl rfl ?_
        refine RR.s2 (pc' := 125) (lv' := [(0, .ref 0), (2, .int x2), (3, .int x3), (5, .int t0)]) (st' := [.int x3, .ref 2]) dX6_finedOn_124 rfl ?_
        obtain ⟨j4, e5, b6, H⟩ := H
        refine RR.iald dX6_finedOn_125 rfl e5 b6 ?_
        refine RR.s2 (pc' := 130) (lv' := [(0, .ref 0), (2, .int x2), (3, .int x3), (5, .int t0)]) (st' := [.int (σ.1 2 j4)]) dX6_finedOn_126 rfl ?_
        exact RR.iret dX6_finedOn_130 rfl ⟨_, rfl, H⟩
      · have H := H.2 (Classical.not_not.mp c)
        refine RR.ic (v := 1) dX6_isIn_9 (by decide) ?_
        refine RR.s2 (pc' := 14) (lv' := [(0, .int (σ.1 16 j1)), (1, .int x3)]) (st' := [.int 1]) dX6_isIn_10 rfl ?_
        refine RR.zret dX6_isIn_14 rfl (by decide) ?_
        show RR 1 2 mX6_finedOn 117 [(0, .ref 0), (2, .int x2), (3, .int x3), (5, .int t0)] [.int 1] σ _
        refine RR.brT dX6_finedOn_117 rfl (by decide) ?_
        refine RR.ic (v := 0) dX6_finedOn_129 (by decide) ?_
        exact RR.iret dX6_finedOn_130 rfl ⟨_, rfl, H⟩
set_option maxRecDepth 20000 in
theorem b_X6_finedOf {σ : r_St} {K : Int32 → r_St → Prop} {x1 : Int32}  (H : M_X6_laysTold σ (fun s1 => R_X6_finedOf_8 s1 K x1 0 0)) : M_X6_finedOf σ K x1 := by
  show RR 1 5 mX6_finedOf 0 [(0, .ref 0), (1, .int x1)] [] σ (rI K)
  refine RR.s2 (pc' := 1) (lv' := [(0, .ref 0), (1, .int x1)]) (st' := [.ref 0]) dX6_finedOf_0 rfl ?_
  refine RR.cV dX6_finedOf_1 ml_X6_194 rfl rfl (as := []) (rest := []) rfl rfl (Nat.le_of_ble_eq_true rfl) (Nat.le_of_ble_eq_true rfl) (by decide) (RR.toV H (fun s1 H => ?_))
  show RR 1 5 mX6_finedOf 4 [(0, .ref 0), (1, .int x1)] [] s1 _
  refine RR.ic (v := 0) dX6_finedOf_4 (by decide) ?_
  refine RR.s2 (pc' := 6) (lv' := [(0, .ref 0), (1, .int x1), (2, .int 0)]) (st' := []) dX6_finedOf_5 rfl ?_
  refine RR.ic (v := 0) dX6_finedOf_6 (by decide) ?_
  refine RR.s2 (pc' := 8) (lv' := [(0, .ref 0), (1, .int x1), (2, .int 0), (3, .int 0)]) (st' := []) dX6_finedOf_7 rfl ?_
  exact RR.cut [0, 1, 2, 3] rfl H
set_option maxRecDepth 20000 in
theorem b_X6_finedOf_8 {σ : r_St} {K : Int32 → r_St → Prop} {x1 : Int32} {x2 : Int32} {x3 : Int32}  (H : (40 ≤ x3 → K x2 σ) ∧ (¬ (40 ≤ x3) → M_X6_finedOn σ (fun v2 s1 => R_X6_finedOf_8 s1 K x1 (x2 + v2) (x3 + 1)) x1 x3)) : R_X6_finedOf_8 σ K x1 x2 x3 := by
  show RR 1 5 mX6_finedOf 8 [(0, .ref 0), (1, .int x1), (2, .int x2), (3, .int x3)] [] σ (rI K)
  refine RR.s2 (pc' := 9) (lv' := [(0, .ref 0), (1, .int x1), (2, .int x2), (3, .int x3)]) (st' := [.int x3]) dX6_finedOf_8 rfl ?_
  refine RR.bp (v := 40) dX6_finedOf_9 (by decide) ?_
  refine RR.br dX6_finedOf_11 rfl (fun c => ?_) (fun c => ?_)
  · have H := H.1 c
    refine RR.s2 (pc' := 30) (lv' := [(0, .ref 0), (1, .int x1), (2, .int x2), (3, .int x3)]) (st' := [.int x2]) dX6_finedOf_29 rfl ?_
    exact RR.iret dX6_finedOf_30 rfl ⟨_, rfl, H⟩
  · have H := H.2 c
    refine RR.s2 (pc' := 15) (lv' := [(0, .ref 0), (1, .int x1), (2, .int x2), (3, .int x3)]) (st' := [.int x2]) dX6_finedOf_14 rfl ?_
    refine RR.s2 (pc' := 16) (lv' := [(0, .ref 0), (1, .int x1), (2, .int x2), (3, .int x3)]) (st' := [.ref 0, .int x2]) dX6_finedOf_15 rfl ?_
    refine RR.s2 (pc' := 17) (lv' := [(0, .ref 0), (1, .int x1), (2, .int x2), (3, .int x3)]) (st' := [.int x1, .ref 0, .int x2]) dX6_finedOf_16 rfl ?_
    refine RR.s2 (pc' := 18) (lv' := [(0, .ref 0), (1, .int x1), (2, .int x2), (3, .int x3)]) (st' := [.int x3, .int x1, .ref 0, .int x2]) dX6_finedOf_17 rfl ?_
    refine RR.cV dX6_finedOf_18 ml_X6_212 rfl rfl (as := [.int x1, .int x3]) (rest := [.int x2]) rfl rfl (Nat.le_of_ble_eq_true rfl) (Nat.le_of_ble_eq_true rfl) (by decide) (RR.toI H (fun v2 s1 H => ?_))
    show RR 1 5 mX6_finedOf 21 [(0, .ref 0), (1, .int x1), (2, .int x2), (3, .int x3)] [.int v2, .int x2] s1 _
    refine RR.s2 (pc' := 22) (lv' := [(0, .ref 0), (1, .int x1), (2, .int x2), (3, .int x3)]) (st' := [.int (x2 + v2)]) dX6_finedOf_21 rfl ?_
    refine RR.s2 (pc' := 23) (lv' := [(0, .ref 0), (1, .int x1), (2, .int (x2 + v2)), (3, .int x3)]) (st' := []) dX6_finedOf_22 rfl ?_
    refine RR.inc (c := 1) (lv' := [(0, .ref 0), (1, .int x1), (2, .int (x2 + v2)), (3, .int (x3 + 1))]) dX6_finedOf_23 rfl (by decide) (by decide) rfl ?_
    refine RR.s2 (pc' := 8) (lv' := [(0, .ref 0), (1, .int x1), (2, .int (x2 + v2)), (3, .int (x3 + 1))]) (st' := []) dX6_finedOf_26 rfl ?_
    exact RR.cut [0, 1, 2, 3] rfl H
set_option maxRecDepth 20000 in
theorem b_X6_fined {σ : r_St} {K : Int32 → r_St → Prop} {x1 : Int32}  (H : (IN x1 0 ((σ.1 3 3) - 1) → M_X6_finedOf σ (fun v2 s1 => K v2 s1) x1) ∧ (¬ IN x1 0 ((σ.1 3 3) - 1) → K (-2) σ)) : M_X6_fined σ K x1 := by
  show RR 1 6 mX6_fined 0 [(0, .ref 0), (1, .int x1)] [] σ (rI K)
  refine RR.s2 (pc' := 1) (lv' := [(0, .ref 0), (1, .int x1)]) (st' := [.int x1]) dX6_fined_0 rfl ?_
  refine RR.ic (v := 0) dX6_fined_1 (by decide) ?_
  refine RR.s2 (pc' := 3) (lv' := [(0, .ref 0), (1, .int x1)]) (st' := [.ref 0, .int 0, .int x1]) dX6_fined_2 rfl ?_
  refine RR.getR dX6_fined_3 fl_X6_16 rfl rfl ?_
  refine RR.ic (v := 3) dX6_fined_6 (by decide) ?_
  refine RR.iald (j := 3) dX6_fined_7 rfl rfl (by decide) ?_
  refine RR.ic (v := 1) dX6_fined_8 (by decide) ?_
  refine RR.s2 (pc' := 10) (lv' := [(0, .ref 0), (1, .int x1)]) (st' := [.int ((σ.1 3 3) - 1), .int 0, .int x1]) dX6_fined_9 rfl ?_
  refine RR.cS dX6_fined_10 ml_X6_106 (as := [.int x1, .int 0, .int ((σ.1 3 3) - 1)]) (rest := []) rfl rfl (Nat.le_of_ble_eq_true rfl) (Nat.le_of_ble_eq_true rfl) (by decide) (kb_X6_in (fun c => ?_) (fun c => ?_))
  · have H := H.1 c
    show RR 1 6 mX6_fined 13 [(0, .ref 0), (1, .int x1)] [.int 1] σ _
    refine RR.brF dX6_fined_13 rfl (by decide) ?_
    refine RR.s2 (pc' := 17) (lv' := [(0, .ref 0), (1, .int x1)]) (st' := [.ref 0]) dX6_fined_16 rfl ?_
    refine RR.s2 (pc' := 18) (lv' := [(0, .ref 0), (1, .int x1)]) (st' := [.int x1, .ref 0]) dX6_fined_17 rfl ?_
    refine RR.cV dX6_fined_18 ml_X6_215 rfl rfl (as := [.int x1]) (rest := []) rfl rfl (Nat.le_of_ble_eq_true rfl) (Nat.le_of_ble_eq_true rfl) (by decide) (RR.toI H (fun v2 s1 H => ?_))
    show RR 1 6 mX6_fined 21 [(0, .ref 0), (1, .int x1)] [.int v2] s1 _
    refine RR.s2 (pc' := 26) (lv' := [(0, .ref 0), (1, .int x1)]) (st' := [.int v2]) dX6_fined_21 rfl ?_
    exact RR.iret dX6_fined_26 rfl ⟨_, rfl, H⟩
  · have H := H.2 c
    show RR 1 6 mX6_fined 13 [(0, .ref 0), (1, .int x1)] [.int 0] σ _
    refine RR.brT dX6_fined_13 rfl (by decide) ?_
    refine RR.bp (v := (-2)) dX6_fined_24 (by decide) ?_
    exact RR.iret dX6_fined_26 rfl ⟨_, rfl, H⟩
set_option maxRecDepth 20000 in
theorem b_X6_coinsOf {σ : r_St} {K : Int32 → r_St → Prop} {x1 : Int32}  (H : M_X6_laysTold σ (fun s1 => R_X6_coinsOf_8 s1 K x1 0 0)) : M_X6_coinsOf σ K x1 := by
  show RR 1 5 mX6_coinsOf 0 [(0, .ref 0), (1, .int x1)] [] σ (rI K)
  refine RR.s2 (pc' := 1) (lv' := [(0, .ref 0), (1, .int x1)]) (st' := [.ref 0]) dX6_coinsOf_0 rfl ?_
  refine RR.cV dX6_coinsOf_1 ml_X6_194 rfl rfl (as := []) (rest := []) rfl rfl (Nat.le_of_ble_eq_true rfl) (Nat.le_of_ble_eq_true rfl) (by decide) (RR.toV H (fun s1 H => ?_))
  show RR 1 5 mX6_coinsOf 4 [(0, .ref 0), (1, .int x1)] [] s1 _
  refine RR.ic (v := 0) dX6_coinsOf_4 (by decide) ?_
  refine RR.s2 (pc' := 6) (lv' := [(0, .ref 0), (1, .int x1), (2, .int 0)]) (st' := []) dX6_coinsOf_5 rfl ?_
  refine RR.ic (v := 0) dX6_coinsOf_6 (by decide) ?_
  refine RR.s2 (pc' := 8) (lv' := [(0, .ref 0), (1, .int x1), (2, .int 0), (3, .int 0)]) (st' := []) dX6_coinsOf_7 rfl ?_
  exact RR.cut [0, 1, 2, 3] rfl H
set_option maxRecDepth 20000 in
theorem b_X6_coinsOf_8 {σ : r_St} {K : Int32 → r_St → Prop} {x1 : Int32} {x2 : Int32} {x3 : Int32}  (H : (40 ≤ x3 → K x2 σ) ∧ (¬ (40 ≤ x3) → (∃ j1 : Nat, x3 = nI j1 ∧ j1 < 40 ∧ ((σ.1 14 j1 = x1 → R_X6_coinsOf_48 σ K x1 x2 x3 1 0) ∧ (¬ (σ.1 14 j1 = x1) → ((¬ x1 = 0 → R_X6_coinsOf_48 σ K x1 x2 x3 0 0) ∧ (x1 = 0 → (∃ j4 : Nat, x3 = nI j4 ∧ j4 < 40 ∧ ((¬ σ.1 14 j4 = 2 → R_X6_coinsOf_48 σ K x1 x2 x3 0 0) ∧ (σ.1 14 j4 = 2 → R_X6_coinsOf_48 σ K x1 x2 x3 1 0)))))))))) : R_X6_coinsOf_8 σ K x1 x2 x3 := by
  show RR 1 5 mX6_coinsOf 8 [(0, .ref 0), (1, .int x1), (2, .int x2), (3, .int x3)] [] σ (rI K)
  refine RR.s2 (pc' := 9) (lv' := [(0, .ref 0), (1, .int x1), (2, .int x2), (3, .int x3)]) (st' := [.int x3]) dX6_coinsOf_8 rfl ?_
  refine RR.bp (v := 40) dX6_coinsOf_9 (by decide) ?_
  refine RR.br dX6_coinsOf_11 rfl (fun c => ?_) (fun c => ?_)
  · have H := H.1 c
    refine RR.s2 (pc' := 87) (lv' := [(0, .ref 0), (1, .int x1), (2, .int x2), (3, .int x3)]) (st' := [.int x2]) dX6_coinsOf_86 rfl ?_
    exact RR.iret dX6_coinsOf_87 rfl ⟨_, rfl, H⟩
  · have H := H.2 c
    refine RR.s2 (pc' := 15) (lv' := [(0, .ref 0), (1, .int x1), (2, .int x2), (3, .int x3)]) (st' := [.ref 0]) dX6_coinsOf_14 rfl ?_
    refine RR.getR dX6_coinsOf_15 fl_X6_49 rfl rfl ?_
    refine RR.s2 (pc' := 19) (lv' := [(0, .ref 0), (1, .int x1), (2, .int x2), (3, .int x3)]) (st' := [.int x3, .ref 14]) dX6_coinsOf_18 rfl ?_
    obtain ⟨j1, e2, b3, H⟩ := H
    refine RR.iald dX6_coinsOf_19 rfl e2 b3 ?_
    refine RR.s2 (pc' := 21) (lv' := [(0, .ref 0), (1, .int x1), (2, .int x2), (3, .int x3)]) (st' := [.int x1, .int (σ.1 14 j1)]) dX6_coinsOf_20 rfl ?_
    refine RR.br dX6_coinsOf_21 rfl (fun c => ?_) (fun c => ?_)
    · have H := H.1 c
      refine RR.ic (v := 1) dX6_coinsOf_38 (by decide) ?_
      refine RR.s2 (pc' := 43) (lv' := [(0, .ref 0), (1, .int x1), (2, .int x2), (3, .int x3)]) (st' := [.int 1]) dX6_coinsOf_39 rfl ?_
      refine RR.s2 (pc' := 45) (lv' := [(0, .ref 0), (1, .int x1), (2, .int x2), (3, .int x3), (4, .int 1)]) (st' := []) dX6_coinsOf_43 rfl ?_
      refine RR.ic (v := 0) dX6_coinsOf_45 (by decide) ?_
      refine RR.s2 (pc' := 48) (lv' := [(0, .ref 0), (1, .int x1), (2, .int x2), (3, .int x3), (4, .int 1), (5, .int 0)]) (st' := []) dX6_coinsOf_46 rfl ?_
      exact RR.cut [0, 1, 2, 3, 4, 5] rfl H
    · have H := H.2 c
      refine RR.s2 (pc' := 25) (lv' := [(0, .ref 0), (1, .int x1), (2, .int x2), (3, .int x3)]) (st' := [.int x1]) dX6_coinsOf_24 rfl ?_
      refine RR.br dX6_coinsOf_25 rfl (fun c => ?_) (fun c => ?_)
      · have H := H.1 c
        refine RR.ic (v := 0) dX6_coinsOf_42 (by decide) ?_
        refine RR.s2 (pc' := 45) (lv' := [(0, .ref 0), (1, .int x1), (2, .int x2), (3, .int x3), (4, .int 0)]) (st' := []) dX6_coinsOf_43 rfl ?_
        refine RR.ic (v := 0) dX6_coinsOf_45 (by decide) ?_
        refine RR.s2 (pc' := 48) (lv' := [(0, .ref 0), (1, .int x1), (2, .int x2), (3, .int x3), (4, .int 0), (5, .int 0)]) (st' := []) dX6_coinsOf_46 rfl ?_
        exact RR.cut [0, 1, 2, 3, 4, 5] rfl H
      · have H := H.2 (Classical.not_not.mp c)
        refine RR.s2 (pc' := 29) (lv' := [(0, .ref 0), (1, .int x1), (2, .int x2), (3, .int x3)]) (st' := [.ref 0]) dX6_coinsOf_28 rfl ?_
        refine RR.getR dX6_coinsOf_29 fl_X6_49 rfl rfl ?_
        refine RR.s2 (pc' := 33) (lv' := [(0, .ref 0), (1, .int x1), (2, .int x2), (3, .int x3)]) (st' := [.int x3, .ref 14]) dX6_coinsOf_32 rfl ?_
        obtain ⟨j4, e5, b6, H⟩ := H
        refine RR.iald dX6_coinsOf_33 rfl e5 b6 ?_
        refine RR.ic (v := 2) dX6_coinsOf_34 (by decide) ?_
        refine RR.br dX6_coinsOf_35 rfl (fun c => ?_) (fun c => ?_)
        · have H := H.1 c
          refine RR.ic (v := 0) dX6_coinsOf_42 (by decide) ?_
          refine RR.s2 (pc' := 45) (lv' := [(0, .ref 0), (1, .int x1), (2, .int x2), (3, .int x3), (4, .int 0)]) (st' := []) dX6_coinsOf_43 rfl ?_
          refine RR.ic (v := 0) dX6_coinsOf_45 (by decide) ?_
          refine RR.s2 (pc' := 48) (lv' := [(0, .ref 0), (1, .int x1), (2, .int x2), (3, .int x3), (4, .int 0), (5, .int 0)]) (st' := []) dX6_coinsOf_46 rfl ?_
          exact RR.cut [0, 1, 2, 3, 4, 5] rfl H
        · have H := H.2 (Classical.not_not.mp c)
          refine RR.ic (v := 1) dX6_coinsOf_38 (by decide) ?_
          refine RR.s2 (pc' := 43) (lv' := [(0, .ref 0), (1, .int x1), (2, .int x2), (3, .int x3)]) (st' := [.int 1]) dX6_coinsOf_39 rfl ?_
          refine RR.s2 (pc' := 45) (lv' := [(0, .ref 0), (1, .int x1), (2, .int x2), (3, .int x3), (4, .int 1)]) (st' := []) dX6_coinsOf_43 rfl ?_
          refine RR.ic (v := 0) dX6_coinsOf_45 (by decide) ?_
          refine RR.s2 (pc' := 48) (lv' := [(0, .ref 0), (1, .int x1), (2, .int x2), (3, .int x3), (4, .int 1), (5, .int 0)]) (st' := []) dX6_coinsOf_46 rfl ?_
          exact RR.cut [0, 1, 2, 3, 4, 5] rfl H
set_option maxRecDepth 20000 in
theorem b_X6_coinsOf_48 {σ : r_St} {K : Int32 → r_St → Prop} {x1 : Int32} {x2 : Int32} {x3 : Int32} {x4 : Int32} {x5 : Int32}  (H : (σ.1 3 3 ≤ x5 → R_X6_coinsOf_8 σ K x1 x2 (x3 + 1)) ∧ (¬ (σ.1 3 3 ≤ x5) → ((x4 = 0 → R_X6_coinsOf_8 σ K x1 x2 (x3 + 1)) ∧ (¬ (x4 = 0) → M_X6_finedOn σ (fun v2 s1 => R_X6_coinsOf_48 s1 K x1 (x2 + v2) x3 x4 (x5 + 1)) x5 x3)))) : R_X6_coinsOf_48 σ K x1 x2 x3 x4 x5 := by
  show RR 1 5 mX6_coinsOf 48 [(0, .ref 0), (1, .int x1), (2, .int x2), (3, .int x3), (4, .int x4), (5, .int x5)] [] σ (rI K)
  refine RR.s2 (pc' := 50) (lv' := [(0, .ref 0), (1, .int x1), (2, .int x2), (3, .int x3), (4, .int x4), (5, .int x5)]) (st' := [.int x5]) dX6_coinsOf_48 rfl ?_
  refine RR.s2 (pc' := 51) (lv' := [(0, .ref 0), (1, .int x1), (2, .int x2), (3, .int x3), (4, .int x4), (5, .int x5)]) (st' := [.ref 0, .int x5]) dX6_coinsOf_50 rfl ?_
  refine RR.getR dX6_coinsOf_51 fl_X6_16 rfl rfl ?_
  refine RR.ic (v := 3) dX6_coinsOf_54 (by decide) ?_
  refine RR.iald (j := 3) dX6_coinsOf_55 rfl rfl (by decide) ?_
  refine RR.br dX6_coinsOf_56 rfl (fun c => ?_) (fun c => ?_)
  · have H := H.1 c
    refine RR.inc (c := 1) (lv' := [(0, .ref 0), (1, .int x1), (2, .int x2), (3, .int (x3 + 1)), (4, .int x4), (5, .int x5)]) dX6_coinsOf_80 rfl (by decide) (by decide) rfl ?_
    refine RR.s2 (pc' := 8) (lv' := [(0, .ref 0), (1, .int x1), (2, .int x2), (3, .int (x3 + 1)), (4, .int x4), (5, .int x5)]) (st' := []) dX6_coinsOf_83 rfl ?_
    exact RR.cut [0, 1, 2, 3] rfl H
  · have H := H.2 c
    refine RR.s2 (pc' := 61) (lv' := [(0, .ref 0), (1, .int x1), (2, .int x2), (3, .int x3), (4, .int x4), (5, .int x5)]) (st' := [.int x4]) dX6_coinsOf_59 rfl ?_
    refine RR.br dX6_coinsOf_61 rfl (fun c => ?_) (fun c => ?_)
    · have H := H.1 c
      refine RR.inc (c := 1) (lv' := [(0, .ref 0), (1, .int x1), (2, .int x2), (3, .int (x3 + 1)), (4, .int x4), (5, .int x5)]) dX6_coinsOf_80 rfl (by decide) (by decide) rfl ?_
      refine RR.s2 (pc' := 8) (lv' := [(0, .ref 0), (1, .int x1), (2, .int x2), (3, .int (x3 + 1)), (4, .int x4), (5, .int x5)]) (st' := []) dX6_coinsOf_83 rfl ?_
      exact RR.cut [0, 1, 2, 3] rfl H
    · have H := H.2 c
      refine RR.s2 (pc' := 65) (lv' := [(0, .ref 0), (1, .int x1), (2, .int x2), (3, .int x3), (4, .int x4), (5, .int x5)]) (st' := [.int x2]) dX6_coinsOf_64 rfl ?_
      refine RR.s2 (pc' := 66) (lv' := [(0, .ref 0), (1, .int x1), (2, .int x2), (3, .int x3), (4, .int x4), (5, .int x5)]) (st' := [.ref 0, .int x2]) dX6_coinsOf_65 rfl ?_
      refine RR.s2 (pc' := 68) (lv' := [(0, .ref 0), (1, .int x1), (2, .int x2), (3, .int x3), (4, .int x4), (5, .int x5)]) (st' := [.int x5, .ref 0, .int x2]) dX6_coinsOf_66 rfl ?_
      refine RR.s2 (pc' := 69) (lv' := [(0, .ref 0), (1, .int x1), (2, .int x2), (3, .int x3), (4, .int x4), (5, .int x5)]) (st' := [.int x3, .int x5, .ref 0, .int x2]) dX6_coinsOf_68 rfl ?_
      refine RR.cV dX6_coinsOf_69 ml_X6_212 rfl rfl (as := [.int x5, .int x3]) (rest := [.int x2]) rfl rfl (Nat.le_of_ble_eq_true rfl) (Nat.le_of_ble_eq_true rfl) (by decide) (RR.toI H (fun v2 s1 H => ?_))
      show RR 1 5 mX6_coinsOf 72 [(0, .ref 0), (1, .int x1), (2, .int x2), (3, .int x3), (4, .int x4), (5, .int x5)] [.int v2, .int x2] s1 _
      refine RR.s2 (pc' := 73) (lv' := [(0, .ref 0), (1, .int x1), (2, .int x2), (3, .int x3), (4, .int x4), (5, .int x5)]) (st' := [.int (x2 + v2)]) dX6_coinsOf_72 rfl ?_
      refine RR.s2 (pc' := 74) (lv' := [(0, .ref 0), (1, .int x1), (2, .int (x2 + v2)), (3, .int x3), (4, .int x4), (5, .int x5)]) (st' := []) dX6_coinsOf_73 rfl ?_
      refine RR.inc (c := 1) (lv' := [(0, .ref 0), (1, .int x1), (2, .int (x2 + v2)), (3, .int x3), (4, .int x4), (5, .int (x5 + 1))]) dX6_coinsOf_74 rfl (by decide) (by decide) rfl ?_
      refine RR.s2 (pc' := 48) (lv' := [(0, .ref 0), (1, .int x1), (2, .int (x2 + v2)), (3, .int x3), (4, .int x4), (5, .int (x5 + 1))]) (st' := []) dX6_coinsOf_77 rfl ?_
      exact RR.cut [0, 1, 2, 3, 4, 5] rfl H
set_option maxRecDepth 20000 in
theorem b_X6_coins {σ : r_St} {K : Int32 → r_St → Prop} {x1 : Int32}  (H : (IN x1 0 1 → M_X6_coinsOf σ (fun v2 s1 => K v2 s1) x1) ∧ (¬ IN x1 0 1 → K (-2) σ)) : M_X6_coins σ K x1 := by
  show RR 1 6 mX6_coins 0 [(0, .ref 0), (1, .int x1)] [] σ (rI K)
  refine RR.s2 (pc' := 1) (lv' := [(0, .ref 0), (1, .int x1)]) (st' := [.int x1]) dX6_coins_0 rfl ?_
  refine RR.cS dX6_coins_1 ml_X6_145 (as := [.int x1]) (rest := []) rfl rfl (Nat.le_of_ble_eq_true rfl) (Nat.le_of_ble_eq_true rfl) (by decide) (kb_X6_isTwo (fun c => ?_) (fun c => ?_))
  · have H := H.1 c
    show RR 1 6 mX6_coins 4 [(0, .ref 0), (1, .int x1)] [.int 1] σ _
    refine RR.brF dX6_coins_4 rfl (by decide) ?_
    refine RR.s2 (pc' := 8) (lv' := [(0, .ref 0), (1, .int x1)]) (st' := [.ref 0]) dX6_coins_7 rfl ?_
    refine RR.s2 (pc' := 9) (lv' := [(0, .ref 0), (1, .int x1)]) (st' := [.int x1, .ref 0]) dX6_coins_8 rfl ?_
    refine RR.cV dX6_coins_9 ml_X6_218 rfl rfl (as := [.int x1]) (rest := []) rfl rfl (Nat.le_of_ble_eq_true rfl) (Nat.le_of_ble_eq_true rfl) (by decide) (RR.toI H (fun v2 s1 H => ?_))
    show RR 1 6 mX6_coins 12 [(0, .ref 0), (1, .int x1)] [.int v2] s1 _
    refine RR.s2 (pc' := 17) (lv' := [(0, .ref 0), (1, .int x1)]) (st' := [.int v2]) dX6_coins_12 rfl ?_
    exact RR.iret dX6_coins_17 rfl ⟨_, rfl, H⟩
  · have H := H.2 c
    show RR 1 6 mX6_coins 4 [(0, .ref 0), (1, .int x1)] [.int 0] σ _
    refine RR.brT dX6_coins_4 rfl (by decide) ?_
    refine RR.bp (v := (-2)) dX6_coins_15 (by decide) ?_
    exact RR.iret dX6_coins_17 rfl ⟨_, rfl, H⟩
set_option maxRecDepth 20000 in
theorem b_X6_firstFor {σ : r_St} {K : Int32 → r_St → Prop} {x1 : Int32} {x2 : Int32} {x3 : Int32}  (H : R_X6_firstFor_3 σ K x1 x2 x3) : M_X6_firstFor σ K x1 x2 x3 := by
  show RR 1 2 mX6_firstFor 0 [(0, .ref 0), (1, .int x1), (2, .int x2), (3, .int x3)] [] σ (rI K)
  refine RR.s2 (pc' := 1) (lv' := [(0, .ref 0), (1, .int x1), (2, .int x2), (3, .int x3)]) (st' := [.int x3]) dX6_firstFor_0 rfl ?_
  refine RR.s2 (pc' := 3) (lv' := [(0, .ref 0), (1, .int x1), (2, .int x2), (3, .int x3), (4, .int x3)]) (st' := []) dX6_firstFor_1 rfl ?_
  exact RR.cut [0, 1, 2, 4] rfl H
set_option maxRecDepth 20000 in
theorem b_X6_firstFor_3 {σ : r_St} {K : Int32 → r_St → Prop} {x1 : Int32} {x2 : Int32} {x4 : Int32}  (H : (40 < x4 + x2 → K (-1) σ) ∧ (¬ (40 < x4 + x2) → ((σ.1 0 2 ≤ x1 → K (-1) σ) ∧ (¬ (σ.1 0 2 ≤ x1) → R_X6_firstFor_26 σ K x1 x2 x4 1 0)))) : R_X6_firstFor_3 σ K x1 x2 x4 := by
  show RR 1 2 mX6_firstFor 3 [(0, .ref 0), (1, .int x1), (2, .int x2), (4, .int x4)] [] σ (rI K)
  refine RR.s2 (pc' := 5) (lv' := [(0, .ref 0), (1, .int x1), (2, .int x2), (4, .int x4)]) (st' := [.int x4]) dX6_firstFor_3 rfl ?_
  refine RR.s2 (pc' := 6) (lv' := [(0, .ref 0), (1, .int x1), (2, .int x2), (4, .int x4)]) (st' := [.int x2, .int x4]) dX6_firstFor_5 rfl ?_
  refine RR.s2 (pc' := 7) (lv' := [(0, .ref 0), (1, .int x1), (2, .int x2), (4, .int x4)]) (st' := [.int (x4 + x2)]) dX6_firstFor_6 rfl ?_
  refine RR.bp (v := 40) dX6_firstFor_7 (by decide) ?_
  refine RR.br dX6_firstFor_9 rfl (fun c => ?_) (fun c => ?_)
  · have H := H.1 c
    refine RR.ic (v := (-1)) dX6_firstFor_81 (by decide) ?_
    exact RR.iret dX6_firstFor_82 rfl ⟨_, rfl, H⟩
  · have H := H.2 c
    refine RR.s2 (pc' := 13) (lv' := [(0, .ref 0), (1, .int x1), (2, .int x2), (4, .int x4)]) (st' := [.int x1]) dX6_firstFor_12 rfl ?_
    refine RR.s2 (pc' := 14) (lv' := [(0, .ref 0), (1, .int x1), (2, .int x2), (4, .int x4)]) (st' := [.ref 0, .int x1]) dX6_firstFor_13 rfl ?_
    refine RR.getI dX6_firstFor_14 fl_X6_114 rfl rfl ?_
    refine RR.br dX6_firstFor_17 rfl (fun c => ?_) (fun c => ?_)
    · have H := H.1 c
      refine RR.ic (v := (-1)) dX6_firstFor_81 (by decide) ?_
      exact RR.iret dX6_firstFor_82 rfl ⟨_, rfl, H⟩
    · have H := H.2 c
      refine RR.ic (v := 1) dX6_firstFor_20 (by decide) ?_
      refine RR.s2 (pc' := 23) (lv' := [(0, .ref 0), (1, .int x1), (2, .int x2), (4, .int x4), (5, .int 1)]) (st' := []) dX6_firstFor_21 rfl ?_
      refine RR.ic (v := 0) dX6_firstFor_23 (by decide) ?_
      refine RR.s2 (pc' := 26) (lv' := [(0, .ref 0), (1, .int x1), (2, .int x2), (4, .int x4), (5, .int 1), (6, .int 0)]) (st' := []) dX6_firstFor_24 rfl ?_
      exact RR.cut [0, 1, 2, 3, 4, 5] rfl H
set_option maxRecDepth 20000 in
theorem b_X6_firstFor_26 {σ : r_St} {K : Int32 → r_St → Prop} {x1 : Int32} {x2 : Int32} {x4 : Int32} {x5 : Int32} {x6 : Int32}  (H : (x2 ≤ x6 → ((x5 = 0 → R_X6_firstFor_3 σ K x1 x2 (x4 + 1)) ∧ (¬ (x5 = 0) → K x4 σ))) ∧ (¬ (x2 ≤ x6) → ((x5 = 0 → R_X6_firstFor_26 σ K x1 x2 x4 0 (x6 + 1)) ∧ (¬ (x5 = 0) → (∃ j1 : Nat, x4 + x6 = nI j1 ∧ j1 < 40 ∧ ((¬ (sr (σ.1 16 j1) x1) &&& 1 = 1 → R_X6_firstFor_26 σ K x1 x2 x4 0 (x6 + 1)) ∧ ((sr (σ.1 16 j1) x1) &&& 1 = 1 → R_X6_firstFor_26 σ K x1 x2 x4 1 (x6 + 1)))))))) : R_X6_firstFor_26 σ K x1 x2 x4 x5 x6 := by
  show RR 1 2 mX6_firstFor 26 [(0, .ref 0), (1, .int x1), (2, .int x2), (4, .int x4), (5, .int x5), (6, .int x6)] [] σ (rI K)
  refine RR.s2 (pc' := 28) (lv' := [(0, .ref 0), (1, .int x1), (2, .int x2), (4, .int x4), (5, .int x5), (6, .int x6)]) (st' := [.int x6]) dX6_firstFor_26 rfl ?_
  refine RR.s2 (pc' := 29) (lv' := [(0, .ref 0), (1, .int x1), (2, .int x2), (4, .int x4), (5, .int x5), (6, .int x6)]) (st' := [.int x2, .int x6]) dX6_firstFor_28 rfl ?_
  refine RR.br dX6_firstFor_29 rfl (fun c => ?_) (fun c => ?_)
  · have H := H.1 c
    refine RR.s2 (pc' := 69) (lv' := [(0, .ref 0), (1, .int x1), (2, .int x2), (4, .int x4), (5, .int x5), (6, .int x6)]) (st' := [.int x5]) dX6_firstFor_67 rfl ?_
    refine RR.br dX6_firstFor_69 rfl (fun c => ?_) (fun c => ?_)
    · have H := H.1 c
      refine RR.inc (c := 1) (lv' := [(0, .ref 0), (1, .int x1), (2, .int x2), (4, .int (x4 + 1)), (5, .int x5), (6, .int x6)]) dX6_firstFor_75 rfl (by decide) (by decide) rfl ?_
      refine RR.s2 (pc' := 3) (lv' := [(0, .ref 0), (1, .int x1), (2, .int x2), (4, .int (x4 + 1)), (5, .int x5), (6, .int x6)]) (st' := []) dX6_firstFor_78 rfl ?_
      exact RR.cut [0, 1, 2, 3] rfl H
    · have H := H.2 c
      refine RR.s2 (pc' := 74) (lv' := [(0, .ref 0), (1, .int x1), (2, .int x2), (4, .int x4), (5, .int x5), (6, .int x6)]) (st' := [.int x4]) dX6_firstFor_72 rfl ?_
      exact RR.iret dX6_firstFor_74 rfl ⟨_, rfl, H⟩
  · have H := H.2 c
    refine RR.s2 (pc' := 34) (lv' := [(0, .ref 0), (1, .int x1), (2, .int x2), (4, .int x4), (5, .int x5), (6, .int x6)]) (st' := [.int x5]) dX6_firstFor_32 rfl ?_
    refine RR.br dX6_firstFor_34 rfl (fun c => ?_) (fun c => ?_)
    · have H := H.1 c
      refine RR.ic (v := 0) dX6_firstFor_58 (by decide) ?_
      refine RR.s2 (pc' := 61) (lv' := [(0, .ref 0), (1, .int x1), (2, .int x2), (4, .int x4), (5, .int 0), (6, .int x6)]) (st' := []) dX6_firstFor_59 rfl ?_
      refine RR.inc (c := 1) (lv' := [(0, .ref 0), (1, .int x1), (2, .int x2), (4, .int x4), (5, .int 0), (6, .int (x6 + 1))]) dX6_firstFor_61 rfl (by decide) (by decide) rfl ?_
      refine RR.s2 (pc' := 26) (lv' := [(0, .ref 0), (1, .int x1), (2, .int x2), (4, .int x4), (5, .int 0), (6, .int (x6 + 1))]) (st' := []) dX6_firstFor_64 rfl ?_
      exact RR.cut [0, 1, 2, 3, 4, 5] rfl H
    · have H := H.2 c
      refine RR.s2 (pc' := 38) (lv' := [(0, .ref 0), (1, .int x1), (2, .int x2), (4, .int x4), (5, .int x5), (6, .int x6)]) (st' := [.ref 0]) dX6_firstFor_37 rfl ?_
      refine RR.getR dX6_firstFor_38 fl_X6_55 rfl rfl ?_
      refine RR.s2 (pc' := 43) (lv' := [(0, .ref 0), (1, .int x1), (2, .int x2), (4, .int x4), (5, .int x5), (6, .int x6)]) (st' := [.int x4, .ref 16]) dX6_firstFor_41 rfl ?_
      refine RR.s2 (pc' := 45) (lv' := [(0, .ref 0), (1, .int x1), (2, .int x2), (4, .int x4), (5, .int x5), (6, .int x6)]) (st' := [.int x6, .int x4, .ref 16]) dX6_firstFor_43 rfl ?_
      refine RR.s2 (pc' := 46) (lv' := [(0, .ref 0), (1, .int x1), (2, .int x2), (4, .int x4), (5, .int x5), (6, .int x6)]) (st' := [.int (x4 + x6), .ref 16]) dX6_firstFor_45 rfl ?_
      obtain ⟨j1, e2, b3, H⟩ := H
      refine RR.iald dX6_firstFor_46 rfl e2 b3 ?_
      refine RR.s2 (pc' := 48) (lv' := [(0, .ref 0), (1, .int x1), (2, .int x2), (4, .int x4), (5, .int x5), (6, .int x6)]) (st' := [.int x1, .int (σ.1 16 j1)]) dX6_firstFor_47 rfl ?_
      refine RR.cS (d' := 1) dX6_firstFor_48 ml_X6_127 (as := [.int (σ.1 16 j1), .int x1]) (rest := []) rfl rfl (Nat.le_of_ble_eq_true rfl) (Nat.le_of_ble_eq_true rfl) (by decide) ?_
      show RR 1 1 mX6_isIn 0 [(0, .int (σ.1 16 j1)), (1, .int x1)] [] σ _
      refine RR.s2 (pc' := 1) (lv' := [(0, .int (σ.1 16 j1)), (1, .int x1)]) (st' := [.int (σ.1 16 j1)]) dX6_isIn_0 rfl ?_
      refine RR.s2 (pc' := 2) (lv' := [(0, .int (σ.1 16 j1)), (1, .int x1)]) (st' := [.int x1, .int (σ.1 16 j1)]) dX6_isIn_1 rfl ?_
      refine RR.s2 (pc' := 3) (lv' := [(0, .int (σ.1 16 j1)), (1, .int x1)]) (st' := [.int (sr (σ.1 16 j1) x1)]) dX6_isIn_2 rfl ?_
      refine RR.ic (v := 1) dX6_isIn_3 (by decide) ?_
      refine RR.s2 (pc' := 5) (lv' := [(0, .int (σ.1 16 j1)), (1, .int x1)]) (st' := [.int ((sr (σ.1 16 j1) x1) &&& 1)]) dX6_isIn_4 rfl ?_
      refine RR.ic (v := 1) dX6_isIn_5 (by decide) ?_
      refine RR.br dX6_isIn_6 rfl (fun c => ?_) (fun c => ?_)
      · have H := H.1 c
        refine RR.ic (v := 0) dX6_isIn_13 (by decide) ?_
        refine RR.zret dX6_isIn_14 rfl (by decide) ?_
        show RR 1 2 mX6_firstFor 51 [(0, .ref 0), (1, .int x1), (2, .int x2), (4, .int x4), (5, .int x5), (6, .int x6)] [.int 0] σ _
        refine RR.brT dX6_firstFor_51 rfl (by decide) ?_
        refine RR.ic (v := 0) dX6_firstFor_58 (by decide) ?_
        refine RR.s2 (pc' := 61) (lv' := [(0, .ref 0), (1, .int x1), (2, .int x2), (4, .int x4), (5, .int 0), (6, .int x6)]) (st' := []) dX6_firstFor_59 rfl ?_
        refine RR.inc (c := 1) (lv' := [(0, .ref 0), (1, .int x1), (2, .int x2), (4, .int x4), (5, .int 0), (6, .int (x6 + 1))]) dX6_firstFor_61 rfl (by decide) (by decide) rfl ?_
        refine RR.s2 (pc' := 26) (lv' := [(0, .ref 0), (1, .int x1), (2, .int x2), (4, .int x4), (5, .int 0), (6, .int (x6 + 1))]) (st' := []) dX6_firstFor_64 rfl ?_
        exact RR.cut [0, 1, 2, 3, 4, 5] rfl H
      · have H := H.2 (Classical.not_not.mp c)
        refine RR.ic (v := 1) dX6_isIn_9 (by decide) ?_
        refine RR.s2 (pc' := 14) (lv' := [(0, .int (σ.1 16 j1)), (1, .int x1)]) (st' := [.int 1]) dX6_isIn_10 rfl ?_
        refine RR.zret dX6_isIn_14 rfl (by decide) ?_
        show RR 1 2 mX6_firstFor 51 [(0, .ref 0), (1, .int x1), (2, .int x2), (4, .int x4), (5, .int x5), (6, .int x6)] [.int 1] σ _
        refine RR.brF dX6_firstFor_51 rfl (by decide) ?_
        refine RR.ic (v := 1) dX6_firstFor_54 (by decide) ?_
        refine RR.s2 (pc' := 59) (lv' := [(0, .ref 0), (1, .int x1), (2, .int x2), (4, .int x4), (5, .int x5), (6, .int x6)]) (st' := [.int 1]) dX6_firstFor_55 rfl ?_
        refine RR.s2 (pc' := 61) (lv' := [(0, .ref 0), (1, .int x1), (2, .int x2), (4, .int x4), (5, .int 1), (6, .int x6)]) (st' := []) dX6_firstFor_59 rfl ?_
        refine RR.inc (c := 1) (lv' := [(0, .ref 0), (1, .int x1), (2, .int x2), (4, .int x4), (5, .int 1), (6, .int (x6 + 1))]) dX6_firstFor_61 rfl (by decide) (by decide) rfl ?_
        refine RR.s2 (pc' := 26) (lv' := [(0, .ref 0), (1, .int x1), (2, .int x2), (4, .int x4), (5, .int 1), (6, .int (x6 + 1))]) (st' := []) dX6_firstFor_64 rfl ?_
        exact RR.cut [0, 1, 2, 3, 4, 5] rfl H
set_option maxRecDepth 20000 in
theorem b_X6_soonestOf {σ : r_St} {K : Int32 → r_St → Prop} {x1 : Int32} {x2 : Int32} {x3 : Int32}  (H : M_X6_laysTold σ (fun s1 => M_X6_firstFor s1 (fun v3 s2 => K v3 s2) x1 x2 x3)) : M_X6_soonestOf σ K x1 x2 x3 := by
  show RR 1 5 mX6_soonestOf 0 [(0, .ref 0), (1, .int x1), (2, .int x2), (3, .int x3)] [] σ (rI K)
  refine RR.s2 (pc' := 1) (lv' := [(0, .ref 0), (1, .int x1), (2, .int x2), (3, .int x3)]) (st' := [.ref 0]) dX6_soonestOf_0 rfl ?_
  refine RR.cV dX6_soonestOf_1 ml_X6_194 rfl rfl (as := []) (rest := []) rfl rfl (Nat.le_of_ble_eq_true rfl) (Nat.le_of_ble_eq_true rfl) (by decide) (RR.toV H (fun s1 H => ?_))
  show RR 1 5 mX6_soonestOf 4 [(0, .ref 0), (1, .int x1), (2, .int x2), (3, .int x3)] [] s1 _
  refine RR.s2 (pc' := 5) (lv' := [(0, .ref 0), (1, .int x1), (2, .int x2), (3, .int x3)]) (st' := [.ref 0]) dX6_soonestOf_4 rfl ?_
  refine RR.s2 (pc' := 6) (lv' := [(0, .ref 0), (1, .int x1), (2, .int x2), (3, .int x3)]) (st' := [.int x1, .ref 0]) dX6_soonestOf_5 rfl ?_
  refine RR.s2 (pc' := 7) (lv' := [(0, .ref 0), (1, .int x1), (2, .int x2), (3, .int x3)]) (st' := [.int x2, .int x1, .ref 0]) dX6_soonestOf_6 rfl ?_
  refine RR.s2 (pc' := 8) (lv' := [(0, .ref 0), (1, .int x1), (2, .int x2), (3, .int x3)]) (st' := [.int x3, .int x2, .int x1, .ref 0]) dX6_soonestOf_7 rfl ?_
  refine RR.cV dX6_soonestOf_8 ml_X6_221 rfl rfl (as := [.int x1, .int x2, .int x3]) (rest := []) rfl rfl (Nat.le_of_ble_eq_true rfl) (Nat.le_of_ble_eq_true rfl) (by decide) (RR.toI H (fun v3 s2 H => ?_))
  show RR 1 5 mX6_soonestOf 11 [(0, .ref 0), (1, .int x1), (2, .int x2), (3, .int x3)] [.int v3] s2 _
  exact RR.iret dX6_soonestOf_11 rfl ⟨_, rfl, H⟩
set_option maxRecDepth 20000 in
theorem b_X6_soonest {σ : r_St} {K : Int32 → r_St → Prop} {x1 : Int32} {x2 : Int32} {x3 : Int32}  (H : M_X6_isDeed σ (fun v2 s1 => (v2 = 0 → K (-2) s1) ∧ (¬ (v2 = 0) → ((IN x2 1 9 → ((IN x3 0 39 → M_X6_soonestOf s1 (fun v4 s3 => K v4 s3) x1 x2 x3) ∧ (¬ IN x3 0 39 → K (-2) s1))) ∧ (¬ IN x2 1 9 → K (-2) s1)))) x1) : M_X6_soonest σ K x1 x2 x3 := by
  show RR 1 6 mX6_soonest 0 [(0, .ref 0), (1, .int x1), (2, .int x2), (3, .int x3)] [] σ (rI K)
  refine RR.s2 (pc' := 1) (lv' := [(0, .ref 0), (1, .int x1), (2, .int x2), (3, .int x3)]) (st' := [.ref 0]) dX6_soonest_0 rfl ?_
  refine RR.s2 (pc' := 2) (lv' := [(0, .ref 0), (1, .int x1), (2, .int x2), (3, .int x3)]) (st' := [.int x1, .ref 0]) dX6_soonest_1 rfl ?_
  refine RR.cV dX6_soonest_2 ml_X6_137 rfl rfl (as := [.int x1]) (rest := []) rfl rfl (Nat.le_of_ble_eq_true rfl) (Nat.le_of_ble_eq_true rfl) (by decide) (RR.toI H (fun v2 s1 H => ?_))
  show RR 1 6 mX6_soonest 5 [(0, .ref 0), (1, .int x1), (2, .int x2), (3, .int x3)] [.int v2] s1 _
  refine RR.br dX6_soonest_5 rfl (fun c => ?_) (fun c => ?_)
  · have H := H.1 c
    refine RR.bp (v := (-2)) dX6_soonest_35 (by decide) ?_
    exact RR.iret dX6_soonest_37 rfl ⟨_, rfl, H⟩
  · have H := H.2 c
    refine RR.s2 (pc' := 9) (lv' := [(0, .ref 0), (1, .int x1), (2, .int x2), (3, .int x3)]) (st' := [.int x2]) dX6_soonest_8 rfl ?_
    refine RR.ic (v := 1) dX6_soonest_9 (by decide) ?_
    refine RR.bp (v := 9) dX6_soonest_10 (by decide) ?_
    refine RR.cS dX6_soonest_12 ml_X6_106 (as := [.int x2, .int 1, .int 9]) (rest := []) rfl rfl (Nat.le_of_ble_eq_true rfl) (Nat.le_of_ble_eq_true rfl) (by decide) (kb_X6_in (fun c => ?_) (fun c => ?_))
    · have H := H.1 c
      show RR 1 6 mX6_soonest 15 [(0, .ref 0), (1, .int x1), (2, .int x2), (3, .int x3)] [.int 1] s1 _
      refine RR.brF dX6_soonest_15 rfl (by decide) ?_
      refine RR.s2 (pc' := 19) (lv' := [(0, .ref 0), (1, .int x1), (2, .int x2), (3, .int x3)]) (st' := [.int x3]) dX6_soonest_18 rfl ?_
      refine RR.cS dX6_soonest_19 ml_X6_151 (as := [.int x3]) (rest := []) rfl rfl (Nat.le_of_ble_eq_true rfl) (Nat.le_of_ble_eq_true rfl) (by decide) (kb_X6_isDay (fun c => ?_) (fun c => ?_))
      · have H := H.1 c
        show RR 1 6 mX6_soonest 22 [(0, .ref 0), (1, .int x1), (2, .int x2), (3, .int x3)] [.int 1] s1 _
        refine RR.brF dX6_soonest_22 rfl (by decide) ?_
        refine RR.s2 (pc' := 26) (lv' := [(0, .ref 0), (1, .int x1), (2, .int x2), (3, .int x3)]) (st' := [.ref 0]) dX6_soonest_25 rfl ?_
        refine RR.s2 (pc' := 27) (lv' := [(0, .ref 0), (1, .int x1), (2, .int x2), (3, .int x3)]) (st' := [.int x1, .ref 0]) dX6_soonest_26 rfl ?_
        refine RR.s2 (pc' := 28) (lv' := [(0, .ref 0), (1, .int x1), (2, .int x2), (3, .int x3)]) (st' := [.int x2, .int x1, .ref 0]) dX6_soonest_27 rfl ?_
        refine RR.s2 (pc' := 29) (lv' := [(0, .ref 0), (1, .int x1), (2, .int x2), (3, .int x3)]) (st' := [.int x3, .int x2, .int x1, .ref 0]) dX6_soonest_28 rfl ?_
        refine RR.cV dX6_soonest_29 ml_X6_225 rfl rfl (as := [.int x1, .int x2, .int x3]) (rest := []) rfl rfl (Nat.le_of_ble_eq_true rfl) (Nat.le_of_ble_eq_true rfl) (by decide) (RR.toI H (fun v4 s3 H => ?_))
        show RR 1 6 mX6_soonest 32 [(0, .ref 0), (1, .int x1), (2, .int x2), (3, .int x3)] [.int v4] s3 _
        refine RR.s2 (pc' := 37) (lv' := [(0, .ref 0), (1, .int x1), (2, .int x2), (3, .int x3)]) (st' := [.int v4]) dX6_soonest_32 rfl ?_
        exact RR.iret dX6_soonest_37 rfl ⟨_, rfl, H⟩
      · have H := H.2 c
        show RR 1 6 mX6_soonest 22 [(0, .ref 0), (1, .int x1), (2, .int x2), (3, .int x3)] [.int 0] s1 _
        refine RR.brT dX6_soonest_22 rfl (by decide) ?_
        refine RR.bp (v := (-2)) dX6_soonest_35 (by decide) ?_
        exact RR.iret dX6_soonest_37 rfl ⟨_, rfl, H⟩
    · have H := H.2 c
      show RR 1 6 mX6_soonest 15 [(0, .ref 0), (1, .int x1), (2, .int x2), (3, .int x3)] [.int 0] s1 _
      refine RR.brT dX6_soonest_15 rfl (by decide) ?_
      refine RR.bp (v := (-2)) dX6_soonest_35 (by decide) ?_
      exact RR.iret dX6_soonest_37 rfl ⟨_, rfl, H⟩
set_option maxRecDepth 20000 in
theorem b_X6_cheapestOf {σ : r_St} {K : Int32 → r_St → Prop} {x1 : Int32} {x2 : Int32} {x3 : Int32} {x4 : Int32}  (H : M_X6_laysTold σ (fun s1 => R_X6_cheapestOf_13 s1 K x1 x2 x4 (-1) (-1) x3)) : M_X6_cheapestOf σ K x1 x2 x3 x4 := by
  show RR 1 5 mX6_cheapestOf 0 [(0, .ref 0), (1, .int x1), (2, .int x2), (3, .int x3), (4, .int x4)] [] σ (rI K)
  refine RR.s2 (pc' := 1) (lv' := [(0, .ref 0), (1, .int x1), (2, .int x2), (3, .int x3), (4, .int x4)]) (st' := [.ref 0]) dX6_cheapestOf_0 rfl ?_
  refine RR.cV dX6_cheapestOf_1 ml_X6_194 rfl rfl (as := []) (rest := []) rfl rfl (Nat.le_of_ble_eq_true rfl) (Nat.le_of_ble_eq_true rfl) (by decide) (RR.toV H (fun s1 H => ?_))
  show RR 1 5 mX6_cheapestOf 4 [(0, .ref 0), (1, .int x1), (2, .int x2), (3, .int x3), (4, .int x4)] [] s1 _
  refine RR.ic (v := (-1)) dX6_cheapestOf_4 (by decide) ?_
  refine RR.s2 (pc' := 7) (lv' := [(0, .ref 0), (1, .int x1), (2, .int x2), (3, .int x3), (4, .int x4), (5, .int (-1))]) (st' := []) dX6_cheapestOf_5 rfl ?_
  refine RR.ic (v := (-1)) dX6_cheapestOf_7 (by decide) ?_
  refine RR.s2 (pc' := 10) (lv' := [(0, .ref 0), (1, .int x1), (2, .int x2), (3, .int x3), (4, .int x4), (5, .int (-1)), (6, .int (-1))]) (st' := []) dX6_cheapestOf_8 rfl ?_
  refine RR.s2 (pc' := 11) (lv' := [(0, .ref 0), (1, .int x1), (2, .int x2), (3, .int x3), (4, .int x4), (5, .int (-1)), (6, .int (-1))]) (st' := [.int x3]) dX6_cheapestOf_10 rfl ?_
  refine RR.s2 (pc' := 13) (lv' := [(0, .ref 0), (1, .int x1), (2, .int x2), (3, .int x3), (4, .int x4), (5, .int (-1)), (6, .int (-1)), (7, .int x3)]) (st' := []) dX6_cheapestOf_11 rfl ?_
  exact RR.cut [0, 1, 2, 4, 5, 6, 7] rfl H
set_option maxRecDepth 20000 in
theorem b_X6_cheapestOf_13 {σ : r_St} {K : Int32 → r_St → Prop} {x1 : Int32} {x2 : Int32} {x4 : Int32} {x5 : Int32} {x6 : Int32} {x7 : Int32}  (H : (40 < x7 + x2 → ((¬ x4 = 0 → K x6 σ) ∧ (x4 = 0 → K x5 σ))) ∧ (¬ (40 < x7 + x2) → R_X6_cheapestOf_28 σ K x1 x2 x4 x5 x6 x7 0 0)) : R_X6_cheapestOf_13 σ K x1 x2 x4 x5 x6 x7 := by
  show RR 1 5 mX6_cheapestOf 13 [(0, .ref 0), (1, .int x1), (2, .int x2), (4, .int x4), (5, .int x5), (6, .int x6), (7, .int x7)] [] σ (rI K)
  refine RR.s2 (pc' := 15) (lv' := [(0, .ref 0), (1, .int x1), (2, .int x2), (4, .int x4), (5, .int x5), (6, .int x6), (7, .int x7)]) (st' := [.int x7]) dX6_cheapestOf_13 rfl ?_
  refine RR.s2 (pc' := 16) (lv' := [(0, .ref 0), (1, .int x1), (2, .int x2), (4, .int x4), (5, .int x5), (6, .int x6), (7, .int x7)]) (st' := [.int x2, .int x7]) dX6_cheapestOf_15 rfl ?_
  refine RR.s2 (pc' := 17) (lv' := [(0, .ref 0), (1, .int x1), (2, .int x2), (4, .int x4), (5, .int x5), (6, .int x6), (7, .int x7)]) (st' := [.int (x7 + x2)]) dX6_cheapestOf_16 rfl ?_
  refine RR.bp (v := 40) dX6_cheapestOf_17 (by decide) ?_
  refine RR.br dX6_cheapestOf_19 rfl (fun c => ?_) (fun c => ?_)
  · have H := H.1 c
    refine RR.s2 (pc' := 128) (lv' := [(0, .ref 0), (1, .int x1), (2, .int x2), (4, .int x4), (5, .int x5), (6, .int x6), (7, .int x7)]) (st' := [.int x4]) dX6_cheapestOf_126 rfl ?_
    refine RR.br dX6_cheapestOf_128 rfl (fun c => ?_) (fun c => ?_)
    · have H := H.1 c
      refine RR.s2 (pc' := 138) (lv' := [(0, .ref 0), (1, .int x1), (2, .int x2), (4, .int x4), (5, .int x5), (6, .int x6), (7, .int x7)]) (st' := [.int x6]) dX6_cheapestOf_136 rfl ?_
      exact RR.iret dX6_cheapestOf_138 rfl ⟨_, rfl, H⟩
    · have H := H.2 (Classical.not_not.mp c)
      refine RR.s2 (pc' := 133) (lv' := [(0, .ref 0), (1, .int x1), (2, .int x2), (4, .int x4), (5, .int x5), (6, .int x6), (7, .int x7)]) (st' := [.int x5]) dX6_cheapestOf_131 rfl ?_
      refine RR.s2 (pc' := 138) (lv' := [(0, .ref 0), (1, .int x1), (2, .int x2), (4, .int x4), (5, .int x5), (6, .int x6), (7, .int x7)]) (st' := [.int x5]) dX6_cheapestOf_133 rfl ?_
      exact RR.iret dX6_cheapestOf_138 rfl ⟨_, rfl, H⟩
  · have H := H.2 c
    refine RR.ic (v := 0) dX6_cheapestOf_22 (by decide) ?_
    refine RR.s2 (pc' := 25) (lv' := [(0, .ref 0), (1, .int x1), (2, .int x2), (4, .int x4), (5, .int x5), (6, .int x6), (7, .int x7), (8, .int 0)]) (st' := []) dX6_cheapestOf_23 rfl ?_
    refine RR.ic (v := 0) dX6_cheapestOf_25 (by decide) ?_
    refine RR.s2 (pc' := 28) (lv' := [(0, .ref 0), (1, .int x1), (2, .int x2), (4, .int x4), (5, .int x5), (6, .int x6), (7, .int x7), (8, .int 0), (9, .int 0)]) (st' := []) dX6_cheapestOf_26 rfl ?_
    exact RR.cut [0, 1, 2, 3, 4, 5, 6, 7, 8] rfl H
set_option maxRecDepth 20000 in
theorem b_X6_cheapestOf_28 {σ : r_St} {K : Int32 → r_St → Prop} {x1 : Int32} {x2 : Int32} {x4 : Int32} {x5 : Int32} {x6 : Int32} {x7 : Int32} {x8 : Int32} {x9 : Int32}  (H : (x2 ≤ x9 → ((x5 = (-1) → R_X6_cheapestOf_90 σ K x1 x2 x4 x5 x6 x7 x8 1) ∧ (¬ (x5 = (-1)) → ((x6 ≤ x8 → R_X6_cheapestOf_90 σ K x1 x2 x4 x5 x6 x7 x8 0) ∧ (¬ (x6 ≤ x8) → R_X6_cheapestOf_90 σ K x1 x2 x4 x5 x6 x7 x8 1))))) ∧ (¬ (x2 ≤ x9) → (∃ j1 : Nat, x7 + x9 = nI j1 ∧ j1 < 40 ∧ ((¬ (sr (σ.1 16 j1) x1) &&& 1 = 1 → (∃ j4 : Nat, x1 = nI j4 ∧ j4 < 9 ∧ R_X6_cheapestOf_28 σ K x1 x2 x4 x5 x6 x7 (x8 + (σ.1 2 j4)) (x9 + 1))) ∧ ((sr (σ.1 16 j1) x1) &&& 1 = 1 → R_X6_cheapestOf_28 σ K x1 x2 x4 x5 x6 x7 (x8 + 0) (x9 + 1)))))) : R_X6_cheapestOf_28 σ K x1 x2 x4 x5 x6 x7 x8 x9 := by
  show RR 1 5 mX6_cheapestOf 28 [(0, .ref 0), (1, .int x1), (2, .int x2), (4, .int x4), (5, .int x5), (6, .int x6), (7, .int x7), (8, .int x8), (9, .int x9)] [] σ (rI K)
  refine RR.s2 (pc' := 30) (lv' := [(0, .ref 0), (1, .int x1), (2, .int x2), (4, .int x4), (5, .int x5), (6, .int x6), (7, .int x7), (8, .int x8), (9, .int x9)]) (st' := [.int x9]) dX6_cheapestOf_28 rfl ?_
  refine RR.s2 (pc' := 31) (lv' := [(0, .ref 0), (1, .int x1), (2, .int x2), (4, .int x4), (5, .int x5), (6, .int x6), (7, .int x7), (8, .int x8), (9, .int x9)]) (st' := [.int x2, .int x9]) dX6_cheapestOf_30 rfl ?_
  refine RR.br dX6_cheapestOf_31 rfl (fun c => ?_) (fun c => ?_)
  · have H := H.1 c
    refine RR.s2 (pc' := 74) (lv' := [(0, .ref 0), (1, .int x1), (2, .int x2), (4, .int x4), (5, .int x5), (6, .int x6), (7, .int x7), (8, .int x8), (9, .int x9)]) (st' := [.int x5]) dX6_cheapestOf_72 rfl ?_
    refine RR.ic (v := (-1)) dX6_cheapestOf_74 (by decide) ?_
    refine RR.br dX6_cheapestOf_75 rfl (fun c => ?_) (fun c => ?_)
    · have H := H.1 c
      refine RR.ic (v := 1) dX6_cheapestOf_85 (by decide) ?_
      refine RR.s2 (pc' := 90) (lv' := [(0, .ref 0), (1, .int x1), (2, .int x2), (4, .int x4), (5, .int x5), (6, .int x6), (7, .int x7), (8, .int x8), (9, .int x9)]) (st' := [.int 1]) dX6_cheapestOf_86 rfl ?_
      exact RR.cut [0, 1, 2, 3, 4, 5, 6, 7] rfl H
    · have H := H.2 c
      refine RR.s2 (pc' := 80) (lv' := [(0, .ref 0), (1, .int x1), (2, .int x2), (4, .int x4), (5, .int x5), (6, .int x6), (7, .int x7), (8, .int x8), (9, .int x9)]) (st' := [.int x8]) dX6_cheapestOf_78 rfl ?_
      refine RR.s2 (pc' := 82) (lv' := [(0, .ref 0), (1, .int x1), (2, .int x2), (4, .int x4), (5, .int x5), (6, .int x6), (7, .int x7), (8, .int x8), (9, .int x9)]) (st' := [.int x6, .int x8]) dX6_cheapestOf_80 rfl ?_
      refine RR.br dX6_cheapestOf_82 rfl (fun c => ?_) (fun c => ?_)
      · have H := H.1 c
        refine RR.ic (v := 0) dX6_cheapestOf_89 (by decide) ?_
        exact RR.cut [0, 1, 2, 3, 4, 5, 6, 7] rfl H
      · have H := H.2 c
        refine RR.ic (v := 1) dX6_cheapestOf_85 (by decide) ?_
        refine RR.s2 (pc' := 90) (lv' := [(0, .ref 0), (1, .int x1), (2, .int x2), (4, .int x4), (5, .int x5), (6, .int x6), (7, .int x7), (8, .int x8), (9, .int x9)]) (st' := [.int 1]) dX6_cheapestOf_86 rfl ?_
        exact RR.cut [0, 1, 2, 3, 4, 5, 6, 7] rfl H
  · have H := H.2 c
    refine RR.s2 (pc' := 36) (lv' := [(0, .ref 0), (1, .int x1), (2, .int x2), (4, .int x4), (5, .int x5), (6, .int x6), (7, .int x7), (8, .int x8), (9, .int x9)]) (st' := [.int x8]) dX6_cheapestOf_34 rfl ?_
    refine RR.s2 (pc' := 37) (lv' := [(0, .ref 0), (1, .int x1), (2, .int x2), (4, .int x4), (5, .int x5), (6, .int x6), (7, .int x7), (8, .int x8), (9, .int x9)]) (st' := [.ref 0, .int x8]) dX6_cheapestOf_36 rfl ?_
    refine RR.getR dX6_cheapestOf_37 fl_X6_55 rfl rfl ?_
    refine RR.s2 (pc' := 42) (lv' := [(0, .ref 0), (1, .int x1), (2, .int x2), (4, .int x4), (5, .int x5), (6, .int x6), (7, .int x7), (8, .int x8), (9, .int x9)]) (st' := [.int x7, .ref 16, .int x8]) dX6_cheapestOf_40 rfl ?_
    refine RR.s2 (pc' := 44) (lv' := [(0, .ref 0), (1, .int x1), (2, .int x2), (4, .int x4), (5, .int x5), (6, .int x6), (7, .int x7), (8, .int x8), (9, .int x9)]) (st' := [.int x9, .int x7, .ref 16, .int x8]) dX6_cheapestOf_42 rfl ?_
    refine RR.s2 (pc' := 45) (lv' := [(0, .ref 0), (1, .int x1), (2, .int x2), (4, .int x4), (5, .int x5), (6, .int x6), (7, .int x7), (8, .int x8), (9, .int x9)]) (st' := [.int (x7 + x9), .ref 16, .int x8]) dX6_cheapestOf_44 rfl ?_
    obtain ⟨j1, e2, b3, H⟩ := H
    refine RR.iald dX6_cheapestOf_45 rfl e2 b3 ?_
    refine RR.s2 (pc' := 47) (lv' := [(0, .ref 0), (1, .int x1), (2, .int x2), (4, .int x4), (5, .int x5), (6, .int x6), (7, .int x7), (8, .int x8), (9, .int x9)]) (st' := [.int x1, .int (σ.1 16 j1), .int x8]) dX6_cheapestOf_46 rfl ?_
    refine RR.cS (d' := 1) dX6_cheapestOf_47 ml_X6_127 (as := [.int (σ.1 16 j1), .int x1]) (rest := [.int x8]) rfl rfl (Nat.le_of_ble_eq_true rfl) (Nat.le_of_ble_eq_true rfl) (by decide) ?_
    show RR 1 1 mX6_isIn 0 [(0, .int (σ.1 16 j1)), (1, .int x1)] [] σ _
    refine RR.s2 (pc' := 1) (lv' := [(0, .int (σ.1 16 j1)), (1, .int x1)]) (st' := [.int (σ.1 16 j1)]) dX6_isIn_0 rfl ?_
    refine RR.s2 (pc' := 2) (lv' := [(0, .int (σ.1 16 j1)), (1, .int x1)]) (st' := [.int x1, .int (σ.1 16 j1)]) dX6_isIn_1 rfl ?_
    refine RR.s2 (pc' := 3) (lv' := [(0, .int (σ.1 16 j1)), (1, .int x1)]) (st' := [.int (sr (σ.1 16 j1) x1)]) dX6_isIn_2 rfl ?_
    refine RR.ic (v := 1) dX6_isIn_3 (by decide) ?_
    refine RR.s2 (pc' := 5) (lv' := [(0, .int (σ.1 16 j1)), (1, .int x1)]) (st' := [.int ((sr (σ.1 16 j1) x1) &&& 1)]) dX6_isIn_4 rfl ?_
    refine RR.ic (v := 1) dX6_isIn_5 (by decide) ?_
    refine RR.br dX6_isIn_6 rfl (fun c => ?_) (fun c => ?_)
    · have H := H.1 c
      refine RR.ic (v := 0) dX6_isIn_13 (by decide) ?_
      refine RR.zret dX6_isIn_14 rfl (by decide) ?_
      show RR 1 5 mX6_cheapestOf 50 [(0, .ref 0), (1, .int x1), (2, .int x2), (4, .int x4), (5, .int x5), (6, .int x6), (7, .int x7), (8, .int x8), (9, .int x9)] [.int 0, .int x8] σ _
      refine RR.brT dX6_cheapestOf_50 rfl (by decide) ?_
      refine RR.s2 (pc' := 58) (lv' := [(0, .ref 0), (1, .int x1), (2, .int x2), (4, .int x4), (5, .int x5), (6, .int x6), (7, .int x7), (8, .int x8), (9, .int x9)]) (st' := [.ref 0, .int x8]) dX6_cheapestOf_57 rfl ?_
      refine RR.getR dX6_cheapestOf_58 fl_X6_13 rfl rfl ?_
      refine RR.s2 (pc' := 62) (lv' := [(0, .ref 0), (1, .int x1), (2, .int x2), (4, .int x4), (5, .int x5), (6, .int x6), (7, .int x7), (8, .int x8), (9, .int x9)]) (st' := [.int x1, .ref 2, .int x8]) dX6_cheapestOf_61 rfl ?_
      obtain ⟨j4, e5, b6, H⟩ := H
      refine RR.iald dX6_cheapestOf_62 rfl e5 b6 ?_
      refine RR.s2 (pc' := 64) (lv' := [(0, .ref 0), (1, .int x1), (2, .int x2), (4, .int x4), (5, .int x5), (6, .int x6), (7, .int x7), (8, .int x8), (9, .int x9)]) (st' := [.int (x8 + (σ.1 2 j4))]) dX6_cheapestOf_63 rfl ?_
      refine RR.s2 (pc' := 66) (lv' := [(0, .ref 0), (1, .int x1), (2, .int x2), (4, .int x4), (5, .int x5), (6, .int x6), (7, .int x7), (8, .int (x8 + (σ.1 2 j4))), (9, .int x9)]) (st' := []) dX6_cheapestOf_64 rfl ?_
      refine RR.inc (c := 1) (lv' := [(0, .ref 0), (1, .int x1), (2, .int x2), (4, .int x4), (5, .int x5), (6, .int x6), (7, .int x7), (8, .int (x8 + (σ.1 2 j4))), (9, .int (x9 + 1))]) dX6_cheapestOf_66 rfl (by decide) (by decide) rfl ?_
      refine RR.s2 (pc' := 28) (lv' := [(0, .ref 0), (1, .int x1), (2, .int x2), (4, .int x4), (5, .int x5), (6, .int x6), (7, .int x7), (8, .int (x8 + (σ.1 2 j4))), (9, .int (x9 + 1))]) (st' := []) dX6_cheapestOf_69 rfl ?_
      exact RR.cut [0, 1, 2, 3, 4, 5, 6, 7, 8] rfl H
    · have H := H.2 (Classical.not_not.mp c)
      refine RR.ic (v := 1) dX6_isIn_9 (by decide) ?_
      refine RR.s2 (pc' := 14) (lv' := [(0, .int (σ.1 16 j1)), (1, .int x1)]) (st' := [.int 1]) dX6_isIn_10 rfl ?_
      refine RR.zret dX6_isIn_14 rfl (by decide) ?_
      show RR 1 5 mX6_cheapestOf 50 [(0, .ref 0), (1, .int x1), (2, .int x2), (4, .int x4), (5, .int x5), (6, .int x6), (7, .int x7), (8, .int x8), (9, .int x9)] [.int 1, .int x8] σ _
      refine RR.brF dX6_cheapestOf_50 rfl (by decide) ?_
      refine RR.ic (v := 0) dX6_cheapestOf_53 (by decide) ?_
      refine RR.s2 (pc' := 63) (lv' := [(0, .ref 0), (1, .int x1), (2, .int x2), (4, .int x4), (5, .int x5), (6, .int x6), (7, .int x7), (8, .int x8), (9, .int x9)]) (st' := [.int 0, .int x8]) dX6_cheapestOf_54 rfl ?_
      refine RR.s2 (pc' := 64) (lv' := [(0, .ref 0), (1, .int x1), (2, .int x2), (4, .int x4), (5, .int x5), (6, .int x6), (7, .int x7), (8, .int x8), (9, .int x9)]) (st' := [.int (x8 + 0)]) dX6_cheapestOf_63 rfl ?_
      refine RR.s2 (pc' := 66) (lv' := [(0, .ref 0), (1, .int x1), (2, .int x2), (4, .int x4), (5, .int x5), (6, .int x6), (7, .int x7), (8, .int (x8 + 0)), (9, .int x9)]) (st' := []) dX6_cheapestOf_64 rfl ?_
      refine RR.inc (c := 1) (lv' := [(0, .ref 0), (1, .int x1), (2, .int x2), (4, .int x4), (5, .int x5), (6, .int x6), (7, .int x7), (8, .int (x8 + 0)), (9, .int (x9 + 1))]) dX6_cheapestOf_66 rfl (by decide) (by decide) rfl ?_
      refine RR.s2 (pc' := 28) (lv' := [(0, .ref 0), (1, .int x1), (2, .int x2), (4, .int x4), (5, .int x5), (6, .int x6), (7, .int x7), (8, .int (x8 + 0)), (9, .int (x9 + 1))]) (st' := []) dX6_cheapestOf_69 rfl ?_
      exact RR.cut [0, 1, 2, 3, 4, 5, 6, 7, 8] rfl H
set_option maxRecDepth 20000 in
theorem b_X6_cheapestOf_90 {σ : r_St} {K : Int32 → r_St → Prop} {x1 : Int32} {x2 : Int32} {x4 : Int32} {x5 : Int32} {x6 : Int32} {x7 : Int32} {x8 : Int32} {t0 : Int32}  (H : (t0 = 0 → R_X6_cheapestOf_104 σ K x1 x2 x4 x6 x7 x8 t0 x5) ∧ (¬ (t0 = 0) → R_X6_cheapestOf_104 σ K x1 x2 x4 x6 x7 x8 t0 x7)) : R_X6_cheapestOf_90 σ K x1 x2 x4 x5 x6 x7 x8 t0 := by
  show RR 1 5 mX6_cheapestOf 90 [(0, .ref 0), (1, .int x1), (2, .int x2), (4, .int x4), (5, .int x5), (6, .int x6), (7, .int x7), (8, .int x8)] [.int t0] σ (rI K)
  refine RR.s2 (pc' := 92) (lv' := [(0, .ref 0), (1, .int x1), (2, .int x2), (4, .int x4), (5, .int x5), (6, .int x6), (7, .int x7), (8, .int x8), (9, .int t0)]) (st' := []) dX6_cheapestOf_90 rfl ?_
  refine RR.s2 (pc' := 94) (lv' := [(0, .ref 0), (1, .int x1), (2, .int x2), (4, .int x4), (5, .int x5), (6, .int x6), (7, .int x7), (8, .int x8), (9, .int t0)]) (st' := [.int t0]) dX6_cheapestOf_92 rfl ?_
  refine RR.br dX6_cheapestOf_94 rfl (fun c => ?_) (fun c => ?_)
  · have H := H.1 c
    refine RR.s2 (pc' := 104) (lv' := [(0, .ref 0), (1, .int x1), (2, .int x2), (4, .int x4), (5, .int x5), (6, .int x6), (7, .int x7), (8, .int x8), (9, .int t0)]) (st' := [.int x5]) dX6_cheapestOf_102 rfl ?_
    exact RR.cut [0, 1, 2, 3, 5, 6, 7, 8] rfl H
  · have H := H.2 c
    refine RR.s2 (pc' := 99) (lv' := [(0, .ref 0), (1, .int x1), (2, .int x2), (4, .int x4), (5, .int x5), (6, .int x6), (7, .int x7), (8, .int x8), (9, .int t0)]) (st' := [.int x7]) dX6_cheapestOf_97 rfl ?_
    refine RR.s2 (pc' := 104) (lv' := [(0, .ref 0), (1, .int x1), (2, .int x2), (4, .int x4), (5, .int x5), (6, .int x6), (7, .int x7), (8, .int x8), (9, .int t0)]) (st' := [.int x7]) dX6_cheapestOf_99 rfl ?_
    exact RR.cut [0, 1, 2, 3, 5, 6, 7, 8] rfl H
set_option maxRecDepth 20000 in
theorem b_X6_cheapestOf_104 {σ : r_St} {K : Int32 → r_St → Prop} {x1 : Int32} {x2 : Int32} {x4 : Int32} {x6 : Int32} {x7 : Int32} {x8 : Int32} {x9 : Int32} {t0 : Int32}  (H : (x9 = 0 → R_X6_cheapestOf_13 σ K x1 x2 x4 t0 x6 (x7 + 1)) ∧ (¬ (x9 = 0) → R_X6_cheapestOf_13 σ K x1 x2 x4 t0 x8 (x7 + 1))) : R_X6_cheapestOf_104 σ K x1 x2 x4 x6 x7 x8 x9 t0 := by
  show RR 1 5 mX6_cheapestOf 104 [(0, .ref 0), (1, .int x1), (2, .int x2), (4, .int x4), (6, .int x6), (7, .int x7), (8, .int x8), (9, .int x9)] [.int t0] σ (rI K)
  refine RR.s2 (pc' := 106) (lv' := [(0, .ref 0), (1, .int x1), (2, .int x2), (4, .int x4), (5, .int t0), (6, .int x6), (7, .int x7), (8, .int x8), (9, .int x9)]) (st' := []) dX6_cheapestOf_104 rfl ?_
  refine RR.s2 (pc' := 108) (lv' := [(0, .ref 0), (1, .int x1), (2, .int x2), (4, .int x4), (5, .int t0), (6, .int x6), (7, .int x7), (8, .int x8), (9, .int x9)]) (st' := [.int x9]) dX6_cheapestOf_106 rfl ?_
  refine RR.br dX6_cheapestOf_108 rfl (fun c => ?_) (fun c => ?_)
  · have H := H.1 c
    refine RR.s2 (pc' := 118) (lv' := [(0, .ref 0), (1, .int x1), (2, .int x2), (4, .int x4), (5, .int t0), (6, .int x6), (7, .int x7), (8, .int x8), (9, .int x9)]) (st' := [.int x6]) dX6_cheapestOf_116 rfl ?_
    refine RR.s2 (pc' := 120) (lv' := [(0, .ref 0), (1, .int x1), (2, .int x2), (4, .int x4), (5, .int t0), (6, .int x6), (7, .int x7), (8, .int x8), (9, .int x9)]) (st' := []) dX6_cheapestOf_118 rfl ?_
    refine RR.inc (c := 1) (lv' := [(0, .ref 0), (1, .int x1), (2, .int x2), (4, .int x4), (5, .int t0), (6, .int x6), (7, .int (x7 + 1)), (8, .int x8), (9, .int x9)]) dX6_cheapestOf_120 rfl (by decide) (by decide) rfl ?_
    refine RR.s2 (pc' := 13) (lv' := [(0, .ref 0), (1, .int x1), (2, .int x2), (4, .int x4), (5, .int t0), (6, .int x6), (7, .int (x7 + 1)), (8, .int x8), (9, .int x9)]) (st' := []) dX6_cheapestOf_123 rfl ?_
    exact RR.cut [0, 1, 2, 3, 4, 5, 6] rfl H
  · have H := H.2 c
    refine RR.s2 (pc' := 113) (lv' := [(0, .ref 0), (1, .int x1), (2, .int x2), (4, .int x4), (5, .int t0), (6, .int x6), (7, .int x7), (8, .int x8), (9, .int x9)]) (st' := [.int x8]) dX6_cheapestOf_111 rfl ?_
    refine RR.s2 (pc' := 118) (lv' := [(0, .ref 0), (1, .int x1), (2, .int x2), (4, .int x4), (5, .int t0), (6, .int x6), (7, .int x7), (8, .int x8), (9, .int x9)]) (st' := [.int x8]) dX6_cheapestOf_113 rfl ?_
    refine RR.s2 (pc' := 120) (lv' := [(0, .ref 0), (1, .int x1), (2, .int x2), (4, .int x4), (5, .int t0), (6, .int x8), (7, .int x7), (8, .int x8), (9, .int x9)]) (st' := []) dX6_cheapestOf_118 rfl ?_
    refine RR.inc (c := 1) (lv' := [(0, .ref 0), (1, .int x1), (2, .int x2), (4, .int x4), (5, .int t0), (6, .int x8), (7, .int (x7 + 1)), (8, .int x8), (9, .int x9)]) dX6_cheapestOf_120 rfl (by decide) (by decide) rfl ?_
    refine RR.s2 (pc' := 13) (lv' := [(0, .ref 0), (1, .int x1), (2, .int x2), (4, .int x4), (5, .int t0), (6, .int x8), (7, .int (x7 + 1)), (8, .int x8), (9, .int x9)]) (st' := []) dX6_cheapestOf_123 rfl ?_
    exact RR.cut [0, 1, 2, 3, 4, 5, 6] rfl H
set_option maxRecDepth 20000 in
theorem b_X6_cheapest {σ : r_St} {K : Int32 → r_St → Prop} {x1 : Int32} {x2 : Int32} {x3 : Int32} {x4 : Int32}  (H : M_X6_isDeed σ (fun v2 s1 => (v2 = 0 → K (-2) s1) ∧ (¬ (v2 = 0) → ((IN x2 1 9 → ((IN x3 0 39 → ((IN x4 0 1 → M_X6_cheapestOf s1 (fun v4 s3 => K v4 s3) x1 x2 x3 x4) ∧ (¬ IN x4 0 1 → K (-2) s1))) ∧ (¬ IN x3 0 39 → K (-2) s1))) ∧ (¬ IN x2 1 9 → K (-2) s1)))) x1) : M_X6_cheapest σ K x1 x2 x3 x4 := by
  show RR 1 6 mX6_cheapest 0 [(0, .ref 0), (1, .int x1), (2, .int x2), (3, .int x3), (4, .int x4)] [] σ (rI K)
  refine RR.s2 (pc' := 1) (lv' := [(0, .ref 0), (1, .int x1), (2, .int x2), (3, .int x3), (4, .int x4)]) (st' := [.ref 0]) dX6_cheapest_0 rfl ?_
  refine RR.s2 (pc' := 2) (lv' := [(0, .ref 0), (1, .int x1), (2, .int x2), (3, .int x3), (4, .int x4)]) (st' := [.int x1, .ref 0]) dX6_cheapest_1 rfl ?_
  refine RR.cV dX6_cheapest_2 ml_X6_137 rfl rfl (as := [.int x1]) (rest := []) rfl rfl (Nat.le_of_ble_eq_true rfl) (Nat.le_of_ble_eq_true rfl) (by decide) (RR.toI H (fun v2 s1 H => ?_))
  show RR 1 6 mX6_cheapest 5 [(0, .ref 0), (1, .int x1), (2, .int x2), (3, .int x3), (4, .int x4)] [.int v2] s1 _
  refine RR.br dX6_cheapest_5 rfl (fun c => ?_) (fun c => ?_)
  · have H := H.1 c
    refine RR.bp (v := (-2)) dX6_cheapest_45 (by decide) ?_
    exact RR.iret dX6_cheapest_47 rfl ⟨_, rfl, H⟩
  · have H := H.2 c
    refine RR.s2 (pc' := 9) (lv' := [(0, .ref 0), (1, .int x1), (2, .int x2), (3, .int x3), (4, .int x4)]) (st' := [.int x2]) dX6_cheapest_8 rfl ?_
    refine RR.ic (v := 1) dX6_cheapest_9 (by decide) ?_
    refine RR.bp (v := 9) dX6_cheapest_10 (by decide) ?_
    refine RR.cS dX6_cheapest_12 ml_X6_106 (as := [.int x2, .int 1, .int 9]) (rest := []) rfl rfl (Nat.le_of_ble_eq_true rfl) (Nat.le_of_ble_eq_true rfl) (by decide) (kb_X6_in (fun c => ?_) (fun c => ?_))
    · have H := H.1 c
      show RR 1 6 mX6_cheapest 15 [(0, .ref 0), (1, .int x1), (2, .int x2), (3, .int x3), (4, .int x4)] [.int 1] s1 _
      refine RR.brF dX6_cheapest_15 rfl (by decide) ?_
      refine RR.s2 (pc' := 19) (lv' := [(0, .ref 0), (1, .int x1), (2, .int x2), (3, .int x3), (4, .int x4)]) (st' := [.int x3]) dX6_cheapest_18 rfl ?_
      refine RR.cS dX6_cheapest_19 ml_X6_151 (as := [.int x3]) (rest := []) rfl rfl (Nat.le_of_ble_eq_true rfl) (Nat.le_of_ble_eq_true rfl) (by decide) (kb_X6_isDay (fun c => ?_) (fun c => ?_))
      · have H := H.1 c
        show RR 1 6 mX6_cheapest 22 [(0, .ref 0), (1, .int x1), (2, .int x2), (3, .int x3), (4, .int x4)] [.int 1] s1 _
        refine RR.brF dX6_cheapest_22 rfl (by decide) ?_
        refine RR.s2 (pc' := 27) (lv' := [(0, .ref 0), (1, .int x1), (2, .int x2), (3, .int x3), (4, .int x4)]) (st' := [.int x4]) dX6_cheapest_25 rfl ?_
        refine RR.cS dX6_cheapest_27 ml_X6_145 (as := [.int x4]) (rest := []) rfl rfl (Nat.le_of_ble_eq_true rfl) (Nat.le_of_ble_eq_true rfl) (by decide) (kb_X6_isTwo (fun c => ?_) (fun c => ?_))
        · have H := H.1 c
          show RR 1 6 mX6_cheapest 30 [(0, .ref 0), (1, .int x1), (2, .int x2), (3, .int x3), (4, .int x4)] [.int 1] s1 _
          refine RR.brF dX6_cheapest_30 rfl (by decide) ?_
          refine RR.s2 (pc' := 34) (lv' := [(0, .ref 0), (1, .int x1), (2, .int x2), (3, .int x3), (4, .int x4)]) (st' := [.ref 0]) dX6_cheapest_33 rfl ?_
          refine RR.s2 (pc' := 35) (lv' := [(0, .ref 0), (1, .int x1), (2, .int x2), (3, .int x3), (4, .int x4)]) (st' := [.int x1, .ref 0]) dX6_cheapest_34 rfl ?_
          refine RR.s2 (pc' := 36) (lv' := [(0, .ref 0), (1, .int x1), (2, .int x2), (3, .int x3), (4, .int x4)]) (st' := [.int x2, .int x1, .ref 0]) dX6_cheapest_35 rfl ?_
          refine RR.s2 (pc' := 37) (lv' := [(0, .ref 0), (1, .int x1), (2, .int x2), (3, .int x3), (4, .int x4)]) (st' := [.int x3, .int x2, .int x1, .ref 0]) dX6_cheapest_36 rfl ?_
          refine RR.s2 (pc' := 39) (lv' := [(0, .ref 0), (1, .int x1), (2, .int x2), (3, .int x3), (4, .int x4)]) (st' := [.int x4, .int x3, .int x2, .int x1, .ref 0]) dX6_cheapest_37 rfl ?_
          refine RR.cV dX6_cheapest_39 ml_X6_228 rfl rfl (as := [.int x1, .int x2, .int x3, .int x4]) (rest := []) rfl rfl (Nat.le_of_ble_eq_true rfl) (Nat.le_of_ble_eq_true rfl) (by decide) (RR.toI H (fun v4 s3 H => ?_))
          show RR 1 6 mX6_cheapest 42 [(0, .ref 0), (1, .int x1), (2, .int x2), (3, .int x3), (4, .int x4)] [.int v4] s3 _
          refine RR.s2 (pc' := 47) (lv' := [(0, .ref 0), (1, .int x1), (2, .int x2), (3, .int x3), (4, .int x4)]) (st' := [.int v4]) dX6_cheapest_42 rfl ?_
          exact RR.iret dX6_cheapest_47 rfl ⟨_, rfl, H⟩
        · have H := H.2 c
          show RR 1 6 mX6_cheapest 30 [(0, .ref 0), (1, .int x1), (2, .int x2), (3, .int x3), (4, .int x4)] [.int 0] s1 _
          refine RR.brT dX6_cheapest_30 rfl (by decide) ?_
          refine RR.bp (v := (-2)) dX6_cheapest_45 (by decide) ?_
          exact RR.iret dX6_cheapest_47 rfl ⟨_, rfl, H⟩
      · have H := H.2 c
        show RR 1 6 mX6_cheapest 22 [(0, .ref 0), (1, .int x1), (2, .int x2), (3, .int x3), (4, .int x4)] [.int 0] s1 _
        refine RR.brT dX6_cheapest_22 rfl (by decide) ?_
        refine RR.bp (v := (-2)) dX6_cheapest_45 (by decide) ?_
        exact RR.iret dX6_cheapest_47 rfl ⟨_, rfl, H⟩
    · have H := H.2 c
      show RR 1 6 mX6_cheapest 15 [(0, .ref 0), (1, .int x1), (2, .int x2), (3, .int x3), (4, .int x4)] [.int 0] s1 _
      refine RR.brT dX6_cheapest_15 rfl (by decide) ?_
      refine RR.bp (v := (-2)) dX6_cheapest_45 (by decide) ?_
      exact RR.iret dX6_cheapest_47 rfl ⟨_, rfl, H⟩
set_option maxRecDepth 20000 in
theorem b_X6_finishBy {σ : r_St} {K : Int32 → r_St → Prop} {x1 : Int32}  (H : R_X6_finishBy_4 σ K x1 0) : M_X6_finishBy σ K x1 := by
  show RR 1 3 mX6_finishBy 0 [(0, .ref 0), (1, .int x1)] [] σ (rI K)
  refine RR.s2 (pc' := 1) (lv' := [(0, .ref 0), (1, .int x1)]) (st' := [.int x1]) dX6_finishBy_0 rfl ?_
  refine RR.s2 (pc' := 2) (lv' := [(0, .ref 0), (1, .int x1), (2, .int x1)]) (st' := []) dX6_finishBy_1 rfl ?_
  refine RR.ic (v := 0) dX6_finishBy_2 (by decide) ?_
  refine RR.s2 (pc' := 4) (lv' := [(0, .ref 0), (1, .int x1), (2, .int x1), (3, .int 0)]) (st' := []) dX6_finishBy_3 rfl ?_
  exact RR.cut [0, 2, 3] rfl H
set_option maxRecDepth 20000 in
theorem b_X6_finishBy_4 {σ : r_St} {K : Int32 → r_St → Prop} {x2 : Int32} {x3 : Int32}  (H : (σ.1 3 4 ≤ x3 → ((¬ σ.1 3 4 = 0 → K (x2 - 1) σ) ∧ (σ.1 3 4 = 0 → K (-1) σ))) ∧ (¬ (σ.1 3 4 ≤ x3) → (∃ j1 : Nat, x3 = nI j1 ∧ j1 < 6 ∧ (∃ j4 : Nat, σ.1 19 j1 = nI j4 ∧ j4 < 6 ∧ (∃ j7 : Nat, σ.1 19 j1 = nI j7 ∧ j7 < 6 ∧ (M_X6_firstFor σ (fun v11 s10 => ∃ j12 : Nat, x3 = nI j12 ∧ j12 < 6 ∧ (∃ j15 : Nat, x3 = nI j15 ∧ j15 < 6 ∧ ((¬ (wI s10 18 j12 v11).1 18 j15 = (-1) → (∃ j18 : Nat, x3 = nI j18 ∧ j18 < 6 ∧ (∃ j21 : Nat, σ.1 19 j1 = nI j21 ∧ j21 < 6 ∧ R_X6_finishBy_4 (wI s10 18 j12 v11) K (((wI s10 18 j12 v11).1 18 j18) + ((wI s10 18 j12 v11).1 13 j21)) (x3 + 1)))) ∧ ((wI s10 18 j12 v11).1 18 j15 = (-1) → K (-1) (wI s10 18 j12 v11))))) (σ.1 12 j4) (σ.1 13 j7) x2)))))) : R_X6_finishBy_4 σ K x2 x3 := by
  show RR 1 3 mX6_finishBy 4 [(0, .ref 0), (2, .int x2), (3, .int x3)] [] σ (rI K)
  refine RR.s2 (pc' := 5) (lv' := [(0, .ref 0), (2, .int x2), (3, .int x3)]) (st' := [.int x3]) dX6_finishBy_4 rfl ?_
  refine RR.s2 (pc' := 6) (lv' := [(0, .ref 0), (2, .int x2), (3, .int x3)]) (st' := [.ref 0, .int x3]) dX6_finishBy_5 rfl ?_
  refine RR.getR dX6_finishBy_6 fl_X6_16 rfl rfl ?_
  refine RR.ic (v := 4) dX6_finishBy_9 (by decide) ?_
  refine RR.iald (j := 4) dX6_finishBy_10 rfl rfl (by decide) ?_
  refine RR.br dX6_finishBy_11 rfl (fun c => ?_) (fun c => ?_)
  · have H := H.1 c
    refine RR.s2 (pc' := 81) (lv' := [(0, .ref 0), (2, .int x2), (3, .int x3)]) (st' := [.ref 0]) dX6_finishBy_80 rfl ?_
    refine RR.getR dX6_finishBy_81 fl_X6_16 rfl rfl ?_
    refine RR.ic (v := 4) dX6_finishBy_84 (by decide) ?_
    refine RR.iald (j := 4) dX6_finishBy_85 rfl rfl (by decide) ?_
    refine RR.br dX6_finishBy_86 rfl (fun c => ?_) (fun c => ?_)
    · have H := H.1 c
      refine RR.s2 (pc' := 94) (lv' := [(0, .ref 0), (2, .int x2), (3, .int x3)]) (st' := [.int x2]) dX6_finishBy_93 rfl ?_
      refine RR.ic (v := 1) dX6_finishBy_94 (by decide) ?_
      refine RR.s2 (pc' := 96) (lv' := [(0, .ref 0), (2, .int x2), (3, .int x3)]) (st' := [.int (x2 - 1)]) dX6_finishBy_95 rfl ?_
      exact RR.iret dX6_finishBy_96 rfl ⟨_, rfl, H⟩
    · have H := H.2 (Classical.not_not.mp c)
      refine RR.ic (v := (-1)) dX6_finishBy_89 (by decide) ?_
      refine RR.s2 (pc' := 96) (lv' := [(0, .ref 0), (2, .int x2), (3, .int x3)]) (st' := [.int (-1)]) dX6_finishBy_90 rfl ?_
      exact RR.iret dX6_finishBy_96 rfl ⟨_, rfl, H⟩
  · have H := H.2 c
    refine RR.s2 (pc' := 15) (lv' := [(0, .ref 0), (2, .int x2), (3, .int x3)]) (st' := [.ref 0]) dX6_finishBy_14 rfl ?_
    refine RR.getR dX6_finishBy_15 fl_X6_64 rfl rfl ?_
    refine RR.s2 (pc' := 19) (lv' := [(0, .ref 0), (2, .int x2), (3, .int x3)]) (st' := [.int x3, .ref 19]) dX6_finishBy_18 rfl ?_
    obtain ⟨j1, e2, b3, H⟩ := H
    refine RR.iald dX6_finishBy_19 rfl e2 b3 ?_
    refine RR.s2 (pc' := 22) (lv' := [(0, .ref 0), (2, .int x2), (3, .int x3), (4, .int (σ.1 19 j1))]) (st' := []) dX6_finishBy_20 rfl ?_
    refine RR.s2 (pc' := 23) (lv' := [(0, .ref 0), (2, .int x2), (3, .int x3), (4, .int (σ.1 19 j1))]) (st' := [.ref 0]) dX6_finishBy_22 rfl ?_
    refine RR.getR dX6_finishBy_23 fl_X6_61 rfl rfl ?_
    refine RR.s2 (pc' := 27) (lv' := [(0, .ref 0), (2, .int x2), (3, .int x3), (4, .int (σ.1 19 j1))]) (st' := [.int x3, .ref 18]) dX6_finishBy_26 rfl ?_
    refine RR.s2 (pc' := 28) (lv' := [(0, .ref 0), (2, .int x2), (3, .int x3), (4, .int (σ.1 19 j1))]) (st' := [.ref 0, .int x3, .ref 18]) dX6_finishBy_27 rfl ?_
    refine RR.s2 (pc' := 29) (lv' := [(0, .ref 0), (2, .int x2), (3, .int x3), (4, .int (σ.1 19 j1))]) (st' := [.ref 0, .ref 0, .int x3, .ref 18]) dX6_finishBy_28 rfl ?_
    refine RR.getR dX6_finishBy_29 fl_X6_43 rfl rfl ?_
    refine RR.s2 (pc' := 34) (lv' := [(0, .ref 0), (2, .int x2), (3, .int x3), (4, .int (σ.1 19 j1))]) (st' := [.int (σ.1 19 j1), .ref 12, .ref 0, .int x3, .ref 18]) dX6_finishBy_32 rfl ?_
    obtain ⟨j4, e5, b6, H⟩ := H
    refine RR.iald dX6_finishBy_34 rfl e5 b6 ?_
    refine RR.s2 (pc' := 36) (lv' := [(0, .ref 0), (2, .int x2), (3, .int x3), (4, .int (σ.1 19 j1))]) (st' := [.ref 0, .int (σ.1 12 j4), .ref 0, .int x3, .ref 18]) dX6_finishBy_35 rfl ?_
    refine RR.getR dX6_finishBy_36 fl_X6_46 rfl rfl ?_
    refine RR.s2 (pc' := 41) (lv' := [(0, .ref 0), (2, .int x2), (3, .int x3), (4, .int (σ.1 19 j1))]) (st' := [.int (σ.1 19 j1), .ref 13, .int (σ.1 12 j4), .ref 0, .int x3, .ref 18]) dX6_finishBy_39 rfl ?_
    obtain ⟨j7, e8, b9, H⟩ := H
    refine RR.iald dX6_finishBy_41 rfl e8 b9 ?_
    refine RR.s2 (pc' := 43) (lv' := [(0, .ref 0), (2, .int x2), (3, .int x3), (4, .int (σ.1 19 j1))]) (st' := [.int x2, .int (σ.1 13 j7), .int (σ.1 12 j4), .ref 0, .int x3, .ref 18]) dX6_finishBy_42 rfl ?_
    refine RR.cV dX6_finishBy_43 ml_X6_221 rfl rfl (as := [.int (σ.1 12 j4), .int (σ.1 13 j7), .int x2]) (rest := [.int x3, .ref 18]) rfl rfl (Nat.le_of_ble_eq_true rfl) (Nat.le_of_ble_eq_true rfl) (by decide) (RR.toI H (fun v11 s10 H => ?_))
    show RR 1 3 mX6_finishBy 46 [(0, .ref 0), (2, .int x2), (3, .int x3), (4, .int (σ.1 19 j1))] [.int v11, .int x3, .ref 18] s10 _
    obtain ⟨j12, e13, b14, H⟩ := H
    refine RR.iast dX6_finishBy_46 rfl e13 b14 ?_
    refine RR.s2 (pc' := 48) (lv' := [(0, .ref 0), (2, .int x2), (3, .int x3), (4, .int (σ.1 19 j1))]) (st' := [.ref 0]) dX6_finishBy_47 rfl ?_
    refine RR.getR dX6_finishBy_48 fl_X6_61 rfl rfl ?_
    refine RR.s2 (pc' := 52) (lv' := [(0, .ref 0), (2, .int x2), (3, .int x3), (4, .int (σ.1 19 j1))]) (st' := [.int x3, .ref 18]) dX6_finishBy_51 rfl ?_
    obtain ⟨j15, e16, b17, H⟩ := H
    refine RR.iald dX6_finishBy_52 rfl e16 b17 ?_
    refine RR.ic (v := (-1)) dX6_finishBy_53 (by decide) ?_
    refine RR.br dX6_finishBy_54 rfl (fun c => ?_) (fun c => ?_)
    · have H := H.1 c
      refine RR.s2 (pc' := 60) (lv' := [(0, .ref 0), (2, .int x2), (3, .int x3), (4, .int (σ.1 19 j1))]) (st' := [.ref 0]) dX6_finishBy_59 rfl ?_
      refine RR.getR dX6_finishBy_60 fl_X6_61 rfl rfl ?_
      refine RR.s2 (pc' := 64) (lv' := [(0, .ref 0), (2, .int x2), (3, .int x3), (4, .int (σ.1 19 j1))]) (st' := [.int x3, .ref 18]) dX6_finishBy_63 rfl ?_
      obtain ⟨j18, e19, b20, H⟩ := H
      refine RR.iald dX6_finishBy_64 rfl e19 b20 ?_
      refine RR.s2 (pc' := 66) (lv' := [(0, .ref 0), (2, .int x2), (3, .int x3), (4, .int (σ.1 19 j1))]) (st' := [.ref 0, .int ((wI s10 18 j12 v11).1 18 j18)]) dX6_finishBy_65 rfl ?_
      refine RR.getR dX6_finishBy_66 fl_X6_46 rfl rfl ?_
      refine RR.s2 (pc' := 71) (lv' := [(0, .ref 0), (2, .int x2), (3, .int x3), (4, .int (σ.1 19 j1))]) (st' := [.int (σ.1 19 j1), .ref 13, .int ((wI s10 18 j12 v11).1 18 j18)]) dX6_finishBy_69 rfl ?_
      obtain ⟨j21, e22, b23, H⟩ := H
      refine RR.iald dX6_finishBy_71 rfl e22 b23 ?_
      refine RR.s2 (pc' := 73) (lv' := [(0, .ref 0), (2, .int x2), (3, .int x3), (4, .int (σ.1 19 j1))]) (st' := [.int (((wI s10 18 j12 v11).1 18 j18) + ((wI s10 18 j12 v11).1 13 j21))]) dX6_finishBy_72 rfl ?_
      refine RR.s2 (pc' := 74) (lv' := [(0, .ref 0), (2, .int (((wI s10 18 j12 v11).1 18 j18) + ((wI s10 18 j12 v11).1 13 j21))), (3, .int x3), (4, .int (σ.1 19 j1))]) (st' := []) dX6_finishBy_73 rfl ?_
      refine RR.inc (c := 1) (lv' := [(0, .ref 0), (2, .int (((wI s10 18 j12 v11).1 18 j18) + ((wI s10 18 j12 v11).1 13 j21))), (3, .int (x3 + 1)), (4, .int (σ.1 19 j1))]) dX6_finishBy_74 rfl (by decide) (by decide) rfl ?_
      refine RR.s2 (pc' := 4) (lv' := [(0, .ref 0), (2, .int (((wI s10 18 j12 v11).1 18 j18) + ((wI s10 18 j12 v11).1 13 j21))), (3, .int (x3 + 1)), (4, .int (σ.1 19 j1))]) (st' := []) dX6_finishBy_77 rfl ?_
      exact RR.cut [0, 1, 2] rfl H
    · have H := H.2 (Classical.not_not.mp c)
      refine RR.ic (v := (-1)) dX6_finishBy_57 (by decide) ?_
      exact RR.iret dX6_finishBy_58 rfl ⟨_, rfl, H⟩
set_option maxRecDepth 20000 in
theorem b_X6_finishOf {σ : r_St} {K : Int32 → r_St → Prop} {x1 : Int32} {x2 : Int32}  (H : M_X6_laysTold σ (fun s1 => R_X6_finishOf_6 s1 K x1 x2 0)) : M_X6_finishOf σ K x1 x2 := by
  show RR 1 5 mX6_finishOf 0 [(0, .ref 0), (1, .int x1), (2, .int x2)] [] σ (rI K)
  refine RR.s2 (pc' := 1) (lv' := [(0, .ref 0), (1, .int x1), (2, .int x2)]) (st' := [.ref 0]) dX6_finishOf_0 rfl ?_
  refine RR.cV dX6_finishOf_1 ml_X6_194 rfl rfl (as := []) (rest := []) rfl rfl (Nat.le_of_ble_eq_true rfl) (Nat.le_of_ble_eq_true rfl) (by decide) (RR.toV H (fun s1 H => ?_))
  show RR 1 5 mX6_finishOf 4 [(0, .ref 0), (1, .int x1), (2, .int x2)] [] s1 _
  refine RR.ic (v := 0) dX6_finishOf_4 (by decide) ?_
  refine RR.s2 (pc' := 6) (lv' := [(0, .ref 0), (1, .int x1), (2, .int x2), (3, .int 0)]) (st' := []) dX6_finishOf_5 rfl ?_
  exact RR.cut [0, 1, 2, 3] rfl H
set_option maxRecDepth 20000 in
theorem b_X6_finishOf_6 {σ : r_St} {K : Int32 → r_St → Prop} {x1 : Int32} {x2 : Int32} {x3 : Int32}  (H : (6 ≤ x3 → (M_X6_finishBy σ (fun v2 s1 => (x2 = (-1) → K v2 s1) ∧ (¬ (x2 = (-1)) → ((¬ v2 = (-1) → ((s1.1 3 4 ≤ x2 → K (-1) s1) ∧ (¬ (s1.1 3 4 ≤ x2) → (∃ j3 : Nat, x2 = nI j3 ∧ j3 < 6 ∧ K (s1.1 18 j3) s1)))) ∧ (v2 = (-1) → K v2 s1)))) x1)) ∧ (¬ (6 ≤ x3) → (∃ j6 : Nat, x3 = nI j6 ∧ j6 < 6 ∧ R_X6_finishOf_6 (wI σ 19 j6 x3) K x1 x2 (x3 + 1)))) : R_X6_finishOf_6 σ K x1 x2 x3 := by
  show RR 1 5 mX6_finishOf 6 [(0, .ref 0), (1, .int x1), (2, .int x2), (3, .int x3)] [] σ (rI K)
  refine RR.s2 (pc' := 7) (lv' := [(0, .ref 0), (1, .int x1), (2, .int x2), (3, .int x3)]) (st' := [.int x3]) dX6_finishOf_6 rfl ?_
  refine RR.bp (v := 6) dX6_finishOf_7 (by decide) ?_
  refine RR.br dX6_finishOf_9 rfl (fun c => ?_) (fun c => ?_)
  · have H := H.1 c
    refine RR.s2 (pc' := 26) (lv' := [(0, .ref 0), (1, .int x1), (2, .int x2), (3, .int x3)]) (st' := [.ref 0]) dX6_finishOf_25 rfl ?_
    refine RR.s2 (pc' := 27) (lv' := [(0, .ref 0), (1, .int x1), (2, .int x2), (3, .int x3)]) (st' := [.int x1, .ref 0]) dX6_finishOf_26 rfl ?_
    refine RR.cV dX6_finishOf_27 ml_X6_232 rfl rfl (as := [.int x1]) (rest := []) rfl rfl (Nat.le_of_ble_eq_true rfl) (Nat.le_of_ble_eq_true rfl) (by decide) (RR.toI H (fun v2 s1 H => ?_))
    show RR 1 5 mX6_finishOf 30 [(0, .ref 0), (1, .int x1), (2, .int x2), (3, .int x3)] [.int v2] s1 _
    refine RR.s2 (pc' := 31) (lv' := [(0, .ref 0), (1, .int x1), (2, .int x2), (3, .int v2)]) (st' := []) dX6_finishOf_30 rfl ?_
    refine RR.s2 (pc' := 32) (lv' := [(0, .ref 0), (1, .int x1), (2, .int x2), (3, .int v2)]) (st' := [.int x2]) dX6_finishOf_31 rfl ?_
    refine RR.ic (v := (-1)) dX6_finishOf_32 (by decide) ?_
    refine RR.br dX6_finishOf_33 rfl (fun c => ?_) (fun c => ?_)
    · have H := H.1 c
      refine RR.s2 (pc' := 42) (lv' := [(0, .ref 0), (1, .int x1), (2, .int x2), (3, .int v2)]) (st' := [.int v2]) dX6_finishOf_41 rfl ?_
      refine RR.s2 (pc' := 65) (lv' := [(0, .ref 0), (1, .int x1), (2, .int x2), (3, .int v2)]) (st' := [.int v2]) dX6_finishOf_42 rfl ?_
      exact RR.iret dX6_finishOf_65 rfl ⟨_, rfl, H⟩
    · have H := H.2 c
      refine RR.s2 (pc' := 37) (lv' := [(0, .ref 0), (1, .int x1), (2, .int x2), (3, .int v2)]) (st' := [.int v2]) dX6_finishOf_36 rfl ?_
      refine RR.ic (v := (-1)) dX6_finishOf_37 (by decide) ?_
      refine RR.br dX6_finishOf_38 rfl (fun c => ?_) (fun c => ?_)
      · have H := H.1 c
        refine RR.s2 (pc' := 46) (lv' := [(0, .ref 0), (1, .int x1), (2, .int x2), (3, .int v2)]) (st' := [.int x2]) dX6_finishOf_45 rfl ?_
        refine RR.s2 (pc' := 47) (lv' := [(0, .ref 0), (1, .int x1), (2, .int x2), (3, .int v2)]) (st' := [.ref 0, .int x2]) dX6_finishOf_46 rfl ?_
        refine RR.getR dX6_finishOf_47 fl_X6_16 rfl rfl ?_
        refine RR.ic (v := 4) dX6_finishOf_50 (by decide) ?_
        refine RR.iald (j := 4) dX6_finishOf_51 rfl rfl (by decide) ?_
        refine RR.br dX6_finishOf_52 rfl (fun c => ?_) (fun c => ?_)
        · have H := H.1 c
          refine RR.ic (v := (-1)) dX6_finishOf_64 (by decide) ?_
          exact RR.iret dX6_finishOf_65 rfl ⟨_, rfl, H⟩
        · have H := H.2 c
          refine RR.s2 (pc' := 56) (lv' := [(0, .ref 0), (1, .int x1), (2, .int x2), (3, .int v2)]) (st' := [.ref 0]) dX6_finishOf_55 rfl ?_
          refine RR.getR dX6_finishOf_56 fl_X6_61 rfl rfl ?_
          refine RR.s2 (pc' := 60) (lv' := [(0, .ref 0), (1, .int x1), (2, .int x2), (3, .int v2)]) (st' := [.int x2, .ref 18]) dX6_finishOf_59 rfl ?_
          obtain ⟨j3, e4, b5, H⟩ := H
          refine RR.iald dX6_finishOf_60 rfl e4 b5 ?_
          refine RR.s2 (pc' := 65) (lv' := [(0, .ref 0), (1, .int x1), (2, .int x2), (3, .int v2)]) (st' := [.int (s1.1 18 j3)]) dX6_finishOf_61 rfl ?_
          exact RR.iret dX6_finishOf_65 rfl ⟨_, rfl, H⟩
      · have H := H.2 (Classical.not_not.mp c)
        refine RR.s2 (pc' := 42) (lv' := [(0, .ref 0), (1, .int x1), (2, .int x2), (3, .int v2)]) (st' := [.int v2]) dX6_finishOf_41 rfl ?_
        refine RR.s2 (pc' := 65) (lv' := [(0, .ref 0), (1, .int x1), (2, .int x2), (3, .int v2)]) (st' := [.int v2]) dX6_finishOf_42 rfl ?_
        exact RR.iret dX6_finishOf_65 rfl ⟨_, rfl, H⟩
  · have H := H.2 c
    refine RR.s2 (pc' := 13) (lv' := [(0, .ref 0), (1, .int x1), (2, .int x2), (3, .int x3)]) (st' := [.ref 0]) dX6_finishOf_12 rfl ?_
    refine RR.getR dX6_finishOf_13 fl_X6_64 rfl rfl ?_
    refine RR.s2 (pc' := 17) (lv' := [(0, .ref 0), (1, .int x1), (2, .int x2), (3, .int x3)]) (st' := [.int x3, .ref 19]) dX6_finishOf_16 rfl ?_
    refine RR.s2 (pc' := 18) (lv' := [(0, .ref 0), (1, .int x1), (2, .int x2), (3, .int x3)]) (st' := [.int x3, .int x3, .ref 19]) dX6_finishOf_17 rfl ?_
    obtain ⟨j6, e7, b8, H⟩ := H
    refine RR.iast dX6_finishOf_18 rfl e7 b8 ?_
    refine RR.inc (c := 1) (lv' := [(0, .ref 0), (1, .int x1), (2, .int x2), (3, .int (x3 + 1))]) dX6_finishOf_19 rfl (by decide) (by decide) rfl ?_
    refine RR.s2 (pc' := 6) (lv' := [(0, .ref 0), (1, .int x1), (2, .int x2), (3, .int (x3 + 1))]) (st' := []) dX6_finishOf_22 rfl ?_
    exact RR.cut [0, 1, 2, 3] rfl H
set_option maxRecDepth 20000 in
theorem b_X6_finish {σ : r_St} {K : Int32 → r_St → Prop} {x1 : Int32} {x2 : Int32}  (H : (IN x1 0 39 → ((IN x2 (-1) 5 → M_X6_finishOf σ (fun v2 s1 => K v2 s1) x1 x2) ∧ (¬ IN x2 (-1) 5 → K (-2) σ))) ∧ (¬ IN x1 0 39 → K (-2) σ)) : M_X6_finish σ K x1 x2 := by
  show RR 1 6 mX6_finish 0 [(0, .ref 0), (1, .int x1), (2, .int x2)] [] σ (rI K)
  refine RR.s2 (pc' := 1) (lv' := [(0, .ref 0), (1, .int x1), (2, .int x2)]) (st' := [.int x1]) dX6_finish_0 rfl ?_
  refine RR.cS dX6_finish_1 ml_X6_151 (as := [.int x1]) (rest := []) rfl rfl (Nat.le_of_ble_eq_true rfl) (Nat.le_of_ble_eq_true rfl) (by decide) (kb_X6_isDay (fun c => ?_) (fun c => ?_))
  · have H := H.1 c
    show RR 1 6 mX6_finish 4 [(0, .ref 0), (1, .int x1), (2, .int x2)] [.int 1] σ _
    refine RR.brF dX6_finish_4 rfl (by decide) ?_
    refine RR.s2 (pc' := 8) (lv' := [(0, .ref 0), (1, .int x1), (2, .int x2)]) (st' := [.int x2]) dX6_finish_7 rfl ?_
    refine RR.ic (v := (-1)) dX6_finish_8 (by decide) ?_
    refine RR.ic (v := 5) dX6_finish_9 (by decide) ?_
    refine RR.cS dX6_finish_10 ml_X6_106 (as := [.int x2, .int (-1), .int 5]) (rest := []) rfl rfl (Nat.le_of_ble_eq_true rfl) (Nat.le_of_ble_eq_true rfl) (by decide) (kb_X6_in (fun c => ?_) (fun c => ?_))
    · have H := H.1 c
      show RR 1 6 mX6_finish 13 [(0, .ref 0), (1, .int x1), (2, .int x2)] [.int 1] σ _
      refine RR.brF dX6_finish_13 rfl (by decide) ?_
      refine RR.s2 (pc' := 17) (lv' := [(0, .ref 0), (1, .int x1), (2, .int x2)]) (st' := [.ref 0]) dX6_finish_16 rfl ?_
      refine RR.s2 (pc' := 18) (lv' := [(0, .ref 0), (1, .int x1), (2, .int x2)]) (st' := [.int x1, .ref 0]) dX6_finish_17 rfl ?_
      refine RR.s2 (pc' := 19) (lv' := [(0, .ref 0), (1, .int x1), (2, .int x2)]) (st' := [.int x2, .int x1, .ref 0]) dX6_finish_18 rfl ?_
      refine RR.cV dX6_finish_19 ml_X6_235 rfl rfl (as := [.int x1, .int x2]) (rest := []) rfl rfl (Nat.le_of_ble_eq_true rfl) (Nat.le_of_ble_eq_true rfl) (by decide) (RR.toI H (fun v2 s1 H => ?_))
      show RR 1 6 mX6_finish 22 [(0, .ref 0), (1, .int x1), (2, .int x2)] [.int v2] s1 _
      refine RR.s2 (pc' := 27) (lv' := [(0, .ref 0), (1, .int x1), (2, .int x2)]) (st' := [.int v2]) dX6_finish_22 rfl ?_
      exact RR.iret dX6_finish_27 rfl ⟨_, rfl, H⟩
    · have H := H.2 c
      show RR 1 6 mX6_finish 13 [(0, .ref 0), (1, .int x1), (2, .int x2)] [.int 0] σ _
      refine RR.brT dX6_finish_13 rfl (by decide) ?_
      refine RR.bp (v := (-2)) dX6_finish_25 (by decide) ?_
      exact RR.iret dX6_finish_27 rfl ⟨_, rfl, H⟩
  · have H := H.2 c
    show RR 1 6 mX6_finish 4 [(0, .ref 0), (1, .int x1), (2, .int x2)] [.int 0] σ _
    refine RR.brT dX6_finish_4 rfl (by decide) ?_
    refine RR.bp (v := (-2)) dX6_finish_25 (by decide) ?_
    exact RR.iret dX6_finish_27 rfl ⟨_, rfl, H⟩
set_option maxRecDepth 20000 in
theorem b_X6_planBy {σ : r_St} {K : Int32 → r_St → Prop} {x1 : Int32}  (H : R_X6_planBy_12 σ K x1 (σ.1 3 4) 1 0) : M_X6_planBy σ K x1 := by
  show RR 1 4 mX6_planBy 0 [(0, .ref 0), (1, .int x1)] [] σ (rI K)
  refine RR.s2 (pc' := 1) (lv' := [(0, .ref 0), (1, .int x1)]) (st' := [.ref 0]) dX6_planBy_0 rfl ?_
  refine RR.getR dX6_planBy_1 fl_X6_16 rfl rfl ?_
  refine RR.ic (v := 4) dX6_planBy_4 (by decide) ?_
  refine RR.iald (j := 4) dX6_planBy_5 rfl rfl (by decide) ?_
  refine RR.s2 (pc' := 7) (lv' := [(0, .ref 0), (1, .int x1), (2, .int (σ.1 3 4))]) (st' := []) dX6_planBy_6 rfl ?_
  refine RR.ic (v := 1) dX6_planBy_7 (by decide) ?_
  refine RR.s2 (pc' := 9) (lv' := [(0, .ref 0), (1, .int x1), (2, .int (σ.1 3 4)), (3, .int 1)]) (st' := []) dX6_planBy_8 rfl ?_
  refine RR.ic (v := 0) dX6_planBy_9 (by decide) ?_
  refine RR.s2 (pc' := 12) (lv' := [(0, .ref 0), (1, .int x1), (2, .int (σ.1 3 4)), (3, .int 1), (4, .int 0)]) (st' := []) dX6_planBy_10 rfl ?_
  exact RR.cut [0, 1, 2, 3, 4] rfl H
set_option maxRecDepth 20000 in
theorem b_X6_planBy_12 {σ : r_St} {K : Int32 → r_St → Prop} {x1 : Int32} {x2 : Int32} {x3 : Int32} {x4 : Int32}  (H : (x2 ≤ x4 → R_X6_planBy_34 σ K x1 x2 x3 (-1) 0) ∧ (¬ (x2 ≤ x4) → R_X6_planBy_12 σ K x1 x2 (x3 * x2) (x4 + 1))) : R_X6_planBy_12 σ K x1 x2 x3 x4 := by
  show RR 1 4 mX6_planBy 12 [(0, .ref 0), (1, .int x1), (2, .int x2), (3, .int x3), (4, .int x4)] [] σ (rI K)
  refine RR.s2 (pc' := 14) (lv' := [(0, .ref 0), (1, .int x1), (2, .int x2), (3, .int x3), (4, .int x4)]) (st' := [.int x4]) dX6_planBy_12 rfl ?_
  refine RR.s2 (pc' := 15) (lv' := [(0, .ref 0), (1, .int x1), (2, .int x2), (3, .int x3), (4, .int x4)]) (st' := [.int x2, .int x4]) dX6_planBy_14 rfl ?_
  refine RR.br dX6_planBy_15 rfl (fun c => ?_) (fun c => ?_)
  · have H := H.1 c
    refine RR.ic (v := (-1)) dX6_planBy_28 (by decide) ?_
    refine RR.s2 (pc' := 31) (lv' := [(0, .ref 0), (1, .int x1), (2, .int x2), (3, .int x3), (4, .int (-1))]) (st' := []) dX6_planBy_29 rfl ?_
    refine RR.ic (v := 0) dX6_planBy_31 (by decide) ?_
    refine RR.s2 (pc' := 34) (lv' := [(0, .ref 0), (1, .int x1), (2, .int x2), (3, .int x3), (4, .int (-1)), (5, .int 0)]) (st' := []) dX6_planBy_32 rfl ?_
    exact RR.cut [0, 1, 2, 3, 4, 5] rfl H
  · have H := H.2 c
    refine RR.s2 (pc' := 19) (lv' := [(0, .ref 0), (1, .int x1), (2, .int x2), (3, .int x3), (4, .int x4)]) (st' := [.int x3]) dX6_planBy_18 rfl ?_
    refine RR.s2 (pc' := 20) (lv' := [(0, .ref 0), (1, .int x1), (2, .int x2), (3, .int x3), (4, .int x4)]) (st' := [.int x2, .int x3]) dX6_planBy_19 rfl ?_
    refine RR.s2 (pc' := 21) (lv' := [(0, .ref 0), (1, .int x1), (2, .int x2), (3, .int x3), (4, .int x4)]) (st' := [.int (x3 * x2)]) dX6_planBy_20 rfl ?_
    refine RR.s2 (pc' := 22) (lv' := [(0, .ref 0), (1, .int x1), (2, .int x2), (3, .int (x3 * x2)), (4, .int x4)]) (st' := []) dX6_planBy_21 rfl ?_
    refine RR.inc (c := 1) (lv' := [(0, .ref 0), (1, .int x1), (2, .int x2), (3, .int (x3 * x2)), (4, .int (x4 + 1))]) dX6_planBy_22 rfl (by decide) (by decide) rfl ?_
    refine RR.s2 (pc' := 12) (lv' := [(0, .ref 0), (1, .int x1), (2, .int x2), (3, .int (x3 * x2)), (4, .int (x4 + 1))]) (st' := []) dX6_planBy_25 rfl ?_
    exact RR.cut [0, 1, 2, 3, 4] rfl H
set_option maxRecDepth 20000 in
theorem b_X6_planBy_34 {σ : r_St} {K : Int32 → r_St → Prop} {x1 : Int32} {x2 : Int32} {x3 : Int32} {x4 : Int32} {x5 : Int32}  (H : (x3 ≤ x5 → K x4 σ) ∧ (¬ (x3 ≤ x5) → R_X6_planBy_52 σ K x1 x2 x3 x4 x5 x5 0 (x2 - 1))) : R_X6_planBy_34 σ K x1 x2 x3 x4 x5 := by
  show RR 1 4 mX6_planBy 34 [(0, .ref 0), (1, .int x1), (2, .int x2), (3, .int x3), (4, .int x4), (5, .int x5)] [] σ (rI K)
  refine RR.s2 (pc' := 36) (lv' := [(0, .ref 0), (1, .int x1), (2, .int x2), (3, .int x3), (4, .int x4), (5, .int x5)]) (st' := [.int x5]) dX6_planBy_34 rfl ?_
  refine RR.s2 (pc' := 37) (lv' := [(0, .ref 0), (1, .int x1), (2, .int x2), (3, .int x3), (4, .int x4), (5, .int x5)]) (st' := [.int x3, .int x5]) dX6_planBy_36 rfl ?_
  refine RR.br dX6_planBy_37 rfl (fun c => ?_) (fun c => ?_)
  · have H := H.1 c
    refine RR.s2 (pc' := 175) (lv' := [(0, .ref 0), (1, .int x1), (2, .int x2), (3, .int x3), (4, .int x4), (5, .int x5)]) (st' := [.int x4]) dX6_planBy_173 rfl ?_
    exact RR.iret dX6_planBy_175 rfl ⟨_, rfl, H⟩
  · have H := H.2 c
    refine RR.s2 (pc' := 42) (lv' := [(0, .ref 0), (1, .int x1), (2, .int x2), (3, .int x3), (4, .int x4), (5, .int x5)]) (st' := [.int x5]) dX6_planBy_40 rfl ?_
    refine RR.s2 (pc' := 44) (lv' := [(0, .ref 0), (1, .int x1), (2, .int x2), (3, .int x3), (4, .int x4), (5, .int x5), (6, .int x5)]) (st' := []) dX6_planBy_42 rfl ?_
    refine RR.ic (v := 0) dX6_planBy_44 (by decide) ?_
    refine RR.s2 (pc' := 47) (lv' := [(0, .ref 0), (1, .int x1), (2, .int x2), (3, .int x3), (4, .int x4), (5, .int x5), (6, .int x5), (7, .int 0)]) (st' := []) dX6_planBy_45 rfl ?_
    refine RR.s2 (pc' := 48) (lv' := [(0, .ref 0), (1, .int x1), (2, .int x2), (3, .int x3), (4, .int x4), (5, .int x5), (6, .int x5), (7, .int 0)]) (st' := [.int x2]) dX6_planBy_47 rfl ?_
    refine RR.ic (v := 1) dX6_planBy_48 (by decide) ?_
    refine RR.s2 (pc' := 50) (lv' := [(0, .ref 0), (1, .int x1), (2, .int x2), (3, .int x3), (4, .int x4), (5, .int x5), (6, .int x5), (7, .int 0)]) (st' := [.int (x2 - 1)]) dX6_planBy_49 rfl ?_
    refine RR.s2 (pc' := 52) (lv' := [(0, .ref 0), (1, .int x1), (2, .int x2), (3, .int x3), (4, .int x4), (5, .int x5), (6, .int x5), (7, .int 0), (8, .int (x2 - 1))]) (st' := []) dX6_planBy_50 rfl ?_
    exact RR.cut [0, 1, 2, 3, 4, 5, 6, 7, 8] rfl H
set_option maxRecDepth 20000 in
theorem b_X6_planBy_52 {σ : r_St} {K : Int32 → r_St → Prop} {x1 : Int32} {x2 : Int32} {x3 : Int32} {x4 : Int32} {x5 : Int32} {x6 : Int32} {x7 : Int32} {x8 : Int32}  (H : (x8 < 0 → ((¬ x7 = (sl 1 x2) - 1 → R_X6_planBy_113 σ K x1 x2 x3 x4 x5 (-1)) ∧ (x7 = (sl 1 x2) - 1 → M_X6_finishBy σ (fun v2 s1 => R_X6_planBy_113 s1 K x1 x2 x3 x4 x5 v2) x1))) ∧ (¬ (x8 < 0) → (¬ x2 = 0 ∧ (∃ j3 : Nat, x8 = nI j3 ∧ j3 < 6 ∧ (¬ x2 = 0 ∧ (∃ j6 : Nat, x8 = nI j6 ∧ j6 < 6 ∧ R_X6_planBy_52 (wI σ 19 j3 (rm x6 x2)) K x1 x2 x3 x4 x5 (x6 / x2) (x7 ||| (sl 1 ((wI σ 19 j3 (rm x6 x2)).1 19 j6))) (x8 + (-1)))))))) : R_X6_planBy_52 σ K x1 x2 x3 x4 x5 x6 x7 x8 := by
  show RR 1 4 mX6_planBy 52 [(0, .ref 0), (1, .int x1), (2, .int x2), (3, .int x3), (4, .int x4), (5, .int x5), (6, .int x6), (7, .int x7), (8, .int x8)] [] σ (rI K)
  refine RR.s2 (pc' := 54) (lv' := [(0, .ref 0), (1, .int x1), (2, .int x2), (3, .int x3), (4, .int x4), (5, .int x5), (6, .int x6), (7, .int x7), (8, .int x8)]) (st' := [.int x8]) dX6_planBy_52 rfl ?_
  refine RR.br dX6_planBy_54 rfl (fun c => ?_) (fun c => ?_)
  · have H := H.1 c
    refine RR.s2 (pc' := 96) (lv' := [(0, .ref 0), (1, .int x1), (2, .int x2), (3, .int x3), (4, .int x4), (5, .int x5), (6, .int x6), (7, .int x7), (8, .int x8)]) (st' := [.int x7]) dX6_planBy_94 rfl ?_
    refine RR.ic (v := 1) dX6_planBy_96 (by decide) ?_
    refine RR.s2 (pc' := 98) (lv' := [(0, .ref 0), (1, .int x1), (2, .int x2), (3, .int x3), (4, .int x4), (5, .int x5), (6, .int x6), (7, .int x7), (8, .int x8)]) (st' := [.int x2, .int 1, .int x7]) dX6_planBy_97 rfl ?_
    refine RR.s2 (pc' := 99) (lv' := [(0, .ref 0), (1, .int x1), (2, .int x2), (3, .int x3), (4, .int x4), (5, .int x5), (6, .int x6), (7, .int x7), (8, .int x8)]) (st' := [.int (sl 1 x2), .int x7]) dX6_planBy_98 rfl ?_
    refine RR.ic (v := 1) dX6_planBy_99 (by decide) ?_
    refine RR.s2 (pc' := 101) (lv' := [(0, .ref 0), (1, .int x1), (2, .int x2), (3, .int x3), (4, .int x4), (5, .int x5), (6, .int x6), (7, .int x7), (8, .int x8)]) (st' := [.int ((sl 1 x2) - 1), .int x7]) dX6_planBy_100 rfl ?_
    refine RR.br dX6_planBy_101 rfl (fun c => ?_) (fun c => ?_)
    · have H := H.1 c
      refine RR.ic (v := (-1)) dX6_planBy_112 (by decide) ?_
      exact RR.cut [0, 1, 2, 3, 4, 5] rfl H
    · have H := H.2 (Classical.not_not.mp c)
      refine RR.s2 (pc' := 105) (lv' := [(0, .ref 0), (1, .int x1), (2, .int x2), (3, .int x3), (4, .int x4), (5, .int x5), (6, .int x6), (7, .int x7), (8, .int x8)]) (st' := [.ref 0]) dX6_planBy_104 rfl ?_
      refine RR.s2 (pc' := 106) (lv' := [(0, .ref 0), (1, .int x1), (2, .int x2), (3, .int x3), (4, .int x4), (5, .int x5), (6, .int x6), (7, .int x7), (8, .int x8)]) (st' := [.int x1, .ref 0]) dX6_planBy_105 rfl ?_
      refine RR.cV dX6_planBy_106 ml_X6_232 rfl rfl (as := [.int x1]) (rest := []) rfl rfl (Nat.le_of_ble_eq_true rfl) (Nat.le_of_ble_eq_true rfl) (by decide) (RR.toI H (fun v2 s1 H => ?_))
      show RR 1 4 mX6_planBy 109 [(0, .ref 0), (1, .int x1), (2, .int x2), (3, .int x3), (4, .int x4), (5, .int x5), (6, .int x6), (7, .int x7), (8, .int x8)] [.int v2] s1 _
      refine RR.s2 (pc' := 113) (lv' := [(0, .ref 0), (1, .int x1), (2, .int x2), (3, .int x3), (4, .int x4), (5, .int x5), (6, .int x6), (7, .int x7), (8, .int x8)]) (st' := [.int v2]) dX6_planBy_109 rfl ?_
      exact RR.cut [0, 1, 2, 3, 4, 5] rfl H
  · have H := H.2 c
    refine RR.s2 (pc' := 58) (lv' := [(0, .ref 0), (1, .int x1), (2, .int x2), (3, .int x3), (4, .int x4), (5, .int x5), (6, .int x6), (7, .int x7), (8, .int x8)]) (st' := [.ref 0]) dX6_planBy_57 rfl ?_
    refine RR.getR dX6_planBy_58 fl_X6_64 rfl rfl ?_
    refine RR.s2 (pc' := 63) (lv' := [(0, .ref 0), (1, .int x1), (2, .int x2), (3, .int x3), (4, .int x4), (5, .int x5), (6, .int x6), (7, .int x7), (8, .int x8)]) (st' := [.int x8, .ref 19]) dX6_planBy_61 rfl ?_
    refine RR.s2 (pc' := 65) (lv' := [(0, .ref 0), (1, .int x1), (2, .int x2), (3, .int x3), (4, .int x4), (5, .int x5), (6, .int x6), (7, .int x7), (8, .int x8)]) (st' := [.int x6, .int x8, .ref 19]) dX6_planBy_63 rfl ?_
    refine RR.s2 (pc' := 66) (lv' := [(0, .ref 0), (1, .int x1), (2, .int x2), (3, .int x3), (4, .int x4), (5, .int x5), (6, .int x6), (7, .int x7), (8, .int x8)]) (st' := [.int x2, .int x6, .int x8, .ref 19]) dX6_planBy_65 rfl ?_
    obtain ⟨h0, H⟩ := H
    refine RR.irem dX6_planBy_66 h0 ?_
    show RR 1 4 mX6_planBy 67 [(0, .ref 0), (1, .int x1), (2, .int x2), (3, .int x3), (4, .int x4), (5, .int x5), (6, .int x6), (7, .int x7), (8, .int x8)] [.int (rm x6 x2), .int x8, .ref 19] σ _
    obtain ⟨j3, e4, b5, H⟩ := H
    refine RR.iast dX6_planBy_67 rfl e4 b5 ?_
    refine RR.s2 (pc' := 70) (lv' := [(0, .ref 0), (1, .int x1), (2, .int x2), (3, .int x3), (4, .int x4), (5, .int x5), (6, .int x6), (7, .int x7), (8, .int x8)]) (st' := [.int x6]) dX6_planBy_68 rfl ?_
    refine RR.s2 (pc' := 71) (lv' := [(0, .ref 0), (1, .int x1), (2, .int x2), (3, .int x3), (4, .int x4), (5, .int x5), (6, .int x6), (7, .int x7), (8, .int x8)]) (st' := [.int x2, .int x6]) dX6_planBy_70 rfl ?_
    obtain ⟨h0, H⟩ := H
    refine RR.idiv dX6_planBy_71 h0 ?_
    show RR 1 4 mX6_planBy 72 [(0, .ref 0), (1, .int x1), (2, .int x2), (3, .int x3), (4, .int x4), (5, .int x5), (6, .int x6), (7, .int x7), (8, .int x8)] [.int (x6 / x2)] (wI σ 19 j3 (rm x6 x2)) _
    refine RR.s2 (pc' := 74) (lv' := [(0, .ref 0), (1, .int x1), (2, .int x2), (3, .int x3), (4, .int x4), (5, .int x5), (6, .int (x6 / x2)), (7, .int x7), (8, .int x8)]) (st' := []) dX6_planBy_72 rfl ?_
    refine RR.s2 (pc' := 76) (lv' := [(0, .ref 0), (1, .int x1), (2, .int x2), (3, .int x3), (4, .int x4), (5, .int x5), (6, .int (x6 / x2)), (7, .int x7), (8, .int x8)]) (st' := [.int x7]) dX6_planBy_74 rfl ?_
    refine RR.ic (v := 1) dX6_planBy_76 (by decide) ?_
    refine RR.s2 (pc' := 78) (lv' := [(0, .ref 0), (1, .int x1), (2, .int x2), (3, .int x3), (4, .int x4), (5, .int x5), (6, .int (x6 / x2)), (7, .int x7), (8, .int x8)]) (st' := [.ref 0, .int 1, .int x7]) dX6_planBy_77 rfl ?_
    refine RR.getR dX6_planBy_78 fl_X6_64 rfl rfl ?_
    refine RR.s2 (pc' := 83) (lv' := [(0, .ref 0), (1, .int x1), (2, .int x2), (3, .int x3), (4, .int x4), (5, .int x5), (6, .int (x6 / x2)), (7, .int x7), (8, .int x8)]) (st' := [.int x8, .ref 19, .int 1, .int x7]) dX6_planBy_81 rfl ?_
    obtain ⟨j6, e7, b8, H⟩ := H
    refine RR.iald dX6_planBy_83 rfl e7 b8 ?_
    refine RR.s2 (pc' := 85) (lv' := [(0, .ref 0), (1, .int x1), (2, .int x2), (3, .int x3), (4, .int x4), (5, .int x5), (6, .int (x6 / x2)), (7, .int x7), (8, .int x8)]) (st' := [.int (sl 1 ((wI σ 19 j3 (rm x6 x2)).1 19 j6)), .int x7]) dX6_planBy_84 rfl ?_
    refine RR.s2 (pc' := 86) (lv' := [(0, .ref 0), (1, .int x1), (2, .int x2), (3, .int x3), (4, .int x4), (5, .int x5), (6, .int (x6 / x2)), (7, .int x7), (8, .int x8)]) (st' := [.int (x7 ||| (sl 1 ((wI σ 19 j3 (rm x6 x2)).1 19 j6)))]) dX6_planBy_85 rfl ?_
    refine RR.s2 (pc' := 88) (lv' := [(0, .ref 0), (1, .int x1), (2, .int x2), (3, .int x3), (4, .int x4), (5, .int x5), (6, .int (x6 / x2)), (7, .int (x7 ||| (sl 1 ((wI σ 19 j3 (rm x6 x2)).1 19 j6)))), (8, .int x8)]) (st' := []) dX6_planBy_86 rfl ?_
    refine RR.inc (c := (-1)) (lv' := [(0, .ref 0), (1, .int x1), (2, .int x2), (3, .int x3), (4, .int x4), (5, .int x5), (6, .int (x6 / x2)), (7, .int (x7 ||| (sl 1 ((wI σ 19 j3 (rm x6 x2)).1 19 j6)))), (8, .int (x8 + (-1)))]) dX6_planBy_88 rfl (by decide) (by decide) rfl ?_
    refine RR.s2 (pc' := 52) (lv' := [(0, .ref 0), (1, .int x1), (2, .int x2), (3, .int x3), (4, .int x4), (5, .int x5), (6, .int (x6 / x2)), (7, .int (x7 ||| (sl 1 ((wI σ 19 j3 (rm x6 x2)).1 19 j6)))), (8, .int (x8 + (-1)))]) (st' := []) dX6_planBy_91 rfl ?_
    exact RR.cut [0, 1, 2, 3, 4, 5, 6, 7, 8] rfl H
set_option maxRecDepth 20000 in
theorem b_X6_planBy_113 {σ : r_St} {K : Int32 → r_St → Prop} {x1 : Int32} {x2 : Int32} {x3 : Int32} {x4 : Int32} {x5 : Int32} {t0 : Int32}  (H : (t0 = (-1) → R_X6_planBy_34 σ K x1 x2 x3 x4 (x5 + 1)) ∧ (¬ (t0 = (-1)) → ((x4 = (-1) → R_X6_planBy_141 σ K x1 x2 x3 t0 x5 0) ∧ (¬ (x4 = (-1)) → ((x4 ≤ t0 → R_X6_planBy_34 σ K x1 x2 x3 x4 (x5 + 1)) ∧ (¬ (x4 ≤ t0) → R_X6_planBy_141 σ K x1 x2 x3 t0 x5 0)))))) : R_X6_planBy_113 σ K x1 x2 x3 x4 x5 t0 := by
  show RR 1 4 mX6_planBy 113 [(0, .ref 0), (1, .int x1), (2, .int x2), (3, .int x3), (4, .int x4), (5, .int x5)] [.int t0] σ (rI K)
  refine RR.s2 (pc' := 115) (lv' := [(0, .ref 0), (1, .int x1), (2, .int x2), (3, .int x3), (4, .int x4), (5, .int x5), (8, .int t0)]) (st' := []) dX6_planBy_113 rfl ?_
  refine RR.s2 (pc' := 117) (lv' := [(0, .ref 0), (1, .int x1), (2, .int x2), (3, .int x3), (4, .int x4), (5, .int x5), (8, .int t0)]) (st' := [.int t0]) dX6_planBy_115 rfl ?_
  refine RR.ic (v := (-1)) dX6_planBy_117 (by decide) ?_
  refine RR.br dX6_planBy_118 rfl (fun c => ?_) (fun c => ?_)
  · have H := H.1 c
    refine RR.inc (c := 1) (lv' := [(0, .ref 0), (1, .int x1), (2, .int x2), (3, .int x3), (4, .int x4), (5, .int (x5 + 1)), (8, .int t0)]) dX6_planBy_167 rfl (by decide) (by decide) rfl ?_
    refine RR.s2 (pc' := 34) (lv' := [(0, .ref 0), (1, .int x1), (2, .int x2), (3, .int x3), (4, .int x4), (5, .int (x5 + 1)), (8, .int t0)]) (st' := []) dX6_planBy_170 rfl ?_
    exact RR.cut [0, 1, 2, 3, 4, 5] rfl H
  · have H := H.2 c
    refine RR.s2 (pc' := 123) (lv' := [(0, .ref 0), (1, .int x1), (2, .int x2), (3, .int x3), (4, .int x4), (5, .int x5), (8, .int t0)]) (st' := [.int x4]) dX6_planBy_121 rfl ?_
    refine RR.ic (v := (-1)) dX6_planBy_123 (by decide) ?_
    refine RR.br dX6_planBy_124 rfl (fun c => ?_) (fun c => ?_)
    · have H := H.1 c
      refine RR.s2 (pc' := 136) (lv' := [(0, .ref 0), (1, .int x1), (2, .int x2), (3, .int x3), (4, .int x4), (5, .int x5), (8, .int t0)]) (st' := [.int t0]) dX6_planBy_134 rfl ?_
      refine RR.s2 (pc' := 138) (lv' := [(0, .ref 0), (1, .int x1), (2, .int x2), (3, .int x3), (4, .int t0), (5, .int x5), (8, .int t0)]) (st' := []) dX6_planBy_136 rfl ?_
      refine RR.ic (v := 0) dX6_planBy_138 (by decide) ?_
      refine RR.s2 (pc' := 141) (lv' := [(0, .ref 0), (1, .int x1), (2, .int x2), (3, .int x3), (4, .int t0), (5, .int x5), (8, .int t0), (9, .int 0)]) (st' := []) dX6_planBy_139 rfl ?_
      exact RR.cut [0, 1, 2, 3, 4, 5, 7] rfl H
    · have H := H.2 c
      refine RR.s2 (pc' := 129) (lv' := [(0, .ref 0), (1, .int x1), (2, .int x2), (3, .int x3), (4, .int x4), (5, .int x5), (8, .int t0)]) (st' := [.int t0]) dX6_planBy_127 rfl ?_
      refine RR.s2 (pc' := 131) (lv' := [(0, .ref 0), (1, .int x1), (2, .int x2), (3, .int x3), (4, .int x4), (5, .int x5), (8, .int t0)]) (st' := [.int x4, .int t0]) dX6_planBy_129 rfl ?_
      refine RR.br dX6_planBy_131 rfl (fun c => ?_) (fun c => ?_)
      · have H := H.1 c
        refine RR.inc (c := 1) (lv' := [(0, .ref 0), (1, .int x1), (2, .int x2), (3, .int x3), (4, .int x4), (5, .int (x5 + 1)), (8, .int t0)]) dX6_planBy_167 rfl (by decide) (by decide) rfl ?_
        refine RR.s2 (pc' := 34) (lv' := [(0, .ref 0), (1, .int x1), (2, .int x2), (3, .int x3), (4, .int x4), (5, .int (x5 + 1)), (8, .int t0)]) (st' := []) dX6_planBy_170 rfl ?_
        exact RR.cut [0, 1, 2, 3, 4, 5] rfl H
      · have H := H.2 c
        refine RR.s2 (pc' := 136) (lv' := [(0, .ref 0), (1, .int x1), (2, .int x2), (3, .int x3), (4, .int x4), (5, .int x5), (8, .int t0)]) (st' := [.int t0]) dX6_planBy_134 rfl ?_
        refine RR.s2 (pc' := 138) (lv' := [(0, .ref 0), (1, .int x1), (2, .int x2), (3, .int x3), (4, .int t0), (5, .int x5), (8, .int t0)]) (st' := []) dX6_planBy_136 rfl ?_
        refine RR.ic (v := 0) dX6_planBy_138 (by decide) ?_
        refine RR.s2 (pc' := 141) (lv' := [(0, .ref 0), (1, .int x1), (2, .int x2), (3, .int x3), (4, .int t0), (5, .int x5), (8, .int t0), (9, .int 0)]) (st' := []) dX6_planBy_139 rfl ?_
        exact RR.cut [0, 1, 2, 3, 4, 5, 7] rfl H
set_option maxRecDepth 20000 in
theorem b_X6_planBy_141 {σ : r_St} {K : Int32 → r_St → Prop} {x1 : Int32} {x2 : Int32} {x3 : Int32} {x4 : Int32} {x5 : Int32} {x9 : Int32}  (H : (x2 ≤ x9 → R_X6_planBy_34 σ K x1 x2 x3 x4 (x5 + 1)) ∧ (¬ (x2 ≤ x9) → (∃ j1 : Nat, x9 = nI j1 ∧ j1 < 6 ∧ (∃ j4 : Nat, x9 = nI j4 ∧ j4 < 6 ∧ R_X6_planBy_141 (wI σ 20 j4 (σ.1 19 j1)) K x1 x2 x3 x4 x5 (x9 + 1))))) : R_X6_planBy_141 σ K x1 x2 x3 x4 x5 x9 := by
  show RR 1 4 mX6_planBy 141 [(0, .ref 0), (1, .int x1), (2, .int x2), (3, .int x3), (4, .int x4), (5, .int x5), (9, .int x9)] [] σ (rI K)
  refine RR.s2 (pc' := 143) (lv' := [(0, .ref 0), (1, .int x1), (2, .int x2), (3, .int x3), (4, .int x4), (5, .int x5), (9, .int x9)]) (st' := [.int x9]) dX6_planBy_141 rfl ?_
  refine RR.s2 (pc' := 144) (lv' := [(0, .ref 0), (1, .int x1), (2, .int x2), (3, .int x3), (4, .int x4), (5, .int x5), (9, .int x9)]) (st' := [.int x2, .int x9]) dX6_planBy_143 rfl ?_
  refine RR.br dX6_planBy_144 rfl (fun c => ?_) (fun c => ?_)
  · have H := H.1 c
    refine RR.inc (c := 1) (lv' := [(0, .ref 0), (1, .int x1), (2, .int x2), (3, .int x3), (4, .int x4), (5, .int (x5 + 1)), (9, .int x9)]) dX6_planBy_167 rfl (by decide) (by decide) rfl ?_
    refine RR.s2 (pc' := 34) (lv' := [(0, .ref 0), (1, .int x1), (2, .int x2), (3, .int x3), (4, .int x4), (5, .int (x5 + 1)), (9, .int x9)]) (st' := []) dX6_planBy_170 rfl ?_
    exact RR.cut [0, 1, 2, 3, 4, 5] rfl H
  · have H := H.2 c
    refine RR.s2 (pc' := 148) (lv' := [(0, .ref 0), (1, .int x1), (2, .int x2), (3, .int x3), (4, .int x4), (5, .int x5), (9, .int x9)]) (st' := [.ref 0]) dX6_planBy_147 rfl ?_
    refine RR.getR dX6_planBy_148 fl_X6_67 rfl rfl ?_
    refine RR.s2 (pc' := 153) (lv' := [(0, .ref 0), (1, .int x1), (2, .int x2), (3, .int x3), (4, .int x4), (5, .int x5), (9, .int x9)]) (st' := [.int x9, .ref 20]) dX6_planBy_151 rfl ?_
    refine RR.s2 (pc' := 154) (lv' := [(0, .ref 0), (1, .int x1), (2, .int x2), (3, .int x3), (4, .int x4), (5, .int x5), (9, .int x9)]) (st' := [.ref 0, .int x9, .ref 20]) dX6_planBy_153 rfl ?_
    refine RR.getR dX6_planBy_154 fl_X6_64 rfl rfl ?_
    refine RR.s2 (pc' := 159) (lv' := [(0, .ref 0), (1, .int x1), (2, .int x2), (3, .int x3), (4, .int x4), (5, .int x5), (9, .int x9)]) (st' := [.int x9, .ref 19, .int x9, .ref 20]) dX6_planBy_157 rfl ?_
    obtain ⟨j1, e2, b3, H⟩ := H
    refine RR.iald dX6_planBy_159 rfl e2 b3 ?_
    obtain ⟨j4, e5, b6, H⟩ := H
    refine RR.iast dX6_planBy_160 rfl e5 b6 ?_
    refine RR.inc (c := 1) (lv' := [(0, .ref 0), (1, .int x1), (2, .int x2), (3, .int x3), (4, .int x4), (5, .int x5), (9, .int (x9 + 1))]) dX6_planBy_161 rfl (by decide) (by decide) rfl ?_
    refine RR.s2 (pc' := 141) (lv' := [(0, .ref 0), (1, .int x1), (2, .int x2), (3, .int x3), (4, .int x4), (5, .int x5), (9, .int (x9 + 1))]) (st' := []) dX6_planBy_164 rfl ?_
    exact RR.cut [0, 1, 2, 3, 4, 5, 6] rfl H
set_option maxRecDepth 20000 in
theorem b_X6_planOf {σ : r_St} {K : Int32 → r_St → Prop} {x1 : Int32} {x2 : Int32}  (H : M_X6_laysTold σ (fun s1 => M_X6_planBy s1 (fun v3 s2 => (x2 = (-1) → K v3 s2) ∧ (¬ (x2 = (-1)) → ((¬ v3 = (-1) → ((s2.1 3 4 ≤ x2 → K (-1) s2) ∧ (¬ (s2.1 3 4 ≤ x2) → (∃ j4 : Nat, x2 = nI j4 ∧ j4 < 6 ∧ K (s2.1 20 j4) s2)))) ∧ (v3 = (-1) → K v3 s2)))) x1)) : M_X6_planOf σ K x1 x2 := by
  show RR 1 5 mX6_planOf 0 [(0, .ref 0), (1, .int x1), (2, .int x2)] [] σ (rI K)
  refine RR.s2 (pc' := 1) (lv' := [(0, .ref 0), (1, .int x1), (2, .int x2)]) (st' := [.ref 0]) dX6_planOf_0 rfl ?_
  refine RR.cV dX6_planOf_1 ml_X6_194 rfl rfl (as := []) (rest := []) rfl rfl (Nat.le_of_ble_eq_true rfl) (Nat.le_of_ble_eq_true rfl) (by decide) (RR.toV H (fun s1 H => ?_))
  show RR 1 5 mX6_planOf 4 [(0, .ref 0), (1, .int x1), (2, .int x2)] [] s1 _
  refine RR.s2 (pc' := 5) (lv' := [(0, .ref 0), (1, .int x1), (2, .int x2)]) (st' := [.ref 0]) dX6_planOf_4 rfl ?_
  refine RR.s2 (pc' := 6) (lv' := [(0, .ref 0), (1, .int x1), (2, .int x2)]) (st' := [.int x1, .ref 0]) dX6_planOf_5 rfl ?_
  refine RR.cV dX6_planOf_6 ml_X6_238 rfl rfl (as := [.int x1]) (rest := []) rfl rfl (Nat.le_of_ble_eq_true rfl) (Nat.le_of_ble_eq_true rfl) (by decide) (RR.toI H (fun v3 s2 H => ?_))
  show RR 1 5 mX6_planOf 9 [(0, .ref 0), (1, .int x1), (2, .int x2)] [.int v3] s2 _
  refine RR.s2 (pc' := 10) (lv' := [(0, .ref 0), (1, .int x1), (2, .int x2), (3, .int v3)]) (st' := []) dX6_planOf_9 rfl ?_
  refine RR.s2 (pc' := 11) (lv' := [(0, .ref 0), (1, .int x1), (2, .int x2), (3, .int v3)]) (st' := [.int x2]) dX6_planOf_10 rfl ?_
  refine RR.ic (v := (-1)) dX6_planOf_11 (by decide) ?_
  refine RR.br dX6_planOf_12 rfl (fun c => ?_) (fun c => ?_)
  · have H := H.1 c
    refine RR.s2 (pc' := 21) (lv' := [(0, .ref 0), (1, .int x1), (2, .int x2), (3, .int v3)]) (st' := [.int v3]) dX6_planOf_20 rfl ?_
    refine RR.s2 (pc' := 44) (lv' := [(0, .ref 0), (1, .int x1), (2, .int x2), (3, .int v3)]) (st' := [.int v3]) dX6_planOf_21 rfl ?_
    exact RR.iret dX6_planOf_44 rfl ⟨_, rfl, H⟩
  · have H := H.2 c
    refine RR.s2 (pc' := 16) (lv' := [(0, .ref 0), (1, .int x1), (2, .int x2), (3, .int v3)]) (st' := [.int v3]) dX6_planOf_15 rfl ?_
    refine RR.ic (v := (-1)) dX6_planOf_16 (by decide) ?_
    refine RR.br dX6_planOf_17 rfl (fun c => ?_) (fun c => ?_)
    · have H := H.1 c
      refine RR.s2 (pc' := 25) (lv' := [(0, .ref 0), (1, .int x1), (2, .int x2), (3, .int v3)]) (st' := [.int x2]) dX6_planOf_24 rfl ?_
      refine RR.s2 (pc' := 26) (lv' := [(0, .ref 0), (1, .int x1), (2, .int x2), (3, .int v3)]) (st' := [.ref 0, .int x2]) dX6_planOf_25 rfl ?_
      refine RR.getR dX6_planOf_26 fl_X6_16 rfl rfl ?_
      refine RR.ic (v := 4) dX6_planOf_29 (by decide) ?_
      refine RR.iald (j := 4) dX6_planOf_30 rfl rfl (by decide) ?_
      refine RR.br dX6_planOf_31 rfl (fun c => ?_) (fun c => ?_)
      · have H := H.1 c
        refine RR.ic (v := (-1)) dX6_planOf_43 (by decide) ?_
        exact RR.iret dX6_planOf_44 rfl ⟨_, rfl, H⟩
      · have H := H.2 c
        refine RR.s2 (pc' := 35) (lv' := [(0, .ref 0), (1, .int x1), (2, .int x2), (3, .int v3)]) (st' := [.ref 0]) dX6_planOf_34 rfl ?_
        refine RR.getR dX6_planOf_35 fl_X6_67 rfl rfl ?_
        refine RR.s2 (pc' := 39) (lv' := [(0, .ref 0), (1, .int x1), (2, .int x2), (3, .int v3)]) (st' := [.int x2, .ref 20]) dX6_planOf_38 rfl ?_
        obtain ⟨j4, e5, b6, H⟩ := H
        refine RR.iald dX6_planOf_39 rfl e5 b6 ?_
        refine RR.s2 (pc' := 44) (lv' := [(0, .ref 0), (1, .int x1), (2, .int x2), (3, .int v3)]) (st' := [.int (s2.1 20 j4)]) dX6_planOf_40 rfl ?_
        exact RR.iret dX6_planOf_44 rfl ⟨_, rfl, H⟩
    · have H := H.2 (Classical.not_not.mp c)
      refine RR.s2 (pc' := 21) (lv' := [(0, .ref 0), (1, .int x1), (2, .int x2), (3, .int v3)]) (st' := [.int v3]) dX6_planOf_20 rfl ?_
      refine RR.s2 (pc' := 44) (lv' := [(0, .ref 0), (1, .int x1), (2, .int x2), (3, .int v3)]) (st' := [.int v3]) dX6_planOf_21 rfl ?_
      exact RR.iret dX6_planOf_44 rfl ⟨_, rfl, H⟩
set_option maxRecDepth 20000 in
theorem b_X6_plan {σ : r_St} {K : Int32 → r_St → Prop} {x1 : Int32} {x2 : Int32}  (H : (IN x1 0 39 → ((IN x2 (-1) 5 → M_X6_planOf σ (fun v2 s1 => K v2 s1) x1 x2) ∧ (¬ IN x2 (-1) 5 → K (-2) σ))) ∧ (¬ IN x1 0 39 → K (-2) σ)) : M_X6_plan σ K x1 x2 := by
  show RR 1 6 mX6_plan 0 [(0, .ref 0), (1, .int x1), (2, .int x2)] [] σ (rI K)
  refine RR.s2 (pc' := 1) (lv' := [(0, .ref 0), (1, .int x1), (2, .int x2)]) (st' := [.int x1]) dX6_plan_0 rfl ?_
  refine RR.cS dX6_plan_1 ml_X6_151 (as := [.int x1]) (rest := []) rfl rfl (Nat.le_of_ble_eq_true rfl) (Nat.le_of_ble_eq_true rfl) (by decide) (kb_X6_isDay (fun c => ?_) (fun c => ?_))
  · have H := H.1 c
    show RR 1 6 mX6_plan 4 [(0, .ref 0), (1, .int x1), (2, .int x2)] [.int 1] σ _
    refine RR.brF dX6_plan_4 rfl (by decide) ?_
    refine RR.s2 (pc' := 8) (lv' := [(0, .ref 0), (1, .int x1), (2, .int x2)]) (st' := [.int x2]) dX6_plan_7 rfl ?_
    refine RR.ic (v := (-1)) dX6_plan_8 (by decide) ?_
    refine RR.ic (v := 5) dX6_plan_9 (by decide) ?_
    refine RR.cS dX6_plan_10 ml_X6_106 (as := [.int x2, .int (-1), .int 5]) (rest := []) rfl rfl (Nat.le_of_ble_eq_true rfl) (Nat.le_of_ble_eq_true rfl) (by decide) (kb_X6_in (fun c => ?_) (fun c => ?_))
    · have H := H.1 c
      show RR 1 6 mX6_plan 13 [(0, .ref 0), (1, .int x1), (2, .int x2)] [.int 1] σ _
      refine RR.brF dX6_plan_13 rfl (by decide) ?_
      refine RR.s2 (pc' := 17) (lv' := [(0, .ref 0), (1, .int x1), (2, .int x2)]) (st' := [.ref 0]) dX6_plan_16 rfl ?_
      refine RR.s2 (pc' := 18) (lv' := [(0, .ref 0), (1, .int x1), (2, .int x2)]) (st' := [.int x1, .ref 0]) dX6_plan_17 rfl ?_
      refine RR.s2 (pc' := 19) (lv' := [(0, .ref 0), (1, .int x1), (2, .int x2)]) (st' := [.int x2, .int x1, .ref 0]) dX6_plan_18 rfl ?_
      refine RR.cV dX6_plan_19 ml_X6_241 rfl rfl (as := [.int x1, .int x2]) (rest := []) rfl rfl (Nat.le_of_ble_eq_true rfl) (Nat.le_of_ble_eq_true rfl) (by decide) (RR.toI H (fun v2 s1 H => ?_))
      show RR 1 6 mX6_plan 22 [(0, .ref 0), (1, .int x1), (2, .int x2)] [.int v2] s1 _
      refine RR.s2 (pc' := 27) (lv' := [(0, .ref 0), (1, .int x1), (2, .int x2)]) (st' := [.int v2]) dX6_plan_22 rfl ?_
      exact RR.iret dX6_plan_27 rfl ⟨_, rfl, H⟩
    · have H := H.2 c
      show RR 1 6 mX6_plan 13 [(0, .ref 0), (1, .int x1), (2, .int x2)] [.int 0] σ _
      refine RR.brT dX6_plan_13 rfl (by decide) ?_
      refine RR.bp (v := (-2)) dX6_plan_25 (by decide) ?_
      exact RR.iret dX6_plan_27 rfl ⟨_, rfl, H⟩
  · have H := H.2 c
    show RR 1 6 mX6_plan 4 [(0, .ref 0), (1, .int x1), (2, .int x2)] [.int 0] σ _
    refine RR.brT dX6_plan_4 rfl (by decide) ?_
    refine RR.bp (v := (-2)) dX6_plan_25 (by decide) ?_
    exact RR.iret dX6_plan_27 rfl ⟨_, rfl, H⟩
set_option maxRecDepth 20000 in
theorem b_X6_isWord {σ : r_St} {K : Int32 → r_St → Prop} {x1 : Int32} {x2 : Int32}  (H : M_X6_rulesOf σ (fun v2 s1 => (IN v2 0 1 → ((x2 = 8 → K 1 s1) ∧ (¬ (x2 = 8) → ((s1.1 0 2 ≤ x2 → K 0 s1) ∧ (¬ (s1.1 0 2 ≤ x2) → K 1 s1))))) ∧ (¬ IN v2 0 1 → ((x2 = 8 → K 1 s1) ∧ (¬ (x2 = 8) → K 0 s1)))) x1) : M_X6_isWord σ K x1 x2 := by
  show RR 1 3 mX6_isWord 0 [(0, .ref 0), (1, .int x1), (2, .int x2)] [] σ (rI K)
  refine RR.s2 (pc' := 1) (lv' := [(0, .ref 0), (1, .int x1), (2, .int x2)]) (st' := [.ref 0]) dX6_isWord_0 rfl ?_
  refine RR.s2 (pc' := 2) (lv' := [(0, .ref 0), (1, .int x1), (2, .int x2)]) (st' := [.int x1, .ref 0]) dX6_isWord_1 rfl ?_
  refine RR.cV dX6_isWord_2 ml_X6_173 rfl rfl (as := [.int x1]) (rest := []) rfl rfl (Nat.le_of_ble_eq_true rfl) (Nat.le_of_ble_eq_true rfl) (by decide) (RR.toI H (fun v2 s1 H => ?_))
  show RR 1 3 mX6_isWord 5 [(0, .ref 0), (1, .int x1), (2, .int x2)] [.int v2] s1 _
  refine RR.ic (v := 0) dX6_isWord_5 (by decide) ?_
  refine RR.ic (v := 1) dX6_isWord_6 (by decide) ?_
  refine RR.cS dX6_isWord_7 ml_X6_106 (as := [.int v2, .int 0, .int 1]) (rest := []) rfl rfl (Nat.le_of_ble_eq_true rfl) (Nat.le_of_ble_eq_true rfl) (by decide) (kb_X6_in (fun c => ?_) (fun c => ?_))
  · have H := H.1 c
    show RR 1 3 mX6_isWord 10 [(0, .ref 0), (1, .int x1), (2, .int x2)] [.int 1] s1 _
    refine RR.s2 (pc' := 11) (lv' := [(0, .ref 0), (1, .int x1), (2, .int x2), (3, .int 1)]) (st' := []) dX6_isWord_10 rfl ?_
    refine RR.s2 (pc' := 12) (lv' := [(0, .ref 0), (1, .int x1), (2, .int x2), (3, .int 1)]) (st' := [.int x2]) dX6_isWord_11 rfl ?_
    refine RR.bp (v := 8) dX6_isWord_12 (by decide) ?_
    refine RR.br dX6_isWord_14 rfl (fun c => ?_) (fun c => ?_)
    · have H := H.1 c
      refine RR.ic (v := 1) dX6_isWord_29 (by decide) ?_
      refine RR.s2 (pc' := 34) (lv' := [(0, .ref 0), (1, .int x1), (2, .int x2), (3, .int 1)]) (st' := [.int 1]) dX6_isWord_30 rfl ?_
      exact RR.zret dX6_isWord_34 rfl (by decide) ⟨_, rfl, H⟩
    · have H := H.2 c
      refine RR.s2 (pc' := 18) (lv' := [(0, .ref 0), (1, .int x1), (2, .int x2), (3, .int 1)]) (st' := [.int 1]) dX6_isWord_17 rfl ?_
      refine RR.brF dX6_isWord_18 rfl (by decide) ?_
      refine RR.s2 (pc' := 22) (lv' := [(0, .ref 0), (1, .int x1), (2, .int x2), (3, .int 1)]) (st' := [.int x2]) dX6_isWord_21 rfl ?_
      refine RR.s2 (pc' := 23) (lv' := [(0, .ref 0), (1, .int x1), (2, .int x2), (3, .int 1)]) (st' := [.ref 0, .int x2]) dX6_isWord_22 rfl ?_
      refine RR.getI dX6_isWord_23 fl_X6_114 rfl rfl ?_
      refine RR.br dX6_isWord_26 rfl (fun c => ?_) (fun c => ?_)
      · have H := H.1 c
        refine RR.ic (v := 0) dX6_isWord_33 (by decide) ?_
        exact RR.zret dX6_isWord_34 rfl (by decide) ⟨_, rfl, H⟩
      · have H := H.2 c
        refine RR.ic (v := 1) dX6_isWord_29 (by decide) ?_
        refine RR.s2 (pc' := 34) (lv' := [(0, .ref 0), (1, .int x1), (2, .int x2), (3, .int 1)]) (st' := [.int 1]) dX6_isWord_30 rfl ?_
        exact RR.zret dX6_isWord_34 rfl (by decide) ⟨_, rfl, H⟩
  · have H := H.2 c
    show RR 1 3 mX6_isWord 10 [(0, .ref 0), (1, .int x1), (2, .int x2)] [.int 0] s1 _
    refine RR.s2 (pc' := 11) (lv' := [(0, .ref 0), (1, .int x1), (2, .int x2), (3, .int 0)]) (st' := []) dX6_isWord_10 rfl ?_
    refine RR.s2 (pc' := 12) (lv' := [(0, .ref 0), (1, .int x1), (2, .int x2), (3, .int 0)]) (st' := [.int x2]) dX6_isWord_11 rfl ?_
    refine RR.bp (v := 8) dX6_isWord_12 (by decide) ?_
    refine RR.br dX6_isWord_14 rfl (fun c => ?_) (fun c => ?_)
    · have H := H.1 c
      refine RR.ic (v := 1) dX6_isWord_29 (by decide) ?_
      refine RR.s2 (pc' := 34) (lv' := [(0, .ref 0), (1, .int x1), (2, .int x2), (3, .int 0)]) (st' := [.int 1]) dX6_isWord_30 rfl ?_
      exact RR.zret dX6_isWord_34 rfl (by decide) ⟨_, rfl, H⟩
    · have H := H.2 c
      refine RR.s2 (pc' := 18) (lv' := [(0, .ref 0), (1, .int x1), (2, .int x2), (3, .int 0)]) (st' := [.int 0]) dX6_isWord_17 rfl ?_
      refine RR.brT dX6_isWord_18 rfl (by decide) ?_
      refine RR.ic (v := 0) dX6_isWord_33 (by decide) ?_
      exact RR.zret dX6_isWord_34 rfl (by decide) ⟨_, rfl, H⟩
set_option maxRecDepth 20000 in
theorem b_X6_laysOuts {σ : r_St} {K : r_St → Prop} {x1 : Int32} {x2 : Int32} {x3 : Int32}  (H : R_X6_laysOuts_3 σ K x1 x2 x3 0) : M_X6_laysOuts σ K x1 x2 x3 := by
  show RR 1 4 mX6_laysOuts 0 [(0, .ref 0), (1, .int x1), (2, .int x2), (3, .int x3)] [] σ (rV K)
  refine RR.ic (v := 0) dX6_laysOuts_0 (by decide) ?_
  refine RR.s2 (pc' := 3) (lv' := [(0, .ref 0), (1, .int x1), (2, .int x2), (3, .int x3), (4, .int 0)]) (st' := []) dX6_laysOuts_1 rfl ?_
  exact RR.cut [0, 1, 2, 3, 4] rfl H
set_option maxRecDepth 20000 in
theorem b_X6_laysOuts_3 {σ : r_St} {K : r_St → Prop} {x1 : Int32} {x2 : Int32} {x3 : Int32} {x4 : Int32}  (H : (x3 ≤ x4 → K σ) ∧ (¬ (x3 ≤ x4) → R_X6_laysOuts_31 (wI (wI σ 0 22 x1) 0 23 x2) K x1 x2 x3 x4 x4 1 (x2 - 1))) : R_X6_laysOuts_3 σ K x1 x2 x3 x4 := by
  show RR 1 4 mX6_laysOuts 3 [(0, .ref 0), (1, .int x1), (2, .int x2), (3, .int x3), (4, .int x4)] [] σ (rV K)
  refine RR.s2 (pc' := 5) (lv' := [(0, .ref 0), (1, .int x1), (2, .int x2), (3, .int x3), (4, .int x4)]) (st' := [.int x4]) dX6_laysOuts_3 rfl ?_
  refine RR.s2 (pc' := 6) (lv' := [(0, .ref 0), (1, .int x1), (2, .int x2), (3, .int x3), (4, .int x4)]) (st' := [.int x3, .int x4]) dX6_laysOuts_5 rfl ?_
  refine RR.br dX6_laysOuts_6 rfl (fun c => ?_) (fun c => ?_)
  · have H := H.1 c
    exact RR.vret dX6_laysOuts_133 rfl ⟨rfl, H⟩
  · have H := H.2 c
    refine RR.s2 (pc' := 11) (lv' := [(0, .ref 0), (1, .int x1), (2, .int x2), (3, .int x3), (4, .int x4)]) (st' := [.int x4]) dX6_laysOuts_9 rfl ?_
    refine RR.s2 (pc' := 13) (lv' := [(0, .ref 0), (1, .int x1), (2, .int x2), (3, .int x3), (4, .int x4), (5, .int x4)]) (st' := []) dX6_laysOuts_11 rfl ?_
    refine RR.ic (v := 1) dX6_laysOuts_13 (by decide) ?_
    refine RR.s2 (pc' := 16) (lv' := [(0, .ref 0), (1, .int x1), (2, .int x2), (3, .int x3), (4, .int x4), (5, .int x4), (6, .int 1)]) (st' := []) dX6_laysOuts_14 rfl ?_
    refine RR.s2 (pc' := 17) (lv' := [(0, .ref 0), (1, .int x1), (2, .int x2), (3, .int x3), (4, .int x4), (5, .int x4), (6, .int 1)]) (st' := [.ref 0]) dX6_laysOuts_16 rfl ?_
    refine RR.s2 (pc' := 18) (lv' := [(0, .ref 0), (1, .int x1), (2, .int x2), (3, .int x3), (4, .int x4), (5, .int x4), (6, .int 1)]) (st' := [.int x1, .ref 0]) dX6_laysOuts_17 rfl ?_
    refine RR.putI dX6_laysOuts_18 fp_X6_185 rfl rfl ?_
    refine RR.s2 (pc' := 22) (lv' := [(0, .ref 0), (1, .int x1), (2, .int x2), (3, .int x3), (4, .int x4), (5, .int x4), (6, .int 1)]) (st' := [.ref 0]) dX6_laysOuts_21 rfl ?_
    refine RR.s2 (pc' := 23) (lv' := [(0, .ref 0), (1, .int x1), (2, .int x2), (3, .int x3), (4, .int x4), (5, .int x4), (6, .int 1)]) (st' := [.int x2, .ref 0]) dX6_laysOuts_22 rfl ?_
    refine RR.putI dX6_laysOuts_23 fp_X6_179 rfl rfl ?_
    refine RR.s2 (pc' := 27) (lv' := [(0, .ref 0), (1, .int x1), (2, .int x2), (3, .int x3), (4, .int x4), (5, .int x4), (6, .int 1)]) (st' := [.int x2]) dX6_laysOuts_26 rfl ?_
    refine RR.ic (v := 1) dX6_laysOuts_27 (by decide) ?_
    refine RR.s2 (pc' := 29) (lv' := [(0, .ref 0), (1, .int x1), (2, .int x2), (3, .int x3), (4, .int x4), (5, .int x4), (6, .int 1)]) (st' := [.int (x2 - 1)]) dX6_laysOuts_28 rfl ?_
    refine RR.s2 (pc' := 31) (lv' := [(0, .ref 0), (1, .int x1), (2, .int x2), (3, .int x3), (4, .int x4), (5, .int x4), (6, .int 1), (7, .int (x2 - 1))]) (st' := []) dX6_laysOuts_29 rfl ?_
    exact RR.cut [0, 1, 2, 3, 4, 5, 6, 7] rfl H
set_option maxRecDepth 20000 in
theorem b_X6_laysOuts_31 {σ : r_St} {K : r_St → Prop} {x1 : Int32} {x2 : Int32} {x3 : Int32} {x4 : Int32} {x5 : Int32} {x6 : Int32} {x7 : Int32}  (H : (x7 < 0 → ((x6 = 0 → R_X6_laysOuts_100 σ K x1 x2 x3 x4 x6) ∧ (¬ (x6 = 0) → M_X6_lays σ (fun s1 => R_X6_laysOuts_100 s1 K x1 x2 x3 x4 x6)))) ∧ (¬ (x7 < 0) → (∃ j2 : Nat, x7 = nI j2 ∧ j2 < 3 ∧ ((x6 = 0 → R_X6_laysOuts_31 (wI σ 17 j2 (rm x5 9)) K x1 x2 x3 x4 (x5 / 9) 0 (x7 + (-1))) ∧ (¬ (x6 = 0) → (∃ j5 : Nat, x7 = nI j5 ∧ j5 < 3 ∧ (M_X6_isWord (wI σ 17 j2 (rm x5 9)) (fun v9 s8 => (v9 = 0 → R_X6_laysOuts_31 s8 K x1 x2 x3 x4 (x5 / 9) 0 (x7 + (-1))) ∧ (¬ (v9 = 0) → R_X6_laysOuts_31 s8 K x1 x2 x3 x4 (x5 / 9) 1 (x7 + (-1)))) (x1 + x7) ((wI σ 17 j2 (rm x5 9)).1 17 j5)))))))) : R_X6_laysOuts_31 σ K x1 x2 x3 x4 x5 x6 x7 := by
  show RR 1 4 mX6_laysOuts 31 [(0, .ref 0), (1, .int x1), (2, .int x2), (3, .int x3), (4, .int x4), (5, .int x5), (6, .int x6), (7, .int x7)] [] σ (rV K)
  refine RR.s2 (pc' := 33) (lv' := [(0, .ref 0), (1, .int x1), (2, .int x2), (3, .int x3), (4, .int x4), (5, .int x5), (6, .int x6), (7, .int x7)]) (st' := [.int x7]) dX6_laysOuts_31 rfl ?_
  refine RR.br dX6_laysOuts_33 rfl (fun c => ?_) (fun c => ?_)
  · have H := H.1 c
    refine RR.s2 (pc' := 93) (lv' := [(0, .ref 0), (1, .int x1), (2, .int x2), (3, .int x3), (4, .int x4), (5, .int x5), (6, .int x6), (7, .int x7)]) (st' := [.int x6]) dX6_laysOuts_91 rfl ?_
    refine RR.br dX6_laysOuts_93 rfl (fun c => ?_) (fun c => ?_)
    · have H := H.1 c
      exact RR.cut [0, 1, 2, 3, 4, 6] rfl H
    · have H := H.2 c
      refine RR.s2 (pc' := 97) (lv' := [(0, .ref 0), (1, .int x1), (2, .int x2), (3, .int x3), (4, .int x4), (5, .int x5), (6, .int x6), (7, .int x7)]) (st' := [.ref 0]) dX6_laysOuts_96 rfl ?_
      refine RR.cV dX6_laysOuts_97 ml_X6_191 rfl rfl (as := []) (rest := []) rfl rfl (Nat.le_of_ble_eq_true rfl) (Nat.le_of_ble_eq_true rfl) (by decide) (RR.toV H (fun s1 H => ?_))
      show RR 1 4 mX6_laysOuts 100 [(0, .ref 0), (1, .int x1), (2, .int x2), (3, .int x3), (4, .int x4), (5, .int x5), (6, .int x6), (7, .int x7)] [] s1 _
      exact RR.cut [0, 1, 2, 3, 4, 6] rfl H
  · have H := H.2 c
    refine RR.s2 (pc' := 37) (lv' := [(0, .ref 0), (1, .int x1), (2, .int x2), (3, .int x3), (4, .int x4), (5, .int x5), (6, .int x6), (7, .int x7)]) (st' := [.ref 0]) dX6_laysOuts_36 rfl ?_
    refine RR.getR dX6_laysOuts_37 fl_X6_58 rfl rfl ?_
    refine RR.s2 (pc' := 42) (lv' := [(0, .ref 0), (1, .int x1), (2, .int x2), (3, .int x3), (4, .int x4), (5, .int x5), (6, .int x6), (7, .int x7)]) (st' := [.int x7, .ref 17]) dX6_laysOuts_40 rfl ?_
    refine RR.s2 (pc' := 44) (lv' := [(0, .ref 0), (1, .int x1), (2, .int x2), (3, .int x3), (4, .int x4), (5, .int x5), (6, .int x6), (7, .int x7)]) (st' := [.int x5, .int x7, .ref 17]) dX6_laysOuts_42 rfl ?_
    refine RR.bp (v := 9) dX6_laysOuts_44 (by decide) ?_
    refine RR.irem dX6_laysOuts_46 (by decide) ?_
    show RR 1 4 mX6_laysOuts 47 [(0, .ref 0), (1, .int x1), (2, .int x2), (3, .int x3), (4, .int x4), (5, .int x5), (6, .int x6), (7, .int x7)] [.int (rm x5 9), .int x7, .ref 17] σ _
    obtain ⟨j2, e3, b4, H⟩ := H
    refine RR.iast dX6_laysOuts_47 rfl e3 b4 ?_
    refine RR.s2 (pc' := 50) (lv' := [(0, .ref 0), (1, .int x1), (2, .int x2), (3, .int x3), (4, .int x4), (5, .int x5), (6, .int x6), (7, .int x7)]) (st' := [.int x5]) dX6_laysOuts_48 rfl ?_
    refine RR.bp (v := 9) dX6_laysOuts_50 (by decide) ?_
    refine RR.idiv dX6_laysOuts_52 (by decide) ?_
    show RR 1 4 mX6_laysOuts 53 [(0, .ref 0), (1, .int x1), (2, .int x2), (3, .int x3), (4, .int x4), (5, .int x5), (6, .int x6), (7, .int x7)] [.int (x5 / 9)] (wI σ 17 j2 (rm x5 9)) _
    refine RR.s2 (pc' := 55) (lv' := [(0, .ref 0), (1, .int x1), (2, .int x2), (3, .int x3), (4, .int x4), (5, .int (x5 / 9)), (6, .int x6), (7, .int x7)]) (st' := []) dX6_laysOuts_53 rfl ?_
    refine RR.s2 (pc' := 57) (lv' := [(0, .ref 0), (1, .int x1), (2, .int x2), (3, .int x3), (4, .int x4), (5, .int (x5 / 9)), (6, .int x6), (7, .int x7)]) (st' := [.int x6]) dX6_laysOuts_55 rfl ?_
    refine RR.br dX6_laysOuts_57 rfl (fun c => ?_) (fun c => ?_)
    · have H := H.1 c
      refine RR.ic (v := 0) dX6_laysOuts_82 (by decide) ?_
      refine RR.s2 (pc' := 85) (lv' := [(0, .ref 0), (1, .int x1), (2, .int x2), (3, .int x3), (4, .int x4), (5, .int (x5 / 9)), (6, .int 0), (7, .int x7)]) (st' := []) dX6_laysOuts_83 rfl ?_
      refine RR.inc (c := (-1)) (lv' := [(0, .ref 0), (1, .int x1), (2, .int x2), (3, .int x3), (4, .int x4), (5, .int (x5 / 9)), (6, .int 0), (7, .int (x7 + (-1)))]) dX6_laysOuts_85 rfl (by decide) (by decide) rfl ?_
      refine RR.s2 (pc' := 31) (lv' := [(0, .ref 0), (1, .int x1), (2, .int x2), (3, .int x3), (4, .int x4), (5, .int (x5 / 9)), (6, .int 0), (7, .int (x7 + (-1)))]) (st' := []) dX6_laysOuts_88 rfl ?_
      exact RR.cut [0, 1, 2, 3, 4, 5, 6, 7] rfl H
    · have H := H.2 c
      refine RR.s2 (pc' := 61) (lv' := [(0, .ref 0), (1, .int x1), (2, .int x2), (3, .int x3), (4, .int x4), (5, .int (x5 / 9)), (6, .int x6), (7, .int x7)]) (st' := [.ref 0]) dX6_laysOuts_60 rfl ?_
      refine RR.s2 (pc' := 62) (lv' := [(0, .ref 0), (1, .int x1), (2, .int x2), (3, .int x3), (4, .int x4), (5, .int (x5 / 9)), (6, .int x6), (7, .int x7)]) (st' := [.int x1, .ref 0]) dX6_laysOuts_61 rfl ?_
      refine RR.s2 (pc' := 64) (lv' := [(0, .ref 0), (1, .int x1), (2, .int x2), (3, .int x3), (4, .int x4), (5, .int (x5 / 9)), (6, .int x6), (7, .int x7)]) (st' := [.int x7, .int x1, .ref 0]) dX6_laysOuts_62 rfl ?_
      refine RR.s2 (pc' := 65) (lv' := [(0, .ref 0), (1, .int x1), (2, .int x2), (3, .int x3), (4, .int x4), (5, .int (x5 / 9)), (6, .int x6), (7, .int x7)]) (st' := [.int (x1 + x7), .ref 0]) dX6_laysOuts_64 rfl ?_
      refine RR.s2 (pc' := 66) (lv' := [(0, .ref 0), (1, .int x1), (2, .int x2), (3, .int x3), (4, .int x4), (5, .int (x5 / 9)), (6, .int x6), (7, .int x7)]) (st' := [.ref 0, .int (x1 + x7), .ref 0]) dX6_laysOuts_65 rfl ?_
      refine RR.getR dX6_laysOuts_66 fl_X6_58 rfl rfl ?_
      refine RR.s2 (pc' := 71) (lv' := [(0, .ref 0), (1, .int x1), (2, .int x2), (3, .int x3), (4, .int x4), (5, .int (x5 / 9)), (6, .int x6), (7, .int x7)]) (st' := [.int x7, .ref 17, .int (x1 + x7), .ref 0]) dX6_laysOuts_69 rfl ?_
      obtain ⟨j5, e6, b7, H⟩ := H
      refine RR.iald dX6_laysOuts_71 rfl e6 b7 ?_
      refine RR.cV dX6_laysOuts_72 ml_X6_244 rfl rfl (as := [.int (x1 + x7), .int ((wI σ 17 j2 (rm x5 9)).1 17 j5)]) (rest := []) rfl rfl (Nat.le_of_ble_eq_true rfl) (Nat.le_of_ble_eq_true rfl) (by decide) (RR.toI H (fun v9 s8 H => ?_))
      show RR 1 4 mX6_laysOuts 75 [(0, .ref 0), (1, .int x1), (2, .int x2), (3, .int x3), (4, .int x4), (5, .int (x5 / 9)), (6, .int x6), (7, .int x7)] [.int v9] s8 _
      refine RR.br dX6_laysOuts_75 rfl (fun c => ?_) (fun c => ?_)
      · have H := H.1 c
        refine RR.ic (v := 0) dX6_laysOuts_82 (by decide) ?_
        refine RR.s2 (pc' := 85) (lv' := [(0, .ref 0), (1, .int x1), (2, .int x2), (3, .int x3), (4, .int x4), (5, .int (x5 / 9)), (6, .int 0), (7, .int x7)]) (st' := []) dX6_laysOuts_83 rfl ?_
        refine RR.inc (c := (-1)) (lv' := [(0, .ref 0), (1, .int x1), (2, .int x2), (3, .int x3), (4, .int x4), (5, .int (x5 / 9)), (6, .int 0), (7, .int (x7 + (-1)))]) dX6_laysOuts_85 rfl (by decide) (by decide) rfl ?_
        refine RR.s2 (pc' := 31) (lv' := [(0, .ref 0), (1, .int x1), (2, .int x2), (3, .int x3), (4, .int x4), (5, .int (x5 / 9)), (6, .int 0), (7, .int (x7 + (-1)))]) (st' := []) dX6_laysOuts_88 rfl ?_
        exact RR.cut [0, 1, 2, 3, 4, 5, 6, 7] rfl H
      · have H := H.2 c
        refine RR.ic (v := 1) dX6_laysOuts_78 (by decide) ?_
        refine RR.s2 (pc' := 83) (lv' := [(0, .ref 0), (1, .int x1), (2, .int x2), (3, .int x3), (4, .int x4), (5, .int (x5 / 9)), (6, .int x6), (7, .int x7)]) (st' := [.int 1]) dX6_laysOuts_79 rfl ?_
        refine RR.s2 (pc' := 85) (lv' := [(0, .ref 0), (1, .int x1), (2, .int x2), (3, .int x3), (4, .int x4), (5, .int (x5 / 9)), (6, .int 1), (7, .int x7)]) (st' := []) dX6_laysOuts_83 rfl ?_
        refine RR.inc (c := (-1)) (lv' := [(0, .ref 0), (1, .int x1), (2, .int x2), (3, .int x3), (4, .int x4), (5, .int (x5 / 9)), (6, .int 1), (7, .int (x7 + (-1)))]) dX6_laysOuts_85 rfl (by decide) (by decide) rfl ?_
        refine RR.s2 (pc' := 31) (lv' := [(0, .ref 0), (1, .int x1), (2, .int x2), (3, .int x3), (4, .int x4), (5, .int (x5 / 9)), (6, .int 1), (7, .int (x7 + (-1)))]) (st' := []) dX6_laysOuts_88 rfl ?_
        exact RR.cut [0, 1, 2, 3, 4, 5, 6, 7] rfl H
set_option maxRecDepth 20000 in
theorem b_X6_laysOuts_100 {σ : r_St} {K : r_St → Prop} {x1 : Int32} {x2 : Int32} {x3 : Int32} {x4 : Int32} {x6 : Int32}  (H : (x6 = 0 → (∃ j1 : Nat, x4 = nI j1 ∧ j1 < 729 ∧ R_X6_laysOuts_3 (wI σ 21 j1 (-1)) K x1 x2 x3 (x4 + 1))) ∧ (¬ (x6 = 0) → (∃ j4 : Nat, x1 + x2 = nI j4 ∧ j4 < 40 ∧ (M_X6_ones σ (fun v8 s7 => ∃ j9 : Nat, x4 = nI j9 ∧ j9 < 729 ∧ R_X6_laysOuts_3 (wI s7 21 j9 v8) K x1 x2 x3 (x4 + 1)) (σ.1 16 j4))))) : R_X6_laysOuts_100 σ K x1 x2 x3 x4 x6 := by
  show RR 1 4 mX6_laysOuts 100 [(0, .ref 0), (1, .int x1), (2, .int x2), (3, .int x3), (4, .int x4), (6, .int x6)] [] σ (rV K)
  refine RR.s2 (pc' := 101) (lv' := [(0, .ref 0), (1, .int x1), (2, .int x2), (3, .int x3), (4, .int x4), (6, .int x6)]) (st' := [.ref 0]) dX6_laysOuts_100 rfl ?_
  refine RR.getR dX6_laysOuts_101 fl_X6_70 rfl rfl ?_
  refine RR.s2 (pc' := 106) (lv' := [(0, .ref 0), (1, .int x1), (2, .int x2), (3, .int x3), (4, .int x4), (6, .int x6)]) (st' := [.int x4, .ref 21]) dX6_laysOuts_104 rfl ?_
  refine RR.s2 (pc' := 108) (lv' := [(0, .ref 0), (1, .int x1), (2, .int x2), (3, .int x3), (4, .int x4), (6, .int x6)]) (st' := [.int x6, .int x4, .ref 21]) dX6_laysOuts_106 rfl ?_
  refine RR.br dX6_laysOuts_108 rfl (fun c => ?_) (fun c => ?_)
  · have H := H.1 c
    refine RR.ic (v := (-1)) dX6_laysOuts_125 (by decide) ?_
    obtain ⟨j1, e2, b3, H⟩ := H
    refine RR.iast dX6_laysOuts_126 rfl e2 b3 ?_
    refine RR.inc (c := 1) (lv' := [(0, .ref 0), (1, .int x1), (2, .int x2), (3, .int x3), (4, .int (x4 + 1)), (6, .int x6)]) dX6_laysOuts_127 rfl (by decide) (by decide) rfl ?_
    refine RR.s2 (pc' := 3) (lv' := [(0, .ref 0), (1, .int x1), (2, .int x2), (3, .int x3), (4, .int (x4 + 1)), (6, .int x6)]) (st' := []) dX6_laysOuts_130 rfl ?_
    exact RR.cut [0, 1, 2, 3, 4] rfl H
  · have H := H.2 c
    refine RR.s2 (pc' := 112) (lv' := [(0, .ref 0), (1, .int x1), (2, .int x2), (3, .int x3), (4, .int x4), (6, .int x6)]) (st' := [.ref 0, .int x4, .ref 21]) dX6_laysOuts_111 rfl ?_
    refine RR.getR dX6_laysOuts_112 fl_X6_55 rfl rfl ?_
    refine RR.s2 (pc' := 116) (lv' := [(0, .ref 0), (1, .int x1), (2, .int x2), (3, .int x3), (4, .int x4), (6, .int x6)]) (st' := [.int x1, .ref 16, .int x4, .ref 21]) dX6_laysOuts_115 rfl ?_
    refine RR.s2 (pc' := 117) (lv' := [(0, .ref 0), (1, .int x1), (2, .int x2), (3, .int x3), (4, .int x4), (6, .int x6)]) (st' := [.int x2, .int x1, .ref 16, .int x4, .ref 21]) dX6_laysOuts_116 rfl ?_
    refine RR.s2 (pc' := 118) (lv' := [(0, .ref 0), (1, .int x1), (2, .int x2), (3, .int x3), (4, .int x4), (6, .int x6)]) (st' := [.int (x1 + x2), .ref 16, .int x4, .ref 21]) dX6_laysOuts_117 rfl ?_
    obtain ⟨j4, e5, b6, H⟩ := H
    refine RR.iald dX6_laysOuts_118 rfl e5 b6 ?_
    refine RR.cS dX6_laysOuts_119 ml_X6_247 (as := [.int (σ.1 16 j4)]) (rest := [.int x4, .ref 21]) rfl rfl (Nat.le_of_ble_eq_true rfl) (Nat.le_of_ble_eq_true rfl) (by decide) (RR.toI H (fun v8 s7 H => ?_))
    show RR 1 4 mX6_laysOuts 122 [(0, .ref 0), (1, .int x1), (2, .int x2), (3, .int x3), (4, .int x4), (6, .int x6)] [.int v8, .int x4, .ref 21] s7 _
    refine RR.s2 (pc' := 126) (lv' := [(0, .ref 0), (1, .int x1), (2, .int x2), (3, .int x3), (4, .int x4), (6, .int x6)]) (st' := [.int v8, .int x4, .ref 21]) dX6_laysOuts_122 rfl ?_
    obtain ⟨j9, e10, b11, H⟩ := H
    refine RR.iast dX6_laysOuts_126 rfl e10 b11 ?_
    refine RR.inc (c := 1) (lv' := [(0, .ref 0), (1, .int x1), (2, .int x2), (3, .int x3), (4, .int (x4 + 1)), (6, .int x6)]) dX6_laysOuts_127 rfl (by decide) (by decide) rfl ?_
    refine RR.s2 (pc' := 3) (lv' := [(0, .ref 0), (1, .int x1), (2, .int x2), (3, .int x3), (4, .int (x4 + 1)), (6, .int x6)]) (st' := []) dX6_laysOuts_130 rfl ?_
    exact RR.cut [0, 1, 2, 3, 4] rfl H
set_option maxRecDepth 20000 in
theorem b_X6_bestOut {σ : r_St} {K : Int32 → r_St → Prop} {x1 : Int32} {x2 : Int32}  (H : R_X6_bestOut_5 σ K x1 x2 (-1) 0) : M_X6_bestOut σ K x1 x2 := by
  show RR 1 1 mX6_bestOut 0 [(0, .ref 0), (1, .int x1), (2, .int x2)] [] σ (rI K)
  refine RR.ic (v := (-1)) dX6_bestOut_0 (by decide) ?_
  refine RR.s2 (pc' := 2) (lv' := [(0, .ref 0), (1, .int x1), (2, .int x2), (3, .int (-1))]) (st' := []) dX6_bestOut_1 rfl ?_
  refine RR.ic (v := 0) dX6_bestOut_2 (by decide) ?_
  refine RR.s2 (pc' := 5) (lv' := [(0, .ref 0), (1, .int x1), (2, .int x2), (3, .int (-1)), (4, .int 0)]) (st' := []) dX6_bestOut_3 rfl ?_
  exact RR.cut [0, 1, 2, 3, 4] rfl H
set_option maxRecDepth 20000 in
theorem b_X6_bestOut_5 {σ : r_St} {K : Int32 → r_St → Prop} {x1 : Int32} {x2 : Int32} {x3 : Int32} {x4 : Int32}  (H : (9 ≤ x4 → K x3 σ) ∧ (¬ (9 ≤ x4) → (∃ j1 : Nat, x1 + x4 = nI j1 ∧ j1 < 729 ∧ ((¬ x2 = 1 → ((σ.1 21 j1 ≤ x3 → R_X6_bestOut_53 σ K x1 x2 x3 x4 (σ.1 21 j1) 0) ∧ (¬ (σ.1 21 j1 ≤ x3) → R_X6_bestOut_53 σ K x1 x2 x3 x4 (σ.1 21 j1) 1))) ∧ (x2 = 1 → ((x3 ≤ σ.1 21 j1 → R_X6_bestOut_53 σ K x1 x2 x3 x4 (σ.1 21 j1) 0) ∧ (¬ (x3 ≤ σ.1 21 j1) → R_X6_bestOut_53 σ K x1 x2 x3 x4 (σ.1 21 j1) 1))))))) : R_X6_bestOut_5 σ K x1 x2 x3 x4 := by
  show RR 1 1 mX6_bestOut 5 [(0, .ref 0), (1, .int x1), (2, .int x2), (3, .int x3), (4, .int x4)] [] σ (rI K)
  refine RR.s2 (pc' := 7) (lv' := [(0, .ref 0), (1, .int x1), (2, .int x2), (3, .int x3), (4, .int x4)]) (st' := [.int x4]) dX6_bestOut_5 rfl ?_
  refine RR.bp (v := 9) dX6_bestOut_7 (by decide) ?_
  refine RR.br dX6_bestOut_9 rfl (fun c => ?_) (fun c => ?_)
  · have H := H.1 c
    refine RR.s2 (pc' := 85) (lv' := [(0, .ref 0), (1, .int x1), (2, .int x2), (3, .int x3), (4, .int x4)]) (st' := [.int x3]) dX6_bestOut_84 rfl ?_
    exact RR.iret dX6_bestOut_85 rfl ⟨_, rfl, H⟩
  · have H := H.2 c
    refine RR.s2 (pc' := 13) (lv' := [(0, .ref 0), (1, .int x1), (2, .int x2), (3, .int x3), (4, .int x4)]) (st' := [.ref 0]) dX6_bestOut_12 rfl ?_
    refine RR.getR dX6_bestOut_13 fl_X6_70 rfl rfl ?_
    refine RR.s2 (pc' := 17) (lv' := [(0, .ref 0), (1, .int x1), (2, .int x2), (3, .int x3), (4, .int x4)]) (st' := [.int x1, .ref 21]) dX6_bestOut_16 rfl ?_
    refine RR.s2 (pc' := 19) (lv' := [(0, .ref 0), (1, .int x1), (2, .int x2), (3, .int x3), (4, .int x4)]) (st' := [.int x4, .int x1, .ref 21]) dX6_bestOut_17 rfl ?_
    refine RR.s2 (pc' := 20) (lv' := [(0, .ref 0), (1, .int x1), (2, .int x2), (3, .int x3), (4, .int x4)]) (st' := [.int (x1 + x4), .ref 21]) dX6_bestOut_19 rfl ?_
    obtain ⟨j1, e2, b3, H⟩ := H
    refine RR.iald dX6_bestOut_20 rfl e2 b3 ?_
    refine RR.s2 (pc' := 23) (lv' := [(0, .ref 0), (1, .int x1), (2, .int x2), (3, .int x3), (4, .int x4), (5, .int (σ.1 21 j1))]) (st' := []) dX6_bestOut_21 rfl ?_
    refine RR.s2 (pc' := 24) (lv' := [(0, .ref 0), (1, .int x1), (2, .int x2), (3, .int x3), (4, .int x4), (5, .int (σ.1 21 j1))]) (st' := [.int x2]) dX6_bestOut_23 rfl ?_
    refine RR.ic (v := 1) dX6_bestOut_24 (by decide) ?_
    refine RR.br dX6_bestOut_25 rfl (fun c => ?_) (fun c => ?_)
    · have H := H.1 c
      refine RR.s2 (pc' := 44) (lv' := [(0, .ref 0), (1, .int x1), (2, .int x2), (3, .int x3), (4, .int x4), (5, .int (σ.1 21 j1))]) (st' := [.int (σ.1 21 j1)]) dX6_bestOut_42 rfl ?_
      refine RR.s2 (pc' := 45) (lv' := [(0, .ref 0), (1, .int x1), (2, .int x2), (3, .int x3), (4, .int x4), (5, .int (σ.1 21 j1))]) (st' := [.int x3, .int (σ.1 21 j1)]) dX6_bestOut_44 rfl ?_
      refine RR.br dX6_bestOut_45 rfl (fun c => ?_) (fun c => ?_)
      · have H := H.1 c
        refine RR.ic (v := 0) dX6_bestOut_52 (by decide) ?_
        exact RR.cut [0, 1, 2, 3, 4, 5] rfl H
      · have H := H.2 c
        refine RR.ic (v := 1) dX6_bestOut_48 (by decide) ?_
        refine RR.s2 (pc' := 53) (lv' := [(0, .ref 0), (1, .int x1), (2, .int x2), (3, .int x3), (4, .int x4), (5, .int (σ.1 21 j1))]) (st' := [.int 1]) dX6_bestOut_49 rfl ?_
        exact RR.cut [0, 1, 2, 3, 4, 5] rfl H
    · have H := H.2 (Classical.not_not.mp c)
      refine RR.s2 (pc' := 30) (lv' := [(0, .ref 0), (1, .int x1), (2, .int x2), (3, .int x3), (4, .int x4), (5, .int (σ.1 21 j1))]) (st' := [.int (σ.1 21 j1)]) dX6_bestOut_28 rfl ?_
      refine RR.s2 (pc' := 31) (lv' := [(0, .ref 0), (1, .int x1), (2, .int x2), (3, .int x3), (4, .int x4), (5, .int (σ.1 21 j1))]) (st' := [.int x3, .int (σ.1 21 j1)]) dX6_bestOut_30 rfl ?_
      refine RR.br dX6_bestOut_31 rfl (fun c => ?_) (fun c => ?_)
      · have H := H.1 c
        refine RR.ic (v := 0) dX6_bestOut_38 (by decide) ?_
        refine RR.s2 (pc' := 53) (lv' := [(0, .ref 0), (1, .int x1), (2, .int x2), (3, .int x3), (4, .int x4), (5, .int (σ.1 21 j1))]) (st' := [.int 0]) dX6_bestOut_39 rfl ?_
        exact RR.cut [0, 1, 2, 3, 4, 5] rfl H
      · have H := H.2 c
        refine RR.ic (v := 1) dX6_bestOut_34 (by decide) ?_
        refine RR.s2 (pc' := 53) (lv' := [(0, .ref 0), (1, .int x1), (2, .int x2), (3, .int x3), (4, .int x4), (5, .int (σ.1 21 j1))]) (st' := [.int 1]) dX6_bestOut_35 rfl ?_
        exact RR.cut [0, 1, 2, 3, 4, 5] rfl H
set_option maxRecDepth 20000 in
theorem b_X6_bestOut_53 {σ : r_St} {K : Int32 → r_St → Prop} {x1 : Int32} {x2 : Int32} {x3 : Int32} {x4 : Int32} {x5 : Int32} {t0 : Int32}  (H : (x5 = (-1) → R_X6_bestOut_5 σ K x1 x2 x3 (x4 + 1)) ∧ (¬ (x5 = (-1)) → ((x3 = (-1) → R_X6_bestOut_5 σ K x1 x2 x5 (x4 + 1)) ∧ (¬ (x3 = (-1)) → ((t0 = 0 → R_X6_bestOut_5 σ K x1 x2 x3 (x4 + 1)) ∧ (¬ (t0 = 0) → R_X6_bestOut_5 σ K x1 x2 x5 (x4 + 1))))))) : R_X6_bestOut_53 σ K x1 x2 x3 x4 x5 t0 := by
  show RR 1 1 mX6_bestOut 53 [(0, .ref 0), (1, .int x1), (2, .int x2), (3, .int x3), (4, .int x4), (5, .int x5)] [.int t0] σ (rI K)
  refine RR.s2 (pc' := 55) (lv' := [(0, .ref 0), (1, .int x1), (2, .int x2), (3, .int x3), (4, .int x4), (5, .int x5), (6, .int t0)]) (st' := []) dX6_bestOut_53 rfl ?_
  refine RR.s2 (pc' := 57) (lv' := [(0, .ref 0), (1, .int x1), (2, .int x2), (3, .int x3), (4, .int x4), (5, .int x5), (6, .int t0)]) (st' := [.int x5]) dX6_bestOut_55 rfl ?_
  refine RR.ic (v := (-1)) dX6_bestOut_57 (by decide) ?_
  refine RR.br dX6_bestOut_58 rfl (fun c => ?_) (fun c => ?_)
  · have H := H.1 c
    refine RR.s2 (pc' := 77) (lv' := [(0, .ref 0), (1, .int x1), (2, .int x2), (3, .int x3), (4, .int x4), (5, .int x5), (6, .int t0)]) (st' := [.int x3]) dX6_bestOut_76 rfl ?_
    refine RR.s2 (pc' := 78) (lv' := [(0, .ref 0), (1, .int x1), (2, .int x2), (3, .int x3), (4, .int x4), (5, .int x5), (6, .int t0)]) (st' := []) dX6_bestOut_77 rfl ?_
    refine RR.inc (c := 1) (lv' := [(0, .ref 0), (1, .int x1), (2, .int x2), (3, .int x3), (4, .int (x4 + 1)), (5, .int x5), (6, .int t0)]) dX6_bestOut_78 rfl (by decide) (by decide) rfl ?_
    refine RR.s2 (pc' := 5) (lv' := [(0, .ref 0), (1, .int x1), (2, .int x2), (3, .int x3), (4, .int (x4 + 1)), (5, .int x5), (6, .int t0)]) (st' := []) dX6_bestOut_81 rfl ?_
    exact RR.cut [0, 1, 2, 3, 4] rfl H
  · have H := H.2 c
    refine RR.s2 (pc' := 62) (lv' := [(0, .ref 0), (1, .int x1), (2, .int x2), (3, .int x3), (4, .int x4), (5, .int x5), (6, .int t0)]) (st' := [.int x3]) dX6_bestOut_61 rfl ?_
    refine RR.ic (v := (-1)) dX6_bestOut_62 (by decide) ?_
    refine RR.br dX6_bestOut_63 rfl (fun c => ?_) (fun c => ?_)
    · have H := H.1 c
      refine RR.s2 (pc' := 73) (lv' := [(0, .ref 0), (1, .int x1), (2, .int x2), (3, .int x3), (4, .int x4), (5, .int x5), (6, .int t0)]) (st' := [.int x5]) dX6_bestOut_71 rfl ?_
      refine RR.s2 (pc' := 77) (lv' := [(0, .ref 0), (1, .int x1), (2, .int x2), (3, .int x3), (4, .int x4), (5, .int x5), (6, .int t0)]) (st' := [.int x5]) dX6_bestOut_73 rfl ?_
      refine RR.s2 (pc' := 78) (lv' := [(0, .ref 0), (1, .int x1), (2, .int x2), (3, .int x5), (4, .int x4), (5, .int x5), (6, .int t0)]) (st' := []) dX6_bestOut_77 rfl ?_
      refine RR.inc (c := 1) (lv' := [(0, .ref 0), (1, .int x1), (2, .int x2), (3, .int x5), (4, .int (x4 + 1)), (5, .int x5), (6, .int t0)]) dX6_bestOut_78 rfl (by decide) (by decide) rfl ?_
      refine RR.s2 (pc' := 5) (lv' := [(0, .ref 0), (1, .int x1), (2, .int x2), (3, .int x5), (4, .int (x4 + 1)), (5, .int x5), (6, .int t0)]) (st' := []) dX6_bestOut_81 rfl ?_
      exact RR.cut [0, 1, 2, 3, 4] rfl H
    · have H := H.2 c
      refine RR.s2 (pc' := 68) (lv' := [(0, .ref 0), (1, .int x1), (2, .int x2), (3, .int x3), (4, .int x4), (5, .int x5), (6, .int t0)]) (st' := [.int t0]) dX6_bestOut_66 rfl ?_
      refine RR.br dX6_bestOut_68 rfl (fun c => ?_) (fun c => ?_)
      · have H := H.1 c
        refine RR.s2 (pc' := 77) (lv' := [(0, .ref 0), (1, .int x1), (2, .int x2), (3, .int x3), (4, .int x4), (5, .int x5), (6, .int t0)]) (st' := [.int x3]) dX6_bestOut_76 rfl ?_
        refine RR.s2 (pc' := 78) (lv' := [(0, .ref 0), (1, .int x1), (2, .int x2), (3, .int x3), (4, .int x4), (5, .int x5), (6, .int t0)]) (st' := []) dX6_bestOut_77 rfl ?_
        refine RR.inc (c := 1) (lv' := [(0, .ref 0), (1, .int x1), (2, .int x2), (3, .int x3), (4, .int (x4 + 1)), (5, .int x5), (6, .int t0)]) dX6_bestOut_78 rfl (by decide) (by decide) rfl ?_
        refine RR.s2 (pc' := 5) (lv' := [(0, .ref 0), (1, .int x1), (2, .int x2), (3, .int x3), (4, .int (x4 + 1)), (5, .int x5), (6, .int t0)]) (st' := []) dX6_bestOut_81 rfl ?_
        exact RR.cut [0, 1, 2, 3, 4] rfl H
      · have H := H.2 c
        refine RR.s2 (pc' := 73) (lv' := [(0, .ref 0), (1, .int x1), (2, .int x2), (3, .int x3), (4, .int x4), (5, .int x5), (6, .int t0)]) (st' := [.int x5]) dX6_bestOut_71 rfl ?_
        refine RR.s2 (pc' := 77) (lv' := [(0, .ref 0), (1, .int x1), (2, .int x2), (3, .int x3), (4, .int x4), (5, .int x5), (6, .int t0)]) (st' := [.int x5]) dX6_bestOut_73 rfl ?_
        refine RR.s2 (pc' := 78) (lv' := [(0, .ref 0), (1, .int x1), (2, .int x2), (3, .int x5), (4, .int x4), (5, .int x5), (6, .int t0)]) (st' := []) dX6_bestOut_77 rfl ?_
        refine RR.inc (c := 1) (lv' := [(0, .ref 0), (1, .int x1), (2, .int x2), (3, .int x5), (4, .int (x4 + 1)), (5, .int x5), (6, .int t0)]) dX6_bestOut_78 rfl (by decide) (by decide) rfl ?_
        refine RR.s2 (pc' := 5) (lv' := [(0, .ref 0), (1, .int x1), (2, .int x2), (3, .int x5), (4, .int (x4 + 1)), (5, .int x5), (6, .int t0)]) (st' := []) dX6_bestOut_81 rfl ?_
        exact RR.cut [0, 1, 2, 3, 4] rfl H
set_option maxRecDepth 20000 in
theorem b_X6_wordsOf {σ : r_St} {K : Int32 → r_St → Prop} {x1 : Int32} {x2 : Int32} {x3 : Int32}  (H : M_X6_faultNow σ (fun v2 s1 => (¬ x2 = 1 → ((¬ x2 = 2 → R_X6_wordsOf_31 (wI (wI s1 0 21 (-1)) 0 23 0) K x1 x2 x3 729) ∧ (x2 = 2 → R_X6_wordsOf_31 (wI (wI s1 0 21 (-1)) 0 23 0) K x1 x2 x3 81))) ∧ (x2 = 1 → R_X6_wordsOf_31 (wI (wI s1 0 21 (-1)) 0 23 0) K x1 x2 x3 9))) : M_X6_wordsOf σ K x1 x2 x3 := by
  show RR 1 5 mX6_wordsOf 0 [(0, .ref 0), (1, .int x1), (2, .int x2), (3, .int x3)] [] σ (rI K)
  refine RR.s2 (pc' := 1) (lv' := [(0, .ref 0), (1, .int x1), (2, .int x2), (3, .int x3)]) (st' := [.ref 0]) dX6_wordsOf_0 rfl ?_
  refine RR.cV (d' := 3) dX6_wordsOf_1 ml_X6_124 rfl rfl (as := []) (rest := []) rfl rfl (Nat.le_of_ble_eq_true rfl) (Nat.le_of_ble_eq_true rfl) (by decide) ?_
  show RR 1 3 mX6_reads 0 [(0, .ref 0)] [] σ _
  refine RR.s2 (pc' := 1) (lv' := [(0, .ref 0)]) (st' := [.ref 0]) dX6_reads_0 rfl ?_
  refine RR.cV dX6_reads_1 ml_X6_120 rfl rfl (as := []) (rest := []) rfl rfl (Nat.le_of_ble_eq_true rfl) (Nat.le_of_ble_eq_true rfl) (by decide) (RR.toI H (fun v2 s1 H => ?_))
  show RR 1 3 mX6_reads 4 [(0, .ref 0)] [.int v2] s1 _
  refine RR.s2 (pc' := 5) (lv' := [(0, .ref 0), (1, .int v2)]) (st' := []) dX6_reads_4 rfl ?_
  refine RR.vret dX6_reads_5 rfl ?_
  show RR 1 5 mX6_wordsOf 4 [(0, .ref 0), (1, .int x1), (2, .int x2), (3, .int x3)] [] s1 _
  refine RR.s2 (pc' := 5) (lv' := [(0, .ref 0), (1, .int x1), (2, .int x2), (3, .int x3)]) (st' := [.ref 0]) dX6_wordsOf_4 rfl ?_
  refine RR.cV (d' := 1) dX6_wordsOf_5 ml_X6_188 rfl rfl (as := []) (rest := []) rfl rfl (Nat.le_of_ble_eq_true rfl) (Nat.le_of_ble_eq_true rfl) (by decide) ?_
  show RR 1 1 mX6_asTold 0 [(0, .ref 0)] [] s1 _
  refine RR.s2 (pc' := 1) (lv' := [(0, .ref 0)]) (st' := [.ref 0]) dX6_asTold_0 rfl ?_
  refine RR.ic (v := (-1)) dX6_asTold_1 (by decide) ?_
  refine RR.putI dX6_asTold_2 fp_X6_176 rfl rfl ?_
  refine RR.s2 (pc' := 6) (lv' := [(0, .ref 0)]) (st' := [.ref 0]) dX6_asTold_5 rfl ?_
  refine RR.ic (v := 0) dX6_asTold_6 (by decide) ?_
  refine RR.putI dX6_asTold_7 fp_X6_179 rfl rfl ?_
  refine RR.vret dX6_asTold_10 rfl ?_
  show RR 1 5 mX6_wordsOf 8 [(0, .ref 0), (1, .int x1), (2, .int x2), (3, .int x3)] [] (wI (wI s1 0 21 (-1)) 0 23 0) _
  refine RR.s2 (pc' := 9) (lv' := [(0, .ref 0), (1, .int x1), (2, .int x2), (3, .int x3)]) (st' := [.int x2]) dX6_wordsOf_8 rfl ?_
  refine RR.ic (v := 1) dX6_wordsOf_9 (by decide) ?_
  refine RR.br dX6_wordsOf_10 rfl (fun c => ?_) (fun c => ?_)
  · have H := H.1 c
    refine RR.s2 (pc' := 19) (lv' := [(0, .ref 0), (1, .int x1), (2, .int x2), (3, .int x3)]) (st' := [.int x2]) dX6_wordsOf_18 rfl ?_
    refine RR.ic (v := 2) dX6_wordsOf_19 (by decide) ?_
    refine RR.br dX6_wordsOf_20 rfl (fun c => ?_) (fun c => ?_)
    · have H := H.1 c
      refine RR.sp (v := 729) dX6_wordsOf_28 (by decide) ?_
      exact RR.cut [0, 1, 2, 3] rfl H
    · have H := H.2 (Classical.not_not.mp c)
      refine RR.bp (v := 81) dX6_wordsOf_23 (by decide) ?_
      refine RR.s2 (pc' := 31) (lv' := [(0, .ref 0), (1, .int x1), (2, .int x2), (3, .int x3)]) (st' := [.int 81]) dX6_wordsOf_25 rfl ?_
      exact RR.cut [0, 1, 2, 3] rfl H
  · have H := H.2 (Classical.not_not.mp c)
    refine RR.bp (v := 9) dX6_wordsOf_13 (by decide) ?_
    refine RR.s2 (pc' := 31) (lv' := [(0, .ref 0), (1, .int x1), (2, .int x2), (3, .int x3)]) (st' := [.int 9]) dX6_wordsOf_15 rfl ?_
    exact RR.cut [0, 1, 2, 3] rfl H
set_option maxRecDepth 20000 in
theorem b_X6_wordsOf_31 {σ : r_St} {K : Int32 → r_St → Prop} {x1 : Int32} {x2 : Int32} {x3 : Int32} {t0 : Int32}  (H : M_X6_laysOuts σ (fun s1 => R_X6_wordsOf_46 s1 K x1 x3 t0 (x2 - 1)) x1 x2 t0) : R_X6_wordsOf_31 σ K x1 x2 x3 t0 := by
  show RR 1 5 mX6_wordsOf 31 [(0, .ref 0), (1, .int x1), (2, .int x2), (3, .int x3)] [.int t0] σ (rI K)
  refine RR.s2 (pc' := 33) (lv' := [(0, .ref 0), (1, .int x1), (2, .int x2), (3, .int x3), (4, .int t0)]) (st' := []) dX6_wordsOf_31 rfl ?_
  refine RR.s2 (pc' := 34) (lv' := [(0, .ref 0), (1, .int x1), (2, .int x2), (3, .int x3), (4, .int t0)]) (st' := [.ref 0]) dX6_wordsOf_33 rfl ?_
  refine RR.s2 (pc' := 35) (lv' := [(0, .ref 0), (1, .int x1), (2, .int x2), (3, .int x3), (4, .int t0)]) (st' := [.int x1, .ref 0]) dX6_wordsOf_34 rfl ?_
  refine RR.s2 (pc' := 36) (lv' := [(0, .ref 0), (1, .int x1), (2, .int x2), (3, .int x3), (4, .int t0)]) (st' := [.int x2, .int x1, .ref 0]) dX6_wordsOf_35 rfl ?_
  refine RR.s2 (pc' := 38) (lv' := [(0, .ref 0), (1, .int x1), (2, .int x2), (3, .int x3), (4, .int t0)]) (st' := [.int t0, .int x2, .int x1, .ref 0]) dX6_wordsOf_36 rfl ?_
  refine RR.cV dX6_wordsOf_38 ml_X6_250 rfl rfl (as := [.int x1, .int x2, .int t0]) (rest := []) rfl rfl (Nat.le_of_ble_eq_true rfl) (Nat.le_of_ble_eq_true rfl) (by decide) (RR.toV H (fun s1 H => ?_))
  show RR 1 5 mX6_wordsOf 41 [(0, .ref 0), (1, .int x1), (2, .int x2), (3, .int x3), (4, .int t0)] [] s1 _
  refine RR.s2 (pc' := 42) (lv' := [(0, .ref 0), (1, .int x1), (2, .int x2), (3, .int x3), (4, .int t0)]) (st' := [.int x2]) dX6_wordsOf_41 rfl ?_
  refine RR.ic (v := 1) dX6_wordsOf_42 (by decide) ?_
  refine RR.s2 (pc' := 44) (lv' := [(0, .ref 0), (1, .int x1), (2, .int x2), (3, .int x3), (4, .int t0)]) (st' := [.int (x2 - 1)]) dX6_wordsOf_43 rfl ?_
  refine RR.s2 (pc' := 46) (lv' := [(0, .ref 0), (1, .int x1), (2, .int x2), (3, .int x3), (4, .int t0), (5, .int (x2 - 1))]) (st' := []) dX6_wordsOf_44 rfl ?_
  exact RR.cut [0, 1, 3, 4, 5] rfl H
set_option maxRecDepth 20000 in
theorem b_X6_wordsOf_46 {σ : r_St} {K : Int32 → r_St → Prop} {x1 : Int32} {x3 : Int32} {x4 : Int32} {x5 : Int32}  (H : (x5 ≤ 0 → M_X6_rulesOf σ (fun v2 s1 => M_X6_bestOut s1 (fun v4 s3 => R_X6_wordsOf_123 s3 K x3 v2 v4 0) 0 v2) x1) ∧ (¬ (x5 ≤ 0) → R_X6_wordsOf_61 σ K x1 x3 (x4 / 9) x5 0)) : R_X6_wordsOf_46 σ K x1 x3 x4 x5 := by
  show RR 1 5 mX6_wordsOf 46 [(0, .ref 0), (1, .int x1), (3, .int x3), (4, .int x4), (5, .int x5)] [] σ (rI K)
  refine RR.s2 (pc' := 48) (lv' := [(0, .ref 0), (1, .int x1), (3, .int x3), (4, .int x4), (5, .int x5)]) (st' := [.int x5]) dX6_wordsOf_46 rfl ?_
  refine RR.br dX6_wordsOf_48 rfl (fun c => ?_) (fun c => ?_)
  · have H := H.1 c
    refine RR.s2 (pc' := 105) (lv' := [(0, .ref 0), (1, .int x1), (3, .int x3), (4, .int x4), (5, .int x5)]) (st' := [.ref 0]) dX6_wordsOf_104 rfl ?_
    refine RR.s2 (pc' := 106) (lv' := [(0, .ref 0), (1, .int x1), (3, .int x3), (4, .int x4), (5, .int x5)]) (st' := [.int x1, .ref 0]) dX6_wordsOf_105 rfl ?_
    refine RR.cV dX6_wordsOf_106 ml_X6_173 rfl rfl (as := [.int x1]) (rest := []) rfl rfl (Nat.le_of_ble_eq_true rfl) (Nat.le_of_ble_eq_true rfl) (by decide) (RR.toI H (fun v2 s1 H => ?_))
    show RR 1 5 mX6_wordsOf 109 [(0, .ref 0), (1, .int x1), (3, .int x3), (4, .int x4), (5, .int x5)] [.int v2] s1 _
    refine RR.s2 (pc' := 111) (lv' := [(0, .ref 0), (1, .int x1), (3, .int x3), (4, .int x4), (5, .int v2)]) (st' := []) dX6_wordsOf_109 rfl ?_
    refine RR.s2 (pc' := 112) (lv' := [(0, .ref 0), (1, .int x1), (3, .int x3), (4, .int x4), (5, .int v2)]) (st' := [.ref 0]) dX6_wordsOf_111 rfl ?_
    refine RR.ic (v := 0) dX6_wordsOf_112 (by decide) ?_
    refine RR.s2 (pc' := 115) (lv' := [(0, .ref 0), (1, .int x1), (3, .int x3), (4, .int x4), (5, .int v2)]) (st' := [.int v2, .int 0, .ref 0]) dX6_wordsOf_113 rfl ?_
    refine RR.cV dX6_wordsOf_115 ml_X6_254 rfl rfl (as := [.int 0, .int v2]) (rest := []) rfl rfl (Nat.le_of_ble_eq_true rfl) (Nat.le_of_ble_eq_true rfl) (by decide) (RR.toI H (fun v4 s3 H => ?_))
    show RR 1 5 mX6_wordsOf 118 [(0, .ref 0), (1, .int x1), (3, .int x3), (4, .int x4), (5, .int v2)] [.int v4] s3 _
    refine RR.s2 (pc' := 120) (lv' := [(0, .ref 0), (1, .int x1), (3, .int x3), (4, .int x4), (5, .int v2), (6, .int v4)]) (st' := []) dX6_wordsOf_118 rfl ?_
    refine RR.ic (v := 0) dX6_wordsOf_120 (by decide) ?_
    refine RR.s2 (pc' := 123) (lv' := [(0, .ref 0), (1, .int x1), (3, .int x3), (4, .int x4), (5, .int v2), (6, .int v4), (7, .int 0)]) (st' := []) dX6_wordsOf_121 rfl ?_
    exact RR.cut [0, 2, 4, 5, 6] rfl H
  · have H := H.2 c
    refine RR.s2 (pc' := 53) (lv' := [(0, .ref 0), (1, .int x1), (3, .int x3), (4, .int x4), (5, .int x5)]) (st' := [.int x4]) dX6_wordsOf_51 rfl ?_
    refine RR.bp (v := 9) dX6_wordsOf_53 (by decide) ?_
    refine RR.idiv dX6_wordsOf_55 (by decide) ?_
    show RR 1 5 mX6_wordsOf 56 [(0, .ref 0), (1, .int x1), (3, .int x3), (4, .int x4), (5, .int x5)] [.int (x4 / 9)] σ _
    refine RR.s2 (pc' := 58) (lv' := [(0, .ref 0), (1, .int x1), (3, .int x3), (4, .int (x4 / 9)), (5, .int x5)]) (st' := []) dX6_wordsOf_56 rfl ?_
    refine RR.ic (v := 0) dX6_wordsOf_58 (by decide) ?_
    refine RR.s2 (pc' := 61) (lv' := [(0, .ref 0), (1, .int x1), (3, .int x3), (4, .int (x4 / 9)), (5, .int x5), (6, .int 0)]) (st' := []) dX6_wordsOf_59 rfl ?_
    exact RR.cut [0, 1, 2, 3, 4, 5] rfl H
set_option maxRecDepth 20000 in
theorem b_X6_wordsOf_123 {σ : r_St} {K : Int32 → r_St → Prop} {x3 : Int32} {x5 : Int32} {x6 : Int32} {x7 : Int32}  (H : ∃ j1 : Nat, x7 = nI j1 ∧ j1 < 729 ∧ ((σ.1 21 j1 = x6 → ((¬ x3 = 0 → ((IN x5 0 1 → K x7 σ) ∧ (¬ IN x5 0 1 → K (-1) σ))) ∧ (x3 = 0 → K x6 σ))) ∧ (¬ (σ.1 21 j1 = x6) → R_X6_wordsOf_123 σ K x3 x5 x6 (x7 + 1)))) : R_X6_wordsOf_123 σ K x3 x5 x6 x7 := by
  show RR 1 5 mX6_wordsOf 123 [(0, .ref 0), (3, .int x3), (5, .int x5), (6, .int x6), (7, .int x7)] [] σ (rI K)
  refine RR.s2 (pc' := 124) (lv' := [(0, .ref 0), (3, .int x3), (5, .int x5), (6, .int x6), (7, .int x7)]) (st' := [.ref 0]) dX6_wordsOf_123 rfl ?_
  refine RR.getR dX6_wordsOf_124 fl_X6_70 rfl rfl ?_
  refine RR.s2 (pc' := 129) (lv' := [(0, .ref 0), (3, .int x3), (5, .int x5), (6, .int x6), (7, .int x7)]) (st' := [.int x7, .ref 21]) dX6_wordsOf_127 rfl ?_
  obtain ⟨j1, e2, b3, H⟩ := H
  refine RR.iald dX6_wordsOf_129 rfl e2 b3 ?_
  refine RR.s2 (pc' := 132) (lv' := [(0, .ref 0), (3, .int x3), (5, .int x5), (6, .int x6), (7, .int x7)]) (st' := [.int x6, .int (σ.1 21 j1)]) dX6_wordsOf_130 rfl ?_
  refine RR.br dX6_wordsOf_132 rfl (fun c => ?_) (fun c => ?_)
  · have H := H.1 c
    refine RR.s2 (pc' := 142) (lv' := [(0, .ref 0), (3, .int x3), (5, .int x5), (6, .int x6), (7, .int x7)]) (st' := [.int x3]) dX6_wordsOf_141 rfl ?_
    refine RR.br dX6_wordsOf_142 rfl (fun c => ?_) (fun c => ?_)
    · have H := H.1 c
      refine RR.s2 (pc' := 152) (lv' := [(0, .ref 0), (3, .int x3), (5, .int x5), (6, .int x6), (7, .int x7)]) (st' := [.int x5]) dX6_wordsOf_150 rfl ?_
      refine RR.ic (v := 0) dX6_wordsOf_152 (by decide) ?_
      refine RR.ic (v := 1) dX6_wordsOf_153 (by decide) ?_
      refine RR.cS dX6_wordsOf_154 ml_X6_106 (as := [.int x5, .int 0, .int 1]) (rest := []) rfl rfl (Nat.le_of_ble_eq_true rfl) (Nat.le_of_ble_eq_true rfl) (by decide) (kb_X6_in (fun c => ?_) (fun c => ?_))
      · have H := H.1 c
        show RR 1 5 mX6_wordsOf 157 [(0, .ref 0), (3, .int x3), (5, .int x5), (6, .int x6), (7, .int x7)] [.int 1] σ _
        refine RR.brF dX6_wordsOf_157 rfl (by decide) ?_
        refine RR.s2 (pc' := 162) (lv' := [(0, .ref 0), (3, .int x3), (5, .int x5), (6, .int x6), (7, .int x7)]) (st' := [.int x7]) dX6_wordsOf_160 rfl ?_
        refine RR.s2 (pc' := 166) (lv' := [(0, .ref 0), (3, .int x3), (5, .int x5), (6, .int x6), (7, .int x7)]) (st' := [.int x7]) dX6_wordsOf_162 rfl ?_
        exact RR.iret dX6_wordsOf_166 rfl ⟨_, rfl, H⟩
      · have H := H.2 c
        show RR 1 5 mX6_wordsOf 157 [(0, .ref 0), (3, .int x3), (5, .int x5), (6, .int x6), (7, .int x7)] [.int 0] σ _
        refine RR.brT dX6_wordsOf_157 rfl (by decide) ?_
        refine RR.ic (v := (-1)) dX6_wordsOf_165 (by decide) ?_
        exact RR.iret dX6_wordsOf_166 rfl ⟨_, rfl, H⟩
    · have H := H.2 (Classical.not_not.mp c)
      refine RR.s2 (pc' := 147) (lv' := [(0, .ref 0), (3, .int x3), (5, .int x5), (6, .int x6), (7, .int x7)]) (st' := [.int x6]) dX6_wordsOf_145 rfl ?_
      refine RR.s2 (pc' := 166) (lv' := [(0, .ref 0), (3, .int x3), (5, .int x5), (6, .int x6), (7, .int x7)]) (st' := [.int x6]) dX6_wordsOf_147 rfl ?_
      exact RR.iret dX6_wordsOf_166 rfl ⟨_, rfl, H⟩
  · have H := H.2 c
    refine RR.inc (c := 1) (lv' := [(0, .ref 0), (3, .int x3), (5, .int x5), (6, .int x6), (7, .int (x7 + 1))]) dX6_wordsOf_135 rfl (by decide) (by decide) rfl ?_
    refine RR.s2 (pc' := 123) (lv' := [(0, .ref 0), (3, .int x3), (5, .int x5), (6, .int x6), (7, .int (x7 + 1))]) (st' := []) dX6_wordsOf_138 rfl ?_
    exact RR.cut [0, 1, 2, 3, 4] rfl H
set_option maxRecDepth 20000 in
theorem b_X6_wordsOf_61 {σ : r_St} {K : Int32 → r_St → Prop} {x1 : Int32} {x3 : Int32} {x4 : Int32} {x5 : Int32} {x6 : Int32}  (H : (x4 ≤ x6 → R_X6_wordsOf_46 σ K x1 x3 x4 (x5 + (-1))) ∧ (¬ (x4 ≤ x6) → (M_X6_rulesOf σ (fun v2 s1 => M_X6_bestOut s1 (fun v4 s3 => ∃ j5 : Nat, x6 = nI j5 ∧ j5 < 729 ∧ R_X6_wordsOf_61 (wI s3 21 j5 v4) K x1 x3 x4 x5 (x6 + 1)) (9 * x6) v2) (x1 + x5)))) : R_X6_wordsOf_61 σ K x1 x3 x4 x5 x6 := by
  show RR 1 5 mX6_wordsOf 61 [(0, .ref 0), (1, .int x1), (3, .int x3), (4, .int x4), (5, .int x5), (6, .int x6)] [] σ (rI K)
  refine RR.s2 (pc' := 63) (lv' := [(0, .ref 0), (1, .int x1), (3, .int x3), (4, .int x4), (5, .int x5), (6, .int x6)]) (st' := [.int x6]) dX6_wordsOf_61 rfl ?_
  refine RR.s2 (pc' := 65) (lv' := [(0, .ref 0), (1, .int x1), (3, .int x3), (4, .int x4), (5, .int x5), (6, .int x6)]) (st' := [.int x4, .int x6]) dX6_wordsOf_63 rfl ?_
  refine RR.br dX6_wordsOf_65 rfl (fun c => ?_) (fun c => ?_)
  · have H := H.1 c
    refine RR.inc (c := (-1)) (lv' := [(0, .ref 0), (1, .int x1), (3, .int x3), (4, .int x4), (5, .int (x5 + (-1))), (6, .int x6)]) dX6_wordsOf_98 rfl (by decide) (by decide) rfl ?_
    refine RR.s2 (pc' := 46) (lv' := [(0, .ref 0), (1, .int x1), (3, .int x3), (4, .int x4), (5, .int (x5 + (-1))), (6, .int x6)]) (st' := []) dX6_wordsOf_101 rfl ?_
    exact RR.cut [0, 1, 2, 3, 4] rfl H
  · have H := H.2 c
    refine RR.s2 (pc' := 69) (lv' := [(0, .ref 0), (1, .int x1), (3, .int x3), (4, .int x4), (5, .int x5), (6, .int x6)]) (st' := [.ref 0]) dX6_wordsOf_68 rfl ?_
    refine RR.getR dX6_wordsOf_69 fl_X6_70 rfl rfl ?_
    refine RR.s2 (pc' := 74) (lv' := [(0, .ref 0), (1, .int x1), (3, .int x3), (4, .int x4), (5, .int x5), (6, .int x6)]) (st' := [.int x6, .ref 21]) dX6_wordsOf_72 rfl ?_
    refine RR.s2 (pc' := 75) (lv' := [(0, .ref 0), (1, .int x1), (3, .int x3), (4, .int x4), (5, .int x5), (6, .int x6)]) (st' := [.ref 0, .int x6, .ref 21]) dX6_wordsOf_74 rfl ?_
    refine RR.bp (v := 9) dX6_wordsOf_75 (by decide) ?_
    refine RR.s2 (pc' := 79) (lv' := [(0, .ref 0), (1, .int x1), (3, .int x3), (4, .int x4), (5, .int x5), (6, .int x6)]) (st' := [.int x6, .int 9, .ref 0, .int x6, .ref 21]) dX6_wordsOf_77 rfl ?_
    refine RR.s2 (pc' := 80) (lv' := [(0, .ref 0), (1, .int x1), (3, .int x3), (4, .int x4), (5, .int x5), (6, .int x6)]) (st' := [.int (9 * x6), .ref 0, .int x6, .ref 21]) dX6_wordsOf_79 rfl ?_
    refine RR.s2 (pc' := 81) (lv' := [(0, .ref 0), (1, .int x1), (3, .int x3), (4, .int x4), (5, .int x5), (6, .int x6)]) (st' := [.ref 0, .int (9 * x6), .ref 0, .int x6, .ref 21]) dX6_wordsOf_80 rfl ?_
    refine RR.s2 (pc' := 82) (lv' := [(0, .ref 0), (1, .int x1), (3, .int x3), (4, .int x4), (5, .int x5), (6, .int x6)]) (st' := [.int x1, .ref 0, .int (9 * x6), .ref 0, .int x6, .ref 21]) dX6_wordsOf_81 rfl ?_
    refine RR.s2 (pc' := 84) (lv' := [(0, .ref 0), (1, .int x1), (3, .int x3), (4, .int x4), (5, .int x5), (6, .int x6)]) (st' := [.int x5, .int x1, .ref 0, .int (9 * x6), .ref 0, .int x6, .ref 21]) dX6_wordsOf_82 rfl ?_
    refine RR.s2 (pc' := 85) (lv' := [(0, .ref 0), (1, .int x1), (3, .int x3), (4, .int x4), (5, .int x5), (6, .int x6)]) (st' := [.int (x1 + x5), .ref 0, .int (9 * x6), .ref 0, .int x6, .ref 21]) dX6_wordsOf_84 rfl ?_
    refine RR.cV dX6_wordsOf_85 ml_X6_173 rfl rfl (as := [.int (x1 + x5)]) (rest := [.int (9 * x6), .ref 0, .int x6, .ref 21]) rfl rfl (Nat.le_of_ble_eq_true rfl) (Nat.le_of_ble_eq_true rfl) (by decide) (RR.toI H (fun v2 s1 H => ?_))
    show RR 1 5 mX6_wordsOf 88 [(0, .ref 0), (1, .int x1), (3, .int x3), (4, .int x4), (5, .int x5), (6, .int x6)] [.int v2, .int (9 * x6), .ref 0, .int x6, .ref 21] s1 _
    refine RR.cV dX6_wordsOf_88 ml_X6_254 rfl rfl (as := [.int (9 * x6), .int v2]) (rest := [.int x6, .ref 21]) rfl rfl (Nat.le_of_ble_eq_true rfl) (Nat.le_of_ble_eq_true rfl) (by decide) (RR.toI H (fun v4 s3 H => ?_))
    show RR 1 5 mX6_wordsOf 91 [(0, .ref 0), (1, .int x1), (3, .int x3), (4, .int x4), (5, .int x5), (6, .int x6)] [.int v4, .int x6, .ref 21] s3 _
    obtain ⟨j5, e6, b7, H⟩ := H
    refine RR.iast dX6_wordsOf_91 rfl e6 b7 ?_
    refine RR.inc (c := 1) (lv' := [(0, .ref 0), (1, .int x1), (3, .int x3), (4, .int x4), (5, .int x5), (6, .int (x6 + 1))]) dX6_wordsOf_92 rfl (by decide) (by decide) rfl ?_
    refine RR.s2 (pc' := 61) (lv' := [(0, .ref 0), (1, .int x1), (3, .int x3), (4, .int x4), (5, .int x5), (6, .int (x6 + 1))]) (st' := []) dX6_wordsOf_95 rfl ?_
    exact RR.cut [0, 1, 2, 3, 4, 5] rfl H
set_option maxRecDepth 20000 in
theorem b_X6_words {σ : r_St} {K : Int32 → r_St → Prop} {x1 : Int32} {x2 : Int32} {x3 : Int32}  (H : (IN x1 0 39 → ((IN x2 1 3 → ((39 < x1 + x2 → K (-2) σ) ∧ (¬ (39 < x1 + x2) → ((IN x3 0 1 → M_X6_wordsOf σ (fun v2 s1 => K v2 s1) x1 x2 x3) ∧ (¬ IN x3 0 1 → K (-2) σ))))) ∧ (¬ IN x2 1 3 → K (-2) σ))) ∧ (¬ IN x1 0 39 → K (-2) σ)) : M_X6_words σ K x1 x2 x3 := by
  show RR 1 6 mX6_words 0 [(0, .ref 0), (1, .int x1), (2, .int x2), (3, .int x3)] [] σ (rI K)
  refine RR.s2 (pc' := 1) (lv' := [(0, .ref 0), (1, .int x1), (2, .int x2), (3, .int x3)]) (st' := [.int x1]) dX6_words_0 rfl ?_
  refine RR.cS dX6_words_1 ml_X6_151 (as := [.int x1]) (rest := []) rfl rfl (Nat.le_of_ble_eq_true rfl) (Nat.le_of_ble_eq_true rfl) (by decide) (kb_X6_isDay (fun c => ?_) (fun c => ?_))
  · have H := H.1 c
    show RR 1 6 mX6_words 4 [(0, .ref 0), (1, .int x1), (2, .int x2), (3, .int x3)] [.int 1] σ _
    refine RR.brF dX6_words_4 rfl (by decide) ?_
    refine RR.s2 (pc' := 8) (lv' := [(0, .ref 0), (1, .int x1), (2, .int x2), (3, .int x3)]) (st' := [.int x2]) dX6_words_7 rfl ?_
    refine RR.ic (v := 1) dX6_words_8 (by decide) ?_
    refine RR.ic (v := 3) dX6_words_9 (by decide) ?_
    refine RR.cS dX6_words_10 ml_X6_106 (as := [.int x2, .int 1, .int 3]) (rest := []) rfl rfl (Nat.le_of_ble_eq_true rfl) (Nat.le_of_ble_eq_true rfl) (by decide) (kb_X6_in (fun c => ?_) (fun c => ?_))
    · have H := H.1 c
      show RR 1 6 mX6_words 13 [(0, .ref 0), (1, .int x1), (2, .int x2), (3, .int x3)] [.int 1] σ _
      refine RR.brF dX6_words_13 rfl (by decide) ?_
      refine RR.s2 (pc' := 17) (lv' := [(0, .ref 0), (1, .int x1), (2, .int x2), (3, .int x3)]) (st' := [.int x1]) dX6_words_16 rfl ?_
      refine RR.s2 (pc' := 18) (lv' := [(0, .ref 0), (1, .int x1), (2, .int x2), (3, .int x3)]) (st' := [.int x2, .int x1]) dX6_words_17 rfl ?_
      refine RR.s2 (pc' := 19) (lv' := [(0, .ref 0), (1, .int x1), (2, .int x2), (3, .int x3)]) (st' := [.int (x1 + x2)]) dX6_words_18 rfl ?_
      refine RR.bp (v := 39) dX6_words_19 (by decide) ?_
      refine RR.br dX6_words_21 rfl (fun c => ?_) (fun c => ?_)
      · have H := H.1 c
        refine RR.bp (v := (-2)) dX6_words_41 (by decide) ?_
        exact RR.iret dX6_words_43 rfl ⟨_, rfl, H⟩
      · have H := H.2 c
        refine RR.s2 (pc' := 25) (lv' := [(0, .ref 0), (1, .int x1), (2, .int x2), (3, .int x3)]) (st' := [.int x3]) dX6_words_24 rfl ?_
        refine RR.cS dX6_words_25 ml_X6_145 (as := [.int x3]) (rest := []) rfl rfl (Nat.le_of_ble_eq_true rfl) (Nat.le_of_ble_eq_true rfl) (by decide) (kb_X6_isTwo (fun c => ?_) (fun c => ?_))
        · have H := H.1 c
          show RR 1 6 mX6_words 28 [(0, .ref 0), (1, .int x1), (2, .int x2), (3, .int x3)] [.int 1] σ _
          refine RR.brF dX6_words_28 rfl (by decide) ?_
          refine RR.s2 (pc' := 32) (lv' := [(0, .ref 0), (1, .int x1), (2, .int x2), (3, .int x3)]) (st' := [.ref 0]) dX6_words_31 rfl ?_
          refine RR.s2 (pc' := 33) (lv' := [(0, .ref 0), (1, .int x1), (2, .int x2), (3, .int x3)]) (st' := [.int x1, .ref 0]) dX6_words_32 rfl ?_
          refine RR.s2 (pc' := 34) (lv' := [(0, .ref 0), (1, .int x1), (2, .int x2), (3, .int x3)]) (st' := [.int x2, .int x1, .ref 0]) dX6_words_33 rfl ?_
          refine RR.s2 (pc' := 35) (lv' := [(0, .ref 0), (1, .int x1), (2, .int x2), (3, .int x3)]) (st' := [.int x3, .int x2, .int x1, .ref 0]) dX6_words_34 rfl ?_
          refine RR.cV dX6_words_35 ml_X6_257 rfl rfl (as := [.int x1, .int x2, .int x3]) (rest := []) rfl rfl (Nat.le_of_ble_eq_true rfl) (Nat.le_of_ble_eq_true rfl) (by decide) (RR.toI H (fun v2 s1 H => ?_))
          show RR 1 6 mX6_words 38 [(0, .ref 0), (1, .int x1), (2, .int x2), (3, .int x3)] [.int v2] s1 _
          refine RR.s2 (pc' := 43) (lv' := [(0, .ref 0), (1, .int x1), (2, .int x2), (3, .int x3)]) (st' := [.int v2]) dX6_words_38 rfl ?_
          exact RR.iret dX6_words_43 rfl ⟨_, rfl, H⟩
        · have H := H.2 c
          show RR 1 6 mX6_words 28 [(0, .ref 0), (1, .int x1), (2, .int x2), (3, .int x3)] [.int 0] σ _
          refine RR.brT dX6_words_28 rfl (by decide) ?_
          refine RR.bp (v := (-2)) dX6_words_41 (by decide) ?_
          exact RR.iret dX6_words_43 rfl ⟨_, rfl, H⟩
    · have H := H.2 c
      show RR 1 6 mX6_words 13 [(0, .ref 0), (1, .int x1), (2, .int x2), (3, .int x3)] [.int 0] σ _
      refine RR.brT dX6_words_13 rfl (by decide) ?_
      refine RR.bp (v := (-2)) dX6_words_41 (by decide) ?_
      exact RR.iret dX6_words_43 rfl ⟨_, rfl, H⟩
  · have H := H.2 c
    show RR 1 6 mX6_words 4 [(0, .ref 0), (1, .int x1), (2, .int x2), (3, .int x3)] [.int 0] σ _
    refine RR.brT dX6_words_4 rfl (by decide) ?_
    refine RR.bp (v := (-2)) dX6_words_41 (by decide) ?_
    exact RR.iret dX6_words_43 rfl ⟨_, rfl, H⟩
