/-! ===== block lemmas (written by mk.py) ===== -/
set_option maxRecDepth 20000 in
theorem b_X6_ones {σ : r_St} {K : Int32 → r_St → Prop} {x0 : Int32}  (H : R_X6_ones_4 σ K x0 0 0) : M_X6_ones σ K x0 := by
  show RR 1 1 mX6_ones 0 [(0, .int x0)] [] σ (rI K)
  refine RR.ic (v := 0) dX6_ones_0 (by decide) ?_
  refine RR.s2 (pc' := 2) (lv' := [(0, .int x0), (1, .int 0)]) (st' := []) dX6_ones_1 rfl ?_
  refine RR.ic (v := 0) dX6_ones_2 (by decide) ?_
  refine RR.s2 (pc' := 4) (lv' := [(0, .int x0), (1, .int 0), (2, .int 0)]) (st' := []) dX6_ones_3 rfl ?_
  exact RR.cut [0, 1, 2] rfl H
set_option maxRecDepth 20000 in
theorem b_X6_ones_4 {σ : r_St} {K : Int32 → r_St → Prop} {x0 : Int32} {x1 : Int32} {x2 : Int32}  (H : (8 ≤ x2 → K x1 σ) ∧ (¬ (8 ≤ x2) → R_X6_ones_4 σ K x0 (x1 + ((sr x0 x2) &&& 1)) (x2 + 1))) : R_X6_ones_4 σ K x0 x1 x2 := by
  show RR 1 1 mX6_ones 4 [(0, .int x0), (1, .int x1), (2, .int x2)] [] σ (rI K)
  refine RR.s2 (pc' := 5) (lv' := [(0, .int x0), (1, .int x1), (2, .int x2)]) (st' := [.int x2]) dX6_ones_4 rfl ?_
  refine RR.bp (v := 8) dX6_ones_5 (by decide) ?_
  refine RR.br dX6_ones_7 rfl (fun c => ?_) (fun c => ?_)
  · have H := H.1 c
    refine RR.s2 (pc' := 25) (lv' := [(0, .int x0), (1, .int x1), (2, .int x2)]) (st' := [.int x1]) dX6_ones_24 rfl ?_
    exact RR.iret dX6_ones_25 rfl ⟨_, rfl, H⟩
  · have H := H.2 c
    refine RR.s2 (pc' := 11) (lv' := [(0, .int x0), (1, .int x1), (2, .int x2)]) (st' := [.int x1]) dX6_ones_10 rfl ?_
    refine RR.s2 (pc' := 12) (lv' := [(0, .int x0), (1, .int x1), (2, .int x2)]) (st' := [.int x0, .int x1]) dX6_ones_11 rfl ?_
    refine RR.s2 (pc' := 13) (lv' := [(0, .int x0), (1, .int x1), (2, .int x2)]) (st' := [.int x2, .int x0, .int x1]) dX6_ones_12 rfl ?_
    refine RR.s2 (pc' := 14) (lv' := [(0, .int x0), (1, .int x1), (2, .int x2)]) (st' := [.int (sr x0 x2), .int x1]) dX6_ones_13 rfl ?_
    refine RR.ic (v := 1) dX6_ones_14 (by decide) ?_
    refine RR.s2 (pc' := 16) (lv' := [(0, .int x0), (1, .int x1), (2, .int x2)]) (st' := [.int ((sr x0 x2) &&& 1), .int x1]) dX6_ones_15 rfl ?_
    refine RR.s2 (pc' := 17) (lv' := [(0, .int x0), (1, .int x1), (2, .int x2)]) (st' := [.int (x1 + ((sr x0 x2) &&& 1))]) dX6_ones_16 rfl ?_
    refine RR.s2 (pc' := 18) (lv' := [(0, .int x0), (1, .int (x1 + ((sr x0 x2) &&& 1))), (2, .int x2)]) (st' := []) dX6_ones_17 rfl ?_
    refine RR.inc (c := 1) (lv' := [(0, .int x0), (1, .int (x1 + ((sr x0 x2) &&& 1))), (2, .int (x2 + 1))]) dX6_ones_18 rfl (by decide) (by decide) rfl ?_
    refine RR.s2 (pc' := 4) (lv' := [(0, .int x0), (1, .int (x1 + ((sr x0 x2) &&& 1))), (2, .int (x2 + 1))]) (st' := []) dX6_ones_21 rfl ?_
    exact RR.cut [0, 1, 2] rfl H
set_option maxRecDepth 20000 in
theorem b_X6_lowest {σ : r_St} {K : Int64 → r_St → Prop} {y0 : Int64} {y2 : Int64} {x4 : Int32}  (H : R_X6_lowest_6 σ K y0 y2 x4 y0 y2) : M_X6_lowest σ K y0 y2 x4 := by
  show RR 1 1 mX6_lowest 0 [(0, .long y0), (2, .long y2), (4, .int x4)] [] σ (rL K)
  refine RR.s2 (pc' := 1) (lv' := [(0, .long y0), (2, .long y2), (4, .int x4)]) (st' := [.long y0]) dX6_lowest_0 rfl ?_
  refine RR.s2 (pc' := 3) (lv' := [(0, .long y0), (2, .long y2), (4, .int x4), (5, .long y0)]) (st' := []) dX6_lowest_1 rfl ?_
  refine RR.s2 (pc' := 4) (lv' := [(0, .long y0), (2, .long y2), (4, .int x4), (5, .long y0)]) (st' := [.long y2]) dX6_lowest_3 rfl ?_
  refine RR.s2 (pc' := 6) (lv' := [(0, .long y0), (2, .long y2), (4, .int x4), (5, .long y0), (7, .long y2)]) (st' := []) dX6_lowest_4 rfl ?_
  exact RR.cut [0, 1, 2, 3, 4] rfl H
set_option maxRecDepth 20000 in
theorem b_X6_lowest_6 {σ : r_St} {K : Int64 → r_St → Prop} {y0 : Int64} {y2 : Int64} {x4 : Int32} {y5 : Int64} {y7 : Int64}  (H : (lg_cmp y7 (0 : Int64) = 0 → ((¬ x4 = 0 → (¬ y5 = 0 ∧ K (y2 / y5) σ)) ∧ (x4 = 0 → (¬ y5 = 0 ∧ K (y0 / y5) σ)))) ∧ (¬ (lg_cmp y7 (0 : Int64) = 0) → (¬ y7 = 0 ∧ R_X6_lowest_6 σ K y0 y2 x4 y7 (lrm y5 y7)))) : R_X6_lowest_6 σ K y0 y2 x4 y5 y7 := by
  show RR 1 1 mX6_lowest 6 [(0, .long y0), (2, .long y2), (4, .int x4), (5, .long y5), (7, .long y7)] [] σ (rL K)
  refine RR.s2 (pc' := 8) (lv' := [(0, .long y0), (2, .long y2), (4, .int x4), (5, .long y5), (7, .long y7)]) (st' := [.long y7]) dX6_lowest_6 rfl ?_
  refine RR.s2 (pc' := 9) (lv' := [(0, .long y0), (2, .long y2), (4, .int x4), (5, .long y5), (7, .long y7)]) (st' := [.long (0 : Int64), .long y7]) dX6_lowest_8 rfl ?_
  refine RR.s2 (pc' := 10) (lv' := [(0, .long y0), (2, .long y2), (4, .int x4), (5, .long y5), (7, .long y7)]) (st' := [.int (lg_cmp y7 (0 : Int64))]) dX6_lowest_9 rfl ?_
  refine RR.br dX6_lowest_10 rfl (fun c => ?_) (fun c => ?_)
  · have H := H.1 c
    refine RR.s2 (pc' := 33) (lv' := [(0, .long y0), (2, .long y2), (4, .int x4), (5, .long y5), (7, .long y7)]) (st' := [.int x4]) dX6_lowest_31 rfl ?_
    refine RR.br dX6_lowest_33 rfl (fun c => ?_) (fun c => ?_)
    · have H := H.1 c
      refine RR.s2 (pc' := 44) (lv' := [(0, .long y0), (2, .long y2), (4, .int x4), (5, .long y5), (7, .long y7)]) (st' := [.long y2]) dX6_lowest_43 rfl ?_
      refine RR.s2 (pc' := 46) (lv' := [(0, .long y0), (2, .long y2), (4, .int x4), (5, .long y5), (7, .long y7)]) (st' := [.long y5, .long y2]) dX6_lowest_44 rfl ?_
      obtain ⟨h0, H⟩ := H
      refine RR.ldiv dX6_lowest_46 h0 ?_
      show RR 1 1 mX6_lowest 47 [(0, .long y0), (2, .long y2), (4, .int x4), (5, .long y5), (7, .long y7)] [.long (y2 / y5)] σ _
      exact RR.lret dX6_lowest_47 rfl ⟨_, rfl, H⟩
    · have H := H.2 (Classical.not_not.mp c)
      refine RR.s2 (pc' := 37) (lv' := [(0, .long y0), (2, .long y2), (4, .int x4), (5, .long y5), (7, .long y7)]) (st' := [.long y0]) dX6_lowest_36 rfl ?_
      refine RR.s2 (pc' := 39) (lv' := [(0, .long y0), (2, .long y2), (4, .int x4), (5, .long y5), (7, .long y7)]) (st' := [.long y5, .long y0]) dX6_lowest_37 rfl ?_
      obtain ⟨h0, H⟩ := H
      refine RR.ldiv dX6_lowest_39 h0 ?_
      show RR 1 1 mX6_lowest 40 [(0, .long y0), (2, .long y2), (4, .int x4), (5, .long y5), (7, .long y7)] [.long (y0 / y5)] σ _
      refine RR.s2 (pc' := 47) (lv' := [(0, .long y0), (2, .long y2), (4, .int x4), (5, .long y5), (7, .long y7)]) (st' := [.long (y0 / y5)]) dX6_lowest_40 rfl ?_
      exact RR.lret dX6_lowest_47 rfl ⟨_, rfl, H⟩
  · have H := H.2 c
    refine RR.s2 (pc' := 15) (lv' := [(0, .long y0), (2, .long y2), (4, .int x4), (5, .long y5), (7, .long y7)]) (st' := [.long y5]) dX6_lowest_13 rfl ?_
    refine RR.s2 (pc' := 17) (lv' := [(0, .long y0), (2, .long y2), (4, .int x4), (5, .long y5), (7, .long y7)]) (st' := [.long y7, .long y5]) dX6_lowest_15 rfl ?_
    obtain ⟨h0, H⟩ := H
    refine RR.lrem dX6_lowest_17 h0 ?_
    show RR 1 1 mX6_lowest 18 [(0, .long y0), (2, .long y2), (4, .int x4), (5, .long y5), (7, .long y7)] [.long (lrm y5 y7)] σ _
    refine RR.s2 (pc' := 20) (lv' := [(0, .long y0), (2, .long y2), (4, .int x4), (5, .long y5), (7, .long y7), (9, .long (lrm y5 y7))]) (st' := []) dX6_lowest_18 rfl ?_
    refine RR.s2 (pc' := 22) (lv' := [(0, .long y0), (2, .long y2), (4, .int x4), (5, .long y5), (7, .long y7), (9, .long (lrm y5 y7))]) (st' := [.long y7]) dX6_lowest_20 rfl ?_
    refine RR.s2 (pc' := 24) (lv' := [(0, .long y0), (2, .long y2), (4, .int x4), (5, .long y7), (7, .long y7), (9, .long (lrm y5 y7))]) (st' := []) dX6_lowest_22 rfl ?_
    refine RR.s2 (pc' := 26) (lv' := [(0, .long y0), (2, .long y2), (4, .int x4), (5, .long y7), (7, .long y7), (9, .long (lrm y5 y7))]) (st' := [.long (lrm y5 y7)]) dX6_lowest_24 rfl ?_
    refine RR.s2 (pc' := 28) (lv' := [(0, .long y0), (2, .long y2), (4, .int x4), (5, .long y7), (7, .long (lrm y5 y7)), (9, .long (lrm y5 y7))]) (st' := []) dX6_lowest_26 rfl ?_
    refine RR.s2 (pc' := 6) (lv' := [(0, .long y0), (2, .long y2), (4, .int x4), (5, .long y7), (7, .long (lrm y5 y7)), (9, .long (lrm y5 y7))]) (st' := []) dX6_lowest_28 rfl ?_
    exact RR.cut [0, 1, 2, 3, 4] rfl H
set_option maxRecDepth 20000 in
theorem b_X6_type {σ : r_St} {K : Int32 → r_St → Prop} {x1 : Int32}  (H : (IN x1 0 255 → ((¬ σ.1 0 1 = 23 → (∃ j1 : Nat, σ.1 0 1 = nI j1 ∧ j1 < 23 ∧ K ((σ.1 0 1) + 1) (wI (wI σ 1 j1 x1) 0 1 ((σ.1 0 1) + 1)))) ∧ (σ.1 0 1 = 23 → K (-4) σ))) ∧ (¬ IN x1 0 255 → K (-2) σ)) : M_X6_type σ K x1 := by
  show RR 1 2 mX6_type 0 [(0, .ref 0), (1, .int x1)] [] σ (rI K)
  refine RR.s2 (pc' := 1) (lv' := [(0, .ref 0), (1, .int x1)]) (st' := [.int x1]) dX6_type_0 rfl ?_
  refine RR.ic (v := 0) dX6_type_1 (by decide) ?_
  refine RR.sp (v := 255) dX6_type_2 (by decide) ?_
  refine RR.cS dX6_type_5 ml_X6_106 (as := [.int x1, .int 0, .int 255]) (rest := []) rfl rfl (Nat.le_of_ble_eq_true rfl) (Nat.le_of_ble_eq_true rfl) (by decide) (kb_X6_in (fun c => ?_) (fun c => ?_))
  · have H := H.1 c
    show RR 1 2 mX6_type 8 [(0, .ref 0), (1, .int x1)] [.int 1] σ _
    refine RR.brT dX6_type_8 rfl (by decide) ?_
    refine RR.s2 (pc' := 15) (lv' := [(0, .ref 0), (1, .int x1)]) (st' := [.ref 0]) dX6_type_14 rfl ?_
    refine RR.getI dX6_type_15 fl_X6_110 rfl rfl ?_
    refine RR.bp (v := 23) dX6_type_18 (by decide) ?_
    refine RR.br dX6_type_20 rfl (fun c => ?_) (fun c => ?_)
    · have H := H.1 c
      refine RR.s2 (pc' := 27) (lv' := [(0, .ref 0), (1, .int x1)]) (st' := [.ref 0]) dX6_type_26 rfl ?_
      refine RR.getR dX6_type_27 fl_X6_7 rfl rfl ?_
      refine RR.s2 (pc' := 31) (lv' := [(0, .ref 0), (1, .int x1)]) (st' := [.ref 0, .ref 1]) dX6_type_30 rfl ?_
      refine RR.getI dX6_type_31 fl_X6_110 rfl rfl ?_
      refine RR.s2 (pc' := 35) (lv' := [(0, .ref 0), (1, .int x1)]) (st' := [.int x1, .int (σ.1 0 1), .ref 1]) dX6_type_34 rfl ?_
      obtain ⟨j1, e2, b3, H⟩ := H
      refine RR.iast dX6_type_35 rfl e2 b3 ?_
      refine RR.s2 (pc' := 37) (lv' := [(0, .ref 0), (1, .int x1)]) (st' := [.ref 0]) dX6_type_36 rfl ?_
      refine RR.s2 (pc' := 38) (lv' := [(0, .ref 0), (1, .int x1)]) (st' := [.ref 0, .ref 0]) dX6_type_37 rfl ?_
      refine RR.getI dX6_type_38 fl_X6_110 rfl rfl ?_
      show RR 1 2 mX6_type 41 [(0, .ref 0), (1, .int x1)] [.int (σ.1 0 1), .ref 0] (wI σ 1 j1 x1) _
      refine RR.ic (v := 1) dX6_type_41 (by decide) ?_
      refine RR.s2 (pc' := 43) (lv' := [(0, .ref 0), (1, .int x1)]) (st' := [.int ((σ.1 0 1) + 1), .ref 0]) dX6_type_42 rfl ?_
      refine RR.putI dX6_type_43 fp_X6_110 rfl rfl ?_
      refine RR.s2 (pc' := 47) (lv' := [(0, .ref 0), (1, .int x1)]) (st' := [.ref 0]) dX6_type_46 rfl ?_
      refine RR.getI dX6_type_47 fl_X6_110 rfl rfl ?_
      show RR 1 2 mX6_type 50 [(0, .ref 0), (1, .int x1)] [.int ((σ.1 0 1) + 1)] (wI (wI σ 1 j1 x1) 0 1 ((σ.1 0 1) + 1)) _
      exact RR.iret dX6_type_50 rfl ⟨_, rfl, H⟩
    · have H := H.2 (Classical.not_not.mp c)
      refine RR.bp (v := (-4)) dX6_type_23 (by decide) ?_
      exact RR.iret dX6_type_25 rfl ⟨_, rfl, H⟩
  · have H := H.2 c
    show RR 1 2 mX6_type 8 [(0, .ref 0), (1, .int x1)] [.int 0] σ _
    refine RR.brF dX6_type_8 rfl (by decide) ?_
    refine RR.bp (v := (-2)) dX6_type_11 (by decide) ?_
    exact RR.iret dX6_type_13 rfl ⟨_, rfl, H⟩
set_option maxRecDepth 20000 in
theorem b_X6_wipe {σ : r_St} {K : Int32 → r_St → Prop}  (H : K (σ.1 0 1) (wI σ 0 1 0)) : M_X6_wipe σ K := by
  show RR 1 1 mX6_wipe 0 [(0, .ref 0)] [] σ (rI K)
  refine RR.s2 (pc' := 1) (lv' := [(0, .ref 0)]) (st' := [.ref 0]) dX6_wipe_0 rfl ?_
  refine RR.getI dX6_wipe_1 fl_X6_110 rfl rfl ?_
  refine RR.s2 (pc' := 5) (lv' := [(0, .ref 0), (1, .int (σ.1 0 1))]) (st' := []) dX6_wipe_4 rfl ?_
  refine RR.s2 (pc' := 6) (lv' := [(0, .ref 0), (1, .int (σ.1 0 1))]) (st' := [.ref 0]) dX6_wipe_5 rfl ?_
  refine RR.ic (v := 0) dX6_wipe_6 (by decide) ?_
  refine RR.putI dX6_wipe_7 fp_X6_110 rfl rfl ?_
  refine RR.s2 (pc' := 11) (lv' := [(0, .ref 0), (1, .int (σ.1 0 1))]) (st' := [.int (σ.1 0 1)]) dX6_wipe_10 rfl ?_
  exact RR.iret dX6_wipe_11 rfl ⟨_, rfl, H⟩
set_option maxRecDepth 20000 in
theorem b_X6_undo {σ : r_St} {K : Int32 → r_St → Prop}  (H : (¬ σ.1 0 1 = 0 → K ((σ.1 0 1) - 1) (wI σ 0 1 ((σ.1 0 1) - 1))) ∧ (σ.1 0 1 = 0 → K (-3) σ)) : M_X6_undo σ K := by
  show RR 1 1 mX6_undo 0 [(0, .ref 0)] [] σ (rI K)
  refine RR.s2 (pc' := 1) (lv' := [(0, .ref 0)]) (st' := [.ref 0]) dX6_undo_0 rfl ?_
  refine RR.getI dX6_undo_1 fl_X6_110 rfl rfl ?_
  refine RR.br dX6_undo_4 rfl (fun c => ?_) (fun c => ?_)
  · have H := H.1 c
    refine RR.s2 (pc' := 11) (lv' := [(0, .ref 0)]) (st' := [.ref 0]) dX6_undo_10 rfl ?_
    refine RR.s2 (pc' := 12) (lv' := [(0, .ref 0)]) (st' := [.ref 0, .ref 0]) dX6_undo_11 rfl ?_
    refine RR.getI dX6_undo_12 fl_X6_110 rfl rfl ?_
    refine RR.ic (v := 1) dX6_undo_15 (by decide) ?_
    refine RR.s2 (pc' := 17) (lv' := [(0, .ref 0)]) (st' := [.int ((σ.1 0 1) - 1), .ref 0]) dX6_undo_16 rfl ?_
    refine RR.putI dX6_undo_17 fp_X6_110 rfl rfl ?_
    refine RR.s2 (pc' := 21) (lv' := [(0, .ref 0)]) (st' := [.ref 0]) dX6_undo_20 rfl ?_
    refine RR.getI dX6_undo_21 fl_X6_110 rfl rfl ?_
    show RR 1 1 mX6_undo 24 [(0, .ref 0)] [.int ((σ.1 0 1) - 1)] (wI σ 0 1 ((σ.1 0 1) - 1)) _
    exact RR.iret dX6_undo_24 rfl ⟨_, rfl, H⟩
  · have H := H.2 (Classical.not_not.mp c)
    refine RR.bp (v := (-3)) dX6_undo_7 (by decide) ?_
    exact RR.iret dX6_undo_9 rfl ⟨_, rfl, H⟩
set_option maxRecDepth 20000 in
theorem b_X6_faultNow {σ : r_St} {K : Int32 → r_St → Prop}  (H : R_X6_faultNow_16 (wI (wI σ 0 2 0) 0 4 0) K 0 0 0) : M_X6_faultNow σ K := by
  show RR 1 2 mX6_faultNow 0 [(0, .ref 0)] [] σ (rI K)
  refine RR.ic (v := 0) dX6_faultNow_0 (by decide) ?_
  refine RR.s2 (pc' := 2) (lv' := [(0, .ref 0), (1, .int 0)]) (st' := []) dX6_faultNow_1 rfl ?_
  refine RR.ic (v := 0) dX6_faultNow_2 (by decide) ?_
  refine RR.s2 (pc' := 4) (lv' := [(0, .ref 0), (1, .int 0), (2, .int 0)]) (st' := []) dX6_faultNow_3 rfl ?_
  refine RR.ic (v := 0) dX6_faultNow_4 (by decide) ?_
  refine RR.s2 (pc' := 6) (lv' := [(0, .ref 0), (1, .int 0), (2, .int 0), (3, .int 0)]) (st' := []) dX6_faultNow_5 rfl ?_
  refine RR.s2 (pc' := 7) (lv' := [(0, .ref 0), (1, .int 0), (2, .int 0), (3, .int 0)]) (st' := [.ref 0]) dX6_faultNow_6 rfl ?_
  refine RR.ic (v := 0) dX6_faultNow_7 (by decide) ?_
  refine RR.putI dX6_faultNow_8 fp_X6_114 rfl rfl ?_
  refine RR.s2 (pc' := 12) (lv' := [(0, .ref 0), (1, .int 0), (2, .int 0), (3, .int 0)]) (st' := [.ref 0]) dX6_faultNow_11 rfl ?_
  refine RR.ic (v := 0) dX6_faultNow_12 (by decide) ?_
  refine RR.putI dX6_faultNow_13 fp_X6_117 rfl rfl ?_
  exact RR.cut [0, 1, 2, 3] rfl H
set_option maxRecDepth 20000 in
theorem b_X6_faultNow_16 {σ : r_St} {K : Int32 → r_St → Prop} {x1 : Int32} {x2 : Int32} {x3 : Int32}  (H : (x2 < σ.1 0 1 → R_X6_faultNow_28 σ K x1 x2 x3) ∧ (¬ (x2 < σ.1 0 1) → ((x2 ≤ 0 → K (-1) σ) ∧ (¬ (x2 ≤ 0) → R_X6_faultNow_28 σ K x1 x2 x3)))) : R_X6_faultNow_16 σ K x1 x2 x3 := by
  show RR 1 2 mX6_faultNow 16 [(0, .ref 0), (1, .int x1), (2, .int x2), (3, .int x3)] [] σ (rI K)
  refine RR.s2 (pc' := 17) (lv' := [(0, .ref 0), (1, .int x1), (2, .int x2), (3, .int x3)]) (st' := [.int x2]) dX6_faultNow_16 rfl ?_
  refine RR.s2 (pc' := 18) (lv' := [(0, .ref 0), (1, .int x1), (2, .int x2), (3, .int x3)]) (st' := [.ref 0, .int x2]) dX6_faultNow_17 rfl ?_
  refine RR.getI dX6_faultNow_18 fl_X6_110 rfl rfl ?_
  refine RR.br dX6_faultNow_21 rfl (fun c => ?_) (fun c => ?_)
  · have H := H.1 c
    exact RR.cut [0, 1, 2, 3] rfl H
  · have H := H.2 c
    refine RR.s2 (pc' := 25) (lv' := [(0, .ref 0), (1, .int x1), (2, .int x2), (3, .int x3)]) (st' := [.int x2]) dX6_faultNow_24 rfl ?_
    refine RR.br dX6_faultNow_25 rfl (fun c => ?_) (fun c => ?_)
    · have H := H.1 c
      refine RR.ic (v := (-1)) dX6_faultNow_179 (by decide) ?_
      exact RR.iret dX6_faultNow_180 rfl ⟨_, rfl, H⟩
    · have H := H.2 c
      exact RR.cut [0, 1, 2, 3] rfl H
set_option maxRecDepth 20000 in
theorem b_X6_faultNow_28 {σ : r_St} {K : Int32 → r_St → Prop} {x1 : Int32} {x2 : Int32} {x3 : Int32}  (H : (σ.1 0 1 ≤ x2 + 1 → R_X6_faultNow_50 σ K x1 x2 x3 (-1)) ∧ (¬ (σ.1 0 1 ≤ x2 + 1) → (∃ j1 : Nat, x2 + 1 = nI j1 ∧ j1 < 23 ∧ R_X6_faultNow_50 σ K x1 x2 x3 (σ.1 1 j1)))) : R_X6_faultNow_28 σ K x1 x2 x3 := by
  show RR 1 2 mX6_faultNow 28 [(0, .ref 0), (1, .int x1), (2, .int x2), (3, .int x3)] [] σ (rI K)
  refine RR.s2 (pc' := 29) (lv' := [(0, .ref 0), (1, .int x1), (2, .int x2), (3, .int x3)]) (st' := [.int x2]) dX6_faultNow_28 rfl ?_
  refine RR.ic (v := 1) dX6_faultNow_29 (by decide) ?_
  refine RR.s2 (pc' := 31) (lv' := [(0, .ref 0), (1, .int x1), (2, .int x2), (3, .int x3)]) (st' := [.int (x2 + 1)]) dX6_faultNow_30 rfl ?_
  refine RR.s2 (pc' := 32) (lv' := [(0, .ref 0), (1, .int x1), (2, .int x2), (3, .int x3)]) (st' := [.ref 0, .int (x2 + 1)]) dX6_faultNow_31 rfl ?_
  refine RR.getI dX6_faultNow_32 fl_X6_110 rfl rfl ?_
  refine RR.br dX6_faultNow_35 rfl (fun c => ?_) (fun c => ?_)
  · have H := H.1 c
    refine RR.ic (v := (-1)) dX6_faultNow_49 (by decide) ?_
    exact RR.cut [0, 1, 2, 3] rfl H
  · have H := H.2 c
    refine RR.s2 (pc' := 39) (lv' := [(0, .ref 0), (1, .int x1), (2, .int x2), (3, .int x3)]) (st' := [.ref 0]) dX6_faultNow_38 rfl ?_
    refine RR.getR dX6_faultNow_39 fl_X6_7 rfl rfl ?_
    refine RR.s2 (pc' := 43) (lv' := [(0, .ref 0), (1, .int x1), (2, .int x2), (3, .int x3)]) (st' := [.int x2, .ref 1]) dX6_faultNow_42 rfl ?_
    refine RR.ic (v := 1) dX6_faultNow_43 (by decide) ?_
    refine RR.s2 (pc' := 45) (lv' := [(0, .ref 0), (1, .int x1), (2, .int x2), (3, .int x3)]) (st' := [.int (x2 + 1), .ref 1]) dX6_faultNow_44 rfl ?_
    obtain ⟨j1, e2, b3, H⟩ := H
    refine RR.iald dX6_faultNow_45 rfl e2 b3 ?_
    refine RR.s2 (pc' := 50) (lv' := [(0, .ref 0), (1, .int x1), (2, .int x2), (3, .int x3)]) (st' := [.int (σ.1 1 j1)]) dX6_faultNow_46 rfl ?_
    exact RR.cut [0, 1, 2, 3] rfl H
set_option maxRecDepth 20000 in
theorem b_X6_faultNow_50 {σ : r_St} {K : Int32 → r_St → Prop} {x1 : Int32} {x2 : Int32} {x3 : Int32} {t0 : Int32}  (H : (x1 = 8 → K x2 σ) ∧ (¬ (x1 = 8) → ((x2 = σ.1 0 1 → K x2 σ) ∧ (¬ (x2 = σ.1 0 1) → (∃ j1 : Nat, x2 = nI j1 ∧ j1 < 23 ∧ ((IN (σ.1 1 j1) 48 57 → ((t0 = 97 → R_X6_faultNow_102 σ K x1 x2 x3 t0) ∧ (¬ (t0 = 97) → ((t0 = 102 → R_X6_faultNow_102 σ K x1 x2 x3 t0) ∧ (¬ (t0 = 102) → K (x2 + 1) σ))))) ∧ (¬ IN (σ.1 1 j1) 48 57 → K x2 σ))))))) : R_X6_faultNow_50 σ K x1 x2 x3 t0 := by
  show RR 1 2 mX6_faultNow 50 [(0, .ref 0), (1, .int x1), (2, .int x2), (3, .int x3)] [.int t0] σ (rI K)
  refine RR.s2 (pc' := 52) (lv' := [(0, .ref 0), (1, .int x1), (2, .int x2), (3, .int x3), (4, .int t0)]) (st' := []) dX6_faultNow_50 rfl ?_
  refine RR.s2 (pc' := 53) (lv' := [(0, .ref 0), (1, .int x1), (2, .int x2), (3, .int x3), (4, .int t0)]) (st' := [.int x1]) dX6_faultNow_52 rfl ?_
  refine RR.bp (v := 8) dX6_faultNow_53 (by decide) ?_
  refine RR.br dX6_faultNow_55 rfl (fun c => ?_) (fun c => ?_)
  · have H := H.1 c
    refine RR.s2 (pc' := 83) (lv' := [(0, .ref 0), (1, .int x1), (2, .int x2), (3, .int x3), (4, .int t0)]) (st' := [.int x2]) dX6_faultNow_82 rfl ?_
    exact RR.iret dX6_faultNow_83 rfl ⟨_, rfl, H⟩
  · have H := H.2 c
    refine RR.s2 (pc' := 59) (lv' := [(0, .ref 0), (1, .int x1), (2, .int x2), (3, .int x3), (4, .int t0)]) (st' := [.int x2]) dX6_faultNow_58 rfl ?_
    refine RR.s2 (pc' := 60) (lv' := [(0, .ref 0), (1, .int x1), (2, .int x2), (3, .int x3), (4, .int t0)]) (st' := [.ref 0, .int x2]) dX6_faultNow_59 rfl ?_
    refine RR.getI dX6_faultNow_60 fl_X6_110 rfl rfl ?_
    refine RR.br dX6_faultNow_63 rfl (fun c => ?_) (fun c => ?_)
    · have H := H.1 c
      refine RR.s2 (pc' := 83) (lv' := [(0, .ref 0), (1, .int x1), (2, .int x2), (3, .int x3), (4, .int t0)]) (st' := [.int x2]) dX6_faultNow_82 rfl ?_
      exact RR.iret dX6_faultNow_83 rfl ⟨_, rfl, H⟩
    · have H := H.2 c
      refine RR.s2 (pc' := 67) (lv' := [(0, .ref 0), (1, .int x1), (2, .int x2), (3, .int x3), (4, .int t0)]) (st' := [.ref 0]) dX6_faultNow_66 rfl ?_
      refine RR.getR dX6_faultNow_67 fl_X6_7 rfl rfl ?_
      refine RR.s2 (pc' := 71) (lv' := [(0, .ref 0), (1, .int x1), (2, .int x2), (3, .int x3), (4, .int t0)]) (st' := [.int x2, .ref 1]) dX6_faultNow_70 rfl ?_
      obtain ⟨j1, e2, b3, H⟩ := H
      refine RR.iald dX6_faultNow_71 rfl e2 b3 ?_
      refine RR.bp (v := 48) dX6_faultNow_72 (by decide) ?_
      refine RR.bp (v := 57) dX6_faultNow_74 (by decide) ?_
      refine RR.cS dX6_faultNow_76 ml_X6_106 (as := [.int (σ.1 1 j1), .int 48, .int 57]) (rest := []) rfl rfl (Nat.le_of_ble_eq_true rfl) (Nat.le_of_ble_eq_true rfl) (by decide) (kb_X6_in (fun c => ?_) (fun c => ?_))
      · have H := H.1 c
        show RR 1 2 mX6_faultNow 79 [(0, .ref 0), (1, .int x1), (2, .int x2), (3, .int x3), (4, .int t0)] [.int 1] σ _
        refine RR.brT dX6_faultNow_79 rfl (by decide) ?_
        refine RR.s2 (pc' := 86) (lv' := [(0, .ref 0), (1, .int x1), (2, .int x2), (3, .int x3), (4, .int t0)]) (st' := [.int t0]) dX6_faultNow_84 rfl ?_
        refine RR.bp (v := 97) dX6_faultNow_86 (by decide) ?_
        refine RR.br dX6_faultNow_88 rfl (fun c => ?_) (fun c => ?_)
        · have H := H.1 c
          exact RR.cut [0, 1, 2, 3, 4] rfl H
        · have H := H.2 c
          refine RR.s2 (pc' := 93) (lv' := [(0, .ref 0), (1, .int x1), (2, .int x2), (3, .int x3), (4, .int t0)]) (st' := [.int t0]) dX6_faultNow_91 rfl ?_
          refine RR.bp (v := 102) dX6_faultNow_93 (by decide) ?_
          refine RR.br dX6_faultNow_95 rfl (fun c => ?_) (fun c => ?_)
          · have H := H.1 c
            exact RR.cut [0, 1, 2, 3, 4] rfl H
          · have H := H.2 c
            refine RR.s2 (pc' := 99) (lv' := [(0, .ref 0), (1, .int x1), (2, .int x2), (3, .int x3), (4, .int t0)]) (st' := [.int x2]) dX6_faultNow_98 rfl ?_
            refine RR.ic (v := 1) dX6_faultNow_99 (by decide) ?_
            refine RR.s2 (pc' := 101) (lv' := [(0, .ref 0), (1, .int x1), (2, .int x2), (3, .int x3), (4, .int t0)]) (st' := [.int (x2 + 1)]) dX6_faultNow_100 rfl ?_
            exact RR.iret dX6_faultNow_101 rfl ⟨_, rfl, H⟩
      · have H := H.2 c
        show RR 1 2 mX6_faultNow 79 [(0, .ref 0), (1, .int x1), (2, .int x2), (3, .int x3), (4, .int t0)] [.int 0] σ _
        refine RR.brF dX6_faultNow_79 rfl (by decide) ?_
        refine RR.s2 (pc' := 83) (lv' := [(0, .ref 0), (1, .int x1), (2, .int x2), (3, .int x3), (4, .int t0)]) (st' := [.int x2]) dX6_faultNow_82 rfl ?_
        exact RR.iret dX6_faultNow_83 rfl ⟨_, rfl, H⟩
set_option maxRecDepth 20000 in
theorem b_X6_faultNow_102 {σ : r_St} {K : Int32 → r_St → Prop} {x1 : Int32} {x2 : Int32} {x3 : Int32} {x4 : Int32}  (H : ∃ j1 : Nat, x2 = nI j1 ∧ j1 < 23 ∧ (∃ j4 : Nat, x1 = nI j4 ∧ j4 < 9 ∧ ((¬ x4 = 97 → R_X6_faultNow_132 (wI σ 2 j4 ((σ.1 1 j1) - 48)) K x1 x2 0 x3) ∧ (x4 = 97 → R_X6_faultNow_132 (wI σ 2 j4 ((σ.1 1 j1) - 48)) K x1 x2 (sl 1 x1) x3)))) : R_X6_faultNow_102 σ K x1 x2 x3 x4 := by
  show RR 1 2 mX6_faultNow 102 [(0, .ref 0), (1, .int x1), (2, .int x2), (3, .int x3), (4, .int x4)] [] σ (rI K)
  refine RR.s2 (pc' := 103) (lv' := [(0, .ref 0), (1, .int x1), (2, .int x2), (3, .int x3), (4, .int x4)]) (st' := [.ref 0]) dX6_faultNow_102 rfl ?_
  refine RR.getR dX6_faultNow_103 fl_X6_13 rfl rfl ?_
  refine RR.s2 (pc' := 107) (lv' := [(0, .ref 0), (1, .int x1), (2, .int x2), (3, .int x3), (4, .int x4)]) (st' := [.int x1, .ref 2]) dX6_faultNow_106 rfl ?_
  refine RR.s2 (pc' := 108) (lv' := [(0, .ref 0), (1, .int x1), (2, .int x2), (3, .int x3), (4, .int x4)]) (st' := [.ref 0, .int x1, .ref 2]) dX6_faultNow_107 rfl ?_
  refine RR.getR dX6_faultNow_108 fl_X6_7 rfl rfl ?_
  refine RR.s2 (pc' := 112) (lv' := [(0, .ref 0), (1, .int x1), (2, .int x2), (3, .int x3), (4, .int x4)]) (st' := [.int x2, .ref 1, .int x1, .ref 2]) dX6_faultNow_111 rfl ?_
  obtain ⟨j1, e2, b3, H⟩ := H
  refine RR.iald dX6_faultNow_112 rfl e2 b3 ?_
  refine RR.bp (v := 48) dX6_faultNow_113 (by decide) ?_
  refine RR.s2 (pc' := 116) (lv' := [(0, .ref 0), (1, .int x1), (2, .int x2), (3, .int x3), (4, .int x4)]) (st' := [.int ((σ.1 1 j1) - 48), .int x1, .ref 2]) dX6_faultNow_115 rfl ?_
  obtain ⟨j4, e5, b6, H⟩ := H
  refine RR.iast dX6_faultNow_116 rfl e5 b6 ?_
  refine RR.s2 (pc' := 118) (lv' := [(0, .ref 0), (1, .int x1), (2, .int x2), (3, .int x3), (4, .int x4)]) (st' := [.int x3]) dX6_faultNow_117 rfl ?_
  refine RR.s2 (pc' := 120) (lv' := [(0, .ref 0), (1, .int x1), (2, .int x2), (3, .int x3), (4, .int x4)]) (st' := [.int x4, .int x3]) dX6_faultNow_118 rfl ?_
  refine RR.bp (v := 97) dX6_faultNow_120 (by decide) ?_
  refine RR.br dX6_faultNow_122 rfl (fun c => ?_) (fun c => ?_)
  · have H := H.1 c
    refine RR.ic (v := 0) dX6_faultNow_131 (by decide) ?_
    exact RR.cut [0, 1, 2] rfl H
  · have H := H.2 (Classical.not_not.mp c)
    refine RR.ic (v := 1) dX6_faultNow_125 (by decide) ?_
    refine RR.s2 (pc' := 127) (lv' := [(0, .ref 0), (1, .int x1), (2, .int x2), (3, .int x3), (4, .int x4)]) (st' := [.int x1, .int 1, .int x3]) dX6_faultNow_126 rfl ?_
    refine RR.s2 (pc' := 128) (lv' := [(0, .ref 0), (1, .int x1), (2, .int x2), (3, .int x3), (4, .int x4)]) (st' := [.int (sl 1 x1), .int x3]) dX6_faultNow_127 rfl ?_
    refine RR.s2 (pc' := 132) (lv' := [(0, .ref 0), (1, .int x1), (2, .int x2), (3, .int x3), (4, .int x4)]) (st' := [.int (sl 1 x1), .int x3]) dX6_faultNow_128 rfl ?_
    exact RR.cut [0, 1, 2] rfl H
set_option maxRecDepth 20000 in
theorem b_X6_faultNow_132 {σ : r_St} {K : Int32 → r_St → Prop} {x1 : Int32} {x2 : Int32} {t0 : Int32} {t1 : Int32}  (H : (¬ x2 + 2 = σ.1 0 1 → (∃ j1 : Nat, x2 + 2 = nI j1 ∧ j1 < 23 ∧ ((σ.1 1 j1 = 59 → R_X6_faultNow_16 σ K (x1 + 1) ((x2 + 2) + 1) (t1 ||| t0)) ∧ (¬ (σ.1 1 j1 = 59) → K (x2 + 2) σ)))) ∧ (x2 + 2 = σ.1 0 1 → K (-1) (wI (wI σ 0 2 (x1 + 1)) 0 4 (t1 ||| t0)))) : R_X6_faultNow_132 σ K x1 x2 t0 t1 := by
  show RR 1 2 mX6_faultNow 132 [(0, .ref 0), (1, .int x1), (2, .int x2)] [.int t0, .int t1] σ (rI K)
  refine RR.s2 (pc' := 133) (lv' := [(0, .ref 0), (1, .int x1), (2, .int x2)]) (st' := [.int (t1 ||| t0)]) dX6_faultNow_132 rfl ?_
  refine RR.s2 (pc' := 134) (lv' := [(0, .ref 0), (1, .int x1), (2, .int x2), (3, .int (t1 ||| t0))]) (st' := []) dX6_faultNow_133 rfl ?_
  refine RR.inc (c := 1) (lv' := [(0, .ref 0), (1, .int (x1 + 1)), (2, .int x2), (3, .int (t1 ||| t0))]) dX6_faultNow_134 rfl (by decide) (by decide) rfl ?_
  refine RR.inc (c := 2) (lv' := [(0, .ref 0), (1, .int (x1 + 1)), (2, .int (x2 + 2)), (3, .int (t1 ||| t0))]) dX6_faultNow_137 rfl (by decide) (by decide) rfl ?_
  refine RR.s2 (pc' := 141) (lv' := [(0, .ref 0), (1, .int (x1 + 1)), (2, .int (x2 + 2)), (3, .int (t1 ||| t0))]) (st' := [.int (x2 + 2)]) dX6_faultNow_140 rfl ?_
  refine RR.s2 (pc' := 142) (lv' := [(0, .ref 0), (1, .int (x1 + 1)), (2, .int (x2 + 2)), (3, .int (t1 ||| t0))]) (st' := [.ref 0, .int (x2 + 2)]) dX6_faultNow_141 rfl ?_
  refine RR.getI dX6_faultNow_142 fl_X6_110 rfl rfl ?_
  refine RR.br dX6_faultNow_145 rfl (fun c => ?_) (fun c => ?_)
  · have H := H.1 c
    refine RR.s2 (pc' := 161) (lv' := [(0, .ref 0), (1, .int (x1 + 1)), (2, .int (x2 + 2)), (3, .int (t1 ||| t0))]) (st' := [.ref 0]) dX6_faultNow_160 rfl ?_
    refine RR.getR dX6_faultNow_161 fl_X6_7 rfl rfl ?_
    refine RR.s2 (pc' := 165) (lv' := [(0, .ref 0), (1, .int (x1 + 1)), (2, .int (x2 + 2)), (3, .int (t1 ||| t0))]) (st' := [.int (x2 + 2), .ref 1]) dX6_faultNow_164 rfl ?_
    obtain ⟨j1, e2, b3, H⟩ := H
    refine RR.iald dX6_faultNow_165 rfl e2 b3 ?_
    refine RR.bp (v := 59) dX6_faultNow_166 (by decide) ?_
    refine RR.br dX6_faultNow_168 rfl (fun c => ?_) (fun c => ?_)
    · have H := H.1 c
      refine RR.inc (c := 1) (lv' := [(0, .ref 0), (1, .int (x1 + 1)), (2, .int ((x2 + 2) + 1)), (3, .int (t1 ||| t0))]) dX6_faultNow_173 rfl (by decide) (by decide) rfl ?_
      refine RR.s2 (pc' := 16) (lv' := [(0, .ref 0), (1, .int (x1 + 1)), (2, .int ((x2 + 2) + 1)), (3, .int (t1 ||| t0))]) (st' := []) dX6_faultNow_176 rfl ?_
      exact RR.cut [0, 1, 2, 3] rfl H
    · have H := H.2 c
      refine RR.s2 (pc' := 172) (lv' := [(0, .ref 0), (1, .int (x1 + 1)), (2, .int (x2 + 2)), (3, .int (t1 ||| t0))]) (st' := [.int (x2 + 2)]) dX6_faultNow_171 rfl ?_
      exact RR.iret dX6_faultNow_172 rfl ⟨_, rfl, H⟩
  · have H := H.2 (Classical.not_not.mp c)
    refine RR.s2 (pc' := 149) (lv' := [(0, .ref 0), (1, .int (x1 + 1)), (2, .int (x2 + 2)), (3, .int (t1 ||| t0))]) (st' := [.ref 0]) dX6_faultNow_148 rfl ?_
    refine RR.s2 (pc' := 150) (lv' := [(0, .ref 0), (1, .int (x1 + 1)), (2, .int (x2 + 2)), (3, .int (t1 ||| t0))]) (st' := [.int (x1 + 1), .ref 0]) dX6_faultNow_149 rfl ?_
    refine RR.putI dX6_faultNow_150 fp_X6_114 rfl rfl ?_
    refine RR.s2 (pc' := 154) (lv' := [(0, .ref 0), (1, .int (x1 + 1)), (2, .int (x2 + 2)), (3, .int (t1 ||| t0))]) (st' := [.ref 0]) dX6_faultNow_153 rfl ?_
    refine RR.s2 (pc' := 155) (lv' := [(0, .ref 0), (1, .int (x1 + 1)), (2, .int (x2 + 2)), (3, .int (t1 ||| t0))]) (st' := [.int (t1 ||| t0), .ref 0]) dX6_faultNow_154 rfl ?_
    refine RR.putI dX6_faultNow_155 fp_X6_117 rfl rfl ?_
    refine RR.ic (v := (-1)) dX6_faultNow_158 (by decide) ?_
    exact RR.iret dX6_faultNow_159 rfl ⟨_, rfl, H⟩
set_option maxRecDepth 20000 in
theorem b_X6_fault {σ : r_St} {K : Int32 → r_St → Prop}  (H : M_X6_faultNow σ (fun v2 s1 => K v2 s1)) : M_X6_fault σ K := by
  show RR 1 3 mX6_fault 0 [(0, .ref 0)] [] σ (rI K)
  refine RR.s2 (pc' := 1) (lv' := [(0, .ref 0)]) (st' := [.ref 0]) dX6_fault_0 rfl ?_
  refine RR.cV dX6_fault_1 ml_X6_120 rfl rfl (as := []) (rest := []) rfl rfl (Nat.le_of_ble_eq_true rfl) (Nat.le_of_ble_eq_true rfl) (by decide) (RR.toI H (fun v2 s1 H => ?_))
  show RR 1 3 mX6_fault 4 [(0, .ref 0)] [.int v2] s1 _
  exact RR.iret dX6_fault_4 rfl ⟨_, rfl, H⟩
set_option maxRecDepth 20000 in
theorem b_X6_isDeed {σ : r_St} {K : Int32 → r_St → Prop} {x1 : Int32}  (H : M_X6_faultNow σ (fun v2 s1 => (IN x1 0 ((s1.1 0 2) - 1) → K 1 s1) ∧ (¬ IN x1 0 ((s1.1 0 2) - 1) → K 0 s1))) : M_X6_isDeed σ K x1 := by
  show RR 1 4 mX6_isDeed 0 [(0, .ref 0), (1, .int x1)] [] σ (rI K)
  refine RR.s2 (pc' := 1) (lv' := [(0, .ref 0), (1, .int x1)]) (st' := [.ref 0]) dX6_isDeed_0 rfl ?_
  refine RR.cV (d' := 3) dX6_isDeed_1 ml_X6_124 rfl rfl (as := []) (rest := []) rfl rfl (Nat.le_of_ble_eq_true rfl) (Nat.le_of_ble_eq_true rfl) (by decide) ?_
  show RR 1 3 mX6_reads 0 [(0, .ref 0)] [] σ _
  refine RR.s2 (pc' := 1) (lv' := [(0, .ref 0)]) (st' := [.ref 0]) dX6_reads_0 rfl ?_
  refine RR.cV dX6_reads_1 ml_X6_120 rfl rfl (as := []) (rest := []) rfl rfl (Nat.le_of_ble_eq_true rfl) (Nat.le_of_ble_eq_true rfl) (by decide) (RR.toI H (fun v2 s1 H => ?_))
  show RR 1 3 mX6_reads 4 [(0, .ref 0)] [.int v2] s1 _
  refine RR.s2 (pc' := 5) (lv' := [(0, .ref 0), (1, .int v2)]) (st' := []) dX6_reads_4 rfl ?_
  refine RR.vret dX6_reads_5 rfl ?_
  show RR 1 4 mX6_isDeed 4 [(0, .ref 0), (1, .int x1)] [] s1 _
  refine RR.s2 (pc' := 5) (lv' := [(0, .ref 0), (1, .int x1)]) (st' := [.int x1]) dX6_isDeed_4 rfl ?_
  refine RR.ic (v := 0) dX6_isDeed_5 (by decide) ?_
  refine RR.s2 (pc' := 7) (lv' := [(0, .ref 0), (1, .int x1)]) (st' := [.ref 0, .int 0, .int x1]) dX6_isDeed_6 rfl ?_
  refine RR.getI dX6_isDeed_7 fl_X6_114 rfl rfl ?_
  refine RR.ic (v := 1) dX6_isDeed_10 (by decide) ?_
  refine RR.s2 (pc' := 12) (lv' := [(0, .ref 0), (1, .int x1)]) (st' := [.int ((s1.1 0 2) - 1), .int 0, .int x1]) dX6_isDeed_11 rfl ?_
  refine RR.cS dX6_isDeed_12 ml_X6_106 (as := [.int x1, .int 0, .int ((s1.1 0 2) - 1)]) (rest := []) rfl rfl (Nat.le_of_ble_eq_true rfl) (Nat.le_of_ble_eq_true rfl) (by decide) (kb_X6_in (fun c => ?_) (fun c => ?_))
  · have H := H.1 c
    show RR 1 4 mX6_isDeed 15 [(0, .ref 0), (1, .int x1)] [.int 1] s1 _
    exact RR.zret dX6_isDeed_15 rfl (by decide) ⟨_, rfl, H⟩
  · have H := H.2 c
    show RR 1 4 mX6_isDeed 15 [(0, .ref 0), (1, .int x1)] [.int 0] s1 _
    exact RR.zret dX6_isDeed_15 rfl (by decide) ⟨_, rfl, H⟩
set_option maxRecDepth 20000 in
theorem b_X6_youngerFirst {σ : r_St} {K : Int32 → r_St → Prop}  (H : R_X6_youngerFirst_4 σ K 0 0) : M_X6_youngerFirst σ K := by
  show RR 1 2 mX6_youngerFirst 0 [(0, .ref 0)] [] σ (rI K)
  refine RR.ic (v := 0) dX6_youngerFirst_0 (by decide) ?_
  refine RR.s2 (pc' := 2) (lv' := [(0, .ref 0), (1, .int 0)]) (st' := []) dX6_youngerFirst_1 rfl ?_
  refine RR.ic (v := 0) dX6_youngerFirst_2 (by decide) ?_
  refine RR.s2 (pc' := 4) (lv' := [(0, .ref 0), (1, .int 0), (2, .int 0)]) (st' := []) dX6_youngerFirst_3 rfl ?_
  exact RR.cut [0, 1, 2] rfl H
set_option maxRecDepth 20000 in
theorem b_X6_youngerFirst_4 {σ : r_St} {K : Int32 → r_St → Prop} {x1 : Int32} {x2 : Int32}  (H : (σ.1 0 2 ≤ x2 → K x1 σ) ∧ (¬ (σ.1 0 2 ≤ x2) → ((¬ rm x2 2 = 0 → R_X6_youngerFirst_27 σ K x1 x2 (x2 - 1)) ∧ (rm x2 2 = 0 → R_X6_youngerFirst_27 σ K x1 x2 (x2 + 1))))) : R_X6_youngerFirst_4 σ K x1 x2 := by
  show RR 1 2 mX6_youngerFirst 4 [(0, .ref 0), (1, .int x1), (2, .int x2)] [] σ (rI K)
  refine RR.s2 (pc' := 5) (lv' := [(0, .ref 0), (1, .int x1), (2, .int x2)]) (st' := [.int x2]) dX6_youngerFirst_4 rfl ?_
  refine RR.s2 (pc' := 6) (lv' := [(0, .ref 0), (1, .int x1), (2, .int x2)]) (st' := [.ref 0, .int x2]) dX6_youngerFirst_5 rfl ?_
  refine RR.getI dX6_youngerFirst_6 fl_X6_114 rfl rfl ?_
  refine RR.br dX6_youngerFirst_9 rfl (fun c => ?_) (fun c => ?_)
  · have H := H.1 c
    refine RR.s2 (pc' := 119) (lv' := [(0, .ref 0), (1, .int x1), (2, .int x2)]) (st' := [.int x1]) dX6_youngerFirst_118 rfl ?_
    exact RR.iret dX6_youngerFirst_119 rfl ⟨_, rfl, H⟩
  · have H := H.2 c
    refine RR.s2 (pc' := 13) (lv' := [(0, .ref 0), (1, .int x1), (2, .int x2)]) (st' := [.int x2]) dX6_youngerFirst_12 rfl ?_
    refine RR.ic (v := 2) dX6_youngerFirst_13 (by decide) ?_
    refine RR.irem dX6_youngerFirst_14 (by decide) ?_
    show RR 1 2 mX6_youngerFirst 15 [(0, .ref 0), (1, .int x1), (2, .int x2)] [.int (rm x2 2)] σ _
    refine RR.br dX6_youngerFirst_15 rfl (fun c => ?_) (fun c => ?_)
    · have H := H.1 c
      refine RR.s2 (pc' := 25) (lv' := [(0, .ref 0), (1, .int x1), (2, .int x2)]) (st' := [.int x2]) dX6_youngerFirst_24 rfl ?_
      refine RR.ic (v := 1) dX6_youngerFirst_25 (by decide) ?_
      refine RR.s2 (pc' := 27) (lv' := [(0, .ref 0), (1, .int x1), (2, .int x2)]) (st' := [.int (x2 - 1)]) dX6_youngerFirst_26 rfl ?_
      exact RR.cut [0, 1, 2] rfl H
    · have H := H.2 (Classical.not_not.mp c)
      refine RR.s2 (pc' := 19) (lv' := [(0, .ref 0), (1, .int x1), (2, .int x2)]) (st' := [.int x2]) dX6_youngerFirst_18 rfl ?_
      refine RR.ic (v := 1) dX6_youngerFirst_19 (by decide) ?_
      refine RR.s2 (pc' := 21) (lv' := [(0, .ref 0), (1, .int x1), (2, .int x2)]) (st' := [.int (x2 + 1)]) dX6_youngerFirst_20 rfl ?_
      refine RR.s2 (pc' := 27) (lv' := [(0, .ref 0), (1, .int x1), (2, .int x2)]) (st' := [.int (x2 + 1)]) dX6_youngerFirst_21 rfl ?_
      exact RR.cut [0, 1, 2] rfl H
set_option maxRecDepth 20000 in
theorem b_X6_youngerFirst_27 {σ : r_St} {K : Int32 → r_St → Prop} {x1 : Int32} {x2 : Int32} {t0 : Int32}  (H : (¬ (sr (σ.1 0 4) x2) &&& 1 = 1 → R_X6_youngerFirst_44 σ K x1 x2 t0 1) ∧ ((sr (σ.1 0 4) x2) &&& 1 = 1 → R_X6_youngerFirst_44 σ K x1 x2 t0 0)) : R_X6_youngerFirst_27 σ K x1 x2 t0 := by
  show RR 1 2 mX6_youngerFirst 27 [(0, .ref 0), (1, .int x1), (2, .int x2)] [.int t0] σ (rI K)
  refine RR.s2 (pc' := 28) (lv' := [(0, .ref 0), (1, .int x1), (2, .int x2), (3, .int t0)]) (st' := []) dX6_youngerFirst_27 rfl ?_
  refine RR.s2 (pc' := 29) (lv' := [(0, .ref 0), (1, .int x1), (2, .int x2), (3, .int t0)]) (st' := [.ref 0]) dX6_youngerFirst_28 rfl ?_
  refine RR.getI dX6_youngerFirst_29 fl_X6_117 rfl rfl ?_
  refine RR.s2 (pc' := 33) (lv' := [(0, .ref 0), (1, .int x1), (2, .int x2), (3, .int t0)]) (st' := [.int x2, .int (σ.1 0 4)]) dX6_youngerFirst_32 rfl ?_
  refine RR.cS (d' := 1) dX6_youngerFirst_33 ml_X6_127 (as := [.int (σ.1 0 4), .int x2]) (rest := []) rfl rfl (Nat.le_of_ble_eq_true rfl) (Nat.le_of_ble_eq_true rfl) (by decide) ?_
  show RR 1 1 mX6_isIn 0 [(0, .int (σ.1 0 4)), (1, .int x2)] [] σ _
  refine RR.s2 (pc' := 1) (lv' := [(0, .int (σ.1 0 4)), (1, .int x2)]) (st' := [.int (σ.1 0 4)]) dX6_isIn_0 rfl ?_
  refine RR.s2 (pc' := 2) (lv' := [(0, .int (σ.1 0 4)), (1, .int x2)]) (st' := [.int x2, .int (σ.1 0 4)]) dX6_isIn_1 rfl ?_
  refine RR.s2 (pc' := 3) (lv' := [(0, .int (σ.1 0 4)), (1, .int x2)]) (st' := [.int (sr (σ.1 0 4) x2)]) dX6_isIn_2 rfl ?_
  refine RR.ic (v := 1) dX6_isIn_3 (by decide) ?_
  refine RR.s2 (pc' := 5) (lv' := [(0, .int (σ.1 0 4)), (1, .int x2)]) (st' := [.int ((sr (σ.1 0 4) x2) &&& 1)]) dX6_isIn_4 rfl ?_
  refine RR.ic (v := 1) dX6_isIn_5 (by decide) ?_
  refine RR.br dX6_isIn_6 rfl (fun c => ?_) (fun c => ?_)
  · have H := H.1 c
    refine RR.ic (v := 0) dX6_isIn_13 (by decide) ?_
    refine RR.zret dX6_isIn_14 rfl (by decide) ?_
    show RR 1 2 mX6_youngerFirst 36 [(0, .ref 0), (1, .int x1), (2, .int x2), (3, .int t0)] [.int 0] σ _
    refine RR.brF dX6_youngerFirst_36 rfl (by decide) ?_
    refine RR.ic (v := 1) dX6_youngerFirst_39 (by decide) ?_
    refine RR.s2 (pc' := 44) (lv' := [(0, .ref 0), (1, .int x1), (2, .int x2), (3, .int t0)]) (st' := [.int 1]) dX6_youngerFirst_40 rfl ?_
    exact RR.cut [0, 1, 2, 3] rfl H
  · have H := H.2 (Classical.not_not.mp c)
    refine RR.ic (v := 1) dX6_isIn_9 (by decide) ?_
    refine RR.s2 (pc' := 14) (lv' := [(0, .int (σ.1 0 4)), (1, .int x2)]) (st' := [.int 1]) dX6_isIn_10 rfl ?_
    refine RR.zret dX6_isIn_14 rfl (by decide) ?_
    show RR 1 2 mX6_youngerFirst 36 [(0, .ref 0), (1, .int x1), (2, .int x2), (3, .int t0)] [.int 1] σ _
    refine RR.brT dX6_youngerFirst_36 rfl (by decide) ?_
    refine RR.ic (v := 0) dX6_youngerFirst_43 (by decide) ?_
    exact RR.cut [0, 1, 2, 3] rfl H
set_option maxRecDepth 20000 in
theorem b_X6_youngerFirst_44 {σ : r_St} {K : Int32 → r_St → Prop} {x1 : Int32} {x2 : Int32} {x3 : Int32} {t0 : Int32}  (H : (¬ σ.1 0 5 = 1 → R_X6_youngerFirst_72 σ K x1 x2 t0) ∧ (σ.1 0 5 = 1 → ((σ.1 0 2 ≤ x3 → R_X6_youngerFirst_72 σ K x1 x2 t0) ∧ (¬ (σ.1 0 2 ≤ x3) → ((¬ (sr (σ.1 0 4) x3) &&& 1 = 1 → R_X6_youngerFirst_72 σ K x1 x2 0) ∧ ((sr (σ.1 0 4) x3) &&& 1 = 1 → R_X6_youngerFirst_72 σ K x1 x2 1)))))) : R_X6_youngerFirst_44 σ K x1 x2 x3 t0 := by
  show RR 1 2 mX6_youngerFirst 44 [(0, .ref 0), (1, .int x1), (2, .int x2), (3, .int x3)] [.int t0] σ (rI K)
  refine RR.s2 (pc' := 46) (lv' := [(0, .ref 0), (1, .int x1), (2, .int x2), (3, .int x3), (4, .int t0)]) (st' := []) dX6_youngerFirst_44 rfl ?_
  refine RR.s2 (pc' := 47) (lv' := [(0, .ref 0), (1, .int x1), (2, .int x2), (3, .int x3), (4, .int t0)]) (st' := [.ref 0]) dX6_youngerFirst_46 rfl ?_
  refine RR.getI dX6_youngerFirst_47 fl_X6_131 rfl rfl ?_
  refine RR.ic (v := 1) dX6_youngerFirst_50 (by decide) ?_
  refine RR.br dX6_youngerFirst_51 rfl (fun c => ?_) (fun c => ?_)
  · have H := H.1 c
    exact RR.cut [0, 1, 2, 4] rfl H
  · have H := H.2 (Classical.not_not.mp c)
    refine RR.s2 (pc' := 55) (lv' := [(0, .ref 0), (1, .int x1), (2, .int x2), (3, .int x3), (4, .int t0)]) (st' := [.int x3]) dX6_youngerFirst_54 rfl ?_
    refine RR.s2 (pc' := 56) (lv' := [(0, .ref 0), (1, .int x1), (2, .int x2), (3, .int x3), (4, .int t0)]) (st' := [.ref 0, .int x3]) dX6_youngerFirst_55 rfl ?_
    refine RR.getI dX6_youngerFirst_56 fl_X6_114 rfl rfl ?_
    refine RR.br dX6_youngerFirst_59 rfl (fun c => ?_) (fun c => ?_)
    · have H := H.1 c
      exact RR.cut [0, 1, 2, 4] rfl H
    · have H := H.2 c
      refine RR.s2 (pc' := 63) (lv' := [(0, .ref 0), (1, .int x1), (2, .int x2), (3, .int x3), (4, .int t0)]) (st' := [.ref 0]) dX6_youngerFirst_62 rfl ?_
      refine RR.getI dX6_youngerFirst_63 fl_X6_117 rfl rfl ?_
      refine RR.s2 (pc' := 67) (lv' := [(0, .ref 0), (1, .int x1), (2, .int x2), (3, .int x3), (4, .int t0)]) (st' := [.int x3, .int (σ.1 0 4)]) dX6_youngerFirst_66 rfl ?_
      refine RR.cS (d' := 1) dX6_youngerFirst_67 ml_X6_127 (as := [.int (σ.1 0 4), .int x3]) (rest := []) rfl rfl (Nat.le_of_ble_eq_true rfl) (Nat.le_of_ble_eq_true rfl) (by decide) ?_
      show RR 1 1 mX6_isIn 0 [(0, .int (σ.1 0 4)), (1, .int x3)] [] σ _
      refine RR.s2 (pc' := 1) (lv' := [(0, .int (σ.1 0 4)), (1, .int x3)]) (st' := [.int (σ.1 0 4)]) dX6_isIn_0 rfl ?_
      refine RR.s2 (pc' := 2) (lv' := [(0, .int (σ.1 0 4)), (1, .int x3)]) (st' := [.int x3, .int (σ.1 0 4)]) dX6_isIn_1 rfl ?_
      refine RR.s2 (pc' := 3) (lv' := [(0, .int (σ.1 0 4)), (1, .int x3)]) (st' := [.int (sr (σ.1 0 4) x3)]) dX6_isIn_2 rfl ?_
      refine RR.ic (v := 1) dX6_isIn_3 (by decide) ?_
      refine RR.s2 (pc' := 5) (lv' := [(0, .int (σ.1 0 4)), (1, .int x3)]) (st' := [.int ((sr (σ.1 0 4) x3) &&& 1)]) dX6_isIn_4 rfl ?_
      refine RR.ic (v := 1) dX6_isIn_5 (by decide) ?_
      refine RR.br dX6_isIn_6 rfl (fun c => ?_) (fun c => ?_)
      · have H := H.1 c
        refine RR.ic (v := 0) dX6_isIn_13 (by decide) ?_
        refine RR.zret dX6_isIn_14 rfl (by decide) ?_
        show RR 1 2 mX6_youngerFirst 70 [(0, .ref 0), (1, .int x1), (2, .int x2), (3, .int x3), (4, .int t0)] [.int 0] σ _
        refine RR.s2 (pc' := 72) (lv' := [(0, .ref 0), (1, .int x1), (2, .int x2), (3, .int x3), (4, .int 0)]) (st' := []) dX6_youngerFirst_70 rfl ?_
        exact RR.cut [0, 1, 2, 4] rfl H
      · have H := H.2 (Classical.not_not.mp c)
        refine RR.ic (v := 1) dX6_isIn_9 (by decide) ?_
        refine RR.s2 (pc' := 14) (lv' := [(0, .int (σ.1 0 4)), (1, .int x3)]) (st' := [.int 1]) dX6_isIn_10 rfl ?_
        refine RR.zret dX6_isIn_14 rfl (by decide) ?_
        show RR 1 2 mX6_youngerFirst 70 [(0, .ref 0), (1, .int x1), (2, .int x2), (3, .int x3), (4, .int t0)] [.int 1] σ _
        refine RR.s2 (pc' := 72) (lv' := [(0, .ref 0), (1, .int x1), (2, .int x2), (3, .int x3), (4, .int 1)]) (st' := []) dX6_youngerFirst_70 rfl ?_
        exact RR.cut [0, 1, 2, 4] rfl H
set_option maxRecDepth 20000 in
theorem b_X6_youngerFirst_72 {σ : r_St} {K : Int32 → r_St → Prop} {x1 : Int32} {x2 : Int32} {x4 : Int32}  (H : (¬ σ.1 0 5 = 2 → R_X6_youngerFirst_97 σ K x1 x2 x4) ∧ (σ.1 0 5 = 2 → (¬ σ.1 0 2 = 0 ∧ ((¬ (sr (σ.1 0 4) (rm (x2 + 1) (σ.1 0 2))) &&& 1 = 1 → R_X6_youngerFirst_97 σ K x1 x2 0) ∧ ((sr (σ.1 0 4) (rm (x2 + 1) (σ.1 0 2))) &&& 1 = 1 → R_X6_youngerFirst_97 σ K x1 x2 1))))) : R_X6_youngerFirst_72 σ K x1 x2 x4 := by
  show RR 1 2 mX6_youngerFirst 72 [(0, .ref 0), (1, .int x1), (2, .int x2), (4, .int x4)] [] σ (rI K)
  refine RR.s2 (pc' := 73) (lv' := [(0, .ref 0), (1, .int x1), (2, .int x2), (4, .int x4)]) (st' := [.ref 0]) dX6_youngerFirst_72 rfl ?_
  refine RR.getI dX6_youngerFirst_73 fl_X6_131 rfl rfl ?_
  refine RR.ic (v := 2) dX6_youngerFirst_76 (by decide) ?_
  refine RR.br dX6_youngerFirst_77 rfl (fun c => ?_) (fun c => ?_)
  · have H := H.1 c
    exact RR.cut [0, 1, 2, 3] rfl H
  · have H := H.2 (Classical.not_not.mp c)
    refine RR.s2 (pc' := 81) (lv' := [(0, .ref 0), (1, .int x1), (2, .int x2), (4, .int x4)]) (st' := [.ref 0]) dX6_youngerFirst_80 rfl ?_
    refine RR.getI dX6_youngerFirst_81 fl_X6_117 rfl rfl ?_
    refine RR.s2 (pc' := 85) (lv' := [(0, .ref 0), (1, .int x1), (2, .int x2), (4, .int x4)]) (st' := [.int x2, .int (σ.1 0 4)]) dX6_youngerFirst_84 rfl ?_
    refine RR.ic (v := 1) dX6_youngerFirst_85 (by decide) ?_
    refine RR.s2 (pc' := 87) (lv' := [(0, .ref 0), (1, .int x1), (2, .int x2), (4, .int x4)]) (st' := [.int (x2 + 1), .int (σ.1 0 4)]) dX6_youngerFirst_86 rfl ?_
    refine RR.s2 (pc' := 88) (lv' := [(0, .ref 0), (1, .int x1), (2, .int x2), (4, .int x4)]) (st' := [.ref 0, .int (x2 + 1), .int (σ.1 0 4)]) dX6_youngerFirst_87 rfl ?_
    refine RR.getI dX6_youngerFirst_88 fl_X6_114 rfl rfl ?_
    obtain ⟨h0, H⟩ := H
    refine RR.irem dX6_youngerFirst_91 h0 ?_
    show RR 1 2 mX6_youngerFirst 92 [(0, .ref 0), (1, .int x1), (2, .int x2), (4, .int x4)] [.int (rm (x2 + 1) (σ.1 0 2)), .int (σ.1 0 4)] σ _
    refine RR.cS (d' := 1) dX6_youngerFirst_92 ml_X6_127 (as := [.int (σ.1 0 4), .int (rm (x2 + 1) (σ.1 0 2))]) (rest := []) rfl rfl (Nat.le_of_ble_eq_true rfl) (Nat.le_of_ble_eq_true rfl) (by decide) ?_
    show RR 1 1 mX6_isIn 0 [(0, .int (σ.1 0 4)), (1, .int (rm (x2 + 1) (σ.1 0 2)))] [] σ _
    refine RR.s2 (pc' := 1) (lv' := [(0, .int (σ.1 0 4)), (1, .int (rm (x2 + 1) (σ.1 0 2)))]) (st' := [.int (σ.1 0 4)]) dX6_isIn_0 rfl ?_
    refine RR.s2 (pc' := 2) (lv' := [(0, .int (σ.1 0 4)), (1, .int (rm (x2 + 1) (σ.1 0 2)))]) (st' := [.int (rm (x2 + 1) (σ.1 0 2)), .int (σ.1 0 4)]) dX6_isIn_1 rfl ?_
    refine RR.s2 (pc' := 3) (lv' := [(0, .int (σ.1 0 4)), (1, .int (rm (x2 + 1) (σ.1 0 2)))]) (st' := [.int (sr (σ.1 0 4) (rm (x2 + 1) (σ.1 0 2)))]) dX6_isIn_2 rfl ?_
    refine RR.ic (v := 1) dX6_isIn_3 (by decide) ?_
    refine RR.s2 (pc' := 5) (lv' := [(0, .int (σ.1 0 4)), (1, .int (rm (x2 + 1) (σ.1 0 2)))]) (st' := [.int ((sr (σ.1 0 4) (rm (x2 + 1) (σ.1 0 2))) &&& 1)]) dX6_isIn_4 rfl ?_
    refine RR.ic (v := 1) dX6_isIn_5 (by decide) ?_
    refine RR.br dX6_isIn_6 rfl (fun c => ?_) (fun c => ?_)
    · have H := H.1 c
      refine RR.ic (v := 0) dX6_isIn_13 (by decide) ?_
      refine RR.zret dX6_isIn_14 rfl (by decide) ?_
      show RR 1 2 mX6_youngerFirst 95 [(0, .ref 0), (1, .int x1), (2, .int x2), (4, .int x4)] [.int 0] σ _
      refine RR.s2 (pc' := 97) (lv' := [(0, .ref 0), (1, .int x1), (2, .int x2), (4, .int 0)]) (st' := []) dX6_youngerFirst_95 rfl ?_
      exact RR.cut [0, 1, 2, 3] rfl H
    · have H := H.2 (Classical.not_not.mp c)
      refine RR.ic (v := 1) dX6_isIn_9 (by decide) ?_
      refine RR.s2 (pc' := 14) (lv' := [(0, .int (σ.1 0 4)), (1, .int (rm (x2 + 1) (σ.1 0 2)))]) (st' := [.int 1]) dX6_isIn_10 rfl ?_
      refine RR.zret dX6_isIn_14 rfl (by decide) ?_
      show RR 1 2 mX6_youngerFirst 95 [(0, .ref 0), (1, .int x1), (2, .int x2), (4, .int x4)] [.int 1] σ _
      refine RR.s2 (pc' := 97) (lv' := [(0, .ref 0), (1, .int x1), (2, .int x2), (4, .int 1)]) (st' := []) dX6_youngerFirst_95 rfl ?_
      exact RR.cut [0, 1, 2, 3] rfl H
set_option maxRecDepth 20000 in
theorem b_X6_youngerFirst_97 {σ : r_St} {K : Int32 → r_St → Prop} {x1 : Int32} {x2 : Int32} {x4 : Int32}  (H : (x4 = 0 → R_X6_youngerFirst_4 σ K (x1 ||| 0) (x2 + 1)) ∧ (¬ (x4 = 0) → R_X6_youngerFirst_4 σ K (x1 ||| (sl 1 x2)) (x2 + 1))) : R_X6_youngerFirst_97 σ K x1 x2 x4 := by
  show RR 1 2 mX6_youngerFirst 97 [(0, .ref 0), (1, .int x1), (2, .int x2), (4, .int x4)] [] σ (rI K)
  refine RR.s2 (pc' := 98) (lv' := [(0, .ref 0), (1, .int x1), (2, .int x2), (4, .int x4)]) (st' := [.int x1]) dX6_youngerFirst_97 rfl ?_
  refine RR.s2 (pc' := 100) (lv' := [(0, .ref 0), (1, .int x1), (2, .int x2), (4, .int x4)]) (st' := [.int x4, .int x1]) dX6_youngerFirst_98 rfl ?_
  refine RR.br dX6_youngerFirst_100 rfl (fun c => ?_) (fun c => ?_)
  · have H := H.1 c
    refine RR.ic (v := 0) dX6_youngerFirst_109 (by decide) ?_
    refine RR.s2 (pc' := 111) (lv' := [(0, .ref 0), (1, .int x1), (2, .int x2), (4, .int x4)]) (st' := [.int (x1 ||| 0)]) dX6_youngerFirst_110 rfl ?_
    refine RR.s2 (pc' := 112) (lv' := [(0, .ref 0), (1, .int (x1 ||| 0)), (2, .int x2), (4, .int x4)]) (st' := []) dX6_youngerFirst_111 rfl ?_
    refine RR.inc (c := 1) (lv' := [(0, .ref 0), (1, .int (x1 ||| 0)), (2, .int (x2 + 1)), (4, .int x4)]) dX6_youngerFirst_112 rfl (by decide) (by decide) rfl ?_
    refine RR.s2 (pc' := 4) (lv' := [(0, .ref 0), (1, .int (x1 ||| 0)), (2, .int (x2 + 1)), (4, .int x4)]) (st' := []) dX6_youngerFirst_115 rfl ?_
    exact RR.cut [0, 1, 2] rfl H
  · have H := H.2 c
    refine RR.ic (v := 1) dX6_youngerFirst_103 (by decide) ?_
    refine RR.s2 (pc' := 105) (lv' := [(0, .ref 0), (1, .int x1), (2, .int x2), (4, .int x4)]) (st' := [.int x2, .int 1, .int x1]) dX6_youngerFirst_104 rfl ?_
    refine RR.s2 (pc' := 106) (lv' := [(0, .ref 0), (1, .int x1), (2, .int x2), (4, .int x4)]) (st' := [.int (sl 1 x2), .int x1]) dX6_youngerFirst_105 rfl ?_
    refine RR.s2 (pc' := 110) (lv' := [(0, .ref 0), (1, .int x1), (2, .int x2), (4, .int x4)]) (st' := [.int (sl 1 x2), .int x1]) dX6_youngerFirst_106 rfl ?_
    refine RR.s2 (pc' := 111) (lv' := [(0, .ref 0), (1, .int x1), (2, .int x2), (4, .int x4)]) (st' := [.int (x1 ||| (sl 1 x2))]) dX6_youngerFirst_110 rfl ?_
    refine RR.s2 (pc' := 112) (lv' := [(0, .ref 0), (1, .int (x1 ||| (sl 1 x2))), (2, .int x2), (4, .int x4)]) (st' := []) dX6_youngerFirst_111 rfl ?_
    refine RR.inc (c := 1) (lv' := [(0, .ref 0), (1, .int (x1 ||| (sl 1 x2))), (2, .int (x2 + 1)), (4, .int x4)]) dX6_youngerFirst_112 rfl (by decide) (by decide) rfl ?_
    refine RR.s2 (pc' := 4) (lv' := [(0, .ref 0), (1, .int (x1 ||| (sl 1 x2))), (2, .int (x2 + 1)), (4, .int x4)]) (st' := []) dX6_youngerFirst_115 rfl ?_
    exact RR.cut [0, 1, 2] rfl H
set_option maxRecDepth 20000 in
theorem b_X6_deedOf {σ : r_St} {K : Int32 → r_St → Prop} {x1 : Int32} {x2 : Int32}  (H : (¬ x2 = 0 → ((¬ x2 = 1 → M_X6_youngerFirst σ (fun v2 s1 => K ((sr v2 x1) &&& 1) s1)) ∧ (x2 = 1 → K ((sr (σ.1 0 4) x1) &&& 1) σ))) ∧ (x2 = 0 → (∃ j3 : Nat, x1 = nI j3 ∧ j3 < 9 ∧ K (σ.1 2 j3) σ))) : M_X6_deedOf σ K x1 x2 := by
  show RR 1 3 mX6_deedOf 0 [(0, .ref 0), (1, .int x1), (2, .int x2)] [] σ (rI K)
  refine RR.s2 (pc' := 1) (lv' := [(0, .ref 0), (1, .int x1), (2, .int x2)]) (st' := [.int x2]) dX6_deedOf_0 rfl ?_
  refine RR.br dX6_deedOf_1 rfl (fun c => ?_) (fun c => ?_)
  · have H := H.1 c
    refine RR.s2 (pc' := 14) (lv' := [(0, .ref 0), (1, .int x1), (2, .int x2)]) (st' := [.int x2]) dX6_deedOf_13 rfl ?_
    refine RR.ic (v := 1) dX6_deedOf_14 (by decide) ?_
    refine RR.br dX6_deedOf_15 rfl (fun c => ?_) (fun c => ?_)
    · have H := H.1 c
      refine RR.s2 (pc' := 26) (lv' := [(0, .ref 0), (1, .int x1), (2, .int x2)]) (st' := [.ref 0]) dX6_deedOf_25 rfl ?_
      refine RR.cV dX6_deedOf_26 ml_X6_134 rfl rfl (as := []) (rest := []) rfl rfl (Nat.le_of_ble_eq_true rfl) (Nat.le_of_ble_eq_true rfl) (by decide) (RR.toI H (fun v2 s1 H => ?_))
      show RR 1 3 mX6_deedOf 29 [(0, .ref 0), (1, .int x1), (2, .int x2)] [.int v2] s1 _
      refine RR.s2 (pc' := 30) (lv' := [(0, .ref 0), (1, .int x1), (2, .int x2)]) (st' := [.int x1, .int v2]) dX6_deedOf_29 rfl ?_
      refine RR.s2 (pc' := 31) (lv' := [(0, .ref 0), (1, .int x1), (2, .int x2)]) (st' := [.int (sr v2 x1)]) dX6_deedOf_30 rfl ?_
      refine RR.ic (v := 1) dX6_deedOf_31 (by decide) ?_
      refine RR.s2 (pc' := 33) (lv' := [(0, .ref 0), (1, .int x1), (2, .int x2)]) (st' := [.int ((sr v2 x1) &&& 1)]) dX6_deedOf_32 rfl ?_
      exact RR.iret dX6_deedOf_33 rfl ⟨_, rfl, H⟩
    · have H := H.2 (Classical.not_not.mp c)
      refine RR.s2 (pc' := 19) (lv' := [(0, .ref 0), (1, .int x1), (2, .int x2)]) (st' := [.ref 0]) dX6_deedOf_18 rfl ?_
      refine RR.getI dX6_deedOf_19 fl_X6_117 rfl rfl ?_
      refine RR.s2 (pc' := 29) (lv' := [(0, .ref 0), (1, .int x1), (2, .int x2)]) (st' := [.int (σ.1 0 4)]) dX6_deedOf_22 rfl ?_
      refine RR.s2 (pc' := 30) (lv' := [(0, .ref 0), (1, .int x1), (2, .int x2)]) (st' := [.int x1, .int (σ.1 0 4)]) dX6_deedOf_29 rfl ?_
      refine RR.s2 (pc' := 31) (lv' := [(0, .ref 0), (1, .int x1), (2, .int x2)]) (st' := [.int (sr (σ.1 0 4) x1)]) dX6_deedOf_30 rfl ?_
      refine RR.ic (v := 1) dX6_deedOf_31 (by decide) ?_
      refine RR.s2 (pc' := 33) (lv' := [(0, .ref 0), (1, .int x1), (2, .int x2)]) (st' := [.int ((sr (σ.1 0 4) x1) &&& 1)]) dX6_deedOf_32 rfl ?_
      exact RR.iret dX6_deedOf_33 rfl ⟨_, rfl, H⟩
  · have H := H.2 (Classical.not_not.mp c)
    refine RR.s2 (pc' := 5) (lv' := [(0, .ref 0), (1, .int x1), (2, .int x2)]) (st' := [.ref 0]) dX6_deedOf_4 rfl ?_
    refine RR.getR dX6_deedOf_5 fl_X6_13 rfl rfl ?_
    refine RR.s2 (pc' := 9) (lv' := [(0, .ref 0), (1, .int x1), (2, .int x2)]) (st' := [.int x1, .ref 2]) dX6_deedOf_8 rfl ?_
    obtain ⟨j3, e4, b5, H⟩ := H
    refine RR.iald dX6_deedOf_9 rfl e4 b5 ?_
    refine RR.s2 (pc' := 33) (lv' := [(0, .ref 0), (1, .int x1), (2, .int x2)]) (st' := [.int (σ.1 2 j3)]) dX6_deedOf_10 rfl ?_
    exact RR.iret dX6_deedOf_33 rfl ⟨_, rfl, H⟩
set_option maxRecDepth 20000 in
theorem b_X6_deed {σ : r_St} {K : Int32 → r_St → Prop} {x1 : Int32} {x2 : Int32}  (H : M_X6_isDeed σ (fun v2 s1 => (v2 = 0 → K (-2) s1) ∧ (¬ (v2 = 0) → ((IN x2 0 2 → M_X6_deedOf s1 (fun v4 s3 => K v4 s3) x1 x2) ∧ (¬ IN x2 0 2 → K (-2) s1)))) x1) : M_X6_deed σ K x1 x2 := by
  show RR 1 5 mX6_deed 0 [(0, .ref 0), (1, .int x1), (2, .int x2)] [] σ (rI K)
  refine RR.s2 (pc' := 1) (lv' := [(0, .ref 0), (1, .int x1), (2, .int x2)]) (st' := [.ref 0]) dX6_deed_0 rfl ?_
  refine RR.s2 (pc' := 2) (lv' := [(0, .ref 0), (1, .int x1), (2, .int x2)]) (st' := [.int x1, .ref 0]) dX6_deed_1 rfl ?_
  refine RR.cV dX6_deed_2 ml_X6_137 rfl rfl (as := [.int x1]) (rest := []) rfl rfl (Nat.le_of_ble_eq_true rfl) (Nat.le_of_ble_eq_true rfl) (by decide) (RR.toI H (fun v2 s1 H => ?_))
  show RR 1 5 mX6_deed 5 [(0, .ref 0), (1, .int x1), (2, .int x2)] [.int v2] s1 _
  refine RR.br dX6_deed_5 rfl (fun c => ?_) (fun c => ?_)
  · have H := H.1 c
    refine RR.bp (v := (-2)) dX6_deed_26 (by decide) ?_
    exact RR.iret dX6_deed_28 rfl ⟨_, rfl, H⟩
  · have H := H.2 c
    refine RR.s2 (pc' := 9) (lv' := [(0, .ref 0), (1, .int x1), (2, .int x2)]) (st' := [.int x2]) dX6_deed_8 rfl ?_
    refine RR.ic (v := 0) dX6_deed_9 (by decide) ?_
    refine RR.ic (v := 2) dX6_deed_10 (by decide) ?_
    refine RR.cS dX6_deed_11 ml_X6_106 (as := [.int x2, .int 0, .int 2]) (rest := []) rfl rfl (Nat.le_of_ble_eq_true rfl) (Nat.le_of_ble_eq_true rfl) (by decide) (kb_X6_in (fun c => ?_) (fun c => ?_))
    · have H := H.1 c
      show RR 1 5 mX6_deed 14 [(0, .ref 0), (1, .int x1), (2, .int x2)] [.int 1] s1 _
      refine RR.brF dX6_deed_14 rfl (by decide) ?_
      refine RR.s2 (pc' := 18) (lv' := [(0, .ref 0), (1, .int x1), (2, .int x2)]) (st' := [.ref 0]) dX6_deed_17 rfl ?_
      refine RR.s2 (pc' := 19) (lv' := [(0, .ref 0), (1, .int x1), (2, .int x2)]) (st' := [.int x1, .ref 0]) dX6_deed_18 rfl ?_
      refine RR.s2 (pc' := 20) (lv' := [(0, .ref 0), (1, .int x1), (2, .int x2)]) (st' := [.int x2, .int x1, .ref 0]) dX6_deed_19 rfl ?_
      refine RR.cV dX6_deed_20 ml_X6_141 rfl rfl (as := [.int x1, .int x2]) (rest := []) rfl rfl (Nat.le_of_ble_eq_true rfl) (Nat.le_of_ble_eq_true rfl) (by decide) (RR.toI H (fun v4 s3 H => ?_))
      show RR 1 5 mX6_deed 23 [(0, .ref 0), (1, .int x1), (2, .int x2)] [.int v4] s3 _
      refine RR.s2 (pc' := 28) (lv' := [(0, .ref 0), (1, .int x1), (2, .int x2)]) (st' := [.int v4]) dX6_deed_23 rfl ?_
      exact RR.iret dX6_deed_28 rfl ⟨_, rfl, H⟩
    · have H := H.2 c
      show RR 1 5 mX6_deed 14 [(0, .ref 0), (1, .int x1), (2, .int x2)] [.int 0] s1 _
      refine RR.brT dX6_deed_14 rfl (by decide) ?_
      refine RR.bp (v := (-2)) dX6_deed_26 (by decide) ?_
      exact RR.iret dX6_deed_28 rfl ⟨_, rfl, H⟩
set_option maxRecDepth 20000 in
theorem b_X6_set {σ : r_St} {K : Int32 → r_St → Prop} {x1 : Int32} {x2 : Int32}  (H : (IN x1 0 1 → ((IN x2 0 2 → ((¬ x1 = 0 → R_X6_set_34 σ K x1 x2 (σ.1 0 6)) ∧ (x1 = 0 → R_X6_set_34 σ K x1 x2 (σ.1 0 5)))) ∧ (¬ IN x2 0 2 → K (-2) σ))) ∧ (¬ IN x1 0 1 → K (-2) σ)) : M_X6_set σ K x1 x2 := by
  show RR 1 3 mX6_set 0 [(0, .ref 0), (1, .int x1), (2, .int x2)] [] σ (rI K)
  refine RR.s2 (pc' := 1) (lv' := [(0, .ref 0), (1, .int x1), (2, .int x2)]) (st' := [.int x1]) dX6_set_0 rfl ?_
  refine RR.cS dX6_set_1 ml_X6_145 (as := [.int x1]) (rest := []) rfl rfl (Nat.le_of_ble_eq_true rfl) (Nat.le_of_ble_eq_true rfl) (by decide) (kb_X6_isTwo (fun c => ?_) (fun c => ?_))
  · have H := H.1 c
    show RR 1 3 mX6_set 4 [(0, .ref 0), (1, .int x1), (2, .int x2)] [.int 1] σ _
    refine RR.brF dX6_set_4 rfl (by decide) ?_
    refine RR.s2 (pc' := 8) (lv' := [(0, .ref 0), (1, .int x1), (2, .int x2)]) (st' := [.int x2]) dX6_set_7 rfl ?_
    refine RR.ic (v := 0) dX6_set_8 (by decide) ?_
    refine RR.ic (v := 2) dX6_set_9 (by decide) ?_
    refine RR.cS dX6_set_10 ml_X6_106 (as := [.int x2, .int 0, .int 2]) (rest := []) rfl rfl (Nat.le_of_ble_eq_true rfl) (Nat.le_of_ble_eq_true rfl) (by decide) (kb_X6_in (fun c => ?_) (fun c => ?_))
    · have H := H.1 c
      show RR 1 3 mX6_set 13 [(0, .ref 0), (1, .int x1), (2, .int x2)] [.int 1] σ _
      refine RR.brT dX6_set_13 rfl (by decide) ?_
      refine RR.s2 (pc' := 20) (lv' := [(0, .ref 0), (1, .int x1), (2, .int x2)]) (st' := [.int x1]) dX6_set_19 rfl ?_
      refine RR.br dX6_set_20 rfl (fun c => ?_) (fun c => ?_)
      · have H := H.1 c
        refine RR.s2 (pc' := 31) (lv' := [(0, .ref 0), (1, .int x1), (2, .int x2)]) (st' := [.ref 0]) dX6_set_30 rfl ?_
        refine RR.getI dX6_set_31 fl_X6_148 rfl rfl ?_
        exact RR.cut [0, 1, 2] rfl H
      · have H := H.2 (Classical.not_not.mp c)
        refine RR.s2 (pc' := 24) (lv' := [(0, .ref 0), (1, .int x1), (2, .int x2)]) (st' := [.ref 0]) dX6_set_23 rfl ?_
        refine RR.getI dX6_set_24 fl_X6_131 rfl rfl ?_
        refine RR.s2 (pc' := 34) (lv' := [(0, .ref 0), (1, .int x1), (2, .int x2)]) (st' := [.int (σ.1 0 5)]) dX6_set_27 rfl ?_
        exact RR.cut [0, 1, 2] rfl H
    · have H := H.2 c
      show RR 1 3 mX6_set 13 [(0, .ref 0), (1, .int x1), (2, .int x2)] [.int 0] σ _
      refine RR.brF dX6_set_13 rfl (by decide) ?_
      refine RR.bp (v := (-2)) dX6_set_16 (by decide) ?_
      exact RR.iret dX6_set_18 rfl ⟨_, rfl, H⟩
  · have H := H.2 c
    show RR 1 3 mX6_set 4 [(0, .ref 0), (1, .int x1), (2, .int x2)] [.int 0] σ _
    refine RR.brT dX6_set_4 rfl (by decide) ?_
    refine RR.bp (v := (-2)) dX6_set_16 (by decide) ?_
    exact RR.iret dX6_set_18 rfl ⟨_, rfl, H⟩
set_option maxRecDepth 20000 in
theorem b_X6_set_34 {σ : r_St} {K : Int32 → r_St → Prop} {x1 : Int32} {x2 : Int32} {t0 : Int32}  (H : (¬ x1 = 0 → R_X6_set_48 σ K x1 x2 t0 (σ.1 0 5)) ∧ (x1 = 0 → R_X6_set_48 σ K x1 x2 t0 x2)) : R_X6_set_34 σ K x1 x2 t0 := by
  show RR 1 3 mX6_set 34 [(0, .ref 0), (1, .int x1), (2, .int x2)] [.int t0] σ (rI K)
  refine RR.s2 (pc' := 35) (lv' := [(0, .ref 0), (1, .int x1), (2, .int x2), (3, .int t0)]) (st' := []) dX6_set_34 rfl ?_
  refine RR.s2 (pc' := 36) (lv' := [(0, .ref 0), (1, .int x1), (2, .int x2), (3, .int t0)]) (st' := [.ref 0]) dX6_set_35 rfl ?_
  refine RR.s2 (pc' := 37) (lv' := [(0, .ref 0), (1, .int x1), (2, .int x2), (3, .int t0)]) (st' := [.int x1, .ref 0]) dX6_set_36 rfl ?_
  refine RR.br dX6_set_37 rfl (fun c => ?_) (fun c => ?_)
  · have H := H.1 c
    refine RR.s2 (pc' := 45) (lv' := [(0, .ref 0), (1, .int x1), (2, .int x2), (3, .int t0)]) (st' := [.ref 0, .ref 0]) dX6_set_44 rfl ?_
    refine RR.getI dX6_set_45 fl_X6_131 rfl rfl ?_
    exact RR.cut [0, 1, 2, 3] rfl H
  · have H := H.2 (Classical.not_not.mp c)
    refine RR.s2 (pc' := 41) (lv' := [(0, .ref 0), (1, .int x1), (2, .int x2), (3, .int t0)]) (st' := [.int x2, .ref 0]) dX6_set_40 rfl ?_
    refine RR.s2 (pc' := 48) (lv' := [(0, .ref 0), (1, .int x1), (2, .int x2), (3, .int t0)]) (st' := [.int x2, .ref 0]) dX6_set_41 rfl ?_
    exact RR.cut [0, 1, 2, 3] rfl H
set_option maxRecDepth 20000 in
theorem b_X6_set_48 {σ : r_St} {K : Int32 → r_St → Prop} {x1 : Int32} {x2 : Int32} {x3 : Int32} {t0 : Int32}  (H : (¬ x1 = 1 → K x3 (wI (wI σ 0 5 t0) 0 6 (σ.1 0 6))) ∧ (x1 = 1 → K x3 (wI (wI σ 0 5 t0) 0 6 x2))) : R_X6_set_48 σ K x1 x2 x3 t0 := by
  show RR 1 3 mX6_set 48 [(0, .ref 0), (1, .int x1), (2, .int x2), (3, .int x3)] [.int t0, .ref 0] σ (rI K)
  refine RR.putI dX6_set_48 fp_X6_131 rfl rfl ?_
  refine RR.s2 (pc' := 52) (lv' := [(0, .ref 0), (1, .int x1), (2, .int x2), (3, .int x3)]) (st' := [.ref 0]) dX6_set_51 rfl ?_
  refine RR.s2 (pc' := 53) (lv' := [(0, .ref 0), (1, .int x1), (2, .int x2), (3, .int x3)]) (st' := [.int x1, .ref 0]) dX6_set_52 rfl ?_
  refine RR.ic (v := 1) dX6_set_53 (by decide) ?_
  refine RR.br dX6_set_54 rfl (fun c => ?_) (fun c => ?_)
  · have H := H.1 c
    refine RR.s2 (pc' := 62) (lv' := [(0, .ref 0), (1, .int x1), (2, .int x2), (3, .int x3)]) (st' := [.ref 0, .ref 0]) dX6_set_61 rfl ?_
    refine RR.getI dX6_set_62 fl_X6_148 rfl rfl ?_
    show RR 1 3 mX6_set 65 [(0, .ref 0), (1, .int x1), (2, .int x2), (3, .int x3)] [.int (σ.1 0 6), .ref 0] (wI σ 0 5 t0) _
    refine RR.putI dX6_set_65 fp_X6_148 rfl rfl ?_
    refine RR.s2 (pc' := 69) (lv' := [(0, .ref 0), (1, .int x1), (2, .int x2), (3, .int x3)]) (st' := [.int x3]) dX6_set_68 rfl ?_
    exact RR.iret dX6_set_69 rfl ⟨_, rfl, H⟩
  · have H := H.2 (Classical.not_not.mp c)
    refine RR.s2 (pc' := 58) (lv' := [(0, .ref 0), (1, .int x1), (2, .int x2), (3, .int x3)]) (st' := [.int x2, .ref 0]) dX6_set_57 rfl ?_
    refine RR.s2 (pc' := 65) (lv' := [(0, .ref 0), (1, .int x1), (2, .int x2), (3, .int x3)]) (st' := [.int x2, .ref 0]) dX6_set_58 rfl ?_
    refine RR.putI dX6_set_65 fp_X6_148 rfl rfl ?_
    refine RR.s2 (pc' := 69) (lv' := [(0, .ref 0), (1, .int x1), (2, .int x2), (3, .int x3)]) (st' := [.int x3]) dX6_set_68 rfl ?_
    exact RR.iret dX6_set_69 rfl ⟨_, rfl, H⟩
set_option maxRecDepth 20000 in
theorem b_X6_sick {σ : r_St} {K : Int32 → r_St → Prop} {x1 : Int32} {x2 : Int32}  (H : (IN x1 0 1 → ((IN x2 0 39 → ((¬ σ.1 3 0 = 8 → (∃ j1 : Nat, σ.1 3 0 = nI j1 ∧ j1 < 8 ∧ (∃ j4 : Nat, σ.1 3 0 = nI j4 ∧ j4 < 8 ∧ K ((σ.1 3 0) + 1) (wI (wI (wI σ 4 j1 x1) 5 j4 x2) 3 0 ((σ.1 3 0) + 1))))) ∧ (σ.1 3 0 = 8 → K (-4) σ))) ∧ (¬ IN x2 0 39 → K (-2) σ))) ∧ (¬ IN x1 0 1 → K (-2) σ)) : M_X6_sick σ K x1 x2 := by
  show RR 1 3 mX6_sick 0 [(0, .ref 0), (1, .int x1), (2, .int x2)] [] σ (rI K)
  refine RR.s2 (pc' := 1) (lv' := [(0, .ref 0), (1, .int x1), (2, .int x2)]) (st' := [.int x1]) dX6_sick_0 rfl ?_
  refine RR.cS dX6_sick_1 ml_X6_145 (as := [.int x1]) (rest := []) rfl rfl (Nat.le_of_ble_eq_true rfl) (Nat.le_of_ble_eq_true rfl) (by decide) (kb_X6_isTwo (fun c => ?_) (fun c => ?_))
  · have H := H.1 c
    show RR 1 3 mX6_sick 4 [(0, .ref 0), (1, .int x1), (2, .int x2)] [.int 1] σ _
    refine RR.brF dX6_sick_4 rfl (by decide) ?_
    refine RR.s2 (pc' := 8) (lv' := [(0, .ref 0), (1, .int x1), (2, .int x2)]) (st' := [.int x2]) dX6_sick_7 rfl ?_
    refine RR.cS dX6_sick_8 ml_X6_151 (as := [.int x2]) (rest := []) rfl rfl (Nat.le_of_ble_eq_true rfl) (Nat.le_of_ble_eq_true rfl) (by decide) (kb_X6_isDay (fun c => ?_) (fun c => ?_))
    · have H := H.1 c
      show RR 1 3 mX6_sick 11 [(0, .ref 0), (1, .int x1), (2, .int x2)] [.int 1] σ _
      refine RR.brT dX6_sick_11 rfl (by decide) ?_
      refine RR.s2 (pc' := 18) (lv' := [(0, .ref 0), (1, .int x1), (2, .int x2)]) (st' := [.ref 0]) dX6_sick_17 rfl ?_
      refine RR.getR dX6_sick_18 fl_X6_16 rfl rfl ?_
      refine RR.ic (v := 0) dX6_sick_21 (by decide) ?_
      refine RR.iald (j := 0) dX6_sick_22 rfl rfl (by decide) ?_
      refine RR.bp (v := 8) dX6_sick_23 (by decide) ?_
      refine RR.br dX6_sick_25 rfl (fun c => ?_) (fun c => ?_)
      · have H := H.1 c
        refine RR.s2 (pc' := 32) (lv' := [(0, .ref 0), (1, .int x1), (2, .int x2)]) (st' := [.ref 0]) dX6_sick_31 rfl ?_
        refine RR.getR dX6_sick_32 fl_X6_19 rfl rfl ?_
        refine RR.s2 (pc' := 36) (lv' := [(0, .ref 0), (1, .int x1), (2, .int x2)]) (st' := [.ref 0, .ref 4]) dX6_sick_35 rfl ?_
        refine RR.getR dX6_sick_36 fl_X6_16 rfl rfl ?_
        refine RR.ic (v := 0) dX6_sick_39 (by decide) ?_
        refine RR.iald (j := 0) dX6_sick_40 rfl rfl (by decide) ?_
        refine RR.s2 (pc' := 42) (lv' := [(0, .ref 0), (1, .int x1), (2, .int x2)]) (st' := [.int x1, .int (σ.1 3 0), .ref 4]) dX6_sick_41 rfl ?_
        obtain ⟨j1, e2, b3, H⟩ := H
        refine RR.iast dX6_sick_42 rfl e2 b3 ?_
        refine RR.s2 (pc' := 44) (lv' := [(0, .ref 0), (1, .int x1), (2, .int x2)]) (st' := [.ref 0]) dX6_sick_43 rfl ?_
        refine RR.getR dX6_sick_44 fl_X6_22 rfl rfl ?_
        refine RR.s2 (pc' := 48) (lv' := [(0, .ref 0), (1, .int x1), (2, .int x2)]) (st' := [.ref 0, .ref 5]) dX6_sick_47 rfl ?_
        refine RR.getR dX6_sick_48 fl_X6_16 rfl rfl ?_
        refine RR.ic (v := 0) dX6_sick_51 (by decide) ?_
        refine RR.iald (j := 0) dX6_sick_52 rfl rfl (by decide) ?_
        show RR 1 3 mX6_sick 53 [(0, .ref 0), (1, .int x1), (2, .int x2)] [.int (σ.1 3 0), .ref 5] (wI σ 4 j1 x1) _
        refine RR.s2 (pc' := 54) (lv' := [(0, .ref 0), (1, .int x1), (2, .int x2)]) (st' := [.int x2, .int (σ.1 3 0), .ref 5]) dX6_sick_53 rfl ?_
        obtain ⟨j4, e5, b6, H⟩ := H
        refine RR.iast dX6_sick_54 rfl e5 b6 ?_
        refine RR.s2 (pc' := 56) (lv' := [(0, .ref 0), (1, .int x1), (2, .int x2)]) (st' := [.ref 0]) dX6_sick_55 rfl ?_
        refine RR.getR dX6_sick_56 fl_X6_16 rfl rfl ?_
        refine RR.ic (v := 0) dX6_sick_59 (by decide) ?_
        refine RR.s2 (pc' := 61) (lv' := [(0, .ref 0), (1, .int x1), (2, .int x2)]) (st' := [.int 0, .ref 3, .int 0, .ref 3]) dX6_sick_60 rfl ?_
        refine RR.iald (j := 0) dX6_sick_61 rfl rfl (by decide) ?_
        show RR 1 3 mX6_sick 62 [(0, .ref 0), (1, .int x1), (2, .int x2)] [.int (σ.1 3 0), .int 0, .ref 3] (wI (wI σ 4 j1 x1) 5 j4 x2) _
        refine RR.ic (v := 1) dX6_sick_62 (by decide) ?_
        refine RR.s2 (pc' := 64) (lv' := [(0, .ref 0), (1, .int x1), (2, .int x2)]) (st' := [.int ((σ.1 3 0) + 1), .int 0, .ref 3]) dX6_sick_63 rfl ?_
        refine RR.iast (j := 0) dX6_sick_64 rfl rfl (by decide) ?_
        refine RR.s2 (pc' := 66) (lv' := [(0, .ref 0), (1, .int x1), (2, .int x2)]) (st' := [.ref 0]) dX6_sick_65 rfl ?_
        refine RR.getR dX6_sick_66 fl_X6_16 rfl rfl ?_
        refine RR.ic (v := 0) dX6_sick_69 (by decide) ?_
        refine RR.iald (j := 0) dX6_sick_70 rfl rfl (by decide) ?_
        show RR 1 3 mX6_sick 71 [(0, .ref 0), (1, .int x1), (2, .int x2)] [.int ((σ.1 3 0) + 1)] (wI (wI (wI σ 4 j1 x1) 5 j4 x2) 3 0 ((σ.1 3 0) + 1)) _
        exact RR.iret dX6_sick_71 rfl ⟨_, rfl, H⟩
      · have H := H.2 (Classical.not_not.mp c)
        refine RR.bp (v := (-4)) dX6_sick_28 (by decide) ?_
        exact RR.iret dX6_sick_30 rfl ⟨_, rfl, H⟩
    · have H := H.2 c
      show RR 1 3 mX6_sick 11 [(0, .ref 0), (1, .int x1), (2, .int x2)] [.int 0] σ _
      refine RR.brF dX6_sick_11 rfl (by decide) ?_
      refine RR.bp (v := (-2)) dX6_sick_14 (by decide) ?_
      exact RR.iret dX6_sick_16 rfl ⟨_, rfl, H⟩
  · have H := H.2 c
    show RR 1 3 mX6_sick 4 [(0, .ref 0), (1, .int x1), (2, .int x2)] [.int 0] σ _
    refine RR.brT dX6_sick_4 rfl (by decide) ?_
    refine RR.bp (v := (-2)) dX6_sick_14 (by decide) ?_
    exact RR.iret dX6_sick_16 rfl ⟨_, rfl, H⟩
set_option maxRecDepth 20000 in
theorem b_X6_leap {σ : r_St} {K : Int32 → r_St → Prop} {x1 : Int32}  (H : (IN x1 0 39 → ((¬ σ.1 3 1 = 4 → (∃ j1 : Nat, σ.1 3 1 = nI j1 ∧ j1 < 4 ∧ K ((σ.1 3 1) + 1) (wI (wI σ 6 j1 x1) 3 1 ((σ.1 3 1) + 1)))) ∧ (σ.1 3 1 = 4 → K (-4) σ))) ∧ (¬ IN x1 0 39 → K (-2) σ)) : M_X6_leap σ K x1 := by
  show RR 1 3 mX6_leap 0 [(0, .ref 0), (1, .int x1)] [] σ (rI K)
  refine RR.s2 (pc' := 1) (lv' := [(0, .ref 0), (1, .int x1)]) (st' := [.int x1]) dX6_leap_0 rfl ?_
  refine RR.cS dX6_leap_1 ml_X6_151 (as := [.int x1]) (rest := []) rfl rfl (Nat.le_of_ble_eq_true rfl) (Nat.le_of_ble_eq_true rfl) (by decide) (kb_X6_isDay (fun c => ?_) (fun c => ?_))
  · have H := H.1 c
    show RR 1 3 mX6_leap 4 [(0, .ref 0), (1, .int x1)] [.int 1] σ _
    refine RR.brT dX6_leap_4 rfl (by decide) ?_
    refine RR.s2 (pc' := 11) (lv' := [(0, .ref 0), (1, .int x1)]) (st' := [.ref 0]) dX6_leap_10 rfl ?_
    refine RR.getR dX6_leap_11 fl_X6_16 rfl rfl ?_
    refine RR.ic (v := 1) dX6_leap_14 (by decide) ?_
    refine RR.iald (j := 1) dX6_leap_15 rfl rfl (by decide) ?_
    refine RR.ic (v := 4) dX6_leap_16 (by decide) ?_
    refine RR.br dX6_leap_17 rfl (fun c => ?_) (fun c => ?_)
    · have H := H.1 c
      refine RR.s2 (pc' := 24) (lv' := [(0, .ref 0), (1, .int x1)]) (st' := [.ref 0]) dX6_leap_23 rfl ?_
      refine RR.getR dX6_leap_24 fl_X6_25 rfl rfl ?_
      refine RR.s2 (pc' := 28) (lv' := [(0, .ref 0), (1, .int x1)]) (st' := [.ref 0, .ref 6]) dX6_leap_27 rfl ?_
      refine RR.getR dX6_leap_28 fl_X6_16 rfl rfl ?_
      refine RR.ic (v := 1) dX6_leap_31 (by decide) ?_
      refine RR.iald (j := 1) dX6_leap_32 rfl rfl (by decide) ?_
      refine RR.s2 (pc' := 34) (lv' := [(0, .ref 0), (1, .int x1)]) (st' := [.int x1, .int (σ.1 3 1), .ref 6]) dX6_leap_33 rfl ?_
      obtain ⟨j1, e2, b3, H⟩ := H
      refine RR.iast dX6_leap_34 rfl e2 b3 ?_
      refine RR.s2 (pc' := 36) (lv' := [(0, .ref 0), (1, .int x1)]) (st' := [.ref 0]) dX6_leap_35 rfl ?_
      refine RR.getR dX6_leap_36 fl_X6_16 rfl rfl ?_
      refine RR.ic (v := 1) dX6_leap_39 (by decide) ?_
      refine RR.s2 (pc' := 41) (lv' := [(0, .ref 0), (1, .int x1)]) (st' := [.int 1, .ref 3, .int 1, .ref 3]) dX6_leap_40 rfl ?_
      refine RR.iald (j := 1) dX6_leap_41 rfl rfl (by decide) ?_
      show RR 1 3 mX6_leap 42 [(0, .ref 0), (1, .int x1)] [.int (σ.1 3 1), .int 1, .ref 3] (wI σ 6 j1 x1) _
      refine RR.ic (v := 1) dX6_leap_42 (by decide) ?_
      refine RR.s2 (pc' := 44) (lv' := [(0, .ref 0), (1, .int x1)]) (st' := [.int ((σ.1 3 1) + 1), .int 1, .ref 3]) dX6_leap_43 rfl ?_
      refine RR.iast (j := 1) dX6_leap_44 rfl rfl (by decide) ?_
      refine RR.s2 (pc' := 46) (lv' := [(0, .ref 0), (1, .int x1)]) (st' := [.ref 0]) dX6_leap_45 rfl ?_
      refine RR.getR dX6_leap_46 fl_X6_16 rfl rfl ?_
      refine RR.ic (v := 1) dX6_leap_49 (by decide) ?_
      refine RR.iald (j := 1) dX6_leap_50 rfl rfl (by decide) ?_
      show RR 1 3 mX6_leap 51 [(0, .ref 0), (1, .int x1)] [.int ((σ.1 3 1) + 1)] (wI (wI σ 6 j1 x1) 3 1 ((σ.1 3 1) + 1)) _
      exact RR.iret dX6_leap_51 rfl ⟨_, rfl, H⟩
    · have H := H.2 (Classical.not_not.mp c)
      refine RR.bp (v := (-4)) dX6_leap_20 (by decide) ?_
      exact RR.iret dX6_leap_22 rfl ⟨_, rfl, H⟩
  · have H := H.2 c
    show RR 1 3 mX6_leap 4 [(0, .ref 0), (1, .int x1)] [.int 0] σ _
    refine RR.brF dX6_leap_4 rfl (by decide) ?_
    refine RR.bp (v := (-2)) dX6_leap_7 (by decide) ?_
    exact RR.iret dX6_leap_9 rfl ⟨_, rfl, H⟩
set_option maxRecDepth 20000 in
theorem b_X6_edict {σ : r_St} {K : Int32 → r_St → Prop} {x1 : Int32} {x2 : Int32}  (H : (IN x1 0 39 → ((IN x2 0 7 → ((¬ σ.1 3 2 = 10 → (∃ j1 : Nat, σ.1 3 2 = nI j1 ∧ j1 < 10 ∧ (∃ j4 : Nat, σ.1 3 2 = nI j4 ∧ j4 < 10 ∧ K ((σ.1 3 2) + 1) (wI (wI (wI σ 7 j1 x1) 8 j4 x2) 3 2 ((σ.1 3 2) + 1))))) ∧ (σ.1 3 2 = 10 → K (-4) σ))) ∧ (¬ IN x2 0 7 → K (-2) σ))) ∧ (¬ IN x1 0 39 → K (-2) σ)) : M_X6_edict σ K x1 x2 := by
  show RR 1 3 mX6_edict 0 [(0, .ref 0), (1, .int x1), (2, .int x2)] [] σ (rI K)
  refine RR.s2 (pc' := 1) (lv' := [(0, .ref 0), (1, .int x1), (2, .int x2)]) (st' := [.int x1]) dX6_edict_0 rfl ?_
  refine RR.cS dX6_edict_1 ml_X6_151 (as := [.int x1]) (rest := []) rfl rfl (Nat.le_of_ble_eq_true rfl) (Nat.le_of_ble_eq_true rfl) (by decide) (kb_X6_isDay (fun c => ?_) (fun c => ?_))
  · have H := H.1 c
    show RR 1 3 mX6_edict 4 [(0, .ref 0), (1, .int x1), (2, .int x2)] [.int 1] σ _
    refine RR.brF dX6_edict_4 rfl (by decide) ?_
    refine RR.s2 (pc' := 8) (lv' := [(0, .ref 0), (1, .int x1), (2, .int x2)]) (st' := [.int x2]) dX6_edict_7 rfl ?_
    refine RR.cS dX6_edict_8 ml_X6_154 (as := [.int x2]) (rest := []) rfl rfl (Nat.le_of_ble_eq_true rfl) (Nat.le_of_ble_eq_true rfl) (by decide) (kb_X6_isEight (fun c => ?_) (fun c => ?_))
    · have H := H.1 c
      show RR 1 3 mX6_edict 11 [(0, .ref 0), (1, .int x1), (2, .int x2)] [.int 1] σ _
      refine RR.brT dX6_edict_11 rfl (by decide) ?_
      refine RR.s2 (pc' := 18) (lv' := [(0, .ref 0), (1, .int x1), (2, .int x2)]) (st' := [.ref 0]) dX6_edict_17 rfl ?_
      refine RR.getR dX6_edict_18 fl_X6_16 rfl rfl ?_
      refine RR.ic (v := 2) dX6_edict_21 (by decide) ?_
      refine RR.iald (j := 2) dX6_edict_22 rfl rfl (by decide) ?_
      refine RR.bp (v := 10) dX6_edict_23 (by decide) ?_
      refine RR.br dX6_edict_25 rfl (fun c => ?_) (fun c => ?_)
      · have H := H.1 c
        refine RR.s2 (pc' := 32) (lv' := [(0, .ref 0), (1, .int x1), (2, .int x2)]) (st' := [.ref 0]) dX6_edict_31 rfl ?_
        refine RR.getR dX6_edict_32 fl_X6_28 rfl rfl ?_
        refine RR.s2 (pc' := 36) (lv' := [(0, .ref 0), (1, .int x1), (2, .int x2)]) (st' := [.ref 0, .ref 7]) dX6_edict_35 rfl ?_
        refine RR.getR dX6_edict_36 fl_X6_16 rfl rfl ?_
        refine RR.ic (v := 2) dX6_edict_39 (by decide) ?_
        refine RR.iald (j := 2) dX6_edict_40 rfl rfl (by decide) ?_
        refine RR.s2 (pc' := 42) (lv' := [(0, .ref 0), (1, .int x1), (2, .int x2)]) (st' := [.int x1, .int (σ.1 3 2), .ref 7]) dX6_edict_41 rfl ?_
        obtain ⟨j1, e2, b3, H⟩ := H
        refine RR.iast dX6_edict_42 rfl e2 b3 ?_
        refine RR.s2 (pc' := 44) (lv' := [(0, .ref 0), (1, .int x1), (2, .int x2)]) (st' := [.ref 0]) dX6_edict_43 rfl ?_
        refine RR.getR dX6_edict_44 fl_X6_31 rfl rfl ?_
        refine RR.s2 (pc' := 48) (lv' := [(0, .ref 0), (1, .int x1), (2, .int x2)]) (st' := [.ref 0, .ref 8]) dX6_edict_47 rfl ?_
        refine RR.getR dX6_edict_48 fl_X6_16 rfl rfl ?_
        refine RR.ic (v := 2) dX6_edict_51 (by decide) ?_
        refine RR.iald (j := 2) dX6_edict_52 rfl rfl (by decide) ?_
        show RR 1 3 mX6_edict 53 [(0, .ref 0), (1, .int x1), (2, .int x2)] [.int (σ.1 3 2), .ref 8] (wI σ 7 j1 x1) _
        refine RR.s2 (pc' := 54) (lv' := [(0, .ref 0), (1, .int x1), (2, .int x2)]) (st' := [.int x2, .int (σ.1 3 2), .ref 8]) dX6_edict_53 rfl ?_
        obtain ⟨j4, e5, b6, H⟩ := H
        refine RR.iast dX6_edict_54 rfl e5 b6 ?_
        refine RR.s2 (pc' := 56) (lv' := [(0, .ref 0), (1, .int x1), (2, .int x2)]) (st' := [.ref 0]) dX6_edict_55 rfl ?_
        refine RR.getR dX6_edict_56 fl_X6_16 rfl rfl ?_
        refine RR.ic (v := 2) dX6_edict_59 (by decide) ?_
        refine RR.s2 (pc' := 61) (lv' := [(0, .ref 0), (1, .int x1), (2, .int x2)]) (st' := [.int 2, .ref 3, .int 2, .ref 3]) dX6_edict_60 rfl ?_
        refine RR.iald (j := 2) dX6_edict_61 rfl rfl (by decide) ?_
        show RR 1 3 mX6_edict 62 [(0, .ref 0), (1, .int x1), (2, .int x2)] [.int (σ.1 3 2), .int 2, .ref 3] (wI (wI σ 7 j1 x1) 8 j4 x2) _
        refine RR.ic (v := 1) dX6_edict_62 (by decide) ?_
        refine RR.s2 (pc' := 64) (lv' := [(0, .ref 0), (1, .int x1), (2, .int x2)]) (st' := [.int ((σ.1 3 2) + 1), .int 2, .ref 3]) dX6_edict_63 rfl ?_
        refine RR.iast (j := 2) dX6_edict_64 rfl rfl (by decide) ?_
        refine RR.s2 (pc' := 66) (lv' := [(0, .ref 0), (1, .int x1), (2, .int x2)]) (st' := [.ref 0]) dX6_edict_65 rfl ?_
        refine RR.getR dX6_edict_66 fl_X6_16 rfl rfl ?_
        refine RR.ic (v := 2) dX6_edict_69 (by decide) ?_
        refine RR.iald (j := 2) dX6_edict_70 rfl rfl (by decide) ?_
        show RR 1 3 mX6_edict 71 [(0, .ref 0), (1, .int x1), (2, .int x2)] [.int ((σ.1 3 2) + 1)] (wI (wI (wI σ 7 j1 x1) 8 j4 x2) 3 2 ((σ.1 3 2) + 1)) _
        exact RR.iret dX6_edict_71 rfl ⟨_, rfl, H⟩
      · have H := H.2 (Classical.not_not.mp c)
        refine RR.bp (v := (-4)) dX6_edict_28 (by decide) ?_
        exact RR.iret dX6_edict_30 rfl ⟨_, rfl, H⟩
    · have H := H.2 c
      show RR 1 3 mX6_edict 11 [(0, .ref 0), (1, .int x1), (2, .int x2)] [.int 0] σ _
      refine RR.brF dX6_edict_11 rfl (by decide) ?_
      refine RR.bp (v := (-2)) dX6_edict_14 (by decide) ?_
      exact RR.iret dX6_edict_16 rfl ⟨_, rfl, H⟩
  · have H := H.2 c
    show RR 1 3 mX6_edict 4 [(0, .ref 0), (1, .int x1), (2, .int x2)] [.int 0] σ _
    refine RR.brT dX6_edict_4 rfl (by decide) ?_
    refine RR.bp (v := (-2)) dX6_edict_14 (by decide) ?_
    exact RR.iret dX6_edict_16 rfl ⟨_, rfl, H⟩
set_option maxRecDepth 20000 in
theorem b_X6_does {σ : r_St} {K : Int32 → r_St → Prop} {x1 : Int32} {x2 : Int32} {x3 : Int32}  (H : (IN x1 0 39 → ((IN x2 0 7 → ((IN x3 1 5 → ((x1 + x3 ≤ 40 → ((¬ σ.1 3 3 = 12 → (∃ j1 : Nat, σ.1 3 3 = nI j1 ∧ j1 < 12 ∧ (∃ j4 : Nat, σ.1 3 3 = nI j4 ∧ j4 < 12 ∧ (∃ j7 : Nat, σ.1 3 3 = nI j7 ∧ j7 < 12 ∧ K ((σ.1 3 3) + 1) (wI (wI (wI (wI σ 9 j1 x1) 10 j4 x2) 11 j7 x3) 3 3 ((σ.1 3 3) + 1)))))) ∧ (σ.1 3 3 = 12 → K (-4) σ))) ∧ (¬ (x1 + x3 ≤ 40) → K (-2) σ))) ∧ (¬ IN x3 1 5 → K (-2) σ))) ∧ (¬ IN x2 0 7 → K (-2) σ))) ∧ (¬ IN x1 0 39 → K (-2) σ)) : M_X6_does σ K x1 x2 x3 := by
  show RR 1 3 mX6_does 0 [(0, .ref 0), (1, .int x1), (2, .int x2), (3, .int x3)] [] σ (rI K)
  refine RR.s2 (pc' := 1) (lv' := [(0, .ref 0), (1, .int x1), (2, .int x2), (3, .int x3)]) (st' := [.int x1]) dX6_does_0 rfl ?_
  refine RR.cS dX6_does_1 ml_X6_151 (as := [.int x1]) (rest := []) rfl rfl (Nat.le_of_ble_eq_true rfl) (Nat.le_of_ble_eq_true rfl) (by decide) (kb_X6_isDay (fun c => ?_) (fun c => ?_))
  · have H := H.1 c
    show RR 1 3 mX6_does 4 [(0, .ref 0), (1, .int x1), (2, .int x2), (3, .int x3)] [.int 1] σ _
    refine RR.brF dX6_does_4 rfl (by decide) ?_
    refine RR.s2 (pc' := 8) (lv' := [(0, .ref 0), (1, .int x1), (2, .int x2), (3, .int x3)]) (st' := [.int x2]) dX6_does_7 rfl ?_
    refine RR.cS dX6_does_8 ml_X6_154 (as := [.int x2]) (rest := []) rfl rfl (Nat.le_of_ble_eq_true rfl) (Nat.le_of_ble_eq_true rfl) (by decide) (kb_X6_isEight (fun c => ?_) (fun c => ?_))
    · have H := H.1 c
      show RR 1 3 mX6_does 11 [(0, .ref 0), (1, .int x1), (2, .int x2), (3, .int x3)] [.int 1] σ _
      refine RR.brF dX6_does_11 rfl (by decide) ?_
      refine RR.s2 (pc' := 15) (lv' := [(0, .ref 0), (1, .int x1), (2, .int x2), (3, .int x3)]) (st' := [.int x3]) dX6_does_14 rfl ?_
      refine RR.ic (v := 1) dX6_does_15 (by decide) ?_
      refine RR.ic (v := 5) dX6_does_16 (by decide) ?_
      refine RR.cS dX6_does_17 ml_X6_106 (as := [.int x3, .int 1, .int 5]) (rest := []) rfl rfl (Nat.le_of_ble_eq_true rfl) (Nat.le_of_ble_eq_true rfl) (by decide) (kb_X6_in (fun c => ?_) (fun c => ?_))
      · have H := H.1 c
        show RR 1 3 mX6_does 20 [(0, .ref 0), (1, .int x1), (2, .int x2), (3, .int x3)] [.int 1] σ _
        refine RR.brF dX6_does_20 rfl (by decide) ?_
        refine RR.s2 (pc' := 24) (lv' := [(0, .ref 0), (1, .int x1), (2, .int x2), (3, .int x3)]) (st' := [.int x1]) dX6_does_23 rfl ?_
        refine RR.s2 (pc' := 25) (lv' := [(0, .ref 0), (1, .int x1), (2, .int x2), (3, .int x3)]) (st' := [.int x3, .int x1]) dX6_does_24 rfl ?_
        refine RR.s2 (pc' := 26) (lv' := [(0, .ref 0), (1, .int x1), (2, .int x2), (3, .int x3)]) (st' := [.int (x1 + x3)]) dX6_does_25 rfl ?_
        refine RR.bp (v := 40) dX6_does_26 (by decide) ?_
        refine RR.br dX6_does_28 rfl (fun c => ?_) (fun c => ?_)
        · have H := H.1 c
          refine RR.s2 (pc' := 35) (lv' := [(0, .ref 0), (1, .int x1), (2, .int x2), (3, .int x3)]) (st' := [.ref 0]) dX6_does_34 rfl ?_
          refine RR.getR dX6_does_35 fl_X6_16 rfl rfl ?_
          refine RR.ic (v := 3) dX6_does_38 (by decide) ?_
          refine RR.iald (j := 3) dX6_does_39 rfl rfl (by decide) ?_
          refine RR.bp (v := 12) dX6_does_40 (by decide) ?_
          refine RR.br dX6_does_42 rfl (fun c => ?_) (fun c => ?_)
          · have H := H.1 c
            refine RR.s2 (pc' := 49) (lv' := [(0, .ref 0), (1, .int x1), (2, .int x2), (3, .int x3)]) (st' := [.ref 0]) dX6_does_48 rfl ?_
            refine RR.getR dX6_does_49 fl_X6_34 rfl rfl ?_
            refine RR.s2 (pc' := 53) (lv' := [(0, .ref 0), (1, .int x1), (2, .int x2), (3, .int x3)]) (st' := [.ref 0, .ref 9]) dX6_does_52 rfl ?_
            refine RR.getR dX6_does_53 fl_X6_16 rfl rfl ?_
            refine RR.ic (v := 3) dX6_does_56 (by decide) ?_
            refine RR.iald (j := 3) dX6_does_57 rfl rfl (by decide) ?_
            refine RR.s2 (pc' := 59) (lv' := [(0, .ref 0), (1, .int x1), (2, .int x2), (3, .int x3)]) (st' := [.int x1, .int (σ.1 3 3), .ref 9]) dX6_does_58 rfl ?_
            obtain ⟨j1, e2, b3, H⟩ := H
            refine RR.iast dX6_does_59 rfl e2 b3 ?_
            refine RR.s2 (pc' := 61) (lv' := [(0, .ref 0), (1, .int x1), (2, .int x2), (3, .int x3)]) (st' := [.ref 0]) dX6_does_60 rfl ?_
            refine RR.getR dX6_does_61 fl_X6_37 rfl rfl ?_
            refine RR.s2 (pc' := 65) (lv' := [(0, .ref 0), (1, .int x1), (2, .int x2), (3, .int x3)]) (st' := [.ref 0, .ref 10]) dX6_does_64 rfl ?_
            refine RR.getR dX6_does_65 fl_X6_16 rfl rfl ?_
            refine RR.ic (v := 3) dX6_does_68 (by decide) ?_
            refine RR.iald (j := 3) dX6_does_69 rfl rfl (by decide) ?_
            show RR 1 3 mX6_does 70 [(0, .ref 0), (1, .int x1), (2, .int x2), (3, .int x3)] [.int (σ.1 3 3), .ref 10] (wI σ 9 j1 x1) _
            refine RR.s2 (pc' := 71) (lv' := [(0, .ref 0), (1, .int x1), (2, .int x2), (3, .int x3)]) (st' := [.int x2, .int (σ.1 3 3), .ref 10]) dX6_does_70 rfl ?_
            obtain ⟨j4, e5, b6, H⟩ := H
            refine RR.iast dX6_does_71 rfl e5 b6 ?_
            refine RR.s2 (pc' := 73) (lv' := [(0, .ref 0), (1, .int x1), (2, .int x2), (3, .int x3)]) (st' := [.ref 0]) dX6_does_72 rfl ?_
            refine RR.getR dX6_does_73 fl_X6_40 rfl rfl ?_
            refine RR.s2 (pc' := 77) (lv' := [(0, .ref 0), (1, .int x1), (2, .int x2), (3, .int x3)]) (st' := [.ref 0, .ref 11]) dX6_does_76 rfl ?_
            refine RR.getR dX6_does_77 fl_X6_16 rfl rfl ?_
            refine RR.ic (v := 3) dX6_does_80 (by decide) ?_
            refine RR.iald (j := 3) dX6_does_81 rfl rfl (by decide) ?_
            show RR 1 3 mX6_does 82 [(0, .ref 0), (1, .int x1), (2, .int x2), (3, .int x3)] [.int (σ.1 3 3), .ref 11] (wI (wI σ 9 j1 x1) 10 j4 x2) _
            refine RR.s2 (pc' := 83) (lv' := [(0, .ref 0), (1, .int x1), (2, .int x2), (3, .int x3)]) (st' := [.int x3, .int (σ.1 3 3), .ref 11]) dX6_does_82 rfl ?_
            obtain ⟨j7, e8, b9, H⟩ := H
            refine RR.iast dX6_does_83 rfl e8 b9 ?_
            refine RR.s2 (pc' := 85) (lv' := [(0, .ref 0), (1, .int x1), (2, .int x2), (3, .int x3)]) (st' := [.ref 0]) dX6_does_84 rfl ?_
            refine RR.getR dX6_does_85 fl_X6_16 rfl rfl ?_
            refine RR.ic (v := 3) dX6_does_88 (by decide) ?_
            refine RR.s2 (pc' := 90) (lv' := [(0, .ref 0), (1, .int x1), (2, .int x2), (3, .int x3)]) (st' := [.int 3, .ref 3, .int 3, .ref 3]) dX6_does_89 rfl ?_
            refine RR.iald (j := 3) dX6_does_90 rfl rfl (by decide) ?_
            show RR 1 3 mX6_does 91 [(0, .ref 0), (1, .int x1), (2, .int x2), (3, .int x3)] [.int (σ.1 3 3), .int 3, .ref 3] (wI (wI (wI σ 9 j1 x1) 10 j4 x2) 11 j7 x3) _
            refine RR.ic (v := 1) dX6_does_91 (by decide) ?_
            refine RR.s2 (pc' := 93) (lv' := [(0, .ref 0), (1, .int x1), (2, .int x2), (3, .int x3)]) (st' := [.int ((σ.1 3 3) + 1), .int 3, .ref 3]) dX6_does_92 rfl ?_
            refine RR.iast (j := 3) dX6_does_93 rfl rfl (by decide) ?_
            refine RR.s2 (pc' := 95) (lv' := [(0, .ref 0), (1, .int x1), (2, .int x2), (3, .int x3)]) (st' := [.ref 0]) dX6_does_94 rfl ?_
            refine RR.getR dX6_does_95 fl_X6_16 rfl rfl ?_
            refine RR.ic (v := 3) dX6_does_98 (by decide) ?_
            refine RR.iald (j := 3) dX6_does_99 rfl rfl (by decide) ?_
            show RR 1 3 mX6_does 100 [(0, .ref 0), (1, .int x1), (2, .int x2), (3, .int x3)] [.int ((σ.1 3 3) + 1)] (wI (wI (wI (wI σ 9 j1 x1) 10 j4 x2) 11 j7 x3) 3 3 ((σ.1 3 3) + 1)) _
            exact RR.iret dX6_does_100 rfl ⟨_, rfl, H⟩
          · have H := H.2 (Classical.not_not.mp c)
            refine RR.bp (v := (-4)) dX6_does_45 (by decide) ?_
            exact RR.iret dX6_does_47 rfl ⟨_, rfl, H⟩
        · have H := H.2 c
          refine RR.bp (v := (-2)) dX6_does_31 (by decide) ?_
          exact RR.iret dX6_does_33 rfl ⟨_, rfl, H⟩
      · have H := H.2 c
        show RR 1 3 mX6_does 20 [(0, .ref 0), (1, .int x1), (2, .int x2), (3, .int x3)] [.int 0] σ _
        refine RR.brT dX6_does_20 rfl (by decide) ?_
        refine RR.bp (v := (-2)) dX6_does_31 (by decide) ?_
        exact RR.iret dX6_does_33 rfl ⟨_, rfl, H⟩
    · have H := H.2 c
      show RR 1 3 mX6_does 11 [(0, .ref 0), (1, .int x1), (2, .int x2), (3, .int x3)] [.int 0] σ _
      refine RR.brT dX6_does_11 rfl (by decide) ?_
      refine RR.bp (v := (-2)) dX6_does_31 (by decide) ?_
      exact RR.iret dX6_does_33 rfl ⟨_, rfl, H⟩
  · have H := H.2 c
    show RR 1 3 mX6_does 4 [(0, .ref 0), (1, .int x1), (2, .int x2), (3, .int x3)] [.int 0] σ _
    refine RR.brT dX6_does_4 rfl (by decide) ?_
    refine RR.bp (v := (-2)) dX6_does_31 (by decide) ?_
    exact RR.iret dX6_does_33 rfl ⟨_, rfl, H⟩
set_option maxRecDepth 20000 in
theorem b_X6_task {σ : r_St} {K : Int32 → r_St → Prop} {x1 : Int32} {x2 : Int32}  (H : (IN x1 0 7 → ((IN x2 1 5 → ((¬ σ.1 3 4 = 6 → (∃ j1 : Nat, σ.1 3 4 = nI j1 ∧ j1 < 6 ∧ (∃ j4 : Nat, σ.1 3 4 = nI j4 ∧ j4 < 6 ∧ K ((σ.1 3 4) + 1) (wI (wI (wI σ 12 j1 x1) 13 j4 x2) 3 4 ((σ.1 3 4) + 1))))) ∧ (σ.1 3 4 = 6 → K (-4) σ))) ∧ (¬ IN x2 1 5 → K (-2) σ))) ∧ (¬ IN x1 0 7 → K (-2) σ)) : M_X6_task σ K x1 x2 := by
  show RR 1 3 mX6_task 0 [(0, .ref 0), (1, .int x1), (2, .int x2)] [] σ (rI K)
  refine RR.s2 (pc' := 1) (lv' := [(0, .ref 0), (1, .int x1), (2, .int x2)]) (st' := [.int x1]) dX6_task_0 rfl ?_
  refine RR.cS dX6_task_1 ml_X6_154 (as := [.int x1]) (rest := []) rfl rfl (Nat.le_of_ble_eq_true rfl) (Nat.le_of_ble_eq_true rfl) (by decide) (kb_X6_isEight (fun c => ?_) (fun c => ?_))
  · have H := H.1 c
    show RR 1 3 mX6_task 4 [(0, .ref 0), (1, .int x1), (2, .int x2)] [.int 1] σ _
    refine RR.brF dX6_task_4 rfl (by decide) ?_
    refine RR.s2 (pc' := 8) (lv' := [(0, .ref 0), (1, .int x1), (2, .int x2)]) (st' := [.int x2]) dX6_task_7 rfl ?_
    refine RR.ic (v := 1) dX6_task_8 (by decide) ?_
    refine RR.ic (v := 5) dX6_task_9 (by decide) ?_
    refine RR.cS dX6_task_10 ml_X6_106 (as := [.int x2, .int 1, .int 5]) (rest := []) rfl rfl (Nat.le_of_ble_eq_true rfl) (Nat.le_of_ble_eq_true rfl) (by decide) (kb_X6_in (fun c => ?_) (fun c => ?_))
    · have H := H.1 c
      show RR 1 3 mX6_task 13 [(0, .ref 0), (1, .int x1), (2, .int x2)] [.int 1] σ _
      refine RR.brT dX6_task_13 rfl (by decide) ?_
      refine RR.s2 (pc' := 20) (lv' := [(0, .ref 0), (1, .int x1), (2, .int x2)]) (st' := [.ref 0]) dX6_task_19 rfl ?_
      refine RR.getR dX6_task_20 fl_X6_16 rfl rfl ?_
      refine RR.ic (v := 4) dX6_task_23 (by decide) ?_
      refine RR.iald (j := 4) dX6_task_24 rfl rfl (by decide) ?_
      refine RR.bp (v := 6) dX6_task_25 (by decide) ?_
      refine RR.br dX6_task_27 rfl (fun c => ?_) (fun c => ?_)
      · have H := H.1 c
        refine RR.s2 (pc' := 34) (lv' := [(0, .ref 0), (1, .int x1), (2, .int x2)]) (st' := [.ref 0]) dX6_task_33 rfl ?_
        refine RR.getR dX6_task_34 fl_X6_43 rfl rfl ?_
        refine RR.s2 (pc' := 38) (lv' := [(0, .ref 0), (1, .int x1), (2, .int x2)]) (st' := [.ref 0, .ref 12]) dX6_task_37 rfl ?_
        refine RR.getR dX6_task_38 fl_X6_16 rfl rfl ?_
        refine RR.ic (v := 4) dX6_task_41 (by decide) ?_
        refine RR.iald (j := 4) dX6_task_42 rfl rfl (by decide) ?_
        refine RR.s2 (pc' := 44) (lv' := [(0, .ref 0), (1, .int x1), (2, .int x2)]) (st' := [.int x1, .int (σ.1 3 4), .ref 12]) dX6_task_43 rfl ?_
        obtain ⟨j1, e2, b3, H⟩ := H
        refine RR.iast dX6_task_44 rfl e2 b3 ?_
        refine RR.s2 (pc' := 46) (lv' := [(0, .ref 0), (1, .int x1), (2, .int x2)]) (st' := [.ref 0]) dX6_task_45 rfl ?_
        refine RR.getR dX6_task_46 fl_X6_46 rfl rfl ?_
        refine RR.s2 (pc' := 50) (lv' := [(0, .ref 0), (1, .int x1), (2, .int x2)]) (st' := [.ref 0, .ref 13]) dX6_task_49 rfl ?_
        refine RR.getR dX6_task_50 fl_X6_16 rfl rfl ?_
        refine RR.ic (v := 4) dX6_task_53 (by decide) ?_
        refine RR.iald (j := 4) dX6_task_54 rfl rfl (by decide) ?_
        show RR 1 3 mX6_task 55 [(0, .ref 0), (1, .int x1), (2, .int x2)] [.int (σ.1 3 4), .ref 13] (wI σ 12 j1 x1) _
        refine RR.s2 (pc' := 56) (lv' := [(0, .ref 0), (1, .int x1), (2, .int x2)]) (st' := [.int x2, .int (σ.1 3 4), .ref 13]) dX6_task_55 rfl ?_
        obtain ⟨j4, e5, b6, H⟩ := H
        refine RR.iast dX6_task_56 rfl e5 b6 ?_
        refine RR.s2 (pc' := 58) (lv' := [(0, .ref 0), (1, .int x1), (2, .int x2)]) (st' := [.ref 0]) dX6_task_57 rfl ?_
        refine RR.getR dX6_task_58 fl_X6_16 rfl rfl ?_
        refine RR.ic (v := 4) dX6_task_61 (by decide) ?_
        refine RR.s2 (pc' := 63) (lv' := [(0, .ref 0), (1, .int x1), (2, .int x2)]) (st' := [.int 4, .ref 3, .int 4, .ref 3]) dX6_task_62 rfl ?_
        refine RR.iald (j := 4) dX6_task_63 rfl rfl (by decide) ?_
        show RR 1 3 mX6_task 64 [(0, .ref 0), (1, .int x1), (2, .int x2)] [.int (σ.1 3 4), .int 4, .ref 3] (wI (wI σ 12 j1 x1) 13 j4 x2) _
        refine RR.ic (v := 1) dX6_task_64 (by decide) ?_
        refine RR.s2 (pc' := 66) (lv' := [(0, .ref 0), (1, .int x1), (2, .int x2)]) (st' := [.int ((σ.1 3 4) + 1), .int 4, .ref 3]) dX6_task_65 rfl ?_
        refine RR.iast (j := 4) dX6_task_66 rfl rfl (by decide) ?_
        refine RR.s2 (pc' := 68) (lv' := [(0, .ref 0), (1, .int x1), (2, .int x2)]) (st' := [.ref 0]) dX6_task_67 rfl ?_
        refine RR.getR dX6_task_68 fl_X6_16 rfl rfl ?_
        refine RR.ic (v := 4) dX6_task_71 (by decide) ?_
        refine RR.iald (j := 4) dX6_task_72 rfl rfl (by decide) ?_
        show RR 1 3 mX6_task 73 [(0, .ref 0), (1, .int x1), (2, .int x2)] [.int ((σ.1 3 4) + 1)] (wI (wI (wI σ 12 j1 x1) 13 j4 x2) 3 4 ((σ.1 3 4) + 1)) _
        exact RR.iret dX6_task_73 rfl ⟨_, rfl, H⟩
      · have H := H.2 (Classical.not_not.mp c)
        refine RR.bp (v := (-4)) dX6_task_30 (by decide) ?_
        exact RR.iret dX6_task_32 rfl ⟨_, rfl, H⟩
    · have H := H.2 c
      show RR 1 3 mX6_task 13 [(0, .ref 0), (1, .int x1), (2, .int x2)] [.int 0] σ _
      refine RR.brF dX6_task_13 rfl (by decide) ?_
      refine RR.bp (v := (-2)) dX6_task_16 (by decide) ?_
      exact RR.iret dX6_task_18 rfl ⟨_, rfl, H⟩
  · have H := H.2 c
    show RR 1 3 mX6_task 4 [(0, .ref 0), (1, .int x1), (2, .int x2)] [.int 0] σ _
    refine RR.brT dX6_task_4 rfl (by decide) ?_
    refine RR.bp (v := (-2)) dX6_task_16 (by decide) ?_
    exact RR.iret dX6_task_18 rfl ⟨_, rfl, H⟩
set_option maxRecDepth 20000 in
theorem b_X6_back {σ : r_St} {K : Int32 → r_St → Prop} {x1 : Int32}  (H : (IN x1 0 4 → (∃ j1 : Nat, x1 = nI j1 ∧ j1 < 5 ∧ ((¬ σ.1 3 j1 = 0 → (∃ j4 : Nat, x1 = nI j4 ∧ j4 < 5 ∧ (∃ j7 : Nat, x1 = nI j7 ∧ j7 < 5 ∧ (∃ j10 : Nat, x1 = nI j10 ∧ j10 < 5 ∧ K ((wI σ 3 j7 ((σ.1 3 j4) - 1)).1 3 j10) (wI σ 3 j7 ((σ.1 3 j4) - 1)))))) ∧ (σ.1 3 j1 = 0 → K (-3) σ)))) ∧ (¬ IN x1 0 4 → K (-2) σ)) : M_X6_back σ K x1 := by
  show RR 1 2 mX6_back 0 [(0, .ref 0), (1, .int x1)] [] σ (rI K)
  refine RR.s2 (pc' := 1) (lv' := [(0, .ref 0), (1, .int x1)]) (st' := [.int x1]) dX6_back_0 rfl ?_
  refine RR.ic (v := 0) dX6_back_1 (by decide) ?_
  refine RR.ic (v := 4) dX6_back_2 (by decide) ?_
  refine RR.cS dX6_back_3 ml_X6_106 (as := [.int x1, .int 0, .int 4]) (rest := []) rfl rfl (Nat.le_of_ble_eq_true rfl) (Nat.le_of_ble_eq_true rfl) (by decide) (kb_X6_in (fun c => ?_) (fun c => ?_))
  · have H := H.1 c
    show RR 1 2 mX6_back 6 [(0, .ref 0), (1, .int x1)] [.int 1] σ _
    refine RR.brT dX6_back_6 rfl (by decide) ?_
    refine RR.s2 (pc' := 13) (lv' := [(0, .ref 0), (1, .int x1)]) (st' := [.ref 0]) dX6_back_12 rfl ?_
    refine RR.getR dX6_back_13 fl_X6_16 rfl rfl ?_
    refine RR.s2 (pc' := 17) (lv' := [(0, .ref 0), (1, .int x1)]) (st' := [.int x1, .ref 3]) dX6_back_16 rfl ?_
    obtain ⟨j1, e2, b3, H⟩ := H
    refine RR.iald dX6_back_17 rfl e2 b3 ?_
    refine RR.br dX6_back_18 rfl (fun c => ?_) (fun c => ?_)
    · have H := H.1 c
      refine RR.s2 (pc' := 25) (lv' := [(0, .ref 0), (1, .int x1)]) (st' := [.ref 0]) dX6_back_24 rfl ?_
      refine RR.getR dX6_back_25 fl_X6_16 rfl rfl ?_
      refine RR.s2 (pc' := 29) (lv' := [(0, .ref 0), (1, .int x1)]) (st' := [.int x1, .ref 3]) dX6_back_28 rfl ?_
      refine RR.s2 (pc' := 30) (lv' := [(0, .ref 0), (1, .int x1)]) (st' := [.int x1, .ref 3, .int x1, .ref 3]) dX6_back_29 rfl ?_
      obtain ⟨j4, e5, b6, H⟩ := H
      refine RR.iald dX6_back_30 rfl e5 b6 ?_
      refine RR.ic (v := 1) dX6_back_31 (by decide) ?_
      refine RR.s2 (pc' := 33) (lv' := [(0, .ref 0), (1, .int x1)]) (st' := [.int ((σ.1 3 j4) - 1), .int x1, .ref 3]) dX6_back_32 rfl ?_
      obtain ⟨j7, e8, b9, H⟩ := H
      refine RR.iast dX6_back_33 rfl e8 b9 ?_
      refine RR.s2 (pc' := 35) (lv' := [(0, .ref 0), (1, .int x1)]) (st' := [.ref 0]) dX6_back_34 rfl ?_
      refine RR.getR dX6_back_35 fl_X6_16 rfl rfl ?_
      refine RR.s2 (pc' := 39) (lv' := [(0, .ref 0), (1, .int x1)]) (st' := [.int x1, .ref 3]) dX6_back_38 rfl ?_
      obtain ⟨j10, e11, b12, H⟩ := H
      refine RR.iald dX6_back_39 rfl e11 b12 ?_
      exact RR.iret dX6_back_40 rfl ⟨_, rfl, H⟩
    · have H := H.2 (Classical.not_not.mp c)
      refine RR.bp (v := (-3)) dX6_back_21 (by decide) ?_
      exact RR.iret dX6_back_23 rfl ⟨_, rfl, H⟩
  · have H := H.2 c
    show RR 1 2 mX6_back 6 [(0, .ref 0), (1, .int x1)] [.int 0] σ _
    refine RR.brF dX6_back_6 rfl (by decide) ?_
    refine RR.bp (v := (-2)) dX6_back_9 (by decide) ?_
    exact RR.iret dX6_back_11 rfl ⟨_, rfl, H⟩
set_option maxRecDepth 20000 in
theorem b_X6_read {σ : r_St} {K : Int32 → r_St → Prop} {x1 : Int32}  (H : (IN x1 0 3 → (∃ j1 : Nat, x1 = nI j1 ∧ j1 < 4 ∧ ((¬ σ.1 27 j1 = 0 → R_X6_read_27 σ K x1 0) ∧ (σ.1 27 j1 = 0 → K ((-10) - 1) (wI σ 0 41 1))))) ∧ (¬ IN x1 0 3 → K (-2) σ)) : M_X6_read σ K x1 := by
  show RR 1 4 mX6_read 0 [(0, .ref 0), (1, .int x1)] [] σ (rI K)
  refine RR.s2 (pc' := 1) (lv' := [(0, .ref 0), (1, .int x1)]) (st' := [.int x1]) dX6_read_0 rfl ?_
  refine RR.cS dX6_read_1 ml_X6_157 (as := [.int x1]) (rest := []) rfl rfl (Nat.le_of_ble_eq_true rfl) (Nat.le_of_ble_eq_true rfl) (by decide) (kb_X6_isSheet (fun c => ?_) (fun c => ?_))
  · have H := H.1 c
    show RR 1 4 mX6_read 4 [(0, .ref 0), (1, .int x1)] [.int 1] σ _
    refine RR.brT dX6_read_4 rfl (by decide) ?_
    refine RR.s2 (pc' := 11) (lv' := [(0, .ref 0), (1, .int x1)]) (st' := [.ref 0]) dX6_read_10 rfl ?_
    refine RR.getR dX6_read_11 fl_X6_88 rfl rfl ?_
    refine RR.s2 (pc' := 15) (lv' := [(0, .ref 0), (1, .int x1)]) (st' := [.int x1, .ref 27]) dX6_read_14 rfl ?_
    obtain ⟨j1, e2, b3, H⟩ := H
    refine RR.bald dX6_read_15 rfl e2 b3 ?_
    refine RR.br dX6_read_16 rfl (fun c => ?_) (fun c => ?_)
    · have H := H.1 c
      refine RR.ic (v := 0) dX6_read_25 (by decide) ?_
      refine RR.s2 (pc' := 27) (lv' := [(0, .ref 0), (1, .int x1), (2, .int 0)]) (st' := []) dX6_read_26 rfl ?_
      exact RR.cut [0, 1, 2] rfl H
    · have H := H.2 (Classical.not_not.mp c)
      refine RR.s2 (pc' := 20) (lv' := [(0, .ref 0), (1, .int x1)]) (st' := [.ref 0]) dX6_read_19 rfl ?_
      refine RR.ic (v := 1) dX6_read_20 (by decide) ?_
      refine RR.cV (d' := 1) dX6_read_21 ml_X6_160 rfl rfl (as := [.int 1]) (rest := []) rfl rfl (Nat.le_of_ble_eq_true rfl) (Nat.le_of_ble_eq_true rfl) (by decide) ?_
      show RR 1 1 mX6_meets 0 [(0, .ref 0), (1, .int 1)] [] σ _
      refine RR.s2 (pc' := 1) (lv' := [(0, .ref 0), (1, .int 1)]) (st' := [.ref 0]) dX6_meets_0 rfl ?_
      refine RR.s2 (pc' := 2) (lv' := [(0, .ref 0), (1, .int 1)]) (st' := [.int 1, .ref 0]) dX6_meets_1 rfl ?_
      refine RR.putI dX6_meets_2 fp_X6_302 rfl rfl ?_
      refine RR.bp (v := (-10)) dX6_meets_5 (by decide) ?_
      refine RR.s2 (pc' := 8) (lv' := [(0, .ref 0), (1, .int 1)]) (st' := [.int 1, .int (-10)]) dX6_meets_7 rfl ?_
      refine RR.s2 (pc' := 9) (lv' := [(0, .ref 0), (1, .int 1)]) (st' := [.int ((-10) - 1)]) dX6_meets_8 rfl ?_
      refine RR.iret dX6_meets_9 rfl ?_
      show RR 1 4 mX6_read 24 [(0, .ref 0), (1, .int x1)] [.int ((-10) - 1)] (wI σ 0 41 1) _
      exact RR.iret dX6_read_24 rfl ⟨_, rfl, H⟩
  · have H := H.2 c
    show RR 1 4 mX6_read 4 [(0, .ref 0), (1, .int x1)] [.int 0] σ _
    refine RR.brF dX6_read_4 rfl (by decide) ?_
    refine RR.bp (v := (-2)) dX6_read_7 (by decide) ?_
    exact RR.iret dX6_read_9 rfl ⟨_, rfl, H⟩
set_option maxRecDepth 20000 in
theorem b_X6_read_27 {σ : r_St} {K : Int32 → r_St → Prop} {x1 : Int32} {x2 : Int32}  (H : ∃ j1 : Nat, x1 = nI j1 ∧ j1 < 4 ∧ ((σ.1 29 j1 ≤ (2 * x2) + 1 → K x2 σ) ∧ (¬ (σ.1 29 j1 ≤ (2 * x2) + 1) → (∃ j4 : Nat, (60 * x1) + (2 * x2) = nI j4 ∧ j4 < 240 ∧ (∃ j7 : Nat, ((60 * x1) + (2 * x2)) + 1 = nI j7 ∧ j7 < 240 ∧ (M_X6_edict σ (fun v11 s10 => (v11 ≤ 0 → K x2 s10) ∧ (¬ (v11 ≤ 0) → R_X6_read_27 s10 K x1 (x2 + 1))) (σ.1 30 j4) (σ.1 30 j7))))))) : R_X6_read_27 σ K x1 x2 := by
  show RR 1 4 mX6_read 27 [(0, .ref 0), (1, .int x1), (2, .int x2)] [] σ (rI K)
  refine RR.ic (v := 2) dX6_read_27 (by decide) ?_
  refine RR.s2 (pc' := 29) (lv' := [(0, .ref 0), (1, .int x1), (2, .int x2)]) (st' := [.int x2, .int 2]) dX6_read_28 rfl ?_
  refine RR.s2 (pc' := 30) (lv' := [(0, .ref 0), (1, .int x1), (2, .int x2)]) (st' := [.int (2 * x2)]) dX6_read_29 rfl ?_
  refine RR.ic (v := 1) dX6_read_30 (by decide) ?_
  refine RR.s2 (pc' := 32) (lv' := [(0, .ref 0), (1, .int x1), (2, .int x2)]) (st' := [.int ((2 * x2) + 1)]) dX6_read_31 rfl ?_
  refine RR.s2 (pc' := 33) (lv' := [(0, .ref 0), (1, .int x1), (2, .int x2)]) (st' := [.ref 0, .int ((2 * x2) + 1)]) dX6_read_32 rfl ?_
  refine RR.getR dX6_read_33 fl_X6_95 rfl rfl ?_
  refine RR.s2 (pc' := 37) (lv' := [(0, .ref 0), (1, .int x1), (2, .int x2)]) (st' := [.int x1, .ref 29, .int ((2 * x2) + 1)]) dX6_read_36 rfl ?_
  obtain ⟨j1, e2, b3, H⟩ := H
  refine RR.iald dX6_read_37 rfl e2 b3 ?_
  refine RR.br dX6_read_38 rfl (fun c => ?_) (fun c => ?_)
  · have H := H.1 c
    refine RR.s2 (pc' := 83) (lv' := [(0, .ref 0), (1, .int x1), (2, .int x2)]) (st' := [.int x2]) dX6_read_82 rfl ?_
    exact RR.iret dX6_read_83 rfl ⟨_, rfl, H⟩
  · have H := H.2 c
    refine RR.s2 (pc' := 42) (lv' := [(0, .ref 0), (1, .int x1), (2, .int x2)]) (st' := [.ref 0]) dX6_read_41 rfl ?_
    refine RR.s2 (pc' := 43) (lv' := [(0, .ref 0), (1, .int x1), (2, .int x2)]) (st' := [.ref 0, .ref 0]) dX6_read_42 rfl ?_
    refine RR.getR dX6_read_43 fl_X6_98 rfl rfl ?_
    refine RR.bp (v := 60) dX6_read_46 (by decide) ?_
    refine RR.s2 (pc' := 49) (lv' := [(0, .ref 0), (1, .int x1), (2, .int x2)]) (st' := [.int x1, .int 60, .ref 30, .ref 0]) dX6_read_48 rfl ?_
    refine RR.s2 (pc' := 50) (lv' := [(0, .ref 0), (1, .int x1), (2, .int x2)]) (st' := [.int (60 * x1), .ref 30, .ref 0]) dX6_read_49 rfl ?_
    refine RR.ic (v := 2) dX6_read_50 (by decide) ?_
    refine RR.s2 (pc' := 52) (lv' := [(0, .ref 0), (1, .int x1), (2, .int x2)]) (st' := [.int x2, .int 2, .int (60 * x1), .ref 30, .ref 0]) dX6_read_51 rfl ?_
    refine RR.s2 (pc' := 53) (lv' := [(0, .ref 0), (1, .int x1), (2, .int x2)]) (st' := [.int (2 * x2), .int (60 * x1), .ref 30, .ref 0]) dX6_read_52 rfl ?_
    refine RR.s2 (pc' := 54) (lv' := [(0, .ref 0), (1, .int x1), (2, .int x2)]) (st' := [.int ((60 * x1) + (2 * x2)), .ref 30, .ref 0]) dX6_read_53 rfl ?_
    obtain ⟨j4, e5, b6, H⟩ := H
    refine RR.iald dX6_read_54 rfl e5 b6 ?_
    refine RR.s2 (pc' := 56) (lv' := [(0, .ref 0), (1, .int x1), (2, .int x2)]) (st' := [.ref 0, .int (σ.1 30 j4), .ref 0]) dX6_read_55 rfl ?_
    refine RR.getR dX6_read_56 fl_X6_98 rfl rfl ?_
    refine RR.bp (v := 60) dX6_read_59 (by decide) ?_
    refine RR.s2 (pc' := 62) (lv' := [(0, .ref 0), (1, .int x1), (2, .int x2)]) (st' := [.int x1, .int 60, .ref 30, .int (σ.1 30 j4), .ref 0]) dX6_read_61 rfl ?_
    refine RR.s2 (pc' := 63) (lv' := [(0, .ref 0), (1, .int x1), (2, .int x2)]) (st' := [.int (60 * x1), .ref 30, .int (σ.1 30 j4), .ref 0]) dX6_read_62 rfl ?_
    refine RR.ic (v := 2) dX6_read_63 (by decide) ?_
    refine RR.s2 (pc' := 65) (lv' := [(0, .ref 0), (1, .int x1), (2, .int x2)]) (st' := [.int x2, .int 2, .int (60 * x1), .ref 30, .int (σ.1 30 j4), .ref 0]) dX6_read_64 rfl ?_
    refine RR.s2 (pc' := 66) (lv' := [(0, .ref 0), (1, .int x1), (2, .int x2)]) (st' := [.int (2 * x2), .int (60 * x1), .ref 30, .int (σ.1 30 j4), .ref 0]) dX6_read_65 rfl ?_
    refine RR.s2 (pc' := 67) (lv' := [(0, .ref 0), (1, .int x1), (2, .int x2)]) (st' := [.int ((60 * x1) + (2 * x2)), .ref 30, .int (σ.1 30 j4), .ref 0]) dX6_read_66 rfl ?_
    refine RR.ic (v := 1) dX6_read_67 (by decide) ?_
    refine RR.s2 (pc' := 69) (lv' := [(0, .ref 0), (1, .int x1), (2, .int x2)]) (st' := [.int (((60 * x1) + (2 * x2)) + 1), .ref 30, .int (σ.1 30 j4), .ref 0]) dX6_read_68 rfl ?_
    obtain ⟨j7, e8, b9, H⟩ := H
    refine RR.iald dX6_read_69 rfl e8 b9 ?_
    refine RR.cV dX6_read_70 ml_X6_164 rfl rfl (as := [.int (σ.1 30 j4), .int (σ.1 30 j7)]) (rest := []) rfl rfl (Nat.le_of_ble_eq_true rfl) (Nat.le_of_ble_eq_true rfl) (by decide) (RR.toI H (fun v11 s10 H => ?_))
    show RR 1 4 mX6_read 73 [(0, .ref 0), (1, .int x1), (2, .int x2)] [.int v11] s10 _
    refine RR.br dX6_read_73 rfl (fun c => ?_) (fun c => ?_)
    · have H := H.1 c
      refine RR.s2 (pc' := 83) (lv' := [(0, .ref 0), (1, .int x1), (2, .int x2)]) (st' := [.int x2]) dX6_read_82 rfl ?_
      exact RR.iret dX6_read_83 rfl ⟨_, rfl, H⟩
    · have H := H.2 c
      refine RR.inc (c := 1) (lv' := [(0, .ref 0), (1, .int x1), (2, .int (x2 + 1))]) dX6_read_76 rfl (by decide) (by decide) rfl ?_
      refine RR.s2 (pc' := 27) (lv' := [(0, .ref 0), (1, .int x1), (2, .int (x2 + 1))]) (st' := []) dX6_read_79 rfl ?_
      exact RR.cut [0, 1, 2] rfl H
set_option maxRecDepth 20000 in
theorem b_X6_isSick {σ : r_St} {K : Int32 → r_St → Prop} {x1 : Int32} {x2 : Int32}  (H : R_X6_isSick_5 σ K x1 x2 0 0) : M_X6_isSick σ K x1 x2 := by
  show RR 1 1 mX6_isSick 0 [(0, .ref 0), (1, .int x1), (2, .int x2)] [] σ (rI K)
  refine RR.ic (v := 0) dX6_isSick_0 (by decide) ?_
  refine RR.s2 (pc' := 2) (lv' := [(0, .ref 0), (1, .int x1), (2, .int x2), (3, .int 0)]) (st' := []) dX6_isSick_1 rfl ?_
  refine RR.ic (v := 0) dX6_isSick_2 (by decide) ?_
  refine RR.s2 (pc' := 5) (lv' := [(0, .ref 0), (1, .int x1), (2, .int x2), (3, .int 0), (4, .int 0)]) (st' := []) dX6_isSick_3 rfl ?_
  exact RR.cut [0, 1, 2, 3, 4] rfl H
set_option maxRecDepth 20000 in
theorem b_X6_isSick_5 {σ : r_St} {K : Int32 → r_St → Prop} {x1 : Int32} {x2 : Int32} {x3 : Int32} {x4 : Int32}  (H : (σ.1 3 0 ≤ x4 → ((x3 = 0 ∨ x3 = 1) ∧ K x3 σ)) ∧ (¬ (σ.1 3 0 ≤ x4) → ((¬ x3 = 0 → R_X6_isSick_5 σ K x1 x2 1 (x4 + 1)) ∧ (x3 = 0 → (∃ j1 : Nat, x4 = nI j1 ∧ j1 < 8 ∧ ((¬ σ.1 4 j1 = x1 → R_X6_isSick_5 σ K x1 x2 0 (x4 + 1)) ∧ (σ.1 4 j1 = x1 → (∃ j4 : Nat, x4 = nI j4 ∧ j4 < 8 ∧ ((¬ σ.1 5 j4 = x2 → R_X6_isSick_5 σ K x1 x2 0 (x4 + 1)) ∧ (σ.1 5 j4 = x2 → R_X6_isSick_5 σ K x1 x2 1 (x4 + 1))))))))))) : R_X6_isSick_5 σ K x1 x2 x3 x4 := by
  show RR 1 1 mX6_isSick 5 [(0, .ref 0), (1, .int x1), (2, .int x2), (3, .int x3), (4, .int x4)] [] σ (rI K)
  refine RR.s2 (pc' := 7) (lv' := [(0, .ref 0), (1, .int x1), (2, .int x2), (3, .int x3), (4, .int x4)]) (st' := [.int x4]) dX6_isSick_5 rfl ?_
  refine RR.s2 (pc' := 8) (lv' := [(0, .ref 0), (1, .int x1), (2, .int x2), (3, .int x3), (4, .int x4)]) (st' := [.ref 0, .int x4]) dX6_isSick_7 rfl ?_
  refine RR.getR dX6_isSick_8 fl_X6_16 rfl rfl ?_
  refine RR.ic (v := 0) dX6_isSick_11 (by decide) ?_
  refine RR.iald (j := 0) dX6_isSick_12 rfl rfl (by decide) ?_
  refine RR.br dX6_isSick_13 rfl (fun c => ?_) (fun c => ?_)
  · have H := H.1 c
    refine RR.s2 (pc' := 55) (lv' := [(0, .ref 0), (1, .int x1), (2, .int x2), (3, .int x3), (4, .int x4)]) (st' := [.int x3]) dX6_isSick_54 rfl ?_
    exact RR.zret dX6_isSick_55 rfl H.1 ⟨_, rfl, H.2⟩
  · have H := H.2 c
    refine RR.s2 (pc' := 17) (lv' := [(0, .ref 0), (1, .int x1), (2, .int x2), (3, .int x3), (4, .int x4)]) (st' := [.int x3]) dX6_isSick_16 rfl ?_
    refine RR.br dX6_isSick_17 rfl (fun c => ?_) (fun c => ?_)
    · have H := H.1 c
      refine RR.ic (v := 1) dX6_isSick_42 (by decide) ?_
      refine RR.s2 (pc' := 47) (lv' := [(0, .ref 0), (1, .int x1), (2, .int x2), (3, .int x3), (4, .int x4)]) (st' := [.int 1]) dX6_isSick_43 rfl ?_
      refine RR.s2 (pc' := 48) (lv' := [(0, .ref 0), (1, .int x1), (2, .int x2), (3, .int 1), (4, .int x4)]) (st' := []) dX6_isSick_47 rfl ?_
      refine RR.inc (c := 1) (lv' := [(0, .ref 0), (1, .int x1), (2, .int x2), (3, .int 1), (4, .int (x4 + 1))]) dX6_isSick_48 rfl (by decide) (by decide) rfl ?_
      refine RR.s2 (pc' := 5) (lv' := [(0, .ref 0), (1, .int x1), (2, .int x2), (3, .int 1), (4, .int (x4 + 1))]) (st' := []) dX6_isSick_51 rfl ?_
      exact RR.cut [0, 1, 2, 3, 4] rfl H
    · have H := H.2 (Classical.not_not.mp c)
      refine RR.s2 (pc' := 21) (lv' := [(0, .ref 0), (1, .int x1), (2, .int x2), (3, .int x3), (4, .int x4)]) (st' := [.ref 0]) dX6_isSick_20 rfl ?_
      refine RR.getR dX6_isSick_21 fl_X6_19 rfl rfl ?_
      refine RR.s2 (pc' := 26) (lv' := [(0, .ref 0), (1, .int x1), (2, .int x2), (3, .int x3), (4, .int x4)]) (st' := [.int x4, .ref 4]) dX6_isSick_24 rfl ?_
      obtain ⟨j1, e2, b3, H⟩ := H
      refine RR.iald dX6_isSick_26 rfl e2 b3 ?_
      refine RR.s2 (pc' := 28) (lv' := [(0, .ref 0), (1, .int x1), (2, .int x2), (3, .int x3), (4, .int x4)]) (st' := [.int x1, .int (σ.1 4 j1)]) dX6_isSick_27 rfl ?_
      refine RR.br dX6_isSick_28 rfl (fun c => ?_) (fun c => ?_)
      · have H := H.1 c
        refine RR.ic (v := 0) dX6_isSick_46 (by decide) ?_
        refine RR.s2 (pc' := 48) (lv' := [(0, .ref 0), (1, .int x1), (2, .int x2), (3, .int 0), (4, .int x4)]) (st' := []) dX6_isSick_47 rfl ?_
        refine RR.inc (c := 1) (lv' := [(0, .ref 0), (1, .int x1), (2, .int x2), (3, .int 0), (4, .int (x4 + 1))]) dX6_isSick_48 rfl (by decide) (by decide) rfl ?_
        refine RR.s2 (pc' := 5) (lv' := [(0, .ref 0), (1, .int x1), (2, .int x2), (3, .int 0), (4, .int (x4 + 1))]) (st' := []) dX6_isSick_51 rfl ?_
        exact RR.cut [0, 1, 2, 3, 4] rfl H
      · have H := H.2 (Classical.not_not.mp c)
        refine RR.s2 (pc' := 32) (lv' := [(0, .ref 0), (1, .int x1), (2, .int x2), (3, .int x3), (4, .int x4)]) (st' := [.ref 0]) dX6_isSick_31 rfl ?_
        refine RR.getR dX6_isSick_32 fl_X6_22 rfl rfl ?_
        refine RR.s2 (pc' := 37) (lv' := [(0, .ref 0), (1, .int x1), (2, .int x2), (3, .int x3), (4, .int x4)]) (st' := [.int x4, .ref 5]) dX6_isSick_35 rfl ?_
        obtain ⟨j4, e5, b6, H⟩ := H
        refine RR.iald dX6_isSick_37 rfl e5 b6 ?_
        refine RR.s2 (pc' := 39) (lv' := [(0, .ref 0), (1, .int x1), (2, .int x2), (3, .int x3), (4, .int x4)]) (st' := [.int x2, .int (σ.1 5 j4)]) dX6_isSick_38 rfl ?_
        refine RR.br dX6_isSick_39 rfl (fun c => ?_) (fun c => ?_)
        · have H := H.1 c
          refine RR.ic (v := 0) dX6_isSick_46 (by decide) ?_
          refine RR.s2 (pc' := 48) (lv' := [(0, .ref 0), (1, .int x1), (2, .int x2), (3, .int 0), (4, .int x4)]) (st' := []) dX6_isSick_47 rfl ?_
          refine RR.inc (c := 1) (lv' := [(0, .ref 0), (1, .int x1), (2, .int x2), (3, .int 0), (4, .int (x4 + 1))]) dX6_isSick_48 rfl (by decide) (by decide) rfl ?_
          refine RR.s2 (pc' := 5) (lv' := [(0, .ref 0), (1, .int x1), (2, .int x2), (3, .int 0), (4, .int (x4 + 1))]) (st' := []) dX6_isSick_51 rfl ?_
          exact RR.cut [0, 1, 2, 3, 4] rfl H
        · have H := H.2 (Classical.not_not.mp c)
          refine RR.ic (v := 1) dX6_isSick_42 (by decide) ?_
          refine RR.s2 (pc' := 47) (lv' := [(0, .ref 0), (1, .int x1), (2, .int x2), (3, .int x3), (4, .int x4)]) (st' := [.int 1]) dX6_isSick_43 rfl ?_
          refine RR.s2 (pc' := 48) (lv' := [(0, .ref 0), (1, .int x1), (2, .int x2), (3, .int 1), (4, .int x4)]) (st' := []) dX6_isSick_47 rfl ?_
          refine RR.inc (c := 1) (lv' := [(0, .ref 0), (1, .int x1), (2, .int x2), (3, .int 1), (4, .int (x4 + 1))]) dX6_isSick_48 rfl (by decide) (by decide) rfl ?_
          refine RR.s2 (pc' := 5) (lv' := [(0, .ref 0), (1, .int x1), (2, .int x2), (3, .int 1), (4, .int (x4 + 1))]) (st' := []) dX6_isSick_51 rfl ?_
          exact RR.cut [0, 1, 2, 3, 4] rfl H
set_option maxRecDepth 20000 in
theorem b_X6_isLeap {σ : r_St} {K : Int32 → r_St → Prop} {x1 : Int32}  (H : R_X6_isLeap_4 σ K x1 0 0) : M_X6_isLeap σ K x1 := by
  show RR 1 1 mX6_isLeap 0 [(0, .ref 0), (1, .int x1)] [] σ (rI K)
  refine RR.ic (v := 0) dX6_isLeap_0 (by decide) ?_
  refine RR.s2 (pc' := 2) (lv' := [(0, .ref 0), (1, .int x1), (2, .int 0)]) (st' := []) dX6_isLeap_1 rfl ?_
  refine RR.ic (v := 0) dX6_isLeap_2 (by decide) ?_
  refine RR.s2 (pc' := 4) (lv' := [(0, .ref 0), (1, .int x1), (2, .int 0), (3, .int 0)]) (st' := []) dX6_isLeap_3 rfl ?_
  exact RR.cut [0, 1, 2, 3] rfl H
set_option maxRecDepth 20000 in
theorem b_X6_isLeap_4 {σ : r_St} {K : Int32 → r_St → Prop} {x1 : Int32} {x2 : Int32} {x3 : Int32}  (H : (σ.1 3 1 ≤ x3 → ((x2 = 0 ∨ x2 = 1) ∧ K x2 σ)) ∧ (¬ (σ.1 3 1 ≤ x3) → ((¬ x2 = 0 → R_X6_isLeap_4 σ K x1 1 (x3 + 1)) ∧ (x2 = 0 → (∃ j1 : Nat, x3 = nI j1 ∧ j1 < 4 ∧ ((¬ σ.1 6 j1 = x1 → R_X6_isLeap_4 σ K x1 0 (x3 + 1)) ∧ (σ.1 6 j1 = x1 → R_X6_isLeap_4 σ K x1 1 (x3 + 1)))))))) : R_X6_isLeap_4 σ K x1 x2 x3 := by
  show RR 1 1 mX6_isLeap 4 [(0, .ref 0), (1, .int x1), (2, .int x2), (3, .int x3)] [] σ (rI K)
  refine RR.s2 (pc' := 5) (lv' := [(0, .ref 0), (1, .int x1), (2, .int x2), (3, .int x3)]) (st' := [.int x3]) dX6_isLeap_4 rfl ?_
  refine RR.s2 (pc' := 6) (lv' := [(0, .ref 0), (1, .int x1), (2, .int x2), (3, .int x3)]) (st' := [.ref 0, .int x3]) dX6_isLeap_5 rfl ?_
  refine RR.getR dX6_isLeap_6 fl_X6_16 rfl rfl ?_
  refine RR.ic (v := 1) dX6_isLeap_9 (by decide) ?_
  refine RR.iald (j := 1) dX6_isLeap_10 rfl rfl (by decide) ?_
  refine RR.br dX6_isLeap_11 rfl (fun c => ?_) (fun c => ?_)
  · have H := H.1 c
    refine RR.s2 (pc' := 41) (lv' := [(0, .ref 0), (1, .int x1), (2, .int x2), (3, .int x3)]) (st' := [.int x2]) dX6_isLeap_40 rfl ?_
    exact RR.zret dX6_isLeap_41 rfl H.1 ⟨_, rfl, H.2⟩
  · have H := H.2 c
    refine RR.s2 (pc' := 15) (lv' := [(0, .ref 0), (1, .int x1), (2, .int x2), (3, .int x3)]) (st' := [.int x2]) dX6_isLeap_14 rfl ?_
    refine RR.br dX6_isLeap_15 rfl (fun c => ?_) (fun c => ?_)
    · have H := H.1 c
      refine RR.ic (v := 1) dX6_isLeap_28 (by decide) ?_
      refine RR.s2 (pc' := 33) (lv' := [(0, .ref 0), (1, .int x1), (2, .int x2), (3, .int x3)]) (st' := [.int 1]) dX6_isLeap_29 rfl ?_
      refine RR.s2 (pc' := 34) (lv' := [(0, .ref 0), (1, .int x1), (2, .int 1), (3, .int x3)]) (st' := []) dX6_isLeap_33 rfl ?_
      refine RR.inc (c := 1) (lv' := [(0, .ref 0), (1, .int x1), (2, .int 1), (3, .int (x3 + 1))]) dX6_isLeap_34 rfl (by decide) (by decide) rfl ?_
      refine RR.s2 (pc' := 4) (lv' := [(0, .ref 0), (1, .int x1), (2, .int 1), (3, .int (x3 + 1))]) (st' := []) dX6_isLeap_37 rfl ?_
      exact RR.cut [0, 1, 2, 3] rfl H
    · have H := H.2 (Classical.not_not.mp c)
      refine RR.s2 (pc' := 19) (lv' := [(0, .ref 0), (1, .int x1), (2, .int x2), (3, .int x3)]) (st' := [.ref 0]) dX6_isLeap_18 rfl ?_
      refine RR.getR dX6_isLeap_19 fl_X6_25 rfl rfl ?_
      refine RR.s2 (pc' := 23) (lv' := [(0, .ref 0), (1, .int x1), (2, .int x2), (3, .int x3)]) (st' := [.int x3, .ref 6]) dX6_isLeap_22 rfl ?_
      obtain ⟨j1, e2, b3, H⟩ := H
      refine RR.iald dX6_isLeap_23 rfl e2 b3 ?_
      refine RR.s2 (pc' := 25) (lv' := [(0, .ref 0), (1, .int x1), (2, .int x2), (3, .int x3)]) (st' := [.int x1, .int (σ.1 6 j1)]) dX6_isLeap_24 rfl ?_
      refine RR.br dX6_isLeap_25 rfl (fun c => ?_) (fun c => ?_)
      · have H := H.1 c
        refine RR.ic (v := 0) dX6_isLeap_32 (by decide) ?_
        refine RR.s2 (pc' := 34) (lv' := [(0, .ref 0), (1, .int x1), (2, .int 0), (3, .int x3)]) (st' := []) dX6_isLeap_33 rfl ?_
        refine RR.inc (c := 1) (lv' := [(0, .ref 0), (1, .int x1), (2, .int 0), (3, .int (x3 + 1))]) dX6_isLeap_34 rfl (by decide) (by decide) rfl ?_
        refine RR.s2 (pc' := 4) (lv' := [(0, .ref 0), (1, .int x1), (2, .int 0), (3, .int (x3 + 1))]) (st' := []) dX6_isLeap_37 rfl ?_
        exact RR.cut [0, 1, 2, 3] rfl H
      · have H := H.2 (Classical.not_not.mp c)
        refine RR.ic (v := 1) dX6_isLeap_28 (by decide) ?_
        refine RR.s2 (pc' := 33) (lv' := [(0, .ref 0), (1, .int x1), (2, .int x2), (3, .int x3)]) (st' := [.int 1]) dX6_isLeap_29 rfl ?_
        refine RR.s2 (pc' := 34) (lv' := [(0, .ref 0), (1, .int x1), (2, .int 1), (3, .int x3)]) (st' := []) dX6_isLeap_33 rfl ?_
        refine RR.inc (c := 1) (lv' := [(0, .ref 0), (1, .int x1), (2, .int 1), (3, .int (x3 + 1))]) dX6_isLeap_34 rfl (by decide) (by decide) rfl ?_
        refine RR.s2 (pc' := 4) (lv' := [(0, .ref 0), (1, .int x1), (2, .int 1), (3, .int (x3 + 1))]) (st' := []) dX6_isLeap_37 rfl ?_
        exact RR.cut [0, 1, 2, 3] rfl H
set_option maxRecDepth 20000 in
theorem b_X6_rulesOf {σ : r_St} {K : Int32 → r_St → Prop} {x1 : Int32}  (H : M_X6_isLeap σ (fun v2 s1 => (v2 = 0 → ((¬ rm x1 7 = 6 → (M_X6_isSick s1 (fun v4 s3 => (¬ v4 = 0 → (M_X6_isSick s3 (fun v6 s5 => (¬ v6 = 0 → K (-1) s5) ∧ (v6 = 0 → K (1 - (rm x1 2)) s5)) (1 - (rm x1 2)) x1)) ∧ (v4 = 0 → K (rm x1 2) s3)) (rm x1 2) x1)) ∧ (rm x1 7 = 6 → K (-1) s1))) ∧ (¬ (v2 = 0) → K 2 s1)) x1) : M_X6_rulesOf σ K x1 := by
  show RR 1 2 mX6_rulesOf 0 [(0, .ref 0), (1, .int x1)] [] σ (rI K)
  refine RR.s2 (pc' := 1) (lv' := [(0, .ref 0), (1, .int x1)]) (st' := [.int x1]) dX6_rulesOf_0 rfl ?_
  refine RR.ic (v := 2) dX6_rulesOf_1 (by decide) ?_
  refine RR.irem dX6_rulesOf_2 (by decide) ?_
  show RR 1 2 mX6_rulesOf 3 [(0, .ref 0), (1, .int x1)] [.int (rm x1 2)] σ _
  refine RR.s2 (pc' := 4) (lv' := [(0, .ref 0), (1, .int x1), (2, .int (rm x1 2))]) (st' := []) dX6_rulesOf_3 rfl ?_
  refine RR.s2 (pc' := 5) (lv' := [(0, .ref 0), (1, .int x1), (2, .int (rm x1 2))]) (st' := [.ref 0]) dX6_rulesOf_4 rfl ?_
  refine RR.s2 (pc' := 6) (lv' := [(0, .ref 0), (1, .int x1), (2, .int (rm x1 2))]) (st' := [.int x1, .ref 0]) dX6_rulesOf_5 rfl ?_
  refine RR.cV dX6_rulesOf_6 ml_X6_167 rfl rfl (as := [.int x1]) (rest := []) rfl rfl (Nat.le_of_ble_eq_true rfl) (Nat.le_of_ble_eq_true rfl) (by decide) (RR.toI H (fun v2 s1 H => ?_))
  show RR 1 2 mX6_rulesOf 9 [(0, .ref 0), (1, .int x1), (2, .int (rm x1 2))] [.int v2] s1 _
  refine RR.br dX6_rulesOf_9 rfl (fun c => ?_) (fun c => ?_)
  · have H := H.1 c
    refine RR.s2 (pc' := 15) (lv' := [(0, .ref 0), (1, .int x1), (2, .int (rm x1 2))]) (st' := [.int x1]) dX6_rulesOf_14 rfl ?_
    refine RR.bp (v := 7) dX6_rulesOf_15 (by decide) ?_
    refine RR.irem dX6_rulesOf_17 (by decide) ?_
    show RR 1 2 mX6_rulesOf 18 [(0, .ref 0), (1, .int x1), (2, .int (rm x1 2))] [.int (rm x1 7)] s1 _
    refine RR.bp (v := 6) dX6_rulesOf_18 (by decide) ?_
    refine RR.br dX6_rulesOf_20 rfl (fun c => ?_) (fun c => ?_)
    · have H := H.1 c
      refine RR.s2 (pc' := 26) (lv' := [(0, .ref 0), (1, .int x1), (2, .int (rm x1 2))]) (st' := [.ref 0]) dX6_rulesOf_25 rfl ?_
      refine RR.s2 (pc' := 27) (lv' := [(0, .ref 0), (1, .int x1), (2, .int (rm x1 2))]) (st' := [.int (rm x1 2), .ref 0]) dX6_rulesOf_26 rfl ?_
      refine RR.s2 (pc' := 28) (lv' := [(0, .ref 0), (1, .int x1), (2, .int (rm x1 2))]) (st' := [.int x1, .int (rm x1 2), .ref 0]) dX6_rulesOf_27 rfl ?_
      refine RR.cV dX6_rulesOf_28 ml_X6_170 rfl rfl (as := [.int (rm x1 2), .int x1]) (rest := []) rfl rfl (Nat.le_of_ble_eq_true rfl) (Nat.le_of_ble_eq_true rfl) (by decide) (RR.toI H (fun v4 s3 H => ?_))
      show RR 1 2 mX6_rulesOf 31 [(0, .ref 0), (1, .int x1), (2, .int (rm x1 2))] [.int v4] s3 _
      refine RR.br dX6_rulesOf_31 rfl (fun c => ?_) (fun c => ?_)
      · have H := H.1 c
        refine RR.s2 (pc' := 39) (lv' := [(0, .ref 0), (1, .int x1), (2, .int (rm x1 2))]) (st' := [.ref 0]) dX6_rulesOf_38 rfl ?_
        refine RR.ic (v := 1) dX6_rulesOf_39 (by decide) ?_
        refine RR.s2 (pc' := 41) (lv' := [(0, .ref 0), (1, .int x1), (2, .int (rm x1 2))]) (st' := [.int (rm x1 2), .int 1, .ref 0]) dX6_rulesOf_40 rfl ?_
        refine RR.s2 (pc' := 42) (lv' := [(0, .ref 0), (1, .int x1), (2, .int (rm x1 2))]) (st' := [.int (1 - (rm x1 2)), .ref 0]) dX6_rulesOf_41 rfl ?_
        refine RR.s2 (pc' := 43) (lv' := [(0, .ref 0), (1, .int x1), (2, .int (rm x1 2))]) (st' := [.int x1, .int (1 - (rm x1 2)), .ref 0]) dX6_rulesOf_42 rfl ?_
        refine RR.cV dX6_rulesOf_43 ml_X6_170 rfl rfl (as := [.int (1 - (rm x1 2)), .int x1]) (rest := []) rfl rfl (Nat.le_of_ble_eq_true rfl) (Nat.le_of_ble_eq_true rfl) (by decide) (RR.toI H (fun v6 s5 H => ?_))
        show RR 1 2 mX6_rulesOf 46 [(0, .ref 0), (1, .int x1), (2, .int (rm x1 2))] [.int v6] s5 _
        refine RR.br dX6_rulesOf_46 rfl (fun c => ?_) (fun c => ?_)
        · have H := H.1 c
          refine RR.ic (v := (-1)) dX6_rulesOf_55 (by decide) ?_
          exact RR.iret dX6_rulesOf_56 rfl ⟨_, rfl, H⟩
        · have H := H.2 (Classical.not_not.mp c)
          refine RR.ic (v := 1) dX6_rulesOf_49 (by decide) ?_
          refine RR.s2 (pc' := 51) (lv' := [(0, .ref 0), (1, .int x1), (2, .int (rm x1 2))]) (st' := [.int (rm x1 2), .int 1]) dX6_rulesOf_50 rfl ?_
          refine RR.s2 (pc' := 52) (lv' := [(0, .ref 0), (1, .int x1), (2, .int (rm x1 2))]) (st' := [.int (1 - (rm x1 2))]) dX6_rulesOf_51 rfl ?_
          refine RR.s2 (pc' := 56) (lv' := [(0, .ref 0), (1, .int x1), (2, .int (rm x1 2))]) (st' := [.int (1 - (rm x1 2))]) dX6_rulesOf_52 rfl ?_
          exact RR.iret dX6_rulesOf_56 rfl ⟨_, rfl, H⟩
      · have H := H.2 (Classical.not_not.mp c)
        refine RR.s2 (pc' := 35) (lv' := [(0, .ref 0), (1, .int x1), (2, .int (rm x1 2))]) (st' := [.int (rm x1 2)]) dX6_rulesOf_34 rfl ?_
        refine RR.s2 (pc' := 56) (lv' := [(0, .ref 0), (1, .int x1), (2, .int (rm x1 2))]) (st' := [.int (rm x1 2)]) dX6_rulesOf_35 rfl ?_
        exact RR.iret dX6_rulesOf_56 rfl ⟨_, rfl, H⟩
    · have H := H.2 (Classical.not_not.mp c)
      refine RR.ic (v := (-1)) dX6_rulesOf_23 (by decide) ?_
      exact RR.iret dX6_rulesOf_24 rfl ⟨_, rfl, H⟩
  · have H := H.2 c
    refine RR.ic (v := 2) dX6_rulesOf_12 (by decide) ?_
    exact RR.iret dX6_rulesOf_13 rfl ⟨_, rfl, H⟩
set_option maxRecDepth 20000 in
theorem b_X6_rules {σ : r_St} {K : Int32 → r_St → Prop} {x1 : Int32}  (H : (IN x1 0 39 → M_X6_rulesOf σ (fun v2 s1 => K v2 s1) x1) ∧ (¬ IN x1 0 39 → K (-2) σ)) : M_X6_rules σ K x1 := by
  show RR 1 3 mX6_rules 0 [(0, .ref 0), (1, .int x1)] [] σ (rI K)
  refine RR.s2 (pc' := 1) (lv' := [(0, .ref 0), (1, .int x1)]) (st' := [.int x1]) dX6_rules_0 rfl ?_
  refine RR.cS dX6_rules_1 ml_X6_151 (as := [.int x1]) (rest := []) rfl rfl (Nat.le_of_ble_eq_true rfl) (Nat.le_of_ble_eq_true rfl) (by decide) (kb_X6_isDay (fun c => ?_) (fun c => ?_))
  · have H := H.1 c
    show RR 1 3 mX6_rules 4 [(0, .ref 0), (1, .int x1)] [.int 1] σ _
    refine RR.brF dX6_rules_4 rfl (by decide) ?_
    refine RR.s2 (pc' := 8) (lv' := [(0, .ref 0), (1, .int x1)]) (st' := [.ref 0]) dX6_rules_7 rfl ?_
    refine RR.s2 (pc' := 9) (lv' := [(0, .ref 0), (1, .int x1)]) (st' := [.int x1, .ref 0]) dX6_rules_8 rfl ?_
    refine RR.cV dX6_rules_9 ml_X6_173 rfl rfl (as := [.int x1]) (rest := []) rfl rfl (Nat.le_of_ble_eq_true rfl) (Nat.le_of_ble_eq_true rfl) (by decide) (RR.toI H (fun v2 s1 H => ?_))
    show RR 1 3 mX6_rules 12 [(0, .ref 0), (1, .int x1)] [.int v2] s1 _
    refine RR.s2 (pc' := 17) (lv' := [(0, .ref 0), (1, .int x1)]) (st' := [.int v2]) dX6_rules_12 rfl ?_
    exact RR.iret dX6_rules_17 rfl ⟨_, rfl, H⟩
  · have H := H.2 c
    show RR 1 3 mX6_rules 4 [(0, .ref 0), (1, .int x1)] [.int 0] σ _
    refine RR.brT dX6_rules_4 rfl (by decide) ?_
    refine RR.bp (v := (-2)) dX6_rules_15 (by decide) ?_
    exact RR.iret dX6_rules_17 rfl ⟨_, rfl, H⟩
set_option maxRecDepth 20000 in
theorem b_X6_lays {σ : r_St} {K : r_St → Prop}  (H : M_X6_youngerFirst σ (fun v2 s1 => R_X6_lays_12 s1 K (σ.1 0 4) v2 0)) : M_X6_lays σ K := by
  show RR 1 3 mX6_lays 0 [(0, .ref 0)] [] σ (rV K)
  refine RR.s2 (pc' := 1) (lv' := [(0, .ref 0)]) (st' := [.ref 0]) dX6_lays_0 rfl ?_
  refine RR.getI dX6_lays_1 fl_X6_117 rfl rfl ?_
  refine RR.s2 (pc' := 5) (lv' := [(0, .ref 0), (1, .int (σ.1 0 4))]) (st' := []) dX6_lays_4 rfl ?_
  refine RR.s2 (pc' := 6) (lv' := [(0, .ref 0), (1, .int (σ.1 0 4))]) (st' := [.ref 0]) dX6_lays_5 rfl ?_
  refine RR.cV dX6_lays_6 ml_X6_134 rfl rfl (as := []) (rest := []) rfl rfl (Nat.le_of_ble_eq_true rfl) (Nat.le_of_ble_eq_true rfl) (by decide) (RR.toI H (fun v2 s1 H => ?_))
  show RR 1 3 mX6_lays 9 [(0, .ref 0), (1, .int (σ.1 0 4))] [.int v2] s1 _
  refine RR.s2 (pc' := 10) (lv' := [(0, .ref 0), (1, .int (σ.1 0 4)), (2, .int v2)]) (st' := []) dX6_lays_9 rfl ?_
  refine RR.ic (v := 0) dX6_lays_10 (by decide) ?_
  refine RR.s2 (pc' := 12) (lv' := [(0, .ref 0), (1, .int (σ.1 0 4)), (2, .int v2), (3, .int 0)]) (st' := []) dX6_lays_11 rfl ?_
  exact RR.cut [0, 1, 2, 3] rfl H
set_option maxRecDepth 20000 in
theorem b_X6_lays_12 {σ : r_St} {K : r_St → Prop} {x1 : Int32} {x2 : Int32} {x3 : Int32}  (H : (40 ≤ x3 → K σ) ∧ (¬ (40 ≤ x3) → (M_X6_rulesOf σ (fun v2 s1 => ∃ j3 : Nat, x3 = nI j3 ∧ j3 < 40 ∧ (∃ j6 : Nat, x3 = nI j6 ∧ j6 < 80 ∧ (∃ j9 : Nat, 40 + x3 = nI j9 ∧ j9 < 80 ∧ ((v2 = 0 → R_X6_lays_75 (wI (wI (wI s1 14 j3 v2) 15 j6 x1) 15 j9 x2) K x1 x2 x3 v2 x1 ((sl 1 (s1.1 0 2)) - 1)) ∧ (¬ (v2 = 0) → ((¬ v2 = 2 → R_X6_lays_75 (wI (wI (wI s1 14 j3 v2) 15 j6 x1) 15 j9 x2) K x1 x2 x3 v2 ((sl 1 (s1.1 0 2)) - 1) ((sl 1 (s1.1 0 2)) - 1)) ∧ (v2 = 2 → R_X6_lays_75 (wI (wI (wI s1 14 j3 v2) 15 j6 x1) 15 j9 x2) K x1 x2 x3 v2 x1 ((sl 1 (s1.1 0 2)) - 1)))))))) x3))) : R_X6_lays_12 σ K x1 x2 x3 := by
  show RR 1 3 mX6_lays 12 [(0, .ref 0), (1, .int x1), (2, .int x2), (3, .int x3)] [] σ (rV K)
  refine RR.s2 (pc' := 13) (lv' := [(0, .ref 0), (1, .int x1), (2, .int x2), (3, .int x3)]) (st' := [.int x3]) dX6_lays_12 rfl ?_
  refine RR.bp (v := 40) dX6_lays_13 (by decide) ?_
  refine RR.br dX6_lays_15 rfl (fun c => ?_) (fun c => ?_)
  · have H := H.1 c
    exact RR.vret dX6_lays_289 rfl ⟨rfl, H⟩
  · have H := H.2 c
    refine RR.s2 (pc' := 19) (lv' := [(0, .ref 0), (1, .int x1), (2, .int x2), (3, .int x3)]) (st' := [.ref 0]) dX6_lays_18 rfl ?_
    refine RR.s2 (pc' := 20) (lv' := [(0, .ref 0), (1, .int x1), (2, .int x2), (3, .int x3)]) (st' := [.int x3, .ref 0]) dX6_lays_19 rfl ?_
    refine RR.cV dX6_lays_20 ml_X6_173 rfl rfl (as := [.int x3]) (rest := []) rfl rfl (Nat.le_of_ble_eq_true rfl) (Nat.le_of_ble_eq_true rfl) (by decide) (RR.toI H (fun v2 s1 H => ?_))
    show RR 1 3 mX6_lays 23 [(0, .ref 0), (1, .int x1), (2, .int x2), (3, .int x3)] [.int v2] s1 _
    refine RR.s2 (pc' := 25) (lv' := [(0, .ref 0), (1, .int x1), (2, .int x2), (3, .int x3), (4, .int v2)]) (st' := []) dX6_lays_23 rfl ?_
    refine RR.s2 (pc' := 26) (lv' := [(0, .ref 0), (1, .int x1), (2, .int x2), (3, .int x3), (4, .int v2)]) (st' := [.ref 0]) dX6_lays_25 rfl ?_
    refine RR.getR dX6_lays_26 fl_X6_49 rfl rfl ?_
    refine RR.s2 (pc' := 30) (lv' := [(0, .ref 0), (1, .int x1), (2, .int x2), (3, .int x3), (4, .int v2)]) (st' := [.int x3, .ref 14]) dX6_lays_29 rfl ?_
    refine RR.s2 (pc' := 32) (lv' := [(0, .ref 0), (1, .int x1), (2, .int x2), (3, .int x3), (4, .int v2)]) (st' := [.int v2, .int x3, .ref 14]) dX6_lays_30 rfl ?_
    obtain ⟨j3, e4, b5, H⟩ := H
    refine RR.iast dX6_lays_32 rfl e4 b5 ?_
    refine RR.s2 (pc' := 34) (lv' := [(0, .ref 0), (1, .int x1), (2, .int x2), (3, .int x3), (4, .int v2)]) (st' := [.ref 0]) dX6_lays_33 rfl ?_
    refine RR.getR dX6_lays_34 fl_X6_52 rfl rfl ?_
    refine RR.s2 (pc' := 38) (lv' := [(0, .ref 0), (1, .int x1), (2, .int x2), (3, .int x3), (4, .int v2)]) (st' := [.int x3, .ref 15]) dX6_lays_37 rfl ?_
    refine RR.s2 (pc' := 39) (lv' := [(0, .ref 0), (1, .int x1), (2, .int x2), (3, .int x3), (4, .int v2)]) (st' := [.int x1, .int x3, .ref 15]) dX6_lays_38 rfl ?_
    obtain ⟨j6, e7, b8, H⟩ := H
    refine RR.iast dX6_lays_39 rfl e7 b8 ?_
    refine RR.s2 (pc' := 41) (lv' := [(0, .ref 0), (1, .int x1), (2, .int x2), (3, .int x3), (4, .int v2)]) (st' := [.ref 0]) dX6_lays_40 rfl ?_
    refine RR.getR dX6_lays_41 fl_X6_52 rfl rfl ?_
    refine RR.bp (v := 40) dX6_lays_44 (by decide) ?_
    refine RR.s2 (pc' := 47) (lv' := [(0, .ref 0), (1, .int x1), (2, .int x2), (3, .int x3), (4, .int v2)]) (st' := [.int x3, .int 40, .ref 15]) dX6_lays_46 rfl ?_
    refine RR.s2 (pc' := 48) (lv' := [(0, .ref 0), (1, .int x1), (2, .int x2), (3, .int x3), (4, .int v2)]) (st' := [.int (40 + x3), .ref 15]) dX6_lays_47 rfl ?_
    refine RR.s2 (pc' := 49) (lv' := [(0, .ref 0), (1, .int x1), (2, .int x2), (3, .int x3), (4, .int v2)]) (st' := [.int x2, .int (40 + x3), .ref 15]) dX6_lays_48 rfl ?_
    obtain ⟨j9, e10, b11, H⟩ := H
    refine RR.iast dX6_lays_49 rfl e10 b11 ?_
    refine RR.s2 (pc' := 51) (lv' := [(0, .ref 0), (1, .int x1), (2, .int x2), (3, .int x3), (4, .int v2)]) (st' := [.ref 0]) dX6_lays_50 rfl ?_
    refine RR.cV (d' := 1) dX6_lays_51 ml_X6_182 rfl rfl (as := []) (rest := []) rfl rfl (Nat.le_of_ble_eq_true rfl) (Nat.le_of_ble_eq_true rfl) (by decide) ?_
    show RR 1 1 mX6_allDeeds 0 [(0, .ref 0)] [] (wI (wI (wI s1 14 j3 v2) 15 j6 x1) 15 j9 x2) _
    refine RR.ic (v := 1) dX6_allDeeds_0 (by decide) ?_
    refine RR.s2 (pc' := 2) (lv' := [(0, .ref 0)]) (st' := [.ref 0, .int 1]) dX6_allDeeds_1 rfl ?_
    refine RR.getI dX6_allDeeds_2 fl_X6_114 rfl rfl ?_
    show RR 1 1 mX6_allDeeds 5 [(0, .ref 0)] [.int (s1.1 0 2), .int 1] (wI (wI (wI s1 14 j3 v2) 15 j6 x1) 15 j9 x2) _
    refine RR.s2 (pc' := 6) (lv' := [(0, .ref 0)]) (st' := [.int (sl 1 (s1.1 0 2))]) dX6_allDeeds_5 rfl ?_
    refine RR.ic (v := 1) dX6_allDeeds_6 (by decide) ?_
    refine RR.s2 (pc' := 8) (lv' := [(0, .ref 0)]) (st' := [.int ((sl 1 (s1.1 0 2)) - 1)]) dX6_allDeeds_7 rfl ?_
    refine RR.iret dX6_allDeeds_8 rfl ?_
    show RR 1 3 mX6_lays 54 [(0, .ref 0), (1, .int x1), (2, .int x2), (3, .int x3), (4, .int v2)] [.int ((sl 1 (s1.1 0 2)) - 1)] (wI (wI (wI s1 14 j3 v2) 15 j6 x1) 15 j9 x2) _
    refine RR.s2 (pc' := 56) (lv' := [(0, .ref 0), (1, .int x1), (2, .int x2), (3, .int x3), (4, .int v2), (5, .int ((sl 1 (s1.1 0 2)) - 1))]) (st' := []) dX6_lays_54 rfl ?_
    refine RR.s2 (pc' := 58) (lv' := [(0, .ref 0), (1, .int x1), (2, .int x2), (3, .int x3), (4, .int v2), (5, .int ((sl 1 (s1.1 0 2)) - 1))]) (st' := [.int ((sl 1 (s1.1 0 2)) - 1)]) dX6_lays_56 rfl ?_
    refine RR.s2 (pc' := 60) (lv' := [(0, .ref 0), (1, .int x1), (2, .int x2), (3, .int x3), (4, .int v2), (5, .int ((sl 1 (s1.1 0 2)) - 1))]) (st' := [.int v2, .int ((sl 1 (s1.1 0 2)) - 1)]) dX6_lays_58 rfl ?_
    refine RR.br dX6_lays_60 rfl (fun c => ?_) (fun c => ?_)
    · have H := H.1 c
      refine RR.s2 (pc' := 70) (lv' := [(0, .ref 0), (1, .int x1), (2, .int x2), (3, .int x3), (4, .int v2), (5, .int ((sl 1 (s1.1 0 2)) - 1))]) (st' := [.int x1, .int ((sl 1 (s1.1 0 2)) - 1)]) dX6_lays_69 rfl ?_
      refine RR.s2 (pc' := 75) (lv' := [(0, .ref 0), (1, .int x1), (2, .int x2), (3, .int x3), (4, .int v2), (5, .int ((sl 1 (s1.1 0 2)) - 1))]) (st' := [.int x1, .int ((sl 1 (s1.1 0 2)) - 1)]) dX6_lays_70 rfl ?_
      exact RR.cut [0, 1, 2, 3, 4] rfl H
    · have H := H.2 c
      refine RR.s2 (pc' := 65) (lv' := [(0, .ref 0), (1, .int x1), (2, .int x2), (3, .int x3), (4, .int v2), (5, .int ((sl 1 (s1.1 0 2)) - 1))]) (st' := [.int v2, .int ((sl 1 (s1.1 0 2)) - 1)]) dX6_lays_63 rfl ?_
      refine RR.ic (v := 2) dX6_lays_65 (by decide) ?_
      refine RR.br dX6_lays_66 rfl (fun c => ?_) (fun c => ?_)
      · have H := H.1 c
        refine RR.s2 (pc' := 75) (lv' := [(0, .ref 0), (1, .int x1), (2, .int x2), (3, .int x3), (4, .int v2), (5, .int ((sl 1 (s1.1 0 2)) - 1))]) (st' := [.int ((sl 1 (s1.1 0 2)) - 1), .int ((sl 1 (s1.1 0 2)) - 1)]) dX6_lays_73 rfl ?_
        exact RR.cut [0, 1, 2, 3, 4] rfl H
      · have H := H.2 (Classical.not_not.mp c)
        refine RR.s2 (pc' := 70) (lv' := [(0, .ref 0), (1, .int x1), (2, .int x2), (3, .int x3), (4, .int v2), (5, .int ((sl 1 (s1.1 0 2)) - 1))]) (st' := [.int x1, .int ((sl 1 (s1.1 0 2)) - 1)]) dX6_lays_69 rfl ?_
        refine RR.s2 (pc' := 75) (lv' := [(0, .ref 0), (1, .int x1), (2, .int x2), (3, .int x3), (4, .int v2), (5, .int ((sl 1 (s1.1 0 2)) - 1))]) (st' := [.int x1, .int ((sl 1 (s1.1 0 2)) - 1)]) dX6_lays_70 rfl ?_
        exact RR.cut [0, 1, 2, 3, 4] rfl H
set_option maxRecDepth 20000 in
theorem b_X6_lays_75 {σ : r_St} {K : r_St → Prop} {x1 : Int32} {x2 : Int32} {x3 : Int32} {x4 : Int32} {t0 : Int32} {t1 : Int32}  (H : (x4 = 1 → R_X6_lays_98 σ K x1 x2 x3 x4 x2 (t1 &&& t0)) ∧ (¬ (x4 = 1) → ((¬ x4 = 2 → R_X6_lays_98 σ K x1 x2 x3 x4 (t1 &&& t0) (t1 &&& t0)) ∧ (x4 = 2 → R_X6_lays_98 σ K x1 x2 x3 x4 x2 (t1 &&& t0))))) : R_X6_lays_75 σ K x1 x2 x3 x4 t0 t1 := by
  show RR 1 3 mX6_lays 75 [(0, .ref 0), (1, .int x1), (2, .int x2), (3, .int x3), (4, .int x4)] [.int t0, .int t1] σ (rV K)
  refine RR.s2 (pc' := 76) (lv' := [(0, .ref 0), (1, .int x1), (2, .int x2), (3, .int x3), (4, .int x4)]) (st' := [.int (t1 &&& t0)]) dX6_lays_75 rfl ?_
  refine RR.s2 (pc' := 78) (lv' := [(0, .ref 0), (1, .int x1), (2, .int x2), (3, .int x3), (4, .int x4), (5, .int (t1 &&& t0))]) (st' := []) dX6_lays_76 rfl ?_
  refine RR.s2 (pc' := 80) (lv' := [(0, .ref 0), (1, .int x1), (2, .int x2), (3, .int x3), (4, .int x4), (5, .int (t1 &&& t0))]) (st' := [.int (t1 &&& t0)]) dX6_lays_78 rfl ?_
  refine RR.s2 (pc' := 82) (lv' := [(0, .ref 0), (1, .int x1), (2, .int x2), (3, .int x3), (4, .int x4), (5, .int (t1 &&& t0))]) (st' := [.int x4, .int (t1 &&& t0)]) dX6_lays_80 rfl ?_
  refine RR.ic (v := 1) dX6_lays_82 (by decide) ?_
  refine RR.br dX6_lays_83 rfl (fun c => ?_) (fun c => ?_)
  · have H := H.1 c
    refine RR.s2 (pc' := 93) (lv' := [(0, .ref 0), (1, .int x1), (2, .int x2), (3, .int x3), (4, .int x4), (5, .int (t1 &&& t0))]) (st' := [.int x2, .int (t1 &&& t0)]) dX6_lays_92 rfl ?_
    refine RR.s2 (pc' := 98) (lv' := [(0, .ref 0), (1, .int x1), (2, .int x2), (3, .int x3), (4, .int x4), (5, .int (t1 &&& t0))]) (st' := [.int x2, .int (t1 &&& t0)]) dX6_lays_93 rfl ?_
    exact RR.cut [0, 1, 2, 3, 4] rfl H
  · have H := H.2 c
    refine RR.s2 (pc' := 88) (lv' := [(0, .ref 0), (1, .int x1), (2, .int x2), (3, .int x3), (4, .int x4), (5, .int (t1 &&& t0))]) (st' := [.int x4, .int (t1 &&& t0)]) dX6_lays_86 rfl ?_
    refine RR.ic (v := 2) dX6_lays_88 (by decide) ?_
    refine RR.br dX6_lays_89 rfl (fun c => ?_) (fun c => ?_)
    · have H := H.1 c
      refine RR.s2 (pc' := 98) (lv' := [(0, .ref 0), (1, .int x1), (2, .int x2), (3, .int x3), (4, .int x4), (5, .int (t1 &&& t0))]) (st' := [.int (t1 &&& t0), .int (t1 &&& t0)]) dX6_lays_96 rfl ?_
      exact RR.cut [0, 1, 2, 3, 4] rfl H
    · have H := H.2 (Classical.not_not.mp c)
      refine RR.s2 (pc' := 93) (lv' := [(0, .ref 0), (1, .int x1), (2, .int x2), (3, .int x3), (4, .int x4), (5, .int (t1 &&& t0))]) (st' := [.int x2, .int (t1 &&& t0)]) dX6_lays_92 rfl ?_
      refine RR.s2 (pc' := 98) (lv' := [(0, .ref 0), (1, .int x1), (2, .int x2), (3, .int x3), (4, .int x4), (5, .int (t1 &&& t0))]) (st' := [.int x2, .int (t1 &&& t0)]) dX6_lays_93 rfl ?_
      exact RR.cut [0, 1, 2, 3, 4] rfl H
set_option maxRecDepth 20000 in
theorem b_X6_lays_98 {σ : r_St} {K : r_St → Prop} {x1 : Int32} {x2 : Int32} {x3 : Int32} {x4 : Int32} {t0 : Int32} {t1 : Int32}  (H : ∃ j1 : Nat, x3 = nI j1 ∧ j1 < 40 ∧ R_X6_lays_115 (wI σ 16 j1 (t1 &&& t0)) K x1 x2 x3 x4 0 0) : R_X6_lays_98 σ K x1 x2 x3 x4 t0 t1 := by
  show RR 1 3 mX6_lays 98 [(0, .ref 0), (1, .int x1), (2, .int x2), (3, .int x3), (4, .int x4)] [.int t0, .int t1] σ (rV K)
  refine RR.s2 (pc' := 99) (lv' := [(0, .ref 0), (1, .int x1), (2, .int x2), (3, .int x3), (4, .int x4)]) (st' := [.int (t1 &&& t0)]) dX6_lays_98 rfl ?_
  refine RR.s2 (pc' := 101) (lv' := [(0, .ref 0), (1, .int x1), (2, .int x2), (3, .int x3), (4, .int x4), (5, .int (t1 &&& t0))]) (st' := []) dX6_lays_99 rfl ?_
  refine RR.s2 (pc' := 102) (lv' := [(0, .ref 0), (1, .int x1), (2, .int x2), (3, .int x3), (4, .int x4), (5, .int (t1 &&& t0))]) (st' := [.ref 0]) dX6_lays_101 rfl ?_
  refine RR.getR dX6_lays_102 fl_X6_55 rfl rfl ?_
  refine RR.s2 (pc' := 106) (lv' := [(0, .ref 0), (1, .int x1), (2, .int x2), (3, .int x3), (4, .int x4), (5, .int (t1 &&& t0))]) (st' := [.int x3, .ref 16]) dX6_lays_105 rfl ?_
  refine RR.s2 (pc' := 108) (lv' := [(0, .ref 0), (1, .int x1), (2, .int x2), (3, .int x3), (4, .int x4), (5, .int (t1 &&& t0))]) (st' := [.int (t1 &&& t0), .int x3, .ref 16]) dX6_lays_106 rfl ?_
  obtain ⟨j1, e2, b3, H⟩ := H
  refine RR.iast dX6_lays_108 rfl e2 b3 ?_
  refine RR.ic (v := 0) dX6_lays_109 (by decide) ?_
  refine RR.s2 (pc' := 112) (lv' := [(0, .ref 0), (1, .int x1), (2, .int x2), (3, .int x3), (4, .int x4), (5, .int (t1 &&& t0)), (6, .int 0)]) (st' := []) dX6_lays_110 rfl ?_
  refine RR.ic (v := 0) dX6_lays_112 (by decide) ?_
  refine RR.s2 (pc' := 115) (lv' := [(0, .ref 0), (1, .int x1), (2, .int x2), (3, .int x3), (4, .int x4), (5, .int (t1 &&& t0)), (6, .int 0), (7, .int 0)]) (st' := []) dX6_lays_113 rfl ?_
  exact RR.cut [0, 1, 2, 3, 4, 6, 7] rfl H
set_option maxRecDepth 20000 in
theorem b_X6_lays_115 {σ : r_St} {K : r_St → Prop} {x1 : Int32} {x2 : Int32} {x3 : Int32} {x4 : Int32} {x6 : Int32} {x7 : Int32}  (H : (σ.1 3 2 ≤ x7 → ((x3 - (σ.1 0 22) < 0 → R_X6_lays_242 σ K x1 x2 x3 x4 x6) ∧ (¬ (x3 - (σ.1 0 22) < 0) → ((σ.1 0 23 ≤ x3 - (σ.1 0 22) → R_X6_lays_242 σ K x1 x2 x3 x4 x6) ∧ (¬ (σ.1 0 23 ≤ x3 - (σ.1 0 22)) → ((IN x4 0 1 → (∃ j1 : Nat, x3 - (σ.1 0 22) = nI j1 ∧ j1 < 3 ∧ ((8 ≤ σ.1 17 j1 → R_X6_lays_242 σ K x1 x2 x3 x4 x6) ∧ (¬ (8 ≤ σ.1 17 j1) → (∃ j4 : Nat, x3 - (σ.1 0 22) = nI j4 ∧ j4 < 3 ∧ R_X6_lays_242 σ K x1 x2 x3 x4 (x6 ^^^ (sl 1 (σ.1 17 j4)))))))) ∧ (¬ IN x4 0 1 → R_X6_lays_242 σ K x1 x2 x3 x4 x6))))))) ∧ (¬ (σ.1 3 2 ≤ x7) → (∃ j7 : Nat, x7 = nI j7 ∧ j7 < 10 ∧ ((¬ σ.1 7 j7 = x3 → R_X6_lays_115 σ K x1 x2 x3 x4 (x6 ^^^ 0) (x7 + 1)) ∧ (σ.1 7 j7 = x3 → ((x7 = σ.1 0 21 → R_X6_lays_115 σ K x1 x2 x3 x4 (x6 ^^^ 0) (x7 + 1)) ∧ (¬ (x7 = σ.1 0 21) → (∃ j10 : Nat, x7 = nI j10 ∧ j10 < 10 ∧ ((σ.1 0 2 ≤ σ.1 8 j10 → R_X6_lays_115 σ K x1 x2 x3 x4 (x6 ^^^ 0) (x7 + 1)) ∧ (¬ (σ.1 0 2 ≤ σ.1 8 j10) → (∃ j13 : Nat, x7 = nI j13 ∧ j13 < 10 ∧ R_X6_lays_115 σ K x1 x2 x3 x4 (x6 ^^^ (sl 1 (σ.1 8 j13))) (x7 + 1)))))))))))) : R_X6_lays_115 σ K x1 x2 x3 x4 x6 x7 := by
  show RR 1 3 mX6_lays 115 [(0, .ref 0), (1, .int x1), (2, .int x2), (3, .int x3), (4, .int x4), (6, .int x6), (7, .int x7)] [] σ (rV K)
  refine RR.s2 (pc' := 117) (lv' := [(0, .ref 0), (1, .int x1), (2, .int x2), (3, .int x3), (4, .int x4), (6, .int x6), (7, .int x7)]) (st' := [.int x7]) dX6_lays_115 rfl ?_
  refine RR.s2 (pc' := 118) (lv' := [(0, .ref 0), (1, .int x1), (2, .int x2), (3, .int x3), (4, .int x4), (6, .int x6), (7, .int x7)]) (st' := [.ref 0, .int x7]) dX6_lays_117 rfl ?_
  refine RR.getR dX6_lays_118 fl_X6_16 rfl rfl ?_
  refine RR.ic (v := 2) dX6_lays_121 (by decide) ?_
  refine RR.iald (j := 2) dX6_lays_122 rfl rfl (by decide) ?_
  refine RR.br dX6_lays_123 rfl (fun c => ?_) (fun c => ?_)
  · have H := H.1 c
    refine RR.s2 (pc' := 185) (lv' := [(0, .ref 0), (1, .int x1), (2, .int x2), (3, .int x3), (4, .int x4), (6, .int x6), (7, .int x7)]) (st' := [.int x3]) dX6_lays_184 rfl ?_
    refine RR.s2 (pc' := 186) (lv' := [(0, .ref 0), (1, .int x1), (2, .int x2), (3, .int x3), (4, .int x4), (6, .int x6), (7, .int x7)]) (st' := [.ref 0, .int x3]) dX6_lays_185 rfl ?_
    refine RR.getI dX6_lays_186 fl_X6_185 rfl rfl ?_
    refine RR.s2 (pc' := 190) (lv' := [(0, .ref 0), (1, .int x1), (2, .int x2), (3, .int x3), (4, .int x4), (6, .int x6), (7, .int x7)]) (st' := [.int (x3 - (σ.1 0 22))]) dX6_lays_189 rfl ?_
    refine RR.s2 (pc' := 192) (lv' := [(0, .ref 0), (1, .int x1), (2, .int x2), (3, .int x3), (4, .int x4), (6, .int x6), (7, .int (x3 - (σ.1 0 22)))]) (st' := []) dX6_lays_190 rfl ?_
    refine RR.s2 (pc' := 194) (lv' := [(0, .ref 0), (1, .int x1), (2, .int x2), (3, .int x3), (4, .int x4), (6, .int x6), (7, .int (x3 - (σ.1 0 22)))]) (st' := [.int (x3 - (σ.1 0 22))]) dX6_lays_192 rfl ?_
    refine RR.br dX6_lays_194 rfl (fun c => ?_) (fun c => ?_)
    · have H := H.1 c
      exact RR.cut [0, 1, 2, 3, 4, 5] rfl H
    · have H := H.2 c
      refine RR.s2 (pc' := 199) (lv' := [(0, .ref 0), (1, .int x1), (2, .int x2), (3, .int x3), (4, .int x4), (6, .int x6), (7, .int (x3 - (σ.1 0 22)))]) (st' := [.int (x3 - (σ.1 0 22))]) dX6_lays_197 rfl ?_
      refine RR.s2 (pc' := 200) (lv' := [(0, .ref 0), (1, .int x1), (2, .int x2), (3, .int x3), (4, .int x4), (6, .int x6), (7, .int (x3 - (σ.1 0 22)))]) (st' := [.ref 0, .int (x3 - (σ.1 0 22))]) dX6_lays_199 rfl ?_
      refine RR.getI dX6_lays_200 fl_X6_179 rfl rfl ?_
      refine RR.br dX6_lays_203 rfl (fun c => ?_) (fun c => ?_)
      · have H := H.1 c
        exact RR.cut [0, 1, 2, 3, 4, 5] rfl H
      · have H := H.2 c
        refine RR.s2 (pc' := 208) (lv' := [(0, .ref 0), (1, .int x1), (2, .int x2), (3, .int x3), (4, .int x4), (6, .int x6), (7, .int (x3 - (σ.1 0 22)))]) (st' := [.int x4]) dX6_lays_206 rfl ?_
        refine RR.ic (v := 0) dX6_lays_208 (by decide) ?_
        refine RR.ic (v := 1) dX6_lays_209 (by decide) ?_
        refine RR.cS dX6_lays_210 ml_X6_106 (as := [.int x4, .int 0, .int 1]) (rest := []) rfl rfl (Nat.le_of_ble_eq_true rfl) (Nat.le_of_ble_eq_true rfl) (by decide) (kb_X6_in (fun c => ?_) (fun c => ?_))
        · have H := H.1 c
          show RR 1 3 mX6_lays 213 [(0, .ref 0), (1, .int x1), (2, .int x2), (3, .int x3), (4, .int x4), (6, .int x6), (7, .int (x3 - (σ.1 0 22)))] [.int 1] σ _
          refine RR.brF dX6_lays_213 rfl (by decide) ?_
          refine RR.s2 (pc' := 217) (lv' := [(0, .ref 0), (1, .int x1), (2, .int x2), (3, .int x3), (4, .int x4), (6, .int x6), (7, .int (x3 - (σ.1 0 22)))]) (st' := [.ref 0]) dX6_lays_216 rfl ?_
          refine RR.getR dX6_lays_217 fl_X6_58 rfl rfl ?_
          refine RR.s2 (pc' := 222) (lv' := [(0, .ref 0), (1, .int x1), (2, .int x2), (3, .int x3), (4, .int x4), (6, .int x6), (7, .int (x3 - (σ.1 0 22)))]) (st' := [.int (x3 - (σ.1 0 22)), .ref 17]) dX6_lays_220 rfl ?_
          obtain ⟨j1, e2, b3, H⟩ := H
          refine RR.iald dX6_lays_222 rfl e2 b3 ?_
          refine RR.bp (v := 8) dX6_lays_223 (by decide) ?_
          refine RR.br dX6_lays_225 rfl (fun c => ?_) (fun c => ?_)
          · have H := H.1 c
            exact RR.cut [0, 1, 2, 3, 4, 5] rfl H
          · have H := H.2 c
            refine RR.s2 (pc' := 230) (lv' := [(0, .ref 0), (1, .int x1), (2, .int x2), (3, .int x3), (4, .int x4), (6, .int x6), (7, .int (x3 - (σ.1 0 22)))]) (st' := [.int x6]) dX6_lays_228 rfl ?_
            refine RR.ic (v := 1) dX6_lays_230 (by decide) ?_
            refine RR.s2 (pc' := 232) (lv' := [(0, .ref 0), (1, .int x1), (2, .int x2), (3, .int x3), (4, .int x4), (6, .int x6), (7, .int (x3 - (σ.1 0 22)))]) (st' := [.ref 0, .int 1, .int x6]) dX6_lays_231 rfl ?_
            refine RR.getR dX6_lays_232 fl_X6_58 rfl rfl ?_
            refine RR.s2 (pc' := 237) (lv' := [(0, .ref 0), (1, .int x1), (2, .int x2), (3, .int x3), (4, .int x4), (6, .int x6), (7, .int (x3 - (σ.1 0 22)))]) (st' := [.int (x3 - (σ.1 0 22)), .ref 17, .int 1, .int x6]) dX6_lays_235 rfl ?_
            obtain ⟨j4, e5, b6, H⟩ := H
            refine RR.iald dX6_lays_237 rfl e5 b6 ?_
            refine RR.s2 (pc' := 239) (lv' := [(0, .ref 0), (1, .int x1), (2, .int x2), (3, .int x3), (4, .int x4), (6, .int x6), (7, .int (x3 - (σ.1 0 22)))]) (st' := [.int (sl 1 (σ.1 17 j4)), .int x6]) dX6_lays_238 rfl ?_
            refine RR.s2 (pc' := 240) (lv' := [(0, .ref 0), (1, .int x1), (2, .int x2), (3, .int x3), (4, .int x4), (6, .int x6), (7, .int (x3 - (σ.1 0 22)))]) (st' := [.int (x6 ^^^ (sl 1 (σ.1 17 j4)))]) dX6_lays_239 rfl ?_
            refine RR.s2 (pc' := 242) (lv' := [(0, .ref 0), (1, .int x1), (2, .int x2), (3, .int x3), (4, .int x4), (6, .int (x6 ^^^ (sl 1 (σ.1 17 j4)))), (7, .int (x3 - (σ.1 0 22)))]) (st' := []) dX6_lays_240 rfl ?_
            exact RR.cut [0, 1, 2, 3, 4, 5] rfl H
        · have H := H.2 c
          show RR 1 3 mX6_lays 213 [(0, .ref 0), (1, .int x1), (2, .int x2), (3, .int x3), (4, .int x4), (6, .int x6), (7, .int (x3 - (σ.1 0 22)))] [.int 0] σ _
          refine RR.brT dX6_lays_213 rfl (by decide) ?_
          exact RR.cut [0, 1, 2, 3, 4, 5] rfl H
  · have H := H.2 c
    refine RR.s2 (pc' := 128) (lv' := [(0, .ref 0), (1, .int x1), (2, .int x2), (3, .int x3), (4, .int x4), (6, .int x6), (7, .int x7)]) (st' := [.int x6]) dX6_lays_126 rfl ?_
    refine RR.s2 (pc' := 129) (lv' := [(0, .ref 0), (1, .int x1), (2, .int x2), (3, .int x3), (4, .int x4), (6, .int x6), (7, .int x7)]) (st' := [.ref 0, .int x6]) dX6_lays_128 rfl ?_
    refine RR.getR dX6_lays_129 fl_X6_28 rfl rfl ?_
    refine RR.s2 (pc' := 134) (lv' := [(0, .ref 0), (1, .int x1), (2, .int x2), (3, .int x3), (4, .int x4), (6, .int x6), (7, .int x7)]) (st' := [.int x7, .ref 7, .int x6]) dX6_lays_132 rfl ?_
    obtain ⟨j7, e8, b9, H⟩ := H
    refine RR.iald dX6_lays_134 rfl e8 b9 ?_
    refine RR.s2 (pc' := 136) (lv' := [(0, .ref 0), (1, .int x1), (2, .int x2), (3, .int x3), (4, .int x4), (6, .int x6), (7, .int x7)]) (st' := [.int x3, .int (σ.1 7 j7), .int x6]) dX6_lays_135 rfl ?_
    refine RR.br dX6_lays_136 rfl (fun c => ?_) (fun c => ?_)
    · have H := H.1 c
      refine RR.ic (v := 0) dX6_lays_174 (by decide) ?_
      refine RR.s2 (pc' := 176) (lv' := [(0, .ref 0), (1, .int x1), (2, .int x2), (3, .int x3), (4, .int x4), (6, .int x6), (7, .int x7)]) (st' := [.int (x6 ^^^ 0)]) dX6_lays_175 rfl ?_
      refine RR.s2 (pc' := 178) (lv' := [(0, .ref 0), (1, .int x1), (2, .int x2), (3, .int x3), (4, .int x4), (6, .int (x6 ^^^ 0)), (7, .int x7)]) (st' := []) dX6_lays_176 rfl ?_
      refine RR.inc (c := 1) (lv' := [(0, .ref 0), (1, .int x1), (2, .int x2), (3, .int x3), (4, .int x4), (6, .int (x6 ^^^ 0)), (7, .int (x7 + 1))]) dX6_lays_178 rfl (by decide) (by decide) rfl ?_
      refine RR.s2 (pc' := 115) (lv' := [(0, .ref 0), (1, .int x1), (2, .int x2), (3, .int x3), (4, .int x4), (6, .int (x6 ^^^ 0)), (7, .int (x7 + 1))]) (st' := []) dX6_lays_181 rfl ?_
      exact RR.cut [0, 1, 2, 3, 4, 5, 6] rfl H
    · have H := H.2 (Classical.not_not.mp c)
      refine RR.s2 (pc' := 141) (lv' := [(0, .ref 0), (1, .int x1), (2, .int x2), (3, .int x3), (4, .int x4), (6, .int x6), (7, .int x7)]) (st' := [.int x7, .int x6]) dX6_lays_139 rfl ?_
      refine RR.s2 (pc' := 142) (lv' := [(0, .ref 0), (1, .int x1), (2, .int x2), (3, .int x3), (4, .int x4), (6, .int x6), (7, .int x7)]) (st' := [.ref 0, .int x7, .int x6]) dX6_lays_141 rfl ?_
      refine RR.getI dX6_lays_142 fl_X6_176 rfl rfl ?_
      refine RR.br dX6_lays_145 rfl (fun c => ?_) (fun c => ?_)
      · have H := H.1 c
        refine RR.ic (v := 0) dX6_lays_174 (by decide) ?_
        refine RR.s2 (pc' := 176) (lv' := [(0, .ref 0), (1, .int x1), (2, .int x2), (3, .int x3), (4, .int x4), (6, .int x6), (7, .int x7)]) (st' := [.int (x6 ^^^ 0)]) dX6_lays_175 rfl ?_
        refine RR.s2 (pc' := 178) (lv' := [(0, .ref 0), (1, .int x1), (2, .int x2), (3, .int x3), (4, .int x4), (6, .int (x6 ^^^ 0)), (7, .int x7)]) (st' := []) dX6_lays_176 rfl ?_
        refine RR.inc (c := 1) (lv' := [(0, .ref 0), (1, .int x1), (2, .int x2), (3, .int x3), (4, .int x4), (6, .int (x6 ^^^ 0)), (7, .int (x7 + 1))]) dX6_lays_178 rfl (by decide) (by decide) rfl ?_
        refine RR.s2 (pc' := 115) (lv' := [(0, .ref 0), (1, .int x1), (2, .int x2), (3, .int x3), (4, .int x4), (6, .int (x6 ^^^ 0)), (7, .int (x7 + 1))]) (st' := []) dX6_lays_181 rfl ?_
        exact RR.cut [0, 1, 2, 3, 4, 5, 6] rfl H
      · have H := H.2 c
        refine RR.s2 (pc' := 149) (lv' := [(0, .ref 0), (1, .int x1), (2, .int x2), (3, .int x3), (4, .int x4), (6, .int x6), (7, .int x7)]) (st' := [.ref 0, .int x6]) dX6_lays_148 rfl ?_
        refine RR.getR dX6_lays_149 fl_X6_31 rfl rfl ?_
        refine RR.s2 (pc' := 154) (lv' := [(0, .ref 0), (1, .int x1), (2, .int x2), (3, .int x3), (4, .int x4), (6, .int x6), (7, .int x7)]) (st' := [.int x7, .ref 8, .int x6]) dX6_lays_152 rfl ?_
        obtain ⟨j10, e11, b12, H⟩ := H
        refine RR.iald dX6_lays_154 rfl e11 b12 ?_
        refine RR.s2 (pc' := 156) (lv' := [(0, .ref 0), (1, .int x1), (2, .int x2), (3, .int x3), (4, .int x4), (6, .int x6), (7, .int x7)]) (st' := [.ref 0, .int (σ.1 8 j10), .int x6]) dX6_lays_155 rfl ?_
        refine RR.getI dX6_lays_156 fl_X6_114 rfl rfl ?_
        refine RR.br dX6_lays_159 rfl (fun c => ?_) (fun c => ?_)
        · have H := H.1 c
          refine RR.ic (v := 0) dX6_lays_174 (by decide) ?_
          refine RR.s2 (pc' := 176) (lv' := [(0, .ref 0), (1, .int x1), (2, .int x2), (3, .int x3), (4, .int x4), (6, .int x6), (7, .int x7)]) (st' := [.int (x6 ^^^ 0)]) dX6_lays_175 rfl ?_
          refine RR.s2 (pc' := 178) (lv' := [(0, .ref 0), (1, .int x1), (2, .int x2), (3, .int x3), (4, .int x4), (6, .int (x6 ^^^ 0)), (7, .int x7)]) (st' := []) dX6_lays_176 rfl ?_
          refine RR.inc (c := 1) (lv' := [(0, .ref 0), (1, .int x1), (2, .int x2), (3, .int x3), (4, .int x4), (6, .int (x6 ^^^ 0)), (7, .int (x7 + 1))]) dX6_lays_178 rfl (by decide) (by decide) rfl ?_
          refine RR.s2 (pc' := 115) (lv' := [(0, .ref 0), (1, .int x1), (2, .int x2), (3, .int x3), (4, .int x4), (6, .int (x6 ^^^ 0)), (7, .int (x7 + 1))]) (st' := []) dX6_lays_181 rfl ?_
          exact RR.cut [0, 1, 2, 3, 4, 5, 6] rfl H
        · have H := H.2 c
          refine RR.ic (v := 1) dX6_lays_162 (by decide) ?_
          refine RR.s2 (pc' := 164) (lv' := [(0, .ref 0), (1, .int x1), (2, .int x2), (3, .int x3), (4, .int x4), (6, .int x6), (7, .int x7)]) (st' := [.ref 0, .int 1, .int x6]) dX6_lays_163 rfl ?_
          refine RR.getR dX6_lays_164 fl_X6_31 rfl rfl ?_
          refine RR.s2 (pc' := 169) (lv' := [(0, .ref 0), (1, .int x1), (2, .int x2), (3, .int x3), (4, .int x4), (6, .int x6), (7, .int x7)]) (st' := [.int x7, .ref 8, .int 1, .int x6]) dX6_lays_167 rfl ?_
          obtain ⟨j13, e14, b15, H⟩ := H
          refine RR.iald dX6_lays_169 rfl e14 b15 ?_
          refine RR.s2 (pc' := 171) (lv' := [(0, .ref 0), (1, .int x1), (2, .int x2), (3, .int x3), (4, .int x4), (6, .int x6), (7, .int x7)]) (st' := [.int (sl 1 (σ.1 8 j13)), .int x6]) dX6_lays_170 rfl ?_
          refine RR.s2 (pc' := 175) (lv' := [(0, .ref 0), (1, .int x1), (2, .int x2), (3, .int x3), (4, .int x4), (6, .int x6), (7, .int x7)]) (st' := [.int (sl 1 (σ.1 8 j13)), .int x6]) dX6_lays_171 rfl ?_
          refine RR.s2 (pc' := 176) (lv' := [(0, .ref 0), (1, .int x1), (2, .int x2), (3, .int x3), (4, .int x4), (6, .int x6), (7, .int x7)]) (st' := [.int (x6 ^^^ (sl 1 (σ.1 8 j13)))]) dX6_lays_175 rfl ?_
          refine RR.s2 (pc' := 178) (lv' := [(0, .ref 0), (1, .int x1), (2, .int x2), (3, .int x3), (4, .int x4), (6, .int (x6 ^^^ (sl 1 (σ.1 8 j13)))), (7, .int x7)]) (st' := []) dX6_lays_176 rfl ?_
          refine RR.inc (c := 1) (lv' := [(0, .ref 0), (1, .int x1), (2, .int x2), (3, .int x3), (4, .int x4), (6, .int (x6 ^^^ (sl 1 (σ.1 8 j13)))), (7, .int (x7 + 1))]) dX6_lays_178 rfl (by decide) (by decide) rfl ?_
          refine RR.s2 (pc' := 115) (lv' := [(0, .ref 0), (1, .int x1), (2, .int x2), (3, .int x3), (4, .int x4), (6, .int (x6 ^^^ (sl 1 (σ.1 8 j13)))), (7, .int (x7 + 1))]) (st' := []) dX6_lays_181 rfl ?_
          exact RR.cut [0, 1, 2, 3, 4, 5, 6] rfl H
set_option maxRecDepth 20000 in
theorem b_X6_lays_242 {σ : r_St} {K : r_St → Prop} {x1 : Int32} {x2 : Int32} {x3 : Int32} {x4 : Int32} {x6 : Int32}  (H : (x4 = 0 → R_X6_lays_260 σ K x2 x3 x4 x6 x6 x1) ∧ (¬ (x4 = 0) → ((¬ x4 = 2 → R_X6_lays_260 σ K x2 x3 x4 x6 0 x1) ∧ (x4 = 2 → R_X6_lays_260 σ K x2 x3 x4 x6 x6 x1)))) : R_X6_lays_242 σ K x1 x2 x3 x4 x6 := by
  show RR 1 3 mX6_lays 242 [(0, .ref 0), (1, .int x1), (2, .int x2), (3, .int x3), (4, .int x4), (6, .int x6)] [] σ (rV K)
  refine RR.s2 (pc' := 243) (lv' := [(0, .ref 0), (1, .int x1), (2, .int x2), (3, .int x3), (4, .int x4), (6, .int x6)]) (st' := [.int x1]) dX6_lays_242 rfl ?_
  refine RR.s2 (pc' := 245) (lv' := [(0, .ref 0), (1, .int x1), (2, .int x2), (3, .int x3), (4, .int x4), (6, .int x6)]) (st' := [.int x4, .int x1]) dX6_lays_243 rfl ?_
  refine RR.br dX6_lays_245 rfl (fun c => ?_) (fun c => ?_)
  · have H := H.1 c
    refine RR.s2 (pc' := 256) (lv' := [(0, .ref 0), (1, .int x1), (2, .int x2), (3, .int x3), (4, .int x4), (6, .int x6)]) (st' := [.int x6, .int x1]) dX6_lays_254 rfl ?_
    refine RR.s2 (pc' := 260) (lv' := [(0, .ref 0), (1, .int x1), (2, .int x2), (3, .int x3), (4, .int x4), (6, .int x6)]) (st' := [.int x6, .int x1]) dX6_lays_256 rfl ?_
    exact RR.cut [0, 2, 3, 4, 5] rfl H
  · have H := H.2 c
    refine RR.s2 (pc' := 250) (lv' := [(0, .ref 0), (1, .int x1), (2, .int x2), (3, .int x3), (4, .int x4), (6, .int x6)]) (st' := [.int x4, .int x1]) dX6_lays_248 rfl ?_
    refine RR.ic (v := 2) dX6_lays_250 (by decide) ?_
    refine RR.br dX6_lays_251 rfl (fun c => ?_) (fun c => ?_)
    · have H := H.1 c
      refine RR.ic (v := 0) dX6_lays_259 (by decide) ?_
      exact RR.cut [0, 2, 3, 4, 5] rfl H
    · have H := H.2 (Classical.not_not.mp c)
      refine RR.s2 (pc' := 256) (lv' := [(0, .ref 0), (1, .int x1), (2, .int x2), (3, .int x3), (4, .int x4), (6, .int x6)]) (st' := [.int x6, .int x1]) dX6_lays_254 rfl ?_
      refine RR.s2 (pc' := 260) (lv' := [(0, .ref 0), (1, .int x1), (2, .int x2), (3, .int x3), (4, .int x4), (6, .int x6)]) (st' := [.int x6, .int x1]) dX6_lays_256 rfl ?_
      exact RR.cut [0, 2, 3, 4, 5] rfl H
set_option maxRecDepth 20000 in
theorem b_X6_lays_260 {σ : r_St} {K : r_St → Prop} {x2 : Int32} {x3 : Int32} {x4 : Int32} {x6 : Int32} {t0 : Int32} {t1 : Int32}  (H : (x4 = 1 → R_X6_lays_12 σ K (t1 ^^^ t0) (x2 ^^^ x6) (x3 + 1)) ∧ (¬ (x4 = 1) → ((¬ x4 = 2 → R_X6_lays_12 σ K (t1 ^^^ t0) (x2 ^^^ 0) (x3 + 1)) ∧ (x4 = 2 → R_X6_lays_12 σ K (t1 ^^^ t0) (x2 ^^^ x6) (x3 + 1))))) : R_X6_lays_260 σ K x2 x3 x4 x6 t0 t1 := by
  show RR 1 3 mX6_lays 260 [(0, .ref 0), (2, .int x2), (3, .int x3), (4, .int x4), (6, .int x6)] [.int t0, .int t1] σ (rV K)
  refine RR.s2 (pc' := 261) (lv' := [(0, .ref 0), (2, .int x2), (3, .int x3), (4, .int x4), (6, .int x6)]) (st' := [.int (t1 ^^^ t0)]) dX6_lays_260 rfl ?_
  refine RR.s2 (pc' := 262) (lv' := [(0, .ref 0), (1, .int (t1 ^^^ t0)), (2, .int x2), (3, .int x3), (4, .int x4), (6, .int x6)]) (st' := []) dX6_lays_261 rfl ?_
  refine RR.s2 (pc' := 263) (lv' := [(0, .ref 0), (1, .int (t1 ^^^ t0)), (2, .int x2), (3, .int x3), (4, .int x4), (6, .int x6)]) (st' := [.int x2]) dX6_lays_262 rfl ?_
  refine RR.s2 (pc' := 265) (lv' := [(0, .ref 0), (1, .int (t1 ^^^ t0)), (2, .int x2), (3, .int x3), (4, .int x4), (6, .int x6)]) (st' := [.int x4, .int x2]) dX6_lays_263 rfl ?_
  refine RR.ic (v := 1) dX6_lays_265 (by decide) ?_
  refine RR.br dX6_lays_266 rfl (fun c => ?_) (fun c => ?_)
  · have H := H.1 c
    refine RR.s2 (pc' := 277) (lv' := [(0, .ref 0), (1, .int (t1 ^^^ t0)), (2, .int x2), (3, .int x3), (4, .int x4), (6, .int x6)]) (st' := [.int x6, .int x2]) dX6_lays_275 rfl ?_
    refine RR.s2 (pc' := 281) (lv' := [(0, .ref 0), (1, .int (t1 ^^^ t0)), (2, .int x2), (3, .int x3), (4, .int x4), (6, .int x6)]) (st' := [.int x6, .int x2]) dX6_lays_277 rfl ?_
    refine RR.s2 (pc' := 282) (lv' := [(0, .ref 0), (1, .int (t1 ^^^ t0)), (2, .int x2), (3, .int x3), (4, .int x4), (6, .int x6)]) (st' := [.int (x2 ^^^ x6)]) dX6_lays_281 rfl ?_
    refine RR.s2 (pc' := 283) (lv' := [(0, .ref 0), (1, .int (t1 ^^^ t0)), (2, .int (x2 ^^^ x6)), (3, .int x3), (4, .int x4), (6, .int x6)]) (st' := []) dX6_lays_282 rfl ?_
    refine RR.inc (c := 1) (lv' := [(0, .ref 0), (1, .int (t1 ^^^ t0)), (2, .int (x2 ^^^ x6)), (3, .int (x3 + 1)), (4, .int x4), (6, .int x6)]) dX6_lays_283 rfl (by decide) (by decide) rfl ?_
    refine RR.s2 (pc' := 12) (lv' := [(0, .ref 0), (1, .int (t1 ^^^ t0)), (2, .int (x2 ^^^ x6)), (3, .int (x3 + 1)), (4, .int x4), (6, .int x6)]) (st' := []) dX6_lays_286 rfl ?_
    exact RR.cut [0, 1, 2, 3] rfl H
  · have H := H.2 c
    refine RR.s2 (pc' := 271) (lv' := [(0, .ref 0), (1, .int (t1 ^^^ t0)), (2, .int x2), (3, .int x3), (4, .int x4), (6, .int x6)]) (st' := [.int x4, .int x2]) dX6_lays_269 rfl ?_
    refine RR.ic (v := 2) dX6_lays_271 (by decide) ?_
    refine RR.br dX6_lays_272 rfl (fun c => ?_) (fun c => ?_)
    · have H := H.1 c
      refine RR.ic (v := 0) dX6_lays_280 (by decide) ?_
      refine RR.s2 (pc' := 282) (lv' := [(0, .ref 0), (1, .int (t1 ^^^ t0)), (2, .int x2), (3, .int x3), (4, .int x4), (6, .int x6)]) (st' := [.int (x2 ^^^ 0)]) dX6_lays_281 rfl ?_
      refine RR.s2 (pc' := 283) (lv' := [(0, .ref 0), (1, .int (t1 ^^^ t0)), (2, .int (x2 ^^^ 0)), (3, .int x3), (4, .int x4), (6, .int x6)]) (st' := []) dX6_lays_282 rfl ?_
      refine RR.inc (c := 1) (lv' := [(0, .ref 0), (1, .int (t1 ^^^ t0)), (2, .int (x2 ^^^ 0)), (3, .int (x3 + 1)), (4, .int x4), (6, .int x6)]) dX6_lays_283 rfl (by decide) (by decide) rfl ?_
      refine RR.s2 (pc' := 12) (lv' := [(0, .ref 0), (1, .int (t1 ^^^ t0)), (2, .int (x2 ^^^ 0)), (3, .int (x3 + 1)), (4, .int x4), (6, .int x6)]) (st' := []) dX6_lays_286 rfl ?_
      exact RR.cut [0, 1, 2, 3] rfl H
    · have H := H.2 (Classical.not_not.mp c)
      refine RR.s2 (pc' := 277) (lv' := [(0, .ref 0), (1, .int (t1 ^^^ t0)), (2, .int x2), (3, .int x3), (4, .int x4), (6, .int x6)]) (st' := [.int x6, .int x2]) dX6_lays_275 rfl ?_
      refine RR.s2 (pc' := 281) (lv' := [(0, .ref 0), (1, .int (t1 ^^^ t0)), (2, .int x2), (3, .int x3), (4, .int x4), (6, .int x6)]) (st' := [.int x6, .int x2]) dX6_lays_277 rfl ?_
      refine RR.s2 (pc' := 282) (lv' := [(0, .ref 0), (1, .int (t1 ^^^ t0)), (2, .int x2), (3, .int x3), (4, .int x4), (6, .int x6)]) (st' := [.int (x2 ^^^ x6)]) dX6_lays_281 rfl ?_
      refine RR.s2 (pc' := 283) (lv' := [(0, .ref 0), (1, .int (t1 ^^^ t0)), (2, .int (x2 ^^^ x6)), (3, .int x3), (4, .int x4), (6, .int x6)]) (st' := []) dX6_lays_282 rfl ?_
      refine RR.inc (c := 1) (lv' := [(0, .ref 0), (1, .int (t1 ^^^ t0)), (2, .int (x2 ^^^ x6)), (3, .int (x3 + 1)), (4, .int x4), (6, .int x6)]) dX6_lays_283 rfl (by decide) (by decide) rfl ?_
      refine RR.s2 (pc' := 12) (lv' := [(0, .ref 0), (1, .int (t1 ^^^ t0)), (2, .int (x2 ^^^ x6)), (3, .int (x3 + 1)), (4, .int x4), (6, .int x6)]) (st' := []) dX6_lays_286 rfl ?_
      exact RR.cut [0, 1, 2, 3] rfl H
set_option maxRecDepth 20000 in
theorem b_X6_laysTold {σ : r_St} {K : r_St → Prop}  (H : M_X6_faultNow σ (fun v2 s1 => M_X6_lays (wI (wI s1 0 21 (-1)) 0 23 0) (fun s3 => K s3))) : M_X6_laysTold σ K := by
  show RR 1 4 mX6_laysTold 0 [(0, .ref 0)] [] σ (rV K)
  refine RR.s2 (pc' := 1) (lv' := [(0, .ref 0)]) (st' := [.ref 0]) dX6_laysTold_0 rfl ?_
  refine RR.cV (d' := 3) dX6_laysTold_1 ml_X6_124 rfl rfl (as := []) (rest := []) rfl rfl (Nat.le_of_ble_eq_true rfl) (Nat.le_of_ble_eq_true rfl) (by decide) ?_
  show RR 1 3 mX6_reads 0 [(0, .ref 0)] [] σ _
  refine RR.s2 (pc' := 1) (lv' := [(0, .ref 0)]) (st' := [.ref 0]) dX6_reads_0 rfl ?_
  refine RR.cV dX6_reads_1 ml_X6_120 rfl rfl (as := []) (rest := []) rfl rfl (Nat.le_of_ble_eq_true rfl) (Nat.le_of_ble_eq_true rfl) (by decide) (RR.toI H (fun v2 s1 H => ?_))
  show RR 1 3 mX6_reads 4 [(0, .ref 0)] [.int v2] s1 _
  refine RR.s2 (pc' := 5) (lv' := [(0, .ref 0), (1, .int v2)]) (st' := []) dX6_reads_4 rfl ?_
  refine RR.vret dX6_reads_5 rfl ?_
  show RR 1 4 mX6_laysTold 4 [(0, .ref 0)] [] s1 _
  refine RR.s2 (pc' := 5) (lv' := [(0, .ref 0)]) (st' := [.ref 0]) dX6_laysTold_4 rfl ?_
  refine RR.cV (d' := 1) dX6_laysTold_5 ml_X6_188 rfl rfl (as := []) (rest := []) rfl rfl (Nat.le_of_ble_eq_true rfl) (Nat.le_of_ble_eq_true rfl) (by decide) ?_
  show RR 1 1 mX6_asTold 0 [(0, .ref 0)] [] s1 _
  refine RR.s2 (pc' := 1) (lv' := [(0, .ref 0)]) (st' := [.ref 0]) dX6_asTold_0 rfl ?_
  refine RR.ic (v := (-1)) dX6_asTold_1 (by decide) ?_
  refine RR.putI dX6_asTold_2 fp_X6_176 rfl rfl ?_
  refine RR.s2 (pc' := 6) (lv' := [(0, .ref 0)]) (st' := [.ref 0]) dX6_asTold_5 rfl ?_
  refine RR.ic (v := 0) dX6_asTold_6 (by decide) ?_
  refine RR.putI dX6_asTold_7 fp_X6_179 rfl rfl ?_
  refine RR.vret dX6_asTold_10 rfl ?_
  show RR 1 4 mX6_laysTold 8 [(0, .ref 0)] [] (wI (wI s1 0 21 (-1)) 0 23 0) _
  refine RR.s2 (pc' := 9) (lv' := [(0, .ref 0)]) (st' := [.ref 0]) dX6_laysTold_8 rfl ?_
  refine RR.cV dX6_laysTold_9 ml_X6_191 rfl rfl (as := []) (rest := []) rfl rfl (Nat.le_of_ble_eq_true rfl) (Nat.le_of_ble_eq_true rfl) (by decide) (RR.toV H (fun s3 H => ?_))
  show RR 1 4 mX6_laysTold 12 [(0, .ref 0)] [] s3 _
  exact RR.vret dX6_laysTold_12 rfl ⟨rfl, H⟩
set_option maxRecDepth 20000 in
theorem b_X6_allowsOf {σ : r_St} {K : Int32 → r_St → Prop} {x1 : Int32} {x2 : Int32}  (H : M_X6_laysTold σ (fun s1 => ∃ j2 : Nat, (40 * x2) + x1 = nI j2 ∧ j2 < 80 ∧ K (s1.1 15 j2) s1)) : M_X6_allowsOf σ K x1 x2 := by
  show RR 1 5 mX6_allowsOf 0 [(0, .ref 0), (1, .int x1), (2, .int x2)] [] σ (rI K)
  refine RR.s2 (pc' := 1) (lv' := [(0, .ref 0), (1, .int x1), (2, .int x2)]) (st' := [.ref 0]) dX6_allowsOf_0 rfl ?_
  refine RR.cV dX6_allowsOf_1 ml_X6_194 rfl rfl (as := []) (rest := []) rfl rfl (Nat.le_of_ble_eq_true rfl) (Nat.le_of_ble_eq_true rfl) (by decide) (RR.toV H (fun s1 H => ?_))
  show RR 1 5 mX6_allowsOf 4 [(0, .ref 0), (1, .int x1), (2, .int x2)] [] s1 _
  refine RR.s2 (pc' := 5) (lv' := [(0, .ref 0), (1, .int x1), (2, .int x2)]) (st' := [.ref 0]) dX6_allowsOf_4 rfl ?_
  refine RR.getR dX6_allowsOf_5 fl_X6_52 rfl rfl ?_
  refine RR.bp (v := 40) dX6_allowsOf_8 (by decide) ?_
  refine RR.s2 (pc' := 11) (lv' := [(0, .ref 0), (1, .int x1), (2, .int x2)]) (st' := [.int x2, .int 40, .ref 15]) dX6_allowsOf_10 rfl ?_
  refine RR.s2 (pc' := 12) (lv' := [(0, .ref 0), (1, .int x1), (2, .int x2)]) (st' := [.int (40 * x2), .ref 15]) dX6_allowsOf_11 rfl ?_
  refine RR.s2 (pc' := 13) (lv' := [(0, .ref 0), (1, .int x1), (2, .int x2)]) (st' := [.int x1, .int (40 * x2), .ref 15]) dX6_allowsOf_12 rfl ?_
  refine RR.s2 (pc' := 14) (lv' := [(0, .ref 0), (1, .int x1), (2, .int x2)]) (st' := [.int ((40 * x2) + x1), .ref 15]) dX6_allowsOf_13 rfl ?_
  obtain ⟨j2, e3, b4, H⟩ := H
  refine RR.iald dX6_allowsOf_14 rfl e3 b4 ?_
  exact RR.iret dX6_allowsOf_15 rfl ⟨_, rfl, H⟩
set_option maxRecDepth 20000 in
theorem b_X6_allows {σ : r_St} {K : Int32 → r_St → Prop} {x1 : Int32} {x2 : Int32}  (H : (IN x1 0 39 → ((IN x2 0 1 → M_X6_allowsOf σ (fun v2 s1 => K v2 s1) x1 x2) ∧ (¬ IN x2 0 1 → K (-2) σ))) ∧ (¬ IN x1 0 39 → K (-2) σ)) : M_X6_allows σ K x1 x2 := by
  show RR 1 6 mX6_allows 0 [(0, .ref 0), (1, .int x1), (2, .int x2)] [] σ (rI K)
  refine RR.s2 (pc' := 1) (lv' := [(0, .ref 0), (1, .int x1), (2, .int x2)]) (st' := [.int x1]) dX6_allows_0 rfl ?_
  refine RR.cS dX6_allows_1 ml_X6_151 (as := [.int x1]) (rest := []) rfl rfl (Nat.le_of_ble_eq_true rfl) (Nat.le_of_ble_eq_true rfl) (by decide) (kb_X6_isDay (fun c => ?_) (fun c => ?_))
  · have H := H.1 c
    show RR 1 6 mX6_allows 4 [(0, .ref 0), (1, .int x1), (2, .int x2)] [.int 1] σ _
    refine RR.brF dX6_allows_4 rfl (by decide) ?_
    refine RR.s2 (pc' := 8) (lv' := [(0, .ref 0), (1, .int x1), (2, .int x2)]) (st' := [.int x2]) dX6_allows_7 rfl ?_
    refine RR.cS dX6_allows_8 ml_X6_145 (as := [.int x2]) (rest := []) rfl rfl (Nat.le_of_ble_eq_true rfl) (Nat.le_of_ble_eq_true rfl) (by decide) (kb_X6_isTwo (fun c => ?_) (fun c => ?_))
    · have H := H.1 c
      show RR 1 6 mX6_allows 11 [(0, .ref 0), (1, .int x1), (2, .int x2)] [.int 1] σ _
      refine RR.brF dX6_allows_11 rfl (by decide) ?_
      refine RR.s2 (pc' := 15) (lv' := [(0, .ref 0), (1, .int x1), (2, .int x2)]) (st' := [.ref 0]) dX6_allows_14 rfl ?_
      refine RR.s2 (pc' := 16) (lv' := [(0, .ref 0), (1, .int x1), (2, .int x2)]) (st' := [.int x1, .ref 0]) dX6_allows_15 rfl ?_
      refine RR.s2 (pc' := 17) (lv' := [(0, .ref 0), (1, .int x1), (2, .int x2)]) (st' := [.int x2, .int x1, .ref 0]) dX6_allows_16 rfl ?_
      refine RR.cV dX6_allows_17 ml_X6_197 rfl rfl (as := [.int x1, .int x2]) (rest := []) rfl rfl (Nat.le_of_ble_eq_true rfl) (Nat.le_of_ble_eq_true rfl) (by decide) (RR.toI H (fun v2 s1 H => ?_))
      show RR 1 6 mX6_allows 20 [(0, .ref 0), (1, .int x1), (2, .int x2)] [.int v2] s1 _
      refine RR.s2 (pc' := 25) (lv' := [(0, .ref 0), (1, .int x1), (2, .int x2)]) (st' := [.int v2]) dX6_allows_20 rfl ?_
      exact RR.iret dX6_allows_25 rfl ⟨_, rfl, H⟩
    · have H := H.2 c
      show RR 1 6 mX6_allows 11 [(0, .ref 0), (1, .int x1), (2, .int x2)] [.int 0] σ _
      refine RR.brT dX6_allows_11 rfl (by decide) ?_
      refine RR.bp (v := (-2)) dX6_allows_23 (by decide) ?_
      exact RR.iret dX6_allows_25 rfl ⟨_, rfl, H⟩
  · have H := H.2 c
    show RR 1 6 mX6_allows 4 [(0, .ref 0), (1, .int x1), (2, .int x2)] [.int 0] σ _
    refine RR.brT dX6_allows_4 rfl (by decide) ?_
    refine RR.bp (v := (-2)) dX6_allows_23 (by decide) ?_
    exact RR.iret dX6_allows_25 rfl ⟨_, rfl, H⟩
set_option maxRecDepth 20000 in
theorem b_X6_allowedOf {σ : r_St} {K : Int32 → r_St → Prop} {x1 : Int32}  (H : M_X6_laysTold σ (fun s1 => ∃ j2 : Nat, x1 = nI j2 ∧ j2 < 40 ∧ K (s1.1 16 j2) s1)) : M_X6_allowedOf σ K x1 := by
  show RR 1 5 mX6_allowedOf 0 [(0, .ref 0), (1, .int x1)] [] σ (rI K)
  refine RR.s2 (pc' := 1) (lv' := [(0, .ref 0), (1, .int x1)]) (st' := [.ref 0]) dX6_allowedOf_0 rfl ?_
  refine RR.cV dX6_allowedOf_1 ml_X6_194 rfl rfl (as := []) (rest := []) rfl rfl (Nat.le_of_ble_eq_true rfl) (Nat.le_of_ble_eq_true rfl) (by decide) (RR.toV H (fun s1 H => ?_))
  show RR 1 5 mX6_allowedOf 4 [(0, .ref 0), (1, .int x1)] [] s1 _
  refine RR.s2 (pc' := 5) (lv' := [(0, .ref 0), (1, .int x1)]) (st' := [.ref 0]) dX6_allowedOf_4 rfl ?_
  refine RR.getR dX6_allowedOf_5 fl_X6_55 rfl rfl ?_
  refine RR.s2 (pc' := 9) (lv' := [(0, .ref 0), (1, .int x1)]) (st' := [.int x1, .ref 16]) dX6_allowedOf_8 rfl ?_
  obtain ⟨j2, e3, b4, H⟩ := H
  refine RR.iald dX6_allowedOf_9 rfl e3 b4 ?_
  exact RR.iret dX6_allowedOf_10 rfl ⟨_, rfl, H⟩
