/-! ===== block lemmas (written by mk.py) ===== -/
set_option maxRecDepth 20000 in
theorem b_X5_type {σ : r_St} {K : Int32 → r_St → Prop} {x1 : Int32}  (H : (IN x1 0 255 → M_X0_append σ (fun v2 s1 => K v2 (wI s1 0 15 1)) x1) ∧ (¬ IN x1 0 255 → K (-2) σ)) : M_X5_type σ K x1 := by
  show RR 0 6 mX5_type 0 [(0, .ref 0), (1, .int x1)] [] σ (rI K)
  refine RR.s2 (pc' := 1) (lv' := [(0, .ref 0), (1, .int x1)]) (st' := [.int x1]) dX5_type_0 rfl ?_
  refine RR.ic (v := 0) dX5_type_1 (by decide) ?_
  refine RR.sp (v := 255) dX5_type_2 (by decide) ?_
  refine RR.cS dX5_type_5 ml_X5_71 (as := [.int x1, .int 0, .int 255]) (rest := []) rfl rfl (Nat.le_of_ble_eq_true rfl) (Nat.le_of_ble_eq_true rfl) (by decide) (kb_X5_within (fun c => ?_) (fun c => ?_))
  · have H := H.1 c
    show RR 0 6 mX5_type 8 [(0, .ref 0), (1, .int x1)] [.int 1] σ _
    refine RR.brT dX5_type_8 rfl (by decide) ?_
    refine RR.s2 (pc' := 15) (lv' := [(0, .ref 0), (1, .int x1)]) (st' := [.ref 0]) dX5_type_14 rfl ?_
    refine RR.s2 (pc' := 16) (lv' := [(0, .ref 0), (1, .int x1)]) (st' := [.ref 0, .ref 0]) dX5_type_15 rfl ?_
    refine RR.getR dX5_type_16 fl_X5_12 rfl rfl ?_
    refine RR.s2 (pc' := 20) (lv' := [(0, .ref 0), (1, .int x1)]) (st' := [.int x1, .ref 1, .ref 0]) dX5_type_19 rfl ?_
    refine RR.cV dX5_type_20 ml_X5_75 rfl rfl (as := [.int x1]) (rest := [.ref 0]) rfl rfl (Nat.le_of_ble_eq_true rfl) (Nat.le_of_ble_eq_true rfl) (by decide) (RR.toI H (fun v2 s1 H => ?_))
    show RR 0 6 mX5_type 23 [(0, .ref 0), (1, .int x1)] [.int v2, .ref 0] s1 _
    refine RR.cV (d' := 1) dX5_type_23 ml_X5_79 rfl rfl (as := [.int v2]) (rest := []) rfl rfl (Nat.le_of_ble_eq_true rfl) (Nat.le_of_ble_eq_true rfl) (by decide) ?_
    show RR 0 1 mX5_changed 0 [(0, .ref 0), (1, .int v2)] [] s1 _
    refine RR.s2 (pc' := 1) (lv' := [(0, .ref 0), (1, .int v2)]) (st' := [.ref 0]) dX5_changed_0 rfl ?_
    refine RR.ic (v := 1) dX5_changed_1 (by decide) ?_
    refine RR.putT dX5_changed_2 fp_X5_66 rfl rfl (by decide) (by decide) ?_
    refine RR.s2 (pc' := 6) (lv' := [(0, .ref 0), (1, .int v2)]) (st' := [.int v2]) dX5_changed_5 rfl ?_
    refine RR.iret dX5_changed_6 rfl ?_
    show RR 0 6 mX5_type 26 [(0, .ref 0), (1, .int x1)] [.int v2] (wI s1 0 15 1) _
    exact RR.iret dX5_type_26 rfl ⟨_, rfl, H⟩
  · have H := H.2 c
    show RR 0 6 mX5_type 8 [(0, .ref 0), (1, .int x1)] [.int 0] σ _
    refine RR.brF dX5_type_8 rfl (by decide) ?_
    refine RR.bp (v := (-2)) dX5_type_11 (by decide) ?_
    exact RR.iret dX5_type_13 rfl ⟨_, rfl, H⟩
set_option maxRecDepth 20000 in
theorem b_X5_wipe {σ : r_St} {K : Int32 → r_St → Prop}  (H : M_X0_clear σ (fun v2 s1 => K v2 (wI s1 0 15 1))) : M_X5_wipe σ K := by
  show RR 0 6 mX5_wipe 0 [(0, .ref 0)] [] σ (rI K)
  refine RR.s2 (pc' := 1) (lv' := [(0, .ref 0)]) (st' := [.ref 0]) dX5_wipe_0 rfl ?_
  refine RR.s2 (pc' := 2) (lv' := [(0, .ref 0)]) (st' := [.ref 0, .ref 0]) dX5_wipe_1 rfl ?_
  refine RR.getR dX5_wipe_2 fl_X5_12 rfl rfl ?_
  refine RR.cV dX5_wipe_5 ml_X5_82 rfl rfl (as := []) (rest := [.ref 0]) rfl rfl (Nat.le_of_ble_eq_true rfl) (Nat.le_of_ble_eq_true rfl) (by decide) (RR.toI H (fun v2 s1 H => ?_))
  show RR 0 6 mX5_wipe 8 [(0, .ref 0)] [.int v2, .ref 0] s1 _
  refine RR.cV (d' := 1) dX5_wipe_8 ml_X5_79 rfl rfl (as := [.int v2]) (rest := []) rfl rfl (Nat.le_of_ble_eq_true rfl) (Nat.le_of_ble_eq_true rfl) (by decide) ?_
  show RR 0 1 mX5_changed 0 [(0, .ref 0), (1, .int v2)] [] s1 _
  refine RR.s2 (pc' := 1) (lv' := [(0, .ref 0), (1, .int v2)]) (st' := [.ref 0]) dX5_changed_0 rfl ?_
  refine RR.ic (v := 1) dX5_changed_1 (by decide) ?_
  refine RR.putT dX5_changed_2 fp_X5_66 rfl rfl (by decide) (by decide) ?_
  refine RR.s2 (pc' := 6) (lv' := [(0, .ref 0), (1, .int v2)]) (st' := [.int v2]) dX5_changed_5 rfl ?_
  refine RR.iret dX5_changed_6 rfl ?_
  show RR 0 6 mX5_wipe 11 [(0, .ref 0)] [.int v2] (wI s1 0 15 1) _
  exact RR.iret dX5_wipe_11 rfl ⟨_, rfl, H⟩
set_option maxRecDepth 20000 in
theorem b_X5_undo {σ : r_St} {K : Int32 → r_St → Prop}  (H : M_X0_dropLast σ (fun v2 s1 => K v2 (wI s1 0 15 1))) : M_X5_undo σ K := by
  show RR 0 6 mX5_undo 0 [(0, .ref 0)] [] σ (rI K)
  refine RR.s2 (pc' := 1) (lv' := [(0, .ref 0)]) (st' := [.ref 0]) dX5_undo_0 rfl ?_
  refine RR.s2 (pc' := 2) (lv' := [(0, .ref 0)]) (st' := [.ref 0, .ref 0]) dX5_undo_1 rfl ?_
  refine RR.getR dX5_undo_2 fl_X5_12 rfl rfl ?_
  refine RR.cV dX5_undo_5 ml_X5_86 rfl rfl (as := []) (rest := [.ref 0]) rfl rfl (Nat.le_of_ble_eq_true rfl) (Nat.le_of_ble_eq_true rfl) (by decide) (RR.toI H (fun v2 s1 H => ?_))
  show RR 0 6 mX5_undo 8 [(0, .ref 0)] [.int v2, .ref 0] s1 _
  refine RR.cV (d' := 1) dX5_undo_8 ml_X5_79 rfl rfl (as := [.int v2]) (rest := []) rfl rfl (Nat.le_of_ble_eq_true rfl) (Nat.le_of_ble_eq_true rfl) (by decide) ?_
  show RR 0 1 mX5_changed 0 [(0, .ref 0), (1, .int v2)] [] s1 _
  refine RR.s2 (pc' := 1) (lv' := [(0, .ref 0), (1, .int v2)]) (st' := [.ref 0]) dX5_changed_0 rfl ?_
  refine RR.ic (v := 1) dX5_changed_1 (by decide) ?_
  refine RR.putT dX5_changed_2 fp_X5_66 rfl rfl (by decide) (by decide) ?_
  refine RR.s2 (pc' := 6) (lv' := [(0, .ref 0), (1, .int v2)]) (st' := [.int v2]) dX5_changed_5 rfl ?_
  refine RR.iret dX5_changed_6 rfl ?_
  show RR 0 6 mX5_undo 11 [(0, .ref 0)] [.int v2] (wI s1 0 15 1) _
  exact RR.iret dX5_undo_11 rfl ⟨_, rfl, H⟩
set_option maxRecDepth 20000 in
theorem b_X5_fault {σ : r_St} {K : Int32 → r_St → Prop}  (H : K (σ.1 1 3) σ) : M_X5_fault σ K := by
  show RR 0 2 mX5_fault 0 [(0, .ref 0)] [] σ (rI K)
  refine RR.s2 (pc' := 1) (lv' := [(0, .ref 0)]) (st' := [.ref 0]) dX5_fault_0 rfl ?_
  refine RR.getR dX5_fault_1 fl_X5_12 rfl rfl ?_
  refine RR.cV (d' := 1) dX5_fault_4 ml_X5_89 rfl rfl (as := []) (rest := []) rfl rfl (Nat.le_of_ble_eq_true rfl) (Nat.le_of_ble_eq_true rfl) (by decide) ?_
  show RR 0 1 mX0_faultPlace 0 [(0, .ref 1)] [] σ _
  refine RR.s2 (pc' := 1) (lv' := [(0, .ref 1)]) (st' := [.ref 1]) dX0_faultPlace_0 rfl ?_
  refine RR.getI dX0_faultPlace_1 fl_X0_18 rfl rfl ?_
  refine RR.iret dX0_faultPlace_4 rfl ?_
  show RR 0 2 mX5_fault 7 [(0, .ref 0)] [.int (σ.1 1 3)] σ _
  exact RR.iret dX5_fault_7 rfl ⟨_, rfl, H⟩
set_option maxRecDepth 20000 in
theorem b_X5_deed {σ : r_St} {K : Int32 → r_St → Prop} {x1 : Int32} {x2 : Int32}  (H : (IN x1 0 ((σ.1 1 4) - 1) → ((x2 = 0 → M_X0_fineOf σ (fun v2 s1 => K v2 s1) x1) ∧ (x2 = 1 → K ((iu (σ.1 1 5) x1) &&& 1) σ) ∧ (x2 = 2 → M_X0_youngerBits σ (fun v4 s3 => K ((iu v4 x1) &&& 1) s3) (σ.1 0 12)) ∧ (¬ x2 = 0 ∧ ¬ x2 = 1 ∧ ¬ x2 = 2 → K (-2) σ))) ∧ (¬ IN x1 0 ((σ.1 1 4) - 1) → K (-2) σ)) : M_X5_deed σ K x1 x2 := by
  show RR 0 4 mX5_deed 0 [(0, .ref 0), (1, .int x1), (2, .int x2)] [] σ (rI K)
  refine RR.s2 (pc' := 1) (lv' := [(0, .ref 0), (1, .int x1), (2, .int x2)]) (st' := [.ref 0]) dX5_deed_0 rfl ?_
  refine RR.getR dX5_deed_1 fl_X5_12 rfl rfl ?_
  refine RR.s2 (pc' := 5) (lv' := [(0, .ref 0), (1, .int x1), (2, .int x2)]) (st' := [.int x1, .ref 1]) dX5_deed_4 rfl ?_
  refine RR.cV (d' := 2) dX5_deed_5 ml_X5_92 rfl rfl (as := [.int x1]) (rest := []) rfl rfl (Nat.le_of_ble_eq_true rfl) (Nat.le_of_ble_eq_true rfl) (by decide) ?_
  show RR 0 2 mX0_has 0 [(0, .ref 1), (1, .int x1)] [] σ _
  refine RR.s2 (pc' := 1) (lv' := [(0, .ref 1), (1, .int x1)]) (st' := [.int x1]) dX0_has_0 rfl ?_
  refine RR.ic (v := 0) dX0_has_1 (by decide) ?_
  refine RR.s2 (pc' := 3) (lv' := [(0, .ref 1), (1, .int x1)]) (st' := [.ref 1, .int 0, .int x1]) dX0_has_2 rfl ?_
  refine RR.getI dX0_has_3 fl_X0_25 rfl rfl ?_
  refine RR.ic (v := 1) dX0_has_6 (by decide) ?_
  refine RR.s2 (pc' := 8) (lv' := [(0, .ref 1), (1, .int x1)]) (st' := [.int ((σ.1 1 4) - 1), .int 0, .int x1]) dX0_has_7 rfl ?_
  refine RR.cN dX0_has_8 ml_X0_28 (as := [.int x1, .int 0, .int ((σ.1 1 4) - 1)]) (rest := []) rfl rfl (Nat.le_of_ble_eq_true rfl) (Nat.le_of_ble_eq_true rfl) (by decide) (kb_X5_within (fun c => ?_) (fun c => ?_))
  · have H := H.1 c
    show RR 0 2 mX0_has 11 [(0, .ref 1), (1, .int x1)] [.int 1] σ _
    refine RR.zret dX0_has_11 rfl (by decide) ?_
    show RR 0 4 mX5_deed 8 [(0, .ref 0), (1, .int x1), (2, .int x2)] [.int 1] σ _
    refine RR.brT dX5_deed_8 rfl (by decide) ?_
    refine RR.s2 (pc' := 15) (lv' := [(0, .ref 0), (1, .int x1), (2, .int x2)]) (st' := [.int x2]) dX5_deed_14 rfl ?_
    rcases Classical.em (x2 = 0) with c | n0
    · have H := H.1 c
      refine RR.tsIn (off := 25) (t := 40) dX5_deed_15 (by rw [c]; decide) (by rw [c]; decide) (by rw [c]; rfl) rfl ?_
      refine RR.s2 (pc' := 41) (lv' := [(0, .ref 0), (1, .int x1), (2, .int x2)]) (st' := [.ref 0]) dX5_deed_40 rfl ?_
      refine RR.getR dX5_deed_41 fl_X5_12 rfl rfl ?_
      refine RR.s2 (pc' := 45) (lv' := [(0, .ref 0), (1, .int x1), (2, .int x2)]) (st' := [.int x1, .ref 1]) dX5_deed_44 rfl ?_
      refine RR.cV dX5_deed_45 ml_X5_96 rfl rfl (as := [.int x1]) (rest := []) rfl rfl (Nat.le_of_ble_eq_true rfl) (Nat.le_of_ble_eq_true rfl) (by decide) (RR.toI H (fun v2 s1 H => ?_))
      show RR 0 4 mX5_deed 48 [(0, .ref 0), (1, .int x1), (2, .int x2)] [.int v2] s1 _
      exact RR.iret dX5_deed_48 rfl ⟨_, rfl, H⟩
    rcases Classical.em (x2 = 1) with c | n1
    · have H := H.2.1 c
      refine RR.tsIn (off := 34) (t := 49) dX5_deed_15 (by rw [c]; decide) (by rw [c]; decide) (by rw [c]; rfl) rfl ?_
      refine RR.s2 (pc' := 50) (lv' := [(0, .ref 0), (1, .int x1), (2, .int x2)]) (st' := [.ref 0]) dX5_deed_49 rfl ?_
      refine RR.getR dX5_deed_50 fl_X5_12 rfl rfl ?_
      refine RR.cV (d' := 1) dX5_deed_53 ml_X5_99 rfl rfl (as := []) (rest := []) rfl rfl (Nat.le_of_ble_eq_true rfl) (Nat.le_of_ble_eq_true rfl) (by decide) ?_
      show RR 0 1 mX0_elderBits 0 [(0, .ref 1)] [] σ _
      refine RR.s2 (pc' := 1) (lv' := [(0, .ref 1)]) (st' := [.ref 1]) dX0_elderBits_0 rfl ?_
      refine RR.getI dX0_elderBits_1 fl_X0_36 rfl rfl ?_
      refine RR.iret dX0_elderBits_4 rfl ?_
      show RR 0 4 mX5_deed 56 [(0, .ref 0), (1, .int x1), (2, .int x2)] [.int (σ.1 1 5)] σ _
      refine RR.s2 (pc' := 57) (lv' := [(0, .ref 0), (1, .int x1), (2, .int x2)]) (st' := [.int x1, .int (σ.1 1 5)]) dX5_deed_56 rfl ?_
      refine RR.cS (d' := 1) dX5_deed_57 ml_X5_102 (as := [.int (σ.1 1 5), .int x1]) (rest := []) rfl rfl (Nat.le_of_ble_eq_true rfl) (Nat.le_of_ble_eq_true rfl) (by decide) ?_
      show RR 0 1 mX5_bit 0 [(0, .int (σ.1 1 5)), (1, .int x1)] [] σ _
      refine RR.s2 (pc' := 1) (lv' := [(0, .int (σ.1 1 5)), (1, .int x1)]) (st' := [.int (σ.1 1 5)]) dX5_bit_0 rfl ?_
      refine RR.s2 (pc' := 2) (lv' := [(0, .int (σ.1 1 5)), (1, .int x1)]) (st' := [.int x1, .int (σ.1 1 5)]) dX5_bit_1 rfl ?_
      refine RR.s2 (pc' := 3) (lv' := [(0, .int (σ.1 1 5)), (1, .int x1)]) (st' := [.int (iu (σ.1 1 5) x1)]) dX5_bit_2 rfl ?_
      refine RR.ic (v := 1) dX5_bit_3 (by decide) ?_
      refine RR.s2 (pc' := 5) (lv' := [(0, .int (σ.1 1 5)), (1, .int x1)]) (st' := [.int ((iu (σ.1 1 5) x1) &&& 1)]) dX5_bit_4 rfl ?_
      refine RR.iret dX5_bit_5 rfl ?_
      show RR 0 4 mX5_deed 60 [(0, .ref 0), (1, .int x1), (2, .int x2)] [.int ((iu (σ.1 1 5) x1) &&& 1)] σ _
      exact RR.iret dX5_deed_60 rfl ⟨_, rfl, H⟩
    rcases Classical.em (x2 = 2) with c | n2
    · have H := H.2.2.1 c
      refine RR.tsIn (off := 46) (t := 61) dX5_deed_15 (by rw [c]; decide) (by rw [c]; decide) (by rw [c]; rfl) rfl ?_
      refine RR.s2 (pc' := 62) (lv' := [(0, .ref 0), (1, .int x1), (2, .int x2)]) (st' := [.ref 0]) dX5_deed_61 rfl ?_
      refine RR.getR dX5_deed_62 fl_X5_12 rfl rfl ?_
      refine RR.s2 (pc' := 66) (lv' := [(0, .ref 0), (1, .int x1), (2, .int x2)]) (st' := [.ref 0, .ref 1]) dX5_deed_65 rfl ?_
      refine RR.getI dX5_deed_66 fl_X5_106 rfl rfl ?_
      refine RR.cV dX5_deed_69 ml_X5_110 rfl rfl (as := [.int (σ.1 0 12)]) (rest := []) rfl rfl (Nat.le_of_ble_eq_true rfl) (Nat.le_of_ble_eq_true rfl) (by decide) (RR.toI H (fun v4 s3 H => ?_))
      show RR 0 4 mX5_deed 72 [(0, .ref 0), (1, .int x1), (2, .int x2)] [.int v4] s3 _
      refine RR.s2 (pc' := 73) (lv' := [(0, .ref 0), (1, .int x1), (2, .int x2)]) (st' := [.int x1, .int v4]) dX5_deed_72 rfl ?_
      refine RR.cS (d' := 1) dX5_deed_73 ml_X5_102 (as := [.int v4, .int x1]) (rest := []) rfl rfl (Nat.le_of_ble_eq_true rfl) (Nat.le_of_ble_eq_true rfl) (by decide) ?_
      show RR 0 1 mX5_bit 0 [(0, .int v4), (1, .int x1)] [] s3 _
      refine RR.s2 (pc' := 1) (lv' := [(0, .int v4), (1, .int x1)]) (st' := [.int v4]) dX5_bit_0 rfl ?_
      refine RR.s2 (pc' := 2) (lv' := [(0, .int v4), (1, .int x1)]) (st' := [.int x1, .int v4]) dX5_bit_1 rfl ?_
      refine RR.s2 (pc' := 3) (lv' := [(0, .int v4), (1, .int x1)]) (st' := [.int (iu v4 x1)]) dX5_bit_2 rfl ?_
      refine RR.ic (v := 1) dX5_bit_3 (by decide) ?_
      refine RR.s2 (pc' := 5) (lv' := [(0, .int v4), (1, .int x1)]) (st' := [.int ((iu v4 x1) &&& 1)]) dX5_bit_4 rfl ?_
      refine RR.iret dX5_bit_5 rfl ?_
      show RR 0 4 mX5_deed 76 [(0, .ref 0), (1, .int x1), (2, .int x2)] [.int ((iu v4 x1) &&& 1)] s3 _
      exact RR.iret dX5_deed_76 rfl ⟨_, rfl, H⟩
    have H := H.2.2.2 ⟨n0, n1, n2⟩
    refine RR.tsOut dX5_deed_15 (ts_out3 n0 n1 n2) rfl ?_
    refine RR.bp (v := (-2)) dX5_deed_77 (by decide) ?_
    exact RR.iret dX5_deed_79 rfl ⟨_, rfl, H⟩
  · have H := H.2 c
    show RR 0 2 mX0_has 11 [(0, .ref 1), (1, .int x1)] [.int 0] σ _
    refine RR.zret dX0_has_11 rfl (by decide) ?_
    show RR 0 4 mX5_deed 8 [(0, .ref 0), (1, .int x1), (2, .int x2)] [.int 0] σ _
    refine RR.brF dX5_deed_8 rfl (by decide) ?_
    refine RR.bp (v := (-2)) dX5_deed_11 (by decide) ?_
    exact RR.iret dX5_deed_13 rfl ⟨_, rfl, H⟩
set_option maxRecDepth 20000 in
theorem b_X5_set {σ : r_St} {K : Int32 → r_St → Prop} {x1 : Int32} {x2 : Int32}  (H : (IN x1 0 1 → ((IN x2 0 2 → ((¬ x1 = 0 → K (σ.1 0 13) (wI (wI σ 0 13 x2) 0 15 1)) ∧ (x1 = 0 → K (σ.1 0 12) (wI (wI σ 0 12 x2) 0 15 1)))) ∧ (¬ IN x2 0 2 → K (-2) σ))) ∧ (¬ IN x1 0 1 → K (-2) σ)) : M_X5_set σ K x1 x2 := by
  show RR 0 2 mX5_set 0 [(0, .ref 0), (1, .int x1), (2, .int x2)] [] σ (rI K)
  refine RR.s2 (pc' := 1) (lv' := [(0, .ref 0), (1, .int x1), (2, .int x2)]) (st' := [.int x1]) dX5_set_0 rfl ?_
  refine RR.ic (v := 0) dX5_set_1 (by decide) ?_
  refine RR.ic (v := 1) dX5_set_2 (by decide) ?_
  refine RR.cS dX5_set_3 ml_X5_71 (as := [.int x1, .int 0, .int 1]) (rest := []) rfl rfl (Nat.le_of_ble_eq_true rfl) (Nat.le_of_ble_eq_true rfl) (by decide) (kb_X5_within (fun c => ?_) (fun c => ?_))
  · have H := H.1 c
    show RR 0 2 mX5_set 6 [(0, .ref 0), (1, .int x1), (2, .int x2)] [.int 1] σ _
    refine RR.brF dX5_set_6 rfl (by decide) ?_
    refine RR.s2 (pc' := 10) (lv' := [(0, .ref 0), (1, .int x1), (2, .int x2)]) (st' := [.int x2]) dX5_set_9 rfl ?_
    refine RR.ic (v := 0) dX5_set_10 (by decide) ?_
    refine RR.ic (v := 2) dX5_set_11 (by decide) ?_
    refine RR.cS dX5_set_12 ml_X5_71 (as := [.int x2, .int 0, .int 2]) (rest := []) rfl rfl (Nat.le_of_ble_eq_true rfl) (Nat.le_of_ble_eq_true rfl) (by decide) (kb_X5_within (fun c => ?_) (fun c => ?_))
    · have H := H.1 c
      show RR 0 2 mX5_set 15 [(0, .ref 0), (1, .int x1), (2, .int x2)] [.int 1] σ _
      refine RR.brT dX5_set_15 rfl (by decide) ?_
      refine RR.s2 (pc' := 22) (lv' := [(0, .ref 0), (1, .int x1), (2, .int x2)]) (st' := [.int x1]) dX5_set_21 rfl ?_
      refine RR.br dX5_set_22 rfl (fun c => ?_) (fun c => ?_)
      · have H := H.1 c
        refine RR.s2 (pc' := 39) (lv' := [(0, .ref 0), (1, .int x1), (2, .int x2)]) (st' := [.ref 0]) dX5_set_38 rfl ?_
        refine RR.getI dX5_set_39 fl_X5_113 rfl rfl ?_
        refine RR.s2 (pc' := 43) (lv' := [(0, .ref 0), (1, .int x1), (2, .int x2), (3, .int (σ.1 0 13))]) (st' := []) dX5_set_42 rfl ?_
        refine RR.s2 (pc' := 44) (lv' := [(0, .ref 0), (1, .int x1), (2, .int x2), (3, .int (σ.1 0 13))]) (st' := [.ref 0]) dX5_set_43 rfl ?_
        refine RR.s2 (pc' := 45) (lv' := [(0, .ref 0), (1, .int x1), (2, .int x2), (3, .int (σ.1 0 13))]) (st' := [.int x2, .ref 0]) dX5_set_44 rfl ?_
        refine RR.putI dX5_set_45 fp_X5_113 rfl rfl ?_
        refine RR.s2 (pc' := 49) (lv' := [(0, .ref 0), (1, .int x1), (2, .int x2), (3, .int (σ.1 0 13))]) (st' := [.ref 0]) dX5_set_48 rfl ?_
        refine RR.s2 (pc' := 50) (lv' := [(0, .ref 0), (1, .int x1), (2, .int x2), (3, .int (σ.1 0 13))]) (st' := [.int (σ.1 0 13), .ref 0]) dX5_set_49 rfl ?_
        refine RR.cV (d' := 1) dX5_set_50 ml_X5_79 rfl rfl (as := [.int (σ.1 0 13)]) (rest := []) rfl rfl (Nat.le_of_ble_eq_true rfl) (Nat.le_of_ble_eq_true rfl) (by decide) ?_
        show RR 0 1 mX5_changed 0 [(0, .ref 0), (1, .int (σ.1 0 13))] [] (wI σ 0 13 x2) _
        refine RR.s2 (pc' := 1) (lv' := [(0, .ref 0), (1, .int (σ.1 0 13))]) (st' := [.ref 0]) dX5_changed_0 rfl ?_
        refine RR.ic (v := 1) dX5_changed_1 (by decide) ?_
        refine RR.putT dX5_changed_2 fp_X5_66 rfl rfl (by decide) (by decide) ?_
        refine RR.s2 (pc' := 6) (lv' := [(0, .ref 0), (1, .int (σ.1 0 13))]) (st' := [.int (σ.1 0 13)]) dX5_changed_5 rfl ?_
        refine RR.iret dX5_changed_6 rfl ?_
        show RR 0 2 mX5_set 53 [(0, .ref 0), (1, .int x1), (2, .int x2), (3, .int (σ.1 0 13))] [.int (σ.1 0 13)] (wI (wI σ 0 13 x2) 0 15 1) _
        exact RR.iret dX5_set_53 rfl ⟨_, rfl, H⟩
      · have H := H.2 (Classical.not_not.mp c)
        refine RR.s2 (pc' := 26) (lv' := [(0, .ref 0), (1, .int x1), (2, .int x2)]) (st' := [.ref 0]) dX5_set_25 rfl ?_
        refine RR.getI dX5_set_26 fl_X5_106 rfl rfl ?_
        refine RR.s2 (pc' := 30) (lv' := [(0, .ref 0), (1, .int x1), (2, .int x2), (3, .int (σ.1 0 12))]) (st' := []) dX5_set_29 rfl ?_
        refine RR.s2 (pc' := 31) (lv' := [(0, .ref 0), (1, .int x1), (2, .int x2), (3, .int (σ.1 0 12))]) (st' := [.ref 0]) dX5_set_30 rfl ?_
        refine RR.s2 (pc' := 32) (lv' := [(0, .ref 0), (1, .int x1), (2, .int x2), (3, .int (σ.1 0 12))]) (st' := [.int x2, .ref 0]) dX5_set_31 rfl ?_
        refine RR.putI dX5_set_32 fp_X5_106 rfl rfl ?_
        refine RR.s2 (pc' := 48) (lv' := [(0, .ref 0), (1, .int x1), (2, .int x2), (3, .int (σ.1 0 12))]) (st' := []) dX5_set_35 rfl ?_
        refine RR.s2 (pc' := 49) (lv' := [(0, .ref 0), (1, .int x1), (2, .int x2), (3, .int (σ.1 0 12))]) (st' := [.ref 0]) dX5_set_48 rfl ?_
        refine RR.s2 (pc' := 50) (lv' := [(0, .ref 0), (1, .int x1), (2, .int x2), (3, .int (σ.1 0 12))]) (st' := [.int (σ.1 0 12), .ref 0]) dX5_set_49 rfl ?_
        refine RR.cV (d' := 1) dX5_set_50 ml_X5_79 rfl rfl (as := [.int (σ.1 0 12)]) (rest := []) rfl rfl (Nat.le_of_ble_eq_true rfl) (Nat.le_of_ble_eq_true rfl) (by decide) ?_
        show RR 0 1 mX5_changed 0 [(0, .ref 0), (1, .int (σ.1 0 12))] [] (wI σ 0 12 x2) _
        refine RR.s2 (pc' := 1) (lv' := [(0, .ref 0), (1, .int (σ.1 0 12))]) (st' := [.ref 0]) dX5_changed_0 rfl ?_
        refine RR.ic (v := 1) dX5_changed_1 (by decide) ?_
        refine RR.putT dX5_changed_2 fp_X5_66 rfl rfl (by decide) (by decide) ?_
        refine RR.s2 (pc' := 6) (lv' := [(0, .ref 0), (1, .int (σ.1 0 12))]) (st' := [.int (σ.1 0 12)]) dX5_changed_5 rfl ?_
        refine RR.iret dX5_changed_6 rfl ?_
        show RR 0 2 mX5_set 53 [(0, .ref 0), (1, .int x1), (2, .int x2), (3, .int (σ.1 0 12))] [.int (σ.1 0 12)] (wI (wI σ 0 12 x2) 0 15 1) _
        exact RR.iret dX5_set_53 rfl ⟨_, rfl, H⟩
    · have H := H.2 c
      show RR 0 2 mX5_set 15 [(0, .ref 0), (1, .int x1), (2, .int x2)] [.int 0] σ _
      refine RR.brF dX5_set_15 rfl (by decide) ?_
      refine RR.bp (v := (-2)) dX5_set_18 (by decide) ?_
      exact RR.iret dX5_set_20 rfl ⟨_, rfl, H⟩
  · have H := H.2 c
    show RR 0 2 mX5_set 6 [(0, .ref 0), (1, .int x1), (2, .int x2)] [.int 0] σ _
    refine RR.brT dX5_set_6 rfl (by decide) ?_
    refine RR.bp (v := (-2)) dX5_set_18 (by decide) ?_
    exact RR.iret dX5_set_20 rfl ⟨_, rfl, H⟩
set_option maxRecDepth 20000 in
theorem b_X5_sick {σ : r_St} {K : Int32 → r_St → Prop} {x1 : Int32} {x2 : Int32}  (H : (IN x1 0 1 → ((IN x2 0 39 → M_X3_add 4 8 σ (fun v2 s1 => K v2 (wI s1 0 15 1)) x1 x2 0) ∧ (¬ IN x2 0 39 → K (-2) σ))) ∧ (¬ IN x1 0 1 → K (-2) σ)) : M_X5_sick σ K x1 x2 := by
  show RR 0 3 mX5_sick 0 [(0, .ref 0), (1, .int x1), (2, .int x2)] [] σ (rI K)
  refine RR.s2 (pc' := 1) (lv' := [(0, .ref 0), (1, .int x1), (2, .int x2)]) (st' := [.int x1]) dX5_sick_0 rfl ?_
  refine RR.cS dX5_sick_1 ml_X5_116 (as := [.int x1]) (rest := []) rfl rfl (Nat.le_of_ble_eq_true rfl) (Nat.le_of_ble_eq_true rfl) (by decide) (kb_X5_isKing (fun c => ?_) (fun c => ?_))
  · have H := H.1 c
    show RR 0 3 mX5_sick 4 [(0, .ref 0), (1, .int x1), (2, .int x2)] [.int 1] σ _
    refine RR.brF dX5_sick_4 rfl (by decide) ?_
    refine RR.s2 (pc' := 8) (lv' := [(0, .ref 0), (1, .int x1), (2, .int x2)]) (st' := [.int x2]) dX5_sick_7 rfl ?_
    refine RR.cS dX5_sick_8 ml_X5_119 (as := [.int x2]) (rest := []) rfl rfl (Nat.le_of_ble_eq_true rfl) (Nat.le_of_ble_eq_true rfl) (by decide) (kb_X5_isDay (fun c => ?_) (fun c => ?_))
    · have H := H.1 c
      show RR 0 3 mX5_sick 11 [(0, .ref 0), (1, .int x1), (2, .int x2)] [.int 1] σ _
      refine RR.brT dX5_sick_11 rfl (by decide) ?_
      refine RR.s2 (pc' := 18) (lv' := [(0, .ref 0), (1, .int x1), (2, .int x2)]) (st' := [.ref 0]) dX5_sick_17 rfl ?_
      refine RR.s2 (pc' := 19) (lv' := [(0, .ref 0), (1, .int x1), (2, .int x2)]) (st' := [.ref 0, .ref 0]) dX5_sick_18 rfl ?_
      refine RR.getR dX5_sick_19 fl_X5_21 rfl rfl ?_
      refine RR.s2 (pc' := 23) (lv' := [(0, .ref 0), (1, .int x1), (2, .int x2)]) (st' := [.int x1, .ref 4, .ref 0]) dX5_sick_22 rfl ?_
      refine RR.s2 (pc' := 24) (lv' := [(0, .ref 0), (1, .int x1), (2, .int x2)]) (st' := [.int x2, .int x1, .ref 4, .ref 0]) dX5_sick_23 rfl ?_
      refine RR.ic (v := 0) dX5_sick_24 (by decide) ?_
      refine RR.cV dX5_sick_25 ml_X5_122 rfl rfl (as := [.int x1, .int x2, .int 0]) (rest := [.ref 0]) rfl rfl (Nat.le_of_ble_eq_true rfl) (Nat.le_of_ble_eq_true rfl) (by decide) (RR.toI H (fun v2 s1 H => ?_))
      show RR 0 3 mX5_sick 28 [(0, .ref 0), (1, .int x1), (2, .int x2)] [.int v2, .ref 0] s1 _
      refine RR.cV (d' := 1) dX5_sick_28 ml_X5_79 rfl rfl (as := [.int v2]) (rest := []) rfl rfl (Nat.le_of_ble_eq_true rfl) (Nat.le_of_ble_eq_true rfl) (by decide) ?_
      show RR 0 1 mX5_changed 0 [(0, .ref 0), (1, .int v2)] [] s1 _
      refine RR.s2 (pc' := 1) (lv' := [(0, .ref 0), (1, .int v2)]) (st' := [.ref 0]) dX5_changed_0 rfl ?_
      refine RR.ic (v := 1) dX5_changed_1 (by decide) ?_
      refine RR.putT dX5_changed_2 fp_X5_66 rfl rfl (by decide) (by decide) ?_
      refine RR.s2 (pc' := 6) (lv' := [(0, .ref 0), (1, .int v2)]) (st' := [.int v2]) dX5_changed_5 rfl ?_
      refine RR.iret dX5_changed_6 rfl ?_
      show RR 0 3 mX5_sick 31 [(0, .ref 0), (1, .int x1), (2, .int x2)] [.int v2] (wI s1 0 15 1) _
      exact RR.iret dX5_sick_31 rfl ⟨_, rfl, H⟩
    · have H := H.2 c
      show RR 0 3 mX5_sick 11 [(0, .ref 0), (1, .int x1), (2, .int x2)] [.int 0] σ _
      refine RR.brF dX5_sick_11 rfl (by decide) ?_
      refine RR.bp (v := (-2)) dX5_sick_14 (by decide) ?_
      exact RR.iret dX5_sick_16 rfl ⟨_, rfl, H⟩
  · have H := H.2 c
    show RR 0 3 mX5_sick 4 [(0, .ref 0), (1, .int x1), (2, .int x2)] [.int 0] σ _
    refine RR.brT dX5_sick_4 rfl (by decide) ?_
    refine RR.bp (v := (-2)) dX5_sick_14 (by decide) ?_
    exact RR.iret dX5_sick_16 rfl ⟨_, rfl, H⟩
set_option maxRecDepth 20000 in
theorem b_X5_leap {σ : r_St} {K : Int32 → r_St → Prop} {x1 : Int32}  (H : (IN x1 0 39 → M_X3_add 8 4 σ (fun v2 s1 => K v2 (wI s1 0 15 1)) x1 0 0) ∧ (¬ IN x1 0 39 → K (-2) σ)) : M_X5_leap σ K x1 := by
  show RR 0 2 mX5_leap 0 [(0, .ref 0), (1, .int x1)] [] σ (rI K)
  refine RR.s2 (pc' := 1) (lv' := [(0, .ref 0), (1, .int x1)]) (st' := [.int x1]) dX5_leap_0 rfl ?_
  refine RR.cS dX5_leap_1 ml_X5_119 (as := [.int x1]) (rest := []) rfl rfl (Nat.le_of_ble_eq_true rfl) (Nat.le_of_ble_eq_true rfl) (by decide) (kb_X5_isDay (fun c => ?_) (fun c => ?_))
  · have H := H.1 c
    show RR 0 2 mX5_leap 4 [(0, .ref 0), (1, .int x1)] [.int 1] σ _
    refine RR.brT dX5_leap_4 rfl (by decide) ?_
    refine RR.s2 (pc' := 11) (lv' := [(0, .ref 0), (1, .int x1)]) (st' := [.ref 0]) dX5_leap_10 rfl ?_
    refine RR.s2 (pc' := 12) (lv' := [(0, .ref 0), (1, .int x1)]) (st' := [.ref 0, .ref 0]) dX5_leap_11 rfl ?_
    refine RR.getR dX5_leap_12 fl_X5_25 rfl rfl ?_
    refine RR.s2 (pc' := 16) (lv' := [(0, .ref 0), (1, .int x1)]) (st' := [.int x1, .ref 8, .ref 0]) dX5_leap_15 rfl ?_
    refine RR.ic (v := 0) dX5_leap_16 (by decide) ?_
    refine RR.ic (v := 0) dX5_leap_17 (by decide) ?_
    refine RR.cV dX5_leap_18 ml_X5_122 rfl rfl (as := [.int x1, .int 0, .int 0]) (rest := [.ref 0]) rfl rfl (Nat.le_of_ble_eq_true rfl) (Nat.le_of_ble_eq_true rfl) (by decide) (RR.toI H (fun v2 s1 H => ?_))
    show RR 0 2 mX5_leap 21 [(0, .ref 0), (1, .int x1)] [.int v2, .ref 0] s1 _
    refine RR.cV (d' := 1) dX5_leap_21 ml_X5_79 rfl rfl (as := [.int v2]) (rest := []) rfl rfl (Nat.le_of_ble_eq_true rfl) (Nat.le_of_ble_eq_true rfl) (by decide) ?_
    show RR 0 1 mX5_changed 0 [(0, .ref 0), (1, .int v2)] [] s1 _
    refine RR.s2 (pc' := 1) (lv' := [(0, .ref 0), (1, .int v2)]) (st' := [.ref 0]) dX5_changed_0 rfl ?_
    refine RR.ic (v := 1) dX5_changed_1 (by decide) ?_
    refine RR.putT dX5_changed_2 fp_X5_66 rfl rfl (by decide) (by decide) ?_
    refine RR.s2 (pc' := 6) (lv' := [(0, .ref 0), (1, .int v2)]) (st' := [.int v2]) dX5_changed_5 rfl ?_
    refine RR.iret dX5_changed_6 rfl ?_
    show RR 0 2 mX5_leap 24 [(0, .ref 0), (1, .int x1)] [.int v2] (wI s1 0 15 1) _
    exact RR.iret dX5_leap_24 rfl ⟨_, rfl, H⟩
  · have H := H.2 c
    show RR 0 2 mX5_leap 4 [(0, .ref 0), (1, .int x1)] [.int 0] σ _
    refine RR.brF dX5_leap_4 rfl (by decide) ?_
    refine RR.bp (v := (-2)) dX5_leap_7 (by decide) ?_
    exact RR.iret dX5_leap_9 rfl ⟨_, rfl, H⟩
set_option maxRecDepth 20000 in
theorem b_X5_edict {σ : r_St} {K : Int32 → r_St → Prop} {x1 : Int32} {x2 : Int32}  (H : (IN x1 0 39 → ((IN x2 0 7 → M_X3_add 12 10 σ (fun v2 s1 => K v2 (wI s1 0 15 1)) x1 x2 0) ∧ (¬ IN x2 0 7 → K (-2) σ))) ∧ (¬ IN x1 0 39 → K (-2) σ)) : M_X5_edict σ K x1 x2 := by
  show RR 0 3 mX5_edict 0 [(0, .ref 0), (1, .int x1), (2, .int x2)] [] σ (rI K)
  refine RR.s2 (pc' := 1) (lv' := [(0, .ref 0), (1, .int x1), (2, .int x2)]) (st' := [.int x1]) dX5_edict_0 rfl ?_
  refine RR.cS dX5_edict_1 ml_X5_119 (as := [.int x1]) (rest := []) rfl rfl (Nat.le_of_ble_eq_true rfl) (Nat.le_of_ble_eq_true rfl) (by decide) (kb_X5_isDay (fun c => ?_) (fun c => ?_))
  · have H := H.1 c
    show RR 0 3 mX5_edict 4 [(0, .ref 0), (1, .int x1), (2, .int x2)] [.int 1] σ _
    refine RR.brF dX5_edict_4 rfl (by decide) ?_
    refine RR.s2 (pc' := 8) (lv' := [(0, .ref 0), (1, .int x1), (2, .int x2)]) (st' := [.int x2]) dX5_edict_7 rfl ?_
    refine RR.cS dX5_edict_8 ml_X5_126 (as := [.int x2]) (rest := []) rfl rfl (Nat.le_of_ble_eq_true rfl) (Nat.le_of_ble_eq_true rfl) (by decide) (kb_X5_mayBeDeed (fun c => ?_) (fun c => ?_))
    · have H := H.1 c
      show RR 0 3 mX5_edict 11 [(0, .ref 0), (1, .int x1), (2, .int x2)] [.int 1] σ _
      refine RR.brT dX5_edict_11 rfl (by decide) ?_
      refine RR.s2 (pc' := 18) (lv' := [(0, .ref 0), (1, .int x1), (2, .int x2)]) (st' := [.ref 0]) dX5_edict_17 rfl ?_
      refine RR.s2 (pc' := 19) (lv' := [(0, .ref 0), (1, .int x1), (2, .int x2)]) (st' := [.ref 0, .ref 0]) dX5_edict_18 rfl ?_
      refine RR.getR dX5_edict_19 fl_X5_28 rfl rfl ?_
      refine RR.s2 (pc' := 23) (lv' := [(0, .ref 0), (1, .int x1), (2, .int x2)]) (st' := [.int x1, .ref 12, .ref 0]) dX5_edict_22 rfl ?_
      refine RR.s2 (pc' := 24) (lv' := [(0, .ref 0), (1, .int x1), (2, .int x2)]) (st' := [.int x2, .int x1, .ref 12, .ref 0]) dX5_edict_23 rfl ?_
      refine RR.ic (v := 0) dX5_edict_24 (by decide) ?_
      refine RR.cV dX5_edict_25 ml_X5_122 rfl rfl (as := [.int x1, .int x2, .int 0]) (rest := [.ref 0]) rfl rfl (Nat.le_of_ble_eq_true rfl) (Nat.le_of_ble_eq_true rfl) (by decide) (RR.toI H (fun v2 s1 H => ?_))
      show RR 0 3 mX5_edict 28 [(0, .ref 0), (1, .int x1), (2, .int x2)] [.int v2, .ref 0] s1 _
      refine RR.cV (d' := 1) dX5_edict_28 ml_X5_79 rfl rfl (as := [.int v2]) (rest := []) rfl rfl (Nat.le_of_ble_eq_true rfl) (Nat.le_of_ble_eq_true rfl) (by decide) ?_
      show RR 0 1 mX5_changed 0 [(0, .ref 0), (1, .int v2)] [] s1 _
      refine RR.s2 (pc' := 1) (lv' := [(0, .ref 0), (1, .int v2)]) (st' := [.ref 0]) dX5_changed_0 rfl ?_
      refine RR.ic (v := 1) dX5_changed_1 (by decide) ?_
      refine RR.putT dX5_changed_2 fp_X5_66 rfl rfl (by decide) (by decide) ?_
      refine RR.s2 (pc' := 6) (lv' := [(0, .ref 0), (1, .int v2)]) (st' := [.int v2]) dX5_changed_5 rfl ?_
      refine RR.iret dX5_changed_6 rfl ?_
      show RR 0 3 mX5_edict 31 [(0, .ref 0), (1, .int x1), (2, .int x2)] [.int v2] (wI s1 0 15 1) _
      exact RR.iret dX5_edict_31 rfl ⟨_, rfl, H⟩
    · have H := H.2 c
      show RR 0 3 mX5_edict 11 [(0, .ref 0), (1, .int x1), (2, .int x2)] [.int 0] σ _
      refine RR.brF dX5_edict_11 rfl (by decide) ?_
      refine RR.bp (v := (-2)) dX5_edict_14 (by decide) ?_
      exact RR.iret dX5_edict_16 rfl ⟨_, rfl, H⟩
  · have H := H.2 c
    show RR 0 3 mX5_edict 4 [(0, .ref 0), (1, .int x1), (2, .int x2)] [.int 0] σ _
    refine RR.brT dX5_edict_4 rfl (by decide) ?_
    refine RR.bp (v := (-2)) dX5_edict_14 (by decide) ?_
    exact RR.iret dX5_edict_16 rfl ⟨_, rfl, H⟩
set_option maxRecDepth 20000 in
theorem b_X5_does {σ : r_St} {K : Int32 → r_St → Prop} {x1 : Int32} {x2 : Int32} {x3 : Int32}  (H : (IN x1 0 39 → ((IN x2 0 7 → ((IN x3 1 5 → ((IN ((x1 + x3) - 1) 0 39 → M_X3_add 16 12 σ (fun v2 s1 => K v2 s1) x1 x2 x3) ∧ (¬ IN ((x1 + x3) - 1) 0 39 → K (-2) σ))) ∧ (¬ IN x3 1 5 → K (-2) σ))) ∧ (¬ IN x2 0 7 → K (-2) σ))) ∧ (¬ IN x1 0 39 → K (-2) σ)) : M_X5_does σ K x1 x2 x3 := by
  show RR 0 3 mX5_does 0 [(0, .ref 0), (1, .int x1), (2, .int x2), (3, .int x3)] [] σ (rI K)
  refine RR.s2 (pc' := 1) (lv' := [(0, .ref 0), (1, .int x1), (2, .int x2), (3, .int x3)]) (st' := [.int x1]) dX5_does_0 rfl ?_
  refine RR.cS dX5_does_1 ml_X5_119 (as := [.int x1]) (rest := []) rfl rfl (Nat.le_of_ble_eq_true rfl) (Nat.le_of_ble_eq_true rfl) (by decide) (kb_X5_isDay (fun c => ?_) (fun c => ?_))
  · have H := H.1 c
    show RR 0 3 mX5_does 4 [(0, .ref 0), (1, .int x1), (2, .int x2), (3, .int x3)] [.int 1] σ _
    refine RR.brF dX5_does_4 rfl (by decide) ?_
    refine RR.s2 (pc' := 8) (lv' := [(0, .ref 0), (1, .int x1), (2, .int x2), (3, .int x3)]) (st' := [.int x2]) dX5_does_7 rfl ?_
    refine RR.cS dX5_does_8 ml_X5_126 (as := [.int x2]) (rest := []) rfl rfl (Nat.le_of_ble_eq_true rfl) (Nat.le_of_ble_eq_true rfl) (by decide) (kb_X5_mayBeDeed (fun c => ?_) (fun c => ?_))
    · have H := H.1 c
      show RR 0 3 mX5_does 11 [(0, .ref 0), (1, .int x1), (2, .int x2), (3, .int x3)] [.int 1] σ _
      refine RR.brF dX5_does_11 rfl (by decide) ?_
      refine RR.s2 (pc' := 15) (lv' := [(0, .ref 0), (1, .int x1), (2, .int x2), (3, .int x3)]) (st' := [.int x3]) dX5_does_14 rfl ?_
      refine RR.ic (v := 1) dX5_does_15 (by decide) ?_
      refine RR.ic (v := 5) dX5_does_16 (by decide) ?_
      refine RR.cS dX5_does_17 ml_X5_71 (as := [.int x3, .int 1, .int 5]) (rest := []) rfl rfl (Nat.le_of_ble_eq_true rfl) (Nat.le_of_ble_eq_true rfl) (by decide) (kb_X5_within (fun c => ?_) (fun c => ?_))
      · have H := H.1 c
        show RR 0 3 mX5_does 20 [(0, .ref 0), (1, .int x1), (2, .int x2), (3, .int x3)] [.int 1] σ _
        refine RR.brF dX5_does_20 rfl (by decide) ?_
        refine RR.s2 (pc' := 24) (lv' := [(0, .ref 0), (1, .int x1), (2, .int x2), (3, .int x3)]) (st' := [.int x1]) dX5_does_23 rfl ?_
        refine RR.s2 (pc' := 25) (lv' := [(0, .ref 0), (1, .int x1), (2, .int x2), (3, .int x3)]) (st' := [.int x3, .int x1]) dX5_does_24 rfl ?_
        refine RR.s2 (pc' := 26) (lv' := [(0, .ref 0), (1, .int x1), (2, .int x2), (3, .int x3)]) (st' := [.int (x1 + x3)]) dX5_does_25 rfl ?_
        refine RR.ic (v := 1) dX5_does_26 (by decide) ?_
        refine RR.s2 (pc' := 28) (lv' := [(0, .ref 0), (1, .int x1), (2, .int x2), (3, .int x3)]) (st' := [.int ((x1 + x3) - 1)]) dX5_does_27 rfl ?_
        refine RR.cS dX5_does_28 ml_X5_119 (as := [.int ((x1 + x3) - 1)]) (rest := []) rfl rfl (Nat.le_of_ble_eq_true rfl) (Nat.le_of_ble_eq_true rfl) (by decide) (kb_X5_isDay (fun c => ?_) (fun c => ?_))
        · have H := H.1 c
          show RR 0 3 mX5_does 31 [(0, .ref 0), (1, .int x1), (2, .int x2), (3, .int x3)] [.int 1] σ _
          refine RR.brT dX5_does_31 rfl (by decide) ?_
          refine RR.s2 (pc' := 38) (lv' := [(0, .ref 0), (1, .int x1), (2, .int x2), (3, .int x3)]) (st' := [.ref 0]) dX5_does_37 rfl ?_
          refine RR.getR dX5_does_38 fl_X5_31 rfl rfl ?_
          refine RR.s2 (pc' := 42) (lv' := [(0, .ref 0), (1, .int x1), (2, .int x2), (3, .int x3)]) (st' := [.int x1, .ref 16]) dX5_does_41 rfl ?_
          refine RR.s2 (pc' := 43) (lv' := [(0, .ref 0), (1, .int x1), (2, .int x2), (3, .int x3)]) (st' := [.int x2, .int x1, .ref 16]) dX5_does_42 rfl ?_
          refine RR.s2 (pc' := 44) (lv' := [(0, .ref 0), (1, .int x1), (2, .int x2), (3, .int x3)]) (st' := [.int x3, .int x2, .int x1, .ref 16]) dX5_does_43 rfl ?_
          refine RR.cV dX5_does_44 ml_X5_122 rfl rfl (as := [.int x1, .int x2, .int x3]) (rest := []) rfl rfl (Nat.le_of_ble_eq_true rfl) (Nat.le_of_ble_eq_true rfl) (by decide) (RR.toI H (fun v2 s1 H => ?_))
          show RR 0 3 mX5_does 47 [(0, .ref 0), (1, .int x1), (2, .int x2), (3, .int x3)] [.int v2] s1 _
          exact RR.iret dX5_does_47 rfl ⟨_, rfl, H⟩
        · have H := H.2 c
          show RR 0 3 mX5_does 31 [(0, .ref 0), (1, .int x1), (2, .int x2), (3, .int x3)] [.int 0] σ _
          refine RR.brF dX5_does_31 rfl (by decide) ?_
          refine RR.bp (v := (-2)) dX5_does_34 (by decide) ?_
          exact RR.iret dX5_does_36 rfl ⟨_, rfl, H⟩
      · have H := H.2 c
        show RR 0 3 mX5_does 20 [(0, .ref 0), (1, .int x1), (2, .int x2), (3, .int x3)] [.int 0] σ _
        refine RR.brT dX5_does_20 rfl (by decide) ?_
        refine RR.bp (v := (-2)) dX5_does_34 (by decide) ?_
        exact RR.iret dX5_does_36 rfl ⟨_, rfl, H⟩
    · have H := H.2 c
      show RR 0 3 mX5_does 11 [(0, .ref 0), (1, .int x1), (2, .int x2), (3, .int x3)] [.int 0] σ _
      refine RR.brT dX5_does_11 rfl (by decide) ?_
      refine RR.bp (v := (-2)) dX5_does_34 (by decide) ?_
      exact RR.iret dX5_does_36 rfl ⟨_, rfl, H⟩
  · have H := H.2 c
    show RR 0 3 mX5_does 4 [(0, .ref 0), (1, .int x1), (2, .int x2), (3, .int x3)] [.int 0] σ _
    refine RR.brT dX5_does_4 rfl (by decide) ?_
    refine RR.bp (v := (-2)) dX5_does_34 (by decide) ?_
    exact RR.iret dX5_does_36 rfl ⟨_, rfl, H⟩
set_option maxRecDepth 20000 in
theorem b_X5_task {σ : r_St} {K : Int32 → r_St → Prop} {x1 : Int32} {x2 : Int32}  (H : (IN x1 0 7 → ((IN x2 1 5 → M_X3_add 20 6 σ (fun v2 s1 => K v2 s1) x1 x2 0) ∧ (¬ IN x2 1 5 → K (-2) σ))) ∧ (¬ IN x1 0 7 → K (-2) σ)) : M_X5_task σ K x1 x2 := by
  show RR 0 3 mX5_task 0 [(0, .ref 0), (1, .int x1), (2, .int x2)] [] σ (rI K)
  refine RR.s2 (pc' := 1) (lv' := [(0, .ref 0), (1, .int x1), (2, .int x2)]) (st' := [.int x1]) dX5_task_0 rfl ?_
  refine RR.cS dX5_task_1 ml_X5_126 (as := [.int x1]) (rest := []) rfl rfl (Nat.le_of_ble_eq_true rfl) (Nat.le_of_ble_eq_true rfl) (by decide) (kb_X5_mayBeDeed (fun c => ?_) (fun c => ?_))
  · have H := H.1 c
    show RR 0 3 mX5_task 4 [(0, .ref 0), (1, .int x1), (2, .int x2)] [.int 1] σ _
    refine RR.brF dX5_task_4 rfl (by decide) ?_
    refine RR.s2 (pc' := 8) (lv' := [(0, .ref 0), (1, .int x1), (2, .int x2)]) (st' := [.int x2]) dX5_task_7 rfl ?_
    refine RR.ic (v := 1) dX5_task_8 (by decide) ?_
    refine RR.ic (v := 5) dX5_task_9 (by decide) ?_
    refine RR.cS dX5_task_10 ml_X5_71 (as := [.int x2, .int 1, .int 5]) (rest := []) rfl rfl (Nat.le_of_ble_eq_true rfl) (Nat.le_of_ble_eq_true rfl) (by decide) (kb_X5_within (fun c => ?_) (fun c => ?_))
    · have H := H.1 c
      show RR 0 3 mX5_task 13 [(0, .ref 0), (1, .int x1), (2, .int x2)] [.int 1] σ _
      refine RR.brT dX5_task_13 rfl (by decide) ?_
      refine RR.s2 (pc' := 20) (lv' := [(0, .ref 0), (1, .int x1), (2, .int x2)]) (st' := [.ref 0]) dX5_task_19 rfl ?_
      refine RR.getR dX5_task_20 fl_X5_34 rfl rfl ?_
      refine RR.s2 (pc' := 24) (lv' := [(0, .ref 0), (1, .int x1), (2, .int x2)]) (st' := [.int x1, .ref 20]) dX5_task_23 rfl ?_
      refine RR.s2 (pc' := 25) (lv' := [(0, .ref 0), (1, .int x1), (2, .int x2)]) (st' := [.int x2, .int x1, .ref 20]) dX5_task_24 rfl ?_
      refine RR.ic (v := 0) dX5_task_25 (by decide) ?_
      refine RR.cV dX5_task_26 ml_X5_122 rfl rfl (as := [.int x1, .int x2, .int 0]) (rest := []) rfl rfl (Nat.le_of_ble_eq_true rfl) (Nat.le_of_ble_eq_true rfl) (by decide) (RR.toI H (fun v2 s1 H => ?_))
      show RR 0 3 mX5_task 29 [(0, .ref 0), (1, .int x1), (2, .int x2)] [.int v2] s1 _
      exact RR.iret dX5_task_29 rfl ⟨_, rfl, H⟩
    · have H := H.2 c
      show RR 0 3 mX5_task 13 [(0, .ref 0), (1, .int x1), (2, .int x2)] [.int 0] σ _
      refine RR.brF dX5_task_13 rfl (by decide) ?_
      refine RR.bp (v := (-2)) dX5_task_16 (by decide) ?_
      exact RR.iret dX5_task_18 rfl ⟨_, rfl, H⟩
  · have H := H.2 c
    show RR 0 3 mX5_task 4 [(0, .ref 0), (1, .int x1), (2, .int x2)] [.int 0] σ _
    refine RR.brT dX5_task_4 rfl (by decide) ?_
    refine RR.bp (v := (-2)) dX5_task_16 (by decide) ?_
    exact RR.iret dX5_task_18 rfl ⟨_, rfl, H⟩
set_option maxRecDepth 20000 in
theorem b_X5_back {σ : r_St} {K : Int32 → r_St → Prop} {x1 : Int32}  (H : (x1 = 0 → M_X3_dropLast 4 8 σ (fun v2 s1 => K v2 (wI s1 0 15 1))) ∧ (x1 = 1 → M_X3_dropLast 8 4 σ (fun v4 s3 => K v4 (wI s3 0 15 1))) ∧ (x1 = 2 → M_X3_dropLast 12 10 σ (fun v6 s5 => K v6 (wI s5 0 15 1))) ∧ (x1 = 3 → M_X3_dropLast 16 12 σ (fun v8 s7 => K v8 (wI s7 0 15 1))) ∧ (x1 = 4 → M_X3_dropLast 20 6 σ (fun v10 s9 => K v10 (wI s9 0 15 1))) ∧ (¬ x1 = 0 ∧ ¬ x1 = 1 ∧ ¬ x1 = 2 ∧ ¬ x1 = 3 ∧ ¬ x1 = 4 → K (-2) σ)) : M_X5_back σ K x1 := by
  show RR 0 2 mX5_back 0 [(0, .ref 0), (1, .int x1)] [] σ (rI K)
  refine RR.s2 (pc' := 1) (lv' := [(0, .ref 0), (1, .int x1)]) (st' := [.ref 0]) dX5_back_0 rfl ?_
  refine RR.s2 (pc' := 2) (lv' := [(0, .ref 0), (1, .int x1)]) (st' := [.int x1, .ref 0]) dX5_back_1 rfl ?_
  refine RR.cV (d' := 1) dX5_back_2 ml_X5_129 rfl rfl (as := [.int x1]) (rest := []) rfl rfl (Nat.le_of_ble_eq_true rfl) (Nat.le_of_ble_eq_true rfl) (by decide) ?_
  show RR 0 1 mX5_undoable 0 [(0, .ref 0), (1, .int x1)] [] σ _
  refine RR.s2 (pc' := 1) (lv' := [(0, .ref 0), (1, .int x1)]) (st' := [.int x1]) dX5_undoable_0 rfl ?_
  rcases Classical.em (x1 = 0) with c | n0
  · have H := H.1 c
    refine RR.tsIn (off := 35) (t := 36) dX5_undoable_1 (by rw [c]; decide) (by rw [c]; decide) (by rw [c]; rfl) rfl ?_
    refine RR.s2 (pc' := 37) (lv' := [(0, .ref 0), (1, .int x1)]) (st' := [.ref 0]) dX5_undoable_36 rfl ?_
    refine RR.getR dX5_undoable_37 fl_X5_21 rfl rfl ?_
    refine RR.aret dX5_undoable_40 rfl ?_
    show RR 0 2 mX5_back 5 [(0, .ref 0), (1, .int x1)] [.ref 4] σ _
    refine RR.s2 (pc' := 6) (lv' := [(0, .ref 0), (1, .int x1), (2, .ref 4)]) (st' := []) dX5_back_5 rfl ?_
    refine RR.s2 (pc' := 7) (lv' := [(0, .ref 0), (1, .int x1), (2, .ref 4)]) (st' := [.ref 4]) dX5_back_6 rfl ?_
    refine RR.s2 (pc' := 13) (lv' := [(0, .ref 0), (1, .int x1), (2, .ref 4)]) (st' := []) dX5_back_7 rfl ?_
    refine RR.s2 (pc' := 14) (lv' := [(0, .ref 0), (1, .int x1), (2, .ref 4)]) (st' := [.ref 0]) dX5_back_13 rfl ?_
    refine RR.s2 (pc' := 15) (lv' := [(0, .ref 0), (1, .int x1), (2, .ref 4)]) (st' := [.ref 4, .ref 0]) dX5_back_14 rfl ?_
    refine RR.cV dX5_back_15 ml_X5_133 rfl rfl (as := []) (rest := [.ref 0]) rfl rfl (Nat.le_of_ble_eq_true rfl) (Nat.le_of_ble_eq_true rfl) (by decide) (RR.toI H (fun v2 s1 H => ?_))
    show RR 0 2 mX5_back 18 [(0, .ref 0), (1, .int x1), (2, .ref 4)] [.int v2, .ref 0] s1 _
    refine RR.cV (d' := 1) dX5_back_18 ml_X5_79 rfl rfl (as := [.int v2]) (rest := []) rfl rfl (Nat.le_of_ble_eq_true rfl) (Nat.le_of_ble_eq_true rfl) (by decide) ?_
    show RR 0 1 mX5_changed 0 [(0, .ref 0), (1, .int v2)] [] s1 _
    refine RR.s2 (pc' := 1) (lv' := [(0, .ref 0), (1, .int v2)]) (st' := [.ref 0]) dX5_changed_0 rfl ?_
    refine RR.ic (v := 1) dX5_changed_1 (by decide) ?_
    refine RR.putT dX5_changed_2 fp_X5_66 rfl rfl (by decide) (by decide) ?_
    refine RR.s2 (pc' := 6) (lv' := [(0, .ref 0), (1, .int v2)]) (st' := [.int v2]) dX5_changed_5 rfl ?_
    refine RR.iret dX5_changed_6 rfl ?_
    show RR 0 2 mX5_back 21 [(0, .ref 0), (1, .int x1), (2, .ref 4)] [.int v2] (wI s1 0 15 1) _
    exact RR.iret dX5_back_21 rfl ⟨_, rfl, H⟩
  rcases Classical.em (x1 = 1) with c | n1
  · have H := H.2.1 c
    refine RR.tsIn (off := 40) (t := 41) dX5_undoable_1 (by rw [c]; decide) (by rw [c]; decide) (by rw [c]; rfl) rfl ?_
    refine RR.s2 (pc' := 42) (lv' := [(0, .ref 0), (1, .int x1)]) (st' := [.ref 0]) dX5_undoable_41 rfl ?_
    refine RR.getR dX5_undoable_42 fl_X5_25 rfl rfl ?_
    refine RR.aret dX5_undoable_45 rfl ?_
    show RR 0 2 mX5_back 5 [(0, .ref 0), (1, .int x1)] [.ref 8] σ _
    refine RR.s2 (pc' := 6) (lv' := [(0, .ref 0), (1, .int x1), (2, .ref 8)]) (st' := []) dX5_back_5 rfl ?_
    refine RR.s2 (pc' := 7) (lv' := [(0, .ref 0), (1, .int x1), (2, .ref 8)]) (st' := [.ref 8]) dX5_back_6 rfl ?_
    refine RR.s2 (pc' := 13) (lv' := [(0, .ref 0), (1, .int x1), (2, .ref 8)]) (st' := []) dX5_back_7 rfl ?_
    refine RR.s2 (pc' := 14) (lv' := [(0, .ref 0), (1, .int x1), (2, .ref 8)]) (st' := [.ref 0]) dX5_back_13 rfl ?_
    refine RR.s2 (pc' := 15) (lv' := [(0, .ref 0), (1, .int x1), (2, .ref 8)]) (st' := [.ref 8, .ref 0]) dX5_back_14 rfl ?_
    refine RR.cV dX5_back_15 ml_X5_133 rfl rfl (as := []) (rest := [.ref 0]) rfl rfl (Nat.le_of_ble_eq_true rfl) (Nat.le_of_ble_eq_true rfl) (by decide) (RR.toI H (fun v4 s3 H => ?_))
    show RR 0 2 mX5_back 18 [(0, .ref 0), (1, .int x1), (2, .ref 8)] [.int v4, .ref 0] s3 _
    refine RR.cV (d' := 1) dX5_back_18 ml_X5_79 rfl rfl (as := [.int v4]) (rest := []) rfl rfl (Nat.le_of_ble_eq_true rfl) (Nat.le_of_ble_eq_true rfl) (by decide) ?_
    show RR 0 1 mX5_changed 0 [(0, .ref 0), (1, .int v4)] [] s3 _
    refine RR.s2 (pc' := 1) (lv' := [(0, .ref 0), (1, .int v4)]) (st' := [.ref 0]) dX5_changed_0 rfl ?_
    refine RR.ic (v := 1) dX5_changed_1 (by decide) ?_
    refine RR.putT dX5_changed_2 fp_X5_66 rfl rfl (by decide) (by decide) ?_
    refine RR.s2 (pc' := 6) (lv' := [(0, .ref 0), (1, .int v4)]) (st' := [.int v4]) dX5_changed_5 rfl ?_
    refine RR.iret dX5_changed_6 rfl ?_
    show RR 0 2 mX5_back 21 [(0, .ref 0), (1, .int x1), (2, .ref 8)] [.int v4] (wI s3 0 15 1) _
    exact RR.iret dX5_back_21 rfl ⟨_, rfl, H⟩
  rcases Classical.em (x1 = 2) with c | n2
  · have H := H.2.2.1 c
    refine RR.tsIn (off := 45) (t := 46) dX5_undoable_1 (by rw [c]; decide) (by rw [c]; decide) (by rw [c]; rfl) rfl ?_
    refine RR.s2 (pc' := 47) (lv' := [(0, .ref 0), (1, .int x1)]) (st' := [.ref 0]) dX5_undoable_46 rfl ?_
    refine RR.getR dX5_undoable_47 fl_X5_28 rfl rfl ?_
    refine RR.aret dX5_undoable_50 rfl ?_
    show RR 0 2 mX5_back 5 [(0, .ref 0), (1, .int x1)] [.ref 12] σ _
    refine RR.s2 (pc' := 6) (lv' := [(0, .ref 0), (1, .int x1), (2, .ref 12)]) (st' := []) dX5_back_5 rfl ?_
    refine RR.s2 (pc' := 7) (lv' := [(0, .ref 0), (1, .int x1), (2, .ref 12)]) (st' := [.ref 12]) dX5_back_6 rfl ?_
    refine RR.s2 (pc' := 13) (lv' := [(0, .ref 0), (1, .int x1), (2, .ref 12)]) (st' := []) dX5_back_7 rfl ?_
    refine RR.s2 (pc' := 14) (lv' := [(0, .ref 0), (1, .int x1), (2, .ref 12)]) (st' := [.ref 0]) dX5_back_13 rfl ?_
    refine RR.s2 (pc' := 15) (lv' := [(0, .ref 0), (1, .int x1), (2, .ref 12)]) (st' := [.ref 12, .ref 0]) dX5_back_14 rfl ?_
    refine RR.cV dX5_back_15 ml_X5_133 rfl rfl (as := []) (rest := [.ref 0]) rfl rfl (Nat.le_of_ble_eq_true rfl) (Nat.le_of_ble_eq_true rfl) (by decide) (RR.toI H (fun v6 s5 H => ?_))
    show RR 0 2 mX5_back 18 [(0, .ref 0), (1, .int x1), (2, .ref 12)] [.int v6, .ref 0] s5 _
    refine RR.cV (d' := 1) dX5_back_18 ml_X5_79 rfl rfl (as := [.int v6]) (rest := []) rfl rfl (Nat.le_of_ble_eq_true rfl) (Nat.le_of_ble_eq_true rfl) (by decide) ?_
    show RR 0 1 mX5_changed 0 [(0, .ref 0), (1, .int v6)] [] s5 _
    refine RR.s2 (pc' := 1) (lv' := [(0, .ref 0), (1, .int v6)]) (st' := [.ref 0]) dX5_changed_0 rfl ?_
    refine RR.ic (v := 1) dX5_changed_1 (by decide) ?_
    refine RR.putT dX5_changed_2 fp_X5_66 rfl rfl (by decide) (by decide) ?_
    refine RR.s2 (pc' := 6) (lv' := [(0, .ref 0), (1, .int v6)]) (st' := [.int v6]) dX5_changed_5 rfl ?_
    refine RR.iret dX5_changed_6 rfl ?_
    show RR 0 2 mX5_back 21 [(0, .ref 0), (1, .int x1), (2, .ref 12)] [.int v6] (wI s5 0 15 1) _
    exact RR.iret dX5_back_21 rfl ⟨_, rfl, H⟩
  rcases Classical.em (x1 = 3) with c | n3
  · have H := H.2.2.2.1 c
    refine RR.tsIn (off := 50) (t := 51) dX5_undoable_1 (by rw [c]; decide) (by rw [c]; decide) (by rw [c]; rfl) rfl ?_
    refine RR.s2 (pc' := 52) (lv' := [(0, .ref 0), (1, .int x1)]) (st' := [.ref 0]) dX5_undoable_51 rfl ?_
    refine RR.getR dX5_undoable_52 fl_X5_31 rfl rfl ?_
    refine RR.aret dX5_undoable_55 rfl ?_
    show RR 0 2 mX5_back 5 [(0, .ref 0), (1, .int x1)] [.ref 16] σ _
    refine RR.s2 (pc' := 6) (lv' := [(0, .ref 0), (1, .int x1), (2, .ref 16)]) (st' := []) dX5_back_5 rfl ?_
    refine RR.s2 (pc' := 7) (lv' := [(0, .ref 0), (1, .int x1), (2, .ref 16)]) (st' := [.ref 16]) dX5_back_6 rfl ?_
    refine RR.s2 (pc' := 13) (lv' := [(0, .ref 0), (1, .int x1), (2, .ref 16)]) (st' := []) dX5_back_7 rfl ?_
    refine RR.s2 (pc' := 14) (lv' := [(0, .ref 0), (1, .int x1), (2, .ref 16)]) (st' := [.ref 0]) dX5_back_13 rfl ?_
    refine RR.s2 (pc' := 15) (lv' := [(0, .ref 0), (1, .int x1), (2, .ref 16)]) (st' := [.ref 16, .ref 0]) dX5_back_14 rfl ?_
    refine RR.cV dX5_back_15 ml_X5_133 rfl rfl (as := []) (rest := [.ref 0]) rfl rfl (Nat.le_of_ble_eq_true rfl) (Nat.le_of_ble_eq_true rfl) (by decide) (RR.toI H (fun v8 s7 H => ?_))
    show RR 0 2 mX5_back 18 [(0, .ref 0), (1, .int x1), (2, .ref 16)] [.int v8, .ref 0] s7 _
    refine RR.cV (d' := 1) dX5_back_18 ml_X5_79 rfl rfl (as := [.int v8]) (rest := []) rfl rfl (Nat.le_of_ble_eq_true rfl) (Nat.le_of_ble_eq_true rfl) (by decide) ?_
    show RR 0 1 mX5_changed 0 [(0, .ref 0), (1, .int v8)] [] s7 _
    refine RR.s2 (pc' := 1) (lv' := [(0, .ref 0), (1, .int v8)]) (st' := [.ref 0]) dX5_changed_0 rfl ?_
    refine RR.ic (v := 1) dX5_changed_1 (by decide) ?_
    refine RR.putT dX5_changed_2 fp_X5_66 rfl rfl (by decide) (by decide) ?_
    refine RR.s2 (pc' := 6) (lv' := [(0, .ref 0), (1, .int v8)]) (st' := [.int v8]) dX5_changed_5 rfl ?_
    refine RR.iret dX5_changed_6 rfl ?_
    show RR 0 2 mX5_back 21 [(0, .ref 0), (1, .int x1), (2, .ref 16)] [.int v8] (wI s7 0 15 1) _
    exact RR.iret dX5_back_21 rfl ⟨_, rfl, H⟩
  rcases Classical.em (x1 = 4) with c | n4
  · have H := H.2.2.2.2.1 c
    refine RR.tsIn (off := 55) (t := 56) dX5_undoable_1 (by rw [c]; decide) (by rw [c]; decide) (by rw [c]; rfl) rfl ?_
    refine RR.s2 (pc' := 57) (lv' := [(0, .ref 0), (1, .int x1)]) (st' := [.ref 0]) dX5_undoable_56 rfl ?_
    refine RR.getR dX5_undoable_57 fl_X5_34 rfl rfl ?_
    refine RR.aret dX5_undoable_60 rfl ?_
    show RR 0 2 mX5_back 5 [(0, .ref 0), (1, .int x1)] [.ref 20] σ _
    refine RR.s2 (pc' := 6) (lv' := [(0, .ref 0), (1, .int x1), (2, .ref 20)]) (st' := []) dX5_back_5 rfl ?_
    refine RR.s2 (pc' := 7) (lv' := [(0, .ref 0), (1, .int x1), (2, .ref 20)]) (st' := [.ref 20]) dX5_back_6 rfl ?_
    refine RR.s2 (pc' := 13) (lv' := [(0, .ref 0), (1, .int x1), (2, .ref 20)]) (st' := []) dX5_back_7 rfl ?_
    refine RR.s2 (pc' := 14) (lv' := [(0, .ref 0), (1, .int x1), (2, .ref 20)]) (st' := [.ref 0]) dX5_back_13 rfl ?_
    refine RR.s2 (pc' := 15) (lv' := [(0, .ref 0), (1, .int x1), (2, .ref 20)]) (st' := [.ref 20, .ref 0]) dX5_back_14 rfl ?_
    refine RR.cV dX5_back_15 ml_X5_133 rfl rfl (as := []) (rest := [.ref 0]) rfl rfl (Nat.le_of_ble_eq_true rfl) (Nat.le_of_ble_eq_true rfl) (by decide) (RR.toI H (fun v10 s9 H => ?_))
    show RR 0 2 mX5_back 18 [(0, .ref 0), (1, .int x1), (2, .ref 20)] [.int v10, .ref 0] s9 _
    refine RR.cV (d' := 1) dX5_back_18 ml_X5_79 rfl rfl (as := [.int v10]) (rest := []) rfl rfl (Nat.le_of_ble_eq_true rfl) (Nat.le_of_ble_eq_true rfl) (by decide) ?_
    show RR 0 1 mX5_changed 0 [(0, .ref 0), (1, .int v10)] [] s9 _
    refine RR.s2 (pc' := 1) (lv' := [(0, .ref 0), (1, .int v10)]) (st' := [.ref 0]) dX5_changed_0 rfl ?_
    refine RR.ic (v := 1) dX5_changed_1 (by decide) ?_
    refine RR.putT dX5_changed_2 fp_X5_66 rfl rfl (by decide) (by decide) ?_
    refine RR.s2 (pc' := 6) (lv' := [(0, .ref 0), (1, .int v10)]) (st' := [.int v10]) dX5_changed_5 rfl ?_
    refine RR.iret dX5_changed_6 rfl ?_
    show RR 0 2 mX5_back 21 [(0, .ref 0), (1, .int x1), (2, .ref 20)] [.int v10] (wI s9 0 15 1) _
    exact RR.iret dX5_back_21 rfl ⟨_, rfl, H⟩
  have H := H.2.2.2.2.2 ⟨n0, n1, n2, n3, n4⟩
  refine RR.tsOut dX5_undoable_1 (ts_out5 n0 n1 n2 n3 n4) rfl ?_
  refine RR.s2 (pc' := 62) (lv' := [(0, .ref 0), (1, .int x1)]) (st' := [.null]) dX5_undoable_61 rfl ?_
  refine RR.aretN dX5_undoable_62 rfl ?_
  show RR 0 2 mX5_back 5 [(0, .ref 0), (1, .int x1)] [.null] σ _
  refine RR.s2 (pc' := 6) (lv' := [(0, .ref 0), (1, .int x1), (2, .null)]) (st' := []) dX5_back_5 rfl ?_
  refine RR.s2 (pc' := 7) (lv' := [(0, .ref 0), (1, .int x1), (2, .null)]) (st' := [.null]) dX5_back_6 rfl ?_
  refine RR.s2 (pc' := 10) (lv' := [(0, .ref 0), (1, .int x1), (2, .null)]) (st' := []) dX5_back_7 rfl ?_
  refine RR.bp (v := (-2)) dX5_back_10 (by decide) ?_
  exact RR.iret dX5_back_12 rfl ⟨_, rfl, H⟩
set_option maxRecDepth 20000 in
theorem b_X5_read {σ : r_St} {K : Int32 → r_St → Prop} {x1 : Int32}  (H : (IN x1 0 3 → (∃ j1 : Nat, x1 = nI j1 ∧ j1 < 4 ∧ ((¬ σ.1 (51 + 2 * j1) 1 = (-1) → R_X5_read_35 σ K (51 + 2 * j1) 0 0) ∧ (σ.1 (51 + 2 * j1) 1 = (-1) → K ((-10) - 1) (wI σ 0 14 1))))) ∧ (¬ IN x1 0 3 → K (-2) σ)) : M_X5_read σ K x1 := by
  show RR 0 4 mX5_read 0 [(0, .ref 0), (1, .int x1)] [] σ (rI K)
  refine RR.s2 (pc' := 1) (lv' := [(0, .ref 0), (1, .int x1)]) (st' := [.int x1]) dX5_read_0 rfl ?_
  refine RR.cS dX5_read_1 ml_X5_134 (as := [.int x1]) (rest := []) rfl rfl (Nat.le_of_ble_eq_true rfl) (Nat.le_of_ble_eq_true rfl) (by decide) (kb_X5_isSheet (fun c => ?_) (fun c => ?_))
  · have H := H.1 c
    show RR 0 4 mX5_read 4 [(0, .ref 0), (1, .int x1)] [.int 1] σ _
    refine RR.brT dX5_read_4 rfl (by decide) ?_
    refine RR.s2 (pc' := 11) (lv' := [(0, .ref 0), (1, .int x1)]) (st' := [.ref 0]) dX5_read_10 rfl ?_
    refine RR.getR dX5_read_11 fl_X5_62 rfl rfl ?_
    refine RR.s2 (pc' := 15) (lv' := [(0, .ref 0), (1, .int x1)]) (st' := [.int x1, .ref 50]) dX5_read_14 rfl ?_
    obtain ⟨j1, e2, b3, H⟩ := H
    refine RR.aald dX5_read_15 rfl e2 b3 (shx b3) ?_
    refine RR.s2 (pc' := 17) (lv' := [(0, .ref 0), (1, .int x1), (2, .ref (51 + 2 * j1))]) (st' := []) dX5_read_16 rfl ?_
    refine RR.s2 (pc' := 18) (lv' := [(0, .ref 0), (1, .int x1), (2, .ref (51 + 2 * j1))]) (st' := [.ref (51 + 2 * j1)]) dX5_read_17 rfl ?_
    refine RR.cV (d' := 1) dX5_read_18 ml_X5_137 (isSheet_at b3).1 rfl (as := []) (rest := []) rfl rfl (Nat.le_of_ble_eq_true rfl) (Nat.le_of_ble_eq_true rfl) (by decide) ?_
    show RR 0 1 mX4_isLost 0 [(0, .ref (51 + 2 * j1))] [] σ _
    refine RR.s2 (pc' := 1) (lv' := [(0, .ref (51 + 2 * j1))]) (st' := [.ref (51 + 2 * j1)]) dX4_isLost_0 rfl ?_
    refine RR.getI dX4_isLost_1 fl_X4_15 (isSheet_at b3).1 rfl ?_
    refine RR.ic (v := (-1)) dX4_isLost_4 (by decide) ?_
    refine RR.br dX4_isLost_5 rfl (fun c => ?_) (fun c => ?_)
    · have H := H.1 c
      refine RR.ic (v := 0) dX4_isLost_12 (by decide) ?_
      refine RR.zret dX4_isLost_13 rfl (by decide) ?_
      show RR 0 4 mX5_read 21 [(0, .ref 0), (1, .int x1), (2, .ref (51 + 2 * j1))] [.int 0] σ _
      refine RR.brT dX5_read_21 rfl (by decide) ?_
      refine RR.ic (v := 0) dX5_read_30 (by decide) ?_
      refine RR.s2 (pc' := 32) (lv' := [(0, .ref 0), (1, .int x1), (2, .ref (51 + 2 * j1)), (3, .int 0)]) (st' := []) dX5_read_31 rfl ?_
      refine RR.ic (v := 0) dX5_read_32 (by decide) ?_
      refine RR.s2 (pc' := 35) (lv' := [(0, .ref 0), (1, .int x1), (2, .ref (51 + 2 * j1)), (3, .int 0), (4, .int 0)]) (st' := []) dX5_read_33 rfl ?_
      exact RR.cut [0, 2, 3, 4] rfl H
    · have H := H.2 (Classical.not_not.mp c)
      refine RR.ic (v := 1) dX4_isLost_8 (by decide) ?_
      refine RR.s2 (pc' := 13) (lv' := [(0, .ref (51 + 2 * j1))]) (st' := [.int 1]) dX4_isLost_9 rfl ?_
      refine RR.zret dX4_isLost_13 rfl (by decide) ?_
      show RR 0 4 mX5_read 21 [(0, .ref 0), (1, .int x1), (2, .ref (51 + 2 * j1))] [.int 1] σ _
      refine RR.brF dX5_read_21 rfl (by decide) ?_
      refine RR.s2 (pc' := 25) (lv' := [(0, .ref 0), (1, .int x1), (2, .ref (51 + 2 * j1))]) (st' := [.ref 0]) dX5_read_24 rfl ?_
      refine RR.ic (v := 1) dX5_read_25 (by decide) ?_
      refine RR.cV (d' := 1) dX5_read_26 ml_X5_141 rfl rfl (as := [.int 1]) (rest := []) rfl rfl (Nat.le_of_ble_eq_true rfl) (Nat.le_of_ble_eq_true rfl) (by decide) ?_
      show RR 0 1 mX5_found 0 [(0, .ref 0), (1, .int 1)] [] σ _
      refine RR.s2 (pc' := 1) (lv' := [(0, .ref 0), (1, .int 1)]) (st' := [.ref 0]) dX5_found_0 rfl ?_
      refine RR.s2 (pc' := 2) (lv' := [(0, .ref 0), (1, .int 1)]) (st' := [.int 1, .ref 0]) dX5_found_1 rfl ?_
      refine RR.putI dX5_found_2 fp_X5_293 rfl rfl ?_
      refine RR.bp (v := (-10)) dX5_found_5 (by decide) ?_
      refine RR.s2 (pc' := 8) (lv' := [(0, .ref 0), (1, .int 1)]) (st' := [.int 1, .int (-10)]) dX5_found_7 rfl ?_
      refine RR.s2 (pc' := 9) (lv' := [(0, .ref 0), (1, .int 1)]) (st' := [.int ((-10) - 1)]) dX5_found_8 rfl ?_
      refine RR.iret dX5_found_9 rfl ?_
      show RR 0 4 mX5_read 29 [(0, .ref 0), (1, .int x1), (2, .ref (51 + 2 * j1))] [.int ((-10) - 1)] (wI σ 0 14 1) _
      exact RR.iret dX5_read_29 rfl ⟨_, rfl, H⟩
  · have H := H.2 c
    show RR 0 4 mX5_read 4 [(0, .ref 0), (1, .int x1)] [.int 0] σ _
    refine RR.brF dX5_read_4 rfl (by decide) ?_
    refine RR.bp (v := (-2)) dX5_read_7 (by decide) ?_
    exact RR.iret dX5_read_9 rfl ⟨_, rfl, H⟩
set_option maxRecDepth 20000 in
theorem b_X5_read_35 {σ : r_St} {K : Int32 → r_St → Prop} {k2 : Nat} {x3 : Int32} {x4 : Int32} (hk2 : isSheet k2) (H : (σ.1 k2 2 ≤ x4 + 1 → K x3 σ) ∧ (¬ (σ.1 k2 2 ≤ x4 + 1) → (M_X4_item k2 σ (fun v2 s1 => M_X4_item k2 s1 (fun v4 s3 => M_X5_edict s3 (fun v6 s5 => (0 ≤ v6 → R_X5_read_35 s5 K k2 (x3 + 1) (x4 + 2)) ∧ (¬ (0 ≤ v6) → K x3 s5)) v2 v4) (x4 + 1)) x4))) : R_X5_read_35 σ K k2 x3 x4 := by
  show RR 0 4 mX5_read 35 [(0, .ref 0), (2, .ref k2), (3, .int x3), (4, .int x4)] [] σ (rI K)
  refine RR.s2 (pc' := 37) (lv' := [(0, .ref 0), (2, .ref k2), (3, .int x3), (4, .int x4)]) (st' := [.int x4]) dX5_read_35 rfl ?_
  refine RR.ic (v := 1) dX5_read_37 (by decide) ?_
  refine RR.s2 (pc' := 39) (lv' := [(0, .ref 0), (2, .ref k2), (3, .int x3), (4, .int x4)]) (st' := [.int (x4 + 1)]) dX5_read_38 rfl ?_
  refine RR.s2 (pc' := 40) (lv' := [(0, .ref 0), (2, .ref k2), (3, .int x3), (4, .int x4)]) (st' := [.ref k2, .int (x4 + 1)]) dX5_read_39 rfl ?_
  refine RR.cV (d' := 1) dX5_read_40 ml_X5_144 hk2.1 rfl (as := []) (rest := [.int (x4 + 1)]) rfl rfl (Nat.le_of_ble_eq_true rfl) (Nat.le_of_ble_eq_true rfl) (by decide) ?_
  show RR 0 1 mX4_size 0 [(0, .ref k2)] [] σ _
  refine RR.s2 (pc' := 1) (lv' := [(0, .ref k2)]) (st' := [.ref k2]) dX4_size_0 rfl ?_
  refine RR.getI dX4_size_1 fl_X4_19 hk2.1 rfl ?_
  refine RR.iret dX4_size_4 rfl ?_
  show RR 0 4 mX5_read 43 [(0, .ref 0), (2, .ref k2), (3, .int x3), (4, .int x4)] [.int (σ.1 k2 2), .int (x4 + 1)] σ _
  refine RR.br dX5_read_43 rfl (fun c => ?_) (fun c => ?_)
  · have H := H.1 c
    refine RR.s2 (pc' := 80) (lv' := [(0, .ref 0), (2, .ref k2), (3, .int x3), (4, .int x4)]) (st' := [.int x3]) dX5_read_79 rfl ?_
    exact RR.iret dX5_read_80 rfl ⟨_, rfl, H⟩
  · have H := H.2 c
    refine RR.s2 (pc' := 47) (lv' := [(0, .ref 0), (2, .ref k2), (3, .int x3), (4, .int x4)]) (st' := [.ref 0]) dX5_read_46 rfl ?_
    refine RR.s2 (pc' := 48) (lv' := [(0, .ref 0), (2, .ref k2), (3, .int x3), (4, .int x4)]) (st' := [.ref k2, .ref 0]) dX5_read_47 rfl ?_
    refine RR.s2 (pc' := 50) (lv' := [(0, .ref 0), (2, .ref k2), (3, .int x3), (4, .int x4)]) (st' := [.int x4, .ref k2, .ref 0]) dX5_read_48 rfl ?_
    refine RR.cV dX5_read_50 ml_X5_147 hk2.1 rfl (as := [.int x4]) (rest := [.ref 0]) rfl rfl (Nat.le_of_ble_eq_true rfl) (Nat.le_of_ble_eq_true rfl) (by decide) (RR.toI H (fun v2 s1 H => ?_))
    show RR 0 4 mX5_read 53 [(0, .ref 0), (2, .ref k2), (3, .int x3), (4, .int x4)] [.int v2, .ref 0] s1 _
    refine RR.s2 (pc' := 54) (lv' := [(0, .ref 0), (2, .ref k2), (3, .int x3), (4, .int x4)]) (st' := [.ref k2, .int v2, .ref 0]) dX5_read_53 rfl ?_
    refine RR.s2 (pc' := 56) (lv' := [(0, .ref 0), (2, .ref k2), (3, .int x3), (4, .int x4)]) (st' := [.int x4, .ref k2, .int v2, .ref 0]) dX5_read_54 rfl ?_
    refine RR.ic (v := 1) dX5_read_56 (by decide) ?_
    refine RR.s2 (pc' := 58) (lv' := [(0, .ref 0), (2, .ref k2), (3, .int x3), (4, .int x4)]) (st' := [.int (x4 + 1), .ref k2, .int v2, .ref 0]) dX5_read_57 rfl ?_
    refine RR.cV dX5_read_58 ml_X5_147 hk2.1 rfl (as := [.int (x4 + 1)]) (rest := [.int v2, .ref 0]) rfl rfl (Nat.le_of_ble_eq_true rfl) (Nat.le_of_ble_eq_true rfl) (by decide) (RR.toI H (fun v4 s3 H => ?_))
    show RR 0 4 mX5_read 61 [(0, .ref 0), (2, .ref k2), (3, .int x3), (4, .int x4)] [.int v4, .int v2, .ref 0] s3 _
    refine RR.cV dX5_read_61 ml_X5_150 rfl rfl (as := [.int v2, .int v4]) (rest := []) rfl rfl (Nat.le_of_ble_eq_true rfl) (Nat.le_of_ble_eq_true rfl) (by decide) (RR.toI H (fun v6 s5 H => ?_))
    show RR 0 4 mX5_read 64 [(0, .ref 0), (2, .ref k2), (3, .int x3), (4, .int x4)] [.int v6] s5 _
    refine RR.br dX5_read_64 rfl (fun c => ?_) (fun c => ?_)
    · have H := H.1 c
      refine RR.inc (c := 1) (lv' := [(0, .ref 0), (2, .ref k2), (3, .int (x3 + 1)), (4, .int x4)]) dX5_read_70 rfl (by decide) (by decide) rfl ?_
      refine RR.inc (c := 2) (lv' := [(0, .ref 0), (2, .ref k2), (3, .int (x3 + 1)), (4, .int (x4 + 2))]) dX5_read_73 rfl (by decide) (by decide) rfl ?_
      refine RR.s2 (pc' := 35) (lv' := [(0, .ref 0), (2, .ref k2), (3, .int (x3 + 1)), (4, .int (x4 + 2))]) (st' := []) dX5_read_76 rfl ?_
      exact RR.cut [0, 1, 2, 3] rfl H
    · have H := H.2 c
      refine RR.s2 (pc' := 79) (lv' := [(0, .ref 0), (2, .ref k2), (3, .int x3), (4, .int x4)]) (st' := []) dX5_read_67 rfl ?_
      refine RR.s2 (pc' := 80) (lv' := [(0, .ref 0), (2, .ref k2), (3, .int x3), (4, .int x4)]) (st' := [.int x3]) dX5_read_79 rfl ?_
      exact RR.iret dX5_read_80 rfl ⟨_, rfl, H⟩
set_option maxRecDepth 20000 in
theorem b_X5_rules {σ : r_St} {K : Int32 → r_St → Prop} {x1 : Int32}  (H : (IN x1 0 39 → M_X5_laws σ (fun s1 => M_X1_rulerOn 32 s1 (fun v3 s2 => K v3 s2) x1)) ∧ (¬ IN x1 0 39 → K (-2) σ)) : M_X5_rules σ K x1 := by
  show RR 0 6 mX5_rules 0 [(0, .ref 0), (1, .int x1)] [] σ (rI K)
  refine RR.s2 (pc' := 1) (lv' := [(0, .ref 0), (1, .int x1)]) (st' := [.int x1]) dX5_rules_0 rfl ?_
  refine RR.cS dX5_rules_1 ml_X5_119 (as := [.int x1]) (rest := []) rfl rfl (Nat.le_of_ble_eq_true rfl) (Nat.le_of_ble_eq_true rfl) (by decide) (kb_X5_isDay (fun c => ?_) (fun c => ?_))
  · have H := H.1 c
    show RR 0 6 mX5_rules 4 [(0, .ref 0), (1, .int x1)] [.int 1] σ _
    refine RR.brF dX5_rules_4 rfl (by decide) ?_
    refine RR.s2 (pc' := 8) (lv' := [(0, .ref 0), (1, .int x1)]) (st' := [.ref 0]) dX5_rules_7 rfl ?_
    refine RR.cV dX5_rules_8 ml_X5_153 rfl rfl (as := []) (rest := []) rfl rfl (Nat.le_of_ble_eq_true rfl) (Nat.le_of_ble_eq_true rfl) (by decide) (RR.toC H (fun s1 H => ?_))
    show RR 0 6 mX5_rules 11 [(0, .ref 0), (1, .int x1)] [.ref 32] s1 _
    refine RR.s2 (pc' := 12) (lv' := [(0, .ref 0), (1, .int x1)]) (st' := [.int x1, .ref 32]) dX5_rules_11 rfl ?_
    refine RR.cV dX5_rules_12 ml_X5_157 rfl rfl (as := [.int x1]) (rest := []) rfl rfl (Nat.le_of_ble_eq_true rfl) (Nat.le_of_ble_eq_true rfl) (by decide) (RR.toI H (fun v3 s2 H => ?_))
    show RR 0 6 mX5_rules 15 [(0, .ref 0), (1, .int x1)] [.int v3] s2 _
    refine RR.s2 (pc' := 20) (lv' := [(0, .ref 0), (1, .int x1)]) (st' := [.int v3]) dX5_rules_15 rfl ?_
    exact RR.iret dX5_rules_20 rfl ⟨_, rfl, H⟩
  · have H := H.2 c
    show RR 0 6 mX5_rules 4 [(0, .ref 0), (1, .int x1)] [.int 0] σ _
    refine RR.brT dX5_rules_4 rfl (by decide) ?_
    refine RR.bp (v := (-2)) dX5_rules_18 (by decide) ?_
    exact RR.iret dX5_rules_20 rfl ⟨_, rfl, H⟩
set_option maxRecDepth 20000 in
theorem b_X5_allows {σ : r_St} {K : Int32 → r_St → Prop} {x1 : Int32} {x2 : Int32}  (H : (IN x1 0 39 → ((IN x2 0 1 → M_X5_laws σ (fun s1 => M_X1_saidOn 32 s1 (fun v3 s2 => K v3 s2) x1 x2)) ∧ (¬ IN x2 0 1 → K (-2) σ))) ∧ (¬ IN x1 0 39 → K (-2) σ)) : M_X5_allows σ K x1 x2 := by
  show RR 0 6 mX5_allows 0 [(0, .ref 0), (1, .int x1), (2, .int x2)] [] σ (rI K)
  refine RR.s2 (pc' := 1) (lv' := [(0, .ref 0), (1, .int x1), (2, .int x2)]) (st' := [.int x1]) dX5_allows_0 rfl ?_
  refine RR.cS dX5_allows_1 ml_X5_119 (as := [.int x1]) (rest := []) rfl rfl (Nat.le_of_ble_eq_true rfl) (Nat.le_of_ble_eq_true rfl) (by decide) (kb_X5_isDay (fun c => ?_) (fun c => ?_))
  · have H := H.1 c
    show RR 0 6 mX5_allows 4 [(0, .ref 0), (1, .int x1), (2, .int x2)] [.int 1] σ _
    refine RR.brF dX5_allows_4 rfl (by decide) ?_
    refine RR.s2 (pc' := 8) (lv' := [(0, .ref 0), (1, .int x1), (2, .int x2)]) (st' := [.int x2]) dX5_allows_7 rfl ?_
    refine RR.cS dX5_allows_8 ml_X5_116 (as := [.int x2]) (rest := []) rfl rfl (Nat.le_of_ble_eq_true rfl) (Nat.le_of_ble_eq_true rfl) (by decide) (kb_X5_isKing (fun c => ?_) (fun c => ?_))
    · have H := H.1 c
      show RR 0 6 mX5_allows 11 [(0, .ref 0), (1, .int x1), (2, .int x2)] [.int 1] σ _
      refine RR.brT dX5_allows_11 rfl (by decide) ?_
      refine RR.s2 (pc' := 18) (lv' := [(0, .ref 0), (1, .int x1), (2, .int x2)]) (st' := [.ref 0]) dX5_allows_17 rfl ?_
      refine RR.cV dX5_allows_18 ml_X5_153 rfl rfl (as := []) (rest := []) rfl rfl (Nat.le_of_ble_eq_true rfl) (Nat.le_of_ble_eq_true rfl) (by decide) (RR.toC H (fun s1 H => ?_))
      show RR 0 6 mX5_allows 21 [(0, .ref 0), (1, .int x1), (2, .int x2)] [.ref 32] s1 _
      refine RR.s2 (pc' := 22) (lv' := [(0, .ref 0), (1, .int x1), (2, .int x2)]) (st' := [.int x1, .ref 32]) dX5_allows_21 rfl ?_
      refine RR.s2 (pc' := 23) (lv' := [(0, .ref 0), (1, .int x1), (2, .int x2)]) (st' := [.int x2, .int x1, .ref 32]) dX5_allows_22 rfl ?_
      refine RR.cV dX5_allows_23 ml_X5_160 rfl rfl (as := [.int x1, .int x2]) (rest := []) rfl rfl (Nat.le_of_ble_eq_true rfl) (Nat.le_of_ble_eq_true rfl) (by decide) (RR.toI H (fun v3 s2 H => ?_))
      show RR 0 6 mX5_allows 26 [(0, .ref 0), (1, .int x1), (2, .int x2)] [.int v3] s2 _
      exact RR.iret dX5_allows_26 rfl ⟨_, rfl, H⟩
    · have H := H.2 c
      show RR 0 6 mX5_allows 11 [(0, .ref 0), (1, .int x1), (2, .int x2)] [.int 0] σ _
      refine RR.brF dX5_allows_11 rfl (by decide) ?_
      refine RR.bp (v := (-2)) dX5_allows_14 (by decide) ?_
      exact RR.iret dX5_allows_16 rfl ⟨_, rfl, H⟩
  · have H := H.2 c
    show RR 0 6 mX5_allows 4 [(0, .ref 0), (1, .int x1), (2, .int x2)] [.int 0] σ _
    refine RR.brT dX5_allows_4 rfl (by decide) ?_
    refine RR.bp (v := (-2)) dX5_allows_14 (by decide) ?_
    exact RR.iret dX5_allows_16 rfl ⟨_, rfl, H⟩
set_option maxRecDepth 20000 in
theorem b_X5_allowed {σ : r_St} {K : Int32 → r_St → Prop} {x1 : Int32}  (H : (IN x1 0 39 → M_X5_laws σ (fun s1 => M_X1_openOn 32 s1 (fun v3 s2 => K v3 s2) x1)) ∧ (¬ IN x1 0 39 → K (-2) σ)) : M_X5_allowed σ K x1 := by
  show RR 0 6 mX5_allowed 0 [(0, .ref 0), (1, .int x1)] [] σ (rI K)
  refine RR.s2 (pc' := 1) (lv' := [(0, .ref 0), (1, .int x1)]) (st' := [.int x1]) dX5_allowed_0 rfl ?_
  refine RR.cS dX5_allowed_1 ml_X5_119 (as := [.int x1]) (rest := []) rfl rfl (Nat.le_of_ble_eq_true rfl) (Nat.le_of_ble_eq_true rfl) (by decide) (kb_X5_isDay (fun c => ?_) (fun c => ?_))
  · have H := H.1 c
    show RR 0 6 mX5_allowed 4 [(0, .ref 0), (1, .int x1)] [.int 1] σ _
    refine RR.brF dX5_allowed_4 rfl (by decide) ?_
    refine RR.s2 (pc' := 8) (lv' := [(0, .ref 0), (1, .int x1)]) (st' := [.ref 0]) dX5_allowed_7 rfl ?_
    refine RR.cV dX5_allowed_8 ml_X5_153 rfl rfl (as := []) (rest := []) rfl rfl (Nat.le_of_ble_eq_true rfl) (Nat.le_of_ble_eq_true rfl) (by decide) (RR.toC H (fun s1 H => ?_))
    show RR 0 6 mX5_allowed 11 [(0, .ref 0), (1, .int x1)] [.ref 32] s1 _
    refine RR.s2 (pc' := 12) (lv' := [(0, .ref 0), (1, .int x1)]) (st' := [.int x1, .ref 32]) dX5_allowed_11 rfl ?_
    refine RR.cV dX5_allowed_12 ml_X5_163 rfl rfl (as := [.int x1]) (rest := []) rfl rfl (Nat.le_of_ble_eq_true rfl) (Nat.le_of_ble_eq_true rfl) (by decide) (RR.toI H (fun v3 s2 H => ?_))
    show RR 0 6 mX5_allowed 15 [(0, .ref 0), (1, .int x1)] [.int v3] s2 _
    refine RR.s2 (pc' := 20) (lv' := [(0, .ref 0), (1, .int x1)]) (st' := [.int v3]) dX5_allowed_15 rfl ?_
    exact RR.iret dX5_allowed_20 rfl ⟨_, rfl, H⟩
  · have H := H.2 c
    show RR 0 6 mX5_allowed 4 [(0, .ref 0), (1, .int x1)] [.int 0] σ _
    refine RR.brT dX5_allowed_4 rfl (by decide) ?_
    refine RR.bp (v := (-2)) dX5_allowed_18 (by decide) ?_
    exact RR.iret dX5_allowed_20 rfl ⟨_, rfl, H⟩
set_option maxRecDepth 20000 in
theorem b_X5_never {σ : r_St} {K : Int32 → r_St → Prop}  (H : M_X5_laws σ (fun s1 => R_X5_never_12 s1 K ((sl 1 (s1.1 32 5)) - 1) 0)) : M_X5_never σ K := by
  show RR 0 6 mX5_never 0 [(0, .ref 0)] [] σ (rI K)
  refine RR.s2 (pc' := 1) (lv' := [(0, .ref 0)]) (st' := [.ref 0]) dX5_never_0 rfl ?_
  refine RR.cV dX5_never_1 ml_X5_153 rfl rfl (as := []) (rest := []) rfl rfl (Nat.le_of_ble_eq_true rfl) (Nat.le_of_ble_eq_true rfl) (by decide) (RR.toC H (fun s1 H => ?_))
  show RR 0 6 mX5_never 4 [(0, .ref 0)] [.ref 32] s1 _
  refine RR.s2 (pc' := 5) (lv' := [(0, .ref 0), (1, .ref 32)]) (st' := []) dX5_never_4 rfl ?_
  refine RR.s2 (pc' := 6) (lv' := [(0, .ref 0), (1, .ref 32)]) (st' := [.ref 32]) dX5_never_5 rfl ?_
  refine RR.cV (d' := 1) dX5_never_6 ml_X5_166 rfl rfl (as := []) (rest := []) rfl rfl (Nat.le_of_ble_eq_true rfl) (Nat.le_of_ble_eq_true rfl) (by decide) ?_
  show RR 0 1 mX1_everyDeed 0 [(0, .ref 32)] [] s1 _
  refine RR.ic (v := 1) dX1_everyDeed_0 (by decide) ?_
  refine RR.s2 (pc' := 2) (lv' := [(0, .ref 32)]) (st' := [.ref 32, .int 1]) dX1_everyDeed_1 rfl ?_
  refine RR.getI dX1_everyDeed_2 fl_X1_37 rfl rfl ?_
  refine RR.s2 (pc' := 6) (lv' := [(0, .ref 32)]) (st' := [.int (sl 1 (s1.1 32 5))]) dX1_everyDeed_5 rfl ?_
  refine RR.ic (v := 1) dX1_everyDeed_6 (by decide) ?_
  refine RR.s2 (pc' := 8) (lv' := [(0, .ref 32)]) (st' := [.int ((sl 1 (s1.1 32 5)) - 1)]) dX1_everyDeed_7 rfl ?_
  refine RR.iret dX1_everyDeed_8 rfl ?_
  show RR 0 6 mX5_never 9 [(0, .ref 0), (1, .ref 32)] [.int ((sl 1 (s1.1 32 5)) - 1)] s1 _
  refine RR.s2 (pc' := 10) (lv' := [(0, .ref 0), (1, .ref 32), (2, .int ((sl 1 (s1.1 32 5)) - 1))]) (st' := []) dX5_never_9 rfl ?_
  refine RR.ic (v := 0) dX5_never_10 (by decide) ?_
  refine RR.s2 (pc' := 12) (lv' := [(0, .ref 0), (1, .ref 32), (2, .int ((sl 1 (s1.1 32 5)) - 1)), (3, .int 0)]) (st' := []) dX5_never_11 rfl ?_
  exact RR.cut [1, 2, 3] rfl H
set_option maxRecDepth 20000 in
theorem b_X5_never_12 {σ : r_St} {K : Int32 → r_St → Prop} {x2 : Int32} {x3 : Int32}  (H : (40 ≤ x3 → K x2 σ) ∧ (¬ (40 ≤ x3) → M_X1_openOn 32 σ (fun v2 s1 => R_X5_never_12 s1 K (x2 &&& (v2 ^^^ (-1))) (x3 + 1)) x3)) : R_X5_never_12 σ K x2 x3 := by
  show RR 0 6 mX5_never 12 [(1, .ref 32), (2, .int x2), (3, .int x3)] [] σ (rI K)
  refine RR.s2 (pc' := 13) (lv' := [(1, .ref 32), (2, .int x2), (3, .int x3)]) (st' := [.int x3]) dX5_never_12 rfl ?_
  refine RR.bp (v := 40) dX5_never_13 (by decide) ?_
  refine RR.br dX5_never_15 rfl (fun c => ?_) (fun c => ?_)
  · have H := H.1 c
    refine RR.s2 (pc' := 35) (lv' := [(1, .ref 32), (2, .int x2), (3, .int x3)]) (st' := [.int x2]) dX5_never_34 rfl ?_
    exact RR.iret dX5_never_35 rfl ⟨_, rfl, H⟩
  · have H := H.2 c
    refine RR.s2 (pc' := 19) (lv' := [(1, .ref 32), (2, .int x2), (3, .int x3)]) (st' := [.int x2]) dX5_never_18 rfl ?_
    refine RR.s2 (pc' := 20) (lv' := [(1, .ref 32), (2, .int x2), (3, .int x3)]) (st' := [.ref 32, .int x2]) dX5_never_19 rfl ?_
    refine RR.s2 (pc' := 21) (lv' := [(1, .ref 32), (2, .int x2), (3, .int x3)]) (st' := [.int x3, .ref 32, .int x2]) dX5_never_20 rfl ?_
    refine RR.cV dX5_never_21 ml_X5_163 rfl rfl (as := [.int x3]) (rest := [.int x2]) rfl rfl (Nat.le_of_ble_eq_true rfl) (Nat.le_of_ble_eq_true rfl) (by decide) (RR.toI H (fun v2 s1 H => ?_))
    show RR 0 6 mX5_never 24 [(1, .ref 32), (2, .int x2), (3, .int x3)] [.int v2, .int x2] s1 _
    refine RR.ic (v := (-1)) dX5_never_24 (by decide) ?_
    refine RR.s2 (pc' := 26) (lv' := [(1, .ref 32), (2, .int x2), (3, .int x3)]) (st' := [.int (v2 ^^^ (-1)), .int x2]) dX5_never_25 rfl ?_
    refine RR.s2 (pc' := 27) (lv' := [(1, .ref 32), (2, .int x2), (3, .int x3)]) (st' := [.int (x2 &&& (v2 ^^^ (-1)))]) dX5_never_26 rfl ?_
    refine RR.s2 (pc' := 28) (lv' := [(1, .ref 32), (2, .int (x2 &&& (v2 ^^^ (-1)))), (3, .int x3)]) (st' := []) dX5_never_27 rfl ?_
    refine RR.inc (c := 1) (lv' := [(1, .ref 32), (2, .int (x2 &&& (v2 ^^^ (-1)))), (3, .int (x3 + 1))]) dX5_never_28 rfl (by decide) (by decide) rfl ?_
    refine RR.s2 (pc' := 12) (lv' := [(1, .ref 32), (2, .int (x2 &&& (v2 ^^^ (-1)))), (3, .int (x3 + 1))]) (st' := []) dX5_never_31 rfl ?_
    exact RR.cut [0, 1, 2] rfl H
set_option maxRecDepth 20000 in
theorem b_X5_alike {σ : r_St} {K : Int32 → r_St → Prop}  (H : M_X5_laws σ (fun s1 => R_X5_alike_7 s1 K 0)) : M_X5_alike σ K := by
  show RR 0 6 mX5_alike 0 [(0, .ref 0)] [] σ (rI K)
  refine RR.s2 (pc' := 1) (lv' := [(0, .ref 0)]) (st' := [.ref 0]) dX5_alike_0 rfl ?_
  refine RR.cV dX5_alike_1 ml_X5_153 rfl rfl (as := []) (rest := []) rfl rfl (Nat.le_of_ble_eq_true rfl) (Nat.le_of_ble_eq_true rfl) (by decide) (RR.toC H (fun s1 H => ?_))
  show RR 0 6 mX5_alike 4 [(0, .ref 0)] [.ref 32] s1 _
  refine RR.s2 (pc' := 5) (lv' := [(0, .ref 0), (1, .ref 32)]) (st' := []) dX5_alike_4 rfl ?_
  refine RR.ic (v := 0) dX5_alike_5 (by decide) ?_
  refine RR.s2 (pc' := 7) (lv' := [(0, .ref 0), (1, .ref 32), (2, .int 0)]) (st' := []) dX5_alike_6 rfl ?_
  exact RR.cut [1, 2] rfl H
set_option maxRecDepth 20000 in
theorem b_X5_alike_7 {σ : r_St} {K : Int32 → r_St → Prop} {x2 : Int32}  (H : (40 ≤ x2 → K (-1) σ) ∧ (¬ (40 ≤ x2) → (M_X1_saidOn 32 σ (fun v2 s1 => M_X1_saidOn 32 s1 (fun v4 s3 => (¬ v2 = v4 → R_X5_alike_7 s3 K (x2 + 1)) ∧ (v2 = v4 → K x2 s3)) x2 1) x2 0))) : R_X5_alike_7 σ K x2 := by
  show RR 0 6 mX5_alike 7 [(1, .ref 32), (2, .int x2)] [] σ (rI K)
  refine RR.s2 (pc' := 8) (lv' := [(1, .ref 32), (2, .int x2)]) (st' := [.int x2]) dX5_alike_7 rfl ?_
  refine RR.bp (v := 40) dX5_alike_8 (by decide) ?_
  refine RR.br dX5_alike_10 rfl (fun c => ?_) (fun c => ?_)
  · have H := H.1 c
    refine RR.ic (v := (-1)) dX5_alike_36 (by decide) ?_
    exact RR.iret dX5_alike_37 rfl ⟨_, rfl, H⟩
  · have H := H.2 c
    refine RR.s2 (pc' := 14) (lv' := [(1, .ref 32), (2, .int x2)]) (st' := [.ref 32]) dX5_alike_13 rfl ?_
    refine RR.s2 (pc' := 15) (lv' := [(1, .ref 32), (2, .int x2)]) (st' := [.int x2, .ref 32]) dX5_alike_14 rfl ?_
    refine RR.ic (v := 0) dX5_alike_15 (by decide) ?_
    refine RR.cV dX5_alike_16 ml_X5_160 rfl rfl (as := [.int x2, .int 0]) (rest := []) rfl rfl (Nat.le_of_ble_eq_true rfl) (Nat.le_of_ble_eq_true rfl) (by decide) (RR.toI H (fun v2 s1 H => ?_))
    show RR 0 6 mX5_alike 19 [(1, .ref 32), (2, .int x2)] [.int v2] s1 _
    refine RR.s2 (pc' := 20) (lv' := [(1, .ref 32), (2, .int x2)]) (st' := [.ref 32, .int v2]) dX5_alike_19 rfl ?_
    refine RR.s2 (pc' := 21) (lv' := [(1, .ref 32), (2, .int x2)]) (st' := [.int x2, .ref 32, .int v2]) dX5_alike_20 rfl ?_
    refine RR.ic (v := 1) dX5_alike_21 (by decide) ?_
    refine RR.cV dX5_alike_22 ml_X5_160 rfl rfl (as := [.int x2, .int 1]) (rest := [.int v2]) rfl rfl (Nat.le_of_ble_eq_true rfl) (Nat.le_of_ble_eq_true rfl) (by decide) (RR.toI H (fun v4 s3 H => ?_))
    show RR 0 6 mX5_alike 25 [(1, .ref 32), (2, .int x2)] [.int v4, .int v2] s3 _
    refine RR.br dX5_alike_25 rfl (fun c => ?_) (fun c => ?_)
    · have H := H.1 c
      refine RR.inc (c := 1) (lv' := [(1, .ref 32), (2, .int (x2 + 1))]) dX5_alike_30 rfl (by decide) (by decide) rfl ?_
      refine RR.s2 (pc' := 7) (lv' := [(1, .ref 32), (2, .int (x2 + 1))]) (st' := []) dX5_alike_33 rfl ?_
      exact RR.cut [0, 1] rfl H
    · have H := H.2 (Classical.not_not.mp c)
      refine RR.s2 (pc' := 29) (lv' := [(1, .ref 32), (2, .int x2)]) (st' := [.int x2]) dX5_alike_28 rfl ?_
      exact RR.iret dX5_alike_29 rfl ⟨_, rfl, H⟩
set_option maxRecDepth 20000 in
theorem b_X5_crossing {σ : r_St} {K : Int32 → r_St → Prop} {x1 : Int32}  (H : (IN x1 0 ((σ.1 1 4) - 1) → M_X5_laws σ (fun s1 => M_X1_startDays 32 s1 (fun v3 s2 => K v3.toInt32 s2) x1 2)) ∧ (¬ IN x1 0 ((σ.1 1 4) - 1) → K (-2) σ)) : M_X5_crossing σ K x1 := by
  show RR 0 6 mX5_crossing 0 [(0, .ref 0), (1, .int x1)] [] σ (rI K)
  refine RR.s2 (pc' := 1) (lv' := [(0, .ref 0), (1, .int x1)]) (st' := [.ref 0]) dX5_crossing_0 rfl ?_
  refine RR.getR dX5_crossing_1 fl_X5_12 rfl rfl ?_
  refine RR.s2 (pc' := 5) (lv' := [(0, .ref 0), (1, .int x1)]) (st' := [.int x1, .ref 1]) dX5_crossing_4 rfl ?_
  refine RR.cV (d' := 2) dX5_crossing_5 ml_X5_92 rfl rfl (as := [.int x1]) (rest := []) rfl rfl (Nat.le_of_ble_eq_true rfl) (Nat.le_of_ble_eq_true rfl) (by decide) ?_
  show RR 0 2 mX0_has 0 [(0, .ref 1), (1, .int x1)] [] σ _
  refine RR.s2 (pc' := 1) (lv' := [(0, .ref 1), (1, .int x1)]) (st' := [.int x1]) dX0_has_0 rfl ?_
  refine RR.ic (v := 0) dX0_has_1 (by decide) ?_
  refine RR.s2 (pc' := 3) (lv' := [(0, .ref 1), (1, .int x1)]) (st' := [.ref 1, .int 0, .int x1]) dX0_has_2 rfl ?_
  refine RR.getI dX0_has_3 fl_X0_25 rfl rfl ?_
  refine RR.ic (v := 1) dX0_has_6 (by decide) ?_
  refine RR.s2 (pc' := 8) (lv' := [(0, .ref 1), (1, .int x1)]) (st' := [.int ((σ.1 1 4) - 1), .int 0, .int x1]) dX0_has_7 rfl ?_
  refine RR.cN dX0_has_8 ml_X0_28 (as := [.int x1, .int 0, .int ((σ.1 1 4) - 1)]) (rest := []) rfl rfl (Nat.le_of_ble_eq_true rfl) (Nat.le_of_ble_eq_true rfl) (by decide) (kb_X5_within (fun c => ?_) (fun c => ?_))
  · have H := H.1 c
    show RR 0 2 mX0_has 11 [(0, .ref 1), (1, .int x1)] [.int 1] σ _
    refine RR.zret dX0_has_11 rfl (by decide) ?_
    show RR 0 6 mX5_crossing 8 [(0, .ref 0), (1, .int x1)] [.int 1] σ _
    refine RR.brF dX5_crossing_8 rfl (by decide) ?_
    refine RR.s2 (pc' := 12) (lv' := [(0, .ref 0), (1, .int x1)]) (st' := [.ref 0]) dX5_crossing_11 rfl ?_
    refine RR.cV dX5_crossing_12 ml_X5_153 rfl rfl (as := []) (rest := []) rfl rfl (Nat.le_of_ble_eq_true rfl) (Nat.le_of_ble_eq_true rfl) (by decide) (RR.toC H (fun s1 H => ?_))
    show RR 0 6 mX5_crossing 15 [(0, .ref 0), (1, .int x1)] [.ref 32] s1 _
    refine RR.s2 (pc' := 16) (lv' := [(0, .ref 0), (1, .int x1)]) (st' := [.int x1, .ref 32]) dX5_crossing_15 rfl ?_
    refine RR.ic (v := 2) dX5_crossing_16 (by decide) ?_
    refine RR.cV dX5_crossing_17 ml_X5_169 rfl rfl (as := [.int x1, .int 2]) (rest := []) rfl rfl (Nat.le_of_ble_eq_true rfl) (Nat.le_of_ble_eq_true rfl) (by decide) (RR.toL H (fun v3 s2 H => ?_))
    show RR 0 6 mX5_crossing 20 [(0, .ref 0), (1, .int x1)] [.long v3] s2 _
    refine RR.s2 (pc' := 21) (lv' := [(0, .ref 0), (1, .int x1)]) (st' := [.int v3.toInt32]) dX5_crossing_20 rfl ?_
    refine RR.s2 (pc' := 26) (lv' := [(0, .ref 0), (1, .int x1)]) (st' := [.int v3.toInt32]) dX5_crossing_21 rfl ?_
    exact RR.iret dX5_crossing_26 rfl ⟨_, rfl, H⟩
  · have H := H.2 c
    show RR 0 2 mX0_has 11 [(0, .ref 1), (1, .int x1)] [.int 0] σ _
    refine RR.zret dX0_has_11 rfl (by decide) ?_
    show RR 0 6 mX5_crossing 8 [(0, .ref 0), (1, .int x1)] [.int 0] σ _
    refine RR.brT dX5_crossing_8 rfl (by decide) ?_
    refine RR.bp (v := (-2)) dX5_crossing_24 (by decide) ?_
    exact RR.iret dX5_crossing_26 rfl ⟨_, rfl, H⟩
set_option maxRecDepth 20000 in
theorem b_X5_fined {σ : r_St} {K : Int32 → r_St → Prop} {x1 : Int32}  (H : (IN x1 0 ((σ.1 16 4) - 1) → M_X5_laws σ (fun s1 => M_X5_finesInCoin s1 (fun v3 s2 => M_X5_finesInCoin s2 (fun v5 s4 => K (v3 + v5) s4) x1 1) x1 0)) ∧ (¬ IN x1 0 ((σ.1 16 4) - 1) → K (-2) σ)) : M_X5_fined σ K x1 := by
  show RR 0 6 mX5_fined 0 [(0, .ref 0), (1, .int x1)] [] σ (rI K)
  refine RR.s2 (pc' := 1) (lv' := [(0, .ref 0), (1, .int x1)]) (st' := [.int x1]) dX5_fined_0 rfl ?_
  refine RR.ic (v := 0) dX5_fined_1 (by decide) ?_
  refine RR.s2 (pc' := 3) (lv' := [(0, .ref 0), (1, .int x1)]) (st' := [.ref 0, .int 0, .int x1]) dX5_fined_2 rfl ?_
  refine RR.getR dX5_fined_3 fl_X5_31 rfl rfl ?_
  refine RR.cV (d' := 1) dX5_fined_6 ml_X5_173 rfl rfl (as := []) (rest := [.int 0, .int x1]) rfl rfl (Nat.le_of_ble_eq_true rfl) (Nat.le_of_ble_eq_true rfl) (by decide) ?_
  show RR 0 1 mX3_size 0 [(0, .ref 16)] [] σ _
  refine RR.s2 (pc' := 1) (lv' := [(0, .ref 16)]) (st' := [.ref 16]) dX3_size_0 rfl ?_
  refine RR.getI dX3_size_1 fl_X3_31 rfl rfl ?_
  refine RR.iret dX3_size_4 rfl ?_
  show RR 0 6 mX5_fined 9 [(0, .ref 0), (1, .int x1)] [.int (σ.1 16 4), .int 0, .int x1] σ _
  refine RR.ic (v := 1) dX5_fined_9 (by decide) ?_
  refine RR.s2 (pc' := 11) (lv' := [(0, .ref 0), (1, .int x1)]) (st' := [.int ((σ.1 16 4) - 1), .int 0, .int x1]) dX5_fined_10 rfl ?_
  refine RR.cS dX5_fined_11 ml_X5_71 (as := [.int x1, .int 0, .int ((σ.1 16 4) - 1)]) (rest := []) rfl rfl (Nat.le_of_ble_eq_true rfl) (Nat.le_of_ble_eq_true rfl) (by decide) (kb_X5_within (fun c => ?_) (fun c => ?_))
  · have H := H.1 c
    show RR 0 6 mX5_fined 14 [(0, .ref 0), (1, .int x1)] [.int 1] σ _
    refine RR.brT dX5_fined_14 rfl (by decide) ?_
    refine RR.s2 (pc' := 21) (lv' := [(0, .ref 0), (1, .int x1)]) (st' := [.ref 0]) dX5_fined_20 rfl ?_
    refine RR.cV dX5_fined_21 ml_X5_153 rfl rfl (as := []) (rest := []) rfl rfl (Nat.le_of_ble_eq_true rfl) (Nat.le_of_ble_eq_true rfl) (by decide) (RR.toC H (fun s1 H => ?_))
    show RR 0 6 mX5_fined 24 [(0, .ref 0), (1, .int x1)] [.ref 32] s1 _
    refine RR.s2 (pc' := 25) (lv' := [(0, .ref 0), (1, .int x1), (2, .ref 32)]) (st' := []) dX5_fined_24 rfl ?_
    refine RR.s2 (pc' := 26) (lv' := [(0, .ref 0), (1, .int x1), (2, .ref 32)]) (st' := [.ref 0]) dX5_fined_25 rfl ?_
    refine RR.s2 (pc' := 27) (lv' := [(0, .ref 0), (1, .int x1), (2, .ref 32)]) (st' := [.ref 32, .ref 0]) dX5_fined_26 rfl ?_
    refine RR.s2 (pc' := 28) (lv' := [(0, .ref 0), (1, .int x1), (2, .ref 32)]) (st' := [.int x1, .ref 32, .ref 0]) dX5_fined_27 rfl ?_
    refine RR.ic (v := 0) dX5_fined_28 (by decide) ?_
    refine RR.cV dX5_fined_29 ml_X5_174 rfl rfl (as := [.ref 32, .int x1, .int 0]) (rest := []) rfl rfl (Nat.le_of_ble_eq_true rfl) (Nat.le_of_ble_eq_true rfl) (by decide) (RR.toI H (fun v3 s2 H => ?_))
    show RR 0 6 mX5_fined 32 [(0, .ref 0), (1, .int x1), (2, .ref 32)] [.int v3] s2 _
    refine RR.s2 (pc' := 33) (lv' := [(0, .ref 0), (1, .int x1), (2, .ref 32)]) (st' := [.ref 0, .int v3]) dX5_fined_32 rfl ?_
    refine RR.s2 (pc' := 34) (lv' := [(0, .ref 0), (1, .int x1), (2, .ref 32)]) (st' := [.ref 32, .ref 0, .int v3]) dX5_fined_33 rfl ?_
    refine RR.s2 (pc' := 35) (lv' := [(0, .ref 0), (1, .int x1), (2, .ref 32)]) (st' := [.int x1, .ref 32, .ref 0, .int v3]) dX5_fined_34 rfl ?_
    refine RR.ic (v := 1) dX5_fined_35 (by decide) ?_
    refine RR.cV dX5_fined_36 ml_X5_174 rfl rfl (as := [.ref 32, .int x1, .int 1]) (rest := [.int v3]) rfl rfl (Nat.le_of_ble_eq_true rfl) (Nat.le_of_ble_eq_true rfl) (by decide) (RR.toI H (fun v5 s4 H => ?_))
    show RR 0 6 mX5_fined 39 [(0, .ref 0), (1, .int x1), (2, .ref 32)] [.int v5, .int v3] s4 _
    refine RR.s2 (pc' := 40) (lv' := [(0, .ref 0), (1, .int x1), (2, .ref 32)]) (st' := [.int (v3 + v5)]) dX5_fined_39 rfl ?_
    exact RR.iret dX5_fined_40 rfl ⟨_, rfl, H⟩
  · have H := H.2 c
    show RR 0 6 mX5_fined 14 [(0, .ref 0), (1, .int x1)] [.int 0] σ _
    refine RR.brF dX5_fined_14 rfl (by decide) ?_
    refine RR.bp (v := (-2)) dX5_fined_17 (by decide) ?_
    exact RR.iret dX5_fined_19 rfl ⟨_, rfl, H⟩
set_option maxRecDepth 20000 in
theorem b_X5_coins {σ : r_St} {K : Int32 → r_St → Prop} {x1 : Int32}  (H : (IN x1 0 1 → M_X5_laws σ (fun s1 => R_X5_coins_20 s1 K x1 0 0)) ∧ (¬ IN x1 0 1 → K (-2) σ)) : M_X5_coins σ K x1 := by
  show RR 0 6 mX5_coins 0 [(0, .ref 0), (1, .int x1)] [] σ (rI K)
  refine RR.s2 (pc' := 1) (lv' := [(0, .ref 0), (1, .int x1)]) (st' := [.int x1]) dX5_coins_0 rfl ?_
  refine RR.cS dX5_coins_1 ml_X5_116 (as := [.int x1]) (rest := []) rfl rfl (Nat.le_of_ble_eq_true rfl) (Nat.le_of_ble_eq_true rfl) (by decide) (kb_X5_isKing (fun c => ?_) (fun c => ?_))
  · have H := H.1 c
    show RR 0 6 mX5_coins 4 [(0, .ref 0), (1, .int x1)] [.int 1] σ _
    refine RR.brT dX5_coins_4 rfl (by decide) ?_
    refine RR.s2 (pc' := 11) (lv' := [(0, .ref 0), (1, .int x1)]) (st' := [.ref 0]) dX5_coins_10 rfl ?_
    refine RR.cV dX5_coins_11 ml_X5_153 rfl rfl (as := []) (rest := []) rfl rfl (Nat.le_of_ble_eq_true rfl) (Nat.le_of_ble_eq_true rfl) (by decide) (RR.toC H (fun s1 H => ?_))
    show RR 0 6 mX5_coins 14 [(0, .ref 0), (1, .int x1)] [.ref 32] s1 _
    refine RR.s2 (pc' := 15) (lv' := [(0, .ref 0), (1, .int x1), (2, .ref 32)]) (st' := []) dX5_coins_14 rfl ?_
    refine RR.ic (v := 0) dX5_coins_15 (by decide) ?_
    refine RR.s2 (pc' := 17) (lv' := [(0, .ref 0), (1, .int x1), (2, .ref 32), (3, .int 0)]) (st' := []) dX5_coins_16 rfl ?_
    refine RR.ic (v := 0) dX5_coins_17 (by decide) ?_
    refine RR.s2 (pc' := 20) (lv' := [(0, .ref 0), (1, .int x1), (2, .ref 32), (3, .int 0), (4, .int 0)]) (st' := []) dX5_coins_18 rfl ?_
    exact RR.cut [0, 1, 2, 3, 4] rfl H
  · have H := H.2 c
    show RR 0 6 mX5_coins 4 [(0, .ref 0), (1, .int x1)] [.int 0] σ _
    refine RR.brF dX5_coins_4 rfl (by decide) ?_
    refine RR.bp (v := (-2)) dX5_coins_7 (by decide) ?_
    exact RR.iret dX5_coins_9 rfl ⟨_, rfl, H⟩
set_option maxRecDepth 20000 in
theorem b_X5_coins_20 {σ : r_St} {K : Int32 → r_St → Prop} {x1 : Int32} {x3 : Int32} {x4 : Int32}  (H : (σ.1 16 4 ≤ x4 → K x3 σ) ∧ (¬ (σ.1 16 4 ≤ x4) → M_X5_finesInCoin σ (fun v2 s1 => R_X5_coins_20 s1 K x1 (x3 + v2) (x4 + 1)) x4 x1)) : R_X5_coins_20 σ K x1 x3 x4 := by
  show RR 0 6 mX5_coins 20 [(0, .ref 0), (1, .int x1), (2, .ref 32), (3, .int x3), (4, .int x4)] [] σ (rI K)
  refine RR.s2 (pc' := 22) (lv' := [(0, .ref 0), (1, .int x1), (2, .ref 32), (3, .int x3), (4, .int x4)]) (st' := [.int x4]) dX5_coins_20 rfl ?_
  refine RR.s2 (pc' := 23) (lv' := [(0, .ref 0), (1, .int x1), (2, .ref 32), (3, .int x3), (4, .int x4)]) (st' := [.ref 0, .int x4]) dX5_coins_22 rfl ?_
  refine RR.getR dX5_coins_23 fl_X5_31 rfl rfl ?_
  refine RR.cV (d' := 1) dX5_coins_26 ml_X5_173 rfl rfl (as := []) (rest := [.int x4]) rfl rfl (Nat.le_of_ble_eq_true rfl) (Nat.le_of_ble_eq_true rfl) (by decide) ?_
  show RR 0 1 mX3_size 0 [(0, .ref 16)] [] σ _
  refine RR.s2 (pc' := 1) (lv' := [(0, .ref 16)]) (st' := [.ref 16]) dX3_size_0 rfl ?_
  refine RR.getI dX3_size_1 fl_X3_31 rfl rfl ?_
  refine RR.iret dX3_size_4 rfl ?_
  show RR 0 6 mX5_coins 29 [(0, .ref 0), (1, .int x1), (2, .ref 32), (3, .int x3), (4, .int x4)] [.int (σ.1 16 4), .int x4] σ _
  refine RR.br dX5_coins_29 rfl (fun c => ?_) (fun c => ?_)
  · have H := H.1 c
    refine RR.s2 (pc' := 50) (lv' := [(0, .ref 0), (1, .int x1), (2, .ref 32), (3, .int x3), (4, .int x4)]) (st' := [.int x3]) dX5_coins_49 rfl ?_
    exact RR.iret dX5_coins_50 rfl ⟨_, rfl, H⟩
  · have H := H.2 c
    refine RR.s2 (pc' := 33) (lv' := [(0, .ref 0), (1, .int x1), (2, .ref 32), (3, .int x3), (4, .int x4)]) (st' := [.int x3]) dX5_coins_32 rfl ?_
    refine RR.s2 (pc' := 34) (lv' := [(0, .ref 0), (1, .int x1), (2, .ref 32), (3, .int x3), (4, .int x4)]) (st' := [.ref 0, .int x3]) dX5_coins_33 rfl ?_
    refine RR.s2 (pc' := 35) (lv' := [(0, .ref 0), (1, .int x1), (2, .ref 32), (3, .int x3), (4, .int x4)]) (st' := [.ref 32, .ref 0, .int x3]) dX5_coins_34 rfl ?_
    refine RR.s2 (pc' := 37) (lv' := [(0, .ref 0), (1, .int x1), (2, .ref 32), (3, .int x3), (4, .int x4)]) (st' := [.int x4, .ref 32, .ref 0, .int x3]) dX5_coins_35 rfl ?_
    refine RR.s2 (pc' := 38) (lv' := [(0, .ref 0), (1, .int x1), (2, .ref 32), (3, .int x3), (4, .int x4)]) (st' := [.int x1, .int x4, .ref 32, .ref 0, .int x3]) dX5_coins_37 rfl ?_
    refine RR.cV dX5_coins_38 ml_X5_174 rfl rfl (as := [.ref 32, .int x4, .int x1]) (rest := [.int x3]) rfl rfl (Nat.le_of_ble_eq_true rfl) (Nat.le_of_ble_eq_true rfl) (by decide) (RR.toI H (fun v2 s1 H => ?_))
    show RR 0 6 mX5_coins 41 [(0, .ref 0), (1, .int x1), (2, .ref 32), (3, .int x3), (4, .int x4)] [.int v2, .int x3] s1 _
    refine RR.s2 (pc' := 42) (lv' := [(0, .ref 0), (1, .int x1), (2, .ref 32), (3, .int x3), (4, .int x4)]) (st' := [.int (x3 + v2)]) dX5_coins_41 rfl ?_
    refine RR.s2 (pc' := 43) (lv' := [(0, .ref 0), (1, .int x1), (2, .ref 32), (3, .int (x3 + v2)), (4, .int x4)]) (st' := []) dX5_coins_42 rfl ?_
    refine RR.inc (c := 1) (lv' := [(0, .ref 0), (1, .int x1), (2, .ref 32), (3, .int (x3 + v2)), (4, .int (x4 + 1))]) dX5_coins_43 rfl (by decide) (by decide) rfl ?_
    refine RR.s2 (pc' := 20) (lv' := [(0, .ref 0), (1, .int x1), (2, .ref 32), (3, .int (x3 + v2)), (4, .int (x4 + 1))]) (st' := []) dX5_coins_46 rfl ?_
    exact RR.cut [0, 1, 2, 3, 4] rfl H
set_option maxRecDepth 20000 in
theorem b_X5_soonest {σ : r_St} {K : Int32 → r_St → Prop} {x1 : Int32} {x2 : Int32} {x3 : Int32}  (H : (IN x1 0 ((σ.1 1 4) - 1) → ((IN x2 1 9 → ((IN x3 0 39 → M_X5_laws σ (fun s1 => M_X1_startDays 32 s1 (fun v3 s2 => M_X5_firstDay s2 (fun v5 s4 => K v5 s4) v3 x3) x1 x2)) ∧ (¬ IN x3 0 39 → K (-2) σ))) ∧ (¬ IN x2 1 9 → K (-2) σ))) ∧ (¬ IN x1 0 ((σ.1 1 4) - 1) → K (-2) σ)) : M_X5_soonest σ K x1 x2 x3 := by
  show RR 0 6 mX5_soonest 0 [(0, .ref 0), (1, .int x1), (2, .int x2), (3, .int x3)] [] σ (rI K)
  refine RR.s2 (pc' := 1) (lv' := [(0, .ref 0), (1, .int x1), (2, .int x2), (3, .int x3)]) (st' := [.ref 0]) dX5_soonest_0 rfl ?_
  refine RR.getR dX5_soonest_1 fl_X5_12 rfl rfl ?_
  refine RR.s2 (pc' := 5) (lv' := [(0, .ref 0), (1, .int x1), (2, .int x2), (3, .int x3)]) (st' := [.int x1, .ref 1]) dX5_soonest_4 rfl ?_
  refine RR.cV (d' := 2) dX5_soonest_5 ml_X5_92 rfl rfl (as := [.int x1]) (rest := []) rfl rfl (Nat.le_of_ble_eq_true rfl) (Nat.le_of_ble_eq_true rfl) (by decide) ?_
  show RR 0 2 mX0_has 0 [(0, .ref 1), (1, .int x1)] [] σ _
  refine RR.s2 (pc' := 1) (lv' := [(0, .ref 1), (1, .int x1)]) (st' := [.int x1]) dX0_has_0 rfl ?_
  refine RR.ic (v := 0) dX0_has_1 (by decide) ?_
  refine RR.s2 (pc' := 3) (lv' := [(0, .ref 1), (1, .int x1)]) (st' := [.ref 1, .int 0, .int x1]) dX0_has_2 rfl ?_
  refine RR.getI dX0_has_3 fl_X0_25 rfl rfl ?_
  refine RR.ic (v := 1) dX0_has_6 (by decide) ?_
  refine RR.s2 (pc' := 8) (lv' := [(0, .ref 1), (1, .int x1)]) (st' := [.int ((σ.1 1 4) - 1), .int 0, .int x1]) dX0_has_7 rfl ?_
  refine RR.cN dX0_has_8 ml_X0_28 (as := [.int x1, .int 0, .int ((σ.1 1 4) - 1)]) (rest := []) rfl rfl (Nat.le_of_ble_eq_true rfl) (Nat.le_of_ble_eq_true rfl) (by decide) (kb_X5_within (fun c => ?_) (fun c => ?_))
  · have H := H.1 c
    show RR 0 2 mX0_has 11 [(0, .ref 1), (1, .int x1)] [.int 1] σ _
    refine RR.zret dX0_has_11 rfl (by decide) ?_
    show RR 0 6 mX5_soonest 8 [(0, .ref 0), (1, .int x1), (2, .int x2), (3, .int x3)] [.int 1] σ _
    refine RR.brF dX5_soonest_8 rfl (by decide) ?_
    refine RR.s2 (pc' := 12) (lv' := [(0, .ref 0), (1, .int x1), (2, .int x2), (3, .int x3)]) (st' := [.int x2]) dX5_soonest_11 rfl ?_
    refine RR.ic (v := 1) dX5_soonest_12 (by decide) ?_
    refine RR.bp (v := 9) dX5_soonest_13 (by decide) ?_
    refine RR.cS dX5_soonest_15 ml_X5_71 (as := [.int x2, .int 1, .int 9]) (rest := []) rfl rfl (Nat.le_of_ble_eq_true rfl) (Nat.le_of_ble_eq_true rfl) (by decide) (kb_X5_within (fun c => ?_) (fun c => ?_))
    · have H := H.1 c
      show RR 0 6 mX5_soonest 18 [(0, .ref 0), (1, .int x1), (2, .int x2), (3, .int x3)] [.int 1] σ _
      refine RR.brF dX5_soonest_18 rfl (by decide) ?_
      refine RR.s2 (pc' := 22) (lv' := [(0, .ref 0), (1, .int x1), (2, .int x2), (3, .int x3)]) (st' := [.int x3]) dX5_soonest_21 rfl ?_
      refine RR.cS dX5_soonest_22 ml_X5_119 (as := [.int x3]) (rest := []) rfl rfl (Nat.le_of_ble_eq_true rfl) (Nat.le_of_ble_eq_true rfl) (by decide) (kb_X5_isDay (fun c => ?_) (fun c => ?_))
      · have H := H.1 c
        show RR 0 6 mX5_soonest 25 [(0, .ref 0), (1, .int x1), (2, .int x2), (3, .int x3)] [.int 1] σ _
        refine RR.brT dX5_soonest_25 rfl (by decide) ?_
        refine RR.s2 (pc' := 32) (lv' := [(0, .ref 0), (1, .int x1), (2, .int x2), (3, .int x3)]) (st' := [.ref 0]) dX5_soonest_31 rfl ?_
        refine RR.cV dX5_soonest_32 ml_X5_153 rfl rfl (as := []) (rest := []) rfl rfl (Nat.le_of_ble_eq_true rfl) (Nat.le_of_ble_eq_true rfl) (by decide) (RR.toC H (fun s1 H => ?_))
        show RR 0 6 mX5_soonest 35 [(0, .ref 0), (1, .int x1), (2, .int x2), (3, .int x3)] [.ref 32] s1 _
        refine RR.s2 (pc' := 36) (lv' := [(0, .ref 0), (1, .int x1), (2, .int x2), (3, .int x3)]) (st' := [.int x1, .ref 32]) dX5_soonest_35 rfl ?_
        refine RR.s2 (pc' := 37) (lv' := [(0, .ref 0), (1, .int x1), (2, .int x2), (3, .int x3)]) (st' := [.int x2, .int x1, .ref 32]) dX5_soonest_36 rfl ?_
        refine RR.cV dX5_soonest_37 ml_X5_169 rfl rfl (as := [.int x1, .int x2]) (rest := []) rfl rfl (Nat.le_of_ble_eq_true rfl) (Nat.le_of_ble_eq_true rfl) (by decide) (RR.toL H (fun v3 s2 H => ?_))
        show RR 0 6 mX5_soonest 40 [(0, .ref 0), (1, .int x1), (2, .int x2), (3, .int x3)] [.long v3] s2 _
        refine RR.s2 (pc' := 41) (lv' := [(0, .ref 0), (1, .int x1), (2, .int x2), (3, .int x3)]) (st' := [.int x3, .long v3]) dX5_soonest_40 rfl ?_
        refine RR.cS dX5_soonest_41 ml_X5_178 (as := [.long v3, .int x3]) (rest := []) rfl rfl (Nat.le_of_ble_eq_true rfl) (Nat.le_of_ble_eq_true rfl) (by decide) (RR.toI H (fun v5 s4 H => ?_))
        show RR 0 6 mX5_soonest 44 [(0, .ref 0), (1, .int x1), (2, .int x2), (3, .int x3)] [.int v5] s4 _
        exact RR.iret dX5_soonest_44 rfl ⟨_, rfl, H⟩
      · have H := H.2 c
        show RR 0 6 mX5_soonest 25 [(0, .ref 0), (1, .int x1), (2, .int x2), (3, .int x3)] [.int 0] σ _
        refine RR.brF dX5_soonest_25 rfl (by decide) ?_
        refine RR.bp (v := (-2)) dX5_soonest_28 (by decide) ?_
        exact RR.iret dX5_soonest_30 rfl ⟨_, rfl, H⟩
    · have H := H.2 c
      show RR 0 6 mX5_soonest 18 [(0, .ref 0), (1, .int x1), (2, .int x2), (3, .int x3)] [.int 0] σ _
      refine RR.brT dX5_soonest_18 rfl (by decide) ?_
      refine RR.bp (v := (-2)) dX5_soonest_28 (by decide) ?_
      exact RR.iret dX5_soonest_30 rfl ⟨_, rfl, H⟩
  · have H := H.2 c
    show RR 0 2 mX0_has 11 [(0, .ref 1), (1, .int x1)] [.int 0] σ _
    refine RR.zret dX0_has_11 rfl (by decide) ?_
    show RR 0 6 mX5_soonest 8 [(0, .ref 0), (1, .int x1), (2, .int x2), (3, .int x3)] [.int 0] σ _
    refine RR.brT dX5_soonest_8 rfl (by decide) ?_
    refine RR.bp (v := (-2)) dX5_soonest_28 (by decide) ?_
    exact RR.iret dX5_soonest_30 rfl ⟨_, rfl, H⟩
set_option maxRecDepth 20000 in
theorem b_X5_cheapest {σ : r_St} {K : Int32 → r_St → Prop} {x1 : Int32} {x2 : Int32} {x3 : Int32} {x4 : Int32}  (H : (IN x1 0 ((σ.1 1 4) - 1) → ((IN x2 1 9 → ((IN x3 0 39 → ((IN x4 0 1 → M_X5_laws σ (fun s1 => M_X1_openDays 32 s1 (fun v3 s2 => R_X5_cheapest_60 s2 K x1 x2 x4 v3 (-1) (-1) x3) x1)) ∧ (¬ IN x4 0 1 → K (-2) σ))) ∧ (¬ IN x3 0 39 → K (-2) σ))) ∧ (¬ IN x2 1 9 → K (-2) σ))) ∧ (¬ IN x1 0 ((σ.1 1 4) - 1) → K (-2) σ)) : M_X5_cheapest σ K x1 x2 x3 x4 := by
  show RR 0 6 mX5_cheapest 0 [(0, .ref 0), (1, .int x1), (2, .int x2), (3, .int x3), (4, .int x4)] [] σ (rI K)
  refine RR.s2 (pc' := 1) (lv' := [(0, .ref 0), (1, .int x1), (2, .int x2), (3, .int x3), (4, .int x4)]) (st' := [.ref 0]) dX5_cheapest_0 rfl ?_
  refine RR.getR dX5_cheapest_1 fl_X5_12 rfl rfl ?_
  refine RR.s2 (pc' := 5) (lv' := [(0, .ref 0), (1, .int x1), (2, .int x2), (3, .int x3), (4, .int x4)]) (st' := [.int x1, .ref 1]) dX5_cheapest_4 rfl ?_
  refine RR.cV (d' := 2) dX5_cheapest_5 ml_X5_92 rfl rfl (as := [.int x1]) (rest := []) rfl rfl (Nat.le_of_ble_eq_true rfl) (Nat.le_of_ble_eq_true rfl) (by decide) ?_
  show RR 0 2 mX0_has 0 [(0, .ref 1), (1, .int x1)] [] σ _
  refine RR.s2 (pc' := 1) (lv' := [(0, .ref 1), (1, .int x1)]) (st' := [.int x1]) dX0_has_0 rfl ?_
  refine RR.ic (v := 0) dX0_has_1 (by decide) ?_
  refine RR.s2 (pc' := 3) (lv' := [(0, .ref 1), (1, .int x1)]) (st' := [.ref 1, .int 0, .int x1]) dX0_has_2 rfl ?_
  refine RR.getI dX0_has_3 fl_X0_25 rfl rfl ?_
  refine RR.ic (v := 1) dX0_has_6 (by decide) ?_
  refine RR.s2 (pc' := 8) (lv' := [(0, .ref 1), (1, .int x1)]) (st' := [.int ((σ.1 1 4) - 1), .int 0, .int x1]) dX0_has_7 rfl ?_
  refine RR.cN dX0_has_8 ml_X0_28 (as := [.int x1, .int 0, .int ((σ.1 1 4) - 1)]) (rest := []) rfl rfl (Nat.le_of_ble_eq_true rfl) (Nat.le_of_ble_eq_true rfl) (by decide) (kb_X5_within (fun c => ?_) (fun c => ?_))
  · have H := H.1 c
    show RR 0 2 mX0_has 11 [(0, .ref 1), (1, .int x1)] [.int 1] σ _
    refine RR.zret dX0_has_11 rfl (by decide) ?_
    show RR 0 6 mX5_cheapest 8 [(0, .ref 0), (1, .int x1), (2, .int x2), (3, .int x3), (4, .int x4)] [.int 1] σ _
    refine RR.brF dX5_cheapest_8 rfl (by decide) ?_
    refine RR.s2 (pc' := 12) (lv' := [(0, .ref 0), (1, .int x1), (2, .int x2), (3, .int x3), (4, .int x4)]) (st' := [.int x2]) dX5_cheapest_11 rfl ?_
    refine RR.ic (v := 1) dX5_cheapest_12 (by decide) ?_
    refine RR.bp (v := 9) dX5_cheapest_13 (by decide) ?_
    refine RR.cS dX5_cheapest_15 ml_X5_71 (as := [.int x2, .int 1, .int 9]) (rest := []) rfl rfl (Nat.le_of_ble_eq_true rfl) (Nat.le_of_ble_eq_true rfl) (by decide) (kb_X5_within (fun c => ?_) (fun c => ?_))
    · have H := H.1 c
      show RR 0 6 mX5_cheapest 18 [(0, .ref 0), (1, .int x1), (2, .int x2), (3, .int x3), (4, .int x4)] [.int 1] σ _
      refine RR.brF dX5_cheapest_18 rfl (by decide) ?_
      refine RR.s2 (pc' := 22) (lv' := [(0, .ref 0), (1, .int x1), (2, .int x2), (3, .int x3), (4, .int x4)]) (st' := [.int x3]) dX5_cheapest_21 rfl ?_
      refine RR.cS dX5_cheapest_22 ml_X5_119 (as := [.int x3]) (rest := []) rfl rfl (Nat.le_of_ble_eq_true rfl) (Nat.le_of_ble_eq_true rfl) (by decide) (kb_X5_isDay (fun c => ?_) (fun c => ?_))
      · have H := H.1 c
        show RR 0 6 mX5_cheapest 25 [(0, .ref 0), (1, .int x1), (2, .int x2), (3, .int x3), (4, .int x4)] [.int 1] σ _
        refine RR.brF dX5_cheapest_25 rfl (by decide) ?_
        refine RR.s2 (pc' := 30) (lv' := [(0, .ref 0), (1, .int x1), (2, .int x2), (3, .int x3), (4, .int x4)]) (st' := [.int x4]) dX5_cheapest_28 rfl ?_
        refine RR.ic (v := 0) dX5_cheapest_30 (by decide) ?_
        refine RR.ic (v := 1) dX5_cheapest_31 (by decide) ?_
        refine RR.cS dX5_cheapest_32 ml_X5_71 (as := [.int x4, .int 0, .int 1]) (rest := []) rfl rfl (Nat.le_of_ble_eq_true rfl) (Nat.le_of_ble_eq_true rfl) (by decide) (kb_X5_within (fun c => ?_) (fun c => ?_))
        · have H := H.1 c
          show RR 0 6 mX5_cheapest 35 [(0, .ref 0), (1, .int x1), (2, .int x2), (3, .int x3), (4, .int x4)] [.int 1] σ _
          refine RR.brT dX5_cheapest_35 rfl (by decide) ?_
          refine RR.s2 (pc' := 42) (lv' := [(0, .ref 0), (1, .int x1), (2, .int x2), (3, .int x3), (4, .int x4)]) (st' := [.ref 0]) dX5_cheapest_41 rfl ?_
          refine RR.cV dX5_cheapest_42 ml_X5_153 rfl rfl (as := []) (rest := []) rfl rfl (Nat.le_of_ble_eq_true rfl) (Nat.le_of_ble_eq_true rfl) (by decide) (RR.toC H (fun s1 H => ?_))
          show RR 0 6 mX5_cheapest 45 [(0, .ref 0), (1, .int x1), (2, .int x2), (3, .int x3), (4, .int x4)] [.ref 32] s1 _
          refine RR.s2 (pc' := 46) (lv' := [(0, .ref 0), (1, .int x1), (2, .int x2), (3, .int x3), (4, .int x4)]) (st' := [.int x1, .ref 32]) dX5_cheapest_45 rfl ?_
          refine RR.cV dX5_cheapest_46 ml_X5_182 rfl rfl (as := [.int x1]) (rest := []) rfl rfl (Nat.le_of_ble_eq_true rfl) (Nat.le_of_ble_eq_true rfl) (by decide) (RR.toL H (fun v3 s2 H => ?_))
          show RR 0 6 mX5_cheapest 49 [(0, .ref 0), (1, .int x1), (2, .int x2), (3, .int x3), (4, .int x4)] [.long v3] s2 _
          refine RR.s2 (pc' := 51) (lv' := [(0, .ref 0), (1, .int x1), (2, .int x2), (3, .int x3), (4, .int x4), (5, .long v3)]) (st' := []) dX5_cheapest_49 rfl ?_
          refine RR.ic (v := (-1)) dX5_cheapest_51 (by decide) ?_
          refine RR.s2 (pc' := 54) (lv' := [(0, .ref 0), (1, .int x1), (2, .int x2), (3, .int x3), (4, .int x4), (5, .long v3), (7, .int (-1))]) (st' := []) dX5_cheapest_52 rfl ?_
          refine RR.ic (v := (-1)) dX5_cheapest_54 (by decide) ?_
          refine RR.s2 (pc' := 57) (lv' := [(0, .ref 0), (1, .int x1), (2, .int x2), (3, .int x3), (4, .int x4), (5, .long v3), (7, .int (-1)), (8, .int (-1))]) (st' := []) dX5_cheapest_55 rfl ?_
          refine RR.s2 (pc' := 58) (lv' := [(0, .ref 0), (1, .int x1), (2, .int x2), (3, .int x3), (4, .int x4), (5, .long v3), (7, .int (-1)), (8, .int (-1))]) (st' := [.int x3]) dX5_cheapest_57 rfl ?_
          refine RR.s2 (pc' := 60) (lv' := [(0, .ref 0), (1, .int x1), (2, .int x2), (3, .int x3), (4, .int x4), (5, .long v3), (7, .int (-1)), (8, .int (-1)), (9, .int x3)]) (st' := []) dX5_cheapest_58 rfl ?_
          exact RR.cut [0, 1, 2, 4, 5, 6, 7, 8] rfl H
        · have H := H.2 c
          show RR 0 6 mX5_cheapest 35 [(0, .ref 0), (1, .int x1), (2, .int x2), (3, .int x3), (4, .int x4)] [.int 0] σ _
          refine RR.brF dX5_cheapest_35 rfl (by decide) ?_
          refine RR.bp (v := (-2)) dX5_cheapest_38 (by decide) ?_
          exact RR.iret dX5_cheapest_40 rfl ⟨_, rfl, H⟩
      · have H := H.2 c
        show RR 0 6 mX5_cheapest 25 [(0, .ref 0), (1, .int x1), (2, .int x2), (3, .int x3), (4, .int x4)] [.int 0] σ _
        refine RR.brT dX5_cheapest_25 rfl (by decide) ?_
        refine RR.bp (v := (-2)) dX5_cheapest_38 (by decide) ?_
        exact RR.iret dX5_cheapest_40 rfl ⟨_, rfl, H⟩
    · have H := H.2 c
      show RR 0 6 mX5_cheapest 18 [(0, .ref 0), (1, .int x1), (2, .int x2), (3, .int x3), (4, .int x4)] [.int 0] σ _
      refine RR.brT dX5_cheapest_18 rfl (by decide) ?_
      refine RR.bp (v := (-2)) dX5_cheapest_38 (by decide) ?_
      exact RR.iret dX5_cheapest_40 rfl ⟨_, rfl, H⟩
  · have H := H.2 c
    show RR 0 2 mX0_has 11 [(0, .ref 1), (1, .int x1)] [.int 0] σ _
    refine RR.zret dX0_has_11 rfl (by decide) ?_
    show RR 0 6 mX5_cheapest 8 [(0, .ref 0), (1, .int x1), (2, .int x2), (3, .int x3), (4, .int x4)] [.int 0] σ _
    refine RR.brT dX5_cheapest_8 rfl (by decide) ?_
    refine RR.bp (v := (-2)) dX5_cheapest_38 (by decide) ?_
    exact RR.iret dX5_cheapest_40 rfl ⟨_, rfl, H⟩
set_option maxRecDepth 20000 in
theorem b_X5_cheapest_60 {σ : r_St} {K : Int32 → r_St → Prop} {x1 : Int32} {x2 : Int32} {x4 : Int32} {y5 : Int64} {x7 : Int32} {x8 : Int32} {x9 : Int32}  (H : (40 < x9 + x2 → ((¬ x4 = 0 → K x8 σ) ∧ (x4 = 0 → K x7 σ))) ∧ (¬ (40 < x9 + x2) → (M_X0_fineOf σ (fun v2 s1 => M_X5_closedDays s1 (fun v4 s3 => (x7 = (-1) → R_X5_cheapest_60 s3 K x1 x2 x4 y5 x9 (v2 * v4) (x9 + 1)) ∧ (¬ (x7 = (-1)) → ((x8 ≤ v2 * v4 → R_X5_cheapest_60 s3 K x1 x2 x4 y5 x7 x8 (x9 + 1)) ∧ (¬ (x8 ≤ v2 * v4) → R_X5_cheapest_60 s3 K x1 x2 x4 y5 x9 (v2 * v4) (x9 + 1))))) y5 x9 x2) x1))) : R_X5_cheapest_60 σ K x1 x2 x4 y5 x7 x8 x9 := by
  show RR 0 6 mX5_cheapest 60 [(0, .ref 0), (1, .int x1), (2, .int x2), (4, .int x4), (5, .long y5), (7, .int x7), (8, .int x8), (9, .int x9)] [] σ (rI K)
  refine RR.s2 (pc' := 62) (lv' := [(0, .ref 0), (1, .int x1), (2, .int x2), (4, .int x4), (5, .long y5), (7, .int x7), (8, .int x8), (9, .int x9)]) (st' := [.int x9]) dX5_cheapest_60 rfl ?_
  refine RR.s2 (pc' := 63) (lv' := [(0, .ref 0), (1, .int x1), (2, .int x2), (4, .int x4), (5, .long y5), (7, .int x7), (8, .int x8), (9, .int x9)]) (st' := [.int x2, .int x9]) dX5_cheapest_62 rfl ?_
  refine RR.s2 (pc' := 64) (lv' := [(0, .ref 0), (1, .int x1), (2, .int x2), (4, .int x4), (5, .long y5), (7, .int x7), (8, .int x8), (9, .int x9)]) (st' := [.int (x9 + x2)]) dX5_cheapest_63 rfl ?_
  refine RR.bp (v := 40) dX5_cheapest_64 (by decide) ?_
  refine RR.br dX5_cheapest_66 rfl (fun c => ?_) (fun c => ?_)
  · have H := H.1 c
    refine RR.s2 (pc' := 117) (lv' := [(0, .ref 0), (1, .int x1), (2, .int x2), (4, .int x4), (5, .long y5), (7, .int x7), (8, .int x8), (9, .int x9)]) (st' := [.int x4]) dX5_cheapest_115 rfl ?_
    refine RR.br dX5_cheapest_117 rfl (fun c => ?_) (fun c => ?_)
    · have H := H.1 c
      refine RR.s2 (pc' := 127) (lv' := [(0, .ref 0), (1, .int x1), (2, .int x2), (4, .int x4), (5, .long y5), (7, .int x7), (8, .int x8), (9, .int x9)]) (st' := [.int x8]) dX5_cheapest_125 rfl ?_
      exact RR.iret dX5_cheapest_127 rfl ⟨_, rfl, H⟩
    · have H := H.2 (Classical.not_not.mp c)
      refine RR.s2 (pc' := 122) (lv' := [(0, .ref 0), (1, .int x1), (2, .int x2), (4, .int x4), (5, .long y5), (7, .int x7), (8, .int x8), (9, .int x9)]) (st' := [.int x7]) dX5_cheapest_120 rfl ?_
      refine RR.s2 (pc' := 127) (lv' := [(0, .ref 0), (1, .int x1), (2, .int x2), (4, .int x4), (5, .long y5), (7, .int x7), (8, .int x8), (9, .int x9)]) (st' := [.int x7]) dX5_cheapest_122 rfl ?_
      exact RR.iret dX5_cheapest_127 rfl ⟨_, rfl, H⟩
  · have H := H.2 c
    refine RR.s2 (pc' := 70) (lv' := [(0, .ref 0), (1, .int x1), (2, .int x2), (4, .int x4), (5, .long y5), (7, .int x7), (8, .int x8), (9, .int x9)]) (st' := [.ref 0]) dX5_cheapest_69 rfl ?_
    refine RR.getR dX5_cheapest_70 fl_X5_12 rfl rfl ?_
    refine RR.s2 (pc' := 74) (lv' := [(0, .ref 0), (1, .int x1), (2, .int x2), (4, .int x4), (5, .long y5), (7, .int x7), (8, .int x8), (9, .int x9)]) (st' := [.int x1, .ref 1]) dX5_cheapest_73 rfl ?_
    refine RR.cV dX5_cheapest_74 ml_X5_96 rfl rfl (as := [.int x1]) (rest := []) rfl rfl (Nat.le_of_ble_eq_true rfl) (Nat.le_of_ble_eq_true rfl) (by decide) (RR.toI H (fun v2 s1 H => ?_))
    show RR 0 6 mX5_cheapest 77 [(0, .ref 0), (1, .int x1), (2, .int x2), (4, .int x4), (5, .long y5), (7, .int x7), (8, .int x8), (9, .int x9)] [.int v2] s1 _
    refine RR.s2 (pc' := 79) (lv' := [(0, .ref 0), (1, .int x1), (2, .int x2), (4, .int x4), (5, .long y5), (7, .int x7), (8, .int x8), (9, .int x9)]) (st' := [.long y5, .int v2]) dX5_cheapest_77 rfl ?_
    refine RR.s2 (pc' := 81) (lv' := [(0, .ref 0), (1, .int x1), (2, .int x2), (4, .int x4), (5, .long y5), (7, .int x7), (8, .int x8), (9, .int x9)]) (st' := [.int x9, .long y5, .int v2]) dX5_cheapest_79 rfl ?_
    refine RR.s2 (pc' := 82) (lv' := [(0, .ref 0), (1, .int x1), (2, .int x2), (4, .int x4), (5, .long y5), (7, .int x7), (8, .int x8), (9, .int x9)]) (st' := [.int x2, .int x9, .long y5, .int v2]) dX5_cheapest_81 rfl ?_
    refine RR.cS dX5_cheapest_82 ml_X5_186 (as := [.long y5, .int x9, .int x2]) (rest := [.int v2]) rfl rfl (Nat.le_of_ble_eq_true rfl) (Nat.le_of_ble_eq_true rfl) (by decide) (RR.toI H (fun v4 s3 H => ?_))
    show RR 0 6 mX5_cheapest 85 [(0, .ref 0), (1, .int x1), (2, .int x2), (4, .int x4), (5, .long y5), (7, .int x7), (8, .int x8), (9, .int x9)] [.int v4, .int v2] s3 _
    refine RR.s2 (pc' := 86) (lv' := [(0, .ref 0), (1, .int x1), (2, .int x2), (4, .int x4), (5, .long y5), (7, .int x7), (8, .int x8), (9, .int x9)]) (st' := [.int (v2 * v4)]) dX5_cheapest_85 rfl ?_
    refine RR.s2 (pc' := 88) (lv' := [(0, .ref 0), (1, .int x1), (2, .int x2), (4, .int x4), (5, .long y5), (7, .int x7), (8, .int x8), (9, .int x9), (10, .int (v2 * v4))]) (st' := []) dX5_cheapest_86 rfl ?_
    refine RR.s2 (pc' := 90) (lv' := [(0, .ref 0), (1, .int x1), (2, .int x2), (4, .int x4), (5, .long y5), (7, .int x7), (8, .int x8), (9, .int x9), (10, .int (v2 * v4))]) (st' := [.int x7]) dX5_cheapest_88 rfl ?_
    refine RR.ic (v := (-1)) dX5_cheapest_90 (by decide) ?_
    refine RR.br dX5_cheapest_91 rfl (fun c => ?_) (fun c => ?_)
    · have H := H.1 c
      refine RR.s2 (pc' := 103) (lv' := [(0, .ref 0), (1, .int x1), (2, .int x2), (4, .int x4), (5, .long y5), (7, .int x7), (8, .int x8), (9, .int x9), (10, .int (v2 * v4))]) (st' := [.int x9]) dX5_cheapest_101 rfl ?_
      refine RR.s2 (pc' := 105) (lv' := [(0, .ref 0), (1, .int x1), (2, .int x2), (4, .int x4), (5, .long y5), (7, .int x9), (8, .int x8), (9, .int x9), (10, .int (v2 * v4))]) (st' := []) dX5_cheapest_103 rfl ?_
      refine RR.s2 (pc' := 107) (lv' := [(0, .ref 0), (1, .int x1), (2, .int x2), (4, .int x4), (5, .long y5), (7, .int x9), (8, .int x8), (9, .int x9), (10, .int (v2 * v4))]) (st' := [.int (v2 * v4)]) dX5_cheapest_105 rfl ?_
      refine RR.s2 (pc' := 109) (lv' := [(0, .ref 0), (1, .int x1), (2, .int x2), (4, .int x4), (5, .long y5), (7, .int x9), (8, .int (v2 * v4)), (9, .int x9), (10, .int (v2 * v4))]) (st' := []) dX5_cheapest_107 rfl ?_
      refine RR.inc (c := 1) (lv' := [(0, .ref 0), (1, .int x1), (2, .int x2), (4, .int x4), (5, .long y5), (7, .int x9), (8, .int (v2 * v4)), (9, .int (x9 + 1)), (10, .int (v2 * v4))]) dX5_cheapest_109 rfl (by decide) (by decide) rfl ?_
      refine RR.s2 (pc' := 60) (lv' := [(0, .ref 0), (1, .int x1), (2, .int x2), (4, .int x4), (5, .long y5), (7, .int x9), (8, .int (v2 * v4)), (9, .int (x9 + 1)), (10, .int (v2 * v4))]) (st' := []) dX5_cheapest_112 rfl ?_
      exact RR.cut [0, 1, 2, 3, 4, 5, 6, 7] rfl H
    · have H := H.2 c
      refine RR.s2 (pc' := 96) (lv' := [(0, .ref 0), (1, .int x1), (2, .int x2), (4, .int x4), (5, .long y5), (7, .int x7), (8, .int x8), (9, .int x9), (10, .int (v2 * v4))]) (st' := [.int (v2 * v4)]) dX5_cheapest_94 rfl ?_
      refine RR.s2 (pc' := 98) (lv' := [(0, .ref 0), (1, .int x1), (2, .int x2), (4, .int x4), (5, .long y5), (7, .int x7), (8, .int x8), (9, .int x9), (10, .int (v2 * v4))]) (st' := [.int x8, .int (v2 * v4)]) dX5_cheapest_96 rfl ?_
      refine RR.br dX5_cheapest_98 rfl (fun c => ?_) (fun c => ?_)
      · have H := H.1 c
        refine RR.inc (c := 1) (lv' := [(0, .ref 0), (1, .int x1), (2, .int x2), (4, .int x4), (5, .long y5), (7, .int x7), (8, .int x8), (9, .int (x9 + 1)), (10, .int (v2 * v4))]) dX5_cheapest_109 rfl (by decide) (by decide) rfl ?_
        refine RR.s2 (pc' := 60) (lv' := [(0, .ref 0), (1, .int x1), (2, .int x2), (4, .int x4), (5, .long y5), (7, .int x7), (8, .int x8), (9, .int (x9 + 1)), (10, .int (v2 * v4))]) (st' := []) dX5_cheapest_112 rfl ?_
        exact RR.cut [0, 1, 2, 3, 4, 5, 6, 7] rfl H
      · have H := H.2 c
        refine RR.s2 (pc' := 103) (lv' := [(0, .ref 0), (1, .int x1), (2, .int x2), (4, .int x4), (5, .long y5), (7, .int x7), (8, .int x8), (9, .int x9), (10, .int (v2 * v4))]) (st' := [.int x9]) dX5_cheapest_101 rfl ?_
        refine RR.s2 (pc' := 105) (lv' := [(0, .ref 0), (1, .int x1), (2, .int x2), (4, .int x4), (5, .long y5), (7, .int x9), (8, .int x8), (9, .int x9), (10, .int (v2 * v4))]) (st' := []) dX5_cheapest_103 rfl ?_
        refine RR.s2 (pc' := 107) (lv' := [(0, .ref 0), (1, .int x1), (2, .int x2), (4, .int x4), (5, .long y5), (7, .int x9), (8, .int x8), (9, .int x9), (10, .int (v2 * v4))]) (st' := [.int (v2 * v4)]) dX5_cheapest_105 rfl ?_
        refine RR.s2 (pc' := 109) (lv' := [(0, .ref 0), (1, .int x1), (2, .int x2), (4, .int x4), (5, .long y5), (7, .int x9), (8, .int (v2 * v4)), (9, .int x9), (10, .int (v2 * v4))]) (st' := []) dX5_cheapest_107 rfl ?_
        refine RR.inc (c := 1) (lv' := [(0, .ref 0), (1, .int x1), (2, .int x2), (4, .int x4), (5, .long y5), (7, .int x9), (8, .int (v2 * v4)), (9, .int (x9 + 1)), (10, .int (v2 * v4))]) dX5_cheapest_109 rfl (by decide) (by decide) rfl ?_
        refine RR.s2 (pc' := 60) (lv' := [(0, .ref 0), (1, .int x1), (2, .int x2), (4, .int x4), (5, .long y5), (7, .int x9), (8, .int (v2 * v4)), (9, .int (x9 + 1)), (10, .int (v2 * v4))]) (st' := []) dX5_cheapest_112 rfl ?_
        exact RR.cut [0, 1, 2, 3, 4, 5, 6, 7] rfl H
set_option maxRecDepth 20000 in
theorem b_X5_finish {σ : r_St} {K : Int32 → r_St → Prop} {x1 : Int32} {x2 : Int32}  (H : (IN x1 0 39 → ((IN x2 (-1) 5 → (M_X5_laws σ (fun s1 => M_X2_prepare s1 (fun s2 => M_X2_layInTurn s2 (fun v4 s3 => (v4 = (-1) → K v4 s3) ∧ (¬ (v4 = (-1)) → ((¬ x2 = (-1) → M_X2_startInTurn s3 (fun v6 s5 => K v6 s5) x2) ∧ (x2 = (-1) → K v4 s3)))) x1)))) ∧ (¬ IN x2 (-1) 5 → K (-2) σ))) ∧ (¬ IN x1 0 39 → K (-2) σ)) : M_X5_finish σ K x1 x2 := by
  show RR 0 6 mX5_finish 0 [(0, .ref 0), (1, .int x1), (2, .int x2)] [] σ (rI K)
  refine RR.s2 (pc' := 1) (lv' := [(0, .ref 0), (1, .int x1), (2, .int x2)]) (st' := [.int x1]) dX5_finish_0 rfl ?_
  refine RR.cS dX5_finish_1 ml_X5_119 (as := [.int x1]) (rest := []) rfl rfl (Nat.le_of_ble_eq_true rfl) (Nat.le_of_ble_eq_true rfl) (by decide) (kb_X5_isDay (fun c => ?_) (fun c => ?_))
  · have H := H.1 c
    show RR 0 6 mX5_finish 4 [(0, .ref 0), (1, .int x1), (2, .int x2)] [.int 1] σ _
    refine RR.brF dX5_finish_4 rfl (by decide) ?_
    refine RR.s2 (pc' := 8) (lv' := [(0, .ref 0), (1, .int x1), (2, .int x2)]) (st' := [.int x2]) dX5_finish_7 rfl ?_
    refine RR.ic (v := (-1)) dX5_finish_8 (by decide) ?_
    refine RR.ic (v := 5) dX5_finish_9 (by decide) ?_
    refine RR.cS dX5_finish_10 ml_X5_71 (as := [.int x2, .int (-1), .int 5]) (rest := []) rfl rfl (Nat.le_of_ble_eq_true rfl) (Nat.le_of_ble_eq_true rfl) (by decide) (kb_X5_within (fun c => ?_) (fun c => ?_))
    · have H := H.1 c
      show RR 0 6 mX5_finish 13 [(0, .ref 0), (1, .int x1), (2, .int x2)] [.int 1] σ _
      refine RR.brT dX5_finish_13 rfl (by decide) ?_
      refine RR.s2 (pc' := 20) (lv' := [(0, .ref 0), (1, .int x1), (2, .int x2)]) (st' := [.ref 0]) dX5_finish_19 rfl ?_
      refine RR.getR dX5_finish_20 fl_X5_56 rfl rfl ?_
      refine RR.s2 (pc' := 24) (lv' := [(0, .ref 0), (1, .int x1), (2, .int x2)]) (st' := [.ref 0, .ref 44]) dX5_finish_23 rfl ?_
      refine RR.getR dX5_finish_24 fl_X5_34 rfl rfl ?_
      refine RR.s2 (pc' := 28) (lv' := [(0, .ref 0), (1, .int x1), (2, .int x2)]) (st' := [.ref 0, .ref 20, .ref 44]) dX5_finish_27 rfl ?_
      refine RR.cV dX5_finish_28 ml_X5_153 rfl rfl (as := []) (rest := [.ref 20, .ref 44]) rfl rfl (Nat.le_of_ble_eq_true rfl) (Nat.le_of_ble_eq_true rfl) (by decide) (RR.toC H (fun s1 H => ?_))
      show RR 0 6 mX5_finish 31 [(0, .ref 0), (1, .int x1), (2, .int x2)] [.ref 32, .ref 20, .ref 44] s1 _
      refine RR.cV dX5_finish_31 ml_X5_190 rfl rfl (as := [.ref 20, .ref 32]) (rest := []) rfl rfl (Nat.le_of_ble_eq_true rfl) (Nat.le_of_ble_eq_true rfl) (by decide) (RR.toV H (fun s2 H => ?_))
      show RR 0 6 mX5_finish 34 [(0, .ref 0), (1, .int x1), (2, .int x2)] [] s2 _
      refine RR.s2 (pc' := 35) (lv' := [(0, .ref 0), (1, .int x1), (2, .int x2)]) (st' := [.ref 0]) dX5_finish_34 rfl ?_
      refine RR.getR dX5_finish_35 fl_X5_56 rfl rfl ?_
      refine RR.s2 (pc' := 39) (lv' := [(0, .ref 0), (1, .int x1), (2, .int x2)]) (st' := [.int x1, .ref 44]) dX5_finish_38 rfl ?_
      refine RR.cV dX5_finish_39 ml_X5_194 rfl rfl (as := [.int x1]) (rest := []) rfl rfl (Nat.le_of_ble_eq_true rfl) (Nat.le_of_ble_eq_true rfl) (by decide) (RR.toI H (fun v4 s3 H => ?_))
      show RR 0 6 mX5_finish 42 [(0, .ref 0), (1, .int x1), (2, .int x2)] [.int v4] s3 _
      refine RR.s2 (pc' := 43) (lv' := [(0, .ref 0), (1, .int x1), (2, .int x2), (3, .int v4)]) (st' := []) dX5_finish_42 rfl ?_
      refine RR.s2 (pc' := 44) (lv' := [(0, .ref 0), (1, .int x1), (2, .int x2), (3, .int v4)]) (st' := [.int v4]) dX5_finish_43 rfl ?_
      refine RR.ic (v := (-1)) dX5_finish_44 (by decide) ?_
      refine RR.br dX5_finish_45 rfl (fun c => ?_) (fun c => ?_)
      · have H := H.1 c
        refine RR.s2 (pc' := 54) (lv' := [(0, .ref 0), (1, .int x1), (2, .int x2), (3, .int v4)]) (st' := [.int v4]) dX5_finish_53 rfl ?_
        exact RR.iret dX5_finish_54 rfl ⟨_, rfl, H⟩
      · have H := H.2 c
        refine RR.s2 (pc' := 49) (lv' := [(0, .ref 0), (1, .int x1), (2, .int x2), (3, .int v4)]) (st' := [.int x2]) dX5_finish_48 rfl ?_
        refine RR.ic (v := (-1)) dX5_finish_49 (by decide) ?_
        refine RR.br dX5_finish_50 rfl (fun c => ?_) (fun c => ?_)
        · have H := H.1 c
          refine RR.s2 (pc' := 56) (lv' := [(0, .ref 0), (1, .int x1), (2, .int x2), (3, .int v4)]) (st' := [.ref 0]) dX5_finish_55 rfl ?_
          refine RR.getR dX5_finish_56 fl_X5_56 rfl rfl ?_
          refine RR.s2 (pc' := 60) (lv' := [(0, .ref 0), (1, .int x1), (2, .int x2), (3, .int v4)]) (st' := [.int x2, .ref 44]) dX5_finish_59 rfl ?_
          refine RR.cV dX5_finish_60 ml_X5_197 rfl rfl (as := [.int x2]) (rest := []) rfl rfl (Nat.le_of_ble_eq_true rfl) (Nat.le_of_ble_eq_true rfl) (by decide) (RR.toI H (fun v6 s5 H => ?_))
          show RR 0 6 mX5_finish 63 [(0, .ref 0), (1, .int x1), (2, .int x2), (3, .int v4)] [.int v6] s5 _
          exact RR.iret dX5_finish_63 rfl ⟨_, rfl, H⟩
        · have H := H.2 (Classical.not_not.mp c)
          refine RR.s2 (pc' := 54) (lv' := [(0, .ref 0), (1, .int x1), (2, .int x2), (3, .int v4)]) (st' := [.int v4]) dX5_finish_53 rfl ?_
          exact RR.iret dX5_finish_54 rfl ⟨_, rfl, H⟩
    · have H := H.2 c
      show RR 0 6 mX5_finish 13 [(0, .ref 0), (1, .int x1), (2, .int x2)] [.int 0] σ _
      refine RR.brF dX5_finish_13 rfl (by decide) ?_
      refine RR.bp (v := (-2)) dX5_finish_16 (by decide) ?_
      exact RR.iret dX5_finish_18 rfl ⟨_, rfl, H⟩
  · have H := H.2 c
    show RR 0 6 mX5_finish 4 [(0, .ref 0), (1, .int x1), (2, .int x2)] [.int 0] σ _
    refine RR.brT dX5_finish_4 rfl (by decide) ?_
    refine RR.bp (v := (-2)) dX5_finish_16 (by decide) ?_
    exact RR.iret dX5_finish_18 rfl ⟨_, rfl, H⟩
set_option maxRecDepth 20000 in
theorem b_X5_plan {σ : r_St} {K : Int32 → r_St → Prop} {x1 : Int32} {x2 : Int32}  (H : (IN x1 0 39 → ((IN x2 (-1) 5 → (M_X5_laws σ (fun s1 => M_X2_prepare s1 (fun s2 => M_X2_findBestRow s2 (fun v4 s3 => (v4 = (-1) → K v4 s3) ∧ (¬ (v4 = (-1)) → ((¬ x2 = (-1) → M_X2_taskInBestRow s3 (fun v6 s5 => K v6 s5) x2) ∧ (x2 = (-1) → K v4 s3)))) x1)))) ∧ (¬ IN x2 (-1) 5 → K (-2) σ))) ∧ (¬ IN x1 0 39 → K (-2) σ)) : M_X5_plan σ K x1 x2 := by
  show RR 0 22 mX5_plan 0 [(0, .ref 0), (1, .int x1), (2, .int x2)] [] σ (rI K)
  refine RR.s2 (pc' := 1) (lv' := [(0, .ref 0), (1, .int x1), (2, .int x2)]) (st' := [.int x1]) dX5_plan_0 rfl ?_
  refine RR.cS dX5_plan_1 ml_X5_119 (as := [.int x1]) (rest := []) rfl rfl (Nat.le_of_ble_eq_true rfl) (Nat.le_of_ble_eq_true rfl) (by decide) (kb_X5_isDay (fun c => ?_) (fun c => ?_))
  · have H := H.1 c
    show RR 0 22 mX5_plan 4 [(0, .ref 0), (1, .int x1), (2, .int x2)] [.int 1] σ _
    refine RR.brF dX5_plan_4 rfl (by decide) ?_
    refine RR.s2 (pc' := 8) (lv' := [(0, .ref 0), (1, .int x1), (2, .int x2)]) (st' := [.int x2]) dX5_plan_7 rfl ?_
    refine RR.ic (v := (-1)) dX5_plan_8 (by decide) ?_
    refine RR.ic (v := 5) dX5_plan_9 (by decide) ?_
    refine RR.cS dX5_plan_10 ml_X5_71 (as := [.int x2, .int (-1), .int 5]) (rest := []) rfl rfl (Nat.le_of_ble_eq_true rfl) (Nat.le_of_ble_eq_true rfl) (by decide) (kb_X5_within (fun c => ?_) (fun c => ?_))
    · have H := H.1 c
      show RR 0 22 mX5_plan 13 [(0, .ref 0), (1, .int x1), (2, .int x2)] [.int 1] σ _
      refine RR.brT dX5_plan_13 rfl (by decide) ?_
      refine RR.s2 (pc' := 20) (lv' := [(0, .ref 0), (1, .int x1), (2, .int x2)]) (st' := [.ref 0]) dX5_plan_19 rfl ?_
      refine RR.getR dX5_plan_20 fl_X5_56 rfl rfl ?_
      refine RR.s2 (pc' := 24) (lv' := [(0, .ref 0), (1, .int x1), (2, .int x2)]) (st' := [.ref 0, .ref 44]) dX5_plan_23 rfl ?_
      refine RR.getR dX5_plan_24 fl_X5_34 rfl rfl ?_
      refine RR.s2 (pc' := 28) (lv' := [(0, .ref 0), (1, .int x1), (2, .int x2)]) (st' := [.ref 0, .ref 20, .ref 44]) dX5_plan_27 rfl ?_
      refine RR.cV dX5_plan_28 ml_X5_153 rfl rfl (as := []) (rest := [.ref 20, .ref 44]) rfl rfl (Nat.le_of_ble_eq_true rfl) (Nat.le_of_ble_eq_true rfl) (by decide) (RR.toC H (fun s1 H => ?_))
      show RR 0 22 mX5_plan 31 [(0, .ref 0), (1, .int x1), (2, .int x2)] [.ref 32, .ref 20, .ref 44] s1 _
      refine RR.cV dX5_plan_31 ml_X5_190 rfl rfl (as := [.ref 20, .ref 32]) (rest := []) rfl rfl (Nat.le_of_ble_eq_true rfl) (Nat.le_of_ble_eq_true rfl) (by decide) (RR.toV H (fun s2 H => ?_))
      show RR 0 22 mX5_plan 34 [(0, .ref 0), (1, .int x1), (2, .int x2)] [] s2 _
      refine RR.s2 (pc' := 35) (lv' := [(0, .ref 0), (1, .int x1), (2, .int x2)]) (st' := [.ref 0]) dX5_plan_34 rfl ?_
      refine RR.getR dX5_plan_35 fl_X5_56 rfl rfl ?_
      refine RR.s2 (pc' := 39) (lv' := [(0, .ref 0), (1, .int x1), (2, .int x2)]) (st' := [.int x1, .ref 44]) dX5_plan_38 rfl ?_
      refine RR.cV dX5_plan_39 ml_X5_200 rfl rfl (as := [.int x1]) (rest := []) rfl rfl (Nat.le_of_ble_eq_true rfl) (Nat.le_of_ble_eq_true rfl) (by decide) (RR.toI H (fun v4 s3 H => ?_))
      show RR 0 22 mX5_plan 42 [(0, .ref 0), (1, .int x1), (2, .int x2)] [.int v4] s3 _
      refine RR.s2 (pc' := 43) (lv' := [(0, .ref 0), (1, .int x1), (2, .int x2), (3, .int v4)]) (st' := []) dX5_plan_42 rfl ?_
      refine RR.s2 (pc' := 44) (lv' := [(0, .ref 0), (1, .int x1), (2, .int x2), (3, .int v4)]) (st' := [.int v4]) dX5_plan_43 rfl ?_
      refine RR.ic (v := (-1)) dX5_plan_44 (by decide) ?_
      refine RR.br dX5_plan_45 rfl (fun c => ?_) (fun c => ?_)
      · have H := H.1 c
        refine RR.s2 (pc' := 54) (lv' := [(0, .ref 0), (1, .int x1), (2, .int x2), (3, .int v4)]) (st' := [.int v4]) dX5_plan_53 rfl ?_
        exact RR.iret dX5_plan_54 rfl ⟨_, rfl, H⟩
      · have H := H.2 c
        refine RR.s2 (pc' := 49) (lv' := [(0, .ref 0), (1, .int x1), (2, .int x2), (3, .int v4)]) (st' := [.int x2]) dX5_plan_48 rfl ?_
        refine RR.ic (v := (-1)) dX5_plan_49 (by decide) ?_
        refine RR.br dX5_plan_50 rfl (fun c => ?_) (fun c => ?_)
        · have H := H.1 c
          refine RR.s2 (pc' := 56) (lv' := [(0, .ref 0), (1, .int x1), (2, .int x2), (3, .int v4)]) (st' := [.ref 0]) dX5_plan_55 rfl ?_
          refine RR.getR dX5_plan_56 fl_X5_56 rfl rfl ?_
          refine RR.s2 (pc' := 60) (lv' := [(0, .ref 0), (1, .int x1), (2, .int x2), (3, .int v4)]) (st' := [.int x2, .ref 44]) dX5_plan_59 rfl ?_
          refine RR.cV dX5_plan_60 ml_X5_203 rfl rfl (as := [.int x2]) (rest := []) rfl rfl (Nat.le_of_ble_eq_true rfl) (Nat.le_of_ble_eq_true rfl) (by decide) (RR.toI H (fun v6 s5 H => ?_))
          show RR 0 22 mX5_plan 63 [(0, .ref 0), (1, .int x1), (2, .int x2), (3, .int v4)] [.int v6] s5 _
          exact RR.iret dX5_plan_63 rfl ⟨_, rfl, H⟩
        · have H := H.2 (Classical.not_not.mp c)
          refine RR.s2 (pc' := 54) (lv' := [(0, .ref 0), (1, .int x1), (2, .int x2), (3, .int v4)]) (st' := [.int v4]) dX5_plan_53 rfl ?_
          exact RR.iret dX5_plan_54 rfl ⟨_, rfl, H⟩
    · have H := H.2 c
      show RR 0 22 mX5_plan 13 [(0, .ref 0), (1, .int x1), (2, .int x2)] [.int 0] σ _
      refine RR.brF dX5_plan_13 rfl (by decide) ?_
      refine RR.bp (v := (-2)) dX5_plan_16 (by decide) ?_
      exact RR.iret dX5_plan_18 rfl ⟨_, rfl, H⟩
  · have H := H.2 c
    show RR 0 22 mX5_plan 4 [(0, .ref 0), (1, .int x1), (2, .int x2)] [.int 0] σ _
    refine RR.brT dX5_plan_4 rfl (by decide) ?_
    refine RR.bp (v := (-2)) dX5_plan_16 (by decide) ?_
    exact RR.iret dX5_plan_18 rfl ⟨_, rfl, H⟩
set_option maxRecDepth 20000 in
theorem b_X5_words {σ : r_St} {K : Int32 → r_St → Prop} {x1 : Int32} {x2 : Int32} {x3 : Int32}  (H : (IN x1 0 39 → ((IN x2 1 3 → ((39 < x1 + x2 → K (-2) σ) ∧ (¬ (39 < x1 + x2) → ((IN x3 0 1 → (M_X5_laws σ (fun s1 => (¬ x3 = 0 → M_X1_wordAtBest 32 s1 (fun v3 s2 => K v3 s2) x1 x2) ∧ (x3 = 0 → M_X1_playOn 19 32 s1 (fun v5 s4 => K v5 s4) x1 x2 0 0)))) ∧ (¬ IN x3 0 1 → K (-2) σ))))) ∧ (¬ IN x2 1 3 → K (-2) σ))) ∧ (¬ IN x1 0 39 → K (-2) σ)) : M_X5_words σ K x1 x2 x3 := by
  show RR 0 23 mX5_words 0 [(0, .ref 0), (1, .int x1), (2, .int x2), (3, .int x3)] [] σ (rI K)
  refine RR.s2 (pc' := 1) (lv' := [(0, .ref 0), (1, .int x1), (2, .int x2), (3, .int x3)]) (st' := [.int x1]) dX5_words_0 rfl ?_
  refine RR.cS dX5_words_1 ml_X5_119 (as := [.int x1]) (rest := []) rfl rfl (Nat.le_of_ble_eq_true rfl) (Nat.le_of_ble_eq_true rfl) (by decide) (kb_X5_isDay (fun c => ?_) (fun c => ?_))
  · have H := H.1 c
    show RR 0 23 mX5_words 4 [(0, .ref 0), (1, .int x1), (2, .int x2), (3, .int x3)] [.int 1] σ _
    refine RR.brF dX5_words_4 rfl (by decide) ?_
    refine RR.s2 (pc' := 8) (lv' := [(0, .ref 0), (1, .int x1), (2, .int x2), (3, .int x3)]) (st' := [.int x2]) dX5_words_7 rfl ?_
    refine RR.ic (v := 1) dX5_words_8 (by decide) ?_
    refine RR.ic (v := 3) dX5_words_9 (by decide) ?_
    refine RR.cS dX5_words_10 ml_X5_71 (as := [.int x2, .int 1, .int 3]) (rest := []) rfl rfl (Nat.le_of_ble_eq_true rfl) (Nat.le_of_ble_eq_true rfl) (by decide) (kb_X5_within (fun c => ?_) (fun c => ?_))
    · have H := H.1 c
      show RR 0 23 mX5_words 13 [(0, .ref 0), (1, .int x1), (2, .int x2), (3, .int x3)] [.int 1] σ _
      refine RR.brF dX5_words_13 rfl (by decide) ?_
      refine RR.s2 (pc' := 17) (lv' := [(0, .ref 0), (1, .int x1), (2, .int x2), (3, .int x3)]) (st' := [.int x1]) dX5_words_16 rfl ?_
      refine RR.s2 (pc' := 18) (lv' := [(0, .ref 0), (1, .int x1), (2, .int x2), (3, .int x3)]) (st' := [.int x2, .int x1]) dX5_words_17 rfl ?_
      refine RR.s2 (pc' := 19) (lv' := [(0, .ref 0), (1, .int x1), (2, .int x2), (3, .int x3)]) (st' := [.int (x1 + x2)]) dX5_words_18 rfl ?_
      refine RR.bp (v := 39) dX5_words_19 (by decide) ?_
      refine RR.br dX5_words_21 rfl (fun c => ?_) (fun c => ?_)
      · have H := H.1 c
        refine RR.bp (v := (-2)) dX5_words_33 (by decide) ?_
        exact RR.iret dX5_words_35 rfl ⟨_, rfl, H⟩
      · have H := H.2 c
        refine RR.s2 (pc' := 25) (lv' := [(0, .ref 0), (1, .int x1), (2, .int x2), (3, .int x3)]) (st' := [.int x3]) dX5_words_24 rfl ?_
        refine RR.ic (v := 0) dX5_words_25 (by decide) ?_
        refine RR.ic (v := 1) dX5_words_26 (by decide) ?_
        refine RR.cS dX5_words_27 ml_X5_71 (as := [.int x3, .int 0, .int 1]) (rest := []) rfl rfl (Nat.le_of_ble_eq_true rfl) (Nat.le_of_ble_eq_true rfl) (by decide) (kb_X5_within (fun c => ?_) (fun c => ?_))
        · have H := H.1 c
          show RR 0 23 mX5_words 30 [(0, .ref 0), (1, .int x1), (2, .int x2), (3, .int x3)] [.int 1] σ _
          refine RR.brT dX5_words_30 rfl (by decide) ?_
          refine RR.s2 (pc' := 37) (lv' := [(0, .ref 0), (1, .int x1), (2, .int x2), (3, .int x3)]) (st' := [.ref 0]) dX5_words_36 rfl ?_
          refine RR.cV dX5_words_37 ml_X5_153 rfl rfl (as := []) (rest := []) rfl rfl (Nat.le_of_ble_eq_true rfl) (Nat.le_of_ble_eq_true rfl) (by decide) (RR.toC H (fun s1 H => ?_))
          show RR 0 23 mX5_words 40 [(0, .ref 0), (1, .int x1), (2, .int x2), (3, .int x3)] [.ref 32] s1 _
          refine RR.s2 (pc' := 42) (lv' := [(0, .ref 0), (1, .int x1), (2, .int x2), (3, .int x3), (4, .ref 32)]) (st' := []) dX5_words_40 rfl ?_
          refine RR.s2 (pc' := 43) (lv' := [(0, .ref 0), (1, .int x1), (2, .int x2), (3, .int x3), (4, .ref 32)]) (st' := [.int x3]) dX5_words_42 rfl ?_
          refine RR.br dX5_words_43 rfl (fun c => ?_) (fun c => ?_)
          · have H := H.1 c
            refine RR.s2 (pc' := 58) (lv' := [(0, .ref 0), (1, .int x1), (2, .int x2), (3, .int x3), (4, .ref 32)]) (st' := [.ref 32]) dX5_words_56 rfl ?_
            refine RR.s2 (pc' := 59) (lv' := [(0, .ref 0), (1, .int x1), (2, .int x2), (3, .int x3), (4, .ref 32)]) (st' := [.int x1, .ref 32]) dX5_words_58 rfl ?_
            refine RR.s2 (pc' := 60) (lv' := [(0, .ref 0), (1, .int x1), (2, .int x2), (3, .int x3), (4, .ref 32)]) (st' := [.int x2, .int x1, .ref 32]) dX5_words_59 rfl ?_
            refine RR.cV dX5_words_60 ml_X5_209 rfl rfl (as := [.int x1, .int x2]) (rest := []) rfl rfl (Nat.le_of_ble_eq_true rfl) (Nat.le_of_ble_eq_true rfl) (by decide) (RR.toI H (fun v3 s2 H => ?_))
            show RR 0 23 mX5_words 63 [(0, .ref 0), (1, .int x1), (2, .int x2), (3, .int x3), (4, .ref 32)] [.int v3] s2 _
            exact RR.iret dX5_words_63 rfl ⟨_, rfl, H⟩
          · have H := H.2 (Classical.not_not.mp c)
            refine RR.s2 (pc' := 48) (lv' := [(0, .ref 0), (1, .int x1), (2, .int x2), (3, .int x3), (4, .ref 32)]) (st' := [.ref 32]) dX5_words_46 rfl ?_
            refine RR.s2 (pc' := 49) (lv' := [(0, .ref 0), (1, .int x1), (2, .int x2), (3, .int x3), (4, .ref 32)]) (st' := [.int x1, .ref 32]) dX5_words_48 rfl ?_
            refine RR.s2 (pc' := 50) (lv' := [(0, .ref 0), (1, .int x1), (2, .int x2), (3, .int x3), (4, .ref 32)]) (st' := [.int x2, .int x1, .ref 32]) dX5_words_49 rfl ?_
            refine RR.cV (d' := 21) dX5_words_50 ml_X5_206 rfl rfl (as := [.int x1, .int x2]) (rest := []) rfl rfl (Nat.le_of_ble_eq_true rfl) (Nat.le_of_ble_eq_true rfl) (by decide) ?_
            show RR 0 21 mX1_numberAtBest 0 [(0, .ref 32), (1, .int x1), (2, .int x2)] [] s1 _
            refine RR.s2 (pc' := 1) (lv' := [(0, .ref 32), (1, .int x1), (2, .int x2)]) (st' := [.ref 32]) dX1_numberAtBest_0 rfl ?_
            refine RR.s2 (pc' := 2) (lv' := [(0, .ref 32), (1, .int x1), (2, .int x2)]) (st' := [.int x1, .ref 32]) dX1_numberAtBest_1 rfl ?_
            refine RR.s2 (pc' := 3) (lv' := [(0, .ref 32), (1, .int x1), (2, .int x2)]) (st' := [.int x2, .int x1, .ref 32]) dX1_numberAtBest_2 rfl ?_
            refine RR.ic (v := 0) dX1_numberAtBest_3 (by decide) ?_
            refine RR.ic (v := 0) dX1_numberAtBest_4 (by decide) ?_
            refine RR.cV dX1_numberAtBest_5 ml_X1_86 rfl rfl (as := [.int x1, .int x2, .int 0, .int 0]) (rest := []) rfl rfl (Nat.le_of_ble_eq_true rfl) (Nat.le_of_ble_eq_true rfl) (by decide) (RR.toI H (fun v5 s4 H => ?_))
            show RR 0 21 mX1_numberAtBest 8 [(0, .ref 32), (1, .int x1), (2, .int x2)] [.int v5] s4 _
            refine RR.iret dX1_numberAtBest_8 rfl ?_
            show RR 0 23 mX5_words 53 [(0, .ref 0), (1, .int x1), (2, .int x2), (3, .int x3), (4, .ref 32)] [.int v5] s4 _
            refine RR.s2 (pc' := 63) (lv' := [(0, .ref 0), (1, .int x1), (2, .int x2), (3, .int x3), (4, .ref 32)]) (st' := [.int v5]) dX5_words_53 rfl ?_
            exact RR.iret dX5_words_63 rfl ⟨_, rfl, H⟩
        · have H := H.2 c
          show RR 0 23 mX5_words 30 [(0, .ref 0), (1, .int x1), (2, .int x2), (3, .int x3)] [.int 0] σ _
          refine RR.brF dX5_words_30 rfl (by decide) ?_
          refine RR.bp (v := (-2)) dX5_words_33 (by decide) ?_
          exact RR.iret dX5_words_35 rfl ⟨_, rfl, H⟩
    · have H := H.2 c
      show RR 0 23 mX5_words 13 [(0, .ref 0), (1, .int x1), (2, .int x2), (3, .int x3)] [.int 0] σ _
      refine RR.brT dX5_words_13 rfl (by decide) ?_
      refine RR.bp (v := (-2)) dX5_words_33 (by decide) ?_
      exact RR.iret dX5_words_35 rfl ⟨_, rfl, H⟩
  · have H := H.2 c
    show RR 0 23 mX5_words 4 [(0, .ref 0), (1, .int x1), (2, .int x2), (3, .int x3)] [.int 0] σ _
    refine RR.brT dX5_words_4 rfl (by decide) ?_
    refine RR.bp (v := (-2)) dX5_words_33 (by decide) ?_
    exact RR.iret dX5_words_35 rfl ⟨_, rfl, H⟩
set_option maxRecDepth 20000 in
theorem b_X5_seen {σ : r_St} {K : Int32 → r_St → Prop} {x1 : Int32} {x2 : Int32}  (H : (IN x1 0 7 → ((IN x2 0 1 → M_X3_add 24 8 σ (fun v2 s1 => K v2 s1) x1 x2 0) ∧ (¬ IN x2 0 1 → K (-2) σ))) ∧ (¬ IN x1 0 7 → K (-2) σ)) : M_X5_seen σ K x1 x2 := by
  show RR 0 3 mX5_seen 0 [(0, .ref 0), (1, .int x1), (2, .int x2)] [] σ (rI K)
  refine RR.s2 (pc' := 1) (lv' := [(0, .ref 0), (1, .int x1), (2, .int x2)]) (st' := [.int x1]) dX5_seen_0 rfl ?_
  refine RR.cS dX5_seen_1 ml_X5_126 (as := [.int x1]) (rest := []) rfl rfl (Nat.le_of_ble_eq_true rfl) (Nat.le_of_ble_eq_true rfl) (by decide) (kb_X5_mayBeDeed (fun c => ?_) (fun c => ?_))
  · have H := H.1 c
    show RR 0 3 mX5_seen 4 [(0, .ref 0), (1, .int x1), (2, .int x2)] [.int 1] σ _
    refine RR.brF dX5_seen_4 rfl (by decide) ?_
    refine RR.s2 (pc' := 8) (lv' := [(0, .ref 0), (1, .int x1), (2, .int x2)]) (st' := [.int x2]) dX5_seen_7 rfl ?_
    refine RR.ic (v := 0) dX5_seen_8 (by decide) ?_
    refine RR.ic (v := 1) dX5_seen_9 (by decide) ?_
    refine RR.cS dX5_seen_10 ml_X5_71 (as := [.int x2, .int 0, .int 1]) (rest := []) rfl rfl (Nat.le_of_ble_eq_true rfl) (Nat.le_of_ble_eq_true rfl) (by decide) (kb_X5_within (fun c => ?_) (fun c => ?_))
    · have H := H.1 c
      show RR 0 3 mX5_seen 13 [(0, .ref 0), (1, .int x1), (2, .int x2)] [.int 1] σ _
      refine RR.brT dX5_seen_13 rfl (by decide) ?_
      refine RR.s2 (pc' := 20) (lv' := [(0, .ref 0), (1, .int x1), (2, .int x2)]) (st' := [.ref 0]) dX5_seen_19 rfl ?_
      refine RR.getR dX5_seen_20 fl_X5_37 rfl rfl ?_
      refine RR.s2 (pc' := 24) (lv' := [(0, .ref 0), (1, .int x1), (2, .int x2)]) (st' := [.int x1, .ref 24]) dX5_seen_23 rfl ?_
      refine RR.s2 (pc' := 25) (lv' := [(0, .ref 0), (1, .int x1), (2, .int x2)]) (st' := [.int x2, .int x1, .ref 24]) dX5_seen_24 rfl ?_
      refine RR.ic (v := 0) dX5_seen_25 (by decide) ?_
      refine RR.cV dX5_seen_26 ml_X5_122 rfl rfl (as := [.int x1, .int x2, .int 0]) (rest := []) rfl rfl (Nat.le_of_ble_eq_true rfl) (Nat.le_of_ble_eq_true rfl) (by decide) (RR.toI H (fun v2 s1 H => ?_))
      show RR 0 3 mX5_seen 29 [(0, .ref 0), (1, .int x1), (2, .int x2)] [.int v2] s1 _
      exact RR.iret dX5_seen_29 rfl ⟨_, rfl, H⟩
    · have H := H.2 c
      show RR 0 3 mX5_seen 13 [(0, .ref 0), (1, .int x1), (2, .int x2)] [.int 0] σ _
      refine RR.brF dX5_seen_13 rfl (by decide) ?_
      refine RR.bp (v := (-2)) dX5_seen_16 (by decide) ?_
      exact RR.iret dX5_seen_18 rfl ⟨_, rfl, H⟩
  · have H := H.2 c
    show RR 0 3 mX5_seen 4 [(0, .ref 0), (1, .int x1), (2, .int x2)] [.int 0] σ _
    refine RR.brT dX5_seen_4 rfl (by decide) ?_
    refine RR.bp (v := (-2)) dX5_seen_16 (by decide) ?_
    exact RR.iret dX5_seen_18 rfl ⟨_, rfl, H⟩
