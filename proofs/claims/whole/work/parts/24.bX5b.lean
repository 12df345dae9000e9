/-! ===== block lemmas (written by mk.py) ===== -/
set_option maxRecDepth 20000 in
theorem b_X5_book {σ : r_St} {K : Int32 → r_St → Prop} {x1 : Int32} {x2 : Int32} {x3 : Int32}  (H : (IN x1 0 39 → ((IN x2 0 7 → ((IN x3 0 1 → M_X3_add 28 8 σ (fun v2 s1 => K v2 s1) x1 x2 x3) ∧ (¬ IN x3 0 1 → K (-2) σ))) ∧ (¬ IN x2 0 7 → K (-2) σ))) ∧ (¬ IN x1 0 39 → K (-2) σ)) : M_X5_book σ K x1 x2 x3 := by
  show RR 0 3 mX5_book 0 [(0, .ref 0), (1, .int x1), (2, .int x2), (3, .int x3)] [] σ (rI K)
  refine RR.s2 (pc' := 1) (lv' := [(0, .ref 0), (1, .int x1), (2, .int x2), (3, .int x3)]) (st' := [.int x1]) dX5_book_0 rfl ?_
  refine RR.cS dX5_book_1 ml_X5_119 (as := [.int x1]) (rest := []) rfl rfl (Nat.le_of_ble_eq_true rfl) (Nat.le_of_ble_eq_true rfl) (by decide) (kb_X5_isDay (fun c => ?_) (fun c => ?_))
  · have H := H.1 c
    show RR 0 3 mX5_book 4 [(0, .ref 0), (1, .int x1), (2, .int x2), (3, .int x3)] [.int 1] σ _
    refine RR.brF dX5_book_4 rfl (by decide) ?_
    refine RR.s2 (pc' := 8) (lv' := [(0, .ref 0), (1, .int x1), (2, .int x2), (3, .int x3)]) (st' := [.int x2]) dX5_book_7 rfl ?_
    refine RR.cS dX5_book_8 ml_X5_126 (as := [.int x2]) (rest := []) rfl rfl (Nat.le_of_ble_eq_true rfl) (Nat.le_of_ble_eq_true rfl) (by decide) (kb_X5_mayBeDeed (fun c => ?_) (fun c => ?_))
    · have H := H.1 c
      show RR 0 3 mX5_book 11 [(0, .ref 0), (1, .int x1), (2, .int x2), (3, .int x3)] [.int 1] σ _
      refine RR.brF dX5_book_11 rfl (by decide) ?_
      refine RR.s2 (pc' := 15) (lv' := [(0, .ref 0), (1, .int x1), (2, .int x2), (3, .int x3)]) (st' := [.int x3]) dX5_book_14 rfl ?_
      refine RR.ic (v := 0) dX5_book_15 (by decide) ?_
      refine RR.ic (v := 1) dX5_book_16 (by decide) ?_
      refine RR.cS dX5_book_17 ml_X5_71 (as := [.int x3, .int 0, .int 1]) (rest := []) rfl rfl (Nat.le_of_ble_eq_true rfl) (Nat.le_of_ble_eq_true rfl) (by decide) (kb_X5_within (fun c => ?_) (fun c => ?_))
      · have H := H.1 c
        show RR 0 3 mX5_book 20 [(0, .ref 0), (1, .int x1), (2, .int x2), (3, .int x3)] [.int 1] σ _
        refine RR.brT dX5_book_20 rfl (by decide) ?_
        refine RR.s2 (pc' := 27) (lv' := [(0, .ref 0), (1, .int x1), (2, .int x2), (3, .int x3)]) (st' := [.ref 0]) dX5_book_26 rfl ?_
        refine RR.getR dX5_book_27 fl_X5_40 rfl rfl ?_
        refine RR.s2 (pc' := 31) (lv' := [(0, .ref 0), (1, .int x1), (2, .int x2), (3, .int x3)]) (st' := [.int x1, .ref 28]) dX5_book_30 rfl ?_
        refine RR.s2 (pc' := 32) (lv' := [(0, .ref 0), (1, .int x1), (2, .int x2), (3, .int x3)]) (st' := [.int x2, .int x1, .ref 28]) dX5_book_31 rfl ?_
        refine RR.s2 (pc' := 33) (lv' := [(0, .ref 0), (1, .int x1), (2, .int x2), (3, .int x3)]) (st' := [.int x3, .int x2, .int x1, .ref 28]) dX5_book_32 rfl ?_
        refine RR.cV dX5_book_33 ml_X5_122 rfl rfl (as := [.int x1, .int x2, .int x3]) (rest := []) rfl rfl (Nat.le_of_ble_eq_true rfl) (Nat.le_of_ble_eq_true rfl) (by decide) (RR.toI H (fun v2 s1 H => ?_))
        show RR 0 3 mX5_book 36 [(0, .ref 0), (1, .int x1), (2, .int x2), (3, .int x3)] [.int v2] s1 _
        exact RR.iret dX5_book_36 rfl ⟨_, rfl, H⟩
      · have H := H.2 c
        show RR 0 3 mX5_book 20 [(0, .ref 0), (1, .int x1), (2, .int x2), (3, .int x3)] [.int 0] σ _
        refine RR.brF dX5_book_20 rfl (by decide) ?_
        refine RR.bp (v := (-2)) dX5_book_23 (by decide) ?_
        exact RR.iret dX5_book_25 rfl ⟨_, rfl, H⟩
    · have H := H.2 c
      show RR 0 3 mX5_book 11 [(0, .ref 0), (1, .int x1), (2, .int x2), (3, .int x3)] [.int 0] σ _
      refine RR.brT dX5_book_11 rfl (by decide) ?_
      refine RR.bp (v := (-2)) dX5_book_23 (by decide) ?_
      exact RR.iret dX5_book_25 rfl ⟨_, rfl, H⟩
  · have H := H.2 c
    show RR 0 3 mX5_book 4 [(0, .ref 0), (1, .int x1), (2, .int x2), (3, .int x3)] [.int 0] σ _
    refine RR.brT dX5_book_4 rfl (by decide) ?_
    refine RR.bp (v := (-2)) dX5_book_23 (by decide) ?_
    exact RR.iret dX5_book_25 rfl ⟨_, rfl, H⟩
set_option maxRecDepth 20000 in
theorem b_X5_forget {σ : r_St} {K : Int32 → r_St → Prop} {x1 : Int32}  (H : (IN x1 0 1 → ((¬ x1 = 0 → M_X3_clear 28 8 σ (fun v2 s1 => K v2 s1)) ∧ (x1 = 0 → M_X3_clear 24 8 σ (fun v4 s3 => K v4 s3)))) ∧ (¬ IN x1 0 1 → K (-2) σ)) : M_X5_forget σ K x1 := by
  show RR 0 2 mX5_forget 0 [(0, .ref 0), (1, .int x1)] [] σ (rI K)
  refine RR.s2 (pc' := 1) (lv' := [(0, .ref 0), (1, .int x1)]) (st' := [.int x1]) dX5_forget_0 rfl ?_
  refine RR.ic (v := 0) dX5_forget_1 (by decide) ?_
  refine RR.ic (v := 1) dX5_forget_2 (by decide) ?_
  refine RR.cS dX5_forget_3 ml_X5_71 (as := [.int x1, .int 0, .int 1]) (rest := []) rfl rfl (Nat.le_of_ble_eq_true rfl) (Nat.le_of_ble_eq_true rfl) (by decide) (kb_X5_within (fun c => ?_) (fun c => ?_))
  · have H := H.1 c
    show RR 0 2 mX5_forget 6 [(0, .ref 0), (1, .int x1)] [.int 1] σ _
    refine RR.brT dX5_forget_6 rfl (by decide) ?_
    refine RR.s2 (pc' := 13) (lv' := [(0, .ref 0), (1, .int x1)]) (st' := [.int x1]) dX5_forget_12 rfl ?_
    refine RR.br dX5_forget_13 rfl (fun c => ?_) (fun c => ?_)
    · have H := H.1 c
      refine RR.s2 (pc' := 27) (lv' := [(0, .ref 0), (1, .int x1)]) (st' := [.ref 0]) dX5_forget_26 rfl ?_
      refine RR.getR dX5_forget_27 fl_X5_40 rfl rfl ?_
      refine RR.cV dX5_forget_30 ml_X5_212 rfl rfl (as := []) (rest := []) rfl rfl (Nat.le_of_ble_eq_true rfl) (Nat.le_of_ble_eq_true rfl) (by decide) (RR.toI H (fun v2 s1 H => ?_))
      show RR 0 2 mX5_forget 33 [(0, .ref 0), (1, .int x1)] [.int v2] s1 _
      exact RR.iret dX5_forget_33 rfl ⟨_, rfl, H⟩
    · have H := H.2 (Classical.not_not.mp c)
      refine RR.s2 (pc' := 17) (lv' := [(0, .ref 0), (1, .int x1)]) (st' := [.ref 0]) dX5_forget_16 rfl ?_
      refine RR.getR dX5_forget_17 fl_X5_37 rfl rfl ?_
      refine RR.cV dX5_forget_20 ml_X5_212 rfl rfl (as := []) (rest := []) rfl rfl (Nat.le_of_ble_eq_true rfl) (Nat.le_of_ble_eq_true rfl) (by decide) (RR.toI H (fun v4 s3 H => ?_))
      show RR 0 2 mX5_forget 23 [(0, .ref 0), (1, .int x1)] [.int v4] s3 _
      refine RR.s2 (pc' := 33) (lv' := [(0, .ref 0), (1, .int x1)]) (st' := [.int v4]) dX5_forget_23 rfl ?_
      exact RR.iret dX5_forget_33 rfl ⟨_, rfl, H⟩
  · have H := H.2 c
    show RR 0 2 mX5_forget 6 [(0, .ref 0), (1, .int x1)] [.int 0] σ _
    refine RR.brF dX5_forget_6 rfl (by decide) ?_
    refine RR.bp (v := (-2)) dX5_forget_9 (by decide) ?_
    exact RR.iret dX5_forget_11 rfl ⟨_, rfl, H⟩
set_option maxRecDepth 20000 in
theorem b_X5_when {σ : r_St} {K : Int32 → r_St → Prop} {x1 : Int32}  (H : (IN x1 (-1) 39 → (M_X5_daysAsSeen σ (fun v2 s1 => (¬ x1 = (-1) → M_X5_dayInOrder s1 (fun v4 s3 => K v4 s3) v2 x1) ∧ (x1 = (-1) → M_J13_bitCount_95d88 s1 (fun v6 s5 => K v6 s5) v2)))) ∧ (¬ IN x1 (-1) 39 → K (-2) σ)) : M_X5_when σ K x1 := by
  show RR 0 7 mX5_when 0 [(0, .ref 0), (1, .int x1)] [] σ (rI K)
  refine RR.s2 (pc' := 1) (lv' := [(0, .ref 0), (1, .int x1)]) (st' := [.int x1]) dX5_when_0 rfl ?_
  refine RR.ic (v := (-1)) dX5_when_1 (by decide) ?_
  refine RR.bp (v := 39) dX5_when_2 (by decide) ?_
  refine RR.cS dX5_when_4 ml_X5_71 (as := [.int x1, .int (-1), .int 39]) (rest := []) rfl rfl (Nat.le_of_ble_eq_true rfl) (Nat.le_of_ble_eq_true rfl) (by decide) (kb_X5_within (fun c => ?_) (fun c => ?_))
  · have H := H.1 c
    show RR 0 7 mX5_when 7 [(0, .ref 0), (1, .int x1)] [.int 1] σ _
    refine RR.brT dX5_when_7 rfl (by decide) ?_
    refine RR.s2 (pc' := 14) (lv' := [(0, .ref 0), (1, .int x1)]) (st' := [.ref 0]) dX5_when_13 rfl ?_
    refine RR.cV dX5_when_14 ml_X5_213 rfl rfl (as := []) (rest := []) rfl rfl (Nat.le_of_ble_eq_true rfl) (Nat.le_of_ble_eq_true rfl) (by decide) (RR.toL H (fun v2 s1 H => ?_))
    show RR 0 7 mX5_when 17 [(0, .ref 0), (1, .int x1)] [.long v2] s1 _
    refine RR.s2 (pc' := 18) (lv' := [(0, .ref 0), (1, .int x1), (2, .long v2)]) (st' := []) dX5_when_17 rfl ?_
    refine RR.s2 (pc' := 19) (lv' := [(0, .ref 0), (1, .int x1), (2, .long v2)]) (st' := [.int x1]) dX5_when_18 rfl ?_
    refine RR.ic (v := (-1)) dX5_when_19 (by decide) ?_
    refine RR.br dX5_when_20 rfl (fun c => ?_) (fun c => ?_)
    · have H := H.1 c
      refine RR.s2 (pc' := 31) (lv' := [(0, .ref 0), (1, .int x1), (2, .long v2)]) (st' := [.long v2]) dX5_when_30 rfl ?_
      refine RR.s2 (pc' := 32) (lv' := [(0, .ref 0), (1, .int x1), (2, .long v2)]) (st' := [.int x1, .long v2]) dX5_when_31 rfl ?_
      refine RR.cS dX5_when_32 ml_X5_223 (as := [.long v2, .int x1]) (rest := []) rfl rfl (Nat.le_of_ble_eq_true rfl) (Nat.le_of_ble_eq_true rfl) (by decide) (RR.toI H (fun v4 s3 H => ?_))
      show RR 0 7 mX5_when 35 [(0, .ref 0), (1, .int x1), (2, .long v2)] [.int v4] s3 _
      exact RR.iret dX5_when_35 rfl ⟨_, rfl, H⟩
    · have H := H.2 (Classical.not_not.mp c)
      refine RR.s2 (pc' := 24) (lv' := [(0, .ref 0), (1, .int x1), (2, .long v2)]) (st' := [.long v2]) dX5_when_23 rfl ?_
      refine RR.cS dX5_when_24 ml_X5_217 (as := [.long v2]) (rest := []) rfl rfl (Nat.le_of_ble_eq_true rfl) (Nat.le_of_ble_eq_true rfl) (by decide) (RR.toI H (fun v6 s5 H => ?_))
      show RR 0 7 mX5_when 27 [(0, .ref 0), (1, .int x1), (2, .long v2)] [.int v6] s5 _
      refine RR.s2 (pc' := 35) (lv' := [(0, .ref 0), (1, .int x1), (2, .long v2)]) (st' := [.int v6]) dX5_when_27 rfl ?_
      exact RR.iret dX5_when_35 rfl ⟨_, rfl, H⟩
  · have H := H.2 c
    show RR 0 7 mX5_when 7 [(0, .ref 0), (1, .int x1)] [.int 0] σ _
    refine RR.brF dX5_when_7 rfl (by decide) ?_
    refine RR.bp (v := (-2)) dX5_when_10 (by decide) ?_
    exact RR.iret dX5_when_12 rfl ⟨_, rfl, H⟩
set_option maxRecDepth 20000 in
theorem b_X5_ask {σ : r_St} {K : Int32 → r_St → Prop}  (H : M_X5_laws σ (fun s1 => M_X5_daysAsSeen s1 (fun v3 s2 => R_X5_ask_19 s2 K v3 (-1) 0 0))) : M_X5_ask σ K := by
  show RR 0 7 mX5_ask 0 [(0, .ref 0)] [] σ (rI K)
  refine RR.s2 (pc' := 1) (lv' := [(0, .ref 0)]) (st' := [.ref 0]) dX5_ask_0 rfl ?_
  refine RR.cV dX5_ask_1 ml_X5_153 rfl rfl (as := []) (rest := []) rfl rfl (Nat.le_of_ble_eq_true rfl) (Nat.le_of_ble_eq_true rfl) (by decide) (RR.toC H (fun s1 H => ?_))
  show RR 0 7 mX5_ask 4 [(0, .ref 0)] [.ref 32] s1 _
  refine RR.s2 (pc' := 5) (lv' := [(0, .ref 0), (1, .ref 32)]) (st' := []) dX5_ask_4 rfl ?_
  refine RR.s2 (pc' := 6) (lv' := [(0, .ref 0), (1, .ref 32)]) (st' := [.ref 0]) dX5_ask_5 rfl ?_
  refine RR.cV dX5_ask_6 ml_X5_213 rfl rfl (as := []) (rest := []) rfl rfl (Nat.le_of_ble_eq_true rfl) (Nat.le_of_ble_eq_true rfl) (by decide) (RR.toL H (fun v3 s2 H => ?_))
  show RR 0 7 mX5_ask 9 [(0, .ref 0), (1, .ref 32)] [.long v3] s2 _
  refine RR.s2 (pc' := 10) (lv' := [(0, .ref 0), (1, .ref 32), (2, .long v3)]) (st' := []) dX5_ask_9 rfl ?_
  refine RR.ic (v := (-1)) dX5_ask_10 (by decide) ?_
  refine RR.s2 (pc' := 13) (lv' := [(0, .ref 0), (1, .ref 32), (2, .long v3), (4, .int (-1))]) (st' := []) dX5_ask_11 rfl ?_
  refine RR.ic (v := 0) dX5_ask_13 (by decide) ?_
  refine RR.s2 (pc' := 16) (lv' := [(0, .ref 0), (1, .ref 32), (2, .long v3), (4, .int (-1)), (5, .int 0)]) (st' := []) dX5_ask_14 rfl ?_
  refine RR.ic (v := 0) dX5_ask_16 (by decide) ?_
  refine RR.s2 (pc' := 19) (lv' := [(0, .ref 0), (1, .ref 32), (2, .long v3), (4, .int (-1)), (5, .int 0), (6, .int 0)]) (st' := []) dX5_ask_17 rfl ?_
  exact RR.cut [0, 1, 2, 3, 4, 5] rfl H
set_option maxRecDepth 20000 in
theorem b_X5_ask_19 {σ : r_St} {K : Int32 → r_St → Prop} {y2 : Int64} {x4 : Int32} {x5 : Int32} {x6 : Int32}  (H : (σ.1 1 4 ≤ x6 → K x4 σ) ∧ (¬ (σ.1 1 4 ≤ x6) → (M_X1_openDays 32 σ (fun v2 s1 => M_J13_bitCount_95d88 s1 (fun v4 s3 => M_J13_bitCount_95d88 s3 (fun v6 s5 => (x4 = (-1) → R_X5_ask_19 s5 K y2 x6 (imax v4 (v6 - v4)) (x6 + 1)) ∧ (¬ (x4 = (-1)) → ((x5 ≤ imax v4 (v6 - v4) → R_X5_ask_19 s5 K y2 x4 x5 (x6 + 1)) ∧ (¬ (x5 ≤ imax v4 (v6 - v4)) → R_X5_ask_19 s5 K y2 x6 (imax v4 (v6 - v4)) (x6 + 1))))) y2) (y2 &&& v2)) x6))) : R_X5_ask_19 σ K y2 x4 x5 x6 := by
  show RR 0 7 mX5_ask 19 [(0, .ref 0), (1, .ref 32), (2, .long y2), (4, .int x4), (5, .int x5), (6, .int x6)] [] σ (rI K)
  refine RR.s2 (pc' := 21) (lv' := [(0, .ref 0), (1, .ref 32), (2, .long y2), (4, .int x4), (5, .int x5), (6, .int x6)]) (st' := [.int x6]) dX5_ask_19 rfl ?_
  refine RR.s2 (pc' := 22) (lv' := [(0, .ref 0), (1, .ref 32), (2, .long y2), (4, .int x4), (5, .int x5), (6, .int x6)]) (st' := [.ref 0, .int x6]) dX5_ask_21 rfl ?_
  refine RR.getR dX5_ask_22 fl_X5_12 rfl rfl ?_
  refine RR.cV (d' := 1) dX5_ask_25 ml_X5_226 rfl rfl (as := []) (rest := [.int x6]) rfl rfl (Nat.le_of_ble_eq_true rfl) (Nat.le_of_ble_eq_true rfl) (by decide) ?_
  show RR 0 1 mX0_number 0 [(0, .ref 1)] [] σ _
  refine RR.s2 (pc' := 1) (lv' := [(0, .ref 1)]) (st' := [.ref 1]) dX0_number_0 rfl ?_
  refine RR.getI dX0_number_1 fl_X0_25 rfl rfl ?_
  refine RR.iret dX0_number_4 rfl ?_
  show RR 0 7 mX5_ask 28 [(0, .ref 0), (1, .ref 32), (2, .long y2), (4, .int x4), (5, .int x5), (6, .int x6)] [.int (σ.1 1 4), .int x6] σ _
  refine RR.br dX5_ask_28 rfl (fun c => ?_) (fun c => ?_)
  · have H := H.1 c
    refine RR.s2 (pc' := 87) (lv' := [(0, .ref 0), (1, .ref 32), (2, .long y2), (4, .int x4), (5, .int x5), (6, .int x6)]) (st' := [.int x4]) dX5_ask_85 rfl ?_
    exact RR.iret dX5_ask_87 rfl ⟨_, rfl, H⟩
  · have H := H.2 c
    refine RR.s2 (pc' := 32) (lv' := [(0, .ref 0), (1, .ref 32), (2, .long y2), (4, .int x4), (5, .int x5), (6, .int x6)]) (st' := [.long y2]) dX5_ask_31 rfl ?_
    refine RR.s2 (pc' := 33) (lv' := [(0, .ref 0), (1, .ref 32), (2, .long y2), (4, .int x4), (5, .int x5), (6, .int x6)]) (st' := [.ref 32, .long y2]) dX5_ask_32 rfl ?_
    refine RR.s2 (pc' := 35) (lv' := [(0, .ref 0), (1, .ref 32), (2, .long y2), (4, .int x4), (5, .int x5), (6, .int x6)]) (st' := [.int x6, .ref 32, .long y2]) dX5_ask_33 rfl ?_
    refine RR.cV dX5_ask_35 ml_X5_182 rfl rfl (as := [.int x6]) (rest := [.long y2]) rfl rfl (Nat.le_of_ble_eq_true rfl) (Nat.le_of_ble_eq_true rfl) (by decide) (RR.toL H (fun v2 s1 H => ?_))
    show RR 0 7 mX5_ask 38 [(0, .ref 0), (1, .ref 32), (2, .long y2), (4, .int x4), (5, .int x5), (6, .int x6)] [.long v2, .long y2] s1 _
    refine RR.s2 (pc' := 39) (lv' := [(0, .ref 0), (1, .ref 32), (2, .long y2), (4, .int x4), (5, .int x5), (6, .int x6)]) (st' := [.long (y2 &&& v2)]) dX5_ask_38 rfl ?_
    refine RR.cS dX5_ask_39 ml_X5_217 (as := [.long (y2 &&& v2)]) (rest := []) rfl rfl (Nat.le_of_ble_eq_true rfl) (Nat.le_of_ble_eq_true rfl) (by decide) (RR.toI H (fun v4 s3 H => ?_))
    show RR 0 7 mX5_ask 42 [(0, .ref 0), (1, .ref 32), (2, .long y2), (4, .int x4), (5, .int x5), (6, .int x6)] [.int v4] s3 _
    refine RR.s2 (pc' := 44) (lv' := [(0, .ref 0), (1, .ref 32), (2, .long y2), (4, .int x4), (5, .int x5), (6, .int x6), (7, .int v4)]) (st' := []) dX5_ask_42 rfl ?_
    refine RR.s2 (pc' := 46) (lv' := [(0, .ref 0), (1, .ref 32), (2, .long y2), (4, .int x4), (5, .int x5), (6, .int x6), (7, .int v4)]) (st' := [.int v4]) dX5_ask_44 rfl ?_
    refine RR.s2 (pc' := 47) (lv' := [(0, .ref 0), (1, .ref 32), (2, .long y2), (4, .int x4), (5, .int x5), (6, .int x6), (7, .int v4)]) (st' := [.long y2, .int v4]) dX5_ask_46 rfl ?_
    refine RR.cS dX5_ask_47 ml_X5_217 (as := [.long y2]) (rest := [.int v4]) rfl rfl (Nat.le_of_ble_eq_true rfl) (Nat.le_of_ble_eq_true rfl) (by decide) (RR.toI H (fun v6 s5 H => ?_))
    show RR 0 7 mX5_ask 50 [(0, .ref 0), (1, .ref 32), (2, .long y2), (4, .int x4), (5, .int x5), (6, .int x6), (7, .int v4)] [.int v6, .int v4] s5 _
    refine RR.s2 (pc' := 52) (lv' := [(0, .ref 0), (1, .ref 32), (2, .long y2), (4, .int x4), (5, .int x5), (6, .int x6), (7, .int v4)]) (st' := [.int v4, .int v6, .int v4]) dX5_ask_50 rfl ?_
    refine RR.s2 (pc' := 53) (lv' := [(0, .ref 0), (1, .ref 32), (2, .long y2), (4, .int x4), (5, .int x5), (6, .int x6), (7, .int v4)]) (st' := [.int (v6 - v4), .int v4]) dX5_ask_52 rfl ?_
    refine RR.mmax dX5_ask_53 mm_X5_229 (Nat.le_of_ble_eq_true rfl) (by decide) ?_
    show RR 0 7 mX5_ask 56 [(0, .ref 0), (1, .ref 32), (2, .long y2), (4, .int x4), (5, .int x5), (6, .int x6), (7, .int v4)] [.int (imax v4 (v6 - v4))] s5 _
    refine RR.s2 (pc' := 58) (lv' := [(0, .ref 0), (1, .ref 32), (2, .long y2), (4, .int x4), (5, .int x5), (6, .int x6), (7, .int v4), (8, .int (imax v4 (v6 - v4)))]) (st' := []) dX5_ask_56 rfl ?_
    refine RR.s2 (pc' := 60) (lv' := [(0, .ref 0), (1, .ref 32), (2, .long y2), (4, .int x4), (5, .int x5), (6, .int x6), (7, .int v4), (8, .int (imax v4 (v6 - v4)))]) (st' := [.int x4]) dX5_ask_58 rfl ?_
    refine RR.ic (v := (-1)) dX5_ask_60 (by decide) ?_
    refine RR.br dX5_ask_61 rfl (fun c => ?_) (fun c => ?_)
    · have H := H.1 c
      refine RR.s2 (pc' := 73) (lv' := [(0, .ref 0), (1, .ref 32), (2, .long y2), (4, .int x4), (5, .int x5), (6, .int x6), (7, .int v4), (8, .int (imax v4 (v6 - v4)))]) (st' := [.int x6]) dX5_ask_71 rfl ?_
      refine RR.s2 (pc' := 75) (lv' := [(0, .ref 0), (1, .ref 32), (2, .long y2), (4, .int x6), (5, .int x5), (6, .int x6), (7, .int v4), (8, .int (imax v4 (v6 - v4)))]) (st' := []) dX5_ask_73 rfl ?_
      refine RR.s2 (pc' := 77) (lv' := [(0, .ref 0), (1, .ref 32), (2, .long y2), (4, .int x6), (5, .int x5), (6, .int x6), (7, .int v4), (8, .int (imax v4 (v6 - v4)))]) (st' := [.int (imax v4 (v6 - v4))]) dX5_ask_75 rfl ?_
      refine RR.s2 (pc' := 79) (lv' := [(0, .ref 0), (1, .ref 32), (2, .long y2), (4, .int x6), (5, .int (imax v4 (v6 - v4))), (6, .int x6), (7, .int v4), (8, .int (imax v4 (v6 - v4)))]) (st' := []) dX5_ask_77 rfl ?_
      refine RR.inc (c := 1) (lv' := [(0, .ref 0), (1, .ref 32), (2, .long y2), (4, .int x6), (5, .int (imax v4 (v6 - v4))), (6, .int (x6 + 1)), (7, .int v4), (8, .int (imax v4 (v6 - v4)))]) dX5_ask_79 rfl (by decide) (by decide) rfl ?_
      refine RR.s2 (pc' := 19) (lv' := [(0, .ref 0), (1, .ref 32), (2, .long y2), (4, .int x6), (5, .int (imax v4 (v6 - v4))), (6, .int (x6 + 1)), (7, .int v4), (8, .int (imax v4 (v6 - v4)))]) (st' := []) dX5_ask_82 rfl ?_
      exact RR.cut [0, 1, 2, 3, 4, 5] rfl H
    · have H := H.2 c
      refine RR.s2 (pc' := 66) (lv' := [(0, .ref 0), (1, .ref 32), (2, .long y2), (4, .int x4), (5, .int x5), (6, .int x6), (7, .int v4), (8, .int (imax v4 (v6 - v4)))]) (st' := [.int (imax v4 (v6 - v4))]) dX5_ask_64 rfl ?_
      refine RR.s2 (pc' := 68) (lv' := [(0, .ref 0), (1, .ref 32), (2, .long y2), (4, .int x4), (5, .int x5), (6, .int x6), (7, .int v4), (8, .int (imax v4 (v6 - v4)))]) (st' := [.int x5, .int (imax v4 (v6 - v4))]) dX5_ask_66 rfl ?_
      refine RR.br dX5_ask_68 rfl (fun c => ?_) (fun c => ?_)
      · have H := H.1 c
        refine RR.inc (c := 1) (lv' := [(0, .ref 0), (1, .ref 32), (2, .long y2), (4, .int x4), (5, .int x5), (6, .int (x6 + 1)), (7, .int v4), (8, .int (imax v4 (v6 - v4)))]) dX5_ask_79 rfl (by decide) (by decide) rfl ?_
        refine RR.s2 (pc' := 19) (lv' := [(0, .ref 0), (1, .ref 32), (2, .long y2), (4, .int x4), (5, .int x5), (6, .int (x6 + 1)), (7, .int v4), (8, .int (imax v4 (v6 - v4)))]) (st' := []) dX5_ask_82 rfl ?_
        exact RR.cut [0, 1, 2, 3, 4, 5] rfl H
      · have H := H.2 c
        refine RR.s2 (pc' := 73) (lv' := [(0, .ref 0), (1, .ref 32), (2, .long y2), (4, .int x4), (5, .int x5), (6, .int x6), (7, .int v4), (8, .int (imax v4 (v6 - v4)))]) (st' := [.int x6]) dX5_ask_71 rfl ?_
        refine RR.s2 (pc' := 75) (lv' := [(0, .ref 0), (1, .ref 32), (2, .long y2), (4, .int x6), (5, .int x5), (6, .int x6), (7, .int v4), (8, .int (imax v4 (v6 - v4)))]) (st' := []) dX5_ask_73 rfl ?_
        refine RR.s2 (pc' := 77) (lv' := [(0, .ref 0), (1, .ref 32), (2, .long y2), (4, .int x6), (5, .int x5), (6, .int x6), (7, .int v4), (8, .int (imax v4 (v6 - v4)))]) (st' := [.int (imax v4 (v6 - v4))]) dX5_ask_75 rfl ?_
        refine RR.s2 (pc' := 79) (lv' := [(0, .ref 0), (1, .ref 32), (2, .long y2), (4, .int x6), (5, .int (imax v4 (v6 - v4))), (6, .int x6), (7, .int v4), (8, .int (imax v4 (v6 - v4)))]) (st' := []) dX5_ask_77 rfl ?_
        refine RR.inc (c := 1) (lv' := [(0, .ref 0), (1, .ref 32), (2, .long y2), (4, .int x6), (5, .int (imax v4 (v6 - v4))), (6, .int (x6 + 1)), (7, .int v4), (8, .int (imax v4 (v6 - v4)))]) dX5_ask_79 rfl (by decide) (by decide) rfl ?_
        refine RR.s2 (pc' := 19) (lv' := [(0, .ref 0), (1, .ref 32), (2, .long y2), (4, .int x6), (5, .int (imax v4 (v6 - v4))), (6, .int (x6 + 1)), (7, .int v4), (8, .int (imax v4 (v6 - v4)))]) (st' := []) dX5_ask_82 rfl ?_
        exact RR.cut [0, 1, 2, 3, 4, 5] rfl H
set_option maxRecDepth 20000 in
theorem b_X5_forged {σ : r_St} {K : Int32 → r_St → Prop}  (H : M_X1_seat 38 σ (fun s1 => R_X5_forged_19 s1 K 0 0)) : M_X5_forged σ K := by
  show RR 0 5 mX5_forged 0 [(0, .ref 0)] [] σ (rI K)
  refine RR.ic (v := 0) dX5_forged_0 (by decide) ?_
  refine RR.s2 (pc' := 2) (lv' := [(0, .ref 0), (1, .int 0)]) (st' := []) dX5_forged_1 rfl ?_
  refine RR.s2 (pc' := 3) (lv' := [(0, .ref 0), (1, .int 0)]) (st' := [.ref 0]) dX5_forged_2 rfl ?_
  refine RR.getR dX5_forged_3 fl_X5_50 rfl rfl ?_
  refine RR.s2 (pc' := 7) (lv' := [(0, .ref 0), (1, .int 0)]) (st' := [.ref 0, .ref 38]) dX5_forged_6 rfl ?_
  refine RR.getR dX5_forged_7 fl_X5_21 rfl rfl ?_
  refine RR.s2 (pc' := 11) (lv' := [(0, .ref 0), (1, .int 0)]) (st' := [.ref 0, .ref 4, .ref 38]) dX5_forged_10 rfl ?_
  refine RR.getR dX5_forged_11 fl_X5_25 rfl rfl ?_
  refine RR.cV dX5_forged_14 ml_X5_234 rfl rfl (as := [.ref 4, .ref 8]) (rest := []) rfl rfl (Nat.le_of_ble_eq_true rfl) (Nat.le_of_ble_eq_true rfl) (by decide) (RR.toV H (fun s1 H => ?_))
  show RR 0 5 mX5_forged 17 [(0, .ref 0), (1, .int 0)] [] s1 _
  refine RR.ic (v := 0) dX5_forged_17 (by decide) ?_
  refine RR.s2 (pc' := 19) (lv' := [(0, .ref 0), (1, .int 0), (2, .int 0)]) (st' := []) dX5_forged_18 rfl ?_
  exact RR.cut [0, 1, 2] rfl H
set_option maxRecDepth 20000 in
theorem b_X5_forged_19 {σ : r_St} {K : Int32 → r_St → Prop} {x1 : Int32} {x2 : Int32}  (H : (σ.1 12 4 ≤ x2 → K x1 σ) ∧ (¬ (σ.1 12 4 ≤ x2) → (M_X1_speak 38 σ (fun s1 => M_X5_agreesWithBook s1 (fun v3 s2 => (v3 = 0 → R_X5_forged_19 s2 K x1 (x2 + 1)) ∧ (¬ (v3 = 0) → R_X5_forged_19 s2 K (x1 ||| (sl 1 x2)) (x2 + 1)))) (σ.1 0 12) x2))) : R_X5_forged_19 σ K x1 x2 := by
  show RR 0 5 mX5_forged 19 [(0, .ref 0), (1, .int x1), (2, .int x2)] [] σ (rI K)
  refine RR.s2 (pc' := 20) (lv' := [(0, .ref 0), (1, .int x1), (2, .int x2)]) (st' := [.int x2]) dX5_forged_19 rfl ?_
  refine RR.s2 (pc' := 21) (lv' := [(0, .ref 0), (1, .int x1), (2, .int x2)]) (st' := [.ref 0, .int x2]) dX5_forged_20 rfl ?_
  refine RR.getR dX5_forged_21 fl_X5_28 rfl rfl ?_
  refine RR.cV (d' := 1) dX5_forged_24 ml_X5_173 rfl rfl (as := []) (rest := [.int x2]) rfl rfl (Nat.le_of_ble_eq_true rfl) (Nat.le_of_ble_eq_true rfl) (by decide) ?_
  show RR 0 1 mX3_size 0 [(0, .ref 12)] [] σ _
  refine RR.s2 (pc' := 1) (lv' := [(0, .ref 12)]) (st' := [.ref 12]) dX3_size_0 rfl ?_
  refine RR.getI dX3_size_1 fl_X3_31 rfl rfl ?_
  refine RR.iret dX3_size_4 rfl ?_
  show RR 0 5 mX5_forged 27 [(0, .ref 0), (1, .int x1), (2, .int x2)] [.int (σ.1 12 4), .int x2] σ _
  refine RR.br dX5_forged_27 rfl (fun c => ?_) (fun c => ?_)
  · have H := H.1 c
    refine RR.s2 (pc' := 74) (lv' := [(0, .ref 0), (1, .int x1), (2, .int x2)]) (st' := [.int x1]) dX5_forged_73 rfl ?_
    exact RR.iret dX5_forged_74 rfl ⟨_, rfl, H⟩
  · have H := H.2 c
    refine RR.s2 (pc' := 31) (lv' := [(0, .ref 0), (1, .int x1), (2, .int x2)]) (st' := [.ref 0]) dX5_forged_30 rfl ?_
    refine RR.getR dX5_forged_31 fl_X5_50 rfl rfl ?_
    refine RR.s2 (pc' := 35) (lv' := [(0, .ref 0), (1, .int x1), (2, .int x2)]) (st' := [.ref 0, .ref 38]) dX5_forged_34 rfl ?_
    refine RR.getR dX5_forged_35 fl_X5_12 rfl rfl ?_
    refine RR.s2 (pc' := 39) (lv' := [(0, .ref 0), (1, .int x1), (2, .int x2)]) (st' := [.ref 0, .ref 1, .ref 38]) dX5_forged_38 rfl ?_
    refine RR.getI dX5_forged_39 fl_X5_106 rfl rfl ?_
    refine RR.s2 (pc' := 43) (lv' := [(0, .ref 0), (1, .int x1), (2, .int x2)]) (st' := [.ref 0, .int (σ.1 0 12), .ref 1, .ref 38]) dX5_forged_42 rfl ?_
    refine RR.getR dX5_forged_43 fl_X5_28 rfl rfl ?_
    refine RR.s2 (pc' := 47) (lv' := [(0, .ref 0), (1, .int x1), (2, .int x2)]) (st' := [.int x2, .ref 12, .int (σ.1 0 12), .ref 1, .ref 38]) dX5_forged_46 rfl ?_
    refine RR.cV dX5_forged_47 ml_X5_238 rfl rfl (as := [.ref 1, .int (σ.1 0 12), .ref 12, .int x2]) (rest := []) rfl rfl (Nat.le_of_ble_eq_true rfl) (Nat.le_of_ble_eq_true rfl) (by decide) (RR.toV H (fun s1 H => ?_))
    show RR 0 5 mX5_forged 50 [(0, .ref 0), (1, .int x1), (2, .int x2)] [] s1 _
    refine RR.s2 (pc' := 51) (lv' := [(0, .ref 0), (1, .int x1), (2, .int x2)]) (st' := [.ref 0]) dX5_forged_50 rfl ?_
    refine RR.s2 (pc' := 52) (lv' := [(0, .ref 0), (1, .int x1), (2, .int x2)]) (st' := [.ref 0, .ref 0]) dX5_forged_51 rfl ?_
    refine RR.getR dX5_forged_52 fl_X5_50 rfl rfl ?_
    refine RR.cV dX5_forged_55 ml_X5_242 rfl rfl (as := [.ref 38]) (rest := []) rfl rfl (Nat.le_of_ble_eq_true rfl) (Nat.le_of_ble_eq_true rfl) (by decide) (RR.toI H (fun v3 s2 H => ?_))
    show RR 0 5 mX5_forged 58 [(0, .ref 0), (1, .int x1), (2, .int x2)] [.int v3] s2 _
    refine RR.br dX5_forged_58 rfl (fun c => ?_) (fun c => ?_)
    · have H := H.1 c
      refine RR.inc (c := 1) (lv' := [(0, .ref 0), (1, .int x1), (2, .int (x2 + 1))]) dX5_forged_67 rfl (by decide) (by decide) rfl ?_
      refine RR.s2 (pc' := 19) (lv' := [(0, .ref 0), (1, .int x1), (2, .int (x2 + 1))]) (st' := []) dX5_forged_70 rfl ?_
      exact RR.cut [0, 1, 2] rfl H
    · have H := H.2 c
      refine RR.s2 (pc' := 62) (lv' := [(0, .ref 0), (1, .int x1), (2, .int x2)]) (st' := [.int x1]) dX5_forged_61 rfl ?_
      refine RR.ic (v := 1) dX5_forged_62 (by decide) ?_
      refine RR.s2 (pc' := 64) (lv' := [(0, .ref 0), (1, .int x1), (2, .int x2)]) (st' := [.int x2, .int 1, .int x1]) dX5_forged_63 rfl ?_
      refine RR.s2 (pc' := 65) (lv' := [(0, .ref 0), (1, .int x1), (2, .int x2)]) (st' := [.int (sl 1 x2), .int x1]) dX5_forged_64 rfl ?_
      refine RR.s2 (pc' := 66) (lv' := [(0, .ref 0), (1, .int x1), (2, .int x2)]) (st' := [.int (x1 ||| (sl 1 x2))]) dX5_forged_65 rfl ?_
      refine RR.s2 (pc' := 67) (lv' := [(0, .ref 0), (1, .int (x1 ||| (sl 1 x2))), (2, .int x2)]) (st' := []) dX5_forged_66 rfl ?_
      refine RR.inc (c := 1) (lv' := [(0, .ref 0), (1, .int (x1 ||| (sl 1 x2))), (2, .int (x2 + 1))]) dX5_forged_67 rfl (by decide) (by decide) rfl ?_
      refine RR.s2 (pc' := 19) (lv' := [(0, .ref 0), (1, .int (x1 ||| (sl 1 x2))), (2, .int (x2 + 1))]) (st' := []) dX5_forged_70 rfl ?_
      exact RR.cut [0, 1, 2] rfl H
set_option maxRecDepth 20000 in
theorem b_X5_chance {σ : r_St} {K : Int64 → r_St → Prop} {x1 : Int32} {x2 : Int32} {x3 : Int32} {x4 : Int32} {x5 : Int32}  (H : (IN x1 0 16 → ((IN x2 0 39 → ((IN x3 0 ((σ.1 1 4) - 1) → ((IN x4 1 6 → ((IN ((x2 + x4) - 1) 0 39 → ((IN x5 0 1 → M_X5_laws σ (fun s1 => R_X5_chance_80 s1 K x1 x2 x3 x4 x5 (1 : Int64) (1 : Int64) x2)) ∧ (¬ IN x5 0 1 → K (-9223372036854775806 : Int64) σ))) ∧ (¬ IN ((x2 + x4) - 1) 0 39 → K (-9223372036854775806 : Int64) σ))) ∧ (¬ IN x4 1 6 → K (-9223372036854775806 : Int64) σ))) ∧ (¬ IN x3 0 ((σ.1 1 4) - 1) → K (-9223372036854775806 : Int64) σ))) ∧ (¬ IN x2 0 39 → K (-9223372036854775806 : Int64) σ))) ∧ (¬ IN x1 0 16 → K (-9223372036854775806 : Int64) σ)) : M_X5_chance σ K x1 x2 x3 x4 x5 := by
  show RR 0 6 mX5_chance 0 [(0, .ref 0), (1, .int x1), (2, .int x2), (3, .int x3), (4, .int x4), (5, .int x5)] [] σ (rL K)
  refine RR.s2 (pc' := 1) (lv' := [(0, .ref 0), (1, .int x1), (2, .int x2), (3, .int x3), (4, .int x4), (5, .int x5)]) (st' := [.int x1]) dX5_chance_0 rfl ?_
  refine RR.ic (v := 0) dX5_chance_1 (by decide) ?_
  refine RR.bp (v := 16) dX5_chance_2 (by decide) ?_
  refine RR.cS dX5_chance_4 ml_X5_71 (as := [.int x1, .int 0, .int 16]) (rest := []) rfl rfl (Nat.le_of_ble_eq_true rfl) (Nat.le_of_ble_eq_true rfl) (by decide) (kb_X5_within (fun c => ?_) (fun c => ?_))
  · have H := H.1 c
    show RR 0 6 mX5_chance 7 [(0, .ref 0), (1, .int x1), (2, .int x2), (3, .int x3), (4, .int x4), (5, .int x5)] [.int 1] σ _
    refine RR.brF dX5_chance_7 rfl (by decide) ?_
    refine RR.s2 (pc' := 11) (lv' := [(0, .ref 0), (1, .int x1), (2, .int x2), (3, .int x3), (4, .int x4), (5, .int x5)]) (st' := [.int x2]) dX5_chance_10 rfl ?_
    refine RR.cS dX5_chance_11 ml_X5_119 (as := [.int x2]) (rest := []) rfl rfl (Nat.le_of_ble_eq_true rfl) (Nat.le_of_ble_eq_true rfl) (by decide) (kb_X5_isDay (fun c => ?_) (fun c => ?_))
    · have H := H.1 c
      show RR 0 6 mX5_chance 14 [(0, .ref 0), (1, .int x1), (2, .int x2), (3, .int x3), (4, .int x4), (5, .int x5)] [.int 1] σ _
      refine RR.brF dX5_chance_14 rfl (by decide) ?_
      refine RR.s2 (pc' := 18) (lv' := [(0, .ref 0), (1, .int x1), (2, .int x2), (3, .int x3), (4, .int x4), (5, .int x5)]) (st' := [.ref 0]) dX5_chance_17 rfl ?_
      refine RR.getR dX5_chance_18 fl_X5_12 rfl rfl ?_
      refine RR.s2 (pc' := 22) (lv' := [(0, .ref 0), (1, .int x1), (2, .int x2), (3, .int x3), (4, .int x4), (5, .int x5)]) (st' := [.int x3, .ref 1]) dX5_chance_21 rfl ?_
      refine RR.cV (d' := 2) dX5_chance_22 ml_X5_92 rfl rfl (as := [.int x3]) (rest := []) rfl rfl (Nat.le_of_ble_eq_true rfl) (Nat.le_of_ble_eq_true rfl) (by decide) ?_
      show RR 0 2 mX0_has 0 [(0, .ref 1), (1, .int x3)] [] σ _
      refine RR.s2 (pc' := 1) (lv' := [(0, .ref 1), (1, .int x3)]) (st' := [.int x3]) dX0_has_0 rfl ?_
      refine RR.ic (v := 0) dX0_has_1 (by decide) ?_
      refine RR.s2 (pc' := 3) (lv' := [(0, .ref 1), (1, .int x3)]) (st' := [.ref 1, .int 0, .int x3]) dX0_has_2 rfl ?_
      refine RR.getI dX0_has_3 fl_X0_25 rfl rfl ?_
      refine RR.ic (v := 1) dX0_has_6 (by decide) ?_
      refine RR.s2 (pc' := 8) (lv' := [(0, .ref 1), (1, .int x3)]) (st' := [.int ((σ.1 1 4) - 1), .int 0, .int x3]) dX0_has_7 rfl ?_
      refine RR.cN dX0_has_8 ml_X0_28 (as := [.int x3, .int 0, .int ((σ.1 1 4) - 1)]) (rest := []) rfl rfl (Nat.le_of_ble_eq_true rfl) (Nat.le_of_ble_eq_true rfl) (by decide) (kb_X5_within (fun c => ?_) (fun c => ?_))
      · have H := H.1 c
        show RR 0 2 mX0_has 11 [(0, .ref 1), (1, .int x3)] [.int 1] σ _
        refine RR.zret dX0_has_11 rfl (by decide) ?_
        show RR 0 6 mX5_chance 25 [(0, .ref 0), (1, .int x1), (2, .int x2), (3, .int x3), (4, .int x4), (5, .int x5)] [.int 1] σ _
        refine RR.brF dX5_chance_25 rfl (by decide) ?_
        refine RR.s2 (pc' := 30) (lv' := [(0, .ref 0), (1, .int x1), (2, .int x2), (3, .int x3), (4, .int x4), (5, .int x5)]) (st' := [.int x4]) dX5_chance_28 rfl ?_
        refine RR.ic (v := 1) dX5_chance_30 (by decide) ?_
        refine RR.bp (v := 6) dX5_chance_31 (by decide) ?_
        refine RR.cS dX5_chance_33 ml_X5_71 (as := [.int x4, .int 1, .int 6]) (rest := []) rfl rfl (Nat.le_of_ble_eq_true rfl) (Nat.le_of_ble_eq_true rfl) (by decide) (kb_X5_within (fun c => ?_) (fun c => ?_))
        · have H := H.1 c
          show RR 0 6 mX5_chance 36 [(0, .ref 0), (1, .int x1), (2, .int x2), (3, .int x3), (4, .int x4), (5, .int x5)] [.int 1] σ _
          refine RR.brF dX5_chance_36 rfl (by decide) ?_
          refine RR.s2 (pc' := 40) (lv' := [(0, .ref 0), (1, .int x1), (2, .int x2), (3, .int x3), (4, .int x4), (5, .int x5)]) (st' := [.int x2]) dX5_chance_39 rfl ?_
          refine RR.s2 (pc' := 42) (lv' := [(0, .ref 0), (1, .int x1), (2, .int x2), (3, .int x3), (4, .int x4), (5, .int x5)]) (st' := [.int x4, .int x2]) dX5_chance_40 rfl ?_
          refine RR.s2 (pc' := 43) (lv' := [(0, .ref 0), (1, .int x1), (2, .int x2), (3, .int x3), (4, .int x4), (5, .int x5)]) (st' := [.int (x2 + x4)]) dX5_chance_42 rfl ?_
          refine RR.ic (v := 1) dX5_chance_43 (by decide) ?_
          refine RR.s2 (pc' := 45) (lv' := [(0, .ref 0), (1, .int x1), (2, .int x2), (3, .int x3), (4, .int x4), (5, .int x5)]) (st' := [.int ((x2 + x4) - 1)]) dX5_chance_44 rfl ?_
          refine RR.cS dX5_chance_45 ml_X5_119 (as := [.int ((x2 + x4) - 1)]) (rest := []) rfl rfl (Nat.le_of_ble_eq_true rfl) (Nat.le_of_ble_eq_true rfl) (by decide) (kb_X5_isDay (fun c => ?_) (fun c => ?_))
          · have H := H.1 c
            show RR 0 6 mX5_chance 48 [(0, .ref 0), (1, .int x1), (2, .int x2), (3, .int x3), (4, .int x4), (5, .int x5)] [.int 1] σ _
            refine RR.brF dX5_chance_48 rfl (by decide) ?_
            refine RR.s2 (pc' := 53) (lv' := [(0, .ref 0), (1, .int x1), (2, .int x2), (3, .int x3), (4, .int x4), (5, .int x5)]) (st' := [.int x5]) dX5_chance_51 rfl ?_
            refine RR.ic (v := 0) dX5_chance_53 (by decide) ?_
            refine RR.ic (v := 1) dX5_chance_54 (by decide) ?_
            refine RR.cS dX5_chance_55 ml_X5_71 (as := [.int x5, .int 0, .int 1]) (rest := []) rfl rfl (Nat.le_of_ble_eq_true rfl) (Nat.le_of_ble_eq_true rfl) (by decide) (kb_X5_within (fun c => ?_) (fun c => ?_))
            · have H := H.1 c
              show RR 0 6 mX5_chance 58 [(0, .ref 0), (1, .int x1), (2, .int x2), (3, .int x3), (4, .int x4), (5, .int x5)] [.int 1] σ _
              refine RR.brT dX5_chance_58 rfl (by decide) ?_
              refine RR.s2 (pc' := 66) (lv' := [(0, .ref 0), (1, .int x1), (2, .int x2), (3, .int x3), (4, .int x4), (5, .int x5)]) (st' := [.ref 0]) dX5_chance_65 rfl ?_
              refine RR.cV dX5_chance_66 ml_X5_153 rfl rfl (as := []) (rest := []) rfl rfl (Nat.le_of_ble_eq_true rfl) (Nat.le_of_ble_eq_true rfl) (by decide) (RR.toC H (fun s1 H => ?_))
              show RR 0 6 mX5_chance 69 [(0, .ref 0), (1, .int x1), (2, .int x2), (3, .int x3), (4, .int x4), (5, .int x5)] [.ref 32] s1 _
              refine RR.s2 (pc' := 71) (lv' := [(0, .ref 0), (1, .int x1), (2, .int x2), (3, .int x3), (4, .int x4), (5, .int x5), (6, .ref 32)]) (st' := []) dX5_chance_69 rfl ?_
              refine RR.s2 (pc' := 72) (lv' := [(0, .ref 0), (1, .int x1), (2, .int x2), (3, .int x3), (4, .int x4), (5, .int x5), (6, .ref 32)]) (st' := [.long (1 : Int64)]) dX5_chance_71 rfl ?_
              refine RR.s2 (pc' := 74) (lv' := [(0, .ref 0), (1, .int x1), (2, .int x2), (3, .int x3), (4, .int x4), (5, .int x5), (6, .ref 32), (7, .long (1 : Int64))]) (st' := []) dX5_chance_72 rfl ?_
              refine RR.s2 (pc' := 75) (lv' := [(0, .ref 0), (1, .int x1), (2, .int x2), (3, .int x3), (4, .int x4), (5, .int x5), (6, .ref 32), (7, .long (1 : Int64))]) (st' := [.long (1 : Int64)]) dX5_chance_74 rfl ?_
              refine RR.s2 (pc' := 77) (lv' := [(0, .ref 0), (1, .int x1), (2, .int x2), (3, .int x3), (4, .int x4), (5, .int x5), (6, .ref 32), (7, .long (1 : Int64)), (9, .long (1 : Int64))]) (st' := []) dX5_chance_75 rfl ?_
              refine RR.s2 (pc' := 78) (lv' := [(0, .ref 0), (1, .int x1), (2, .int x2), (3, .int x3), (4, .int x4), (5, .int x5), (6, .ref 32), (7, .long (1 : Int64)), (9, .long (1 : Int64))]) (st' := [.int x2]) dX5_chance_77 rfl ?_
              refine RR.s2 (pc' := 80) (lv' := [(0, .ref 0), (1, .int x1), (2, .int x2), (3, .int x3), (4, .int x4), (5, .int x5), (6, .ref 32), (7, .long (1 : Int64)), (9, .long (1 : Int64)), (11, .int x2)]) (st' := []) dX5_chance_78 rfl ?_
              exact RR.cut [1, 2, 3, 4, 5, 6, 7, 8, 9] rfl H
            · have H := H.2 c
              show RR 0 6 mX5_chance 58 [(0, .ref 0), (1, .int x1), (2, .int x2), (3, .int x3), (4, .int x4), (5, .int x5)] [.int 0] σ _
              refine RR.brF dX5_chance_58 rfl (by decide) ?_
              refine RR.ldc2 dX5_chance_61 pw_w683 ?_
              exact RR.lret dX5_chance_64 rfl ⟨_, rfl, H⟩
          · have H := H.2 c
            show RR 0 6 mX5_chance 48 [(0, .ref 0), (1, .int x1), (2, .int x2), (3, .int x3), (4, .int x4), (5, .int x5)] [.int 0] σ _
            refine RR.brT dX5_chance_48 rfl (by decide) ?_
            refine RR.ldc2 dX5_chance_61 pw_w683 ?_
            exact RR.lret dX5_chance_64 rfl ⟨_, rfl, H⟩
        · have H := H.2 c
          show RR 0 6 mX5_chance 36 [(0, .ref 0), (1, .int x1), (2, .int x2), (3, .int x3), (4, .int x4), (5, .int x5)] [.int 0] σ _
          refine RR.brT dX5_chance_36 rfl (by decide) ?_
          refine RR.ldc2 dX5_chance_61 pw_w683 ?_
          exact RR.lret dX5_chance_64 rfl ⟨_, rfl, H⟩
      · have H := H.2 c
        show RR 0 2 mX0_has 11 [(0, .ref 1), (1, .int x3)] [.int 0] σ _
        refine RR.zret dX0_has_11 rfl (by decide) ?_
        show RR 0 6 mX5_chance 25 [(0, .ref 0), (1, .int x1), (2, .int x2), (3, .int x3), (4, .int x4), (5, .int x5)] [.int 0] σ _
        refine RR.brT dX5_chance_25 rfl (by decide) ?_
        refine RR.ldc2 dX5_chance_61 pw_w683 ?_
        exact RR.lret dX5_chance_64 rfl ⟨_, rfl, H⟩
    · have H := H.2 c
      show RR 0 6 mX5_chance 14 [(0, .ref 0), (1, .int x1), (2, .int x2), (3, .int x3), (4, .int x4), (5, .int x5)] [.int 0] σ _
      refine RR.brT dX5_chance_14 rfl (by decide) ?_
      refine RR.ldc2 dX5_chance_61 pw_w683 ?_
      exact RR.lret dX5_chance_64 rfl ⟨_, rfl, H⟩
  · have H := H.2 c
    show RR 0 6 mX5_chance 7 [(0, .ref 0), (1, .int x1), (2, .int x2), (3, .int x3), (4, .int x4), (5, .int x5)] [.int 0] σ _
    refine RR.brT dX5_chance_7 rfl (by decide) ?_
    refine RR.ldc2 dX5_chance_61 pw_w683 ?_
    exact RR.lret dX5_chance_64 rfl ⟨_, rfl, H⟩
set_option maxRecDepth 20000 in
theorem b_X5_chance_80 {σ : r_St} {K : Int64 → r_St → Prop} {x1 : Int32} {x2 : Int32} {x3 : Int32} {x4 : Int32} {x5 : Int32} {y7 : Int64} {y9 : Int64} {x11 : Int32}  (H : (x2 + x4 ≤ x11 → M_X5_inLowestTerms σ (fun v2 s1 => K v2 s1) y7 y9 x5) ∧ (¬ (x2 + x4 ≤ x11) → M_X1_openIn256 32 σ (fun v4 s3 => R_X5_chance_80 s3 K x1 x2 x3 x4 x5 (y7 * v4.toInt64) (y9 * (256 : Int64)) (x11 + 1)) x11 x3 x1)) : R_X5_chance_80 σ K x1 x2 x3 x4 x5 y7 y9 x11 := by
  show RR 0 6 mX5_chance 80 [(1, .int x1), (2, .int x2), (3, .int x3), (4, .int x4), (5, .int x5), (6, .ref 32), (7, .long y7), (9, .long y9), (11, .int x11)] [] σ (rL K)
  refine RR.s2 (pc' := 82) (lv' := [(1, .int x1), (2, .int x2), (3, .int x3), (4, .int x4), (5, .int x5), (6, .ref 32), (7, .long y7), (9, .long y9), (11, .int x11)]) (st' := [.int x11]) dX5_chance_80 rfl ?_
  refine RR.s2 (pc' := 83) (lv' := [(1, .int x1), (2, .int x2), (3, .int x3), (4, .int x4), (5, .int x5), (6, .ref 32), (7, .long y7), (9, .long y9), (11, .int x11)]) (st' := [.int x2, .int x11]) dX5_chance_82 rfl ?_
  refine RR.s2 (pc' := 85) (lv' := [(1, .int x1), (2, .int x2), (3, .int x3), (4, .int x4), (5, .int x5), (6, .ref 32), (7, .long y7), (9, .long y9), (11, .int x11)]) (st' := [.int x4, .int x2, .int x11]) dX5_chance_83 rfl ?_
  refine RR.s2 (pc' := 86) (lv' := [(1, .int x1), (2, .int x2), (3, .int x3), (4, .int x4), (5, .int x5), (6, .ref 32), (7, .long y7), (9, .long y9), (11, .int x11)]) (st' := [.int (x2 + x4), .int x11]) dX5_chance_85 rfl ?_
  refine RR.br dX5_chance_86 rfl (fun c => ?_) (fun c => ?_)
  · have H := H.1 c
    refine RR.s2 (pc' := 120) (lv' := [(1, .int x1), (2, .int x2), (3, .int x3), (4, .int x4), (5, .int x5), (6, .ref 32), (7, .long y7), (9, .long y9), (11, .int x11)]) (st' := [.long y7]) dX5_chance_118 rfl ?_
    refine RR.s2 (pc' := 122) (lv' := [(1, .int x1), (2, .int x2), (3, .int x3), (4, .int x4), (5, .int x5), (6, .ref 32), (7, .long y7), (9, .long y9), (11, .int x11)]) (st' := [.long y9, .long y7]) dX5_chance_120 rfl ?_
    refine RR.s2 (pc' := 124) (lv' := [(1, .int x1), (2, .int x2), (3, .int x3), (4, .int x4), (5, .int x5), (6, .ref 32), (7, .long y7), (9, .long y9), (11, .int x11)]) (st' := [.int x5, .long y9, .long y7]) dX5_chance_122 rfl ?_
    refine RR.cS dX5_chance_124 ml_X5_253 (as := [.long y7, .long y9, .int x5]) (rest := []) rfl rfl (Nat.le_of_ble_eq_true rfl) (Nat.le_of_ble_eq_true rfl) (by decide) (RR.toL H (fun v2 s1 H => ?_))
    show RR 0 6 mX5_chance 127 [(1, .int x1), (2, .int x2), (3, .int x3), (4, .int x4), (5, .int x5), (6, .ref 32), (7, .long y7), (9, .long y9), (11, .int x11)] [.long v2] s1 _
    exact RR.lret dX5_chance_127 rfl ⟨_, rfl, H⟩
  · have H := H.2 c
    refine RR.s2 (pc' := 91) (lv' := [(1, .int x1), (2, .int x2), (3, .int x3), (4, .int x4), (5, .int x5), (6, .ref 32), (7, .long y7), (9, .long y9), (11, .int x11)]) (st' := [.long y7]) dX5_chance_89 rfl ?_
    refine RR.s2 (pc' := 93) (lv' := [(1, .int x1), (2, .int x2), (3, .int x3), (4, .int x4), (5, .int x5), (6, .ref 32), (7, .long y7), (9, .long y9), (11, .int x11)]) (st' := [.ref 32, .long y7]) dX5_chance_91 rfl ?_
    refine RR.s2 (pc' := 95) (lv' := [(1, .int x1), (2, .int x2), (3, .int x3), (4, .int x4), (5, .int x5), (6, .ref 32), (7, .long y7), (9, .long y9), (11, .int x11)]) (st' := [.int x11, .ref 32, .long y7]) dX5_chance_93 rfl ?_
    refine RR.s2 (pc' := 96) (lv' := [(1, .int x1), (2, .int x2), (3, .int x3), (4, .int x4), (5, .int x5), (6, .ref 32), (7, .long y7), (9, .long y9), (11, .int x11)]) (st' := [.int x3, .int x11, .ref 32, .long y7]) dX5_chance_95 rfl ?_
    refine RR.s2 (pc' := 97) (lv' := [(1, .int x1), (2, .int x2), (3, .int x3), (4, .int x4), (5, .int x5), (6, .ref 32), (7, .long y7), (9, .long y9), (11, .int x11)]) (st' := [.int x1, .int x3, .int x11, .ref 32, .long y7]) dX5_chance_96 rfl ?_
    refine RR.cV dX5_chance_97 ml_X5_248 rfl rfl (as := [.int x11, .int x3, .int x1]) (rest := [.long y7]) rfl rfl (Nat.le_of_ble_eq_true rfl) (Nat.le_of_ble_eq_true rfl) (by decide) (RR.toI H (fun v4 s3 H => ?_))
    show RR 0 6 mX5_chance 100 [(1, .int x1), (2, .int x2), (3, .int x3), (4, .int x4), (5, .int x5), (6, .ref 32), (7, .long y7), (9, .long y9), (11, .int x11)] [.int v4, .long y7] s3 _
    refine RR.s2 (pc' := 101) (lv' := [(1, .int x1), (2, .int x2), (3, .int x3), (4, .int x4), (5, .int x5), (6, .ref 32), (7, .long y7), (9, .long y9), (11, .int x11)]) (st' := [.long v4.toInt64, .long y7]) dX5_chance_100 rfl ?_
    refine RR.s2 (pc' := 102) (lv' := [(1, .int x1), (2, .int x2), (3, .int x3), (4, .int x4), (5, .int x5), (6, .ref 32), (7, .long y7), (9, .long y9), (11, .int x11)]) (st' := [.long (y7 * v4.toInt64)]) dX5_chance_101 rfl ?_
    refine RR.s2 (pc' := 104) (lv' := [(1, .int x1), (2, .int x2), (3, .int x3), (4, .int x4), (5, .int x5), (6, .ref 32), (7, .long (y7 * v4.toInt64)), (9, .long y9), (11, .int x11)]) (st' := []) dX5_chance_102 rfl ?_
    refine RR.s2 (pc' := 106) (lv' := [(1, .int x1), (2, .int x2), (3, .int x3), (4, .int x4), (5, .int x5), (6, .ref 32), (7, .long (y7 * v4.toInt64)), (9, .long y9), (11, .int x11)]) (st' := [.long y9]) dX5_chance_104 rfl ?_
    refine RR.ldc2 dX5_chance_106 pw_w689 ?_
    refine RR.s2 (pc' := 110) (lv' := [(1, .int x1), (2, .int x2), (3, .int x3), (4, .int x4), (5, .int x5), (6, .ref 32), (7, .long (y7 * v4.toInt64)), (9, .long y9), (11, .int x11)]) (st' := [.long (y9 * (256 : Int64))]) dX5_chance_109 rfl ?_
    refine RR.s2 (pc' := 112) (lv' := [(1, .int x1), (2, .int x2), (3, .int x3), (4, .int x4), (5, .int x5), (6, .ref 32), (7, .long (y7 * v4.toInt64)), (9, .long (y9 * (256 : Int64))), (11, .int x11)]) (st' := []) dX5_chance_110 rfl ?_
    refine RR.inc (c := 1) (lv' := [(1, .int x1), (2, .int x2), (3, .int x3), (4, .int x4), (5, .int x5), (6, .ref 32), (7, .long (y7 * v4.toInt64)), (9, .long (y9 * (256 : Int64))), (11, .int (x11 + 1))]) dX5_chance_112 rfl (by decide) (by decide) rfl ?_
    refine RR.s2 (pc' := 80) (lv' := [(1, .int x1), (2, .int x2), (3, .int x3), (4, .int x4), (5, .int x5), (6, .ref 32), (7, .long (y7 * v4.toInt64)), (9, .long (y9 * (256 : Int64))), (11, .int (x11 + 1))]) (st' := []) dX5_chance_115 rfl ?_
    exact RR.cut [0, 1, 2, 3, 4, 5, 6, 7, 8] rfl H
set_option maxRecDepth 20000 in
theorem b_X5_year {σ : r_St} {K : Int32 → r_St → Prop} {x1 : Int32} {x2 : Int32} {x3 : Int32}  (H : (IN x2 1 40 → ((IN x3 0 1 → M_X5_laws σ (fun s1 => R_X5_year_46 s1 K x2 x3 (s1.1 1 4) x1 0 0)) ∧ (¬ IN x3 0 1 → K (-2) σ))) ∧ (¬ IN x2 1 40 → K (-2) σ)) : M_X5_year σ K x1 x2 x3 := by
  show RR 0 6 mX5_year 0 [(0, .ref 0), (1, .int x1), (2, .int x2), (3, .int x3)] [] σ (rI K)
  refine RR.s2 (pc' := 1) (lv' := [(0, .ref 0), (1, .int x1), (2, .int x2), (3, .int x3)]) (st' := [.int x2]) dX5_year_0 rfl ?_
  refine RR.ic (v := 1) dX5_year_1 (by decide) ?_
  refine RR.bp (v := 40) dX5_year_2 (by decide) ?_
  refine RR.cS dX5_year_4 ml_X5_71 (as := [.int x2, .int 1, .int 40]) (rest := []) rfl rfl (Nat.le_of_ble_eq_true rfl) (Nat.le_of_ble_eq_true rfl) (by decide) (kb_X5_within (fun c => ?_) (fun c => ?_))
  · have H := H.1 c
    show RR 0 6 mX5_year 7 [(0, .ref 0), (1, .int x1), (2, .int x2), (3, .int x3)] [.int 1] σ _
    refine RR.brF dX5_year_7 rfl (by decide) ?_
    refine RR.s2 (pc' := 11) (lv' := [(0, .ref 0), (1, .int x1), (2, .int x2), (3, .int x3)]) (st' := [.int x3]) dX5_year_10 rfl ?_
    refine RR.ic (v := 0) dX5_year_11 (by decide) ?_
    refine RR.ic (v := 1) dX5_year_12 (by decide) ?_
    refine RR.cS dX5_year_13 ml_X5_71 (as := [.int x3, .int 0, .int 1]) (rest := []) rfl rfl (Nat.le_of_ble_eq_true rfl) (Nat.le_of_ble_eq_true rfl) (by decide) (kb_X5_within (fun c => ?_) (fun c => ?_))
    · have H := H.1 c
      show RR 0 6 mX5_year 16 [(0, .ref 0), (1, .int x1), (2, .int x2), (3, .int x3)] [.int 1] σ _
      refine RR.brT dX5_year_16 rfl (by decide) ?_
      refine RR.s2 (pc' := 23) (lv' := [(0, .ref 0), (1, .int x1), (2, .int x2), (3, .int x3)]) (st' := [.ref 0]) dX5_year_22 rfl ?_
      refine RR.cV dX5_year_23 ml_X5_153 rfl rfl (as := []) (rest := []) rfl rfl (Nat.le_of_ble_eq_true rfl) (Nat.le_of_ble_eq_true rfl) (by decide) (RR.toC H (fun s1 H => ?_))
      show RR 0 6 mX5_year 26 [(0, .ref 0), (1, .int x1), (2, .int x2), (3, .int x3)] [.ref 32] s1 _
      refine RR.s2 (pc' := 28) (lv' := [(0, .ref 0), (1, .int x1), (2, .int x2), (3, .int x3), (4, .ref 32)]) (st' := []) dX5_year_26 rfl ?_
      refine RR.s2 (pc' := 29) (lv' := [(0, .ref 0), (1, .int x1), (2, .int x2), (3, .int x3), (4, .ref 32)]) (st' := [.ref 0]) dX5_year_28 rfl ?_
      refine RR.getR dX5_year_29 fl_X5_12 rfl rfl ?_
      refine RR.cV (d' := 1) dX5_year_32 ml_X5_226 rfl rfl (as := []) (rest := []) rfl rfl (Nat.le_of_ble_eq_true rfl) (Nat.le_of_ble_eq_true rfl) (by decide) ?_
      show RR 0 1 mX0_number 0 [(0, .ref 1)] [] s1 _
      refine RR.s2 (pc' := 1) (lv' := [(0, .ref 1)]) (st' := [.ref 1]) dX0_number_0 rfl ?_
      refine RR.getI dX0_number_1 fl_X0_25 rfl rfl ?_
      refine RR.iret dX0_number_4 rfl ?_
      show RR 0 6 mX5_year 35 [(0, .ref 0), (1, .int x1), (2, .int x2), (3, .int x3), (4, .ref 32)] [.int (s1.1 1 4)] s1 _
      refine RR.s2 (pc' := 37) (lv' := [(0, .ref 0), (1, .int x1), (2, .int x2), (3, .int x3), (4, .ref 32), (5, .int (s1.1 1 4))]) (st' := []) dX5_year_35 rfl ?_
      refine RR.s2 (pc' := 38) (lv' := [(0, .ref 0), (1, .int x1), (2, .int x2), (3, .int x3), (4, .ref 32), (5, .int (s1.1 1 4))]) (st' := [.int x1]) dX5_year_37 rfl ?_
      refine RR.s2 (pc' := 40) (lv' := [(0, .ref 0), (1, .int x1), (2, .int x2), (3, .int x3), (4, .ref 32), (5, .int (s1.1 1 4)), (6, .int x1)]) (st' := []) dX5_year_38 rfl ?_
      refine RR.ic (v := 0) dX5_year_40 (by decide) ?_
      refine RR.s2 (pc' := 43) (lv' := [(0, .ref 0), (1, .int x1), (2, .int x2), (3, .int x3), (4, .ref 32), (5, .int (s1.1 1 4)), (6, .int x1), (7, .int 0)]) (st' := []) dX5_year_41 rfl ?_
      refine RR.ic (v := 0) dX5_year_43 (by decide) ?_
      refine RR.s2 (pc' := 46) (lv' := [(0, .ref 0), (1, .int x1), (2, .int x2), (3, .int x3), (4, .ref 32), (5, .int (s1.1 1 4)), (6, .int x1), (7, .int 0), (8, .int 0)]) (st' := []) dX5_year_44 rfl ?_
      exact RR.cut [0, 2, 3, 4, 5, 6, 7, 8] rfl H
    · have H := H.2 c
      show RR 0 6 mX5_year 16 [(0, .ref 0), (1, .int x1), (2, .int x2), (3, .int x3)] [.int 0] σ _
      refine RR.brF dX5_year_16 rfl (by decide) ?_
      refine RR.bp (v := (-2)) dX5_year_19 (by decide) ?_
      exact RR.iret dX5_year_21 rfl ⟨_, rfl, H⟩
  · have H := H.2 c
    show RR 0 6 mX5_year 7 [(0, .ref 0), (1, .int x1), (2, .int x2), (3, .int x3)] [.int 0] σ _
    refine RR.brT dX5_year_7 rfl (by decide) ?_
    refine RR.bp (v := (-2)) dX5_year_19 (by decide) ?_
    exact RR.iret dX5_year_21 rfl ⟨_, rfl, H⟩
set_option maxRecDepth 20000 in
theorem b_X5_year_46 {σ : r_St} {K : Int32 → r_St → Prop} {x2 : Int32} {x3 : Int32} {x5 : Int32} {x6 : Int32} {x7 : Int32} {x8 : Int32}  (H : (x2 ≤ x8 → K x7 σ) ∧ (¬ (x2 ≤ x8) → ((x5 ≤ 0 → K x7 σ) ∧ (¬ (x5 ≤ 0) → (¬ x5 = 0 ∧ (M_X1_openOn 32 σ (fun v2 s1 => (¬ (iu v2 (rm (iu ((1103515245 * x6) + 12345) 16) x5)) &&& 1 = 0 → R_X5_year_46 s1 K x2 x3 x5 ((1103515245 * x6) + 12345) x7 (x8 + 1)) ∧ ((iu v2 (rm (iu ((1103515245 * x6) + 12345) 16) x5)) &&& 1 = 0 → ((¬ x3 = 0 → M_X0_fineOf s1 (fun v4 s3 => R_X5_year_46 s3 K x2 x3 x5 ((1103515245 * x6) + 12345) (x7 + v4) (x8 + 1)) (rm (iu ((1103515245 * x6) + 12345) 16) x5)) ∧ (x3 = 0 → R_X5_year_46 s1 K x2 x3 x5 ((1103515245 * x6) + 12345) (x7 + 1) (x8 + 1))))) x8)))))) : R_X5_year_46 σ K x2 x3 x5 x6 x7 x8 := by
  show RR 0 6 mX5_year 46 [(0, .ref 0), (2, .int x2), (3, .int x3), (4, .ref 32), (5, .int x5), (6, .int x6), (7, .int x7), (8, .int x8)] [] σ (rI K)
  refine RR.s2 (pc' := 48) (lv' := [(0, .ref 0), (2, .int x2), (3, .int x3), (4, .ref 32), (5, .int x5), (6, .int x6), (7, .int x7), (8, .int x8)]) (st' := [.int x8]) dX5_year_46 rfl ?_
  refine RR.s2 (pc' := 49) (lv' := [(0, .ref 0), (2, .int x2), (3, .int x3), (4, .ref 32), (5, .int x5), (6, .int x6), (7, .int x7), (8, .int x8)]) (st' := [.int x2, .int x8]) dX5_year_48 rfl ?_
  refine RR.br dX5_year_49 rfl (fun c => ?_) (fun c => ?_)
  · have H := H.1 c
    refine RR.s2 (pc' := 124) (lv' := [(0, .ref 0), (2, .int x2), (3, .int x3), (4, .ref 32), (5, .int x5), (6, .int x6), (7, .int x7), (8, .int x8)]) (st' := [.int x7]) dX5_year_122 rfl ?_
    exact RR.iret dX5_year_124 rfl ⟨_, rfl, H⟩
  · have H := H.2 c
    refine RR.s2 (pc' := 54) (lv' := [(0, .ref 0), (2, .int x2), (3, .int x3), (4, .ref 32), (5, .int x5), (6, .int x6), (7, .int x7), (8, .int x8)]) (st' := [.int x5]) dX5_year_52 rfl ?_
    refine RR.br dX5_year_54 rfl (fun c => ?_) (fun c => ?_)
    · have H := H.1 c
      refine RR.s2 (pc' := 124) (lv' := [(0, .ref 0), (2, .int x2), (3, .int x3), (4, .ref 32), (5, .int x5), (6, .int x6), (7, .int x7), (8, .int x8)]) (st' := [.int x7]) dX5_year_122 rfl ?_
      exact RR.iret dX5_year_124 rfl ⟨_, rfl, H⟩
    · have H := H.2 c
      refine RR.ldcw dX5_year_57 pw_w697 ?_
      refine RR.s2 (pc' := 62) (lv' := [(0, .ref 0), (2, .int x2), (3, .int x3), (4, .ref 32), (5, .int x5), (6, .int x6), (7, .int x7), (8, .int x8)]) (st' := [.int x6, .int 1103515245]) dX5_year_60 rfl ?_
      refine RR.s2 (pc' := 63) (lv' := [(0, .ref 0), (2, .int x2), (3, .int x3), (4, .ref 32), (5, .int x5), (6, .int x6), (7, .int x7), (8, .int x8)]) (st' := [.int (1103515245 * x6)]) dX5_year_62 rfl ?_
      refine RR.sp (v := 12345) dX5_year_63 (by decide) ?_
      refine RR.s2 (pc' := 67) (lv' := [(0, .ref 0), (2, .int x2), (3, .int x3), (4, .ref 32), (5, .int x5), (6, .int x6), (7, .int x7), (8, .int x8)]) (st' := [.int ((1103515245 * x6) + 12345)]) dX5_year_66 rfl ?_
      refine RR.s2 (pc' := 69) (lv' := [(0, .ref 0), (2, .int x2), (3, .int x3), (4, .ref 32), (5, .int x5), (6, .int ((1103515245 * x6) + 12345)), (7, .int x7), (8, .int x8)]) (st' := []) dX5_year_67 rfl ?_
      refine RR.s2 (pc' := 71) (lv' := [(0, .ref 0), (2, .int x2), (3, .int x3), (4, .ref 32), (5, .int x5), (6, .int ((1103515245 * x6) + 12345)), (7, .int x7), (8, .int x8)]) (st' := [.int ((1103515245 * x6) + 12345)]) dX5_year_69 rfl ?_
      refine RR.bp (v := 16) dX5_year_71 (by decide) ?_
      refine RR.s2 (pc' := 74) (lv' := [(0, .ref 0), (2, .int x2), (3, .int x3), (4, .ref 32), (5, .int x5), (6, .int ((1103515245 * x6) + 12345)), (7, .int x7), (8, .int x8)]) (st' := [.int (iu ((1103515245 * x6) + 12345) 16)]) dX5_year_73 rfl ?_
      refine RR.s2 (pc' := 76) (lv' := [(0, .ref 0), (2, .int x2), (3, .int x3), (4, .ref 32), (5, .int x5), (6, .int ((1103515245 * x6) + 12345)), (7, .int x7), (8, .int x8)]) (st' := [.int x5, .int (iu ((1103515245 * x6) + 12345) 16)]) dX5_year_74 rfl ?_
      obtain ⟨h0, H⟩ := H
      refine RR.irem dX5_year_76 h0 ?_
      show RR 0 6 mX5_year 77 [(0, .ref 0), (2, .int x2), (3, .int x3), (4, .ref 32), (5, .int x5), (6, .int ((1103515245 * x6) + 12345)), (7, .int x7), (8, .int x8)] [.int (rm (iu ((1103515245 * x6) + 12345) 16) x5)] σ _
      refine RR.s2 (pc' := 79) (lv' := [(0, .ref 0), (2, .int x2), (3, .int x3), (4, .ref 32), (5, .int x5), (6, .int ((1103515245 * x6) + 12345)), (7, .int x7), (8, .int x8), (9, .int (rm (iu ((1103515245 * x6) + 12345) 16) x5))]) (st' := []) dX5_year_77 rfl ?_
      refine RR.s2 (pc' := 81) (lv' := [(0, .ref 0), (2, .int x2), (3, .int x3), (4, .ref 32), (5, .int x5), (6, .int ((1103515245 * x6) + 12345)), (7, .int x7), (8, .int x8), (9, .int (rm (iu ((1103515245 * x6) + 12345) 16) x5))]) (st' := [.ref 32]) dX5_year_79 rfl ?_
      refine RR.s2 (pc' := 83) (lv' := [(0, .ref 0), (2, .int x2), (3, .int x3), (4, .ref 32), (5, .int x5), (6, .int ((1103515245 * x6) + 12345)), (7, .int x7), (8, .int x8), (9, .int (rm (iu ((1103515245 * x6) + 12345) 16) x5))]) (st' := [.int x8, .ref 32]) dX5_year_81 rfl ?_
      refine RR.cV dX5_year_83 ml_X5_163 rfl rfl (as := [.int x8]) (rest := []) rfl rfl (Nat.le_of_ble_eq_true rfl) (Nat.le_of_ble_eq_true rfl) (by decide) (RR.toI H (fun v2 s1 H => ?_))
      show RR 0 6 mX5_year 86 [(0, .ref 0), (2, .int x2), (3, .int x3), (4, .ref 32), (5, .int x5), (6, .int ((1103515245 * x6) + 12345)), (7, .int x7), (8, .int x8), (9, .int (rm (iu ((1103515245 * x6) + 12345) 16) x5))] [.int v2] s1 _
      refine RR.s2 (pc' := 88) (lv' := [(0, .ref 0), (2, .int x2), (3, .int x3), (4, .ref 32), (5, .int x5), (6, .int ((1103515245 * x6) + 12345)), (7, .int x7), (8, .int x8), (9, .int (rm (iu ((1103515245 * x6) + 12345) 16) x5))]) (st' := [.int (rm (iu ((1103515245 * x6) + 12345) 16) x5), .int v2]) dX5_year_86 rfl ?_
      refine RR.cS (d' := 1) dX5_year_88 ml_X5_102 (as := [.int v2, .int (rm (iu ((1103515245 * x6) + 12345) 16) x5)]) (rest := []) rfl rfl (Nat.le_of_ble_eq_true rfl) (Nat.le_of_ble_eq_true rfl) (by decide) ?_
      show RR 0 1 mX5_bit 0 [(0, .int v2), (1, .int (rm (iu ((1103515245 * x6) + 12345) 16) x5))] [] s1 _
      refine RR.s2 (pc' := 1) (lv' := [(0, .int v2), (1, .int (rm (iu ((1103515245 * x6) + 12345) 16) x5))]) (st' := [.int v2]) dX5_bit_0 rfl ?_
      refine RR.s2 (pc' := 2) (lv' := [(0, .int v2), (1, .int (rm (iu ((1103515245 * x6) + 12345) 16) x5))]) (st' := [.int (rm (iu ((1103515245 * x6) + 12345) 16) x5), .int v2]) dX5_bit_1 rfl ?_
      refine RR.s2 (pc' := 3) (lv' := [(0, .int v2), (1, .int (rm (iu ((1103515245 * x6) + 12345) 16) x5))]) (st' := [.int (iu v2 (rm (iu ((1103515245 * x6) + 12345) 16) x5))]) dX5_bit_2 rfl ?_
      refine RR.ic (v := 1) dX5_bit_3 (by decide) ?_
      refine RR.s2 (pc' := 5) (lv' := [(0, .int v2), (1, .int (rm (iu ((1103515245 * x6) + 12345) 16) x5))]) (st' := [.int ((iu v2 (rm (iu ((1103515245 * x6) + 12345) 16) x5)) &&& 1)]) dX5_bit_4 rfl ?_
      refine RR.iret dX5_bit_5 rfl ?_
      show RR 0 6 mX5_year 91 [(0, .ref 0), (2, .int x2), (3, .int x3), (4, .ref 32), (5, .int x5), (6, .int ((1103515245 * x6) + 12345)), (7, .int x7), (8, .int x8), (9, .int (rm (iu ((1103515245 * x6) + 12345) 16) x5))] [.int ((iu v2 (rm (iu ((1103515245 * x6) + 12345) 16) x5)) &&& 1)] s1 _
      refine RR.br dX5_year_91 rfl (fun c => ?_) (fun c => ?_)
      · have H := H.1 c
        refine RR.inc (c := 1) (lv' := [(0, .ref 0), (2, .int x2), (3, .int x3), (4, .ref 32), (5, .int x5), (6, .int ((1103515245 * x6) + 12345)), (7, .int x7), (8, .int (x8 + 1)), (9, .int (rm (iu ((1103515245 * x6) + 12345) 16) x5))]) dX5_year_116 rfl (by decide) (by decide) rfl ?_
        refine RR.s2 (pc' := 46) (lv' := [(0, .ref 0), (2, .int x2), (3, .int x3), (4, .ref 32), (5, .int x5), (6, .int ((1103515245 * x6) + 12345)), (7, .int x7), (8, .int (x8 + 1)), (9, .int (rm (iu ((1103515245 * x6) + 12345) 16) x5))]) (st' := []) dX5_year_119 rfl ?_
        exact RR.cut [0, 1, 2, 3, 4, 5, 6, 7] rfl H
      · have H := H.2 (Classical.not_not.mp c)
        refine RR.s2 (pc' := 96) (lv' := [(0, .ref 0), (2, .int x2), (3, .int x3), (4, .ref 32), (5, .int x5), (6, .int ((1103515245 * x6) + 12345)), (7, .int x7), (8, .int x8), (9, .int (rm (iu ((1103515245 * x6) + 12345) 16) x5))]) (st' := [.int x7]) dX5_year_94 rfl ?_
        refine RR.s2 (pc' := 97) (lv' := [(0, .ref 0), (2, .int x2), (3, .int x3), (4, .ref 32), (5, .int x5), (6, .int ((1103515245 * x6) + 12345)), (7, .int x7), (8, .int x8), (9, .int (rm (iu ((1103515245 * x6) + 12345) 16) x5))]) (st' := [.int x3, .int x7]) dX5_year_96 rfl ?_
        refine RR.br dX5_year_97 rfl (fun c => ?_) (fun c => ?_)
        · have H := H.1 c
          refine RR.s2 (pc' := 105) (lv' := [(0, .ref 0), (2, .int x2), (3, .int x3), (4, .ref 32), (5, .int x5), (6, .int ((1103515245 * x6) + 12345)), (7, .int x7), (8, .int x8), (9, .int (rm (iu ((1103515245 * x6) + 12345) 16) x5))]) (st' := [.ref 0, .int x7]) dX5_year_104 rfl ?_
          refine RR.getR dX5_year_105 fl_X5_12 rfl rfl ?_
          refine RR.s2 (pc' := 110) (lv' := [(0, .ref 0), (2, .int x2), (3, .int x3), (4, .ref 32), (5, .int x5), (6, .int ((1103515245 * x6) + 12345)), (7, .int x7), (8, .int x8), (9, .int (rm (iu ((1103515245 * x6) + 12345) 16) x5))]) (st' := [.int (rm (iu ((1103515245 * x6) + 12345) 16) x5), .ref 1, .int x7]) dX5_year_108 rfl ?_
          refine RR.cV dX5_year_110 ml_X5_96 rfl rfl (as := [.int (rm (iu ((1103515245 * x6) + 12345) 16) x5)]) (rest := [.int x7]) rfl rfl (Nat.le_of_ble_eq_true rfl) (Nat.le_of_ble_eq_true rfl) (by decide) (RR.toI H (fun v4 s3 H => ?_))
          show RR 0 6 mX5_year 113 [(0, .ref 0), (2, .int x2), (3, .int x3), (4, .ref 32), (5, .int x5), (6, .int ((1103515245 * x6) + 12345)), (7, .int x7), (8, .int x8), (9, .int (rm (iu ((1103515245 * x6) + 12345) 16) x5))] [.int v4, .int x7] s3 _
          refine RR.s2 (pc' := 114) (lv' := [(0, .ref 0), (2, .int x2), (3, .int x3), (4, .ref 32), (5, .int x5), (6, .int ((1103515245 * x6) + 12345)), (7, .int x7), (8, .int x8), (9, .int (rm (iu ((1103515245 * x6) + 12345) 16) x5))]) (st' := [.int (x7 + v4)]) dX5_year_113 rfl ?_
          refine RR.s2 (pc' := 116) (lv' := [(0, .ref 0), (2, .int x2), (3, .int x3), (4, .ref 32), (5, .int x5), (6, .int ((1103515245 * x6) + 12345)), (7, .int (x7 + v4)), (8, .int x8), (9, .int (rm (iu ((1103515245 * x6) + 12345) 16) x5))]) (st' := []) dX5_year_114 rfl ?_
          refine RR.inc (c := 1) (lv' := [(0, .ref 0), (2, .int x2), (3, .int x3), (4, .ref 32), (5, .int x5), (6, .int ((1103515245 * x6) + 12345)), (7, .int (x7 + v4)), (8, .int (x8 + 1)), (9, .int (rm (iu ((1103515245 * x6) + 12345) 16) x5))]) dX5_year_116 rfl (by decide) (by decide) rfl ?_
          refine RR.s2 (pc' := 46) (lv' := [(0, .ref 0), (2, .int x2), (3, .int x3), (4, .ref 32), (5, .int x5), (6, .int ((1103515245 * x6) + 12345)), (7, .int (x7 + v4)), (8, .int (x8 + 1)), (9, .int (rm (iu ((1103515245 * x6) + 12345) 16) x5))]) (st' := []) dX5_year_119 rfl ?_
          exact RR.cut [0, 1, 2, 3, 4, 5, 6, 7] rfl H
        · have H := H.2 (Classical.not_not.mp c)
          refine RR.ic (v := 1) dX5_year_100 (by decide) ?_
          refine RR.s2 (pc' := 113) (lv' := [(0, .ref 0), (2, .int x2), (3, .int x3), (4, .ref 32), (5, .int x5), (6, .int ((1103515245 * x6) + 12345)), (7, .int x7), (8, .int x8), (9, .int (rm (iu ((1103515245 * x6) + 12345) 16) x5))]) (st' := [.int 1, .int x7]) dX5_year_101 rfl ?_
          refine RR.s2 (pc' := 114) (lv' := [(0, .ref 0), (2, .int x2), (3, .int x3), (4, .ref 32), (5, .int x5), (6, .int ((1103515245 * x6) + 12345)), (7, .int x7), (8, .int x8), (9, .int (rm (iu ((1103515245 * x6) + 12345) 16) x5))]) (st' := [.int (x7 + 1)]) dX5_year_113 rfl ?_
          refine RR.s2 (pc' := 116) (lv' := [(0, .ref 0), (2, .int x2), (3, .int x3), (4, .ref 32), (5, .int x5), (6, .int ((1103515245 * x6) + 12345)), (7, .int (x7 + 1)), (8, .int x8), (9, .int (rm (iu ((1103515245 * x6) + 12345) 16) x5))]) (st' := []) dX5_year_114 rfl ?_
          refine RR.inc (c := 1) (lv' := [(0, .ref 0), (2, .int x2), (3, .int x3), (4, .ref 32), (5, .int x5), (6, .int ((1103515245 * x6) + 12345)), (7, .int (x7 + 1)), (8, .int (x8 + 1)), (9, .int (rm (iu ((1103515245 * x6) + 12345) 16) x5))]) dX5_year_116 rfl (by decide) (by decide) rfl ?_
          refine RR.s2 (pc' := 46) (lv' := [(0, .ref 0), (2, .int x2), (3, .int x3), (4, .ref 32), (5, .int x5), (6, .int ((1103515245 * x6) + 12345)), (7, .int (x7 + 1)), (8, .int (x8 + 1)), (9, .int (rm (iu ((1103515245 * x6) + 12345) 16) x5))]) (st' := []) dX5_year_119 rfl ?_
          exact RR.cut [0, 1, 2, 3, 4, 5, 6, 7] rfl H
set_option maxRecDepth 20000 in
theorem b_X5_sheet {σ : r_St} {K : Int32 → r_St → Prop} {x1 : Int32} {x2 : Int32} {x3 : Int32}  (H : (IN x1 0 3 → ((IN x2 0 2 → ((x3 ≤ 60 → ((0 ≤ x3 → (∃ j1 : Nat, x1 = nI j1 ∧ j1 < 4 ∧ M_X4_begin (51 + 2 * j1) σ (fun s4 => K x3 s4) x2 x3)) ∧ (¬ (0 ≤ x3) → K ((-10) - 5) (wI σ 0 14 5)))) ∧ (¬ (x3 ≤ 60) → K (-2) σ))) ∧ (¬ IN x2 0 2 → K (-2) σ))) ∧ (¬ IN x1 0 3 → K (-2) σ)) : M_X5_sheet σ K x1 x2 x3 := by
  show RR 0 3 mX5_sheet 0 [(0, .ref 0), (1, .int x1), (2, .int x2), (3, .int x3)] [] σ (rI K)
  refine RR.s2 (pc' := 1) (lv' := [(0, .ref 0), (1, .int x1), (2, .int x2), (3, .int x3)]) (st' := [.int x1]) dX5_sheet_0 rfl ?_
  refine RR.cS dX5_sheet_1 ml_X5_134 (as := [.int x1]) (rest := []) rfl rfl (Nat.le_of_ble_eq_true rfl) (Nat.le_of_ble_eq_true rfl) (by decide) (kb_X5_isSheet (fun c => ?_) (fun c => ?_))
  · have H := H.1 c
    show RR 0 3 mX5_sheet 4 [(0, .ref 0), (1, .int x1), (2, .int x2), (3, .int x3)] [.int 1] σ _
    refine RR.brF dX5_sheet_4 rfl (by decide) ?_
    refine RR.s2 (pc' := 8) (lv' := [(0, .ref 0), (1, .int x1), (2, .int x2), (3, .int x3)]) (st' := [.int x2]) dX5_sheet_7 rfl ?_
    refine RR.cS dX5_sheet_8 ml_X5_258 (as := [.int x2]) (rest := []) rfl rfl (Nat.le_of_ble_eq_true rfl) (Nat.le_of_ble_eq_true rfl) (by decide) (kb_X5_isForm (fun c => ?_) (fun c => ?_))
    · have H := H.1 c
      show RR 0 3 mX5_sheet 11 [(0, .ref 0), (1, .int x1), (2, .int x2), (3, .int x3)] [.int 1] σ _
      refine RR.brF dX5_sheet_11 rfl (by decide) ?_
      refine RR.s2 (pc' := 15) (lv' := [(0, .ref 0), (1, .int x1), (2, .int x2), (3, .int x3)]) (st' := [.int x3]) dX5_sheet_14 rfl ?_
      refine RR.bp (v := 60) dX5_sheet_15 (by decide) ?_
      refine RR.br dX5_sheet_17 rfl (fun c => ?_) (fun c => ?_)
      · have H := H.1 c
        refine RR.s2 (pc' := 24) (lv' := [(0, .ref 0), (1, .int x1), (2, .int x2), (3, .int x3)]) (st' := [.int x3]) dX5_sheet_23 rfl ?_
        refine RR.br dX5_sheet_24 rfl (fun c => ?_) (fun c => ?_)
        · have H := H.1 c
          refine RR.s2 (pc' := 34) (lv' := [(0, .ref 0), (1, .int x1), (2, .int x2), (3, .int x3)]) (st' := [.ref 0]) dX5_sheet_33 rfl ?_
          refine RR.getR dX5_sheet_34 fl_X5_62 rfl rfl ?_
          refine RR.s2 (pc' := 38) (lv' := [(0, .ref 0), (1, .int x1), (2, .int x2), (3, .int x3)]) (st' := [.int x1, .ref 50]) dX5_sheet_37 rfl ?_
          obtain ⟨j1, e2, b3, H⟩ := H
          refine RR.aald dX5_sheet_38 rfl e2 b3 (shx b3) ?_
          refine RR.s2 (pc' := 40) (lv' := [(0, .ref 0), (1, .int x1), (2, .int x2), (3, .int x3)]) (st' := [.int x2, .ref (51 + 2 * j1)]) dX5_sheet_39 rfl ?_
          refine RR.s2 (pc' := 41) (lv' := [(0, .ref 0), (1, .int x1), (2, .int x2), (3, .int x3)]) (st' := [.int x3, .int x2, .ref (51 + 2 * j1)]) dX5_sheet_40 rfl ?_
          refine RR.cV dX5_sheet_41 ml_X5_261 (isSheet_at b3).1 rfl (as := [.int x2, .int x3]) (rest := []) rfl rfl (Nat.le_of_ble_eq_true rfl) (Nat.le_of_ble_eq_true rfl) (by decide) (RR.toV H (fun s4 H => ?_))
          show RR 0 3 mX5_sheet 44 [(0, .ref 0), (1, .int x1), (2, .int x2), (3, .int x3)] [] s4 _
          refine RR.s2 (pc' := 45) (lv' := [(0, .ref 0), (1, .int x1), (2, .int x2), (3, .int x3)]) (st' := [.int x3]) dX5_sheet_44 rfl ?_
          exact RR.iret dX5_sheet_45 rfl ⟨_, rfl, H⟩
        · have H := H.2 c
          refine RR.s2 (pc' := 28) (lv' := [(0, .ref 0), (1, .int x1), (2, .int x2), (3, .int x3)]) (st' := [.ref 0]) dX5_sheet_27 rfl ?_
          refine RR.ic (v := 5) dX5_sheet_28 (by decide) ?_
          refine RR.cV (d' := 1) dX5_sheet_29 ml_X5_141 rfl rfl (as := [.int 5]) (rest := []) rfl rfl (Nat.le_of_ble_eq_true rfl) (Nat.le_of_ble_eq_true rfl) (by decide) ?_
          show RR 0 1 mX5_found 0 [(0, .ref 0), (1, .int 5)] [] σ _
          refine RR.s2 (pc' := 1) (lv' := [(0, .ref 0), (1, .int 5)]) (st' := [.ref 0]) dX5_found_0 rfl ?_
          refine RR.s2 (pc' := 2) (lv' := [(0, .ref 0), (1, .int 5)]) (st' := [.int 5, .ref 0]) dX5_found_1 rfl ?_
          refine RR.putI dX5_found_2 fp_X5_293 rfl rfl ?_
          refine RR.bp (v := (-10)) dX5_found_5 (by decide) ?_
          refine RR.s2 (pc' := 8) (lv' := [(0, .ref 0), (1, .int 5)]) (st' := [.int 5, .int (-10)]) dX5_found_7 rfl ?_
          refine RR.s2 (pc' := 9) (lv' := [(0, .ref 0), (1, .int 5)]) (st' := [.int ((-10) - 5)]) dX5_found_8 rfl ?_
          refine RR.iret dX5_found_9 rfl ?_
          show RR 0 3 mX5_sheet 32 [(0, .ref 0), (1, .int x1), (2, .int x2), (3, .int x3)] [.int ((-10) - 5)] (wI σ 0 14 5) _
          exact RR.iret dX5_sheet_32 rfl ⟨_, rfl, H⟩
      · have H := H.2 c
        refine RR.bp (v := (-2)) dX5_sheet_20 (by decide) ?_
        exact RR.iret dX5_sheet_22 rfl ⟨_, rfl, H⟩
    · have H := H.2 c
      show RR 0 3 mX5_sheet 11 [(0, .ref 0), (1, .int x1), (2, .int x2), (3, .int x3)] [.int 0] σ _
      refine RR.brT dX5_sheet_11 rfl (by decide) ?_
      refine RR.bp (v := (-2)) dX5_sheet_20 (by decide) ?_
      exact RR.iret dX5_sheet_22 rfl ⟨_, rfl, H⟩
  · have H := H.2 c
    show RR 0 3 mX5_sheet 4 [(0, .ref 0), (1, .int x1), (2, .int x2), (3, .int x3)] [.int 0] σ _
    refine RR.brT dX5_sheet_4 rfl (by decide) ?_
    refine RR.bp (v := (-2)) dX5_sheet_20 (by decide) ?_
    exact RR.iret dX5_sheet_22 rfl ⟨_, rfl, H⟩
set_option maxRecDepth 20000 in
theorem b_X5_lose {σ : r_St} {K : Int32 → r_St → Prop} {x1 : Int32}  (H : (IN x1 0 3 → (∃ j1 : Nat, x1 = nI j1 ∧ j1 < 4 ∧ ((¬ σ.1 (51 + 2 * j1) 1 = (-1) → (∃ j4 : Nat, x1 = nI j4 ∧ j4 < 4 ∧ M_X4_tear (51 + 2 * j4) σ (fun v8 s7 => K v8 s7))) ∧ (σ.1 (51 + 2 * j1) 1 = (-1) → K ((-10) - 1) (wI σ 0 14 1))))) ∧ (¬ IN x1 0 3 → K (-2) σ)) : M_X5_lose σ K x1 := by
  show RR 0 3 mX5_lose 0 [(0, .ref 0), (1, .int x1)] [] σ (rI K)
  refine RR.s2 (pc' := 1) (lv' := [(0, .ref 0), (1, .int x1)]) (st' := [.int x1]) dX5_lose_0 rfl ?_
  refine RR.cS dX5_lose_1 ml_X5_134 (as := [.int x1]) (rest := []) rfl rfl (Nat.le_of_ble_eq_true rfl) (Nat.le_of_ble_eq_true rfl) (by decide) (kb_X5_isSheet (fun c => ?_) (fun c => ?_))
  · have H := H.1 c
    show RR 0 3 mX5_lose 4 [(0, .ref 0), (1, .int x1)] [.int 1] σ _
    refine RR.brT dX5_lose_4 rfl (by decide) ?_
    refine RR.s2 (pc' := 11) (lv' := [(0, .ref 0), (1, .int x1)]) (st' := [.ref 0]) dX5_lose_10 rfl ?_
    refine RR.getR dX5_lose_11 fl_X5_62 rfl rfl ?_
    refine RR.s2 (pc' := 15) (lv' := [(0, .ref 0), (1, .int x1)]) (st' := [.int x1, .ref 50]) dX5_lose_14 rfl ?_
    obtain ⟨j1, e2, b3, H⟩ := H
    refine RR.aald dX5_lose_15 rfl e2 b3 (shx b3) ?_
    refine RR.cV (d' := 1) dX5_lose_16 ml_X5_137 (isSheet_at b3).1 rfl (as := []) (rest := []) rfl rfl (Nat.le_of_ble_eq_true rfl) (Nat.le_of_ble_eq_true rfl) (by decide) ?_
    show RR 0 1 mX4_isLost 0 [(0, .ref (51 + 2 * j1))] [] σ _
    refine RR.s2 (pc' := 1) (lv' := [(0, .ref (51 + 2 * j1))]) (st' := [.ref (51 + 2 * j1)]) dX4_isLost_0 rfl ?_
    refine RR.getI dX4_isLost_1 fl_X4_15 (isSheet_at b3).1 rfl ?_
    refine RR.ic (v := (-1)) dX4_isLost_4 (by decide) ?_
    refine RR.br dX4_isLost_5 rfl (fun c => ?_) (fun c => ?_)
    · have H := H.1 c
      refine RR.ic (v := 0) dX4_isLost_12 (by decide) ?_
      refine RR.zret dX4_isLost_13 rfl (by decide) ?_
      show RR 0 3 mX5_lose 19 [(0, .ref 0), (1, .int x1)] [.int 0] σ _
      refine RR.brT dX5_lose_19 rfl (by decide) ?_
      refine RR.s2 (pc' := 29) (lv' := [(0, .ref 0), (1, .int x1)]) (st' := [.ref 0]) dX5_lose_28 rfl ?_
      refine RR.getR dX5_lose_29 fl_X5_62 rfl rfl ?_
      refine RR.s2 (pc' := 33) (lv' := [(0, .ref 0), (1, .int x1)]) (st' := [.int x1, .ref 50]) dX5_lose_32 rfl ?_
      obtain ⟨j4, e5, b6, H⟩ := H
      refine RR.aald dX5_lose_33 rfl e5 b6 (shx b6) ?_
      refine RR.cV dX5_lose_34 ml_X5_265 (isSheet_at b6).1 rfl (as := []) (rest := []) rfl rfl (Nat.le_of_ble_eq_true rfl) (Nat.le_of_ble_eq_true rfl) (by decide) (RR.toI H (fun v8 s7 H => ?_))
      show RR 0 3 mX5_lose 37 [(0, .ref 0), (1, .int x1)] [.int v8] s7 _
      exact RR.iret dX5_lose_37 rfl ⟨_, rfl, H⟩
    · have H := H.2 (Classical.not_not.mp c)
      refine RR.ic (v := 1) dX4_isLost_8 (by decide) ?_
      refine RR.s2 (pc' := 13) (lv' := [(0, .ref (51 + 2 * j1))]) (st' := [.int 1]) dX4_isLost_9 rfl ?_
      refine RR.zret dX4_isLost_13 rfl (by decide) ?_
      show RR 0 3 mX5_lose 19 [(0, .ref 0), (1, .int x1)] [.int 1] σ _
      refine RR.brF dX5_lose_19 rfl (by decide) ?_
      refine RR.s2 (pc' := 23) (lv' := [(0, .ref 0), (1, .int x1)]) (st' := [.ref 0]) dX5_lose_22 rfl ?_
      refine RR.ic (v := 1) dX5_lose_23 (by decide) ?_
      refine RR.cV (d' := 1) dX5_lose_24 ml_X5_141 rfl rfl (as := [.int 1]) (rest := []) rfl rfl (Nat.le_of_ble_eq_true rfl) (Nat.le_of_ble_eq_true rfl) (by decide) ?_
      show RR 0 1 mX5_found 0 [(0, .ref 0), (1, .int 1)] [] σ _
      refine RR.s2 (pc' := 1) (lv' := [(0, .ref 0), (1, .int 1)]) (st' := [.ref 0]) dX5_found_0 rfl ?_
      refine RR.s2 (pc' := 2) (lv' := [(0, .ref 0), (1, .int 1)]) (st' := [.int 1, .ref 0]) dX5_found_1 rfl ?_
      refine RR.putI dX5_found_2 fp_X5_293 rfl rfl ?_
      refine RR.bp (v := (-10)) dX5_found_5 (by decide) ?_
      refine RR.s2 (pc' := 8) (lv' := [(0, .ref 0), (1, .int 1)]) (st' := [.int 1, .int (-10)]) dX5_found_7 rfl ?_
      refine RR.s2 (pc' := 9) (lv' := [(0, .ref 0), (1, .int 1)]) (st' := [.int ((-10) - 1)]) dX5_found_8 rfl ?_
      refine RR.iret dX5_found_9 rfl ?_
      show RR 0 3 mX5_lose 27 [(0, .ref 0), (1, .int x1)] [.int ((-10) - 1)] (wI σ 0 14 1) _
      exact RR.iret dX5_lose_27 rfl ⟨_, rfl, H⟩
  · have H := H.2 c
    show RR 0 3 mX5_lose 4 [(0, .ref 0), (1, .int x1)] [.int 0] σ _
    refine RR.brF dX5_lose_4 rfl (by decide) ?_
    refine RR.bp (v := (-2)) dX5_lose_7 (by decide) ?_
    exact RR.iret dX5_lose_9 rfl ⟨_, rfl, H⟩
set_option maxRecDepth 20000 in
theorem b_X5_put {σ : r_St} {K : Int32 → r_St → Prop} {x1 : Int32} {x2 : Int32} {x3 : Int32} {x4 : Int32}  (H : (IN x1 0 3 → ((IN x2 0 2 → (∃ j1 : Nat, x1 = nI j1 ∧ j1 < 4 ∧ (M_X5_itemFinding (51 + 2 * j1) σ (fun v5 s4 => (v5 = 0 → (∃ j6 : Nat, x1 = nI j6 ∧ j6 < 4 ∧ M_X4_keep (51 + 2 * j6) s4 (fun s9 => K 1 s9) x3 x4)) ∧ (¬ (v5 = 0) → K ((-10) - v5) (wI s4 0 14 v5))) x2 x3))) ∧ (¬ IN x2 0 2 → K (-2) σ))) ∧ (¬ IN x1 0 3 → K (-2) σ)) : M_X5_put σ K x1 x2 x3 x4 := by
  show RR 0 3 mX5_put 0 [(0, .ref 0), (1, .int x1), (2, .int x2), (3, .int x3), (4, .int x4)] [] σ (rI K)
  refine RR.s2 (pc' := 1) (lv' := [(0, .ref 0), (1, .int x1), (2, .int x2), (3, .int x3), (4, .int x4)]) (st' := [.int x1]) dX5_put_0 rfl ?_
  refine RR.cS dX5_put_1 ml_X5_134 (as := [.int x1]) (rest := []) rfl rfl (Nat.le_of_ble_eq_true rfl) (Nat.le_of_ble_eq_true rfl) (by decide) (kb_X5_isSheet (fun c => ?_) (fun c => ?_))
  · have H := H.1 c
    show RR 0 3 mX5_put 4 [(0, .ref 0), (1, .int x1), (2, .int x2), (3, .int x3), (4, .int x4)] [.int 1] σ _
    refine RR.brF dX5_put_4 rfl (by decide) ?_
    refine RR.s2 (pc' := 8) (lv' := [(0, .ref 0), (1, .int x1), (2, .int x2), (3, .int x3), (4, .int x4)]) (st' := [.int x2]) dX5_put_7 rfl ?_
    refine RR.cS dX5_put_8 ml_X5_258 (as := [.int x2]) (rest := []) rfl rfl (Nat.le_of_ble_eq_true rfl) (Nat.le_of_ble_eq_true rfl) (by decide) (kb_X5_isForm (fun c => ?_) (fun c => ?_))
    · have H := H.1 c
      show RR 0 3 mX5_put 11 [(0, .ref 0), (1, .int x1), (2, .int x2), (3, .int x3), (4, .int x4)] [.int 1] σ _
      refine RR.brT dX5_put_11 rfl (by decide) ?_
      refine RR.s2 (pc' := 18) (lv' := [(0, .ref 0), (1, .int x1), (2, .int x2), (3, .int x3), (4, .int x4)]) (st' := [.ref 0]) dX5_put_17 rfl ?_
      refine RR.getR dX5_put_18 fl_X5_62 rfl rfl ?_
      refine RR.s2 (pc' := 22) (lv' := [(0, .ref 0), (1, .int x1), (2, .int x2), (3, .int x3), (4, .int x4)]) (st' := [.int x1, .ref 50]) dX5_put_21 rfl ?_
      obtain ⟨j1, e2, b3, H⟩ := H
      refine RR.aald dX5_put_22 rfl e2 b3 (shx b3) ?_
      refine RR.s2 (pc' := 24) (lv' := [(0, .ref 0), (1, .int x1), (2, .int x2), (3, .int x3), (4, .int x4)]) (st' := [.int x2, .ref (51 + 2 * j1)]) dX5_put_23 rfl ?_
      refine RR.s2 (pc' := 25) (lv' := [(0, .ref 0), (1, .int x1), (2, .int x2), (3, .int x3), (4, .int x4)]) (st' := [.int x3, .int x2, .ref (51 + 2 * j1)]) dX5_put_24 rfl ?_
      refine RR.cS dX5_put_25 ml_X5_268 (as := [.ref (51 + 2 * j1), .int x2, .int x3]) (rest := []) rfl rfl (Nat.le_of_ble_eq_true rfl) (Nat.le_of_ble_eq_true rfl) (by decide) (RR.toI H (fun v5 s4 H => ?_))
      show RR 0 3 mX5_put 28 [(0, .ref 0), (1, .int x1), (2, .int x2), (3, .int x3), (4, .int x4)] [.int v5] s4 _
      refine RR.s2 (pc' := 30) (lv' := [(0, .ref 0), (1, .int x1), (2, .int x2), (3, .int x3), (4, .int x4), (5, .int v5)]) (st' := []) dX5_put_28 rfl ?_
      refine RR.s2 (pc' := 32) (lv' := [(0, .ref 0), (1, .int x1), (2, .int x2), (3, .int x3), (4, .int x4), (5, .int v5)]) (st' := [.int v5]) dX5_put_30 rfl ?_
      refine RR.br dX5_put_32 rfl (fun c => ?_) (fun c => ?_)
      · have H := H.1 c
        refine RR.s2 (pc' := 43) (lv' := [(0, .ref 0), (1, .int x1), (2, .int x2), (3, .int x3), (4, .int x4), (5, .int v5)]) (st' := [.ref 0]) dX5_put_42 rfl ?_
        refine RR.getR dX5_put_43 fl_X5_62 rfl rfl ?_
        refine RR.s2 (pc' := 47) (lv' := [(0, .ref 0), (1, .int x1), (2, .int x2), (3, .int x3), (4, .int x4), (5, .int v5)]) (st' := [.int x1, .ref 50]) dX5_put_46 rfl ?_
        obtain ⟨j6, e7, b8, H⟩ := H
        refine RR.aald dX5_put_47 rfl e7 b8 (shx b8) ?_
        refine RR.s2 (pc' := 49) (lv' := [(0, .ref 0), (1, .int x1), (2, .int x2), (3, .int x3), (4, .int x4), (5, .int v5)]) (st' := [.int x3, .ref (51 + 2 * j6)]) dX5_put_48 rfl ?_
        refine RR.s2 (pc' := 51) (lv' := [(0, .ref 0), (1, .int x1), (2, .int x2), (3, .int x3), (4, .int x4), (5, .int v5)]) (st' := [.int x4, .int x3, .ref (51 + 2 * j6)]) dX5_put_49 rfl ?_
        refine RR.cV dX5_put_51 ml_X5_272 (isSheet_at b8).1 rfl (as := [.int x3, .int x4]) (rest := []) rfl rfl (Nat.le_of_ble_eq_true rfl) (Nat.le_of_ble_eq_true rfl) (by decide) (RR.toV H (fun s9 H => ?_))
        show RR 0 3 mX5_put 54 [(0, .ref 0), (1, .int x1), (2, .int x2), (3, .int x3), (4, .int x4), (5, .int v5)] [] s9 _
        refine RR.ic (v := 1) dX5_put_54 (by decide) ?_
        exact RR.iret dX5_put_55 rfl ⟨_, rfl, H⟩
      · have H := H.2 c
        refine RR.s2 (pc' := 36) (lv' := [(0, .ref 0), (1, .int x1), (2, .int x2), (3, .int x3), (4, .int x4), (5, .int v5)]) (st' := [.ref 0]) dX5_put_35 rfl ?_
        refine RR.s2 (pc' := 38) (lv' := [(0, .ref 0), (1, .int x1), (2, .int x2), (3, .int x3), (4, .int x4), (5, .int v5)]) (st' := [.int v5, .ref 0]) dX5_put_36 rfl ?_
        refine RR.cV (d' := 1) dX5_put_38 ml_X5_141 rfl rfl (as := [.int v5]) (rest := []) rfl rfl (Nat.le_of_ble_eq_true rfl) (Nat.le_of_ble_eq_true rfl) (by decide) ?_
        show RR 0 1 mX5_found 0 [(0, .ref 0), (1, .int v5)] [] s4 _
        refine RR.s2 (pc' := 1) (lv' := [(0, .ref 0), (1, .int v5)]) (st' := [.ref 0]) dX5_found_0 rfl ?_
        refine RR.s2 (pc' := 2) (lv' := [(0, .ref 0), (1, .int v5)]) (st' := [.int v5, .ref 0]) dX5_found_1 rfl ?_
        refine RR.putI dX5_found_2 fp_X5_293 rfl rfl ?_
        refine RR.bp (v := (-10)) dX5_found_5 (by decide) ?_
        refine RR.s2 (pc' := 8) (lv' := [(0, .ref 0), (1, .int v5)]) (st' := [.int v5, .int (-10)]) dX5_found_7 rfl ?_
        refine RR.s2 (pc' := 9) (lv' := [(0, .ref 0), (1, .int v5)]) (st' := [.int ((-10) - v5)]) dX5_found_8 rfl ?_
        refine RR.iret dX5_found_9 rfl ?_
        show RR 0 3 mX5_put 41 [(0, .ref 0), (1, .int x1), (2, .int x2), (3, .int x3), (4, .int x4), (5, .int v5)] [.int ((-10) - v5)] (wI s4 0 14 v5) _
        exact RR.iret dX5_put_41 rfl ⟨_, rfl, H⟩
    · have H := H.2 c
      show RR 0 3 mX5_put 11 [(0, .ref 0), (1, .int x1), (2, .int x2), (3, .int x3), (4, .int x4)] [.int 0] σ _
      refine RR.brF dX5_put_11 rfl (by decide) ?_
      refine RR.bp (v := (-2)) dX5_put_14 (by decide) ?_
      exact RR.iret dX5_put_16 rfl ⟨_, rfl, H⟩
  · have H := H.2 c
    show RR 0 3 mX5_put 4 [(0, .ref 0), (1, .int x1), (2, .int x2), (3, .int x3), (4, .int x4)] [.int 0] σ _
    refine RR.brT dX5_put_4 rfl (by decide) ?_
    refine RR.bp (v := (-2)) dX5_put_14 (by decide) ?_
    exact RR.iret dX5_put_16 rfl ⟨_, rfl, H⟩
set_option maxRecDepth 20000 in
theorem b_X5_get {σ : r_St} {K : Int32 → r_St → Prop} {x1 : Int32} {x2 : Int32} {x3 : Int32}  (H : (IN x1 0 3 → ((IN x2 0 2 → (∃ j1 : Nat, x1 = nI j1 ∧ j1 < 4 ∧ (M_X5_itemFinding (51 + 2 * j1) σ (fun v5 s4 => (v5 = 0 → (∃ j6 : Nat, x1 = nI j6 ∧ j6 < 4 ∧ M_X4_item (51 + 2 * j6) s4 (fun v10 s9 => K v10 s9) x3)) ∧ (¬ (v5 = 0) → K (-2147483648) (wI s4 0 14 v5))) x2 x3))) ∧ (¬ IN x2 0 2 → K (-2147483648) σ))) ∧ (¬ IN x1 0 3 → K (-2147483648) σ)) : M_X5_get σ K x1 x2 x3 := by
  show RR 0 3 mX5_get 0 [(0, .ref 0), (1, .int x1), (2, .int x2), (3, .int x3)] [] σ (rI K)
  refine RR.s2 (pc' := 1) (lv' := [(0, .ref 0), (1, .int x1), (2, .int x2), (3, .int x3)]) (st' := [.int x1]) dX5_get_0 rfl ?_
  refine RR.cS dX5_get_1 ml_X5_134 (as := [.int x1]) (rest := []) rfl rfl (Nat.le_of_ble_eq_true rfl) (Nat.le_of_ble_eq_true rfl) (by decide) (kb_X5_isSheet (fun c => ?_) (fun c => ?_))
  · have H := H.1 c
    show RR 0 3 mX5_get 4 [(0, .ref 0), (1, .int x1), (2, .int x2), (3, .int x3)] [.int 1] σ _
    refine RR.brF dX5_get_4 rfl (by decide) ?_
    refine RR.s2 (pc' := 8) (lv' := [(0, .ref 0), (1, .int x1), (2, .int x2), (3, .int x3)]) (st' := [.int x2]) dX5_get_7 rfl ?_
    refine RR.cS dX5_get_8 ml_X5_258 (as := [.int x2]) (rest := []) rfl rfl (Nat.le_of_ble_eq_true rfl) (Nat.le_of_ble_eq_true rfl) (by decide) (kb_X5_isForm (fun c => ?_) (fun c => ?_))
    · have H := H.1 c
      show RR 0 3 mX5_get 11 [(0, .ref 0), (1, .int x1), (2, .int x2), (3, .int x3)] [.int 1] σ _
      refine RR.brT dX5_get_11 rfl (by decide) ?_
      refine RR.s2 (pc' := 19) (lv' := [(0, .ref 0), (1, .int x1), (2, .int x2), (3, .int x3)]) (st' := [.ref 0]) dX5_get_18 rfl ?_
      refine RR.getR dX5_get_19 fl_X5_62 rfl rfl ?_
      refine RR.s2 (pc' := 23) (lv' := [(0, .ref 0), (1, .int x1), (2, .int x2), (3, .int x3)]) (st' := [.int x1, .ref 50]) dX5_get_22 rfl ?_
      obtain ⟨j1, e2, b3, H⟩ := H
      refine RR.aald dX5_get_23 rfl e2 b3 (shx b3) ?_
      refine RR.s2 (pc' := 25) (lv' := [(0, .ref 0), (1, .int x1), (2, .int x2), (3, .int x3)]) (st' := [.int x2, .ref (51 + 2 * j1)]) dX5_get_24 rfl ?_
      refine RR.s2 (pc' := 26) (lv' := [(0, .ref 0), (1, .int x1), (2, .int x2), (3, .int x3)]) (st' := [.int x3, .int x2, .ref (51 + 2 * j1)]) dX5_get_25 rfl ?_
      refine RR.cS dX5_get_26 ml_X5_268 (as := [.ref (51 + 2 * j1), .int x2, .int x3]) (rest := []) rfl rfl (Nat.le_of_ble_eq_true rfl) (Nat.le_of_ble_eq_true rfl) (by decide) (RR.toI H (fun v5 s4 H => ?_))
      show RR 0 3 mX5_get 29 [(0, .ref 0), (1, .int x1), (2, .int x2), (3, .int x3)] [.int v5] s4 _
      refine RR.s2 (pc' := 31) (lv' := [(0, .ref 0), (1, .int x1), (2, .int x2), (3, .int x3), (4, .int v5)]) (st' := []) dX5_get_29 rfl ?_
      refine RR.s2 (pc' := 33) (lv' := [(0, .ref 0), (1, .int x1), (2, .int x2), (3, .int x3), (4, .int v5)]) (st' := [.int v5]) dX5_get_31 rfl ?_
      refine RR.br dX5_get_33 rfl (fun c => ?_) (fun c => ?_)
      · have H := H.1 c
        refine RR.s2 (pc' := 48) (lv' := [(0, .ref 0), (1, .int x1), (2, .int x2), (3, .int x3), (4, .int v5)]) (st' := [.ref 0]) dX5_get_47 rfl ?_
        refine RR.getR dX5_get_48 fl_X5_62 rfl rfl ?_
        refine RR.s2 (pc' := 52) (lv' := [(0, .ref 0), (1, .int x1), (2, .int x2), (3, .int x3), (4, .int v5)]) (st' := [.int x1, .ref 50]) dX5_get_51 rfl ?_
        obtain ⟨j6, e7, b8, H⟩ := H
        refine RR.aald dX5_get_52 rfl e7 b8 (shx b8) ?_
        refine RR.s2 (pc' := 54) (lv' := [(0, .ref 0), (1, .int x1), (2, .int x2), (3, .int x3), (4, .int v5)]) (st' := [.int x3, .ref (51 + 2 * j6)]) dX5_get_53 rfl ?_
        refine RR.cV dX5_get_54 ml_X5_147 (isSheet_at b8).1 rfl (as := [.int x3]) (rest := []) rfl rfl (Nat.le_of_ble_eq_true rfl) (Nat.le_of_ble_eq_true rfl) (by decide) (RR.toI H (fun v10 s9 H => ?_))
        show RR 0 3 mX5_get 57 [(0, .ref 0), (1, .int x1), (2, .int x2), (3, .int x3), (4, .int v5)] [.int v10] s9 _
        exact RR.iret dX5_get_57 rfl ⟨_, rfl, H⟩
      · have H := H.2 c
        refine RR.s2 (pc' := 37) (lv' := [(0, .ref 0), (1, .int x1), (2, .int x2), (3, .int x3), (4, .int v5)]) (st' := [.ref 0]) dX5_get_36 rfl ?_
        refine RR.s2 (pc' := 39) (lv' := [(0, .ref 0), (1, .int x1), (2, .int x2), (3, .int x3), (4, .int v5)]) (st' := [.int v5, .ref 0]) dX5_get_37 rfl ?_
        refine RR.cV (d' := 1) dX5_get_39 ml_X5_141 rfl rfl (as := [.int v5]) (rest := []) rfl rfl (Nat.le_of_ble_eq_true rfl) (Nat.le_of_ble_eq_true rfl) (by decide) ?_
        show RR 0 1 mX5_found 0 [(0, .ref 0), (1, .int v5)] [] s4 _
        refine RR.s2 (pc' := 1) (lv' := [(0, .ref 0), (1, .int v5)]) (st' := [.ref 0]) dX5_found_0 rfl ?_
        refine RR.s2 (pc' := 2) (lv' := [(0, .ref 0), (1, .int v5)]) (st' := [.int v5, .ref 0]) dX5_found_1 rfl ?_
        refine RR.putI dX5_found_2 fp_X5_293 rfl rfl ?_
        refine RR.bp (v := (-10)) dX5_found_5 (by decide) ?_
        refine RR.s2 (pc' := 8) (lv' := [(0, .ref 0), (1, .int v5)]) (st' := [.int v5, .int (-10)]) dX5_found_7 rfl ?_
        refine RR.s2 (pc' := 9) (lv' := [(0, .ref 0), (1, .int v5)]) (st' := [.int ((-10) - v5)]) dX5_found_8 rfl ?_
        refine RR.iret dX5_found_9 rfl ?_
        show RR 0 3 mX5_get 42 [(0, .ref 0), (1, .int x1), (2, .int x2), (3, .int x3), (4, .int v5)] [.int ((-10) - v5)] (wI s4 0 14 v5) _
        refine RR.s2 (pc' := 43) (lv' := [(0, .ref 0), (1, .int x1), (2, .int x2), (3, .int x3), (4, .int v5)]) (st' := []) dX5_get_42 rfl ?_
        refine RR.ldcw dX5_get_43 pw_w746 ?_
        exact RR.iret dX5_get_46 rfl ⟨_, rfl, H⟩
    · have H := H.2 c
      show RR 0 3 mX5_get 11 [(0, .ref 0), (1, .int x1), (2, .int x2), (3, .int x3)] [.int 0] σ _
      refine RR.brF dX5_get_11 rfl (by decide) ?_
      refine RR.ldcw dX5_get_14 pw_w746 ?_
      exact RR.iret dX5_get_17 rfl ⟨_, rfl, H⟩
  · have H := H.2 c
    show RR 0 3 mX5_get 4 [(0, .ref 0), (1, .int x1), (2, .int x2), (3, .int x3)] [.int 0] σ _
    refine RR.brT dX5_get_4 rfl (by decide) ?_
    refine RR.ldcw dX5_get_14 pw_w746 ?_
    exact RR.iret dX5_get_17 rfl ⟨_, rfl, H⟩
set_option maxRecDepth 20000 in
theorem b_X5_copy {σ : r_St} {K : Int32 → r_St → Prop} {x1 : Int32} {x2 : Int32} {x3 : Int32} {x4 : Int32} {x5 : Int32}  (H : (IN x1 0 3 → ((IN x3 0 3 → (∃ j1 : Nat, x1 = nI j1 ∧ j1 < 4 ∧ (∃ j4 : Nat, x3 = nI j4 ∧ j4 < 4 ∧ ((¬ σ.1 (51 + 2 * j1) 1 = (-1) → ((¬ σ.1 (51 + 2 * j4) 1 = (-1) → ((σ.1 (51 + 2 * j1) 1 = σ.1 (51 + 2 * j4) 1 → (M_X4_hasRange (51 + 2 * j1) σ (fun v8 s7 => (v8 = 0 → K ((-10) - 2) (wI s7 0 14 2)) ∧ (¬ (v8 = 0) → (M_X4_hasRange (51 + 2 * j4) s7 (fun v10 s9 => (¬ v10 = 0 → M_X4_takeItems (51 + 2 * j4) (51 + 2 * j1) s9 (fun s11 => K 1 s11) x4 x2 x5) ∧ (v10 = 0 → K ((-10) - 2) (wI s9 0 14 2))) x4 x5))) x2 x5)) ∧ (¬ (σ.1 (51 + 2 * j1) 1 = σ.1 (51 + 2 * j4) 1) → K ((-10) - 4) (wI σ 0 14 4)))) ∧ (σ.1 (51 + 2 * j4) 1 = (-1) → K ((-10) - 1) (wI σ 0 14 1)))) ∧ (σ.1 (51 + 2 * j1) 1 = (-1) → K ((-10) - 1) (wI σ 0 14 1)))))) ∧ (¬ IN x3 0 3 → K (-2) σ))) ∧ (¬ IN x1 0 3 → K (-2) σ)) : M_X5_copy σ K x1 x2 x3 x4 x5 := by
  show RR 0 3 mX5_copy 0 [(0, .ref 0), (1, .int x1), (2, .int x2), (3, .int x3), (4, .int x4), (5, .int x5)] [] σ (rI K)
  refine RR.s2 (pc' := 1) (lv' := [(0, .ref 0), (1, .int x1), (2, .int x2), (3, .int x3), (4, .int x4), (5, .int x5)]) (st' := [.int x1]) dX5_copy_0 rfl ?_
  refine RR.cS dX5_copy_1 ml_X5_134 (as := [.int x1]) (rest := []) rfl rfl (Nat.le_of_ble_eq_true rfl) (Nat.le_of_ble_eq_true rfl) (by decide) (kb_X5_isSheet (fun c => ?_) (fun c => ?_))
  · have H := H.1 c
    show RR 0 3 mX5_copy 4 [(0, .ref 0), (1, .int x1), (2, .int x2), (3, .int x3), (4, .int x4), (5, .int x5)] [.int 1] σ _
    refine RR.brF dX5_copy_4 rfl (by decide) ?_
    refine RR.s2 (pc' := 8) (lv' := [(0, .ref 0), (1, .int x1), (2, .int x2), (3, .int x3), (4, .int x4), (5, .int x5)]) (st' := [.int x3]) dX5_copy_7 rfl ?_
    refine RR.cS dX5_copy_8 ml_X5_134 (as := [.int x3]) (rest := []) rfl rfl (Nat.le_of_ble_eq_true rfl) (Nat.le_of_ble_eq_true rfl) (by decide) (kb_X5_isSheet (fun c => ?_) (fun c => ?_))
    · have H := H.1 c
      show RR 0 3 mX5_copy 11 [(0, .ref 0), (1, .int x1), (2, .int x2), (3, .int x3), (4, .int x4), (5, .int x5)] [.int 1] σ _
      refine RR.brT dX5_copy_11 rfl (by decide) ?_
      refine RR.s2 (pc' := 18) (lv' := [(0, .ref 0), (1, .int x1), (2, .int x2), (3, .int x3), (4, .int x4), (5, .int x5)]) (st' := [.ref 0]) dX5_copy_17 rfl ?_
      refine RR.getR dX5_copy_18 fl_X5_62 rfl rfl ?_
      refine RR.s2 (pc' := 22) (lv' := [(0, .ref 0), (1, .int x1), (2, .int x2), (3, .int x3), (4, .int x4), (5, .int x5)]) (st' := [.int x1, .ref 50]) dX5_copy_21 rfl ?_
      obtain ⟨j1, e2, b3, H⟩ := H
      refine RR.aald dX5_copy_22 rfl e2 b3 (shx b3) ?_
      refine RR.s2 (pc' := 25) (lv' := [(0, .ref 0), (1, .int x1), (2, .int x2), (3, .int x3), (4, .int x4), (5, .int x5), (6, .ref (51 + 2 * j1))]) (st' := []) dX5_copy_23 rfl ?_
      refine RR.s2 (pc' := 26) (lv' := [(0, .ref 0), (1, .int x1), (2, .int x2), (3, .int x3), (4, .int x4), (5, .int x5), (6, .ref (51 + 2 * j1))]) (st' := [.ref 0]) dX5_copy_25 rfl ?_
      refine RR.getR dX5_copy_26 fl_X5_62 rfl rfl ?_
      refine RR.s2 (pc' := 30) (lv' := [(0, .ref 0), (1, .int x1), (2, .int x2), (3, .int x3), (4, .int x4), (5, .int x5), (6, .ref (51 + 2 * j1))]) (st' := [.int x3, .ref 50]) dX5_copy_29 rfl ?_
      obtain ⟨j4, e5, b6, H⟩ := H
      refine RR.aald dX5_copy_30 rfl e5 b6 (shx b6) ?_
      refine RR.s2 (pc' := 33) (lv' := [(0, .ref 0), (1, .int x1), (2, .int x2), (3, .int x3), (4, .int x4), (5, .int x5), (6, .ref (51 + 2 * j1)), (7, .ref (51 + 2 * j4))]) (st' := []) dX5_copy_31 rfl ?_
      refine RR.s2 (pc' := 35) (lv' := [(0, .ref 0), (1, .int x1), (2, .int x2), (3, .int x3), (4, .int x4), (5, .int x5), (6, .ref (51 + 2 * j1)), (7, .ref (51 + 2 * j4))]) (st' := [.ref (51 + 2 * j1)]) dX5_copy_33 rfl ?_
      refine RR.cV (d' := 1) dX5_copy_35 ml_X5_137 (isSheet_at b3).1 rfl (as := []) (rest := []) rfl rfl (Nat.le_of_ble_eq_true rfl) (Nat.le_of_ble_eq_true rfl) (by decide) ?_
      show RR 0 1 mX4_isLost 0 [(0, .ref (51 + 2 * j1))] [] σ _
      refine RR.s2 (pc' := 1) (lv' := [(0, .ref (51 + 2 * j1))]) (st' := [.ref (51 + 2 * j1)]) dX4_isLost_0 rfl ?_
      refine RR.getI dX4_isLost_1 fl_X4_15 (isSheet_at b3).1 rfl ?_
      refine RR.ic (v := (-1)) dX4_isLost_4 (by decide) ?_
      refine RR.br dX4_isLost_5 rfl (fun c => ?_) (fun c => ?_)
      · have H := H.1 c
        refine RR.ic (v := 0) dX4_isLost_12 (by decide) ?_
        refine RR.zret dX4_isLost_13 rfl (by decide) ?_
        show RR 0 3 mX5_copy 38 [(0, .ref 0), (1, .int x1), (2, .int x2), (3, .int x3), (4, .int x4), (5, .int x5), (6, .ref (51 + 2 * j1)), (7, .ref (51 + 2 * j4))] [.int 0] σ _
        refine RR.brF dX5_copy_38 rfl (by decide) ?_
        refine RR.s2 (pc' := 43) (lv' := [(0, .ref 0), (1, .int x1), (2, .int x2), (3, .int x3), (4, .int x4), (5, .int x5), (6, .ref (51 + 2 * j1)), (7, .ref (51 + 2 * j4))]) (st' := [.ref (51 + 2 * j4)]) dX5_copy_41 rfl ?_
        refine RR.cV (d' := 1) dX5_copy_43 ml_X5_137 (isSheet_at b6).1 rfl (as := []) (rest := []) rfl rfl (Nat.le_of_ble_eq_true rfl) (Nat.le_of_ble_eq_true rfl) (by decide) ?_
        show RR 0 1 mX4_isLost 0 [(0, .ref (51 + 2 * j4))] [] σ _
        refine RR.s2 (pc' := 1) (lv' := [(0, .ref (51 + 2 * j4))]) (st' := [.ref (51 + 2 * j4)]) dX4_isLost_0 rfl ?_
        refine RR.getI dX4_isLost_1 fl_X4_15 (isSheet_at b6).1 rfl ?_
        refine RR.ic (v := (-1)) dX4_isLost_4 (by decide) ?_
        refine RR.br dX4_isLost_5 rfl (fun c => ?_) (fun c => ?_)
        · have H := H.1 c
          refine RR.ic (v := 0) dX4_isLost_12 (by decide) ?_
          refine RR.zret dX4_isLost_13 rfl (by decide) ?_
          show RR 0 3 mX5_copy 46 [(0, .ref 0), (1, .int x1), (2, .int x2), (3, .int x3), (4, .int x4), (5, .int x5), (6, .ref (51 + 2 * j1)), (7, .ref (51 + 2 * j4))] [.int 0] σ _
          refine RR.brT dX5_copy_46 rfl (by decide) ?_
          refine RR.s2 (pc' := 57) (lv' := [(0, .ref 0), (1, .int x1), (2, .int x2), (3, .int x3), (4, .int x4), (5, .int x5), (6, .ref (51 + 2 * j1)), (7, .ref (51 + 2 * j4))]) (st' := [.ref (51 + 2 * j1)]) dX5_copy_55 rfl ?_
          refine RR.cV (d' := 1) dX5_copy_57 ml_X5_276 (isSheet_at b3).1 rfl (as := []) (rest := []) rfl rfl (Nat.le_of_ble_eq_true rfl) (Nat.le_of_ble_eq_true rfl) (by decide) ?_
          show RR 0 1 mX4_form 0 [(0, .ref (51 + 2 * j1))] [] σ _
          refine RR.s2 (pc' := 1) (lv' := [(0, .ref (51 + 2 * j1))]) (st' := [.ref (51 + 2 * j1)]) dX4_form_0 rfl ?_
          refine RR.getI dX4_form_1 fl_X4_15 (isSheet_at b3).1 rfl ?_
          refine RR.iret dX4_form_4 rfl ?_
          show RR 0 3 mX5_copy 60 [(0, .ref 0), (1, .int x1), (2, .int x2), (3, .int x3), (4, .int x4), (5, .int x5), (6, .ref (51 + 2 * j1)), (7, .ref (51 + 2 * j4))] [.int (σ.1 (51 + 2 * j1) 1)] σ _
          refine RR.s2 (pc' := 62) (lv' := [(0, .ref 0), (1, .int x1), (2, .int x2), (3, .int x3), (4, .int x4), (5, .int x5), (6, .ref (51 + 2 * j1)), (7, .ref (51 + 2 * j4))]) (st' := [.ref (51 + 2 * j4), .int (σ.1 (51 + 2 * j1) 1)]) dX5_copy_60 rfl ?_
          refine RR.cV (d' := 1) dX5_copy_62 ml_X5_276 (isSheet_at b6).1 rfl (as := []) (rest := [.int (σ.1 (51 + 2 * j1) 1)]) rfl rfl (Nat.le_of_ble_eq_true rfl) (Nat.le_of_ble_eq_true rfl) (by decide) ?_
          show RR 0 1 mX4_form 0 [(0, .ref (51 + 2 * j4))] [] σ _
          refine RR.s2 (pc' := 1) (lv' := [(0, .ref (51 + 2 * j4))]) (st' := [.ref (51 + 2 * j4)]) dX4_form_0 rfl ?_
          refine RR.getI dX4_form_1 fl_X4_15 (isSheet_at b6).1 rfl ?_
          refine RR.iret dX4_form_4 rfl ?_
          show RR 0 3 mX5_copy 65 [(0, .ref 0), (1, .int x1), (2, .int x2), (3, .int x3), (4, .int x4), (5, .int x5), (6, .ref (51 + 2 * j1)), (7, .ref (51 + 2 * j4))] [.int (σ.1 (51 + 2 * j4) 1), .int (σ.1 (51 + 2 * j1) 1)] σ _
          refine RR.br dX5_copy_65 rfl (fun c => ?_) (fun c => ?_)
          · have H := H.1 c
            refine RR.s2 (pc' := 76) (lv' := [(0, .ref 0), (1, .int x1), (2, .int x2), (3, .int x3), (4, .int x4), (5, .int x5), (6, .ref (51 + 2 * j1)), (7, .ref (51 + 2 * j4))]) (st' := [.ref (51 + 2 * j1)]) dX5_copy_74 rfl ?_
            refine RR.s2 (pc' := 77) (lv' := [(0, .ref 0), (1, .int x1), (2, .int x2), (3, .int x3), (4, .int x4), (5, .int x5), (6, .ref (51 + 2 * j1)), (7, .ref (51 + 2 * j4))]) (st' := [.int x2, .ref (51 + 2 * j1)]) dX5_copy_76 rfl ?_
            refine RR.s2 (pc' := 79) (lv' := [(0, .ref 0), (1, .int x1), (2, .int x2), (3, .int x3), (4, .int x4), (5, .int x5), (6, .ref (51 + 2 * j1)), (7, .ref (51 + 2 * j4))]) (st' := [.int x5, .int x2, .ref (51 + 2 * j1)]) dX5_copy_77 rfl ?_
            refine RR.cV dX5_copy_79 ml_X5_279 (isSheet_at b3).1 rfl (as := [.int x2, .int x5]) (rest := []) rfl rfl (Nat.le_of_ble_eq_true rfl) (Nat.le_of_ble_eq_true rfl) (by decide) (RR.toI H (fun v8 s7 H => ?_))
            show RR 0 3 mX5_copy 82 [(0, .ref 0), (1, .int x1), (2, .int x2), (3, .int x3), (4, .int x4), (5, .int x5), (6, .ref (51 + 2 * j1)), (7, .ref (51 + 2 * j4))] [.int v8] s7 _
            refine RR.br dX5_copy_82 rfl (fun c => ?_) (fun c => ?_)
            · have H := H.1 c
              refine RR.s2 (pc' := 98) (lv' := [(0, .ref 0), (1, .int x1), (2, .int x2), (3, .int x3), (4, .int x4), (5, .int x5), (6, .ref (51 + 2 * j1)), (7, .ref (51 + 2 * j4))]) (st' := [.ref 0]) dX5_copy_97 rfl ?_
              refine RR.ic (v := 2) dX5_copy_98 (by decide) ?_
              refine RR.cV (d' := 1) dX5_copy_99 ml_X5_141 rfl rfl (as := [.int 2]) (rest := []) rfl rfl (Nat.le_of_ble_eq_true rfl) (Nat.le_of_ble_eq_true rfl) (by decide) ?_
              show RR 0 1 mX5_found 0 [(0, .ref 0), (1, .int 2)] [] s7 _
              refine RR.s2 (pc' := 1) (lv' := [(0, .ref 0), (1, .int 2)]) (st' := [.ref 0]) dX5_found_0 rfl ?_
              refine RR.s2 (pc' := 2) (lv' := [(0, .ref 0), (1, .int 2)]) (st' := [.int 2, .ref 0]) dX5_found_1 rfl ?_
              refine RR.putI dX5_found_2 fp_X5_293 rfl rfl ?_
              refine RR.bp (v := (-10)) dX5_found_5 (by decide) ?_
              refine RR.s2 (pc' := 8) (lv' := [(0, .ref 0), (1, .int 2)]) (st' := [.int 2, .int (-10)]) dX5_found_7 rfl ?_
              refine RR.s2 (pc' := 9) (lv' := [(0, .ref 0), (1, .int 2)]) (st' := [.int ((-10) - 2)]) dX5_found_8 rfl ?_
              refine RR.iret dX5_found_9 rfl ?_
              show RR 0 3 mX5_copy 102 [(0, .ref 0), (1, .int x1), (2, .int x2), (3, .int x3), (4, .int x4), (5, .int x5), (6, .ref (51 + 2 * j1)), (7, .ref (51 + 2 * j4))] [.int ((-10) - 2)] (wI s7 0 14 2) _
              exact RR.iret dX5_copy_102 rfl ⟨_, rfl, H⟩
            · have H := H.2 c
              refine RR.s2 (pc' := 87) (lv' := [(0, .ref 0), (1, .int x1), (2, .int x2), (3, .int x3), (4, .int x4), (5, .int x5), (6, .ref (51 + 2 * j1)), (7, .ref (51 + 2 * j4))]) (st' := [.ref (51 + 2 * j4)]) dX5_copy_85 rfl ?_
              refine RR.s2 (pc' := 89) (lv' := [(0, .ref 0), (1, .int x1), (2, .int x2), (3, .int x3), (4, .int x4), (5, .int x5), (6, .ref (51 + 2 * j1)), (7, .ref (51 + 2 * j4))]) (st' := [.int x4, .ref (51 + 2 * j4)]) dX5_copy_87 rfl ?_
              refine RR.s2 (pc' := 91) (lv' := [(0, .ref 0), (1, .int x1), (2, .int x2), (3, .int x3), (4, .int x4), (5, .int x5), (6, .ref (51 + 2 * j1)), (7, .ref (51 + 2 * j4))]) (st' := [.int x5, .int x4, .ref (51 + 2 * j4)]) dX5_copy_89 rfl ?_
              refine RR.cV dX5_copy_91 ml_X5_279 (isSheet_at b6).1 rfl (as := [.int x4, .int x5]) (rest := []) rfl rfl (Nat.le_of_ble_eq_true rfl) (Nat.le_of_ble_eq_true rfl) (by decide) (RR.toI H (fun v10 s9 H => ?_))
              show RR 0 3 mX5_copy 94 [(0, .ref 0), (1, .int x1), (2, .int x2), (3, .int x3), (4, .int x4), (5, .int x5), (6, .ref (51 + 2 * j1)), (7, .ref (51 + 2 * j4))] [.int v10] s9 _
              refine RR.br dX5_copy_94 rfl (fun c => ?_) (fun c => ?_)
              · have H := H.1 c
                refine RR.s2 (pc' := 105) (lv' := [(0, .ref 0), (1, .int x1), (2, .int x2), (3, .int x3), (4, .int x4), (5, .int x5), (6, .ref (51 + 2 * j1)), (7, .ref (51 + 2 * j4))]) (st' := [.ref (51 + 2 * j4)]) dX5_copy_103 rfl ?_
                refine RR.s2 (pc' := 107) (lv' := [(0, .ref 0), (1, .int x1), (2, .int x2), (3, .int x3), (4, .int x4), (5, .int x5), (6, .ref (51 + 2 * j1)), (7, .ref (51 + 2 * j4))]) (st' := [.int x4, .ref (51 + 2 * j4)]) dX5_copy_105 rfl ?_
                refine RR.s2 (pc' := 109) (lv' := [(0, .ref 0), (1, .int x1), (2, .int x2), (3, .int x3), (4, .int x4), (5, .int x5), (6, .ref (51 + 2 * j1)), (7, .ref (51 + 2 * j4))]) (st' := [.ref (51 + 2 * j1), .int x4, .ref (51 + 2 * j4)]) dX5_copy_107 rfl ?_
                refine RR.s2 (pc' := 110) (lv' := [(0, .ref 0), (1, .int x1), (2, .int x2), (3, .int x3), (4, .int x4), (5, .int x5), (6, .ref (51 + 2 * j1)), (7, .ref (51 + 2 * j4))]) (st' := [.int x2, .ref (51 + 2 * j1), .int x4, .ref (51 + 2 * j4)]) dX5_copy_109 rfl ?_
                refine RR.s2 (pc' := 112) (lv' := [(0, .ref 0), (1, .int x1), (2, .int x2), (3, .int x3), (4, .int x4), (5, .int x5), (6, .ref (51 + 2 * j1)), (7, .ref (51 + 2 * j4))]) (st' := [.int x5, .int x2, .ref (51 + 2 * j1), .int x4, .ref (51 + 2 * j4)]) dX5_copy_110 rfl ?_
                refine RR.cV dX5_copy_112 ml_X5_283 (isSheet_at b6).1 rfl (as := [.int x4, .ref (51 + 2 * j1), .int x2, .int x5]) (rest := []) rfl rfl (Nat.le_of_ble_eq_true rfl) (Nat.le_of_ble_eq_true rfl) (by decide) (RR.toV H (fun s11 H => ?_))
                show RR 0 3 mX5_copy 115 [(0, .ref 0), (1, .int x1), (2, .int x2), (3, .int x3), (4, .int x4), (5, .int x5), (6, .ref (51 + 2 * j1)), (7, .ref (51 + 2 * j4))] [] s11 _
                refine RR.ic (v := 1) dX5_copy_115 (by decide) ?_
                exact RR.iret dX5_copy_116 rfl ⟨_, rfl, H⟩
              · have H := H.2 (Classical.not_not.mp c)
                refine RR.s2 (pc' := 98) (lv' := [(0, .ref 0), (1, .int x1), (2, .int x2), (3, .int x3), (4, .int x4), (5, .int x5), (6, .ref (51 + 2 * j1)), (7, .ref (51 + 2 * j4))]) (st' := [.ref 0]) dX5_copy_97 rfl ?_
                refine RR.ic (v := 2) dX5_copy_98 (by decide) ?_
                refine RR.cV (d' := 1) dX5_copy_99 ml_X5_141 rfl rfl (as := [.int 2]) (rest := []) rfl rfl (Nat.le_of_ble_eq_true rfl) (Nat.le_of_ble_eq_true rfl) (by decide) ?_
                show RR 0 1 mX5_found 0 [(0, .ref 0), (1, .int 2)] [] s9 _
                refine RR.s2 (pc' := 1) (lv' := [(0, .ref 0), (1, .int 2)]) (st' := [.ref 0]) dX5_found_0 rfl ?_
                refine RR.s2 (pc' := 2) (lv' := [(0, .ref 0), (1, .int 2)]) (st' := [.int 2, .ref 0]) dX5_found_1 rfl ?_
                refine RR.putI dX5_found_2 fp_X5_293 rfl rfl ?_
                refine RR.bp (v := (-10)) dX5_found_5 (by decide) ?_
                refine RR.s2 (pc' := 8) (lv' := [(0, .ref 0), (1, .int 2)]) (st' := [.int 2, .int (-10)]) dX5_found_7 rfl ?_
                refine RR.s2 (pc' := 9) (lv' := [(0, .ref 0), (1, .int 2)]) (st' := [.int ((-10) - 2)]) dX5_found_8 rfl ?_
                refine RR.iret dX5_found_9 rfl ?_
                show RR 0 3 mX5_copy 102 [(0, .ref 0), (1, .int x1), (2, .int x2), (3, .int x3), (4, .int x4), (5, .int x5), (6, .ref (51 + 2 * j1)), (7, .ref (51 + 2 * j4))] [.int ((-10) - 2)] (wI s9 0 14 2) _
                exact RR.iret dX5_copy_102 rfl ⟨_, rfl, H⟩
          · have H := H.2 c
            refine RR.s2 (pc' := 69) (lv' := [(0, .ref 0), (1, .int x1), (2, .int x2), (3, .int x3), (4, .int x4), (5, .int x5), (6, .ref (51 + 2 * j1)), (7, .ref (51 + 2 * j4))]) (st' := [.ref 0]) dX5_copy_68 rfl ?_
            refine RR.ic (v := 4) dX5_copy_69 (by decide) ?_
            refine RR.cV (d' := 1) dX5_copy_70 ml_X5_141 rfl rfl (as := [.int 4]) (rest := []) rfl rfl (Nat.le_of_ble_eq_true rfl) (Nat.le_of_ble_eq_true rfl) (by decide) ?_
            show RR 0 1 mX5_found 0 [(0, .ref 0), (1, .int 4)] [] σ _
            refine RR.s2 (pc' := 1) (lv' := [(0, .ref 0), (1, .int 4)]) (st' := [.ref 0]) dX5_found_0 rfl ?_
            refine RR.s2 (pc' := 2) (lv' := [(0, .ref 0), (1, .int 4)]) (st' := [.int 4, .ref 0]) dX5_found_1 rfl ?_
            refine RR.putI dX5_found_2 fp_X5_293 rfl rfl ?_
            refine RR.bp (v := (-10)) dX5_found_5 (by decide) ?_
            refine RR.s2 (pc' := 8) (lv' := [(0, .ref 0), (1, .int 4)]) (st' := [.int 4, .int (-10)]) dX5_found_7 rfl ?_
            refine RR.s2 (pc' := 9) (lv' := [(0, .ref 0), (1, .int 4)]) (st' := [.int ((-10) - 4)]) dX5_found_8 rfl ?_
            refine RR.iret dX5_found_9 rfl ?_
            show RR 0 3 mX5_copy 73 [(0, .ref 0), (1, .int x1), (2, .int x2), (3, .int x3), (4, .int x4), (5, .int x5), (6, .ref (51 + 2 * j1)), (7, .ref (51 + 2 * j4))] [.int ((-10) - 4)] (wI σ 0 14 4) _
            exact RR.iret dX5_copy_73 rfl ⟨_, rfl, H⟩
        · have H := H.2 (Classical.not_not.mp c)
          refine RR.ic (v := 1) dX4_isLost_8 (by decide) ?_
          refine RR.s2 (pc' := 13) (lv' := [(0, .ref (51 + 2 * j4))]) (st' := [.int 1]) dX4_isLost_9 rfl ?_
          refine RR.zret dX4_isLost_13 rfl (by decide) ?_
          show RR 0 3 mX5_copy 46 [(0, .ref 0), (1, .int x1), (2, .int x2), (3, .int x3), (4, .int x4), (5, .int x5), (6, .ref (51 + 2 * j1)), (7, .ref (51 + 2 * j4))] [.int 1] σ _
          refine RR.brF dX5_copy_46 rfl (by decide) ?_
          refine RR.s2 (pc' := 50) (lv' := [(0, .ref 0), (1, .int x1), (2, .int x2), (3, .int x3), (4, .int x4), (5, .int x5), (6, .ref (51 + 2 * j1)), (7, .ref (51 + 2 * j4))]) (st' := [.ref 0]) dX5_copy_49 rfl ?_
          refine RR.ic (v := 1) dX5_copy_50 (by decide) ?_
          refine RR.cV (d' := 1) dX5_copy_51 ml_X5_141 rfl rfl (as := [.int 1]) (rest := []) rfl rfl (Nat.le_of_ble_eq_true rfl) (Nat.le_of_ble_eq_true rfl) (by decide) ?_
          show RR 0 1 mX5_found 0 [(0, .ref 0), (1, .int 1)] [] σ _
          refine RR.s2 (pc' := 1) (lv' := [(0, .ref 0), (1, .int 1)]) (st' := [.ref 0]) dX5_found_0 rfl ?_
          refine RR.s2 (pc' := 2) (lv' := [(0, .ref 0), (1, .int 1)]) (st' := [.int 1, .ref 0]) dX5_found_1 rfl ?_
          refine RR.putI dX5_found_2 fp_X5_293 rfl rfl ?_
          refine RR.bp (v := (-10)) dX5_found_5 (by decide) ?_
          refine RR.s2 (pc' := 8) (lv' := [(0, .ref 0), (1, .int 1)]) (st' := [.int 1, .int (-10)]) dX5_found_7 rfl ?_
          refine RR.s2 (pc' := 9) (lv' := [(0, .ref 0), (1, .int 1)]) (st' := [.int ((-10) - 1)]) dX5_found_8 rfl ?_
          refine RR.iret dX5_found_9 rfl ?_
          show RR 0 3 mX5_copy 54 [(0, .ref 0), (1, .int x1), (2, .int x2), (3, .int x3), (4, .int x4), (5, .int x5), (6, .ref (51 + 2 * j1)), (7, .ref (51 + 2 * j4))] [.int ((-10) - 1)] (wI σ 0 14 1) _
          exact RR.iret dX5_copy_54 rfl ⟨_, rfl, H⟩
      · have H := H.2 (Classical.not_not.mp c)
        refine RR.ic (v := 1) dX4_isLost_8 (by decide) ?_
        refine RR.s2 (pc' := 13) (lv' := [(0, .ref (51 + 2 * j1))]) (st' := [.int 1]) dX4_isLost_9 rfl ?_
        refine RR.zret dX4_isLost_13 rfl (by decide) ?_
        show RR 0 3 mX5_copy 38 [(0, .ref 0), (1, .int x1), (2, .int x2), (3, .int x3), (4, .int x4), (5, .int x5), (6, .ref (51 + 2 * j1)), (7, .ref (51 + 2 * j4))] [.int 1] σ _
        refine RR.brT dX5_copy_38 rfl (by decide) ?_
        refine RR.s2 (pc' := 50) (lv' := [(0, .ref 0), (1, .int x1), (2, .int x2), (3, .int x3), (4, .int x4), (5, .int x5), (6, .ref (51 + 2 * j1)), (7, .ref (51 + 2 * j4))]) (st' := [.ref 0]) dX5_copy_49 rfl ?_
        refine RR.ic (v := 1) dX5_copy_50 (by decide) ?_
        refine RR.cV (d' := 1) dX5_copy_51 ml_X5_141 rfl rfl (as := [.int 1]) (rest := []) rfl rfl (Nat.le_of_ble_eq_true rfl) (Nat.le_of_ble_eq_true rfl) (by decide) ?_
        show RR 0 1 mX5_found 0 [(0, .ref 0), (1, .int 1)] [] σ _
        refine RR.s2 (pc' := 1) (lv' := [(0, .ref 0), (1, .int 1)]) (st' := [.ref 0]) dX5_found_0 rfl ?_
        refine RR.s2 (pc' := 2) (lv' := [(0, .ref 0), (1, .int 1)]) (st' := [.int 1, .ref 0]) dX5_found_1 rfl ?_
        refine RR.putI dX5_found_2 fp_X5_293 rfl rfl ?_
        refine RR.bp (v := (-10)) dX5_found_5 (by decide) ?_
        refine RR.s2 (pc' := 8) (lv' := [(0, .ref 0), (1, .int 1)]) (st' := [.int 1, .int (-10)]) dX5_found_7 rfl ?_
        refine RR.s2 (pc' := 9) (lv' := [(0, .ref 0), (1, .int 1)]) (st' := [.int ((-10) - 1)]) dX5_found_8 rfl ?_
        refine RR.iret dX5_found_9 rfl ?_
        show RR 0 3 mX5_copy 54 [(0, .ref 0), (1, .int x1), (2, .int x2), (3, .int x3), (4, .int x4), (5, .int x5), (6, .ref (51 + 2 * j1)), (7, .ref (51 + 2 * j4))] [.int ((-10) - 1)] (wI σ 0 14 1) _
        exact RR.iret dX5_copy_54 rfl ⟨_, rfl, H⟩
    · have H := H.2 c
      show RR 0 3 mX5_copy 11 [(0, .ref 0), (1, .int x1), (2, .int x2), (3, .int x3), (4, .int x4), (5, .int x5)] [.int 0] σ _
      refine RR.brF dX5_copy_11 rfl (by decide) ?_
      refine RR.bp (v := (-2)) dX5_copy_14 (by decide) ?_
      exact RR.iret dX5_copy_16 rfl ⟨_, rfl, H⟩
  · have H := H.2 c
    show RR 0 3 mX5_copy 4 [(0, .ref 0), (1, .int x1), (2, .int x2), (3, .int x3), (4, .int x4), (5, .int x5)] [.int 0] σ _
    refine RR.brT dX5_copy_4 rfl (by decide) ?_
    refine RR.bp (v := (-2)) dX5_copy_14 (by decide) ?_
    exact RR.iret dX5_copy_16 rfl ⟨_, rfl, H⟩
set_option maxRecDepth 20000 in
theorem b_X5_write {σ : r_St} {K : Int32 → r_St → Prop} {x1 : Int32}  (H : (IN x1 0 3 → (∃ j1 : Nat, x1 = nI j1 ∧ j1 < 4 ∧ ((¬ σ.1 (51 + 2 * j1) 1 = (-1) → M_X5_laws σ (fun s4 => R_X5_write_49 s4 K (51 + 2 * j1) (imin (s4.1 (51 + 2 * j1) 2) 40) 0)) ∧ (σ.1 (51 + 2 * j1) 1 = (-1) → K ((-10) - 1) (wI σ 0 14 1))))) ∧ (¬ IN x1 0 3 → K (-2) σ)) : M_X5_write σ K x1 := by
  show RR 0 6 mX5_write 0 [(0, .ref 0), (1, .int x1)] [] σ (rI K)
  refine RR.s2 (pc' := 1) (lv' := [(0, .ref 0), (1, .int x1)]) (st' := [.int x1]) dX5_write_0 rfl ?_
  refine RR.cS dX5_write_1 ml_X5_134 (as := [.int x1]) (rest := []) rfl rfl (Nat.le_of_ble_eq_true rfl) (Nat.le_of_ble_eq_true rfl) (by decide) (kb_X5_isSheet (fun c => ?_) (fun c => ?_))
  · have H := H.1 c
    show RR 0 6 mX5_write 4 [(0, .ref 0), (1, .int x1)] [.int 1] σ _
    refine RR.brT dX5_write_4 rfl (by decide) ?_
    refine RR.s2 (pc' := 11) (lv' := [(0, .ref 0), (1, .int x1)]) (st' := [.ref 0]) dX5_write_10 rfl ?_
    refine RR.getR dX5_write_11 fl_X5_62 rfl rfl ?_
    refine RR.s2 (pc' := 15) (lv' := [(0, .ref 0), (1, .int x1)]) (st' := [.int x1, .ref 50]) dX5_write_14 rfl ?_
    obtain ⟨j1, e2, b3, H⟩ := H
    refine RR.aald dX5_write_15 rfl e2 b3 (shx b3) ?_
    refine RR.s2 (pc' := 17) (lv' := [(0, .ref 0), (1, .int x1), (2, .ref (51 + 2 * j1))]) (st' := []) dX5_write_16 rfl ?_
    refine RR.s2 (pc' := 18) (lv' := [(0, .ref 0), (1, .int x1), (2, .ref (51 + 2 * j1))]) (st' := [.ref (51 + 2 * j1)]) dX5_write_17 rfl ?_
    refine RR.cV (d' := 1) dX5_write_18 ml_X5_137 (isSheet_at b3).1 rfl (as := []) (rest := []) rfl rfl (Nat.le_of_ble_eq_true rfl) (Nat.le_of_ble_eq_true rfl) (by decide) ?_
    show RR 0 1 mX4_isLost 0 [(0, .ref (51 + 2 * j1))] [] σ _
    refine RR.s2 (pc' := 1) (lv' := [(0, .ref (51 + 2 * j1))]) (st' := [.ref (51 + 2 * j1)]) dX4_isLost_0 rfl ?_
    refine RR.getI dX4_isLost_1 fl_X4_15 (isSheet_at b3).1 rfl ?_
    refine RR.ic (v := (-1)) dX4_isLost_4 (by decide) ?_
    refine RR.br dX4_isLost_5 rfl (fun c => ?_) (fun c => ?_)
    · have H := H.1 c
      refine RR.ic (v := 0) dX4_isLost_12 (by decide) ?_
      refine RR.zret dX4_isLost_13 rfl (by decide) ?_
      show RR 0 6 mX5_write 21 [(0, .ref 0), (1, .int x1), (2, .ref (51 + 2 * j1))] [.int 0] σ _
      refine RR.brT dX5_write_21 rfl (by decide) ?_
      refine RR.s2 (pc' := 31) (lv' := [(0, .ref 0), (1, .int x1), (2, .ref (51 + 2 * j1))]) (st' := [.ref 0]) dX5_write_30 rfl ?_
      refine RR.cV dX5_write_31 ml_X5_153 rfl rfl (as := []) (rest := []) rfl rfl (Nat.le_of_ble_eq_true rfl) (Nat.le_of_ble_eq_true rfl) (by decide) (RR.toC H (fun s4 H => ?_))
      show RR 0 6 mX5_write 34 [(0, .ref 0), (1, .int x1), (2, .ref (51 + 2 * j1))] [.ref 32] s4 _
      refine RR.s2 (pc' := 35) (lv' := [(0, .ref 0), (1, .int x1), (2, .ref (51 + 2 * j1)), (3, .ref 32)]) (st' := []) dX5_write_34 rfl ?_
      refine RR.s2 (pc' := 36) (lv' := [(0, .ref 0), (1, .int x1), (2, .ref (51 + 2 * j1)), (3, .ref 32)]) (st' := [.ref (51 + 2 * j1)]) dX5_write_35 rfl ?_
      refine RR.cV (d' := 1) dX5_write_36 ml_X5_144 (isSheet_at b3).1 rfl (as := []) (rest := []) rfl rfl (Nat.le_of_ble_eq_true rfl) (Nat.le_of_ble_eq_true rfl) (by decide) ?_
      show RR 0 1 mX4_size 0 [(0, .ref (51 + 2 * j1))] [] s4 _
      refine RR.s2 (pc' := 1) (lv' := [(0, .ref (51 + 2 * j1))]) (st' := [.ref (51 + 2 * j1)]) dX4_size_0 rfl ?_
      refine RR.getI dX4_size_1 fl_X4_19 (isSheet_at b3).1 rfl ?_
      refine RR.iret dX4_size_4 rfl ?_
      show RR 0 6 mX5_write 39 [(0, .ref 0), (1, .int x1), (2, .ref (51 + 2 * j1)), (3, .ref 32)] [.int (s4.1 (51 + 2 * j1) 2)] s4 _
      refine RR.bp (v := 40) dX5_write_39 (by decide) ?_
      refine RR.mmin dX5_write_41 mm_X5_287 (Nat.le_of_ble_eq_true rfl) (by decide) ?_
      show RR 0 6 mX5_write 44 [(0, .ref 0), (1, .int x1), (2, .ref (51 + 2 * j1)), (3, .ref 32)] [.int (imin (s4.1 (51 + 2 * j1) 2) 40)] s4 _
      refine RR.s2 (pc' := 46) (lv' := [(0, .ref 0), (1, .int x1), (2, .ref (51 + 2 * j1)), (3, .ref 32), (4, .int (imin (s4.1 (51 + 2 * j1) 2) 40))]) (st' := []) dX5_write_44 rfl ?_
      refine RR.ic (v := 0) dX5_write_46 (by decide) ?_
      refine RR.s2 (pc' := 49) (lv' := [(0, .ref 0), (1, .int x1), (2, .ref (51 + 2 * j1)), (3, .ref 32), (4, .int (imin (s4.1 (51 + 2 * j1) 2) 40)), (5, .int 0)]) (st' := []) dX5_write_47 rfl ?_
      exact RR.cut [2, 3, 4, 5] rfl H
    · have H := H.2 (Classical.not_not.mp c)
      refine RR.ic (v := 1) dX4_isLost_8 (by decide) ?_
      refine RR.s2 (pc' := 13) (lv' := [(0, .ref (51 + 2 * j1))]) (st' := [.int 1]) dX4_isLost_9 rfl ?_
      refine RR.zret dX4_isLost_13 rfl (by decide) ?_
      show RR 0 6 mX5_write 21 [(0, .ref 0), (1, .int x1), (2, .ref (51 + 2 * j1))] [.int 1] σ _
      refine RR.brF dX5_write_21 rfl (by decide) ?_
      refine RR.s2 (pc' := 25) (lv' := [(0, .ref 0), (1, .int x1), (2, .ref (51 + 2 * j1))]) (st' := [.ref 0]) dX5_write_24 rfl ?_
      refine RR.ic (v := 1) dX5_write_25 (by decide) ?_
      refine RR.cV (d' := 1) dX5_write_26 ml_X5_141 rfl rfl (as := [.int 1]) (rest := []) rfl rfl (Nat.le_of_ble_eq_true rfl) (Nat.le_of_ble_eq_true rfl) (by decide) ?_
      show RR 0 1 mX5_found 0 [(0, .ref 0), (1, .int 1)] [] σ _
      refine RR.s2 (pc' := 1) (lv' := [(0, .ref 0), (1, .int 1)]) (st' := [.ref 0]) dX5_found_0 rfl ?_
      refine RR.s2 (pc' := 2) (lv' := [(0, .ref 0), (1, .int 1)]) (st' := [.int 1, .ref 0]) dX5_found_1 rfl ?_
      refine RR.putI dX5_found_2 fp_X5_293 rfl rfl ?_
      refine RR.bp (v := (-10)) dX5_found_5 (by decide) ?_
      refine RR.s2 (pc' := 8) (lv' := [(0, .ref 0), (1, .int 1)]) (st' := [.int 1, .int (-10)]) dX5_found_7 rfl ?_
      refine RR.s2 (pc' := 9) (lv' := [(0, .ref 0), (1, .int 1)]) (st' := [.int ((-10) - 1)]) dX5_found_8 rfl ?_
      refine RR.iret dX5_found_9 rfl ?_
      show RR 0 6 mX5_write 29 [(0, .ref 0), (1, .int x1), (2, .ref (51 + 2 * j1))] [.int ((-10) - 1)] (wI σ 0 14 1) _
      exact RR.iret dX5_write_29 rfl ⟨_, rfl, H⟩
  · have H := H.2 c
    show RR 0 6 mX5_write 4 [(0, .ref 0), (1, .int x1)] [.int 0] σ _
    refine RR.brF dX5_write_4 rfl (by decide) ?_
    refine RR.bp (v := (-2)) dX5_write_7 (by decide) ?_
    exact RR.iret dX5_write_9 rfl ⟨_, rfl, H⟩
set_option maxRecDepth 20000 in
theorem b_X5_write_49 {σ : r_St} {K : Int32 → r_St → Prop} {k2 : Nat} {x4 : Int32} {x5 : Int32} (hk2 : isSheet k2) (H : (x4 ≤ x5 → K x4 σ) ∧ (¬ (x4 ≤ x5) → M_X1_openOn 32 σ (fun v2 s1 => M_X4_keep k2 s1 (fun s3 => R_X5_write_49 s3 K k2 x4 (x5 + 1)) x5 v2) x5)) : R_X5_write_49 σ K k2 x4 x5 := by
  show RR 0 6 mX5_write 49 [(2, .ref k2), (3, .ref 32), (4, .int x4), (5, .int x5)] [] σ (rI K)
  refine RR.s2 (pc' := 51) (lv' := [(2, .ref k2), (3, .ref 32), (4, .int x4), (5, .int x5)]) (st' := [.int x5]) dX5_write_49 rfl ?_
  refine RR.s2 (pc' := 53) (lv' := [(2, .ref k2), (3, .ref 32), (4, .int x4), (5, .int x5)]) (st' := [.int x4, .int x5]) dX5_write_51 rfl ?_
  refine RR.br dX5_write_53 rfl (fun c => ?_) (fun c => ?_)
  · have H := H.1 c
    refine RR.s2 (pc' := 76) (lv' := [(2, .ref k2), (3, .ref 32), (4, .int x4), (5, .int x5)]) (st' := [.int x4]) dX5_write_74 rfl ?_
    exact RR.iret dX5_write_76 rfl ⟨_, rfl, H⟩
  · have H := H.2 c
    refine RR.s2 (pc' := 57) (lv' := [(2, .ref k2), (3, .ref 32), (4, .int x4), (5, .int x5)]) (st' := [.ref k2]) dX5_write_56 rfl ?_
    refine RR.s2 (pc' := 59) (lv' := [(2, .ref k2), (3, .ref 32), (4, .int x4), (5, .int x5)]) (st' := [.int x5, .ref k2]) dX5_write_57 rfl ?_
    refine RR.s2 (pc' := 60) (lv' := [(2, .ref k2), (3, .ref 32), (4, .int x4), (5, .int x5)]) (st' := [.ref 32, .int x5, .ref k2]) dX5_write_59 rfl ?_
    refine RR.s2 (pc' := 62) (lv' := [(2, .ref k2), (3, .ref 32), (4, .int x4), (5, .int x5)]) (st' := [.int x5, .ref 32, .int x5, .ref k2]) dX5_write_60 rfl ?_
    refine RR.cV dX5_write_62 ml_X5_163 rfl rfl (as := [.int x5]) (rest := [.int x5, .ref k2]) rfl rfl (Nat.le_of_ble_eq_true rfl) (Nat.le_of_ble_eq_true rfl) (by decide) (RR.toI H (fun v2 s1 H => ?_))
    show RR 0 6 mX5_write 65 [(2, .ref k2), (3, .ref 32), (4, .int x4), (5, .int x5)] [.int v2, .int x5, .ref k2] s1 _
    refine RR.cV dX5_write_65 ml_X5_272 hk2.1 rfl (as := [.int x5, .int v2]) (rest := []) rfl rfl (Nat.le_of_ble_eq_true rfl) (Nat.le_of_ble_eq_true rfl) (by decide) (RR.toV H (fun s3 H => ?_))
    show RR 0 6 mX5_write 68 [(2, .ref k2), (3, .ref 32), (4, .int x4), (5, .int x5)] [] s3 _
    refine RR.inc (c := 1) (lv' := [(2, .ref k2), (3, .ref 32), (4, .int x4), (5, .int (x5 + 1))]) dX5_write_68 rfl (by decide) (by decide) rfl ?_
    refine RR.s2 (pc' := 49) (lv' := [(2, .ref k2), (3, .ref 32), (4, .int x4), (5, .int (x5 + 1))]) (st' := []) dX5_write_71 rfl ?_
    exact RR.cut [0, 1, 2, 3] rfl H
set_option maxRecDepth 20000 in
theorem b_X5_count {σ : r_St} {K : Int32 → r_St → Prop} {x1 : Int32}  (H : (x1 = 0 → K (σ.1 1 4) σ) ∧ (x1 = 1 → K (σ.1 1 2) σ) ∧ (x1 = 2 → K (σ.1 4 4) σ) ∧ (x1 = 3 → K (σ.1 8 4) σ) ∧ (x1 = 4 → K (σ.1 12 4) σ) ∧ (x1 = 5 → K (σ.1 16 4) σ) ∧ (x1 = 6 → K (σ.1 20 4) σ) ∧ (x1 = 7 → K ((σ.1 24 4) + (σ.1 28 4)) σ) ∧ (x1 = 8 → K (σ.1 0 14) σ) ∧ (¬ x1 = 0 ∧ ¬ x1 = 1 ∧ ¬ x1 = 2 ∧ ¬ x1 = 3 ∧ ¬ x1 = 4 ∧ ¬ x1 = 5 ∧ ¬ x1 = 6 ∧ ¬ x1 = 7 ∧ ¬ x1 = 8 → K (-2) σ)) : M_X5_count σ K x1 := by
  show RR 0 2 mX5_count 0 [(0, .ref 0), (1, .int x1)] [] σ (rI K)
  refine RR.s2 (pc' := 1) (lv' := [(0, .ref 0), (1, .int x1)]) (st' := [.int x1]) dX5_count_0 rfl ?_
  rcases Classical.em (x1 = 0) with c | n0
  · have H := H.1 c
    refine RR.tsIn (off := 51) (t := 52) dX5_count_1 (by rw [c]; decide) (by rw [c]; decide) (by rw [c]; rfl) rfl ?_
    refine RR.s2 (pc' := 53) (lv' := [(0, .ref 0), (1, .int x1)]) (st' := [.ref 0]) dX5_count_52 rfl ?_
    refine RR.getR dX5_count_53 fl_X5_12 rfl rfl ?_
    refine RR.cV (d' := 1) dX5_count_56 ml_X5_226 rfl rfl (as := []) (rest := []) rfl rfl (Nat.le_of_ble_eq_true rfl) (Nat.le_of_ble_eq_true rfl) (by decide) ?_
    show RR 0 1 mX0_number 0 [(0, .ref 1)] [] σ _
    refine RR.s2 (pc' := 1) (lv' := [(0, .ref 1)]) (st' := [.ref 1]) dX0_number_0 rfl ?_
    refine RR.getI dX0_number_1 fl_X0_25 rfl rfl ?_
    refine RR.iret dX0_number_4 rfl ?_
    show RR 0 2 mX5_count 59 [(0, .ref 0), (1, .int x1)] [.int (σ.1 1 4)] σ _
    exact RR.iret dX5_count_59 rfl ⟨_, rfl, H⟩
  rcases Classical.em (x1 = 1) with c | n1
  · have H := H.2.1 c
    refine RR.tsIn (off := 59) (t := 60) dX5_count_1 (by rw [c]; decide) (by rw [c]; decide) (by rw [c]; rfl) rfl ?_
    refine RR.s2 (pc' := 61) (lv' := [(0, .ref 0), (1, .int x1)]) (st' := [.ref 0]) dX5_count_60 rfl ?_
    refine RR.getR dX5_count_61 fl_X5_12 rfl rfl ?_
    refine RR.cV (d' := 1) dX5_count_64 ml_X5_290 rfl rfl (as := []) (rest := []) rfl rfl (Nat.le_of_ble_eq_true rfl) (Nat.le_of_ble_eq_true rfl) (by decide) ?_
    show RR 0 1 mX0_length 0 [(0, .ref 1)] [] σ _
    refine RR.s2 (pc' := 1) (lv' := [(0, .ref 1)]) (st' := [.ref 1]) dX0_length_0 rfl ?_
    refine RR.getI dX0_length_1 fl_X0_22 rfl rfl ?_
    refine RR.iret dX0_length_4 rfl ?_
    show RR 0 2 mX5_count 67 [(0, .ref 0), (1, .int x1)] [.int (σ.1 1 2)] σ _
    exact RR.iret dX5_count_67 rfl ⟨_, rfl, H⟩
  rcases Classical.em (x1 = 2) with c | n2
  · have H := H.2.2.1 c
    refine RR.tsIn (off := 67) (t := 68) dX5_count_1 (by rw [c]; decide) (by rw [c]; decide) (by rw [c]; rfl) rfl ?_
    refine RR.s2 (pc' := 69) (lv' := [(0, .ref 0), (1, .int x1)]) (st' := [.ref 0]) dX5_count_68 rfl ?_
    refine RR.getR dX5_count_69 fl_X5_21 rfl rfl ?_
    refine RR.cV (d' := 1) dX5_count_72 ml_X5_173 rfl rfl (as := []) (rest := []) rfl rfl (Nat.le_of_ble_eq_true rfl) (Nat.le_of_ble_eq_true rfl) (by decide) ?_
    show RR 0 1 mX3_size 0 [(0, .ref 4)] [] σ _
    refine RR.s2 (pc' := 1) (lv' := [(0, .ref 4)]) (st' := [.ref 4]) dX3_size_0 rfl ?_
    refine RR.getI dX3_size_1 fl_X3_31 rfl rfl ?_
    refine RR.iret dX3_size_4 rfl ?_
    show RR 0 2 mX5_count 75 [(0, .ref 0), (1, .int x1)] [.int (σ.1 4 4)] σ _
    exact RR.iret dX5_count_75 rfl ⟨_, rfl, H⟩
  rcases Classical.em (x1 = 3) with c | n3
  · have H := H.2.2.2.1 c
    refine RR.tsIn (off := 75) (t := 76) dX5_count_1 (by rw [c]; decide) (by rw [c]; decide) (by rw [c]; rfl) rfl ?_
    refine RR.s2 (pc' := 77) (lv' := [(0, .ref 0), (1, .int x1)]) (st' := [.ref 0]) dX5_count_76 rfl ?_
    refine RR.getR dX5_count_77 fl_X5_25 rfl rfl ?_
    refine RR.cV (d' := 1) dX5_count_80 ml_X5_173 rfl rfl (as := []) (rest := []) rfl rfl (Nat.le_of_ble_eq_true rfl) (Nat.le_of_ble_eq_true rfl) (by decide) ?_
    show RR 0 1 mX3_size 0 [(0, .ref 8)] [] σ _
    refine RR.s2 (pc' := 1) (lv' := [(0, .ref 8)]) (st' := [.ref 8]) dX3_size_0 rfl ?_
    refine RR.getI dX3_size_1 fl_X3_31 rfl rfl ?_
    refine RR.iret dX3_size_4 rfl ?_
    show RR 0 2 mX5_count 83 [(0, .ref 0), (1, .int x1)] [.int (σ.1 8 4)] σ _
    exact RR.iret dX5_count_83 rfl ⟨_, rfl, H⟩
  rcases Classical.em (x1 = 4) with c | n4
  · have H := H.2.2.2.2.1 c
    refine RR.tsIn (off := 83) (t := 84) dX5_count_1 (by rw [c]; decide) (by rw [c]; decide) (by rw [c]; rfl) rfl ?_
    refine RR.s2 (pc' := 85) (lv' := [(0, .ref 0), (1, .int x1)]) (st' := [.ref 0]) dX5_count_84 rfl ?_
    refine RR.getR dX5_count_85 fl_X5_28 rfl rfl ?_
    refine RR.cV (d' := 1) dX5_count_88 ml_X5_173 rfl rfl (as := []) (rest := []) rfl rfl (Nat.le_of_ble_eq_true rfl) (Nat.le_of_ble_eq_true rfl) (by decide) ?_
    show RR 0 1 mX3_size 0 [(0, .ref 12)] [] σ _
    refine RR.s2 (pc' := 1) (lv' := [(0, .ref 12)]) (st' := [.ref 12]) dX3_size_0 rfl ?_
    refine RR.getI dX3_size_1 fl_X3_31 rfl rfl ?_
    refine RR.iret dX3_size_4 rfl ?_
    show RR 0 2 mX5_count 91 [(0, .ref 0), (1, .int x1)] [.int (σ.1 12 4)] σ _
    exact RR.iret dX5_count_91 rfl ⟨_, rfl, H⟩
  rcases Classical.em (x1 = 5) with c | n5
  · have H := H.2.2.2.2.2.1 c
    refine RR.tsIn (off := 91) (t := 92) dX5_count_1 (by rw [c]; decide) (by rw [c]; decide) (by rw [c]; rfl) rfl ?_
    refine RR.s2 (pc' := 93) (lv' := [(0, .ref 0), (1, .int x1)]) (st' := [.ref 0]) dX5_count_92 rfl ?_
    refine RR.getR dX5_count_93 fl_X5_31 rfl rfl ?_
    refine RR.cV (d' := 1) dX5_count_96 ml_X5_173 rfl rfl (as := []) (rest := []) rfl rfl (Nat.le_of_ble_eq_true rfl) (Nat.le_of_ble_eq_true rfl) (by decide) ?_
    show RR 0 1 mX3_size 0 [(0, .ref 16)] [] σ _
    refine RR.s2 (pc' := 1) (lv' := [(0, .ref 16)]) (st' := [.ref 16]) dX3_size_0 rfl ?_
    refine RR.getI dX3_size_1 fl_X3_31 rfl rfl ?_
    refine RR.iret dX3_size_4 rfl ?_
    show RR 0 2 mX5_count 99 [(0, .ref 0), (1, .int x1)] [.int (σ.1 16 4)] σ _
    exact RR.iret dX5_count_99 rfl ⟨_, rfl, H⟩
  rcases Classical.em (x1 = 6) with c | n6
  · have H := H.2.2.2.2.2.2.1 c
    refine RR.tsIn (off := 99) (t := 100) dX5_count_1 (by rw [c]; decide) (by rw [c]; decide) (by rw [c]; rfl) rfl ?_
    refine RR.s2 (pc' := 101) (lv' := [(0, .ref 0), (1, .int x1)]) (st' := [.ref 0]) dX5_count_100 rfl ?_
    refine RR.getR dX5_count_101 fl_X5_34 rfl rfl ?_
    refine RR.cV (d' := 1) dX5_count_104 ml_X5_173 rfl rfl (as := []) (rest := []) rfl rfl (Nat.le_of_ble_eq_true rfl) (Nat.le_of_ble_eq_true rfl) (by decide) ?_
    show RR 0 1 mX3_size 0 [(0, .ref 20)] [] σ _
    refine RR.s2 (pc' := 1) (lv' := [(0, .ref 20)]) (st' := [.ref 20]) dX3_size_0 rfl ?_
    refine RR.getI dX3_size_1 fl_X3_31 rfl rfl ?_
    refine RR.iret dX3_size_4 rfl ?_
    show RR 0 2 mX5_count 107 [(0, .ref 0), (1, .int x1)] [.int (σ.1 20 4)] σ _
    exact RR.iret dX5_count_107 rfl ⟨_, rfl, H⟩
  rcases Classical.em (x1 = 7) with c | n7
  · have H := H.2.2.2.2.2.2.2.1 c
    refine RR.tsIn (off := 107) (t := 108) dX5_count_1 (by rw [c]; decide) (by rw [c]; decide) (by rw [c]; rfl) rfl ?_
    refine RR.s2 (pc' := 109) (lv' := [(0, .ref 0), (1, .int x1)]) (st' := [.ref 0]) dX5_count_108 rfl ?_
    refine RR.getR dX5_count_109 fl_X5_37 rfl rfl ?_
    refine RR.cV (d' := 1) dX5_count_112 ml_X5_173 rfl rfl (as := []) (rest := []) rfl rfl (Nat.le_of_ble_eq_true rfl) (Nat.le_of_ble_eq_true rfl) (by decide) ?_
    show RR 0 1 mX3_size 0 [(0, .ref 24)] [] σ _
    refine RR.s2 (pc' := 1) (lv' := [(0, .ref 24)]) (st' := [.ref 24]) dX3_size_0 rfl ?_
    refine RR.getI dX3_size_1 fl_X3_31 rfl rfl ?_
    refine RR.iret dX3_size_4 rfl ?_
    show RR 0 2 mX5_count 115 [(0, .ref 0), (1, .int x1)] [.int (σ.1 24 4)] σ _
    refine RR.s2 (pc' := 116) (lv' := [(0, .ref 0), (1, .int x1)]) (st' := [.ref 0, .int (σ.1 24 4)]) dX5_count_115 rfl ?_
    refine RR.getR dX5_count_116 fl_X5_40 rfl rfl ?_
    refine RR.cV (d' := 1) dX5_count_119 ml_X5_173 rfl rfl (as := []) (rest := [.int (σ.1 24 4)]) rfl rfl (Nat.le_of_ble_eq_true rfl) (Nat.le_of_ble_eq_true rfl) (by decide) ?_
    show RR 0 1 mX3_size 0 [(0, .ref 28)] [] σ _
    refine RR.s2 (pc' := 1) (lv' := [(0, .ref 28)]) (st' := [.ref 28]) dX3_size_0 rfl ?_
    refine RR.getI dX3_size_1 fl_X3_31 rfl rfl ?_
    refine RR.iret dX3_size_4 rfl ?_
    show RR 0 2 mX5_count 122 [(0, .ref 0), (1, .int x1)] [.int (σ.1 28 4), .int (σ.1 24 4)] σ _
    refine RR.s2 (pc' := 123) (lv' := [(0, .ref 0), (1, .int x1)]) (st' := [.int ((σ.1 24 4) + (σ.1 28 4))]) dX5_count_122 rfl ?_
    exact RR.iret dX5_count_123 rfl ⟨_, rfl, H⟩
  rcases Classical.em (x1 = 8) with c | n8
  · have H := H.2.2.2.2.2.2.2.2.1 c
    refine RR.tsIn (off := 123) (t := 124) dX5_count_1 (by rw [c]; decide) (by rw [c]; decide) (by rw [c]; rfl) rfl ?_
    refine RR.s2 (pc' := 125) (lv' := [(0, .ref 0), (1, .int x1)]) (st' := [.ref 0]) dX5_count_124 rfl ?_
    refine RR.getI dX5_count_125 fl_X5_293 rfl rfl ?_
    exact RR.iret dX5_count_128 rfl ⟨_, rfl, H⟩
  have H := H.2.2.2.2.2.2.2.2.2 ⟨n0, n1, n2, n3, n4, n5, n6, n7, n8⟩
  refine RR.tsOut dX5_count_1 (ts_out9 n0 n1 n2 n3 n4 n5 n6 n7 n8) rfl ?_
  refine RR.bp (v := (-2)) dX5_count_129 (by decide) ?_
  exact RR.iret dX5_count_131 rfl ⟨_, rfl, H⟩
set_option maxRecDepth 20000 in
theorem b_X5_digest {σ : r_St} {K : Int64 → r_St → Prop}  (H : R_X5_digest_6 σ K (17 : Int64) 0) : M_X5_digest σ K := by
  show RR 0 25 mX5_digest 0 [(0, .ref 0)] [] σ (rL K)
  refine RR.ldc2 dX5_digest_0 pw_w776 ?_
  refine RR.s2 (pc' := 4) (lv' := [(0, .ref 0), (1, .long (17 : Int64))]) (st' := []) dX5_digest_3 rfl ?_
  refine RR.ic (v := 0) dX5_digest_4 (by decide) ?_
  refine RR.s2 (pc' := 6) (lv' := [(0, .ref 0), (1, .long (17 : Int64)), (3, .int 0)]) (st' := []) dX5_digest_5 rfl ?_
  exact RR.cut [0, 1, 2] rfl H
set_option maxRecDepth 20000 in
theorem b_X5_digest_6 {σ : r_St} {K : Int64 → r_St → Prop} {y1 : Int64} {x3 : Int32}  (H : (7 < x3 → M_X5_fault σ (fun v2 s1 => M_X5_mixDeeds s1 (fun v4 s3 => M_X5_mixDays s3 (fun v6 s5 => M_X5_never s5 (fun v8 s7 => M_X5_alike s7 (fun v10 s9 => M_X5_mixFines s9 (fun v12 s11 => M_X5_mixPlans s11 (fun v14 s13 => M_X5_when s13 (fun v16 s15 => M_X5_when s15 (fun v18 s17 => M_X5_ask s17 (fun v20 s19 => M_X5_forged s19 (fun v22 s21 => M_X5_year s21 (fun v24 s23 => M_X5_year s23 (fun v26 s25 => K (((31 : Int64) * (((31 : Int64) * (((31 : Int64) * (((31 : Int64) * (((31 : Int64) * (((31 : Int64) * v14) + v16.toInt64)) + v18.toInt64)) + v20.toInt64)) + v22.toInt64)) + v24.toInt64)) + v26.toInt64) s25) 7 30 1) 7 30 0))) 0) (-1)) v12) (((31 : Int64) * (((31 : Int64) * v6) + v8.toInt64)) + v10.toInt64)))) v4) (((31 : Int64) * y1) + v2.toInt64))) ∧ (¬ (7 < x3) → M_X5_count σ (fun v28 s27 => R_X5_digest_6 s27 K (((31 : Int64) * y1) + v28.toInt64) (x3 + 1)) x3)) : R_X5_digest_6 σ K y1 x3 := by
  show RR 0 25 mX5_digest 6 [(0, .ref 0), (1, .long y1), (3, .int x3)] [] σ (rL K)
  refine RR.s2 (pc' := 7) (lv' := [(0, .ref 0), (1, .long y1), (3, .int x3)]) (st' := [.int x3]) dX5_digest_6 rfl ?_
  refine RR.bp (v := 7) dX5_digest_7 (by decide) ?_
  refine RR.br dX5_digest_9 rfl (fun c => ?_) (fun c => ?_)
  · have H := H.1 c
    refine RR.s2 (pc' := 30) (lv' := [(0, .ref 0), (1, .long y1), (3, .int x3)]) (st' := [.long y1]) dX5_digest_29 rfl ?_
    refine RR.s2 (pc' := 31) (lv' := [(0, .ref 0), (1, .long y1), (3, .int x3)]) (st' := [.ref 0, .long y1]) dX5_digest_30 rfl ?_
    refine RR.cV dX5_digest_31 ml_X5_305 rfl rfl (as := []) (rest := [.long y1]) rfl rfl (Nat.le_of_ble_eq_true rfl) (Nat.le_of_ble_eq_true rfl) (by decide) (RR.toI H (fun v2 s1 H => ?_))
    show RR 0 25 mX5_digest 34 [(0, .ref 0), (1, .long y1), (3, .int x3)] [.int v2, .long y1] s1 _
    refine RR.s2 (pc' := 35) (lv' := [(0, .ref 0), (1, .long y1), (3, .int x3)]) (st' := [.long v2.toInt64, .long y1]) dX5_digest_34 rfl ?_
    refine RR.cS (d' := 1) dX5_digest_35 ml_X5_301 (as := [.long y1, .long v2.toInt64]) (rest := []) rfl rfl (Nat.le_of_ble_eq_true rfl) (Nat.le_of_ble_eq_true rfl) (by decide) ?_
    show RR 0 1 mX5_mix 0 [(0, .long y1), (2, .long v2.toInt64)] [] s1 _
    refine RR.ldc2 dX5_mix_0 pw_w781 ?_
    refine RR.s2 (pc' := 4) (lv' := [(0, .long y1), (2, .long v2.toInt64)]) (st' := [.long y1, .long (31 : Int64)]) dX5_mix_3 rfl ?_
    refine RR.s2 (pc' := 5) (lv' := [(0, .long y1), (2, .long v2.toInt64)]) (st' := [.long ((31 : Int64) * y1)]) dX5_mix_4 rfl ?_
    refine RR.s2 (pc' := 6) (lv' := [(0, .long y1), (2, .long v2.toInt64)]) (st' := [.long v2.toInt64, .long ((31 : Int64) * y1)]) dX5_mix_5 rfl ?_
    refine RR.s2 (pc' := 7) (lv' := [(0, .long y1), (2, .long v2.toInt64)]) (st' := [.long (((31 : Int64) * y1) + v2.toInt64)]) dX5_mix_6 rfl ?_
    refine RR.lret dX5_mix_7 rfl ?_
    show RR 0 25 mX5_digest 38 [(0, .ref 0), (1, .long y1), (3, .int x3)] [.long (((31 : Int64) * y1) + v2.toInt64)] s1 _
    refine RR.s2 (pc' := 39) (lv' := [(0, .ref 0), (1, .long (((31 : Int64) * y1) + v2.toInt64)), (3, .int x3)]) (st' := []) dX5_digest_38 rfl ?_
    refine RR.s2 (pc' := 40) (lv' := [(0, .ref 0), (1, .long (((31 : Int64) * y1) + v2.toInt64)), (3, .int x3)]) (st' := [.ref 0]) dX5_digest_39 rfl ?_
    refine RR.s2 (pc' := 41) (lv' := [(0, .ref 0), (1, .long (((31 : Int64) * y1) + v2.toInt64)), (3, .int x3)]) (st' := [.long (((31 : Int64) * y1) + v2.toInt64), .ref 0]) dX5_digest_40 rfl ?_
    refine RR.cV dX5_digest_41 ml_X5_308 rfl rfl (as := [.long (((31 : Int64) * y1) + v2.toInt64)]) (rest := []) rfl rfl (Nat.le_of_ble_eq_true rfl) (Nat.le_of_ble_eq_true rfl) (by decide) (RR.toL H (fun v4 s3 H => ?_))
    show RR 0 25 mX5_digest 44 [(0, .ref 0), (1, .long (((31 : Int64) * y1) + v2.toInt64)), (3, .int x3)] [.long v4] s3 _
    refine RR.s2 (pc' := 45) (lv' := [(0, .ref 0), (1, .long v4), (3, .int x3)]) (st' := []) dX5_digest_44 rfl ?_
    refine RR.s2 (pc' := 46) (lv' := [(0, .ref 0), (1, .long v4), (3, .int x3)]) (st' := [.ref 0]) dX5_digest_45 rfl ?_
    refine RR.s2 (pc' := 47) (lv' := [(0, .ref 0), (1, .long v4), (3, .int x3)]) (st' := [.long v4, .ref 0]) dX5_digest_46 rfl ?_
    refine RR.cV dX5_digest_47 ml_X5_312 rfl rfl (as := [.long v4]) (rest := []) rfl rfl (Nat.le_of_ble_eq_true rfl) (Nat.le_of_ble_eq_true rfl) (by decide) (RR.toL H (fun v6 s5 H => ?_))
    show RR 0 25 mX5_digest 50 [(0, .ref 0), (1, .long v4), (3, .int x3)] [.long v6] s5 _
    refine RR.s2 (pc' := 51) (lv' := [(0, .ref 0), (1, .long v6), (3, .int x3)]) (st' := []) dX5_digest_50 rfl ?_
    refine RR.s2 (pc' := 52) (lv' := [(0, .ref 0), (1, .long v6), (3, .int x3)]) (st' := [.long v6]) dX5_digest_51 rfl ?_
    refine RR.s2 (pc' := 53) (lv' := [(0, .ref 0), (1, .long v6), (3, .int x3)]) (st' := [.ref 0, .long v6]) dX5_digest_52 rfl ?_
    refine RR.cV dX5_digest_53 ml_X5_315 rfl rfl (as := []) (rest := [.long v6]) rfl rfl (Nat.le_of_ble_eq_true rfl) (Nat.le_of_ble_eq_true rfl) (by decide) (RR.toI H (fun v8 s7 H => ?_))
    show RR 0 25 mX5_digest 56 [(0, .ref 0), (1, .long v6), (3, .int x3)] [.int v8, .long v6] s7 _
    refine RR.s2 (pc' := 57) (lv' := [(0, .ref 0), (1, .long v6), (3, .int x3)]) (st' := [.long v8.toInt64, .long v6]) dX5_digest_56 rfl ?_
    refine RR.cS (d' := 1) dX5_digest_57 ml_X5_301 (as := [.long v6, .long v8.toInt64]) (rest := []) rfl rfl (Nat.le_of_ble_eq_true rfl) (Nat.le_of_ble_eq_true rfl) (by decide) ?_
    show RR 0 1 mX5_mix 0 [(0, .long v6), (2, .long v8.toInt64)] [] s7 _
    refine RR.ldc2 dX5_mix_0 pw_w781 ?_
    refine RR.s2 (pc' := 4) (lv' := [(0, .long v6), (2, .long v8.toInt64)]) (st' := [.long v6, .long (31 : Int64)]) dX5_mix_3 rfl ?_
    refine RR.s2 (pc' := 5) (lv' := [(0, .long v6), (2, .long v8.toInt64)]) (st' := [.long ((31 : Int64) * v6)]) dX5_mix_4 rfl ?_
    refine RR.s2 (pc' := 6) (lv' := [(0, .long v6), (2, .long v8.toInt64)]) (st' := [.long v8.toInt64, .long ((31 : Int64) * v6)]) dX5_mix_5 rfl ?_
    refine RR.s2 (pc' := 7) (lv' := [(0, .long v6), (2, .long v8.toInt64)]) (st' := [.long (((31 : Int64) * v6) + v8.toInt64)]) dX5_mix_6 rfl ?_
    refine RR.lret dX5_mix_7 rfl ?_
    show RR 0 25 mX5_digest 60 [(0, .ref 0), (1, .long v6), (3, .int x3)] [.long (((31 : Int64) * v6) + v8.toInt64)] s7 _
    refine RR.s2 (pc' := 61) (lv' := [(0, .ref 0), (1, .long v6), (3, .int x3)]) (st' := [.ref 0, .long (((31 : Int64) * v6) + v8.toInt64)]) dX5_digest_60 rfl ?_
    refine RR.cV dX5_digest_61 ml_X5_318 rfl rfl (as := []) (rest := [.long (((31 : Int64) * v6) + v8.toInt64)]) rfl rfl (Nat.le_of_ble_eq_true rfl) (Nat.le_of_ble_eq_true rfl) (by decide) (RR.toI H (fun v10 s9 H => ?_))
    show RR 0 25 mX5_digest 64 [(0, .ref 0), (1, .long v6), (3, .int x3)] [.int v10, .long (((31 : Int64) * v6) + v8.toInt64)] s9 _
    refine RR.s2 (pc' := 65) (lv' := [(0, .ref 0), (1, .long v6), (3, .int x3)]) (st' := [.long v10.toInt64, .long (((31 : Int64) * v6) + v8.toInt64)]) dX5_digest_64 rfl ?_
    refine RR.cS (d' := 1) dX5_digest_65 ml_X5_301 (as := [.long (((31 : Int64) * v6) + v8.toInt64), .long v10.toInt64]) (rest := []) rfl rfl (Nat.le_of_ble_eq_true rfl) (Nat.le_of_ble_eq_true rfl) (by decide) ?_
    show RR 0 1 mX5_mix 0 [(0, .long (((31 : Int64) * v6) + v8.toInt64)), (2, .long v10.toInt64)] [] s9 _
    refine RR.ldc2 dX5_mix_0 pw_w781 ?_
    refine RR.s2 (pc' := 4) (lv' := [(0, .long (((31 : Int64) * v6) + v8.toInt64)), (2, .long v10.toInt64)]) (st' := [.long (((31 : Int64) * v6) + v8.toInt64), .long (31 : Int64)]) dX5_mix_3 rfl ?_
    refine RR.s2 (pc' := 5) (lv' := [(0, .long (((31 : Int64) * v6) + v8.toInt64)), (2, .long v10.toInt64)]) (st' := [.long ((31 : Int64) * (((31 : Int64) * v6) + v8.toInt64))]) dX5_mix_4 rfl ?_
    refine RR.s2 (pc' := 6) (lv' := [(0, .long (((31 : Int64) * v6) + v8.toInt64)), (2, .long v10.toInt64)]) (st' := [.long v10.toInt64, .long ((31 : Int64) * (((31 : Int64) * v6) + v8.toInt64))]) dX5_mix_5 rfl ?_
    refine RR.s2 (pc' := 7) (lv' := [(0, .long (((31 : Int64) * v6) + v8.toInt64)), (2, .long v10.toInt64)]) (st' := [.long (((31 : Int64) * (((31 : Int64) * v6) + v8.toInt64)) + v10.toInt64)]) dX5_mix_6 rfl ?_
    refine RR.lret dX5_mix_7 rfl ?_
    show RR 0 25 mX5_digest 68 [(0, .ref 0), (1, .long v6), (3, .int x3)] [.long (((31 : Int64) * (((31 : Int64) * v6) + v8.toInt64)) + v10.toInt64)] s9 _
    refine RR.s2 (pc' := 69) (lv' := [(0, .ref 0), (1, .long (((31 : Int64) * (((31 : Int64) * v6) + v8.toInt64)) + v10.toInt64)), (3, .int x3)]) (st' := []) dX5_digest_68 rfl ?_
    refine RR.s2 (pc' := 70) (lv' := [(0, .ref 0), (1, .long (((31 : Int64) * (((31 : Int64) * v6) + v8.toInt64)) + v10.toInt64)), (3, .int x3)]) (st' := [.ref 0]) dX5_digest_69 rfl ?_
    refine RR.s2 (pc' := 71) (lv' := [(0, .ref 0), (1, .long (((31 : Int64) * (((31 : Int64) * v6) + v8.toInt64)) + v10.toInt64)), (3, .int x3)]) (st' := [.long (((31 : Int64) * (((31 : Int64) * v6) + v8.toInt64)) + v10.toInt64), .ref 0]) dX5_digest_70 rfl ?_
    refine RR.cV dX5_digest_71 ml_X5_321 rfl rfl (as := [.long (((31 : Int64) * (((31 : Int64) * v6) + v8.toInt64)) + v10.toInt64)]) (rest := []) rfl rfl (Nat.le_of_ble_eq_true rfl) (Nat.le_of_ble_eq_true rfl) (by decide) (RR.toL H (fun v12 s11 H => ?_))
    show RR 0 25 mX5_digest 74 [(0, .ref 0), (1, .long (((31 : Int64) * (((31 : Int64) * v6) + v8.toInt64)) + v10.toInt64)), (3, .int x3)] [.long v12] s11 _
    refine RR.s2 (pc' := 75) (lv' := [(0, .ref 0), (1, .long v12), (3, .int x3)]) (st' := []) dX5_digest_74 rfl ?_
    refine RR.s2 (pc' := 76) (lv' := [(0, .ref 0), (1, .long v12), (3, .int x3)]) (st' := [.ref 0]) dX5_digest_75 rfl ?_
    refine RR.s2 (pc' := 77) (lv' := [(0, .ref 0), (1, .long v12), (3, .int x3)]) (st' := [.long v12, .ref 0]) dX5_digest_76 rfl ?_
    refine RR.cV dX5_digest_77 ml_X5_324 rfl rfl (as := [.long v12]) (rest := []) rfl rfl (Nat.le_of_ble_eq_true rfl) (Nat.le_of_ble_eq_true rfl) (by decide) (RR.toL H (fun v14 s13 H => ?_))
    show RR 0 25 mX5_digest 80 [(0, .ref 0), (1, .long v12), (3, .int x3)] [.long v14] s13 _
    refine RR.s2 (pc' := 81) (lv' := [(0, .ref 0), (1, .long v14), (3, .int x3)]) (st' := []) dX5_digest_80 rfl ?_
    refine RR.s2 (pc' := 82) (lv' := [(0, .ref 0), (1, .long v14), (3, .int x3)]) (st' := [.long v14]) dX5_digest_81 rfl ?_
    refine RR.s2 (pc' := 83) (lv' := [(0, .ref 0), (1, .long v14), (3, .int x3)]) (st' := [.ref 0, .long v14]) dX5_digest_82 rfl ?_
    refine RR.ic (v := (-1)) dX5_digest_83 (by decide) ?_
    refine RR.cV dX5_digest_84 ml_X5_327 rfl rfl (as := [.int (-1)]) (rest := [.long v14]) rfl rfl (Nat.le_of_ble_eq_true rfl) (Nat.le_of_ble_eq_true rfl) (by decide) (RR.toI H (fun v16 s15 H => ?_))
    show RR 0 25 mX5_digest 87 [(0, .ref 0), (1, .long v14), (3, .int x3)] [.int v16, .long v14] s15 _
    refine RR.s2 (pc' := 88) (lv' := [(0, .ref 0), (1, .long v14), (3, .int x3)]) (st' := [.long v16.toInt64, .long v14]) dX5_digest_87 rfl ?_
    refine RR.cS (d' := 1) dX5_digest_88 ml_X5_301 (as := [.long v14, .long v16.toInt64]) (rest := []) rfl rfl (Nat.le_of_ble_eq_true rfl) (Nat.le_of_ble_eq_true rfl) (by decide) ?_
    show RR 0 1 mX5_mix 0 [(0, .long v14), (2, .long v16.toInt64)] [] s15 _
    refine RR.ldc2 dX5_mix_0 pw_w781 ?_
    refine RR.s2 (pc' := 4) (lv' := [(0, .long v14), (2, .long v16.toInt64)]) (st' := [.long v14, .long (31 : Int64)]) dX5_mix_3 rfl ?_
    refine RR.s2 (pc' := 5) (lv' := [(0, .long v14), (2, .long v16.toInt64)]) (st' := [.long ((31 : Int64) * v14)]) dX5_mix_4 rfl ?_
    refine RR.s2 (pc' := 6) (lv' := [(0, .long v14), (2, .long v16.toInt64)]) (st' := [.long v16.toInt64, .long ((31 : Int64) * v14)]) dX5_mix_5 rfl ?_
    refine RR.s2 (pc' := 7) (lv' := [(0, .long v14), (2, .long v16.toInt64)]) (st' := [.long (((31 : Int64) * v14) + v16.toInt64)]) dX5_mix_6 rfl ?_
    refine RR.lret dX5_mix_7 rfl ?_
    show RR 0 25 mX5_digest 91 [(0, .ref 0), (1, .long v14), (3, .int x3)] [.long (((31 : Int64) * v14) + v16.toInt64)] s15 _
    refine RR.s2 (pc' := 92) (lv' := [(0, .ref 0), (1, .long v14), (3, .int x3)]) (st' := [.ref 0, .long (((31 : Int64) * v14) + v16.toInt64)]) dX5_digest_91 rfl ?_
    refine RR.ic (v := 0) dX5_digest_92 (by decide) ?_
    refine RR.cV dX5_digest_93 ml_X5_327 rfl rfl (as := [.int 0]) (rest := [.long (((31 : Int64) * v14) + v16.toInt64)]) rfl rfl (Nat.le_of_ble_eq_true rfl) (Nat.le_of_ble_eq_true rfl) (by decide) (RR.toI H (fun v18 s17 H => ?_))
    show RR 0 25 mX5_digest 96 [(0, .ref 0), (1, .long v14), (3, .int x3)] [.int v18, .long (((31 : Int64) * v14) + v16.toInt64)] s17 _
    refine RR.s2 (pc' := 97) (lv' := [(0, .ref 0), (1, .long v14), (3, .int x3)]) (st' := [.long v18.toInt64, .long (((31 : Int64) * v14) + v16.toInt64)]) dX5_digest_96 rfl ?_
    refine RR.cS (d' := 1) dX5_digest_97 ml_X5_301 (as := [.long (((31 : Int64) * v14) + v16.toInt64), .long v18.toInt64]) (rest := []) rfl rfl (Nat.le_of_ble_eq_true rfl) (Nat.le_of_ble_eq_true rfl) (by decide) ?_
    show RR 0 1 mX5_mix 0 [(0, .long (((31 : Int64) * v14) + v16.toInt64)), (2, .long v18.toInt64)] [] s17 _
    refine RR.ldc2 dX5_mix_0 pw_w781 ?_
    refine RR.s2 (pc' := 4) (lv' := [(0, .long (((31 : Int64) * v14) + v16.toInt64)), (2, .long v18.toInt64)]) (st' := [.long (((31 : Int64) * v14) + v16.toInt64), .long (31 : Int64)]) dX5_mix_3 rfl ?_
    refine RR.s2 (pc' := 5) (lv' := [(0, .long (((31 : Int64) * v14) + v16.toInt64)), (2, .long v18.toInt64)]) (st' := [.long ((31 : Int64) * (((31 : Int64) * v14) + v16.toInt64))]) dX5_mix_4 rfl ?_
    refine RR.s2 (pc' := 6) (lv' := [(0, .long (((31 : Int64) * v14) + v16.toInt64)), (2, .long v18.toInt64)]) (st' := [.long v18.toInt64, .long ((31 : Int64) * (((31 : Int64) * v14) + v16.toInt64))]) dX5_mix_5 rfl ?_
    refine RR.s2 (pc' := 7) (lv' := [(0, .long (((31 : Int64) * v14) + v16.toInt64)), (2, .long v18.toInt64)]) (st' := [.long (((31 : Int64) * (((31 : Int64) * v14) + v16.toInt64)) + v18.toInt64)]) dX5_mix_6 rfl ?_
    refine RR.lret dX5_mix_7 rfl ?_
    show RR 0 25 mX5_digest 100 [(0, .ref 0), (1, .long v14), (3, .int x3)] [.long (((31 : Int64) * (((31 : Int64) * v14) + v16.toInt64)) + v18.toInt64)] s17 _
    refine RR.s2 (pc' := 101) (lv' := [(0, .ref 0), (1, .long (((31 : Int64) * (((31 : Int64) * v14) + v16.toInt64)) + v18.toInt64)), (3, .int x3)]) (st' := []) dX5_digest_100 rfl ?_
    refine RR.s2 (pc' := 102) (lv' := [(0, .ref 0), (1, .long (((31 : Int64) * (((31 : Int64) * v14) + v16.toInt64)) + v18.toInt64)), (3, .int x3)]) (st' := [.long (((31 : Int64) * (((31 : Int64) * v14) + v16.toInt64)) + v18.toInt64)]) dX5_digest_101 rfl ?_
    refine RR.s2 (pc' := 103) (lv' := [(0, .ref 0), (1, .long (((31 : Int64) * (((31 : Int64) * v14) + v16.toInt64)) + v18.toInt64)), (3, .int x3)]) (st' := [.ref 0, .long (((31 : Int64) * (((31 : Int64) * v14) + v16.toInt64)) + v18.toInt64)]) dX5_digest_102 rfl ?_
    refine RR.cV dX5_digest_103 ml_X5_330 rfl rfl (as := []) (rest := [.long (((31 : Int64) * (((31 : Int64) * v14) + v16.toInt64)) + v18.toInt64)]) rfl rfl (Nat.le_of_ble_eq_true rfl) (Nat.le_of_ble_eq_true rfl) (by decide) (RR.toI H (fun v20 s19 H => ?_))
    show RR 0 25 mX5_digest 106 [(0, .ref 0), (1, .long (((31 : Int64) * (((31 : Int64) * v14) + v16.toInt64)) + v18.toInt64)), (3, .int x3)] [.int v20, .long (((31 : Int64) * (((31 : Int64) * v14) + v16.toInt64)) + v18.toInt64)] s19 _
    refine RR.s2 (pc' := 107) (lv' := [(0, .ref 0), (1, .long (((31 : Int64) * (((31 : Int64) * v14) + v16.toInt64)) + v18.toInt64)), (3, .int x3)]) (st' := [.long v20.toInt64, .long (((31 : Int64) * (((31 : Int64) * v14) + v16.toInt64)) + v18.toInt64)]) dX5_digest_106 rfl ?_
    refine RR.cS (d' := 1) dX5_digest_107 ml_X5_301 (as := [.long (((31 : Int64) * (((31 : Int64) * v14) + v16.toInt64)) + v18.toInt64), .long v20.toInt64]) (rest := []) rfl rfl (Nat.le_of_ble_eq_true rfl) (Nat.le_of_ble_eq_true rfl) (by decide) ?_
    show RR 0 1 mX5_mix 0 [(0, .long (((31 : Int64) * (((31 : Int64) * v14) + v16.toInt64)) + v18.toInt64)), (2, .long v20.toInt64)] [] s19 _
    refine RR.ldc2 dX5_mix_0 pw_w781 ?_
    refine RR.s2 (pc' := 4) (lv' := [(0, .long (((31 : Int64) * (((31 : Int64) * v14) + v16.toInt64)) + v18.toInt64)), (2, .long v20.toInt64)]) (st' := [.long (((31 : Int64) * (((31 : Int64) * v14) + v16.toInt64)) + v18.toInt64), .long (31 : Int64)]) dX5_mix_3 rfl ?_
    refine RR.s2 (pc' := 5) (lv' := [(0, .long (((31 : Int64) * (((31 : Int64) * v14) + v16.toInt64)) + v18.toInt64)), (2, .long v20.toInt64)]) (st' := [.long ((31 : Int64) * (((31 : Int64) * (((31 : Int64) * v14) + v16.toInt64)) + v18.toInt64))]) dX5_mix_4 rfl ?_
    refine RR.s2 (pc' := 6) (lv' := [(0, .long (((31 : Int64) * (((31 : Int64) * v14) + v16.toInt64)) + v18.toInt64)), (2, .long v20.toInt64)]) (st' := [.long v20.toInt64, .long ((31 : Int64) * (((31 : Int64) * (((31 : Int64) * v14) + v16.toInt64)) + v18.toInt64))]) dX5_mix_5 rfl ?_
    refine RR.s2 (pc' := 7) (lv' := [(0, .long (((31 : Int64) * (((31 : Int64) * v14) + v16.toInt64)) + v18.toInt64)), (2, .long v20.toInt64)]) (st' := [.long (((31 : Int64) * (((31 : Int64) * (((31 : Int64) * v14) + v16.toInt64)) + v18.toInt64)) + v20.toInt64)]) dX5_mix_6 rfl ?_
    refine RR.lret dX5_mix_7 rfl ?_
    show RR 0 25 mX5_digest 110 [(0, .ref 0), (1, .long (((31 : Int64) * (((31 : Int64) * v14) + v16.toInt64)) + v18.toInt64)), (3, .int x3)] [.long (((31 : Int64) * (((31 : Int64) * (((31 : Int64) * v14) + v16.toInt64)) + v18.toInt64)) + v20.toInt64)] s19 _
    refine RR.s2 (pc' := 111) (lv' := [(0, .ref 0), (1, .long (((31 : Int64) * (((31 : Int64) * v14) + v16.toInt64)) + v18.toInt64)), (3, .int x3)]) (st' := [.ref 0, .long (((31 : Int64) * (((31 : Int64) * (((31 : Int64) * v14) + v16.toInt64)) + v18.toInt64)) + v20.toInt64)]) dX5_digest_110 rfl ?_
    refine RR.cV dX5_digest_111 ml_X5_333 rfl rfl (as := []) (rest := [.long (((31 : Int64) * (((31 : Int64) * (((31 : Int64) * v14) + v16.toInt64)) + v18.toInt64)) + v20.toInt64)]) rfl rfl (Nat.le_of_ble_eq_true rfl) (Nat.le_of_ble_eq_true rfl) (by decide) (RR.toI H (fun v22 s21 H => ?_))
    show RR 0 25 mX5_digest 114 [(0, .ref 0), (1, .long (((31 : Int64) * (((31 : Int64) * v14) + v16.toInt64)) + v18.toInt64)), (3, .int x3)] [.int v22, .long (((31 : Int64) * (((31 : Int64) * (((31 : Int64) * v14) + v16.toInt64)) + v18.toInt64)) + v20.toInt64)] s21 _
    refine RR.s2 (pc' := 115) (lv' := [(0, .ref 0), (1, .long (((31 : Int64) * (((31 : Int64) * v14) + v16.toInt64)) + v18.toInt64)), (3, .int x3)]) (st' := [.long v22.toInt64, .long (((31 : Int64) * (((31 : Int64) * (((31 : Int64) * v14) + v16.toInt64)) + v18.toInt64)) + v20.toInt64)]) dX5_digest_114 rfl ?_
    refine RR.cS (d' := 1) dX5_digest_115 ml_X5_301 (as := [.long (((31 : Int64) * (((31 : Int64) * (((31 : Int64) * v14) + v16.toInt64)) + v18.toInt64)) + v20.toInt64), .long v22.toInt64]) (rest := []) rfl rfl (Nat.le_of_ble_eq_true rfl) (Nat.le_of_ble_eq_true rfl) (by decide) ?_
    show RR 0 1 mX5_mix 0 [(0, .long (((31 : Int64) * (((31 : Int64) * (((31 : Int64) * v14) + v16.toInt64)) + v18.toInt64)) + v20.toInt64)), (2, .long v22.toInt64)] [] s21 _
    refine RR.ldc2 dX5_mix_0 pw_w781 ?_
    refine RR.s2 (pc' := 4) (lv' := [(0, .long (((31 : Int64) * (((31 : Int64) * (((31 : Int64) * v14) + v16.toInt64)) + v18.toInt64)) + v20.toInt64)), (2, .long v22.toInt64)]) (st' := [.long (((31 : Int64) * (((31 : Int64) * (((31 : Int64) * v14) + v16.toInt64)) + v18.toInt64)) + v20.toInt64), .long (31 : Int64)]) dX5_mix_3 rfl ?_
    refine RR.s2 (pc' := 5) (lv' := [(0, .long (((31 : Int64) * (((31 : Int64) * (((31 : Int64) * v14) + v16.toInt64)) + v18.toInt64)) + v20.toInt64)), (2, .long v22.toInt64)]) (st' := [.long ((31 : Int64) * (((31 : Int64) * (((31 : Int64) * (((31 : Int64) * v14) + v16.toInt64)) + v18.toInt64)) + v20.toInt64))]) dX5_mix_4 rfl ?_
    refine RR.s2 (pc' := 6) (lv' := [(0, .long (((31 : Int64) * (((31 : Int64) * (((31 : Int64) * v14) + v16.toInt64)) + v18.toInt64)) + v20.toInt64)), (2, .long v22.toInt64)]) (st' := [.long v22.toInt64, .long ((31 : Int64) * (((31 : Int64) * (((31 : Int64) * (((31 : Int64) * v14) + v16.toInt64)) + v18.toInt64)) + v20.toInt64))]) dX5_mix_5 rfl ?_
    refine RR.s2 (pc' := 7) (lv' := [(0, .long (((31 : Int64) * (((31 : Int64) * (((31 : Int64) * v14) + v16.toInt64)) + v18.toInt64)) + v20.toInt64)), (2, .long v22.toInt64)]) (st' := [.long (((31 : Int64) * (((31 : Int64) * (((31 : Int64) * (((31 : Int64) * v14) + v16.toInt64)) + v18.toInt64)) + v20.toInt64)) + v22.toInt64)]) dX5_mix_6 rfl ?_
    refine RR.lret dX5_mix_7 rfl ?_
    show RR 0 25 mX5_digest 118 [(0, .ref 0), (1, .long (((31 : Int64) * (((31 : Int64) * v14) + v16.toInt64)) + v18.toInt64)), (3, .int x3)] [.long (((31 : Int64) * (((31 : Int64) * (((31 : Int64) * (((31 : Int64) * v14) + v16.toInt64)) + v18.toInt64)) + v20.toInt64)) + v22.toInt64)] s21 _
    refine RR.s2 (pc' := 119) (lv' := [(0, .ref 0), (1, .long (((31 : Int64) * (((31 : Int64) * (((31 : Int64) * (((31 : Int64) * v14) + v16.toInt64)) + v18.toInt64)) + v20.toInt64)) + v22.toInt64)), (3, .int x3)]) (st' := []) dX5_digest_118 rfl ?_
    refine RR.s2 (pc' := 120) (lv' := [(0, .ref 0), (1, .long (((31 : Int64) * (((31 : Int64) * (((31 : Int64) * (((31 : Int64) * v14) + v16.toInt64)) + v18.toInt64)) + v20.toInt64)) + v22.toInt64)), (3, .int x3)]) (st' := [.long (((31 : Int64) * (((31 : Int64) * (((31 : Int64) * (((31 : Int64) * v14) + v16.toInt64)) + v18.toInt64)) + v20.toInt64)) + v22.toInt64)]) dX5_digest_119 rfl ?_
    refine RR.s2 (pc' := 121) (lv' := [(0, .ref 0), (1, .long (((31 : Int64) * (((31 : Int64) * (((31 : Int64) * (((31 : Int64) * v14) + v16.toInt64)) + v18.toInt64)) + v20.toInt64)) + v22.toInt64)), (3, .int x3)]) (st' := [.ref 0, .long (((31 : Int64) * (((31 : Int64) * (((31 : Int64) * (((31 : Int64) * v14) + v16.toInt64)) + v18.toInt64)) + v20.toInt64)) + v22.toInt64)]) dX5_digest_120 rfl ?_
    refine RR.bp (v := 7) dX5_digest_121 (by decide) ?_
    refine RR.bp (v := 30) dX5_digest_123 (by decide) ?_
    refine RR.ic (v := 0) dX5_digest_125 (by decide) ?_
    refine RR.cV dX5_digest_126 ml_X5_336 rfl rfl (as := [.int 7, .int 30, .int 0]) (rest := [.long (((31 : Int64) * (((31 : Int64) * (((31 : Int64) * (((31 : Int64) * v14) + v16.toInt64)) + v18.toInt64)) + v20.toInt64)) + v22.toInt64)]) rfl rfl (Nat.le_of_ble_eq_true rfl) (Nat.le_of_ble_eq_true rfl) (by decide) (RR.toI H (fun v24 s23 H => ?_))
    show RR 0 25 mX5_digest 129 [(0, .ref 0), (1, .long (((31 : Int64) * (((31 : Int64) * (((31 : Int64) * (((31 : Int64) * v14) + v16.toInt64)) + v18.toInt64)) + v20.toInt64)) + v22.toInt64)), (3, .int x3)] [.int v24, .long (((31 : Int64) * (((31 : Int64) * (((31 : Int64) * (((31 : Int64) * v14) + v16.toInt64)) + v18.toInt64)) + v20.toInt64)) + v22.toInt64)] s23 _
    refine RR.s2 (pc' := 130) (lv' := [(0, .ref 0), (1, .long (((31 : Int64) * (((31 : Int64) * (((31 : Int64) * (((31 : Int64) * v14) + v16.toInt64)) + v18.toInt64)) + v20.toInt64)) + v22.toInt64)), (3, .int x3)]) (st' := [.long v24.toInt64, .long (((31 : Int64) * (((31 : Int64) * (((31 : Int64) * (((31 : Int64) * v14) + v16.toInt64)) + v18.toInt64)) + v20.toInt64)) + v22.toInt64)]) dX5_digest_129 rfl ?_
    refine RR.cS (d' := 1) dX5_digest_130 ml_X5_301 (as := [.long (((31 : Int64) * (((31 : Int64) * (((31 : Int64) * (((31 : Int64) * v14) + v16.toInt64)) + v18.toInt64)) + v20.toInt64)) + v22.toInt64), .long v24.toInt64]) (rest := []) rfl rfl (Nat.le_of_ble_eq_true rfl) (Nat.le_of_ble_eq_true rfl) (by decide) ?_
    show RR 0 1 mX5_mix 0 [(0, .long (((31 : Int64) * (((31 : Int64) * (((31 : Int64) * (((31 : Int64) * v14) + v16.toInt64)) + v18.toInt64)) + v20.toInt64)) + v22.toInt64)), (2, .long v24.toInt64)] [] s23 _
    refine RR.ldc2 dX5_mix_0 pw_w781 ?_
    refine RR.s2 (pc' := 4) (lv' := [(0, .long (((31 : Int64) * (((31 : Int64) * (((31 : Int64) * (((31 : Int64) * v14) + v16.toInt64)) + v18.toInt64)) + v20.toInt64)) + v22.toInt64)), (2, .long v24.toInt64)]) (st' := [.long (((31 : Int64) * (((31 : Int64) * (((31 : Int64) * (((31 : Int64) * v14) + v16.toInt64)) + v18.toInt64)) + v20.toInt64)) + v22.toInt64), .long (31 : Int64)]) dX5_mix_3 rfl ?_
    refine RR.s2 (pc' := 5) (lv' := [(0, .long (((31 : Int64) * (((31 : Int64) * (((31 : Int64) * (((31 : Int64) * v14) + v16.toInt64)) + v18.toInt64)) + v20.toInt64)) + v22.toInt64)), (2, .long v24.toInt64)]) (st' := [.long ((31 : Int64) * (((31 : Int64) * (((31 : Int64) * (((31 : Int64) * (((31 : Int64) * v14) + v16.toInt64)) + v18.toInt64)) + v20.toInt64)) + v22.toInt64))]) dX5_mix_4 rfl ?_
    refine RR.s2 (pc' := 6) (lv' := [(0, .long (((31 : Int64) * (((31 : Int64) * (((31 : Int64) * (((31 : Int64) * v14) + v16.toInt64)) + v18.toInt64)) + v20.toInt64)) + v22.toInt64)), (2, .long v24.toInt64)]) (st' := [.long v24.toInt64, .long ((31 : Int64) * (((31 : Int64) * (((31 : Int64) * (((31 : Int64) * (((31 : Int64) * v14) + v16.toInt64)) + v18.toInt64)) + v20.toInt64)) + v22.toInt64))]) dX5_mix_5 rfl ?_
    refine RR.s2 (pc' := 7) (lv' := [(0, .long (((31 : Int64) * (((31 : Int64) * (((31 : Int64) * (((31 : Int64) * v14) + v16.toInt64)) + v18.toInt64)) + v20.toInt64)) + v22.toInt64)), (2, .long v24.toInt64)]) (st' := [.long (((31 : Int64) * (((31 : Int64) * (((31 : Int64) * (((31 : Int64) * (((31 : Int64) * v14) + v16.toInt64)) + v18.toInt64)) + v20.toInt64)) + v22.toInt64)) + v24.toInt64)]) dX5_mix_6 rfl ?_
    refine RR.lret dX5_mix_7 rfl ?_
    show RR 0 25 mX5_digest 133 [(0, .ref 0), (1, .long (((31 : Int64) * (((31 : Int64) * (((31 : Int64) * (((31 : Int64) * v14) + v16.toInt64)) + v18.toInt64)) + v20.toInt64)) + v22.toInt64)), (3, .int x3)] [.long (((31 : Int64) * (((31 : Int64) * (((31 : Int64) * (((31 : Int64) * (((31 : Int64) * v14) + v16.toInt64)) + v18.toInt64)) + v20.toInt64)) + v22.toInt64)) + v24.toInt64)] s23 _
    refine RR.s2 (pc' := 134) (lv' := [(0, .ref 0), (1, .long (((31 : Int64) * (((31 : Int64) * (((31 : Int64) * (((31 : Int64) * v14) + v16.toInt64)) + v18.toInt64)) + v20.toInt64)) + v22.toInt64)), (3, .int x3)]) (st' := [.ref 0, .long (((31 : Int64) * (((31 : Int64) * (((31 : Int64) * (((31 : Int64) * (((31 : Int64) * v14) + v16.toInt64)) + v18.toInt64)) + v20.toInt64)) + v22.toInt64)) + v24.toInt64)]) dX5_digest_133 rfl ?_
    refine RR.bp (v := 7) dX5_digest_134 (by decide) ?_
    refine RR.bp (v := 30) dX5_digest_136 (by decide) ?_
    refine RR.ic (v := 1) dX5_digest_138 (by decide) ?_
    refine RR.cV dX5_digest_139 ml_X5_336 rfl rfl (as := [.int 7, .int 30, .int 1]) (rest := [.long (((31 : Int64) * (((31 : Int64) * (((31 : Int64) * (((31 : Int64) * (((31 : Int64) * v14) + v16.toInt64)) + v18.toInt64)) + v20.toInt64)) + v22.toInt64)) + v24.toInt64)]) rfl rfl (Nat.le_of_ble_eq_true rfl) (Nat.le_of_ble_eq_true rfl) (by decide) (RR.toI H (fun v26 s25 H => ?_))
    show RR 0 25 mX5_digest 142 [(0, .ref 0), (1, .long (((31 : Int64) * (((31 : Int64) * (((31 : Int64) * (((31 : Int64) * v14) + v16.toInt64)) + v18.toInt64)) + v20.toInt64)) + v22.toInt64)), (3, .int x3)] [.int v26, .long (((31 : Int64) * (((31 : Int64) * (((31 : Int64) * (((31 : Int64) * (((31 : Int64) * v14) + v16.toInt64)) + v18.toInt64)) + v20.toInt64)) + v22.toInt64)) + v24.toInt64)] s25 _
    refine RR.s2 (pc' := 143) (lv' := [(0, .ref 0), (1, .long (((31 : Int64) * (((31 : Int64) * (((31 : Int64) * (((31 : Int64) * v14) + v16.toInt64)) + v18.toInt64)) + v20.toInt64)) + v22.toInt64)), (3, .int x3)]) (st' := [.long v26.toInt64, .long (((31 : Int64) * (((31 : Int64) * (((31 : Int64) * (((31 : Int64) * (((31 : Int64) * v14) + v16.toInt64)) + v18.toInt64)) + v20.toInt64)) + v22.toInt64)) + v24.toInt64)]) dX5_digest_142 rfl ?_
    refine RR.cS (d' := 1) dX5_digest_143 ml_X5_301 (as := [.long (((31 : Int64) * (((31 : Int64) * (((31 : Int64) * (((31 : Int64) * (((31 : Int64) * v14) + v16.toInt64)) + v18.toInt64)) + v20.toInt64)) + v22.toInt64)) + v24.toInt64), .long v26.toInt64]) (rest := []) rfl rfl (Nat.le_of_ble_eq_true rfl) (Nat.le_of_ble_eq_true rfl) (by decide) ?_
    show RR 0 1 mX5_mix 0 [(0, .long (((31 : Int64) * (((31 : Int64) * (((31 : Int64) * (((31 : Int64) * (((31 : Int64) * v14) + v16.toInt64)) + v18.toInt64)) + v20.toInt64)) + v22.toInt64)) + v24.toInt64)), (2, .long v26.toInt64)] [] s25 _
    refine RR.ldc2 dX5_mix_0 pw_w781 ?_
    refine RR.s2 (pc' := 4) (lv' := [(0, .long (((31 : Int64) * (((31 : Int64) * (((31 : Int64) * (((31 : Int64) * (((31 : Int64) * v14) + v16.toInt64)) + v18.toInt64)) + v20.toInt64)) + v22.toInt64)) + v24.toInt64)), (2, .long v26.toInt64)]) (st' := [.long (((31 : Int64) * (((31 : Int64) * (((31 : Int64) * (((31 : Int64) * (((31 : Int64) * v14) + v16.toInt64)) + v18.toInt64)) + v20.toInt64)) + v22.toInt64)) + v24.toInt64), .long (31 : Int64)]) dX5_mix_3 rfl ?_
    refine RR.s2 (pc' := 5) (lv' := [(0, .long (((31 : Int64) * (((31 : Int64) * (((31 : Int64) * (((31 : Int64) * (((31 : Int64) * v14) + v16.toInt64)) + v18.toInt64)) + v20.toInt64)) + v22.toInt64)) + v24.toInt64)), (2, .long v26.toInt64)]) (st' := [.long ((31 : Int64) * (((31 : Int64) * (((31 : Int64) * (((31 : Int64) * (((31 : Int64) * (((31 : Int64) * v14) + v16.toInt64)) + v18.toInt64)) + v20.toInt64)) + v22.toInt64)) + v24.toInt64))]) dX5_mix_4 rfl ?_
    refine RR.s2 (pc' := 6) (lv' := [(0, .long (((31 : Int64) * (((31 : Int64) * (((31 : Int64) * (((31 : Int64) * (((31 : Int64) * v14) + v16.toInt64)) + v18.toInt64)) + v20.toInt64)) + v22.toInt64)) + v24.toInt64)), (2, .long v26.toInt64)]) (st' := [.long v26.toInt64, .long ((31 : Int64) * (((31 : Int64) * (((31 : Int64) * (((31 : Int64) * (((31 : Int64) * (((31 : Int64) * v14) + v16.toInt64)) + v18.toInt64)) + v20.toInt64)) + v22.toInt64)) + v24.toInt64))]) dX5_mix_5 rfl ?_
    refine RR.s2 (pc' := 7) (lv' := [(0, .long (((31 : Int64) * (((31 : Int64) * (((31 : Int64) * (((31 : Int64) * (((31 : Int64) * v14) + v16.toInt64)) + v18.toInt64)) + v20.toInt64)) + v22.toInt64)) + v24.toInt64)), (2, .long v26.toInt64)]) (st' := [.long (((31 : Int64) * (((31 : Int64) * (((31 : Int64) * (((31 : Int64) * (((31 : Int64) * (((31 : Int64) * v14) + v16.toInt64)) + v18.toInt64)) + v20.toInt64)) + v22.toInt64)) + v24.toInt64)) + v26.toInt64)]) dX5_mix_6 rfl ?_
    refine RR.lret dX5_mix_7 rfl ?_
    show RR 0 25 mX5_digest 146 [(0, .ref 0), (1, .long (((31 : Int64) * (((31 : Int64) * (((31 : Int64) * (((31 : Int64) * v14) + v16.toInt64)) + v18.toInt64)) + v20.toInt64)) + v22.toInt64)), (3, .int x3)] [.long (((31 : Int64) * (((31 : Int64) * (((31 : Int64) * (((31 : Int64) * (((31 : Int64) * (((31 : Int64) * v14) + v16.toInt64)) + v18.toInt64)) + v20.toInt64)) + v22.toInt64)) + v24.toInt64)) + v26.toInt64)] s25 _
    exact RR.lret dX5_digest_146 rfl ⟨_, rfl, H⟩
  · have H := H.2 c
    refine RR.s2 (pc' := 13) (lv' := [(0, .ref 0), (1, .long y1), (3, .int x3)]) (st' := [.long y1]) dX5_digest_12 rfl ?_
    refine RR.s2 (pc' := 14) (lv' := [(0, .ref 0), (1, .long y1), (3, .int x3)]) (st' := [.ref 0, .long y1]) dX5_digest_13 rfl ?_
    refine RR.s2 (pc' := 15) (lv' := [(0, .ref 0), (1, .long y1), (3, .int x3)]) (st' := [.int x3, .ref 0, .long y1]) dX5_digest_14 rfl ?_
    refine RR.cV dX5_digest_15 ml_X5_298 rfl rfl (as := [.int x3]) (rest := [.long y1]) rfl rfl (Nat.le_of_ble_eq_true rfl) (Nat.le_of_ble_eq_true rfl) (by decide) (RR.toI H (fun v28 s27 H => ?_))
    show RR 0 25 mX5_digest 18 [(0, .ref 0), (1, .long y1), (3, .int x3)] [.int v28, .long y1] s27 _
    refine RR.s2 (pc' := 19) (lv' := [(0, .ref 0), (1, .long y1), (3, .int x3)]) (st' := [.long v28.toInt64, .long y1]) dX5_digest_18 rfl ?_
    refine RR.cS (d' := 1) dX5_digest_19 ml_X5_301 (as := [.long y1, .long v28.toInt64]) (rest := []) rfl rfl (Nat.le_of_ble_eq_true rfl) (Nat.le_of_ble_eq_true rfl) (by decide) ?_
    show RR 0 1 mX5_mix 0 [(0, .long y1), (2, .long v28.toInt64)] [] s27 _
    refine RR.ldc2 dX5_mix_0 pw_w781 ?_
    refine RR.s2 (pc' := 4) (lv' := [(0, .long y1), (2, .long v28.toInt64)]) (st' := [.long y1, .long (31 : Int64)]) dX5_mix_3 rfl ?_
    refine RR.s2 (pc' := 5) (lv' := [(0, .long y1), (2, .long v28.toInt64)]) (st' := [.long ((31 : Int64) * y1)]) dX5_mix_4 rfl ?_
    refine RR.s2 (pc' := 6) (lv' := [(0, .long y1), (2, .long v28.toInt64)]) (st' := [.long v28.toInt64, .long ((31 : Int64) * y1)]) dX5_mix_5 rfl ?_
    refine RR.s2 (pc' := 7) (lv' := [(0, .long y1), (2, .long v28.toInt64)]) (st' := [.long (((31 : Int64) * y1) + v28.toInt64)]) dX5_mix_6 rfl ?_
    refine RR.lret dX5_mix_7 rfl ?_
    show RR 0 25 mX5_digest 22 [(0, .ref 0), (1, .long y1), (3, .int x3)] [.long (((31 : Int64) * y1) + v28.toInt64)] s27 _
    refine RR.s2 (pc' := 23) (lv' := [(0, .ref 0), (1, .long (((31 : Int64) * y1) + v28.toInt64)), (3, .int x3)]) (st' := []) dX5_digest_22 rfl ?_
    refine RR.inc (c := 1) (lv' := [(0, .ref 0), (1, .long (((31 : Int64) * y1) + v28.toInt64)), (3, .int (x3 + 1))]) dX5_digest_23 rfl (by decide) (by decide) rfl ?_
    refine RR.s2 (pc' := 6) (lv' := [(0, .ref 0), (1, .long (((31 : Int64) * y1) + v28.toInt64)), (3, .int (x3 + 1))]) (st' := []) dX5_digest_26 rfl ?_
    exact RR.cut [0, 1, 2] rfl H
set_option maxRecDepth 20000 in
theorem b_X5_mixDeeds {σ : r_St} {K : Int64 → r_St → Prop} {y1 : Int64}  (H : R_X5_mixDeeds_5 σ K y1 0) : M_X5_mixDeeds σ K y1 := by
  show RR 0 7 mX5_mixDeeds 0 [(0, .ref 0), (1, .long y1)] [] σ (rL K)
  refine RR.s2 (pc' := 1) (lv' := [(0, .ref 0), (1, .long y1)]) (st' := [.long y1]) dX5_mixDeeds_0 rfl ?_
  refine RR.s2 (pc' := 2) (lv' := [(0, .ref 0), (1, .long y1), (3, .long y1)]) (st' := []) dX5_mixDeeds_1 rfl ?_
  refine RR.ic (v := 0) dX5_mixDeeds_2 (by decide) ?_
  refine RR.s2 (pc' := 5) (lv' := [(0, .ref 0), (1, .long y1), (3, .long y1), (5, .int 0)]) (st' := []) dX5_mixDeeds_3 rfl ?_
  exact RR.cut [0, 2, 3] rfl H
set_option maxRecDepth 20000 in
theorem b_X5_mixDeeds_5 {σ : r_St} {K : Int64 → r_St → Prop} {y3 : Int64} {x5 : Int32}  (H : (σ.1 1 4 ≤ x5 → K y3 σ) ∧ (¬ (σ.1 1 4 ≤ x5) → M_X5_deed σ (fun v2 s1 => M_X5_deed s1 (fun v4 s3 => M_X5_deed s3 (fun v6 s5 => M_X5_crossing s5 (fun v8 s7 => M_X5_soonest s7 (fun v10 s9 => M_X5_cheapest s9 (fun v12 s11 => M_X5_cheapest s11 (fun v14 s13 => M_X5_chance s13 (fun v16 s15 => M_X5_chance s15 (fun v18 s17 => R_X5_mixDeeds_5 s17 K (((31 : Int64) * (((31 : Int64) * (((31 : Int64) * (((31 : Int64) * (((31 : Int64) * (((31 : Int64) * (((31 : Int64) * (((31 : Int64) * (((31 : Int64) * y3) + v2.toInt64)) + v4.toInt64)) + v6.toInt64)) + v8.toInt64)) + v10.toInt64)) + v12.toInt64)) + v14.toInt64)) + v16)) + v18) (x5 + 1)) 5 3 x5 4 1) 5 3 x5 4 0) x5 4 2 1) x5 4 2 0) x5 3 5) x5) x5 2) x5 1) x5 0)) : R_X5_mixDeeds_5 σ K y3 x5 := by
  show RR 0 7 mX5_mixDeeds 5 [(0, .ref 0), (3, .long y3), (5, .int x5)] [] σ (rL K)
  refine RR.s2 (pc' := 7) (lv' := [(0, .ref 0), (3, .long y3), (5, .int x5)]) (st' := [.int x5]) dX5_mixDeeds_5 rfl ?_
  refine RR.s2 (pc' := 8) (lv' := [(0, .ref 0), (3, .long y3), (5, .int x5)]) (st' := [.ref 0, .int x5]) dX5_mixDeeds_7 rfl ?_
  refine RR.getR dX5_mixDeeds_8 fl_X5_12 rfl rfl ?_
  refine RR.cV (d' := 1) dX5_mixDeeds_11 ml_X5_226 rfl rfl (as := []) (rest := [.int x5]) rfl rfl (Nat.le_of_ble_eq_true rfl) (Nat.le_of_ble_eq_true rfl) (by decide) ?_
  show RR 0 1 mX0_number 0 [(0, .ref 1)] [] σ _
  refine RR.s2 (pc' := 1) (lv' := [(0, .ref 1)]) (st' := [.ref 1]) dX0_number_0 rfl ?_
  refine RR.getI dX0_number_1 fl_X0_25 rfl rfl ?_
  refine RR.iret dX0_number_4 rfl ?_
  show RR 0 7 mX5_mixDeeds 14 [(0, .ref 0), (3, .long y3), (5, .int x5)] [.int (σ.1 1 4), .int x5] σ _
  refine RR.br dX5_mixDeeds_14 rfl (fun c => ?_) (fun c => ?_)
  · have H := H.1 c
    refine RR.s2 (pc' := 139) (lv' := [(0, .ref 0), (3, .long y3), (5, .int x5)]) (st' := [.long y3]) dX5_mixDeeds_138 rfl ?_
    exact RR.lret dX5_mixDeeds_139 rfl ⟨_, rfl, H⟩
  · have H := H.2 c
    refine RR.s2 (pc' := 18) (lv' := [(0, .ref 0), (3, .long y3), (5, .int x5)]) (st' := [.long y3]) dX5_mixDeeds_17 rfl ?_
    refine RR.s2 (pc' := 19) (lv' := [(0, .ref 0), (3, .long y3), (5, .int x5)]) (st' := [.ref 0, .long y3]) dX5_mixDeeds_18 rfl ?_
    refine RR.s2 (pc' := 21) (lv' := [(0, .ref 0), (3, .long y3), (5, .int x5)]) (st' := [.int x5, .ref 0, .long y3]) dX5_mixDeeds_19 rfl ?_
    refine RR.ic (v := 0) dX5_mixDeeds_21 (by decide) ?_
    refine RR.cV dX5_mixDeeds_22 ml_X5_341 rfl rfl (as := [.int x5, .int 0]) (rest := [.long y3]) rfl rfl (Nat.le_of_ble_eq_true rfl) (Nat.le_of_ble_eq_true rfl) (by decide) (RR.toI H (fun v2 s1 H => ?_))
    show RR 0 7 mX5_mixDeeds 25 [(0, .ref 0), (3, .long y3), (5, .int x5)] [.int v2, .long y3] s1 _
    refine RR.s2 (pc' := 26) (lv' := [(0, .ref 0), (3, .long y3), (5, .int x5)]) (st' := [.long v2.toInt64, .long y3]) dX5_mixDeeds_25 rfl ?_
    refine RR.cS (d' := 1) dX5_mixDeeds_26 ml_X5_301 (as := [.long y3, .long v2.toInt64]) (rest := []) rfl rfl (Nat.le_of_ble_eq_true rfl) (Nat.le_of_ble_eq_true rfl) (by decide) ?_
    show RR 0 1 mX5_mix 0 [(0, .long y3), (2, .long v2.toInt64)] [] s1 _
    refine RR.ldc2 dX5_mix_0 pw_w781 ?_
    refine RR.s2 (pc' := 4) (lv' := [(0, .long y3), (2, .long v2.toInt64)]) (st' := [.long y3, .long (31 : Int64)]) dX5_mix_3 rfl ?_
    refine RR.s2 (pc' := 5) (lv' := [(0, .long y3), (2, .long v2.toInt64)]) (st' := [.long ((31 : Int64) * y3)]) dX5_mix_4 rfl ?_
    refine RR.s2 (pc' := 6) (lv' := [(0, .long y3), (2, .long v2.toInt64)]) (st' := [.long v2.toInt64, .long ((31 : Int64) * y3)]) dX5_mix_5 rfl ?_
    refine RR.s2 (pc' := 7) (lv' := [(0, .long y3), (2, .long v2.toInt64)]) (st' := [.long (((31 : Int64) * y3) + v2.toInt64)]) dX5_mix_6 rfl ?_
    refine RR.lret dX5_mix_7 rfl ?_
    show RR 0 7 mX5_mixDeeds 29 [(0, .ref 0), (3, .long y3), (5, .int x5)] [.long (((31 : Int64) * y3) + v2.toInt64)] s1 _
    refine RR.s2 (pc' := 30) (lv' := [(0, .ref 0), (3, .long y3), (5, .int x5)]) (st' := [.ref 0, .long (((31 : Int64) * y3) + v2.toInt64)]) dX5_mixDeeds_29 rfl ?_
    refine RR.s2 (pc' := 32) (lv' := [(0, .ref 0), (3, .long y3), (5, .int x5)]) (st' := [.int x5, .ref 0, .long (((31 : Int64) * y3) + v2.toInt64)]) dX5_mixDeeds_30 rfl ?_
    refine RR.ic (v := 1) dX5_mixDeeds_32 (by decide) ?_
    refine RR.cV dX5_mixDeeds_33 ml_X5_341 rfl rfl (as := [.int x5, .int 1]) (rest := [.long (((31 : Int64) * y3) + v2.toInt64)]) rfl rfl (Nat.le_of_ble_eq_true rfl) (Nat.le_of_ble_eq_true rfl) (by decide) (RR.toI H (fun v4 s3 H => ?_))
    show RR 0 7 mX5_mixDeeds 36 [(0, .ref 0), (3, .long y3), (5, .int x5)] [.int v4, .long (((31 : Int64) * y3) + v2.toInt64)] s3 _
    refine RR.s2 (pc' := 37) (lv' := [(0, .ref 0), (3, .long y3), (5, .int x5)]) (st' := [.long v4.toInt64, .long (((31 : Int64) * y3) + v2.toInt64)]) dX5_mixDeeds_36 rfl ?_
    refine RR.cS (d' := 1) dX5_mixDeeds_37 ml_X5_301 (as := [.long (((31 : Int64) * y3) + v2.toInt64), .long v4.toInt64]) (rest := []) rfl rfl (Nat.le_of_ble_eq_true rfl) (Nat.le_of_ble_eq_true rfl) (by decide) ?_
    show RR 0 1 mX5_mix 0 [(0, .long (((31 : Int64) * y3) + v2.toInt64)), (2, .long v4.toInt64)] [] s3 _
    refine RR.ldc2 dX5_mix_0 pw_w781 ?_
    refine RR.s2 (pc' := 4) (lv' := [(0, .long (((31 : Int64) * y3) + v2.toInt64)), (2, .long v4.toInt64)]) (st' := [.long (((31 : Int64) * y3) + v2.toInt64), .long (31 : Int64)]) dX5_mix_3 rfl ?_
    refine RR.s2 (pc' := 5) (lv' := [(0, .long (((31 : Int64) * y3) + v2.toInt64)), (2, .long v4.toInt64)]) (st' := [.long ((31 : Int64) * (((31 : Int64) * y3) + v2.toInt64))]) dX5_mix_4 rfl ?_
    refine RR.s2 (pc' := 6) (lv' := [(0, .long (((31 : Int64) * y3) + v2.toInt64)), (2, .long v4.toInt64)]) (st' := [.long v4.toInt64, .long ((31 : Int64) * (((31 : Int64) * y3) + v2.toInt64))]) dX5_mix_5 rfl ?_
    refine RR.s2 (pc' := 7) (lv' := [(0, .long (((31 : Int64) * y3) + v2.toInt64)), (2, .long v4.toInt64)]) (st' := [.long (((31 : Int64) * (((31 : Int64) * y3) + v2.toInt64)) + v4.toInt64)]) dX5_mix_6 rfl ?_
    refine RR.lret dX5_mix_7 rfl ?_
    show RR 0 7 mX5_mixDeeds 40 [(0, .ref 0), (3, .long y3), (5, .int x5)] [.long (((31 : Int64) * (((31 : Int64) * y3) + v2.toInt64)) + v4.toInt64)] s3 _
    refine RR.s2 (pc' := 41) (lv' := [(0, .ref 0), (3, .long y3), (5, .int x5)]) (st' := [.ref 0, .long (((31 : Int64) * (((31 : Int64) * y3) + v2.toInt64)) + v4.toInt64)]) dX5_mixDeeds_40 rfl ?_
    refine RR.s2 (pc' := 43) (lv' := [(0, .ref 0), (3, .long y3), (5, .int x5)]) (st' := [.int x5, .ref 0, .long (((31 : Int64) * (((31 : Int64) * y3) + v2.toInt64)) + v4.toInt64)]) dX5_mixDeeds_41 rfl ?_
    refine RR.ic (v := 2) dX5_mixDeeds_43 (by decide) ?_
    refine RR.cV dX5_mixDeeds_44 ml_X5_341 rfl rfl (as := [.int x5, .int 2]) (rest := [.long (((31 : Int64) * (((31 : Int64) * y3) + v2.toInt64)) + v4.toInt64)]) rfl rfl (Nat.le_of_ble_eq_true rfl) (Nat.le_of_ble_eq_true rfl) (by decide) (RR.toI H (fun v6 s5 H => ?_))
    show RR 0 7 mX5_mixDeeds 47 [(0, .ref 0), (3, .long y3), (5, .int x5)] [.int v6, .long (((31 : Int64) * (((31 : Int64) * y3) + v2.toInt64)) + v4.toInt64)] s5 _
    refine RR.s2 (pc' := 48) (lv' := [(0, .ref 0), (3, .long y3), (5, .int x5)]) (st' := [.long v6.toInt64, .long (((31 : Int64) * (((31 : Int64) * y3) + v2.toInt64)) + v4.toInt64)]) dX5_mixDeeds_47 rfl ?_
    refine RR.cS (d' := 1) dX5_mixDeeds_48 ml_X5_301 (as := [.long (((31 : Int64) * (((31 : Int64) * y3) + v2.toInt64)) + v4.toInt64), .long v6.toInt64]) (rest := []) rfl rfl (Nat.le_of_ble_eq_true rfl) (Nat.le_of_ble_eq_true rfl) (by decide) ?_
    show RR 0 1 mX5_mix 0 [(0, .long (((31 : Int64) * (((31 : Int64) * y3) + v2.toInt64)) + v4.toInt64)), (2, .long v6.toInt64)] [] s5 _
    refine RR.ldc2 dX5_mix_0 pw_w781 ?_
    refine RR.s2 (pc' := 4) (lv' := [(0, .long (((31 : Int64) * (((31 : Int64) * y3) + v2.toInt64)) + v4.toInt64)), (2, .long v6.toInt64)]) (st' := [.long (((31 : Int64) * (((31 : Int64) * y3) + v2.toInt64)) + v4.toInt64), .long (31 : Int64)]) dX5_mix_3 rfl ?_
    refine RR.s2 (pc' := 5) (lv' := [(0, .long (((31 : Int64) * (((31 : Int64) * y3) + v2.toInt64)) + v4.toInt64)), (2, .long v6.toInt64)]) (st' := [.long ((31 : Int64) * (((31 : Int64) * (((31 : Int64) * y3) + v2.toInt64)) + v4.toInt64))]) dX5_mix_4 rfl ?_
    refine RR.s2 (pc' := 6) (lv' := [(0, .long (((31 : Int64) * (((31 : Int64) * y3) + v2.toInt64)) + v4.toInt64)), (2, .long v6.toInt64)]) (st' := [.long v6.toInt64, .long ((31 : Int64) * (((31 : Int64) * (((31 : Int64) * y3) + v2.toInt64)) + v4.toInt64))]) dX5_mix_5 rfl ?_
    refine RR.s2 (pc' := 7) (lv' := [(0, .long (((31 : Int64) * (((31 : Int64) * y3) + v2.toInt64)) + v4.toInt64)), (2, .long v6.toInt64)]) (st' := [.long (((31 : Int64) * (((31 : Int64) * (((31 : Int64) * y3) + v2.toInt64)) + v4.toInt64)) + v6.toInt64)]) dX5_mix_6 rfl ?_
    refine RR.lret dX5_mix_7 rfl ?_
    show RR 0 7 mX5_mixDeeds 51 [(0, .ref 0), (3, .long y3), (5, .int x5)] [.long (((31 : Int64) * (((31 : Int64) * (((31 : Int64) * y3) + v2.toInt64)) + v4.toInt64)) + v6.toInt64)] s5 _
    refine RR.s2 (pc' := 52) (lv' := [(0, .ref 0), (3, .long (((31 : Int64) * (((31 : Int64) * (((31 : Int64) * y3) + v2.toInt64)) + v4.toInt64)) + v6.toInt64)), (5, .int x5)]) (st' := []) dX5_mixDeeds_51 rfl ?_
    refine RR.s2 (pc' := 53) (lv' := [(0, .ref 0), (3, .long (((31 : Int64) * (((31 : Int64) * (((31 : Int64) * y3) + v2.toInt64)) + v4.toInt64)) + v6.toInt64)), (5, .int x5)]) (st' := [.long (((31 : Int64) * (((31 : Int64) * (((31 : Int64) * y3) + v2.toInt64)) + v4.toInt64)) + v6.toInt64)]) dX5_mixDeeds_52 rfl ?_
    refine RR.s2 (pc' := 54) (lv' := [(0, .ref 0), (3, .long (((31 : Int64) * (((31 : Int64) * (((31 : Int64) * y3) + v2.toInt64)) + v4.toInt64)) + v6.toInt64)), (5, .int x5)]) (st' := [.ref 0, .long (((31 : Int64) * (((31 : Int64) * (((31 : Int64) * y3) + v2.toInt64)) + v4.toInt64)) + v6.toInt64)]) dX5_mixDeeds_53 rfl ?_
    refine RR.s2 (pc' := 56) (lv' := [(0, .ref 0), (3, .long (((31 : Int64) * (((31 : Int64) * (((31 : Int64) * y3) + v2.toInt64)) + v4.toInt64)) + v6.toInt64)), (5, .int x5)]) (st' := [.int x5, .ref 0, .long (((31 : Int64) * (((31 : Int64) * (((31 : Int64) * y3) + v2.toInt64)) + v4.toInt64)) + v6.toInt64)]) dX5_mixDeeds_54 rfl ?_
    refine RR.cV dX5_mixDeeds_56 ml_X5_344 rfl rfl (as := [.int x5]) (rest := [.long (((31 : Int64) * (((31 : Int64) * (((31 : Int64) * y3) + v2.toInt64)) + v4.toInt64)) + v6.toInt64)]) rfl rfl (Nat.le_of_ble_eq_true rfl) (Nat.le_of_ble_eq_true rfl) (by decide) (RR.toI H (fun v8 s7 H => ?_))
    show RR 0 7 mX5_mixDeeds 59 [(0, .ref 0), (3, .long (((31 : Int64) * (((31 : Int64) * (((31 : Int64) * y3) + v2.toInt64)) + v4.toInt64)) + v6.toInt64)), (5, .int x5)] [.int v8, .long (((31 : Int64) * (((31 : Int64) * (((31 : Int64) * y3) + v2.toInt64)) + v4.toInt64)) + v6.toInt64)] s7 _
    refine RR.s2 (pc' := 60) (lv' := [(0, .ref 0), (3, .long (((31 : Int64) * (((31 : Int64) * (((31 : Int64) * y3) + v2.toInt64)) + v4.toInt64)) + v6.toInt64)), (5, .int x5)]) (st' := [.long v8.toInt64, .long (((31 : Int64) * (((31 : Int64) * (((31 : Int64) * y3) + v2.toInt64)) + v4.toInt64)) + v6.toInt64)]) dX5_mixDeeds_59 rfl ?_
    refine RR.cS (d' := 1) dX5_mixDeeds_60 ml_X5_301 (as := [.long (((31 : Int64) * (((31 : Int64) * (((31 : Int64) * y3) + v2.toInt64)) + v4.toInt64)) + v6.toInt64), .long v8.toInt64]) (rest := []) rfl rfl (Nat.le_of_ble_eq_true rfl) (Nat.le_of_ble_eq_true rfl) (by decide) ?_
    show RR 0 1 mX5_mix 0 [(0, .long (((31 : Int64) * (((31 : Int64) * (((31 : Int64) * y3) + v2.toInt64)) + v4.toInt64)) + v6.toInt64)), (2, .long v8.toInt64)] [] s7 _
    refine RR.ldc2 dX5_mix_0 pw_w781 ?_
    refine RR.s2 (pc' := 4) (lv' := [(0, .long (((31 : Int64) * (((31 : Int64) * (((31 : Int64) * y3) + v2.toInt64)) + v4.toInt64)) + v6.toInt64)), (2, .long v8.toInt64)]) (st' := [.long (((31 : Int64) * (((31 : Int64) * (((31 : Int64) * y3) + v2.toInt64)) + v4.toInt64)) + v6.toInt64), .long (31 : Int64)]) dX5_mix_3 rfl ?_
    refine RR.s2 (pc' := 5) (lv' := [(0, .long (((31 : Int64) * (((31 : Int64) * (((31 : Int64) * y3) + v2.toInt64)) + v4.toInt64)) + v6.toInt64)), (2, .long v8.toInt64)]) (st' := [.long ((31 : Int64) * (((31 : Int64) * (((31 : Int64) * (((31 : Int64) * y3) + v2.toInt64)) + v4.toInt64)) + v6.toInt64))]) dX5_mix_4 rfl ?_
    refine RR.s2 (pc' := 6) (lv' := [(0, .long (((31 : Int64) * (((31 : Int64) * (((31 : Int64) * y3) + v2.toInt64)) + v4.toInt64)) + v6.toInt64)), (2, .long v8.toInt64)]) (st' := [.long v8.toInt64, .long ((31 : Int64) * (((31 : Int64) * (((31 : Int64) * (((31 : Int64) * y3) + v2.toInt64)) + v4.toInt64)) + v6.toInt64))]) dX5_mix_5 rfl ?_
    refine RR.s2 (pc' := 7) (lv' := [(0, .long (((31 : Int64) * (((31 : Int64) * (((31 : Int64) * y3) + v2.toInt64)) + v4.toInt64)) + v6.toInt64)), (2, .long v8.toInt64)]) (st' := [.long (((31 : Int64) * (((31 : Int64) * (((31 : Int64) * (((31 : Int64) * y3) + v2.toInt64)) + v4.toInt64)) + v6.toInt64)) + v8.toInt64)]) dX5_mix_6 rfl ?_
    refine RR.lret dX5_mix_7 rfl ?_
    show RR 0 7 mX5_mixDeeds 63 [(0, .ref 0), (3, .long (((31 : Int64) * (((31 : Int64) * (((31 : Int64) * y3) + v2.toInt64)) + v4.toInt64)) + v6.toInt64)), (5, .int x5)] [.long (((31 : Int64) * (((31 : Int64) * (((31 : Int64) * (((31 : Int64) * y3) + v2.toInt64)) + v4.toInt64)) + v6.toInt64)) + v8.toInt64)] s7 _
    refine RR.s2 (pc' := 64) (lv' := [(0, .ref 0), (3, .long (((31 : Int64) * (((31 : Int64) * (((31 : Int64) * y3) + v2.toInt64)) + v4.toInt64)) + v6.toInt64)), (5, .int x5)]) (st' := [.ref 0, .long (((31 : Int64) * (((31 : Int64) * (((31 : Int64) * (((31 : Int64) * y3) + v2.toInt64)) + v4.toInt64)) + v6.toInt64)) + v8.toInt64)]) dX5_mixDeeds_63 rfl ?_
    refine RR.s2 (pc' := 66) (lv' := [(0, .ref 0), (3, .long (((31 : Int64) * (((31 : Int64) * (((31 : Int64) * y3) + v2.toInt64)) + v4.toInt64)) + v6.toInt64)), (5, .int x5)]) (st' := [.int x5, .ref 0, .long (((31 : Int64) * (((31 : Int64) * (((31 : Int64) * (((31 : Int64) * y3) + v2.toInt64)) + v4.toInt64)) + v6.toInt64)) + v8.toInt64)]) dX5_mixDeeds_64 rfl ?_
    refine RR.ic (v := 3) dX5_mixDeeds_66 (by decide) ?_
    refine RR.ic (v := 5) dX5_mixDeeds_67 (by decide) ?_
    refine RR.cV dX5_mixDeeds_68 ml_X5_347 rfl rfl (as := [.int x5, .int 3, .int 5]) (rest := [.long (((31 : Int64) * (((31 : Int64) * (((31 : Int64) * (((31 : Int64) * y3) + v2.toInt64)) + v4.toInt64)) + v6.toInt64)) + v8.toInt64)]) rfl rfl (Nat.le_of_ble_eq_true rfl) (Nat.le_of_ble_eq_true rfl) (by decide) (RR.toI H (fun v10 s9 H => ?_))
    show RR 0 7 mX5_mixDeeds 71 [(0, .ref 0), (3, .long (((31 : Int64) * (((31 : Int64) * (((31 : Int64) * y3) + v2.toInt64)) + v4.toInt64)) + v6.toInt64)), (5, .int x5)] [.int v10, .long (((31 : Int64) * (((31 : Int64) * (((31 : Int64) * (((31 : Int64) * y3) + v2.toInt64)) + v4.toInt64)) + v6.toInt64)) + v8.toInt64)] s9 _
    refine RR.s2 (pc' := 72) (lv' := [(0, .ref 0), (3, .long (((31 : Int64) * (((31 : Int64) * (((31 : Int64) * y3) + v2.toInt64)) + v4.toInt64)) + v6.toInt64)), (5, .int x5)]) (st' := [.long v10.toInt64, .long (((31 : Int64) * (((31 : Int64) * (((31 : Int64) * (((31 : Int64) * y3) + v2.toInt64)) + v4.toInt64)) + v6.toInt64)) + v8.toInt64)]) dX5_mixDeeds_71 rfl ?_
    refine RR.cS (d' := 1) dX5_mixDeeds_72 ml_X5_301 (as := [.long (((31 : Int64) * (((31 : Int64) * (((31 : Int64) * (((31 : Int64) * y3) + v2.toInt64)) + v4.toInt64)) + v6.toInt64)) + v8.toInt64), .long v10.toInt64]) (rest := []) rfl rfl (Nat.le_of_ble_eq_true rfl) (Nat.le_of_ble_eq_true rfl) (by decide) ?_
    show RR 0 1 mX5_mix 0 [(0, .long (((31 : Int64) * (((31 : Int64) * (((31 : Int64) * (((31 : Int64) * y3) + v2.toInt64)) + v4.toInt64)) + v6.toInt64)) + v8.toInt64)), (2, .long v10.toInt64)] [] s9 _
    refine RR.ldc2 dX5_mix_0 pw_w781 ?_
    refine RR.s2 (pc' := 4) (lv' := [(0, .long (((31 : Int64) * (((31 : Int64) * (((31 : Int64) * (((31 : Int64) * y3) + v2.toInt64)) + v4.toInt64)) + v6.toInt64)) + v8.toInt64)), (2, .long v10.toInt64)]) (st' := [.long (((31 : Int64) * (((31 : Int64) * (((31 : Int64) * (((31 : Int64) * y3) + v2.toInt64)) + v4.toInt64)) + v6.toInt64)) + v8.toInt64), .long (31 : Int64)]) dX5_mix_3 rfl ?_
    refine RR.s2 (pc' := 5) (lv' := [(0, .long (((31 : Int64) * (((31 : Int64) * (((31 : Int64) * (((31 : Int64) * y3) + v2.toInt64)) + v4.toInt64)) + v6.toInt64)) + v8.toInt64)), (2, .long v10.toInt64)]) (st' := [.long ((31 : Int64) * (((31 : Int64) * (((31 : Int64) * (((31 : Int64) * (((31 : Int64) * y3) + v2.toInt64)) + v4.toInt64)) + v6.toInt64)) + v8.toInt64))]) dX5_mix_4 rfl ?_
    refine RR.s2 (pc' := 6) (lv' := [(0, .long (((31 : Int64) * (((31 : Int64) * (((31 : Int64) * (((31 : Int64) * y3) + v2.toInt64)) + v4.toInt64)) + v6.toInt64)) + v8.toInt64)), (2, .long v10.toInt64)]) (st' := [.long v10.toInt64, .long ((31 : Int64) * (((31 : Int64) * (((31 : Int64) * (((31 : Int64) * (((31 : Int64) * y3) + v2.toInt64)) + v4.toInt64)) + v6.toInt64)) + v8.toInt64))]) dX5_mix_5 rfl ?_
    refine RR.s2 (pc' := 7) (lv' := [(0, .long (((31 : Int64) * (((31 : Int64) * (((31 : Int64) * (((31 : Int64) * y3) + v2.toInt64)) + v4.toInt64)) + v6.toInt64)) + v8.toInt64)), (2, .long v10.toInt64)]) (st' := [.long (((31 : Int64) * (((31 : Int64) * (((31 : Int64) * (((31 : Int64) * (((31 : Int64) * y3) + v2.toInt64)) + v4.toInt64)) + v6.toInt64)) + v8.toInt64)) + v10.toInt64)]) dX5_mix_6 rfl ?_
    refine RR.lret dX5_mix_7 rfl ?_
    show RR 0 7 mX5_mixDeeds 75 [(0, .ref 0), (3, .long (((31 : Int64) * (((31 : Int64) * (((31 : Int64) * y3) + v2.toInt64)) + v4.toInt64)) + v6.toInt64)), (5, .int x5)] [.long (((31 : Int64) * (((31 : Int64) * (((31 : Int64) * (((31 : Int64) * (((31 : Int64) * y3) + v2.toInt64)) + v4.toInt64)) + v6.toInt64)) + v8.toInt64)) + v10.toInt64)] s9 _
    refine RR.s2 (pc' := 76) (lv' := [(0, .ref 0), (3, .long (((31 : Int64) * (((31 : Int64) * (((31 : Int64) * (((31 : Int64) * (((31 : Int64) * y3) + v2.toInt64)) + v4.toInt64)) + v6.toInt64)) + v8.toInt64)) + v10.toInt64)), (5, .int x5)]) (st' := []) dX5_mixDeeds_75 rfl ?_
    refine RR.s2 (pc' := 77) (lv' := [(0, .ref 0), (3, .long (((31 : Int64) * (((31 : Int64) * (((31 : Int64) * (((31 : Int64) * (((31 : Int64) * y3) + v2.toInt64)) + v4.toInt64)) + v6.toInt64)) + v8.toInt64)) + v10.toInt64)), (5, .int x5)]) (st' := [.long (((31 : Int64) * (((31 : Int64) * (((31 : Int64) * (((31 : Int64) * (((31 : Int64) * y3) + v2.toInt64)) + v4.toInt64)) + v6.toInt64)) + v8.toInt64)) + v10.toInt64)]) dX5_mixDeeds_76 rfl ?_
    refine RR.s2 (pc' := 78) (lv' := [(0, .ref 0), (3, .long (((31 : Int64) * (((31 : Int64) * (((31 : Int64) * (((31 : Int64) * (((31 : Int64) * y3) + v2.toInt64)) + v4.toInt64)) + v6.toInt64)) + v8.toInt64)) + v10.toInt64)), (5, .int x5)]) (st' := [.ref 0, .long (((31 : Int64) * (((31 : Int64) * (((31 : Int64) * (((31 : Int64) * (((31 : Int64) * y3) + v2.toInt64)) + v4.toInt64)) + v6.toInt64)) + v8.toInt64)) + v10.toInt64)]) dX5_mixDeeds_77 rfl ?_
    refine RR.s2 (pc' := 80) (lv' := [(0, .ref 0), (3, .long (((31 : Int64) * (((31 : Int64) * (((31 : Int64) * (((31 : Int64) * (((31 : Int64) * y3) + v2.toInt64)) + v4.toInt64)) + v6.toInt64)) + v8.toInt64)) + v10.toInt64)), (5, .int x5)]) (st' := [.int x5, .ref 0, .long (((31 : Int64) * (((31 : Int64) * (((31 : Int64) * (((31 : Int64) * (((31 : Int64) * y3) + v2.toInt64)) + v4.toInt64)) + v6.toInt64)) + v8.toInt64)) + v10.toInt64)]) dX5_mixDeeds_78 rfl ?_
    refine RR.ic (v := 4) dX5_mixDeeds_80 (by decide) ?_
    refine RR.ic (v := 2) dX5_mixDeeds_81 (by decide) ?_
    refine RR.ic (v := 0) dX5_mixDeeds_82 (by decide) ?_
    refine RR.cV dX5_mixDeeds_83 ml_X5_350 rfl rfl (as := [.int x5, .int 4, .int 2, .int 0]) (rest := [.long (((31 : Int64) * (((31 : Int64) * (((31 : Int64) * (((31 : Int64) * (((31 : Int64) * y3) + v2.toInt64)) + v4.toInt64)) + v6.toInt64)) + v8.toInt64)) + v10.toInt64)]) rfl rfl (Nat.le_of_ble_eq_true rfl) (Nat.le_of_ble_eq_true rfl) (by decide) (RR.toI H (fun v12 s11 H => ?_))
    show RR 0 7 mX5_mixDeeds 86 [(0, .ref 0), (3, .long (((31 : Int64) * (((31 : Int64) * (((31 : Int64) * (((31 : Int64) * (((31 : Int64) * y3) + v2.toInt64)) + v4.toInt64)) + v6.toInt64)) + v8.toInt64)) + v10.toInt64)), (5, .int x5)] [.int v12, .long (((31 : Int64) * (((31 : Int64) * (((31 : Int64) * (((31 : Int64) * (((31 : Int64) * y3) + v2.toInt64)) + v4.toInt64)) + v6.toInt64)) + v8.toInt64)) + v10.toInt64)] s11 _
    refine RR.s2 (pc' := 87) (lv' := [(0, .ref 0), (3, .long (((31 : Int64) * (((31 : Int64) * (((31 : Int64) * (((31 : Int64) * (((31 : Int64) * y3) + v2.toInt64)) + v4.toInt64)) + v6.toInt64)) + v8.toInt64)) + v10.toInt64)), (5, .int x5)]) (st' := [.long v12.toInt64, .long (((31 : Int64) * (((31 : Int64) * (((31 : Int64) * (((31 : Int64) * (((31 : Int64) * y3) + v2.toInt64)) + v4.toInt64)) + v6.toInt64)) + v8.toInt64)) + v10.toInt64)]) dX5_mixDeeds_86 rfl ?_
    refine RR.cS (d' := 1) dX5_mixDeeds_87 ml_X5_301 (as := [.long (((31 : Int64) * (((31 : Int64) * (((31 : Int64) * (((31 : Int64) * (((31 : Int64) * y3) + v2.toInt64)) + v4.toInt64)) + v6.toInt64)) + v8.toInt64)) + v10.toInt64), .long v12.toInt64]) (rest := []) rfl rfl (Nat.le_of_ble_eq_true rfl) (Nat.le_of_ble_eq_true rfl) (by decide) ?_
    show RR 0 1 mX5_mix 0 [(0, .long (((31 : Int64) * (((31 : Int64) * (((31 : Int64) * (((31 : Int64) * (((31 : Int64) * y3) + v2.toInt64)) + v4.toInt64)) + v6.toInt64)) + v8.toInt64)) + v10.toInt64)), (2, .long v12.toInt64)] [] s11 _
    refine RR.ldc2 dX5_mix_0 pw_w781 ?_
    refine RR.s2 (pc' := 4) (lv' := [(0, .long (((31 : Int64) * (((31 : Int64) * (((31 : Int64) * (((31 : Int64) * (((31 : Int64) * y3) + v2.toInt64)) + v4.toInt64)) + v6.toInt64)) + v8.toInt64)) + v10.toInt64)), (2, .long v12.toInt64)]) (st' := [.long (((31 : Int64) * (((31 : Int64) * (((31 : Int64) * (((31 : Int64) * (((31 : Int64) * y3) + v2.toInt64)) + v4.toInt64)) + v6.toInt64)) + v8.toInt64)) + v10.toInt64), .long (31 : Int64)]) dX5_mix_3 rfl ?_
    refine RR.s2 (pc' := 5) (lv' := [(0, .long (((31 : Int64) * (((31 : Int64) * (((31 : Int64) * (((31 : Int64) * (((31 : Int64) * y3) + v2.toInt64)) + v4.toInt64)) + v6.toInt64)) + v8.toInt64)) + v10.toInt64)), (2, .long v12.toInt64)]) (st' := [.long ((31 : Int64) * (((31 : Int64) * (((31 : Int64) * (((31 : Int64) * (((31 : Int64) * (((31 : Int64) * y3) + v2.toInt64)) + v4.toInt64)) + v6.toInt64)) + v8.toInt64)) + v10.toInt64))]) dX5_mix_4 rfl ?_
    refine RR.s2 (pc' := 6) (lv' := [(0, .long (((31 : Int64) * (((31 : Int64) * (((31 : Int64) * (((31 : Int64) * (((31 : Int64) * y3) + v2.toInt64)) + v4.toInt64)) + v6.toInt64)) + v8.toInt64)) + v10.toInt64)), (2, .long v12.toInt64)]) (st' := [.long v12.toInt64, .long ((31 : Int64) * (((31 : Int64) * (((31 : Int64) * (((31 : Int64) * (((31 : Int64) * (((31 : Int64) * y3) + v2.toInt64)) + v4.toInt64)) + v6.toInt64)) + v8.toInt64)) + v10.toInt64))]) dX5_mix_5 rfl ?_
    refine RR.s2 (pc' := 7) (lv' := [(0, .long (((31 : Int64) * (((31 : Int64) * (((31 : Int64) * (((31 : Int64) * (((31 : Int64) * y3) + v2.toInt64)) + v4.toInt64)) + v6.toInt64)) + v8.toInt64)) + v10.toInt64)), (2, .long v12.toInt64)]) (st' := [.long (((31 : Int64) * (((31 : Int64) * (((31 : Int64) * (((31 : Int64) * (((31 : Int64) * (((31 : Int64) * y3) + v2.toInt64)) + v4.toInt64)) + v6.toInt64)) + v8.toInt64)) + v10.toInt64)) + v12.toInt64)]) dX5_mix_6 rfl ?_
    refine RR.lret dX5_mix_7 rfl ?_
    show RR 0 7 mX5_mixDeeds 90 [(0, .ref 0), (3, .long (((31 : Int64) * (((31 : Int64) * (((31 : Int64) * (((31 : Int64) * (((31 : Int64) * y3) + v2.toInt64)) + v4.toInt64)) + v6.toInt64)) + v8.toInt64)) + v10.toInt64)), (5, .int x5)] [.long (((31 : Int64) * (((31 : Int64) * (((31 : Int64) * (((31 : Int64) * (((31 : Int64) * (((31 : Int64) * y3) + v2.toInt64)) + v4.toInt64)) + v6.toInt64)) + v8.toInt64)) + v10.toInt64)) + v12.toInt64)] s11 _
    refine RR.s2 (pc' := 91) (lv' := [(0, .ref 0), (3, .long (((31 : Int64) * (((31 : Int64) * (((31 : Int64) * (((31 : Int64) * (((31 : Int64) * y3) + v2.toInt64)) + v4.toInt64)) + v6.toInt64)) + v8.toInt64)) + v10.toInt64)), (5, .int x5)]) (st' := [.ref 0, .long (((31 : Int64) * (((31 : Int64) * (((31 : Int64) * (((31 : Int64) * (((31 : Int64) * (((31 : Int64) * y3) + v2.toInt64)) + v4.toInt64)) + v6.toInt64)) + v8.toInt64)) + v10.toInt64)) + v12.toInt64)]) dX5_mixDeeds_90 rfl ?_
    refine RR.s2 (pc' := 93) (lv' := [(0, .ref 0), (3, .long (((31 : Int64) * (((31 : Int64) * (((31 : Int64) * (((31 : Int64) * (((31 : Int64) * y3) + v2.toInt64)) + v4.toInt64)) + v6.toInt64)) + v8.toInt64)) + v10.toInt64)), (5, .int x5)]) (st' := [.int x5, .ref 0, .long (((31 : Int64) * (((31 : Int64) * (((31 : Int64) * (((31 : Int64) * (((31 : Int64) * (((31 : Int64) * y3) + v2.toInt64)) + v4.toInt64)) + v6.toInt64)) + v8.toInt64)) + v10.toInt64)) + v12.toInt64)]) dX5_mixDeeds_91 rfl ?_
    refine RR.ic (v := 4) dX5_mixDeeds_93 (by decide) ?_
    refine RR.ic (v := 2) dX5_mixDeeds_94 (by decide) ?_
    refine RR.ic (v := 1) dX5_mixDeeds_95 (by decide) ?_
    refine RR.cV dX5_mixDeeds_96 ml_X5_350 rfl rfl (as := [.int x5, .int 4, .int 2, .int 1]) (rest := [.long (((31 : Int64) * (((31 : Int64) * (((31 : Int64) * (((31 : Int64) * (((31 : Int64) * (((31 : Int64) * y3) + v2.toInt64)) + v4.toInt64)) + v6.toInt64)) + v8.toInt64)) + v10.toInt64)) + v12.toInt64)]) rfl rfl (Nat.le_of_ble_eq_true rfl) (Nat.le_of_ble_eq_true rfl) (by decide) (RR.toI H (fun v14 s13 H => ?_))
    show RR 0 7 mX5_mixDeeds 99 [(0, .ref 0), (3, .long (((31 : Int64) * (((31 : Int64) * (((31 : Int64) * (((31 : Int64) * (((31 : Int64) * y3) + v2.toInt64)) + v4.toInt64)) + v6.toInt64)) + v8.toInt64)) + v10.toInt64)), (5, .int x5)] [.int v14, .long (((31 : Int64) * (((31 : Int64) * (((31 : Int64) * (((31 : Int64) * (((31 : Int64) * (((31 : Int64) * y3) + v2.toInt64)) + v4.toInt64)) + v6.toInt64)) + v8.toInt64)) + v10.toInt64)) + v12.toInt64)] s13 _
    refine RR.s2 (pc' := 100) (lv' := [(0, .ref 0), (3, .long (((31 : Int64) * (((31 : Int64) * (((31 : Int64) * (((31 : Int64) * (((31 : Int64) * y3) + v2.toInt64)) + v4.toInt64)) + v6.toInt64)) + v8.toInt64)) + v10.toInt64)), (5, .int x5)]) (st' := [.long v14.toInt64, .long (((31 : Int64) * (((31 : Int64) * (((31 : Int64) * (((31 : Int64) * (((31 : Int64) * (((31 : Int64) * y3) + v2.toInt64)) + v4.toInt64)) + v6.toInt64)) + v8.toInt64)) + v10.toInt64)) + v12.toInt64)]) dX5_mixDeeds_99 rfl ?_
    refine RR.cS (d' := 1) dX5_mixDeeds_100 ml_X5_301 (as := [.long (((31 : Int64) * (((31 : Int64) * (((31 : Int64) * (((31 : Int64) * (((31 : Int64) * (((31 : Int64) * y3) + v2.toInt64)) + v4.toInt64)) + v6.toInt64)) + v8.toInt64)) + v10.toInt64)) + v12.toInt64), .long v14.toInt64]) (rest := []) rfl rfl (Nat.le_of_ble_eq_true rfl) (Nat.le_of_ble_eq_true rfl) (by decide) ?_
    show RR 0 1 mX5_mix 0 [(0, .long (((31 : Int64) * (((31 : Int64) * (((31 : Int64) * (((31 : Int64) * (((31 : Int64) * (((31 : Int64) * y3) + v2.toInt64)) + v4.toInt64)) + v6.toInt64)) + v8.toInt64)) + v10.toInt64)) + v12.toInt64)), (2, .long v14.toInt64)] [] s13 _
    refine RR.ldc2 dX5_mix_0 pw_w781 ?_
    refine RR.s2 (pc' := 4) (lv' := [(0, .long (((31 : Int64) * (((31 : Int64) * (((31 : Int64) * (((31 : Int64) * (((31 : Int64) * (((31 : Int64) * y3) + v2.toInt64)) + v4.toInt64)) + v6.toInt64)) + v8.toInt64)) + v10.toInt64)) + v12.toInt64)), (2, .long v14.toInt64)]) (st' := [.long (((31 : Int64) * (((31 : Int64) * (((31 : Int64) * (((31 : Int64) * (((31 : Int64) * (((31 : Int64) * y3) + v2.toInt64)) + v4.toInt64)) + v6.toInt64)) + v8.toInt64)) + v10.toInt64)) + v12.toInt64), .long (31 : Int64)]) dX5_mix_3 rfl ?_
    refine RR.s2 (pc' := 5) (lv' := [(0, .long (((31 : Int64) * (((31 : Int64) * (((31 : Int64) * (((31 : Int64) * (((31 : Int64) * (((31 : Int64) * y3) + v2.toInt64)) + v4.toInt64)) + v6.toInt64)) + v8.toInt64)) + v10.toInt64)) + v12.toInt64)), (2, .long v14.toInt64)]) (st' := [.long ((31 : Int64) * (((31 : Int64) * (((31 : Int64) * (((31 : Int64) * (((31 : Int64) * (((31 : Int64) * (((31 : Int64) * y3) + v2.toInt64)) + v4.toInt64)) + v6.toInt64)) + v8.toInt64)) + v10.toInt64)) + v12.toInt64))]) dX5_mix_4 rfl ?_
    refine RR.s2 (pc' := 6) (lv' := [(0, .long (((31 : Int64) * (((31 : Int64) * (((31 : Int64) * (((31 : Int64) * (((31 : Int64) * (((31 : Int64) * y3) + v2.toInt64)) + v4.toInt64)) + v6.toInt64)) + v8.toInt64)) + v10.toInt64)) + v12.toInt64)), (2, .long v14.toInt64)]) (st' := [.long v14.toInt64, .long ((31 : Int64) * (((31 : Int64) * (((31 : Int64) * (((31 : Int64) * (((31 : Int64) * (((31 : Int64) * (((31 : Int64) * y3) + v2.toInt64)) + v4.toInt64)) + v6.toInt64)) + v8.toInt64)) + v10.toInt64)) + v12.toInt64))]) dX5_mix_5 rfl ?_
    refine RR.s2 (pc' := 7) (lv' := [(0, .long (((31 : Int64) * (((31 : Int64) * (((31 : Int64) * (((31 : Int64) * (((31 : Int64) * (((31 : Int64) * y3) + v2.toInt64)) + v4.toInt64)) + v6.toInt64)) + v8.toInt64)) + v10.toInt64)) + v12.toInt64)), (2, .long v14.toInt64)]) (st' := [.long (((31 : Int64) * (((31 : Int64) * (((31 : Int64) * (((31 : Int64) * (((31 : Int64) * (((31 : Int64) * (((31 : Int64) * y3) + v2.toInt64)) + v4.toInt64)) + v6.toInt64)) + v8.toInt64)) + v10.toInt64)) + v12.toInt64)) + v14.toInt64)]) dX5_mix_6 rfl ?_
    refine RR.lret dX5_mix_7 rfl ?_
    show RR 0 7 mX5_mixDeeds 103 [(0, .ref 0), (3, .long (((31 : Int64) * (((31 : Int64) * (((31 : Int64) * (((31 : Int64) * (((31 : Int64) * y3) + v2.toInt64)) + v4.toInt64)) + v6.toInt64)) + v8.toInt64)) + v10.toInt64)), (5, .int x5)] [.long (((31 : Int64) * (((31 : Int64) * (((31 : Int64) * (((31 : Int64) * (((31 : Int64) * (((31 : Int64) * (((31 : Int64) * y3) + v2.toInt64)) + v4.toInt64)) + v6.toInt64)) + v8.toInt64)) + v10.toInt64)) + v12.toInt64)) + v14.toInt64)] s13 _
    refine RR.s2 (pc' := 104) (lv' := [(0, .ref 0), (3, .long (((31 : Int64) * (((31 : Int64) * (((31 : Int64) * (((31 : Int64) * (((31 : Int64) * (((31 : Int64) * (((31 : Int64) * y3) + v2.toInt64)) + v4.toInt64)) + v6.toInt64)) + v8.toInt64)) + v10.toInt64)) + v12.toInt64)) + v14.toInt64)), (5, .int x5)]) (st' := []) dX5_mixDeeds_103 rfl ?_
    refine RR.s2 (pc' := 105) (lv' := [(0, .ref 0), (3, .long (((31 : Int64) * (((31 : Int64) * (((31 : Int64) * (((31 : Int64) * (((31 : Int64) * (((31 : Int64) * (((31 : Int64) * y3) + v2.toInt64)) + v4.toInt64)) + v6.toInt64)) + v8.toInt64)) + v10.toInt64)) + v12.toInt64)) + v14.toInt64)), (5, .int x5)]) (st' := [.long (((31 : Int64) * (((31 : Int64) * (((31 : Int64) * (((31 : Int64) * (((31 : Int64) * (((31 : Int64) * (((31 : Int64) * y3) + v2.toInt64)) + v4.toInt64)) + v6.toInt64)) + v8.toInt64)) + v10.toInt64)) + v12.toInt64)) + v14.toInt64)]) dX5_mixDeeds_104 rfl ?_
    refine RR.s2 (pc' := 106) (lv' := [(0, .ref 0), (3, .long (((31 : Int64) * (((31 : Int64) * (((31 : Int64) * (((31 : Int64) * (((31 : Int64) * (((31 : Int64) * (((31 : Int64) * y3) + v2.toInt64)) + v4.toInt64)) + v6.toInt64)) + v8.toInt64)) + v10.toInt64)) + v12.toInt64)) + v14.toInt64)), (5, .int x5)]) (st' := [.ref 0, .long (((31 : Int64) * (((31 : Int64) * (((31 : Int64) * (((31 : Int64) * (((31 : Int64) * (((31 : Int64) * (((31 : Int64) * y3) + v2.toInt64)) + v4.toInt64)) + v6.toInt64)) + v8.toInt64)) + v10.toInt64)) + v12.toInt64)) + v14.toInt64)]) dX5_mixDeeds_105 rfl ?_
    refine RR.ic (v := 5) dX5_mixDeeds_106 (by decide) ?_
    refine RR.ic (v := 3) dX5_mixDeeds_107 (by decide) ?_
    refine RR.s2 (pc' := 110) (lv' := [(0, .ref 0), (3, .long (((31 : Int64) * (((31 : Int64) * (((31 : Int64) * (((31 : Int64) * (((31 : Int64) * (((31 : Int64) * (((31 : Int64) * y3) + v2.toInt64)) + v4.toInt64)) + v6.toInt64)) + v8.toInt64)) + v10.toInt64)) + v12.toInt64)) + v14.toInt64)), (5, .int x5)]) (st' := [.int x5, .int 3, .int 5, .ref 0, .long (((31 : Int64) * (((31 : Int64) * (((31 : Int64) * (((31 : Int64) * (((31 : Int64) * (((31 : Int64) * (((31 : Int64) * y3) + v2.toInt64)) + v4.toInt64)) + v6.toInt64)) + v8.toInt64)) + v10.toInt64)) + v12.toInt64)) + v14.toInt64)]) dX5_mixDeeds_108 rfl ?_
    refine RR.ic (v := 4) dX5_mixDeeds_110 (by decide) ?_
    refine RR.ic (v := 0) dX5_mixDeeds_111 (by decide) ?_
    refine RR.cV dX5_mixDeeds_112 ml_X5_354 rfl rfl (as := [.int 5, .int 3, .int x5, .int 4, .int 0]) (rest := [.long (((31 : Int64) * (((31 : Int64) * (((31 : Int64) * (((31 : Int64) * (((31 : Int64) * (((31 : Int64) * (((31 : Int64) * y3) + v2.toInt64)) + v4.toInt64)) + v6.toInt64)) + v8.toInt64)) + v10.toInt64)) + v12.toInt64)) + v14.toInt64)]) rfl rfl (Nat.le_of_ble_eq_true rfl) (Nat.le_of_ble_eq_true rfl) (by decide) (RR.toL H (fun v16 s15 H => ?_))
    show RR 0 7 mX5_mixDeeds 115 [(0, .ref 0), (3, .long (((31 : Int64) * (((31 : Int64) * (((31 : Int64) * (((31 : Int64) * (((31 : Int64) * (((31 : Int64) * (((31 : Int64) * y3) + v2.toInt64)) + v4.toInt64)) + v6.toInt64)) + v8.toInt64)) + v10.toInt64)) + v12.toInt64)) + v14.toInt64)), (5, .int x5)] [.long v16, .long (((31 : Int64) * (((31 : Int64) * (((31 : Int64) * (((31 : Int64) * (((31 : Int64) * (((31 : Int64) * (((31 : Int64) * y3) + v2.toInt64)) + v4.toInt64)) + v6.toInt64)) + v8.toInt64)) + v10.toInt64)) + v12.toInt64)) + v14.toInt64)] s15 _
    refine RR.cS (d' := 1) dX5_mixDeeds_115 ml_X5_301 (as := [.long (((31 : Int64) * (((31 : Int64) * (((31 : Int64) * (((31 : Int64) * (((31 : Int64) * (((31 : Int64) * (((31 : Int64) * y3) + v2.toInt64)) + v4.toInt64)) + v6.toInt64)) + v8.toInt64)) + v10.toInt64)) + v12.toInt64)) + v14.toInt64), .long v16]) (rest := []) rfl rfl (Nat.le_of_ble_eq_true rfl) (Nat.le_of_ble_eq_true rfl) (by decide) ?_
    show RR 0 1 mX5_mix 0 [(0, .long (((31 : Int64) * (((31 : Int64) * (((31 : Int64) * (((31 : Int64) * (((31 : Int64) * (((31 : Int64) * (((31 : Int64) * y3) + v2.toInt64)) + v4.toInt64)) + v6.toInt64)) + v8.toInt64)) + v10.toInt64)) + v12.toInt64)) + v14.toInt64)), (2, .long v16)] [] s15 _
    refine RR.ldc2 dX5_mix_0 pw_w781 ?_
    refine RR.s2 (pc' := 4) (lv' := [(0, .long (((31 : Int64) * (((31 : Int64) * (((31 : Int64) * (((31 : Int64) * (((31 : Int64) * (((31 : Int64) * (((31 : Int64) * y3) + v2.toInt64)) + v4.toInt64)) + v6.toInt64)) + v8.toInt64)) + v10.toInt64)) + v12.toInt64)) + v14.toInt64)), (2, .long v16)]) (st' := [.long (((31 : Int64) * (((31 : Int64) * (((31 : Int64) * (((31 : Int64) * (((31 : Int64) * (((31 : Int64) * (((31 : Int64) * y3) + v2.toInt64)) + v4.toInt64)) + v6.toInt64)) + v8.toInt64)) + v10.toInt64)) + v12.toInt64)) + v14.toInt64), .long (31 : Int64)]) dX5_mix_3 rfl ?_
    refine RR.s2 (pc' := 5) (lv' := [(0, .long (((31 : Int64) * (((31 : Int64) * (((31 : Int64) * (((31 : Int64) * (((31 : Int64) * (((31 : Int64) * (((31 : Int64) * y3) + v2.toInt64)) + v4.toInt64)) + v6.toInt64)) + v8.toInt64)) + v10.toInt64)) + v12.toInt64)) + v14.toInt64)), (2, .long v16)]) (st' := [.long ((31 : Int64) * (((31 : Int64) * (((31 : Int64) * (((31 : Int64) * (((31 : Int64) * (((31 : Int64) * (((31 : Int64) * (((31 : Int64) * y3) + v2.toInt64)) + v4.toInt64)) + v6.toInt64)) + v8.toInt64)) + v10.toInt64)) + v12.toInt64)) + v14.toInt64))]) dX5_mix_4 rfl ?_
    refine RR.s2 (pc' := 6) (lv' := [(0, .long (((31 : Int64) * (((31 : Int64) * (((31 : Int64) * (((31 : Int64) * (((31 : Int64) * (((31 : Int64) * (((31 : Int64) * y3) + v2.toInt64)) + v4.toInt64)) + v6.toInt64)) + v8.toInt64)) + v10.toInt64)) + v12.toInt64)) + v14.toInt64)), (2, .long v16)]) (st' := [.long v16, .long ((31 : Int64) * (((31 : Int64) * (((31 : Int64) * (((31 : Int64) * (((31 : Int64) * (((31 : Int64) * (((31 : Int64) * (((31 : Int64) * y3) + v2.toInt64)) + v4.toInt64)) + v6.toInt64)) + v8.toInt64)) + v10.toInt64)) + v12.toInt64)) + v14.toInt64))]) dX5_mix_5 rfl ?_
    refine RR.s2 (pc' := 7) (lv' := [(0, .long (((31 : Int64) * (((31 : Int64) * (((31 : Int64) * (((31 : Int64) * (((31 : Int64) * (((31 : Int64) * (((31 : Int64) * y3) + v2.toInt64)) + v4.toInt64)) + v6.toInt64)) + v8.toInt64)) + v10.toInt64)) + v12.toInt64)) + v14.toInt64)), (2, .long v16)]) (st' := [.long (((31 : Int64) * (((31 : Int64) * (((31 : Int64) * (((31 : Int64) * (((31 : Int64) * (((31 : Int64) * (((31 : Int64) * (((31 : Int64) * y3) + v2.toInt64)) + v4.toInt64)) + v6.toInt64)) + v8.toInt64)) + v10.toInt64)) + v12.toInt64)) + v14.toInt64)) + v16)]) dX5_mix_6 rfl ?_
    refine RR.lret dX5_mix_7 rfl ?_
    show RR 0 7 mX5_mixDeeds 118 [(0, .ref 0), (3, .long (((31 : Int64) * (((31 : Int64) * (((31 : Int64) * (((31 : Int64) * (((31 : Int64) * (((31 : Int64) * (((31 : Int64) * y3) + v2.toInt64)) + v4.toInt64)) + v6.toInt64)) + v8.toInt64)) + v10.toInt64)) + v12.toInt64)) + v14.toInt64)), (5, .int x5)] [.long (((31 : Int64) * (((31 : Int64) * (((31 : Int64) * (((31 : Int64) * (((31 : Int64) * (((31 : Int64) * (((31 : Int64) * (((31 : Int64) * y3) + v2.toInt64)) + v4.toInt64)) + v6.toInt64)) + v8.toInt64)) + v10.toInt64)) + v12.toInt64)) + v14.toInt64)) + v16)] s15 _
    refine RR.s2 (pc' := 119) (lv' := [(0, .ref 0), (3, .long (((31 : Int64) * (((31 : Int64) * (((31 : Int64) * (((31 : Int64) * (((31 : Int64) * (((31 : Int64) * (((31 : Int64) * y3) + v2.toInt64)) + v4.toInt64)) + v6.toInt64)) + v8.toInt64)) + v10.toInt64)) + v12.toInt64)) + v14.toInt64)), (5, .int x5)]) (st' := [.ref 0, .long (((31 : Int64) * (((31 : Int64) * (((31 : Int64) * (((31 : Int64) * (((31 : Int64) * (((31 : Int64) * (((31 : Int64) * (((31 : Int64) * y3) + v2.toInt64)) + v4.toInt64)) + v6.toInt64)) + v8.toInt64)) + v10.toInt64)) + v12.toInt64)) + v14.toInt64)) + v16)]) dX5_mixDeeds_118 rfl ?_
    refine RR.ic (v := 5) dX5_mixDeeds_119 (by decide) ?_
    refine RR.ic (v := 3) dX5_mixDeeds_120 (by decide) ?_
    refine RR.s2 (pc' := 123) (lv' := [(0, .ref 0), (3, .long (((31 : Int64) * (((31 : Int64) * (((31 : Int64) * (((31 : Int64) * (((31 : Int64) * (((31 : Int64) * (((31 : Int64) * y3) + v2.toInt64)) + v4.toInt64)) + v6.toInt64)) + v8.toInt64)) + v10.toInt64)) + v12.toInt64)) + v14.toInt64)), (5, .int x5)]) (st' := [.int x5, .int 3, .int 5, .ref 0, .long (((31 : Int64) * (((31 : Int64) * (((31 : Int64) * (((31 : Int64) * (((31 : Int64) * (((31 : Int64) * (((31 : Int64) * (((31 : Int64) * y3) + v2.toInt64)) + v4.toInt64)) + v6.toInt64)) + v8.toInt64)) + v10.toInt64)) + v12.toInt64)) + v14.toInt64)) + v16)]) dX5_mixDeeds_121 rfl ?_
    refine RR.ic (v := 4) dX5_mixDeeds_123 (by decide) ?_
    refine RR.ic (v := 1) dX5_mixDeeds_124 (by decide) ?_
    refine RR.cV dX5_mixDeeds_125 ml_X5_354 rfl rfl (as := [.int 5, .int 3, .int x5, .int 4, .int 1]) (rest := [.long (((31 : Int64) * (((31 : Int64) * (((31 : Int64) * (((31 : Int64) * (((31 : Int64) * (((31 : Int64) * (((31 : Int64) * (((31 : Int64) * y3) + v2.toInt64)) + v4.toInt64)) + v6.toInt64)) + v8.toInt64)) + v10.toInt64)) + v12.toInt64)) + v14.toInt64)) + v16)]) rfl rfl (Nat.le_of_ble_eq_true rfl) (Nat.le_of_ble_eq_true rfl) (by decide) (RR.toL H (fun v18 s17 H => ?_))
    show RR 0 7 mX5_mixDeeds 128 [(0, .ref 0), (3, .long (((31 : Int64) * (((31 : Int64) * (((31 : Int64) * (((31 : Int64) * (((31 : Int64) * (((31 : Int64) * (((31 : Int64) * y3) + v2.toInt64)) + v4.toInt64)) + v6.toInt64)) + v8.toInt64)) + v10.toInt64)) + v12.toInt64)) + v14.toInt64)), (5, .int x5)] [.long v18, .long (((31 : Int64) * (((31 : Int64) * (((31 : Int64) * (((31 : Int64) * (((31 : Int64) * (((31 : Int64) * (((31 : Int64) * (((31 : Int64) * y3) + v2.toInt64)) + v4.toInt64)) + v6.toInt64)) + v8.toInt64)) + v10.toInt64)) + v12.toInt64)) + v14.toInt64)) + v16)] s17 _
    refine RR.cS (d' := 1) dX5_mixDeeds_128 ml_X5_301 (as := [.long (((31 : Int64) * (((31 : Int64) * (((31 : Int64) * (((31 : Int64) * (((31 : Int64) * (((31 : Int64) * (((31 : Int64) * (((31 : Int64) * y3) + v2.toInt64)) + v4.toInt64)) + v6.toInt64)) + v8.toInt64)) + v10.toInt64)) + v12.toInt64)) + v14.toInt64)) + v16), .long v18]) (rest := []) rfl rfl (Nat.le_of_ble_eq_true rfl) (Nat.le_of_ble_eq_true rfl) (by decide) ?_
    show RR 0 1 mX5_mix 0 [(0, .long (((31 : Int64) * (((31 : Int64) * (((31 : Int64) * (((31 : Int64) * (((31 : Int64) * (((31 : Int64) * (((31 : Int64) * (((31 : Int64) * y3) + v2.toInt64)) + v4.toInt64)) + v6.toInt64)) + v8.toInt64)) + v10.toInt64)) + v12.toInt64)) + v14.toInt64)) + v16)), (2, .long v18)] [] s17 _
    refine RR.ldc2 dX5_mix_0 pw_w781 ?_
    refine RR.s2 (pc' := 4) (lv' := [(0, .long (((31 : Int64) * (((31 : Int64) * (((31 : Int64) * (((31 : Int64) * (((31 : Int64) * (((31 : Int64) * (((31 : Int64) * (((31 : Int64) * y3) + v2.toInt64)) + v4.toInt64)) + v6.toInt64)) + v8.toInt64)) + v10.toInt64)) + v12.toInt64)) + v14.toInt64)) + v16)), (2, .long v18)]) (st' := [.long (((31 : Int64) * (((31 : Int64) * (((31 : Int64) * (((31 : Int64) * (((31 : Int64) * (((31 : Int64) * (((31 : Int64) * (((31 : Int64) * y3) + v2.toInt64)) + v4.toInt64)) + v6.toInt64)) + v8.toInt64)) + v10.toInt64)) + v12.toInt64)) + v14.toInt64)) + v16), .long (31 : Int64)]) dX5_mix_3 rfl ?_
    refine RR.s2 (pc' := 5) (lv' := [(0, .long (((31 : Int64) * (((31 : Int64) * (((31 : Int64) * (((31 : Int64) * (((31 : Int64) * (((31 : Int64) * (((31 : Int64) * (((31 : Int64) * y3) + v2.toInt64)) + v4.toInt64)) + v6.toInt64)) + v8.toInt64)) + v10.toInt64)) + v12.toInt64)) + v14.toInt64)) + v16)), (2, .long v18)]) (st' := [.long ((31 : Int64) * (((31 : Int64) * (((31 : Int64) * (((31 : Int64) * (((31 : Int64) * (((31 : Int64) * (((31 : Int64) * (((31 : Int64) * (((31 : Int64) * y3) + v2.toInt64)) + v4.toInt64)) + v6.toInt64)) + v8.toInt64)) + v10.toInt64)) + v12.toInt64)) + v14.toInt64)) + v16))]) dX5_mix_4 rfl ?_
    refine RR.s2 (pc' := 6) (lv' := [(0, .long (((31 : Int64) * (((31 : Int64) * (((31 : Int64) * (((31 : Int64) * (((31 : Int64) * (((31 : Int64) * (((31 : Int64) * (((31 : Int64) * y3) + v2.toInt64)) + v4.toInt64)) + v6.toInt64)) + v8.toInt64)) + v10.toInt64)) + v12.toInt64)) + v14.toInt64)) + v16)), (2, .long v18)]) (st' := [.long v18, .long ((31 : Int64) * (((31 : Int64) * (((31 : Int64) * (((31 : Int64) * (((31 : Int64) * (((31 : Int64) * (((31 : Int64) * (((31 : Int64) * (((31 : Int64) * y3) + v2.toInt64)) + v4.toInt64)) + v6.toInt64)) + v8.toInt64)) + v10.toInt64)) + v12.toInt64)) + v14.toInt64)) + v16))]) dX5_mix_5 rfl ?_
    refine RR.s2 (pc' := 7) (lv' := [(0, .long (((31 : Int64) * (((31 : Int64) * (((31 : Int64) * (((31 : Int64) * (((31 : Int64) * (((31 : Int64) * (((31 : Int64) * (((31 : Int64) * y3) + v2.toInt64)) + v4.toInt64)) + v6.toInt64)) + v8.toInt64)) + v10.toInt64)) + v12.toInt64)) + v14.toInt64)) + v16)), (2, .long v18)]) (st' := [.long (((31 : Int64) * (((31 : Int64) * (((31 : Int64) * (((31 : Int64) * (((31 : Int64) * (((31 : Int64) * (((31 : Int64) * (((31 : Int64) * (((31 : Int64) * y3) + v2.toInt64)) + v4.toInt64)) + v6.toInt64)) + v8.toInt64)) + v10.toInt64)) + v12.toInt64)) + v14.toInt64)) + v16)) + v18)]) dX5_mix_6 rfl ?_
    refine RR.lret dX5_mix_7 rfl ?_
    show RR 0 7 mX5_mixDeeds 131 [(0, .ref 0), (3, .long (((31 : Int64) * (((31 : Int64) * (((31 : Int64) * (((31 : Int64) * (((31 : Int64) * (((31 : Int64) * (((31 : Int64) * y3) + v2.toInt64)) + v4.toInt64)) + v6.toInt64)) + v8.toInt64)) + v10.toInt64)) + v12.toInt64)) + v14.toInt64)), (5, .int x5)] [.long (((31 : Int64) * (((31 : Int64) * (((31 : Int64) * (((31 : Int64) * (((31 : Int64) * (((31 : Int64) * (((31 : Int64) * (((31 : Int64) * (((31 : Int64) * y3) + v2.toInt64)) + v4.toInt64)) + v6.toInt64)) + v8.toInt64)) + v10.toInt64)) + v12.toInt64)) + v14.toInt64)) + v16)) + v18)] s17 _
    refine RR.s2 (pc' := 132) (lv' := [(0, .ref 0), (3, .long (((31 : Int64) * (((31 : Int64) * (((31 : Int64) * (((31 : Int64) * (((31 : Int64) * (((31 : Int64) * (((31 : Int64) * (((31 : Int64) * (((31 : Int64) * y3) + v2.toInt64)) + v4.toInt64)) + v6.toInt64)) + v8.toInt64)) + v10.toInt64)) + v12.toInt64)) + v14.toInt64)) + v16)) + v18)), (5, .int x5)]) (st' := []) dX5_mixDeeds_131 rfl ?_
    refine RR.inc (c := 1) (lv' := [(0, .ref 0), (3, .long (((31 : Int64) * (((31 : Int64) * (((31 : Int64) * (((31 : Int64) * (((31 : Int64) * (((31 : Int64) * (((31 : Int64) * (((31 : Int64) * (((31 : Int64) * y3) + v2.toInt64)) + v4.toInt64)) + v6.toInt64)) + v8.toInt64)) + v10.toInt64)) + v12.toInt64)) + v14.toInt64)) + v16)) + v18)), (5, .int (x5 + 1))]) dX5_mixDeeds_132 rfl (by decide) (by decide) rfl ?_
    refine RR.s2 (pc' := 5) (lv' := [(0, .ref 0), (3, .long (((31 : Int64) * (((31 : Int64) * (((31 : Int64) * (((31 : Int64) * (((31 : Int64) * (((31 : Int64) * (((31 : Int64) * (((31 : Int64) * (((31 : Int64) * y3) + v2.toInt64)) + v4.toInt64)) + v6.toInt64)) + v8.toInt64)) + v10.toInt64)) + v12.toInt64)) + v14.toInt64)) + v16)) + v18)), (5, .int (x5 + 1))]) (st' := []) dX5_mixDeeds_135 rfl ?_
    exact RR.cut [0, 1, 2] rfl H
set_option maxRecDepth 20000 in
theorem b_X5_mixDays {σ : r_St} {K : Int64 → r_St → Prop} {y1 : Int64}  (H : R_X5_mixDays_15 σ K y1 5 0) : M_X5_mixDays σ K y1 := by
  show RR 0 7 mX5_mixDays 0 [(0, .ref 0), (1, .long y1)] [] σ (rL K)
  refine RR.s2 (pc' := 1) (lv' := [(0, .ref 0), (1, .long y1)]) (st' := [.long y1]) dX5_mixDays_0 rfl ?_
  refine RR.s2 (pc' := 2) (lv' := [(0, .ref 0), (1, .long y1), (3, .long y1)]) (st' := []) dX5_mixDays_1 rfl ?_
  refine RR.gets dX5_mixDays_2 fs_X5_358 ?_
  refine RR.s2 (pc' := 7) (lv' := [(0, .ref 0), (1, .long y1), (3, .long y1), (5, .ref 1000)]) (st' := []) dX5_mixDays_5 rfl ?_
  refine RR.s2 (pc' := 9) (lv' := [(0, .ref 0), (1, .long y1), (3, .long y1), (5, .ref 1000)]) (st' := [.ref 1000]) dX5_mixDays_7 rfl ?_
  refine RR.dlen dX5_mixDays_9 ?_
  refine RR.s2 (pc' := 12) (lv' := [(0, .ref 0), (1, .long y1), (3, .long y1), (5, .ref 1000), (6, .int 5)]) (st' := []) dX5_mixDays_10 rfl ?_
  refine RR.ic (v := 0) dX5_mixDays_12 (by decide) ?_
  refine RR.s2 (pc' := 15) (lv' := [(0, .ref 0), (1, .long y1), (3, .long y1), (5, .ref 1000), (6, .int 5), (7, .int 0)]) (st' := []) dX5_mixDays_13 rfl ?_
  exact RR.cut [0, 2, 3, 4, 5] rfl H
set_option maxRecDepth 20000 in
theorem b_X5_mixDays_15 {σ : r_St} {K : Int64 → r_St → Prop} {y3 : Int64} {x6 : Int32} {x7 : Int32}  (H : (x6 ≤ x7 → K y3 σ) ∧ (¬ (x6 ≤ x7) → (∃ j1 : Nat, x7 = nI j1 ∧ j1 < 5 ∧ M_X5_rules σ (fun v5 s4 => M_X5_allows s4 (fun v7 s6 => M_X5_allows s6 (fun v9 s8 => M_X5_allowed s8 (fun v11 s10 => R_X5_mixDays_15 s10 K (((31 : Int64) * (((31 : Int64) * (((31 : Int64) * (((31 : Int64) * y3) + v5.toInt64)) + v7.toInt64)) + v9.toInt64)) + v11.toInt64) x6 (x7 + 1)) (r_ddI j1)) (r_ddI j1) 1) (r_ddI j1) 0) (r_ddI j1)))) : R_X5_mixDays_15 σ K y3 x6 x7 := by
  show RR 0 7 mX5_mixDays 15 [(0, .ref 0), (3, .long y3), (5, .ref 1000), (6, .int x6), (7, .int x7)] [] σ (rL K)
  refine RR.s2 (pc' := 17) (lv' := [(0, .ref 0), (3, .long y3), (5, .ref 1000), (6, .int x6), (7, .int x7)]) (st' := [.int x7]) dX5_mixDays_15 rfl ?_
  refine RR.s2 (pc' := 19) (lv' := [(0, .ref 0), (3, .long y3), (5, .ref 1000), (6, .int x6), (7, .int x7)]) (st' := [.int x6, .int x7]) dX5_mixDays_17 rfl ?_
  refine RR.br dX5_mixDays_19 rfl (fun c => ?_) (fun c => ?_)
  · have H := H.1 c
    refine RR.s2 (pc' := 84) (lv' := [(0, .ref 0), (3, .long y3), (5, .ref 1000), (6, .int x6), (7, .int x7)]) (st' := [.long y3]) dX5_mixDays_83 rfl ?_
    exact RR.lret dX5_mixDays_84 rfl ⟨_, rfl, H⟩
  · have H := H.2 c
    refine RR.s2 (pc' := 24) (lv' := [(0, .ref 0), (3, .long y3), (5, .ref 1000), (6, .int x6), (7, .int x7)]) (st' := [.ref 1000]) dX5_mixDays_22 rfl ?_
    refine RR.s2 (pc' := 26) (lv' := [(0, .ref 0), (3, .long y3), (5, .ref 1000), (6, .int x6), (7, .int x7)]) (st' := [.int x7, .ref 1000]) dX5_mixDays_24 rfl ?_
    obtain ⟨j1, e2, b3, H⟩ := H
    refine RR.dld dX5_mixDays_26 e2 b3 ?_
    refine RR.s2 (pc' := 29) (lv' := [(0, .ref 0), (3, .long y3), (5, .ref 1000), (6, .int x6), (7, .int x7), (8, .int (r_ddI j1))]) (st' := []) dX5_mixDays_27 rfl ?_
    refine RR.s2 (pc' := 30) (lv' := [(0, .ref 0), (3, .long y3), (5, .ref 1000), (6, .int x6), (7, .int x7), (8, .int (r_ddI j1))]) (st' := [.long y3]) dX5_mixDays_29 rfl ?_
    refine RR.s2 (pc' := 31) (lv' := [(0, .ref 0), (3, .long y3), (5, .ref 1000), (6, .int x6), (7, .int x7), (8, .int (r_ddI j1))]) (st' := [.ref 0, .long y3]) dX5_mixDays_30 rfl ?_
    refine RR.s2 (pc' := 33) (lv' := [(0, .ref 0), (3, .long y3), (5, .ref 1000), (6, .int x6), (7, .int x7), (8, .int (r_ddI j1))]) (st' := [.int (r_ddI j1), .ref 0, .long y3]) dX5_mixDays_31 rfl ?_
    refine RR.cV dX5_mixDays_33 ml_X5_362 rfl rfl (as := [.int (r_ddI j1)]) (rest := [.long y3]) rfl rfl (Nat.le_of_ble_eq_true rfl) (Nat.le_of_ble_eq_true rfl) (by decide) (RR.toI H (fun v5 s4 H => ?_))
    show RR 0 7 mX5_mixDays 36 [(0, .ref 0), (3, .long y3), (5, .ref 1000), (6, .int x6), (7, .int x7), (8, .int (r_ddI j1))] [.int v5, .long y3] s4 _
    refine RR.s2 (pc' := 37) (lv' := [(0, .ref 0), (3, .long y3), (5, .ref 1000), (6, .int x6), (7, .int x7), (8, .int (r_ddI j1))]) (st' := [.long v5.toInt64, .long y3]) dX5_mixDays_36 rfl ?_
    refine RR.cS (d' := 1) dX5_mixDays_37 ml_X5_301 (as := [.long y3, .long v5.toInt64]) (rest := []) rfl rfl (Nat.le_of_ble_eq_true rfl) (Nat.le_of_ble_eq_true rfl) (by decide) ?_
    show RR 0 1 mX5_mix 0 [(0, .long y3), (2, .long v5.toInt64)] [] s4 _
    refine RR.ldc2 dX5_mix_0 pw_w781 ?_
    refine RR.s2 (pc' := 4) (lv' := [(0, .long y3), (2, .long v5.toInt64)]) (st' := [.long y3, .long (31 : Int64)]) dX5_mix_3 rfl ?_
    refine RR.s2 (pc' := 5) (lv' := [(0, .long y3), (2, .long v5.toInt64)]) (st' := [.long ((31 : Int64) * y3)]) dX5_mix_4 rfl ?_
    refine RR.s2 (pc' := 6) (lv' := [(0, .long y3), (2, .long v5.toInt64)]) (st' := [.long v5.toInt64, .long ((31 : Int64) * y3)]) dX5_mix_5 rfl ?_
    refine RR.s2 (pc' := 7) (lv' := [(0, .long y3), (2, .long v5.toInt64)]) (st' := [.long (((31 : Int64) * y3) + v5.toInt64)]) dX5_mix_6 rfl ?_
    refine RR.lret dX5_mix_7 rfl ?_
    show RR 0 7 mX5_mixDays 40 [(0, .ref 0), (3, .long y3), (5, .ref 1000), (6, .int x6), (7, .int x7), (8, .int (r_ddI j1))] [.long (((31 : Int64) * y3) + v5.toInt64)] s4 _
    refine RR.s2 (pc' := 41) (lv' := [(0, .ref 0), (3, .long (((31 : Int64) * y3) + v5.toInt64)), (5, .ref 1000), (6, .int x6), (7, .int x7), (8, .int (r_ddI j1))]) (st' := []) dX5_mixDays_40 rfl ?_
    refine RR.s2 (pc' := 42) (lv' := [(0, .ref 0), (3, .long (((31 : Int64) * y3) + v5.toInt64)), (5, .ref 1000), (6, .int x6), (7, .int x7), (8, .int (r_ddI j1))]) (st' := [.long (((31 : Int64) * y3) + v5.toInt64)]) dX5_mixDays_41 rfl ?_
    refine RR.s2 (pc' := 43) (lv' := [(0, .ref 0), (3, .long (((31 : Int64) * y3) + v5.toInt64)), (5, .ref 1000), (6, .int x6), (7, .int x7), (8, .int (r_ddI j1))]) (st' := [.ref 0, .long (((31 : Int64) * y3) + v5.toInt64)]) dX5_mixDays_42 rfl ?_
    refine RR.s2 (pc' := 45) (lv' := [(0, .ref 0), (3, .long (((31 : Int64) * y3) + v5.toInt64)), (5, .ref 1000), (6, .int x6), (7, .int x7), (8, .int (r_ddI j1))]) (st' := [.int (r_ddI j1), .ref 0, .long (((31 : Int64) * y3) + v5.toInt64)]) dX5_mixDays_43 rfl ?_
    refine RR.ic (v := 0) dX5_mixDays_45 (by decide) ?_
    refine RR.cV dX5_mixDays_46 ml_X5_365 rfl rfl (as := [.int (r_ddI j1), .int 0]) (rest := [.long (((31 : Int64) * y3) + v5.toInt64)]) rfl rfl (Nat.le_of_ble_eq_true rfl) (Nat.le_of_ble_eq_true rfl) (by decide) (RR.toI H (fun v7 s6 H => ?_))
    show RR 0 7 mX5_mixDays 49 [(0, .ref 0), (3, .long (((31 : Int64) * y3) + v5.toInt64)), (5, .ref 1000), (6, .int x6), (7, .int x7), (8, .int (r_ddI j1))] [.int v7, .long (((31 : Int64) * y3) + v5.toInt64)] s6 _
    refine RR.s2 (pc' := 50) (lv' := [(0, .ref 0), (3, .long (((31 : Int64) * y3) + v5.toInt64)), (5, .ref 1000), (6, .int x6), (7, .int x7), (8, .int (r_ddI j1))]) (st' := [.long v7.toInt64, .long (((31 : Int64) * y3) + v5.toInt64)]) dX5_mixDays_49 rfl ?_
    refine RR.cS (d' := 1) dX5_mixDays_50 ml_X5_301 (as := [.long (((31 : Int64) * y3) + v5.toInt64), .long v7.toInt64]) (rest := []) rfl rfl (Nat.le_of_ble_eq_true rfl) (Nat.le_of_ble_eq_true rfl) (by decide) ?_
    show RR 0 1 mX5_mix 0 [(0, .long (((31 : Int64) * y3) + v5.toInt64)), (2, .long v7.toInt64)] [] s6 _
    refine RR.ldc2 dX5_mix_0 pw_w781 ?_
    refine RR.s2 (pc' := 4) (lv' := [(0, .long (((31 : Int64) * y3) + v5.toInt64)), (2, .long v7.toInt64)]) (st' := [.long (((31 : Int64) * y3) + v5.toInt64), .long (31 : Int64)]) dX5_mix_3 rfl ?_
    refine RR.s2 (pc' := 5) (lv' := [(0, .long (((31 : Int64) * y3) + v5.toInt64)), (2, .long v7.toInt64)]) (st' := [.long ((31 : Int64) * (((31 : Int64) * y3) + v5.toInt64))]) dX5_mix_4 rfl ?_
    refine RR.s2 (pc' := 6) (lv' := [(0, .long (((31 : Int64) * y3) + v5.toInt64)), (2, .long v7.toInt64)]) (st' := [.long v7.toInt64, .long ((31 : Int64) * (((31 : Int64) * y3) + v5.toInt64))]) dX5_mix_5 rfl ?_
    refine RR.s2 (pc' := 7) (lv' := [(0, .long (((31 : Int64) * y3) + v5.toInt64)), (2, .long v7.toInt64)]) (st' := [.long (((31 : Int64) * (((31 : Int64) * y3) + v5.toInt64)) + v7.toInt64)]) dX5_mix_6 rfl ?_
    refine RR.lret dX5_mix_7 rfl ?_
    show RR 0 7 mX5_mixDays 53 [(0, .ref 0), (3, .long (((31 : Int64) * y3) + v5.toInt64)), (5, .ref 1000), (6, .int x6), (7, .int x7), (8, .int (r_ddI j1))] [.long (((31 : Int64) * (((31 : Int64) * y3) + v5.toInt64)) + v7.toInt64)] s6 _
    refine RR.s2 (pc' := 54) (lv' := [(0, .ref 0), (3, .long (((31 : Int64) * y3) + v5.toInt64)), (5, .ref 1000), (6, .int x6), (7, .int x7), (8, .int (r_ddI j1))]) (st' := [.ref 0, .long (((31 : Int64) * (((31 : Int64) * y3) + v5.toInt64)) + v7.toInt64)]) dX5_mixDays_53 rfl ?_
    refine RR.s2 (pc' := 56) (lv' := [(0, .ref 0), (3, .long (((31 : Int64) * y3) + v5.toInt64)), (5, .ref 1000), (6, .int x6), (7, .int x7), (8, .int (r_ddI j1))]) (st' := [.int (r_ddI j1), .ref 0, .long (((31 : Int64) * (((31 : Int64) * y3) + v5.toInt64)) + v7.toInt64)]) dX5_mixDays_54 rfl ?_
    refine RR.ic (v := 1) dX5_mixDays_56 (by decide) ?_
    refine RR.cV dX5_mixDays_57 ml_X5_365 rfl rfl (as := [.int (r_ddI j1), .int 1]) (rest := [.long (((31 : Int64) * (((31 : Int64) * y3) + v5.toInt64)) + v7.toInt64)]) rfl rfl (Nat.le_of_ble_eq_true rfl) (Nat.le_of_ble_eq_true rfl) (by decide) (RR.toI H (fun v9 s8 H => ?_))
    show RR 0 7 mX5_mixDays 60 [(0, .ref 0), (3, .long (((31 : Int64) * y3) + v5.toInt64)), (5, .ref 1000), (6, .int x6), (7, .int x7), (8, .int (r_ddI j1))] [.int v9, .long (((31 : Int64) * (((31 : Int64) * y3) + v5.toInt64)) + v7.toInt64)] s8 _
    refine RR.s2 (pc' := 61) (lv' := [(0, .ref 0), (3, .long (((31 : Int64) * y3) + v5.toInt64)), (5, .ref 1000), (6, .int x6), (7, .int x7), (8, .int (r_ddI j1))]) (st' := [.long v9.toInt64, .long (((31 : Int64) * (((31 : Int64) * y3) + v5.toInt64)) + v7.toInt64)]) dX5_mixDays_60 rfl ?_
    refine RR.cS (d' := 1) dX5_mixDays_61 ml_X5_301 (as := [.long (((31 : Int64) * (((31 : Int64) * y3) + v5.toInt64)) + v7.toInt64), .long v9.toInt64]) (rest := []) rfl rfl (Nat.le_of_ble_eq_true rfl) (Nat.le_of_ble_eq_true rfl) (by decide) ?_
    show RR 0 1 mX5_mix 0 [(0, .long (((31 : Int64) * (((31 : Int64) * y3) + v5.toInt64)) + v7.toInt64)), (2, .long v9.toInt64)] [] s8 _
    refine RR.ldc2 dX5_mix_0 pw_w781 ?_
    refine RR.s2 (pc' := 4) (lv' := [(0, .long (((31 : Int64) * (((31 : Int64) * y3) + v5.toInt64)) + v7.toInt64)), (2, .long v9.toInt64)]) (st' := [.long (((31 : Int64) * (((31 : Int64) * y3) + v5.toInt64)) + v7.toInt64), .long (31 : Int64)]) dX5_mix_3 rfl ?_
    refine RR.s2 (pc' := 5) (lv' := [(0, .long (((31 : Int64) * (((31 : Int64) * y3) + v5.toInt64)) + v7.toInt64)), (2, .long v9.toInt64)]) (st' := [.long ((31 : Int64) * (((31 : Int64) * (((31 : Int64) * y3) + v5.toInt64)) + v7.toInt64))]) dX5_mix_4 rfl ?_
    refine RR.s2 (pc' := 6) (lv' := [(0, .long (((31 : Int64) * (((31 : Int64) * y3) + v5.toInt64)) + v7.toInt64)), (2, .long v9.toInt64)]) (st' := [.long v9.toInt64, .long ((31 : Int64) * (((31 : Int64) * (((31 : Int64) * y3) + v5.toInt64)) + v7.toInt64))]) dX5_mix_5 rfl ?_
    refine RR.s2 (pc' := 7) (lv' := [(0, .long (((31 : Int64) * (((31 : Int64) * y3) + v5.toInt64)) + v7.toInt64)), (2, .long v9.toInt64)]) (st' := [.long (((31 : Int64) * (((31 : Int64) * (((31 : Int64) * y3) + v5.toInt64)) + v7.toInt64)) + v9.toInt64)]) dX5_mix_6 rfl ?_
    refine RR.lret dX5_mix_7 rfl ?_
    show RR 0 7 mX5_mixDays 64 [(0, .ref 0), (3, .long (((31 : Int64) * y3) + v5.toInt64)), (5, .ref 1000), (6, .int x6), (7, .int x7), (8, .int (r_ddI j1))] [.long (((31 : Int64) * (((31 : Int64) * (((31 : Int64) * y3) + v5.toInt64)) + v7.toInt64)) + v9.toInt64)] s8 _
    refine RR.s2 (pc' := 65) (lv' := [(0, .ref 0), (3, .long (((31 : Int64) * (((31 : Int64) * (((31 : Int64) * y3) + v5.toInt64)) + v7.toInt64)) + v9.toInt64)), (5, .ref 1000), (6, .int x6), (7, .int x7), (8, .int (r_ddI j1))]) (st' := []) dX5_mixDays_64 rfl ?_
    refine RR.s2 (pc' := 66) (lv' := [(0, .ref 0), (3, .long (((31 : Int64) * (((31 : Int64) * (((31 : Int64) * y3) + v5.toInt64)) + v7.toInt64)) + v9.toInt64)), (5, .ref 1000), (6, .int x6), (7, .int x7), (8, .int (r_ddI j1))]) (st' := [.long (((31 : Int64) * (((31 : Int64) * (((31 : Int64) * y3) + v5.toInt64)) + v7.toInt64)) + v9.toInt64)]) dX5_mixDays_65 rfl ?_
    refine RR.s2 (pc' := 67) (lv' := [(0, .ref 0), (3, .long (((31 : Int64) * (((31 : Int64) * (((31 : Int64) * y3) + v5.toInt64)) + v7.toInt64)) + v9.toInt64)), (5, .ref 1000), (6, .int x6), (7, .int x7), (8, .int (r_ddI j1))]) (st' := [.ref 0, .long (((31 : Int64) * (((31 : Int64) * (((31 : Int64) * y3) + v5.toInt64)) + v7.toInt64)) + v9.toInt64)]) dX5_mixDays_66 rfl ?_
    refine RR.s2 (pc' := 69) (lv' := [(0, .ref 0), (3, .long (((31 : Int64) * (((31 : Int64) * (((31 : Int64) * y3) + v5.toInt64)) + v7.toInt64)) + v9.toInt64)), (5, .ref 1000), (6, .int x6), (7, .int x7), (8, .int (r_ddI j1))]) (st' := [.int (r_ddI j1), .ref 0, .long (((31 : Int64) * (((31 : Int64) * (((31 : Int64) * y3) + v5.toInt64)) + v7.toInt64)) + v9.toInt64)]) dX5_mixDays_67 rfl ?_
    refine RR.cV dX5_mixDays_69 ml_X5_368 rfl rfl (as := [.int (r_ddI j1)]) (rest := [.long (((31 : Int64) * (((31 : Int64) * (((31 : Int64) * y3) + v5.toInt64)) + v7.toInt64)) + v9.toInt64)]) rfl rfl (Nat.le_of_ble_eq_true rfl) (Nat.le_of_ble_eq_true rfl) (by decide) (RR.toI H (fun v11 s10 H => ?_))
    show RR 0 7 mX5_mixDays 72 [(0, .ref 0), (3, .long (((31 : Int64) * (((31 : Int64) * (((31 : Int64) * y3) + v5.toInt64)) + v7.toInt64)) + v9.toInt64)), (5, .ref 1000), (6, .int x6), (7, .int x7), (8, .int (r_ddI j1))] [.int v11, .long (((31 : Int64) * (((31 : Int64) * (((31 : Int64) * y3) + v5.toInt64)) + v7.toInt64)) + v9.toInt64)] s10 _
    refine RR.s2 (pc' := 73) (lv' := [(0, .ref 0), (3, .long (((31 : Int64) * (((31 : Int64) * (((31 : Int64) * y3) + v5.toInt64)) + v7.toInt64)) + v9.toInt64)), (5, .ref 1000), (6, .int x6), (7, .int x7), (8, .int (r_ddI j1))]) (st' := [.long v11.toInt64, .long (((31 : Int64) * (((31 : Int64) * (((31 : Int64) * y3) + v5.toInt64)) + v7.toInt64)) + v9.toInt64)]) dX5_mixDays_72 rfl ?_
    refine RR.cS (d' := 1) dX5_mixDays_73 ml_X5_301 (as := [.long (((31 : Int64) * (((31 : Int64) * (((31 : Int64) * y3) + v5.toInt64)) + v7.toInt64)) + v9.toInt64), .long v11.toInt64]) (rest := []) rfl rfl (Nat.le_of_ble_eq_true rfl) (Nat.le_of_ble_eq_true rfl) (by decide) ?_
    show RR 0 1 mX5_mix 0 [(0, .long (((31 : Int64) * (((31 : Int64) * (((31 : Int64) * y3) + v5.toInt64)) + v7.toInt64)) + v9.toInt64)), (2, .long v11.toInt64)] [] s10 _
    refine RR.ldc2 dX5_mix_0 pw_w781 ?_
    refine RR.s2 (pc' := 4) (lv' := [(0, .long (((31 : Int64) * (((31 : Int64) * (((31 : Int64) * y3) + v5.toInt64)) + v7.toInt64)) + v9.toInt64)), (2, .long v11.toInt64)]) (st' := [.long (((31 : Int64) * (((31 : Int64) * (((31 : Int64) * y3) + v5.toInt64)) + v7.toInt64)) + v9.toInt64), .long (31 : Int64)]) dX5_mix_3 rfl ?_
    refine RR.s2 (pc' := 5) (lv' := [(0, .long (((31 : Int64) * (((31 : Int64) * (((31 : Int64) * y3) + v5.toInt64)) + v7.toInt64)) + v9.toInt64)), (2, .long v11.toInt64)]) (st' := [.long ((31 : Int64) * (((31 : Int64) * (((31 : Int64) * (((31 : Int64) * y3) + v5.toInt64)) + v7.toInt64)) + v9.toInt64))]) dX5_mix_4 rfl ?_
    refine RR.s2 (pc' := 6) (lv' := [(0, .long (((31 : Int64) * (((31 : Int64) * (((31 : Int64) * y3) + v5.toInt64)) + v7.toInt64)) + v9.toInt64)), (2, .long v11.toInt64)]) (st' := [.long v11.toInt64, .long ((31 : Int64) * (((31 : Int64) * (((31 : Int64) * (((31 : Int64) * y3) + v5.toInt64)) + v7.toInt64)) + v9.toInt64))]) dX5_mix_5 rfl ?_
    refine RR.s2 (pc' := 7) (lv' := [(0, .long (((31 : Int64) * (((31 : Int64) * (((31 : Int64) * y3) + v5.toInt64)) + v7.toInt64)) + v9.toInt64)), (2, .long v11.toInt64)]) (st' := [.long (((31 : Int64) * (((31 : Int64) * (((31 : Int64) * (((31 : Int64) * y3) + v5.toInt64)) + v7.toInt64)) + v9.toInt64)) + v11.toInt64)]) dX5_mix_6 rfl ?_
    refine RR.lret dX5_mix_7 rfl ?_
    show RR 0 7 mX5_mixDays 76 [(0, .ref 0), (3, .long (((31 : Int64) * (((31 : Int64) * (((31 : Int64) * y3) + v5.toInt64)) + v7.toInt64)) + v9.toInt64)), (5, .ref 1000), (6, .int x6), (7, .int x7), (8, .int (r_ddI j1))] [.long (((31 : Int64) * (((31 : Int64) * (((31 : Int64) * (((31 : Int64) * y3) + v5.toInt64)) + v7.toInt64)) + v9.toInt64)) + v11.toInt64)] s10 _
    refine RR.s2 (pc' := 77) (lv' := [(0, .ref 0), (3, .long (((31 : Int64) * (((31 : Int64) * (((31 : Int64) * (((31 : Int64) * y3) + v5.toInt64)) + v7.toInt64)) + v9.toInt64)) + v11.toInt64)), (5, .ref 1000), (6, .int x6), (7, .int x7), (8, .int (r_ddI j1))]) (st' := []) dX5_mixDays_76 rfl ?_
    refine RR.inc (c := 1) (lv' := [(0, .ref 0), (3, .long (((31 : Int64) * (((31 : Int64) * (((31 : Int64) * (((31 : Int64) * y3) + v5.toInt64)) + v7.toInt64)) + v9.toInt64)) + v11.toInt64)), (5, .ref 1000), (6, .int x6), (7, .int (x7 + 1)), (8, .int (r_ddI j1))]) dX5_mixDays_77 rfl (by decide) (by decide) rfl ?_
    refine RR.s2 (pc' := 15) (lv' := [(0, .ref 0), (3, .long (((31 : Int64) * (((31 : Int64) * (((31 : Int64) * (((31 : Int64) * y3) + v5.toInt64)) + v7.toInt64)) + v9.toInt64)) + v11.toInt64)), (5, .ref 1000), (6, .int x6), (7, .int (x7 + 1)), (8, .int (r_ddI j1))]) (st' := []) dX5_mixDays_80 rfl ?_
    exact RR.cut [0, 1, 2, 3, 4] rfl H
set_option maxRecDepth 20000 in
theorem b_X5_mixFines {σ : r_St} {K : Int64 → r_St → Prop} {y1 : Int64}  (H : R_X5_mixFines_5 σ K y1 0) : M_X5_mixFines σ K y1 := by
  show RR 0 7 mX5_mixFines 0 [(0, .ref 0), (1, .long y1)] [] σ (rL K)
  refine RR.s2 (pc' := 1) (lv' := [(0, .ref 0), (1, .long y1)]) (st' := [.long y1]) dX5_mixFines_0 rfl ?_
  refine RR.s2 (pc' := 2) (lv' := [(0, .ref 0), (1, .long y1), (3, .long y1)]) (st' := []) dX5_mixFines_1 rfl ?_
  refine RR.ic (v := 0) dX5_mixFines_2 (by decide) ?_
  refine RR.s2 (pc' := 5) (lv' := [(0, .ref 0), (1, .long y1), (3, .long y1), (5, .int 0)]) (st' := []) dX5_mixFines_3 rfl ?_
  exact RR.cut [0, 2, 3] rfl H
set_option maxRecDepth 20000 in
theorem b_X5_mixFines_5 {σ : r_St} {K : Int64 → r_St → Prop} {y3 : Int64} {x5 : Int32}  (H : (σ.1 16 4 ≤ x5 → M_X5_coins σ (fun v2 s1 => M_X5_coins s1 (fun v4 s3 => K (((31 : Int64) * (((31 : Int64) * y3) + v2.toInt64)) + v4.toInt64) s3) 1) 0) ∧ (¬ (σ.1 16 4 ≤ x5) → M_X5_fined σ (fun v6 s5 => R_X5_mixFines_5 s5 K (((31 : Int64) * y3) + v6.toInt64) (x5 + 1)) x5)) : R_X5_mixFines_5 σ K y3 x5 := by
  show RR 0 7 mX5_mixFines 5 [(0, .ref 0), (3, .long y3), (5, .int x5)] [] σ (rL K)
  refine RR.s2 (pc' := 7) (lv' := [(0, .ref 0), (3, .long y3), (5, .int x5)]) (st' := [.int x5]) dX5_mixFines_5 rfl ?_
  refine RR.s2 (pc' := 8) (lv' := [(0, .ref 0), (3, .long y3), (5, .int x5)]) (st' := [.ref 0, .int x5]) dX5_mixFines_7 rfl ?_
  refine RR.getR dX5_mixFines_8 fl_X5_31 rfl rfl ?_
  refine RR.cV (d' := 1) dX5_mixFines_11 ml_X5_173 rfl rfl (as := []) (rest := [.int x5]) rfl rfl (Nat.le_of_ble_eq_true rfl) (Nat.le_of_ble_eq_true rfl) (by decide) ?_
  show RR 0 1 mX3_size 0 [(0, .ref 16)] [] σ _
  refine RR.s2 (pc' := 1) (lv' := [(0, .ref 16)]) (st' := [.ref 16]) dX3_size_0 rfl ?_
  refine RR.getI dX3_size_1 fl_X3_31 rfl rfl ?_
  refine RR.iret dX3_size_4 rfl ?_
  show RR 0 7 mX5_mixFines 14 [(0, .ref 0), (3, .long y3), (5, .int x5)] [.int (σ.1 16 4), .int x5] σ _
  refine RR.br dX5_mixFines_14 rfl (fun c => ?_) (fun c => ?_)
  · have H := H.1 c
    refine RR.s2 (pc' := 36) (lv' := [(0, .ref 0), (3, .long y3), (5, .int x5)]) (st' := [.long y3]) dX5_mixFines_35 rfl ?_
    refine RR.s2 (pc' := 37) (lv' := [(0, .ref 0), (3, .long y3), (5, .int x5)]) (st' := [.ref 0, .long y3]) dX5_mixFines_36 rfl ?_
    refine RR.ic (v := 0) dX5_mixFines_37 (by decide) ?_
    refine RR.cV dX5_mixFines_38 ml_X5_374 rfl rfl (as := [.int 0]) (rest := [.long y3]) rfl rfl (Nat.le_of_ble_eq_true rfl) (Nat.le_of_ble_eq_true rfl) (by decide) (RR.toI H (fun v2 s1 H => ?_))
    show RR 0 7 mX5_mixFines 41 [(0, .ref 0), (3, .long y3), (5, .int x5)] [.int v2, .long y3] s1 _
    refine RR.s2 (pc' := 42) (lv' := [(0, .ref 0), (3, .long y3), (5, .int x5)]) (st' := [.long v2.toInt64, .long y3]) dX5_mixFines_41 rfl ?_
    refine RR.cS (d' := 1) dX5_mixFines_42 ml_X5_301 (as := [.long y3, .long v2.toInt64]) (rest := []) rfl rfl (Nat.le_of_ble_eq_true rfl) (Nat.le_of_ble_eq_true rfl) (by decide) ?_
    show RR 0 1 mX5_mix 0 [(0, .long y3), (2, .long v2.toInt64)] [] s1 _
    refine RR.ldc2 dX5_mix_0 pw_w781 ?_
    refine RR.s2 (pc' := 4) (lv' := [(0, .long y3), (2, .long v2.toInt64)]) (st' := [.long y3, .long (31 : Int64)]) dX5_mix_3 rfl ?_
    refine RR.s2 (pc' := 5) (lv' := [(0, .long y3), (2, .long v2.toInt64)]) (st' := [.long ((31 : Int64) * y3)]) dX5_mix_4 rfl ?_
    refine RR.s2 (pc' := 6) (lv' := [(0, .long y3), (2, .long v2.toInt64)]) (st' := [.long v2.toInt64, .long ((31 : Int64) * y3)]) dX5_mix_5 rfl ?_
    refine RR.s2 (pc' := 7) (lv' := [(0, .long y3), (2, .long v2.toInt64)]) (st' := [.long (((31 : Int64) * y3) + v2.toInt64)]) dX5_mix_6 rfl ?_
    refine RR.lret dX5_mix_7 rfl ?_
    show RR 0 7 mX5_mixFines 45 [(0, .ref 0), (3, .long y3), (5, .int x5)] [.long (((31 : Int64) * y3) + v2.toInt64)] s1 _
    refine RR.s2 (pc' := 46) (lv' := [(0, .ref 0), (3, .long y3), (5, .int x5)]) (st' := [.ref 0, .long (((31 : Int64) * y3) + v2.toInt64)]) dX5_mixFines_45 rfl ?_
    refine RR.ic (v := 1) dX5_mixFines_46 (by decide) ?_
    refine RR.cV dX5_mixFines_47 ml_X5_374 rfl rfl (as := [.int 1]) (rest := [.long (((31 : Int64) * y3) + v2.toInt64)]) rfl rfl (Nat.le_of_ble_eq_true rfl) (Nat.le_of_ble_eq_true rfl) (by decide) (RR.toI H (fun v4 s3 H => ?_))
    show RR 0 7 mX5_mixFines 50 [(0, .ref 0), (3, .long y3), (5, .int x5)] [.int v4, .long (((31 : Int64) * y3) + v2.toInt64)] s3 _
    refine RR.s2 (pc' := 51) (lv' := [(0, .ref 0), (3, .long y3), (5, .int x5)]) (st' := [.long v4.toInt64, .long (((31 : Int64) * y3) + v2.toInt64)]) dX5_mixFines_50 rfl ?_
    refine RR.cS (d' := 1) dX5_mixFines_51 ml_X5_301 (as := [.long (((31 : Int64) * y3) + v2.toInt64), .long v4.toInt64]) (rest := []) rfl rfl (Nat.le_of_ble_eq_true rfl) (Nat.le_of_ble_eq_true rfl) (by decide) ?_
    show RR 0 1 mX5_mix 0 [(0, .long (((31 : Int64) * y3) + v2.toInt64)), (2, .long v4.toInt64)] [] s3 _
    refine RR.ldc2 dX5_mix_0 pw_w781 ?_
    refine RR.s2 (pc' := 4) (lv' := [(0, .long (((31 : Int64) * y3) + v2.toInt64)), (2, .long v4.toInt64)]) (st' := [.long (((31 : Int64) * y3) + v2.toInt64), .long (31 : Int64)]) dX5_mix_3 rfl ?_
    refine RR.s2 (pc' := 5) (lv' := [(0, .long (((31 : Int64) * y3) + v2.toInt64)), (2, .long v4.toInt64)]) (st' := [.long ((31 : Int64) * (((31 : Int64) * y3) + v2.toInt64))]) dX5_mix_4 rfl ?_
    refine RR.s2 (pc' := 6) (lv' := [(0, .long (((31 : Int64) * y3) + v2.toInt64)), (2, .long v4.toInt64)]) (st' := [.long v4.toInt64, .long ((31 : Int64) * (((31 : Int64) * y3) + v2.toInt64))]) dX5_mix_5 rfl ?_
    refine RR.s2 (pc' := 7) (lv' := [(0, .long (((31 : Int64) * y3) + v2.toInt64)), (2, .long v4.toInt64)]) (st' := [.long (((31 : Int64) * (((31 : Int64) * y3) + v2.toInt64)) + v4.toInt64)]) dX5_mix_6 rfl ?_
    refine RR.lret dX5_mix_7 rfl ?_
    show RR 0 7 mX5_mixFines 54 [(0, .ref 0), (3, .long y3), (5, .int x5)] [.long (((31 : Int64) * (((31 : Int64) * y3) + v2.toInt64)) + v4.toInt64)] s3 _
    exact RR.lret dX5_mixFines_54 rfl ⟨_, rfl, H⟩
  · have H := H.2 c
    refine RR.s2 (pc' := 18) (lv' := [(0, .ref 0), (3, .long y3), (5, .int x5)]) (st' := [.long y3]) dX5_mixFines_17 rfl ?_
    refine RR.s2 (pc' := 19) (lv' := [(0, .ref 0), (3, .long y3), (5, .int x5)]) (st' := [.ref 0, .long y3]) dX5_mixFines_18 rfl ?_
    refine RR.s2 (pc' := 21) (lv' := [(0, .ref 0), (3, .long y3), (5, .int x5)]) (st' := [.int x5, .ref 0, .long y3]) dX5_mixFines_19 rfl ?_
    refine RR.cV dX5_mixFines_21 ml_X5_371 rfl rfl (as := [.int x5]) (rest := [.long y3]) rfl rfl (Nat.le_of_ble_eq_true rfl) (Nat.le_of_ble_eq_true rfl) (by decide) (RR.toI H (fun v6 s5 H => ?_))
    show RR 0 7 mX5_mixFines 24 [(0, .ref 0), (3, .long y3), (5, .int x5)] [.int v6, .long y3] s5 _
    refine RR.s2 (pc' := 25) (lv' := [(0, .ref 0), (3, .long y3), (5, .int x5)]) (st' := [.long v6.toInt64, .long y3]) dX5_mixFines_24 rfl ?_
    refine RR.cS (d' := 1) dX5_mixFines_25 ml_X5_301 (as := [.long y3, .long v6.toInt64]) (rest := []) rfl rfl (Nat.le_of_ble_eq_true rfl) (Nat.le_of_ble_eq_true rfl) (by decide) ?_
    show RR 0 1 mX5_mix 0 [(0, .long y3), (2, .long v6.toInt64)] [] s5 _
    refine RR.ldc2 dX5_mix_0 pw_w781 ?_
    refine RR.s2 (pc' := 4) (lv' := [(0, .long y3), (2, .long v6.toInt64)]) (st' := [.long y3, .long (31 : Int64)]) dX5_mix_3 rfl ?_
    refine RR.s2 (pc' := 5) (lv' := [(0, .long y3), (2, .long v6.toInt64)]) (st' := [.long ((31 : Int64) * y3)]) dX5_mix_4 rfl ?_
    refine RR.s2 (pc' := 6) (lv' := [(0, .long y3), (2, .long v6.toInt64)]) (st' := [.long v6.toInt64, .long ((31 : Int64) * y3)]) dX5_mix_5 rfl ?_
    refine RR.s2 (pc' := 7) (lv' := [(0, .long y3), (2, .long v6.toInt64)]) (st' := [.long (((31 : Int64) * y3) + v6.toInt64)]) dX5_mix_6 rfl ?_
    refine RR.lret dX5_mix_7 rfl ?_
    show RR 0 7 mX5_mixFines 28 [(0, .ref 0), (3, .long y3), (5, .int x5)] [.long (((31 : Int64) * y3) + v6.toInt64)] s5 _
    refine RR.s2 (pc' := 29) (lv' := [(0, .ref 0), (3, .long (((31 : Int64) * y3) + v6.toInt64)), (5, .int x5)]) (st' := []) dX5_mixFines_28 rfl ?_
    refine RR.inc (c := 1) (lv' := [(0, .ref 0), (3, .long (((31 : Int64) * y3) + v6.toInt64)), (5, .int (x5 + 1))]) dX5_mixFines_29 rfl (by decide) (by decide) rfl ?_
    refine RR.s2 (pc' := 5) (lv' := [(0, .ref 0), (3, .long (((31 : Int64) * y3) + v6.toInt64)), (5, .int (x5 + 1))]) (st' := []) dX5_mixFines_32 rfl ?_
    exact RR.cut [0, 1, 2] rfl H
set_option maxRecDepth 20000 in
theorem b_X5_mixPlans {σ : r_St} {K : Int64 → r_St → Prop} {y1 : Int64}  (H : M_X5_finish σ (fun v2 s1 => M_X5_finish s1 (fun v4 s3 => M_X5_plan s3 (fun v6 s5 => M_X5_plan s5 (fun v8 s7 => M_X5_words s7 (fun v10 s9 => M_X5_words s9 (fun v12 s11 => K (((31 : Int64) * (((31 : Int64) * (((31 : Int64) * (((31 : Int64) * (((31 : Int64) * (((31 : Int64) * y1) + v2.toInt64)) + v4.toInt64)) + v6.toInt64)) + v8.toInt64)) + v10.toInt64)) + v12.toInt64) s11) 4 2 1) 4 2 0) 2 0) 2 (-1)) 2 0) 2 (-1)) : M_X5_mixPlans σ K y1 := by
  show RR 0 24 mX5_mixPlans 0 [(0, .ref 0), (1, .long y1)] [] σ (rL K)
  refine RR.s2 (pc' := 1) (lv' := [(0, .ref 0), (1, .long y1)]) (st' := [.long y1]) dX5_mixPlans_0 rfl ?_
  refine RR.s2 (pc' := 2) (lv' := [(0, .ref 0), (1, .long y1)]) (st' := [.ref 0, .long y1]) dX5_mixPlans_1 rfl ?_
  refine RR.ic (v := 2) dX5_mixPlans_2 (by decide) ?_
  refine RR.ic (v := (-1)) dX5_mixPlans_3 (by decide) ?_
  refine RR.cV dX5_mixPlans_4 ml_X5_377 rfl rfl (as := [.int 2, .int (-1)]) (rest := [.long y1]) rfl rfl (Nat.le_of_ble_eq_true rfl) (Nat.le_of_ble_eq_true rfl) (by decide) (RR.toI H (fun v2 s1 H => ?_))
  show RR 0 24 mX5_mixPlans 7 [(0, .ref 0), (1, .long y1)] [.int v2, .long y1] s1 _
  refine RR.s2 (pc' := 8) (lv' := [(0, .ref 0), (1, .long y1)]) (st' := [.long v2.toInt64, .long y1]) dX5_mixPlans_7 rfl ?_
  refine RR.cS (d' := 1) dX5_mixPlans_8 ml_X5_301 (as := [.long y1, .long v2.toInt64]) (rest := []) rfl rfl (Nat.le_of_ble_eq_true rfl) (Nat.le_of_ble_eq_true rfl) (by decide) ?_
  show RR 0 1 mX5_mix 0 [(0, .long y1), (2, .long v2.toInt64)] [] s1 _
  refine RR.ldc2 dX5_mix_0 pw_w781 ?_
  refine RR.s2 (pc' := 4) (lv' := [(0, .long y1), (2, .long v2.toInt64)]) (st' := [.long y1, .long (31 : Int64)]) dX5_mix_3 rfl ?_
  refine RR.s2 (pc' := 5) (lv' := [(0, .long y1), (2, .long v2.toInt64)]) (st' := [.long ((31 : Int64) * y1)]) dX5_mix_4 rfl ?_
  refine RR.s2 (pc' := 6) (lv' := [(0, .long y1), (2, .long v2.toInt64)]) (st' := [.long v2.toInt64, .long ((31 : Int64) * y1)]) dX5_mix_5 rfl ?_
  refine RR.s2 (pc' := 7) (lv' := [(0, .long y1), (2, .long v2.toInt64)]) (st' := [.long (((31 : Int64) * y1) + v2.toInt64)]) dX5_mix_6 rfl ?_
  refine RR.lret dX5_mix_7 rfl ?_
  show RR 0 24 mX5_mixPlans 11 [(0, .ref 0), (1, .long y1)] [.long (((31 : Int64) * y1) + v2.toInt64)] s1 _
  refine RR.s2 (pc' := 12) (lv' := [(0, .ref 0), (1, .long y1)]) (st' := [.ref 0, .long (((31 : Int64) * y1) + v2.toInt64)]) dX5_mixPlans_11 rfl ?_
  refine RR.ic (v := 2) dX5_mixPlans_12 (by decide) ?_
  refine RR.ic (v := 0) dX5_mixPlans_13 (by decide) ?_
  refine RR.cV dX5_mixPlans_14 ml_X5_377 rfl rfl (as := [.int 2, .int 0]) (rest := [.long (((31 : Int64) * y1) + v2.toInt64)]) rfl rfl (Nat.le_of_ble_eq_true rfl) (Nat.le_of_ble_eq_true rfl) (by decide) (RR.toI H (fun v4 s3 H => ?_))
  show RR 0 24 mX5_mixPlans 17 [(0, .ref 0), (1, .long y1)] [.int v4, .long (((31 : Int64) * y1) + v2.toInt64)] s3 _
  refine RR.s2 (pc' := 18) (lv' := [(0, .ref 0), (1, .long y1)]) (st' := [.long v4.toInt64, .long (((31 : Int64) * y1) + v2.toInt64)]) dX5_mixPlans_17 rfl ?_
  refine RR.cS (d' := 1) dX5_mixPlans_18 ml_X5_301 (as := [.long (((31 : Int64) * y1) + v2.toInt64), .long v4.toInt64]) (rest := []) rfl rfl (Nat.le_of_ble_eq_true rfl) (Nat.le_of_ble_eq_true rfl) (by decide) ?_
  show RR 0 1 mX5_mix 0 [(0, .long (((31 : Int64) * y1) + v2.toInt64)), (2, .long v4.toInt64)] [] s3 _
  refine RR.ldc2 dX5_mix_0 pw_w781 ?_
  refine RR.s2 (pc' := 4) (lv' := [(0, .long (((31 : Int64) * y1) + v2.toInt64)), (2, .long v4.toInt64)]) (st' := [.long (((31 : Int64) * y1) + v2.toInt64), .long (31 : Int64)]) dX5_mix_3 rfl ?_
  refine RR.s2 (pc' := 5) (lv' := [(0, .long (((31 : Int64) * y1) + v2.toInt64)), (2, .long v4.toInt64)]) (st' := [.long ((31 : Int64) * (((31 : Int64) * y1) + v2.toInt64))]) dX5_mix_4 rfl ?_
  refine RR.s2 (pc' := 6) (lv' := [(0, .long (((31 : Int64) * y1) + v2.toInt64)), (2, .long v4.toInt64)]) (st' := [.long v4.toInt64, .long ((31 : Int64) * (((31 : Int64) * y1) + v2.toInt64))]) dX5_mix_5 rfl ?_
  refine RR.s2 (pc' := 7) (lv' := [(0, .long (((31 : Int64) * y1) + v2.toInt64)), (2, .long v4.toInt64)]) (st' := [.long (((31 : Int64) * (((31 : Int64) * y1) + v2.toInt64)) + v4.toInt64)]) dX5_mix_6 rfl ?_
  refine RR.lret dX5_mix_7 rfl ?_
  show RR 0 24 mX5_mixPlans 21 [(0, .ref 0), (1, .long y1)] [.long (((31 : Int64) * (((31 : Int64) * y1) + v2.toInt64)) + v4.toInt64)] s3 _
  refine RR.s2 (pc' := 22) (lv' := [(0, .ref 0), (1, .long y1), (3, .long (((31 : Int64) * (((31 : Int64) * y1) + v2.toInt64)) + v4.toInt64))]) (st' := []) dX5_mixPlans_21 rfl ?_
  refine RR.s2 (pc' := 23) (lv' := [(0, .ref 0), (1, .long y1), (3, .long (((31 : Int64) * (((31 : Int64) * y1) + v2.toInt64)) + v4.toInt64))]) (st' := [.long (((31 : Int64) * (((31 : Int64) * y1) + v2.toInt64)) + v4.toInt64)]) dX5_mixPlans_22 rfl ?_
  refine RR.s2 (pc' := 24) (lv' := [(0, .ref 0), (1, .long y1), (3, .long (((31 : Int64) * (((31 : Int64) * y1) + v2.toInt64)) + v4.toInt64))]) (st' := [.ref 0, .long (((31 : Int64) * (((31 : Int64) * y1) + v2.toInt64)) + v4.toInt64)]) dX5_mixPlans_23 rfl ?_
  refine RR.ic (v := 2) dX5_mixPlans_24 (by decide) ?_
  refine RR.ic (v := (-1)) dX5_mixPlans_25 (by decide) ?_
  refine RR.cV dX5_mixPlans_26 ml_X5_380 rfl rfl (as := [.int 2, .int (-1)]) (rest := [.long (((31 : Int64) * (((31 : Int64) * y1) + v2.toInt64)) + v4.toInt64)]) rfl rfl (Nat.le_of_ble_eq_true rfl) (Nat.le_of_ble_eq_true rfl) (by decide) (RR.toI H (fun v6 s5 H => ?_))
  show RR 0 24 mX5_mixPlans 29 [(0, .ref 0), (1, .long y1), (3, .long (((31 : Int64) * (((31 : Int64) * y1) + v2.toInt64)) + v4.toInt64))] [.int v6, .long (((31 : Int64) * (((31 : Int64) * y1) + v2.toInt64)) + v4.toInt64)] s5 _
  refine RR.s2 (pc' := 30) (lv' := [(0, .ref 0), (1, .long y1), (3, .long (((31 : Int64) * (((31 : Int64) * y1) + v2.toInt64)) + v4.toInt64))]) (st' := [.long v6.toInt64, .long (((31 : Int64) * (((31 : Int64) * y1) + v2.toInt64)) + v4.toInt64)]) dX5_mixPlans_29 rfl ?_
  refine RR.cS (d' := 1) dX5_mixPlans_30 ml_X5_301 (as := [.long (((31 : Int64) * (((31 : Int64) * y1) + v2.toInt64)) + v4.toInt64), .long v6.toInt64]) (rest := []) rfl rfl (Nat.le_of_ble_eq_true rfl) (Nat.le_of_ble_eq_true rfl) (by decide) ?_
  show RR 0 1 mX5_mix 0 [(0, .long (((31 : Int64) * (((31 : Int64) * y1) + v2.toInt64)) + v4.toInt64)), (2, .long v6.toInt64)] [] s5 _
  refine RR.ldc2 dX5_mix_0 pw_w781 ?_
  refine RR.s2 (pc' := 4) (lv' := [(0, .long (((31 : Int64) * (((31 : Int64) * y1) + v2.toInt64)) + v4.toInt64)), (2, .long v6.toInt64)]) (st' := [.long (((31 : Int64) * (((31 : Int64) * y1) + v2.toInt64)) + v4.toInt64), .long (31 : Int64)]) dX5_mix_3 rfl ?_
  refine RR.s2 (pc' := 5) (lv' := [(0, .long (((31 : Int64) * (((31 : Int64) * y1) + v2.toInt64)) + v4.toInt64)), (2, .long v6.toInt64)]) (st' := [.long ((31 : Int64) * (((31 : Int64) * (((31 : Int64) * y1) + v2.toInt64)) + v4.toInt64))]) dX5_mix_4 rfl ?_
  refine RR.s2 (pc' := 6) (lv' := [(0, .long (((31 : Int64) * (((31 : Int64) * y1) + v2.toInt64)) + v4.toInt64)), (2, .long v6.toInt64)]) (st' := [.long v6.toInt64, .long ((31 : Int64) * (((31 : Int64) * (((31 : Int64) * y1) + v2.toInt64)) + v4.toInt64))]) dX5_mix_5 rfl ?_
  refine RR.s2 (pc' := 7) (lv' := [(0, .long (((31 : Int64) * (((31 : Int64) * y1) + v2.toInt64)) + v4.toInt64)), (2, .long v6.toInt64)]) (st' := [.long (((31 : Int64) * (((31 : Int64) * (((31 : Int64) * y1) + v2.toInt64)) + v4.toInt64)) + v6.toInt64)]) dX5_mix_6 rfl ?_
  refine RR.lret dX5_mix_7 rfl ?_
  show RR 0 24 mX5_mixPlans 33 [(0, .ref 0), (1, .long y1), (3, .long (((31 : Int64) * (((31 : Int64) * y1) + v2.toInt64)) + v4.toInt64))] [.long (((31 : Int64) * (((31 : Int64) * (((31 : Int64) * y1) + v2.toInt64)) + v4.toInt64)) + v6.toInt64)] s5 _
  refine RR.s2 (pc' := 34) (lv' := [(0, .ref 0), (1, .long y1), (3, .long (((31 : Int64) * (((31 : Int64) * y1) + v2.toInt64)) + v4.toInt64))]) (st' := [.ref 0, .long (((31 : Int64) * (((31 : Int64) * (((31 : Int64) * y1) + v2.toInt64)) + v4.toInt64)) + v6.toInt64)]) dX5_mixPlans_33 rfl ?_
  refine RR.ic (v := 2) dX5_mixPlans_34 (by decide) ?_
  refine RR.ic (v := 0) dX5_mixPlans_35 (by decide) ?_
  refine RR.cV dX5_mixPlans_36 ml_X5_380 rfl rfl (as := [.int 2, .int 0]) (rest := [.long (((31 : Int64) * (((31 : Int64) * (((31 : Int64) * y1) + v2.toInt64)) + v4.toInt64)) + v6.toInt64)]) rfl rfl (Nat.le_of_ble_eq_true rfl) (Nat.le_of_ble_eq_true rfl) (by decide) (RR.toI H (fun v8 s7 H => ?_))
  show RR 0 24 mX5_mixPlans 39 [(0, .ref 0), (1, .long y1), (3, .long (((31 : Int64) * (((31 : Int64) * y1) + v2.toInt64)) + v4.toInt64))] [.int v8, .long (((31 : Int64) * (((31 : Int64) * (((31 : Int64) * y1) + v2.toInt64)) + v4.toInt64)) + v6.toInt64)] s7 _
  refine RR.s2 (pc' := 40) (lv' := [(0, .ref 0), (1, .long y1), (3, .long (((31 : Int64) * (((31 : Int64) * y1) + v2.toInt64)) + v4.toInt64))]) (st' := [.long v8.toInt64, .long (((31 : Int64) * (((31 : Int64) * (((31 : Int64) * y1) + v2.toInt64)) + v4.toInt64)) + v6.toInt64)]) dX5_mixPlans_39 rfl ?_
  refine RR.cS (d' := 1) dX5_mixPlans_40 ml_X5_301 (as := [.long (((31 : Int64) * (((31 : Int64) * (((31 : Int64) * y1) + v2.toInt64)) + v4.toInt64)) + v6.toInt64), .long v8.toInt64]) (rest := []) rfl rfl (Nat.le_of_ble_eq_true rfl) (Nat.le_of_ble_eq_true rfl) (by decide) ?_
  show RR 0 1 mX5_mix 0 [(0, .long (((31 : Int64) * (((31 : Int64) * (((31 : Int64) * y1) + v2.toInt64)) + v4.toInt64)) + v6.toInt64)), (2, .long v8.toInt64)] [] s7 _
  refine RR.ldc2 dX5_mix_0 pw_w781 ?_
  refine RR.s2 (pc' := 4) (lv' := [(0, .long (((31 : Int64) * (((31 : Int64) * (((31 : Int64) * y1) + v2.toInt64)) + v4.toInt64)) + v6.toInt64)), (2, .long v8.toInt64)]) (st' := [.long (((31 : Int64) * (((31 : Int64) * (((31 : Int64) * y1) + v2.toInt64)) + v4.toInt64)) + v6.toInt64), .long (31 : Int64)]) dX5_mix_3 rfl ?_
  refine RR.s2 (pc' := 5) (lv' := [(0, .long (((31 : Int64) * (((31 : Int64) * (((31 : Int64) * y1) + v2.toInt64)) + v4.toInt64)) + v6.toInt64)), (2, .long v8.toInt64)]) (st' := [.long ((31 : Int64) * (((31 : Int64) * (((31 : Int64) * (((31 : Int64) * y1) + v2.toInt64)) + v4.toInt64)) + v6.toInt64))]) dX5_mix_4 rfl ?_
  refine RR.s2 (pc' := 6) (lv' := [(0, .long (((31 : Int64) * (((31 : Int64) * (((31 : Int64) * y1) + v2.toInt64)) + v4.toInt64)) + v6.toInt64)), (2, .long v8.toInt64)]) (st' := [.long v8.toInt64, .long ((31 : Int64) * (((31 : Int64) * (((31 : Int64) * (((31 : Int64) * y1) + v2.toInt64)) + v4.toInt64)) + v6.toInt64))]) dX5_mix_5 rfl ?_
  refine RR.s2 (pc' := 7) (lv' := [(0, .long (((31 : Int64) * (((31 : Int64) * (((31 : Int64) * y1) + v2.toInt64)) + v4.toInt64)) + v6.toInt64)), (2, .long v8.toInt64)]) (st' := [.long (((31 : Int64) * (((31 : Int64) * (((31 : Int64) * (((31 : Int64) * y1) + v2.toInt64)) + v4.toInt64)) + v6.toInt64)) + v8.toInt64)]) dX5_mix_6 rfl ?_
  refine RR.lret dX5_mix_7 rfl ?_
  show RR 0 24 mX5_mixPlans 43 [(0, .ref 0), (1, .long y1), (3, .long (((31 : Int64) * (((31 : Int64) * y1) + v2.toInt64)) + v4.toInt64))] [.long (((31 : Int64) * (((31 : Int64) * (((31 : Int64) * (((31 : Int64) * y1) + v2.toInt64)) + v4.toInt64)) + v6.toInt64)) + v8.toInt64)] s7 _
  refine RR.s2 (pc' := 44) (lv' := [(0, .ref 0), (1, .long y1), (3, .long (((31 : Int64) * (((31 : Int64) * (((31 : Int64) * (((31 : Int64) * y1) + v2.toInt64)) + v4.toInt64)) + v6.toInt64)) + v8.toInt64))]) (st' := []) dX5_mixPlans_43 rfl ?_
  refine RR.s2 (pc' := 45) (lv' := [(0, .ref 0), (1, .long y1), (3, .long (((31 : Int64) * (((31 : Int64) * (((31 : Int64) * (((31 : Int64) * y1) + v2.toInt64)) + v4.toInt64)) + v6.toInt64)) + v8.toInt64))]) (st' := [.long (((31 : Int64) * (((31 : Int64) * (((31 : Int64) * (((31 : Int64) * y1) + v2.toInt64)) + v4.toInt64)) + v6.toInt64)) + v8.toInt64)]) dX5_mixPlans_44 rfl ?_
  refine RR.s2 (pc' := 46) (lv' := [(0, .ref 0), (1, .long y1), (3, .long (((31 : Int64) * (((31 : Int64) * (((31 : Int64) * (((31 : Int64) * y1) + v2.toInt64)) + v4.toInt64)) + v6.toInt64)) + v8.toInt64))]) (st' := [.ref 0, .long (((31 : Int64) * (((31 : Int64) * (((31 : Int64) * (((31 : Int64) * y1) + v2.toInt64)) + v4.toInt64)) + v6.toInt64)) + v8.toInt64)]) dX5_mixPlans_45 rfl ?_
  refine RR.ic (v := 4) dX5_mixPlans_46 (by decide) ?_
  refine RR.ic (v := 2) dX5_mixPlans_47 (by decide) ?_
  refine RR.ic (v := 0) dX5_mixPlans_48 (by decide) ?_
  refine RR.cV dX5_mixPlans_49 ml_X5_383 rfl rfl (as := [.int 4, .int 2, .int 0]) (rest := [.long (((31 : Int64) * (((31 : Int64) * (((31 : Int64) * (((31 : Int64) * y1) + v2.toInt64)) + v4.toInt64)) + v6.toInt64)) + v8.toInt64)]) rfl rfl (Nat.le_of_ble_eq_true rfl) (Nat.le_of_ble_eq_true rfl) (by decide) (RR.toI H (fun v10 s9 H => ?_))
  show RR 0 24 mX5_mixPlans 52 [(0, .ref 0), (1, .long y1), (3, .long (((31 : Int64) * (((31 : Int64) * (((31 : Int64) * (((31 : Int64) * y1) + v2.toInt64)) + v4.toInt64)) + v6.toInt64)) + v8.toInt64))] [.int v10, .long (((31 : Int64) * (((31 : Int64) * (((31 : Int64) * (((31 : Int64) * y1) + v2.toInt64)) + v4.toInt64)) + v6.toInt64)) + v8.toInt64)] s9 _
  refine RR.s2 (pc' := 53) (lv' := [(0, .ref 0), (1, .long y1), (3, .long (((31 : Int64) * (((31 : Int64) * (((31 : Int64) * (((31 : Int64) * y1) + v2.toInt64)) + v4.toInt64)) + v6.toInt64)) + v8.toInt64))]) (st' := [.long v10.toInt64, .long (((31 : Int64) * (((31 : Int64) * (((31 : Int64) * (((31 : Int64) * y1) + v2.toInt64)) + v4.toInt64)) + v6.toInt64)) + v8.toInt64)]) dX5_mixPlans_52 rfl ?_
  refine RR.cS (d' := 1) dX5_mixPlans_53 ml_X5_301 (as := [.long (((31 : Int64) * (((31 : Int64) * (((31 : Int64) * (((31 : Int64) * y1) + v2.toInt64)) + v4.toInt64)) + v6.toInt64)) + v8.toInt64), .long v10.toInt64]) (rest := []) rfl rfl (Nat.le_of_ble_eq_true rfl) (Nat.le_of_ble_eq_true rfl) (by decide) ?_
  show RR 0 1 mX5_mix 0 [(0, .long (((31 : Int64) * (((31 : Int64) * (((31 : Int64) * (((31 : Int64) * y1) + v2.toInt64)) + v4.toInt64)) + v6.toInt64)) + v8.toInt64)), (2, .long v10.toInt64)] [] s9 _
  refine RR.ldc2 dX5_mix_0 pw_w781 ?_
  refine RR.s2 (pc' := 4) (lv' := [(0, .long (((31 : Int64) * (((31 : Int64) * (((31 : Int64) * (((31 : Int64) * y1) + v2.toInt64)) + v4.toInt64)) + v6.toInt64)) + v8.toInt64)), (2, .long v10.toInt64)]) (st' := [.long (((31 : Int64) * (((31 : Int64) * (((31 : Int64) * (((31 : Int64) * y1) + v2.toInt64)) + v4.toInt64)) + v6.toInt64)) + v8.toInt64), .long (31 : Int64)]) dX5_mix_3 rfl ?_
  refine RR.s2 (pc' := 5) (lv' := [(0, .long (((31 : Int64) * (((31 : Int64) * (((31 : Int64) * (((31 : Int64) * y1) + v2.toInt64)) + v4.toInt64)) + v6.toInt64)) + v8.toInt64)), (2, .long v10.toInt64)]) (st' := [.long ((31 : Int64) * (((31 : Int64) * (((31 : Int64) * (((31 : Int64) * (((31 : Int64) * y1) + v2.toInt64)) + v4.toInt64)) + v6.toInt64)) + v8.toInt64))]) dX5_mix_4 rfl ?_
  refine RR.s2 (pc' := 6) (lv' := [(0, .long (((31 : Int64) * (((31 : Int64) * (((31 : Int64) * (((31 : Int64) * y1) + v2.toInt64)) + v4.toInt64)) + v6.toInt64)) + v8.toInt64)), (2, .long v10.toInt64)]) (st' := [.long v10.toInt64, .long ((31 : Int64) * (((31 : Int64) * (((31 : Int64) * (((31 : Int64) * (((31 : Int64) * y1) + v2.toInt64)) + v4.toInt64)) + v6.toInt64)) + v8.toInt64))]) dX5_mix_5 rfl ?_
  refine RR.s2 (pc' := 7) (lv' := [(0, .long (((31 : Int64) * (((31 : Int64) * (((31 : Int64) * (((31 : Int64) * y1) + v2.toInt64)) + v4.toInt64)) + v6.toInt64)) + v8.toInt64)), (2, .long v10.toInt64)]) (st' := [.long (((31 : Int64) * (((31 : Int64) * (((31 : Int64) * (((31 : Int64) * (((31 : Int64) * y1) + v2.toInt64)) + v4.toInt64)) + v6.toInt64)) + v8.toInt64)) + v10.toInt64)]) dX5_mix_6 rfl ?_
  refine RR.lret dX5_mix_7 rfl ?_
  show RR 0 24 mX5_mixPlans 56 [(0, .ref 0), (1, .long y1), (3, .long (((31 : Int64) * (((31 : Int64) * (((31 : Int64) * (((31 : Int64) * y1) + v2.toInt64)) + v4.toInt64)) + v6.toInt64)) + v8.toInt64))] [.long (((31 : Int64) * (((31 : Int64) * (((31 : Int64) * (((31 : Int64) * (((31 : Int64) * y1) + v2.toInt64)) + v4.toInt64)) + v6.toInt64)) + v8.toInt64)) + v10.toInt64)] s9 _
  refine RR.s2 (pc' := 57) (lv' := [(0, .ref 0), (1, .long y1), (3, .long (((31 : Int64) * (((31 : Int64) * (((31 : Int64) * (((31 : Int64) * y1) + v2.toInt64)) + v4.toInt64)) + v6.toInt64)) + v8.toInt64))]) (st' := [.ref 0, .long (((31 : Int64) * (((31 : Int64) * (((31 : Int64) * (((31 : Int64) * (((31 : Int64) * y1) + v2.toInt64)) + v4.toInt64)) + v6.toInt64)) + v8.toInt64)) + v10.toInt64)]) dX5_mixPlans_56 rfl ?_
  refine RR.ic (v := 4) dX5_mixPlans_57 (by decide) ?_
  refine RR.ic (v := 2) dX5_mixPlans_58 (by decide) ?_
  refine RR.ic (v := 1) dX5_mixPlans_59 (by decide) ?_
  refine RR.cV dX5_mixPlans_60 ml_X5_383 rfl rfl (as := [.int 4, .int 2, .int 1]) (rest := [.long (((31 : Int64) * (((31 : Int64) * (((31 : Int64) * (((31 : Int64) * (((31 : Int64) * y1) + v2.toInt64)) + v4.toInt64)) + v6.toInt64)) + v8.toInt64)) + v10.toInt64)]) rfl rfl (Nat.le_of_ble_eq_true rfl) (Nat.le_of_ble_eq_true rfl) (by decide) (RR.toI H (fun v12 s11 H => ?_))
  show RR 0 24 mX5_mixPlans 63 [(0, .ref 0), (1, .long y1), (3, .long (((31 : Int64) * (((31 : Int64) * (((31 : Int64) * (((31 : Int64) * y1) + v2.toInt64)) + v4.toInt64)) + v6.toInt64)) + v8.toInt64))] [.int v12, .long (((31 : Int64) * (((31 : Int64) * (((31 : Int64) * (((31 : Int64) * (((31 : Int64) * y1) + v2.toInt64)) + v4.toInt64)) + v6.toInt64)) + v8.toInt64)) + v10.toInt64)] s11 _
  refine RR.s2 (pc' := 64) (lv' := [(0, .ref 0), (1, .long y1), (3, .long (((31 : Int64) * (((31 : Int64) * (((31 : Int64) * (((31 : Int64) * y1) + v2.toInt64)) + v4.toInt64)) + v6.toInt64)) + v8.toInt64))]) (st' := [.long v12.toInt64, .long (((31 : Int64) * (((31 : Int64) * (((31 : Int64) * (((31 : Int64) * (((31 : Int64) * y1) + v2.toInt64)) + v4.toInt64)) + v6.toInt64)) + v8.toInt64)) + v10.toInt64)]) dX5_mixPlans_63 rfl ?_
  refine RR.cS (d' := 1) dX5_mixPlans_64 ml_X5_301 (as := [.long (((31 : Int64) * (((31 : Int64) * (((31 : Int64) * (((31 : Int64) * (((31 : Int64) * y1) + v2.toInt64)) + v4.toInt64)) + v6.toInt64)) + v8.toInt64)) + v10.toInt64), .long v12.toInt64]) (rest := []) rfl rfl (Nat.le_of_ble_eq_true rfl) (Nat.le_of_ble_eq_true rfl) (by decide) ?_
  show RR 0 1 mX5_mix 0 [(0, .long (((31 : Int64) * (((31 : Int64) * (((31 : Int64) * (((31 : Int64) * (((31 : Int64) * y1) + v2.toInt64)) + v4.toInt64)) + v6.toInt64)) + v8.toInt64)) + v10.toInt64)), (2, .long v12.toInt64)] [] s11 _
  refine RR.ldc2 dX5_mix_0 pw_w781 ?_
  refine RR.s2 (pc' := 4) (lv' := [(0, .long (((31 : Int64) * (((31 : Int64) * (((31 : Int64) * (((31 : Int64) * (((31 : Int64) * y1) + v2.toInt64)) + v4.toInt64)) + v6.toInt64)) + v8.toInt64)) + v10.toInt64)), (2, .long v12.toInt64)]) (st' := [.long (((31 : Int64) * (((31 : Int64) * (((31 : Int64) * (((31 : Int64) * (((31 : Int64) * y1) + v2.toInt64)) + v4.toInt64)) + v6.toInt64)) + v8.toInt64)) + v10.toInt64), .long (31 : Int64)]) dX5_mix_3 rfl ?_
  refine RR.s2 (pc' := 5) (lv' := [(0, .long (((31 : Int64) * (((31 : Int64) * (((31 : Int64) * (((31 : Int64) * (((31 : Int64) * y1) + v2.toInt64)) + v4.toInt64)) + v6.toInt64)) + v8.toInt64)) + v10.toInt64)), (2, .long v12.toInt64)]) (st' := [.long ((31 : Int64) * (((31 : Int64) * (((31 : Int64) * (((31 : Int64) * (((31 : Int64) * (((31 : Int64) * y1) + v2.toInt64)) + v4.toInt64)) + v6.toInt64)) + v8.toInt64)) + v10.toInt64))]) dX5_mix_4 rfl ?_
  refine RR.s2 (pc' := 6) (lv' := [(0, .long (((31 : Int64) * (((31 : Int64) * (((31 : Int64) * (((31 : Int64) * (((31 : Int64) * y1) + v2.toInt64)) + v4.toInt64)) + v6.toInt64)) + v8.toInt64)) + v10.toInt64)), (2, .long v12.toInt64)]) (st' := [.long v12.toInt64, .long ((31 : Int64) * (((31 : Int64) * (((31 : Int64) * (((31 : Int64) * (((31 : Int64) * (((31 : Int64) * y1) + v2.toInt64)) + v4.toInt64)) + v6.toInt64)) + v8.toInt64)) + v10.toInt64))]) dX5_mix_5 rfl ?_
  refine RR.s2 (pc' := 7) (lv' := [(0, .long (((31 : Int64) * (((31 : Int64) * (((31 : Int64) * (((31 : Int64) * (((31 : Int64) * y1) + v2.toInt64)) + v4.toInt64)) + v6.toInt64)) + v8.toInt64)) + v10.toInt64)), (2, .long v12.toInt64)]) (st' := [.long (((31 : Int64) * (((31 : Int64) * (((31 : Int64) * (((31 : Int64) * (((31 : Int64) * (((31 : Int64) * y1) + v2.toInt64)) + v4.toInt64)) + v6.toInt64)) + v8.toInt64)) + v10.toInt64)) + v12.toInt64)]) dX5_mix_6 rfl ?_
  refine RR.lret dX5_mix_7 rfl ?_
  show RR 0 24 mX5_mixPlans 67 [(0, .ref 0), (1, .long y1), (3, .long (((31 : Int64) * (((31 : Int64) * (((31 : Int64) * (((31 : Int64) * y1) + v2.toInt64)) + v4.toInt64)) + v6.toInt64)) + v8.toInt64))] [.long (((31 : Int64) * (((31 : Int64) * (((31 : Int64) * (((31 : Int64) * (((31 : Int64) * (((31 : Int64) * y1) + v2.toInt64)) + v4.toInt64)) + v6.toInt64)) + v8.toInt64)) + v10.toInt64)) + v12.toInt64)] s11 _
  exact RR.lret dX5_mixPlans_67 rfl ⟨_, rfl, H⟩
set_option maxRecDepth 20000 in
theorem b_X5_laws {σ : r_St} {K : r_St → Prop}  (H : (σ.1 0 15 = 0 → K σ) ∧ (¬ (σ.1 0 15 = 0) → M_X1_seat 32 σ (fun s1 => M_X1_speak 32 s1 (fun s2 => K (wI s2 0 15 0)) (s1.1 0 12) (-1)))) : M_X5_laws σ K := by
  show RR 0 5 mX5_laws 0 [(0, .ref 0)] [] σ (rC 32 K)
  refine RR.s2 (pc' := 1) (lv' := [(0, .ref 0)]) (st' := [.ref 0]) dX5_laws_0 rfl ?_
  refine RR.getI dX5_laws_1 fl_X5_66 rfl rfl ?_
  refine RR.br dX5_laws_4 rfl (fun c => ?_) (fun c => ?_)
  · have H := H.1 c
    refine RR.s2 (pc' := 48) (lv' := [(0, .ref 0)]) (st' := [.ref 0]) dX5_laws_47 rfl ?_
    refine RR.getR dX5_laws_48 fl_X5_46 rfl rfl ?_
    exact RR.aret dX5_laws_51 rfl ⟨rfl, H⟩
  · have H := H.2 c
    refine RR.s2 (pc' := 8) (lv' := [(0, .ref 0)]) (st' := [.ref 0]) dX5_laws_7 rfl ?_
    refine RR.getR dX5_laws_8 fl_X5_46 rfl rfl ?_
    refine RR.s2 (pc' := 12) (lv' := [(0, .ref 0)]) (st' := [.ref 0, .ref 32]) dX5_laws_11 rfl ?_
    refine RR.getR dX5_laws_12 fl_X5_21 rfl rfl ?_
    refine RR.s2 (pc' := 16) (lv' := [(0, .ref 0)]) (st' := [.ref 0, .ref 4, .ref 32]) dX5_laws_15 rfl ?_
    refine RR.getR dX5_laws_16 fl_X5_25 rfl rfl ?_
    refine RR.cV dX5_laws_19 ml_X5_234 rfl rfl (as := [.ref 4, .ref 8]) (rest := []) rfl rfl (Nat.le_of_ble_eq_true rfl) (Nat.le_of_ble_eq_true rfl) (by decide) (RR.toV H (fun s1 H => ?_))
    show RR 0 5 mX5_laws 22 [(0, .ref 0)] [] s1 _
    refine RR.s2 (pc' := 23) (lv' := [(0, .ref 0)]) (st' := [.ref 0]) dX5_laws_22 rfl ?_
    refine RR.getR dX5_laws_23 fl_X5_46 rfl rfl ?_
    refine RR.s2 (pc' := 27) (lv' := [(0, .ref 0)]) (st' := [.ref 0, .ref 32]) dX5_laws_26 rfl ?_
    refine RR.getR dX5_laws_27 fl_X5_12 rfl rfl ?_
    refine RR.s2 (pc' := 31) (lv' := [(0, .ref 0)]) (st' := [.ref 0, .ref 1, .ref 32]) dX5_laws_30 rfl ?_
    refine RR.getI dX5_laws_31 fl_X5_106 rfl rfl ?_
    refine RR.s2 (pc' := 35) (lv' := [(0, .ref 0)]) (st' := [.ref 0, .int (s1.1 0 12), .ref 1, .ref 32]) dX5_laws_34 rfl ?_
    refine RR.getR dX5_laws_35 fl_X5_28 rfl rfl ?_
    refine RR.ic (v := (-1)) dX5_laws_38 (by decide) ?_
    refine RR.cV dX5_laws_39 ml_X5_238 rfl rfl (as := [.ref 1, .int (s1.1 0 12), .ref 12, .int (-1)]) (rest := []) rfl rfl (Nat.le_of_ble_eq_true rfl) (Nat.le_of_ble_eq_true rfl) (by decide) (RR.toV H (fun s2 H => ?_))
    show RR 0 5 mX5_laws 42 [(0, .ref 0)] [] s2 _
    refine RR.s2 (pc' := 43) (lv' := [(0, .ref 0)]) (st' := [.ref 0]) dX5_laws_42 rfl ?_
    refine RR.ic (v := 0) dX5_laws_43 (by decide) ?_
    refine RR.putT dX5_laws_44 fp_X5_66 rfl rfl (by decide) (by decide) ?_
    refine RR.s2 (pc' := 48) (lv' := [(0, .ref 0)]) (st' := [.ref 0]) dX5_laws_47 rfl ?_
    refine RR.getR dX5_laws_48 fl_X5_46 rfl rfl ?_
    exact RR.aret dX5_laws_51 rfl ⟨rfl, H⟩
set_option maxRecDepth 20000 in
theorem b_X5_itemFinding {k0 : Nat} {σ : r_St} {K : Int32 → r_St → Prop} {x1 : Int32} {x2 : Int32} (hk0 : isSheet k0) (H : (¬ σ.1 k0 1 = (-1) → ((σ.1 k0 1 = x1 → (M_X4_hasRange k0 σ (fun v2 s1 => (v2 = 0 → K 2 s1) ∧ (¬ (v2 = 0) → K 0 s1)) x2 1)) ∧ (¬ (σ.1 k0 1 = x1) → K 3 σ))) ∧ (σ.1 k0 1 = (-1) → K 1 σ)) : M_X5_itemFinding k0 σ K x1 x2 := by
  show RR 0 2 mX5_itemFinding 0 [(0, .ref k0), (1, .int x1), (2, .int x2)] [] σ (rI K)
  refine RR.s2 (pc' := 1) (lv' := [(0, .ref k0), (1, .int x1), (2, .int x2)]) (st' := [.ref k0]) dX5_itemFinding_0 rfl ?_
  refine RR.cV (d' := 1) dX5_itemFinding_1 ml_X5_137 hk0.1 rfl (as := []) (rest := []) rfl rfl (Nat.le_of_ble_eq_true rfl) (Nat.le_of_ble_eq_true rfl) (by decide) ?_
  show RR 0 1 mX4_isLost 0 [(0, .ref k0)] [] σ _
  refine RR.s2 (pc' := 1) (lv' := [(0, .ref k0)]) (st' := [.ref k0]) dX4_isLost_0 rfl ?_
  refine RR.getI dX4_isLost_1 fl_X4_15 hk0.1 rfl ?_
  refine RR.ic (v := (-1)) dX4_isLost_4 (by decide) ?_
  refine RR.br dX4_isLost_5 rfl (fun c => ?_) (fun c => ?_)
  · have H := H.1 c
    refine RR.ic (v := 0) dX4_isLost_12 (by decide) ?_
    refine RR.zret dX4_isLost_13 rfl (by decide) ?_
    show RR 0 2 mX5_itemFinding 4 [(0, .ref k0), (1, .int x1), (2, .int x2)] [.int 0] σ _
    refine RR.brT dX5_itemFinding_4 rfl (by decide) ?_
    refine RR.s2 (pc' := 10) (lv' := [(0, .ref k0), (1, .int x1), (2, .int x2)]) (st' := [.ref k0]) dX5_itemFinding_9 rfl ?_
    refine RR.cV (d' := 1) dX5_itemFinding_10 ml_X5_276 hk0.1 rfl (as := []) (rest := []) rfl rfl (Nat.le_of_ble_eq_true rfl) (Nat.le_of_ble_eq_true rfl) (by decide) ?_
    show RR 0 1 mX4_form 0 [(0, .ref k0)] [] σ _
    refine RR.s2 (pc' := 1) (lv' := [(0, .ref k0)]) (st' := [.ref k0]) dX4_form_0 rfl ?_
    refine RR.getI dX4_form_1 fl_X4_15 hk0.1 rfl ?_
    refine RR.iret dX4_form_4 rfl ?_
    show RR 0 2 mX5_itemFinding 13 [(0, .ref k0), (1, .int x1), (2, .int x2)] [.int (σ.1 k0 1)] σ _
    refine RR.s2 (pc' := 14) (lv' := [(0, .ref k0), (1, .int x1), (2, .int x2)]) (st' := [.int x1, .int (σ.1 k0 1)]) dX5_itemFinding_13 rfl ?_
    refine RR.br dX5_itemFinding_14 rfl (fun c => ?_) (fun c => ?_)
    · have H := H.1 c
      refine RR.s2 (pc' := 20) (lv' := [(0, .ref k0), (1, .int x1), (2, .int x2)]) (st' := [.ref k0]) dX5_itemFinding_19 rfl ?_
      refine RR.s2 (pc' := 21) (lv' := [(0, .ref k0), (1, .int x1), (2, .int x2)]) (st' := [.int x2, .ref k0]) dX5_itemFinding_20 rfl ?_
      refine RR.ic (v := 1) dX5_itemFinding_21 (by decide) ?_
      refine RR.cV dX5_itemFinding_22 ml_X5_279 hk0.1 rfl (as := [.int x2, .int 1]) (rest := []) rfl rfl (Nat.le_of_ble_eq_true rfl) (Nat.le_of_ble_eq_true rfl) (by decide) (RR.toI H (fun v2 s1 H => ?_))
      show RR 0 2 mX5_itemFinding 25 [(0, .ref k0), (1, .int x1), (2, .int x2)] [.int v2] s1 _
      refine RR.br dX5_itemFinding_25 rfl (fun c => ?_) (fun c => ?_)
      · have H := H.1 c
        refine RR.ic (v := 2) dX5_itemFinding_32 (by decide) ?_
        exact RR.iret dX5_itemFinding_33 rfl ⟨_, rfl, H⟩
      · have H := H.2 c
        refine RR.ic (v := 0) dX5_itemFinding_28 (by decide) ?_
        refine RR.s2 (pc' := 33) (lv' := [(0, .ref k0), (1, .int x1), (2, .int x2)]) (st' := [.int 0]) dX5_itemFinding_29 rfl ?_
        exact RR.iret dX5_itemFinding_33 rfl ⟨_, rfl, H⟩
    · have H := H.2 c
      refine RR.ic (v := 3) dX5_itemFinding_17 (by decide) ?_
      exact RR.iret dX5_itemFinding_18 rfl ⟨_, rfl, H⟩
  · have H := H.2 (Classical.not_not.mp c)
    refine RR.ic (v := 1) dX4_isLost_8 (by decide) ?_
    refine RR.s2 (pc' := 13) (lv' := [(0, .ref k0)]) (st' := [.int 1]) dX4_isLost_9 rfl ?_
    refine RR.zret dX4_isLost_13 rfl (by decide) ?_
    show RR 0 2 mX5_itemFinding 4 [(0, .ref k0), (1, .int x1), (2, .int x2)] [.int 1] σ _
    refine RR.brF dX5_itemFinding_4 rfl (by decide) ?_
    refine RR.ic (v := 1) dX5_itemFinding_7 (by decide) ?_
    exact RR.iret dX5_itemFinding_8 rfl ⟨_, rfl, H⟩
set_option maxRecDepth 20000 in
theorem b_X5_finesInCoin {σ : r_St} {K : Int32 → r_St → Prop} {x2 : Int32} {x3 : Int32}  (H : M_X3_second 16 12 σ (fun v2 s1 => (IN v2 0 ((s1.1 1 4) - 1) → (M_X3_first 16 12 s1 (fun v4 s3 => M_X3_third 16 12 s3 (fun v6 s5 => (¬ s5.1 0 13 = 2 → R_X5_finesInCoin_64 s5 K x3 v2 v4 ((v4 + v6) - 1) v4) ∧ (s5.1 0 13 = 2 → R_X5_finesInCoin_64 s5 K x3 v2 v4 ((v4 + v6) - 1) ((v4 + v6) - 1))) x2) x2)) ∧ (¬ IN v2 0 ((s1.1 1 4) - 1) → K 0 s1)) x2) : M_X5_finesInCoin σ K x2 x3 := by
  show RR 0 4 mX5_finesInCoin 0 [(0, .ref 0), (1, .ref 32), (2, .int x2), (3, .int x3)] [] σ (rI K)
  refine RR.s2 (pc' := 1) (lv' := [(0, .ref 0), (1, .ref 32), (2, .int x2), (3, .int x3)]) (st' := [.ref 0]) dX5_finesInCoin_0 rfl ?_
  refine RR.getR dX5_finesInCoin_1 fl_X5_31 rfl rfl ?_
  refine RR.s2 (pc' := 5) (lv' := [(0, .ref 0), (1, .ref 32), (2, .int x2), (3, .int x3)]) (st' := [.int x2, .ref 16]) dX5_finesInCoin_4 rfl ?_
  refine RR.cV dX5_finesInCoin_5 ml_X5_386 rfl rfl (as := [.int x2]) (rest := []) rfl rfl (Nat.le_of_ble_eq_true rfl) (Nat.le_of_ble_eq_true rfl) (by decide) (RR.toI H (fun v2 s1 H => ?_))
  show RR 0 4 mX5_finesInCoin 8 [(0, .ref 0), (1, .ref 32), (2, .int x2), (3, .int x3)] [.int v2] s1 _
  refine RR.s2 (pc' := 10) (lv' := [(0, .ref 0), (1, .ref 32), (2, .int x2), (3, .int x3), (4, .int v2)]) (st' := []) dX5_finesInCoin_8 rfl ?_
  refine RR.s2 (pc' := 11) (lv' := [(0, .ref 0), (1, .ref 32), (2, .int x2), (3, .int x3), (4, .int v2)]) (st' := [.ref 0]) dX5_finesInCoin_10 rfl ?_
  refine RR.getR dX5_finesInCoin_11 fl_X5_12 rfl rfl ?_
  refine RR.s2 (pc' := 16) (lv' := [(0, .ref 0), (1, .ref 32), (2, .int x2), (3, .int x3), (4, .int v2)]) (st' := [.int v2, .ref 1]) dX5_finesInCoin_14 rfl ?_
  refine RR.cV (d' := 2) dX5_finesInCoin_16 ml_X5_92 rfl rfl (as := [.int v2]) (rest := []) rfl rfl (Nat.le_of_ble_eq_true rfl) (Nat.le_of_ble_eq_true rfl) (by decide) ?_
  show RR 0 2 mX0_has 0 [(0, .ref 1), (1, .int v2)] [] s1 _
  refine RR.s2 (pc' := 1) (lv' := [(0, .ref 1), (1, .int v2)]) (st' := [.int v2]) dX0_has_0 rfl ?_
  refine RR.ic (v := 0) dX0_has_1 (by decide) ?_
  refine RR.s2 (pc' := 3) (lv' := [(0, .ref 1), (1, .int v2)]) (st' := [.ref 1, .int 0, .int v2]) dX0_has_2 rfl ?_
  refine RR.getI dX0_has_3 fl_X0_25 rfl rfl ?_
  refine RR.ic (v := 1) dX0_has_6 (by decide) ?_
  refine RR.s2 (pc' := 8) (lv' := [(0, .ref 1), (1, .int v2)]) (st' := [.int ((s1.1 1 4) - 1), .int 0, .int v2]) dX0_has_7 rfl ?_
  refine RR.cN dX0_has_8 ml_X0_28 (as := [.int v2, .int 0, .int ((s1.1 1 4) - 1)]) (rest := []) rfl rfl (Nat.le_of_ble_eq_true rfl) (Nat.le_of_ble_eq_true rfl) (by decide) (kb_X5_within (fun c => ?_) (fun c => ?_))
  · have H := H.1 c
    show RR 0 2 mX0_has 11 [(0, .ref 1), (1, .int v2)] [.int 1] s1 _
    refine RR.zret dX0_has_11 rfl (by decide) ?_
    show RR 0 4 mX5_finesInCoin 19 [(0, .ref 0), (1, .ref 32), (2, .int x2), (3, .int x3), (4, .int v2)] [.int 1] s1 _
    refine RR.brT dX5_finesInCoin_19 rfl (by decide) ?_
    refine RR.s2 (pc' := 25) (lv' := [(0, .ref 0), (1, .ref 32), (2, .int x2), (3, .int x3), (4, .int v2)]) (st' := [.ref 0]) dX5_finesInCoin_24 rfl ?_
    refine RR.getR dX5_finesInCoin_25 fl_X5_31 rfl rfl ?_
    refine RR.s2 (pc' := 29) (lv' := [(0, .ref 0), (1, .ref 32), (2, .int x2), (3, .int x3), (4, .int v2)]) (st' := [.int x2, .ref 16]) dX5_finesInCoin_28 rfl ?_
    refine RR.cV dX5_finesInCoin_29 ml_X5_389 rfl rfl (as := [.int x2]) (rest := []) rfl rfl (Nat.le_of_ble_eq_true rfl) (Nat.le_of_ble_eq_true rfl) (by decide) (RR.toI H (fun v4 s3 H => ?_))
    show RR 0 4 mX5_finesInCoin 32 [(0, .ref 0), (1, .ref 32), (2, .int x2), (3, .int x3), (4, .int v2)] [.int v4] s3 _
    refine RR.s2 (pc' := 34) (lv' := [(0, .ref 0), (1, .ref 32), (2, .int x2), (3, .int x3), (4, .int v2), (5, .int v4)]) (st' := []) dX5_finesInCoin_32 rfl ?_
    refine RR.s2 (pc' := 36) (lv' := [(0, .ref 0), (1, .ref 32), (2, .int x2), (3, .int x3), (4, .int v2), (5, .int v4)]) (st' := [.int v4]) dX5_finesInCoin_34 rfl ?_
    refine RR.s2 (pc' := 37) (lv' := [(0, .ref 0), (1, .ref 32), (2, .int x2), (3, .int x3), (4, .int v2), (5, .int v4)]) (st' := [.ref 0, .int v4]) dX5_finesInCoin_36 rfl ?_
    refine RR.getR dX5_finesInCoin_37 fl_X5_31 rfl rfl ?_
    refine RR.s2 (pc' := 41) (lv' := [(0, .ref 0), (1, .ref 32), (2, .int x2), (3, .int x3), (4, .int v2), (5, .int v4)]) (st' := [.int x2, .ref 16, .int v4]) dX5_finesInCoin_40 rfl ?_
    refine RR.cV dX5_finesInCoin_41 ml_X5_392 rfl rfl (as := [.int x2]) (rest := [.int v4]) rfl rfl (Nat.le_of_ble_eq_true rfl) (Nat.le_of_ble_eq_true rfl) (by decide) (RR.toI H (fun v6 s5 H => ?_))
    show RR 0 4 mX5_finesInCoin 44 [(0, .ref 0), (1, .ref 32), (2, .int x2), (3, .int x3), (4, .int v2), (5, .int v4)] [.int v6, .int v4] s5 _
    refine RR.s2 (pc' := 45) (lv' := [(0, .ref 0), (1, .ref 32), (2, .int x2), (3, .int x3), (4, .int v2), (5, .int v4)]) (st' := [.int (v4 + v6)]) dX5_finesInCoin_44 rfl ?_
    refine RR.ic (v := 1) dX5_finesInCoin_45 (by decide) ?_
    refine RR.s2 (pc' := 47) (lv' := [(0, .ref 0), (1, .ref 32), (2, .int x2), (3, .int x3), (4, .int v2), (5, .int v4)]) (st' := [.int ((v4 + v6) - 1)]) dX5_finesInCoin_46 rfl ?_
    refine RR.s2 (pc' := 49) (lv' := [(0, .ref 0), (1, .ref 32), (2, .int x2), (3, .int x3), (4, .int v2), (5, .int v4), (6, .int ((v4 + v6) - 1))]) (st' := []) dX5_finesInCoin_47 rfl ?_
    refine RR.s2 (pc' := 50) (lv' := [(0, .ref 0), (1, .ref 32), (2, .int x2), (3, .int x3), (4, .int v2), (5, .int v4), (6, .int ((v4 + v6) - 1))]) (st' := [.ref 0]) dX5_finesInCoin_49 rfl ?_
    refine RR.getI dX5_finesInCoin_50 fl_X5_113 rfl rfl ?_
    refine RR.ic (v := 2) dX5_finesInCoin_53 (by decide) ?_
    refine RR.br dX5_finesInCoin_54 rfl (fun c => ?_) (fun c => ?_)
    · have H := H.1 c
      refine RR.s2 (pc' := 64) (lv' := [(0, .ref 0), (1, .ref 32), (2, .int x2), (3, .int x3), (4, .int v2), (5, .int v4), (6, .int ((v4 + v6) - 1))]) (st' := [.int v4]) dX5_finesInCoin_62 rfl ?_
      exact RR.cut [0, 1, 3, 4, 5, 6] rfl H
    · have H := H.2 (Classical.not_not.mp c)
      refine RR.s2 (pc' := 59) (lv' := [(0, .ref 0), (1, .ref 32), (2, .int x2), (3, .int x3), (4, .int v2), (5, .int v4), (6, .int ((v4 + v6) - 1))]) (st' := [.int ((v4 + v6) - 1)]) dX5_finesInCoin_57 rfl ?_
      refine RR.s2 (pc' := 64) (lv' := [(0, .ref 0), (1, .ref 32), (2, .int x2), (3, .int x3), (4, .int v2), (5, .int v4), (6, .int ((v4 + v6) - 1))]) (st' := [.int ((v4 + v6) - 1)]) dX5_finesInCoin_59 rfl ?_
      exact RR.cut [0, 1, 3, 4, 5, 6] rfl H
  · have H := H.2 c
    show RR 0 2 mX0_has 11 [(0, .ref 1), (1, .int v2)] [.int 0] s1 _
    refine RR.zret dX0_has_11 rfl (by decide) ?_
    show RR 0 4 mX5_finesInCoin 19 [(0, .ref 0), (1, .ref 32), (2, .int x2), (3, .int x3), (4, .int v2)] [.int 0] s1 _
    refine RR.brF dX5_finesInCoin_19 rfl (by decide) ?_
    refine RR.ic (v := 0) dX5_finesInCoin_22 (by decide) ?_
    exact RR.iret dX5_finesInCoin_23 rfl ⟨_, rfl, H⟩
set_option maxRecDepth 20000 in
theorem b_X5_finesInCoin_64 {σ : r_St} {K : Int32 → r_St → Prop} {x3 : Int32} {x4 : Int32} {x5 : Int32} {x6 : Int32} {t0 : Int32}  (H : (¬ σ.1 0 13 = 0 → R_X5_finesInCoin_89 σ K x3 x4 x6 0 t0) ∧ (σ.1 0 13 = 0 → R_X5_finesInCoin_89 σ K x3 x4 x5 0 t0)) : R_X5_finesInCoin_64 σ K x3 x4 x5 x6 t0 := by
  show RR 0 4 mX5_finesInCoin 64 [(0, .ref 0), (1, .ref 32), (3, .int x3), (4, .int x4), (5, .int x5), (6, .int x6)] [.int t0] σ (rI K)
  refine RR.s2 (pc' := 66) (lv' := [(0, .ref 0), (1, .ref 32), (3, .int x3), (4, .int x4), (5, .int x5), (6, .int x6), (7, .int t0)]) (st' := []) dX5_finesInCoin_64 rfl ?_
  refine RR.s2 (pc' := 67) (lv' := [(0, .ref 0), (1, .ref 32), (3, .int x3), (4, .int x4), (5, .int x5), (6, .int x6), (7, .int t0)]) (st' := [.ref 0]) dX5_finesInCoin_66 rfl ?_
  refine RR.getI dX5_finesInCoin_67 fl_X5_113 rfl rfl ?_
  refine RR.br dX5_finesInCoin_70 rfl (fun c => ?_) (fun c => ?_)
  · have H := H.1 c
    refine RR.s2 (pc' := 80) (lv' := [(0, .ref 0), (1, .ref 32), (3, .int x3), (4, .int x4), (5, .int x5), (6, .int x6), (7, .int t0)]) (st' := [.int x6]) dX5_finesInCoin_78 rfl ?_
    refine RR.s2 (pc' := 82) (lv' := [(0, .ref 0), (1, .ref 32), (3, .int x3), (4, .int x4), (5, .int x5), (6, .int x6), (7, .int t0), (8, .int x6)]) (st' := []) dX5_finesInCoin_80 rfl ?_
    refine RR.ic (v := 0) dX5_finesInCoin_82 (by decide) ?_
    refine RR.s2 (pc' := 85) (lv' := [(0, .ref 0), (1, .ref 32), (3, .int x3), (4, .int x4), (5, .int x5), (6, .int x6), (7, .int t0), (8, .int x6), (9, .int 0)]) (st' := []) dX5_finesInCoin_83 rfl ?_
    refine RR.s2 (pc' := 87) (lv' := [(0, .ref 0), (1, .ref 32), (3, .int x3), (4, .int x4), (5, .int x5), (6, .int x6), (7, .int t0), (8, .int x6), (9, .int 0)]) (st' := [.int t0]) dX5_finesInCoin_85 rfl ?_
    refine RR.s2 (pc' := 89) (lv' := [(0, .ref 0), (1, .ref 32), (3, .int x3), (4, .int x4), (5, .int x5), (6, .int x6), (7, .int t0), (8, .int x6), (9, .int 0), (10, .int t0)]) (st' := []) dX5_finesInCoin_87 rfl ?_
    exact RR.cut [0, 1, 2, 3, 7, 8, 9] rfl H
  · have H := H.2 (Classical.not_not.mp c)
    refine RR.s2 (pc' := 75) (lv' := [(0, .ref 0), (1, .ref 32), (3, .int x3), (4, .int x4), (5, .int x5), (6, .int x6), (7, .int t0)]) (st' := [.int x5]) dX5_finesInCoin_73 rfl ?_
    refine RR.s2 (pc' := 80) (lv' := [(0, .ref 0), (1, .ref 32), (3, .int x3), (4, .int x4), (5, .int x5), (6, .int x6), (7, .int t0)]) (st' := [.int x5]) dX5_finesInCoin_75 rfl ?_
    refine RR.s2 (pc' := 82) (lv' := [(0, .ref 0), (1, .ref 32), (3, .int x3), (4, .int x4), (5, .int x5), (6, .int x6), (7, .int t0), (8, .int x5)]) (st' := []) dX5_finesInCoin_80 rfl ?_
    refine RR.ic (v := 0) dX5_finesInCoin_82 (by decide) ?_
    refine RR.s2 (pc' := 85) (lv' := [(0, .ref 0), (1, .ref 32), (3, .int x3), (4, .int x4), (5, .int x5), (6, .int x6), (7, .int t0), (8, .int x5), (9, .int 0)]) (st' := []) dX5_finesInCoin_83 rfl ?_
    refine RR.s2 (pc' := 87) (lv' := [(0, .ref 0), (1, .ref 32), (3, .int x3), (4, .int x4), (5, .int x5), (6, .int x6), (7, .int t0), (8, .int x5), (9, .int 0)]) (st' := [.int t0]) dX5_finesInCoin_85 rfl ?_
    refine RR.s2 (pc' := 89) (lv' := [(0, .ref 0), (1, .ref 32), (3, .int x3), (4, .int x4), (5, .int x5), (6, .int x6), (7, .int t0), (8, .int x5), (9, .int 0), (10, .int t0)]) (st' := []) dX5_finesInCoin_87 rfl ?_
    exact RR.cut [0, 1, 2, 3, 7, 8, 9] rfl H
set_option maxRecDepth 20000 in
theorem b_X5_finesInCoin_89 {σ : r_St} {K : Int32 → r_St → Prop} {x3 : Int32} {x4 : Int32} {x8 : Int32} {x9 : Int32} {x10 : Int32}  (H : (x8 < x10 → K x9 σ) ∧ (¬ (x8 < x10) → (M_X1_openOn 32 σ (fun v2 s1 => (¬ (iu v2 x4) &&& 1 = 0 → R_X5_finesInCoin_89 s1 K x3 x4 x8 x9 (x10 + 1)) ∧ ((iu v2 x4) &&& 1 = 0 → (M_X1_coinOn 32 s1 (fun v4 s3 => (¬ v4 = x3 → R_X5_finesInCoin_89 s3 K x3 x4 x8 x9 (x10 + 1)) ∧ (v4 = x3 → M_X0_fineOf s3 (fun v6 s5 => R_X5_finesInCoin_89 s5 K x3 x4 x8 (x9 + v6) (x10 + 1)) x4)) x10))) x10))) : R_X5_finesInCoin_89 σ K x3 x4 x8 x9 x10 := by
  show RR 0 4 mX5_finesInCoin 89 [(0, .ref 0), (1, .ref 32), (3, .int x3), (4, .int x4), (8, .int x8), (9, .int x9), (10, .int x10)] [] σ (rI K)
  refine RR.s2 (pc' := 91) (lv' := [(0, .ref 0), (1, .ref 32), (3, .int x3), (4, .int x4), (8, .int x8), (9, .int x9), (10, .int x10)]) (st' := [.int x10]) dX5_finesInCoin_89 rfl ?_
  refine RR.s2 (pc' := 93) (lv' := [(0, .ref 0), (1, .ref 32), (3, .int x3), (4, .int x4), (8, .int x8), (9, .int x9), (10, .int x10)]) (st' := [.int x8, .int x10]) dX5_finesInCoin_91 rfl ?_
  refine RR.br dX5_finesInCoin_93 rfl (fun c => ?_) (fun c => ?_)
  · have H := H.1 c
    refine RR.s2 (pc' := 142) (lv' := [(0, .ref 0), (1, .ref 32), (3, .int x3), (4, .int x4), (8, .int x8), (9, .int x9), (10, .int x10)]) (st' := [.int x9]) dX5_finesInCoin_140 rfl ?_
    exact RR.iret dX5_finesInCoin_142 rfl ⟨_, rfl, H⟩
  · have H := H.2 c
    refine RR.s2 (pc' := 97) (lv' := [(0, .ref 0), (1, .ref 32), (3, .int x3), (4, .int x4), (8, .int x8), (9, .int x9), (10, .int x10)]) (st' := [.ref 32]) dX5_finesInCoin_96 rfl ?_
    refine RR.s2 (pc' := 99) (lv' := [(0, .ref 0), (1, .ref 32), (3, .int x3), (4, .int x4), (8, .int x8), (9, .int x9), (10, .int x10)]) (st' := [.int x10, .ref 32]) dX5_finesInCoin_97 rfl ?_
    refine RR.cV dX5_finesInCoin_99 ml_X5_163 rfl rfl (as := [.int x10]) (rest := []) rfl rfl (Nat.le_of_ble_eq_true rfl) (Nat.le_of_ble_eq_true rfl) (by decide) (RR.toI H (fun v2 s1 H => ?_))
    show RR 0 4 mX5_finesInCoin 102 [(0, .ref 0), (1, .ref 32), (3, .int x3), (4, .int x4), (8, .int x8), (9, .int x9), (10, .int x10)] [.int v2] s1 _
    refine RR.s2 (pc' := 104) (lv' := [(0, .ref 0), (1, .ref 32), (3, .int x3), (4, .int x4), (8, .int x8), (9, .int x9), (10, .int x10)]) (st' := [.int x4, .int v2]) dX5_finesInCoin_102 rfl ?_
    refine RR.cS (d' := 1) dX5_finesInCoin_104 ml_X5_102 (as := [.int v2, .int x4]) (rest := []) rfl rfl (Nat.le_of_ble_eq_true rfl) (Nat.le_of_ble_eq_true rfl) (by decide) ?_
    show RR 0 1 mX5_bit 0 [(0, .int v2), (1, .int x4)] [] s1 _
    refine RR.s2 (pc' := 1) (lv' := [(0, .int v2), (1, .int x4)]) (st' := [.int v2]) dX5_bit_0 rfl ?_
    refine RR.s2 (pc' := 2) (lv' := [(0, .int v2), (1, .int x4)]) (st' := [.int x4, .int v2]) dX5_bit_1 rfl ?_
    refine RR.s2 (pc' := 3) (lv' := [(0, .int v2), (1, .int x4)]) (st' := [.int (iu v2 x4)]) dX5_bit_2 rfl ?_
    refine RR.ic (v := 1) dX5_bit_3 (by decide) ?_
    refine RR.s2 (pc' := 5) (lv' := [(0, .int v2), (1, .int x4)]) (st' := [.int ((iu v2 x4) &&& 1)]) dX5_bit_4 rfl ?_
    refine RR.iret dX5_bit_5 rfl ?_
    show RR 0 4 mX5_finesInCoin 107 [(0, .ref 0), (1, .ref 32), (3, .int x3), (4, .int x4), (8, .int x8), (9, .int x9), (10, .int x10)] [.int ((iu v2 x4) &&& 1)] s1 _
    refine RR.br dX5_finesInCoin_107 rfl (fun c => ?_) (fun c => ?_)
    · have H := H.1 c
      refine RR.inc (c := 1) (lv' := [(0, .ref 0), (1, .ref 32), (3, .int x3), (4, .int x4), (8, .int x8), (9, .int x9), (10, .int (x10 + 1))]) dX5_finesInCoin_134 rfl (by decide) (by decide) rfl ?_
      refine RR.s2 (pc' := 89) (lv' := [(0, .ref 0), (1, .ref 32), (3, .int x3), (4, .int x4), (8, .int x8), (9, .int x9), (10, .int (x10 + 1))]) (st' := []) dX5_finesInCoin_137 rfl ?_
      exact RR.cut [0, 1, 2, 3, 4, 5, 6] rfl H
    · have H := H.2 (Classical.not_not.mp c)
      refine RR.s2 (pc' := 111) (lv' := [(0, .ref 0), (1, .ref 32), (3, .int x3), (4, .int x4), (8, .int x8), (9, .int x9), (10, .int x10)]) (st' := [.ref 32]) dX5_finesInCoin_110 rfl ?_
      refine RR.s2 (pc' := 113) (lv' := [(0, .ref 0), (1, .ref 32), (3, .int x3), (4, .int x4), (8, .int x8), (9, .int x9), (10, .int x10)]) (st' := [.int x10, .ref 32]) dX5_finesInCoin_111 rfl ?_
      refine RR.cV dX5_finesInCoin_113 ml_X5_395 rfl rfl (as := [.int x10]) (rest := []) rfl rfl (Nat.le_of_ble_eq_true rfl) (Nat.le_of_ble_eq_true rfl) (by decide) (RR.toI H (fun v4 s3 H => ?_))
      show RR 0 4 mX5_finesInCoin 116 [(0, .ref 0), (1, .ref 32), (3, .int x3), (4, .int x4), (8, .int x8), (9, .int x9), (10, .int x10)] [.int v4] s3 _
      refine RR.s2 (pc' := 117) (lv' := [(0, .ref 0), (1, .ref 32), (3, .int x3), (4, .int x4), (8, .int x8), (9, .int x9), (10, .int x10)]) (st' := [.int x3, .int v4]) dX5_finesInCoin_116 rfl ?_
      refine RR.br dX5_finesInCoin_117 rfl (fun c => ?_) (fun c => ?_)
      · have H := H.1 c
        refine RR.inc (c := 1) (lv' := [(0, .ref 0), (1, .ref 32), (3, .int x3), (4, .int x4), (8, .int x8), (9, .int x9), (10, .int (x10 + 1))]) dX5_finesInCoin_134 rfl (by decide) (by decide) rfl ?_
        refine RR.s2 (pc' := 89) (lv' := [(0, .ref 0), (1, .ref 32), (3, .int x3), (4, .int x4), (8, .int x8), (9, .int x9), (10, .int (x10 + 1))]) (st' := []) dX5_finesInCoin_137 rfl ?_
        exact RR.cut [0, 1, 2, 3, 4, 5, 6] rfl H
      · have H := H.2 (Classical.not_not.mp c)
        refine RR.s2 (pc' := 122) (lv' := [(0, .ref 0), (1, .ref 32), (3, .int x3), (4, .int x4), (8, .int x8), (9, .int x9), (10, .int x10)]) (st' := [.int x9]) dX5_finesInCoin_120 rfl ?_
        refine RR.s2 (pc' := 123) (lv' := [(0, .ref 0), (1, .ref 32), (3, .int x3), (4, .int x4), (8, .int x8), (9, .int x9), (10, .int x10)]) (st' := [.ref 0, .int x9]) dX5_finesInCoin_122 rfl ?_
        refine RR.getR dX5_finesInCoin_123 fl_X5_12 rfl rfl ?_
        refine RR.s2 (pc' := 128) (lv' := [(0, .ref 0), (1, .ref 32), (3, .int x3), (4, .int x4), (8, .int x8), (9, .int x9), (10, .int x10)]) (st' := [.int x4, .ref 1, .int x9]) dX5_finesInCoin_126 rfl ?_
        refine RR.cV dX5_finesInCoin_128 ml_X5_96 rfl rfl (as := [.int x4]) (rest := [.int x9]) rfl rfl (Nat.le_of_ble_eq_true rfl) (Nat.le_of_ble_eq_true rfl) (by decide) (RR.toI H (fun v6 s5 H => ?_))
        show RR 0 4 mX5_finesInCoin 131 [(0, .ref 0), (1, .ref 32), (3, .int x3), (4, .int x4), (8, .int x8), (9, .int x9), (10, .int x10)] [.int v6, .int x9] s5 _
        refine RR.s2 (pc' := 132) (lv' := [(0, .ref 0), (1, .ref 32), (3, .int x3), (4, .int x4), (8, .int x8), (9, .int x9), (10, .int x10)]) (st' := [.int (x9 + v6)]) dX5_finesInCoin_131 rfl ?_
        refine RR.s2 (pc' := 134) (lv' := [(0, .ref 0), (1, .ref 32), (3, .int x3), (4, .int x4), (8, .int x8), (9, .int (x9 + v6)), (10, .int x10)]) (st' := []) dX5_finesInCoin_132 rfl ?_
        refine RR.inc (c := 1) (lv' := [(0, .ref 0), (1, .ref 32), (3, .int x3), (4, .int x4), (8, .int x8), (9, .int (x9 + v6)), (10, .int (x10 + 1))]) dX5_finesInCoin_134 rfl (by decide) (by decide) rfl ?_
        refine RR.s2 (pc' := 89) (lv' := [(0, .ref 0), (1, .ref 32), (3, .int x3), (4, .int x4), (8, .int x8), (9, .int (x9 + v6)), (10, .int (x10 + 1))]) (st' := []) dX5_finesInCoin_137 rfl ?_
        exact RR.cut [0, 1, 2, 3, 4, 5, 6] rfl H
set_option maxRecDepth 20000 in
theorem b_X5_daysAsSeen {σ : r_St} {K : Int64 → r_St → Prop}  (H : M_X5_laws σ (fun s1 => R_X5_daysAsSeen_12 s1 K (1099511627775 : Int64) 0)) : M_X5_daysAsSeen σ K := by
  show RR 0 6 mX5_daysAsSeen 0 [(0, .ref 0)] [] σ (rL K)
  refine RR.s2 (pc' := 1) (lv' := [(0, .ref 0)]) (st' := [.ref 0]) dX5_daysAsSeen_0 rfl ?_
  refine RR.cV dX5_daysAsSeen_1 ml_X5_153 rfl rfl (as := []) (rest := []) rfl rfl (Nat.le_of_ble_eq_true rfl) (Nat.le_of_ble_eq_true rfl) (by decide) (RR.toC H (fun s1 H => ?_))
  show RR 0 6 mX5_daysAsSeen 4 [(0, .ref 0)] [.ref 32] s1 _
  refine RR.s2 (pc' := 5) (lv' := [(0, .ref 0), (1, .ref 32)]) (st' := []) dX5_daysAsSeen_4 rfl ?_
  refine RR.ldc2 dX5_daysAsSeen_5 pw_w654 ?_
  refine RR.s2 (pc' := 9) (lv' := [(0, .ref 0), (1, .ref 32), (2, .long (1099511627775 : Int64))]) (st' := []) dX5_daysAsSeen_8 rfl ?_
  refine RR.ic (v := 0) dX5_daysAsSeen_9 (by decide) ?_
  refine RR.s2 (pc' := 12) (lv' := [(0, .ref 0), (1, .ref 32), (2, .long (1099511627775 : Int64)), (4, .int 0)]) (st' := []) dX5_daysAsSeen_10 rfl ?_
  exact RR.cut [0, 1, 2, 3] rfl H
set_option maxRecDepth 20000 in
theorem b_X5_daysAsSeen_12 {σ : r_St} {K : Int64 → r_St → Prop} {y2 : Int64} {x4 : Int32}  (H : (σ.1 24 4 ≤ x4 → K y2 σ) ∧ (¬ (σ.1 24 4 ≤ x4) → (M_X3_first 24 8 σ (fun v2 s1 => M_X1_openDays 32 s1 (fun v4 s3 => (IN v2 0 ((s3.1 1 4) - 1) → (M_X3_second 24 8 s3 (fun v6 s5 => (¬ v6 = 1 → R_X5_daysAsSeen_12 s5 K (y2 &&& (v4 ^^^ (-1 : Int64))) (x4 + 1)) ∧ (v6 = 1 → R_X5_daysAsSeen_12 s5 K (y2 &&& v4) (x4 + 1))) x4)) ∧ (¬ IN v2 0 ((s3.1 1 4) - 1) → R_X5_daysAsSeen_12 s3 K (0 : Int64) (x4 + 1))) v2) x4))) : R_X5_daysAsSeen_12 σ K y2 x4 := by
  show RR 0 6 mX5_daysAsSeen 12 [(0, .ref 0), (1, .ref 32), (2, .long y2), (4, .int x4)] [] σ (rL K)
  refine RR.s2 (pc' := 14) (lv' := [(0, .ref 0), (1, .ref 32), (2, .long y2), (4, .int x4)]) (st' := [.int x4]) dX5_daysAsSeen_12 rfl ?_
  refine RR.s2 (pc' := 15) (lv' := [(0, .ref 0), (1, .ref 32), (2, .long y2), (4, .int x4)]) (st' := [.ref 0, .int x4]) dX5_daysAsSeen_14 rfl ?_
  refine RR.getR dX5_daysAsSeen_15 fl_X5_37 rfl rfl ?_
  refine RR.cV (d' := 1) dX5_daysAsSeen_18 ml_X5_173 rfl rfl (as := []) (rest := [.int x4]) rfl rfl (Nat.le_of_ble_eq_true rfl) (Nat.le_of_ble_eq_true rfl) (by decide) ?_
  show RR 0 1 mX3_size 0 [(0, .ref 24)] [] σ _
  refine RR.s2 (pc' := 1) (lv' := [(0, .ref 24)]) (st' := [.ref 24]) dX3_size_0 rfl ?_
  refine RR.getI dX3_size_1 fl_X3_31 rfl rfl ?_
  refine RR.iret dX3_size_4 rfl ?_
  show RR 0 6 mX5_daysAsSeen 21 [(0, .ref 0), (1, .ref 32), (2, .long y2), (4, .int x4)] [.int (σ.1 24 4), .int x4] σ _
  refine RR.br dX5_daysAsSeen_21 rfl (fun c => ?_) (fun c => ?_)
  · have H := H.1 c
    refine RR.s2 (pc' := 94) (lv' := [(0, .ref 0), (1, .ref 32), (2, .long y2), (4, .int x4)]) (st' := [.long y2]) dX5_daysAsSeen_93 rfl ?_
    exact RR.lret dX5_daysAsSeen_94 rfl ⟨_, rfl, H⟩
  · have H := H.2 c
    refine RR.s2 (pc' := 25) (lv' := [(0, .ref 0), (1, .ref 32), (2, .long y2), (4, .int x4)]) (st' := [.ref 0]) dX5_daysAsSeen_24 rfl ?_
    refine RR.getR dX5_daysAsSeen_25 fl_X5_37 rfl rfl ?_
    refine RR.s2 (pc' := 30) (lv' := [(0, .ref 0), (1, .ref 32), (2, .long y2), (4, .int x4)]) (st' := [.int x4, .ref 24]) dX5_daysAsSeen_28 rfl ?_
    refine RR.cV dX5_daysAsSeen_30 ml_X5_389 rfl rfl (as := [.int x4]) (rest := []) rfl rfl (Nat.le_of_ble_eq_true rfl) (Nat.le_of_ble_eq_true rfl) (by decide) (RR.toI H (fun v2 s1 H => ?_))
    show RR 0 6 mX5_daysAsSeen 33 [(0, .ref 0), (1, .ref 32), (2, .long y2), (4, .int x4)] [.int v2] s1 _
    refine RR.s2 (pc' := 35) (lv' := [(0, .ref 0), (1, .ref 32), (2, .long y2), (4, .int x4), (5, .int v2)]) (st' := []) dX5_daysAsSeen_33 rfl ?_
    refine RR.s2 (pc' := 36) (lv' := [(0, .ref 0), (1, .ref 32), (2, .long y2), (4, .int x4), (5, .int v2)]) (st' := [.ref 32]) dX5_daysAsSeen_35 rfl ?_
    refine RR.s2 (pc' := 38) (lv' := [(0, .ref 0), (1, .ref 32), (2, .long y2), (4, .int x4), (5, .int v2)]) (st' := [.int v2, .ref 32]) dX5_daysAsSeen_36 rfl ?_
    refine RR.cV dX5_daysAsSeen_38 ml_X5_182 rfl rfl (as := [.int v2]) (rest := []) rfl rfl (Nat.le_of_ble_eq_true rfl) (Nat.le_of_ble_eq_true rfl) (by decide) (RR.toL H (fun v4 s3 H => ?_))
    show RR 0 6 mX5_daysAsSeen 41 [(0, .ref 0), (1, .ref 32), (2, .long y2), (4, .int x4), (5, .int v2)] [.long v4] s3 _
    refine RR.s2 (pc' := 43) (lv' := [(0, .ref 0), (1, .ref 32), (2, .long y2), (4, .int x4), (5, .int v2), (6, .long v4)]) (st' := []) dX5_daysAsSeen_41 rfl ?_
    refine RR.s2 (pc' := 44) (lv' := [(0, .ref 0), (1, .ref 32), (2, .long y2), (4, .int x4), (5, .int v2), (6, .long v4)]) (st' := [.ref 0]) dX5_daysAsSeen_43 rfl ?_
    refine RR.getR dX5_daysAsSeen_44 fl_X5_12 rfl rfl ?_
    refine RR.s2 (pc' := 49) (lv' := [(0, .ref 0), (1, .ref 32), (2, .long y2), (4, .int x4), (5, .int v2), (6, .long v4)]) (st' := [.int v2, .ref 1]) dX5_daysAsSeen_47 rfl ?_
    refine RR.cV (d' := 2) dX5_daysAsSeen_49 ml_X5_92 rfl rfl (as := [.int v2]) (rest := []) rfl rfl (Nat.le_of_ble_eq_true rfl) (Nat.le_of_ble_eq_true rfl) (by decide) ?_
    show RR 0 2 mX0_has 0 [(0, .ref 1), (1, .int v2)] [] s3 _
    refine RR.s2 (pc' := 1) (lv' := [(0, .ref 1), (1, .int v2)]) (st' := [.int v2]) dX0_has_0 rfl ?_
    refine RR.ic (v := 0) dX0_has_1 (by decide) ?_
    refine RR.s2 (pc' := 3) (lv' := [(0, .ref 1), (1, .int v2)]) (st' := [.ref 1, .int 0, .int v2]) dX0_has_2 rfl ?_
    refine RR.getI dX0_has_3 fl_X0_25 rfl rfl ?_
    refine RR.ic (v := 1) dX0_has_6 (by decide) ?_
    refine RR.s2 (pc' := 8) (lv' := [(0, .ref 1), (1, .int v2)]) (st' := [.int ((s3.1 1 4) - 1), .int 0, .int v2]) dX0_has_7 rfl ?_
    refine RR.cN dX0_has_8 ml_X0_28 (as := [.int v2, .int 0, .int ((s3.1 1 4) - 1)]) (rest := []) rfl rfl (Nat.le_of_ble_eq_true rfl) (Nat.le_of_ble_eq_true rfl) (by decide) (kb_X5_within (fun c => ?_) (fun c => ?_))
    · have H := H.1 c
      show RR 0 2 mX0_has 11 [(0, .ref 1), (1, .int v2)] [.int 1] s3 _
      refine RR.zret dX0_has_11 rfl (by decide) ?_
      show RR 0 6 mX5_daysAsSeen 52 [(0, .ref 0), (1, .ref 32), (2, .long y2), (4, .int x4), (5, .int v2), (6, .long v4)] [.int 1] s3 _
      refine RR.brT dX5_daysAsSeen_52 rfl (by decide) ?_
      refine RR.s2 (pc' := 61) (lv' := [(0, .ref 0), (1, .ref 32), (2, .long y2), (4, .int x4), (5, .int v2), (6, .long v4)]) (st' := [.long y2]) dX5_daysAsSeen_60 rfl ?_
      refine RR.s2 (pc' := 62) (lv' := [(0, .ref 0), (1, .ref 32), (2, .long y2), (4, .int x4), (5, .int v2), (6, .long v4)]) (st' := [.ref 0, .long y2]) dX5_daysAsSeen_61 rfl ?_
      refine RR.getR dX5_daysAsSeen_62 fl_X5_37 rfl rfl ?_
      refine RR.s2 (pc' := 67) (lv' := [(0, .ref 0), (1, .ref 32), (2, .long y2), (4, .int x4), (5, .int v2), (6, .long v4)]) (st' := [.int x4, .ref 24, .long y2]) dX5_daysAsSeen_65 rfl ?_
      refine RR.cV dX5_daysAsSeen_67 ml_X5_386 rfl rfl (as := [.int x4]) (rest := [.long y2]) rfl rfl (Nat.le_of_ble_eq_true rfl) (Nat.le_of_ble_eq_true rfl) (by decide) (RR.toI H (fun v6 s5 H => ?_))
      show RR 0 6 mX5_daysAsSeen 70 [(0, .ref 0), (1, .ref 32), (2, .long y2), (4, .int x4), (5, .int v2), (6, .long v4)] [.int v6, .long y2] s5 _
      refine RR.ic (v := 1) dX5_daysAsSeen_70 (by decide) ?_
      refine RR.br dX5_daysAsSeen_71 rfl (fun c => ?_) (fun c => ?_)
      · have H := H.1 c
        refine RR.s2 (pc' := 81) (lv' := [(0, .ref 0), (1, .ref 32), (2, .long y2), (4, .int x4), (5, .int v2), (6, .long v4)]) (st' := [.long v4, .long y2]) dX5_daysAsSeen_79 rfl ?_
        refine RR.ldc2 dX5_daysAsSeen_81 pw_w655 ?_
        refine RR.s2 (pc' := 85) (lv' := [(0, .ref 0), (1, .ref 32), (2, .long y2), (4, .int x4), (5, .int v2), (6, .long v4)]) (st' := [.long (v4 ^^^ (-1 : Int64)), .long y2]) dX5_daysAsSeen_84 rfl ?_
        refine RR.s2 (pc' := 86) (lv' := [(0, .ref 0), (1, .ref 32), (2, .long y2), (4, .int x4), (5, .int v2), (6, .long v4)]) (st' := [.long (y2 &&& (v4 ^^^ (-1 : Int64)))]) dX5_daysAsSeen_85 rfl ?_
        refine RR.s2 (pc' := 87) (lv' := [(0, .ref 0), (1, .ref 32), (2, .long (y2 &&& (v4 ^^^ (-1 : Int64)))), (4, .int x4), (5, .int v2), (6, .long v4)]) (st' := []) dX5_daysAsSeen_86 rfl ?_
        refine RR.inc (c := 1) (lv' := [(0, .ref 0), (1, .ref 32), (2, .long (y2 &&& (v4 ^^^ (-1 : Int64)))), (4, .int (x4 + 1)), (5, .int v2), (6, .long v4)]) dX5_daysAsSeen_87 rfl (by decide) (by decide) rfl ?_
        refine RR.s2 (pc' := 12) (lv' := [(0, .ref 0), (1, .ref 32), (2, .long (y2 &&& (v4 ^^^ (-1 : Int64)))), (4, .int (x4 + 1)), (5, .int v2), (6, .long v4)]) (st' := []) dX5_daysAsSeen_90 rfl ?_
        exact RR.cut [0, 1, 2, 3] rfl H
      · have H := H.2 (Classical.not_not.mp c)
        refine RR.s2 (pc' := 76) (lv' := [(0, .ref 0), (1, .ref 32), (2, .long y2), (4, .int x4), (5, .int v2), (6, .long v4)]) (st' := [.long v4, .long y2]) dX5_daysAsSeen_74 rfl ?_
        refine RR.s2 (pc' := 85) (lv' := [(0, .ref 0), (1, .ref 32), (2, .long y2), (4, .int x4), (5, .int v2), (6, .long v4)]) (st' := [.long v4, .long y2]) dX5_daysAsSeen_76 rfl ?_
        refine RR.s2 (pc' := 86) (lv' := [(0, .ref 0), (1, .ref 32), (2, .long y2), (4, .int x4), (5, .int v2), (6, .long v4)]) (st' := [.long (y2 &&& v4)]) dX5_daysAsSeen_85 rfl ?_
        refine RR.s2 (pc' := 87) (lv' := [(0, .ref 0), (1, .ref 32), (2, .long (y2 &&& v4)), (4, .int x4), (5, .int v2), (6, .long v4)]) (st' := []) dX5_daysAsSeen_86 rfl ?_
        refine RR.inc (c := 1) (lv' := [(0, .ref 0), (1, .ref 32), (2, .long (y2 &&& v4)), (4, .int (x4 + 1)), (5, .int v2), (6, .long v4)]) dX5_daysAsSeen_87 rfl (by decide) (by decide) rfl ?_
        refine RR.s2 (pc' := 12) (lv' := [(0, .ref 0), (1, .ref 32), (2, .long (y2 &&& v4)), (4, .int (x4 + 1)), (5, .int v2), (6, .long v4)]) (st' := []) dX5_daysAsSeen_90 rfl ?_
        exact RR.cut [0, 1, 2, 3] rfl H
    · have H := H.2 c
      show RR 0 2 mX0_has 11 [(0, .ref 1), (1, .int v2)] [.int 0] s3 _
      refine RR.zret dX0_has_11 rfl (by decide) ?_
      show RR 0 6 mX5_daysAsSeen 52 [(0, .ref 0), (1, .ref 32), (2, .long y2), (4, .int x4), (5, .int v2), (6, .long v4)] [.int 0] s3 _
      refine RR.brF dX5_daysAsSeen_52 rfl (by decide) ?_
      refine RR.s2 (pc' := 56) (lv' := [(0, .ref 0), (1, .ref 32), (2, .long y2), (4, .int x4), (5, .int v2), (6, .long v4)]) (st' := [.long (0 : Int64)]) dX5_daysAsSeen_55 rfl ?_
      refine RR.s2 (pc' := 57) (lv' := [(0, .ref 0), (1, .ref 32), (2, .long (0 : Int64)), (4, .int x4), (5, .int v2), (6, .long v4)]) (st' := []) dX5_daysAsSeen_56 rfl ?_
      refine RR.s2 (pc' := 87) (lv' := [(0, .ref 0), (1, .ref 32), (2, .long (0 : Int64)), (4, .int x4), (5, .int v2), (6, .long v4)]) (st' := []) dX5_daysAsSeen_57 rfl ?_
      refine RR.inc (c := 1) (lv' := [(0, .ref 0), (1, .ref 32), (2, .long (0 : Int64)), (4, .int (x4 + 1)), (5, .int v2), (6, .long v4)]) dX5_daysAsSeen_87 rfl (by decide) (by decide) rfl ?_
      refine RR.s2 (pc' := 12) (lv' := [(0, .ref 0), (1, .ref 32), (2, .long (0 : Int64)), (4, .int (x4 + 1)), (5, .int v2), (6, .long v4)]) (st' := []) dX5_daysAsSeen_90 rfl ?_
      exact RR.cut [0, 1, 2, 3] rfl H
set_option maxRecDepth 20000 in
theorem b_X5_agreesWithBook {σ : r_St} {K : Int32 → r_St → Prop}  (H : R_X5_agreesWithBook_2 σ K 0) : M_X5_agreesWithBook σ K := by
  show RR 0 3 mX5_agreesWithBook 0 [(0, .ref 0), (1, .ref 38)] [] σ (rI K)
  refine RR.ic (v := 0) dX5_agreesWithBook_0 (by decide) ?_
  refine RR.s2 (pc' := 2) (lv' := [(0, .ref 0), (1, .ref 38), (2, .int 0)]) (st' := []) dX5_agreesWithBook_1 rfl ?_
  exact RR.cut [0, 1, 2] rfl H
set_option maxRecDepth 20000 in
theorem b_X5_agreesWithBook_2 {σ : r_St} {K : Int32 → r_St → Prop} {x2 : Int32}  (H : (σ.1 28 4 ≤ x2 → K 1 σ) ∧ (¬ (σ.1 28 4 ≤ x2) → (M_X3_second 28 8 σ (fun v2 s1 => (IN v2 0 ((s1.1 1 4) - 1) → (M_X3_first 28 8 s1 (fun v4 s3 => M_X1_openOn 38 s3 (fun v6 s5 => M_X3_third 28 8 s5 (fun v8 s7 => ((iu v6 v2) &&& 1 = v8 → R_X5_agreesWithBook_2 s7 K (x2 + 1)) ∧ (¬ ((iu v6 v2) &&& 1 = v8) → K 0 s7)) x2) v4) x2)) ∧ (¬ IN v2 0 ((s1.1 1 4) - 1) → K 0 s1)) x2))) : R_X5_agreesWithBook_2 σ K x2 := by
  show RR 0 3 mX5_agreesWithBook 2 [(0, .ref 0), (1, .ref 38), (2, .int x2)] [] σ (rI K)
  refine RR.s2 (pc' := 3) (lv' := [(0, .ref 0), (1, .ref 38), (2, .int x2)]) (st' := [.int x2]) dX5_agreesWithBook_2 rfl ?_
  refine RR.s2 (pc' := 4) (lv' := [(0, .ref 0), (1, .ref 38), (2, .int x2)]) (st' := [.ref 0, .int x2]) dX5_agreesWithBook_3 rfl ?_
  refine RR.getR dX5_agreesWithBook_4 fl_X5_40 rfl rfl ?_
  refine RR.cV (d' := 1) dX5_agreesWithBook_7 ml_X5_173 rfl rfl (as := []) (rest := [.int x2]) rfl rfl (Nat.le_of_ble_eq_true rfl) (Nat.le_of_ble_eq_true rfl) (by decide) ?_
  show RR 0 1 mX3_size 0 [(0, .ref 28)] [] σ _
  refine RR.s2 (pc' := 1) (lv' := [(0, .ref 28)]) (st' := [.ref 28]) dX3_size_0 rfl ?_
  refine RR.getI dX3_size_1 fl_X3_31 rfl rfl ?_
  refine RR.iret dX3_size_4 rfl ?_
  show RR 0 3 mX5_agreesWithBook 10 [(0, .ref 0), (1, .ref 38), (2, .int x2)] [.int (σ.1 28 4), .int x2] σ _
  refine RR.br dX5_agreesWithBook_10 rfl (fun c => ?_) (fun c => ?_)
  · have H := H.1 c
    refine RR.ic (v := 1) dX5_agreesWithBook_68 (by decide) ?_
    exact RR.zret dX5_agreesWithBook_69 rfl (by decide) ⟨_, rfl, H⟩
  · have H := H.2 c
    refine RR.s2 (pc' := 14) (lv' := [(0, .ref 0), (1, .ref 38), (2, .int x2)]) (st' := [.ref 0]) dX5_agreesWithBook_13 rfl ?_
    refine RR.getR dX5_agreesWithBook_14 fl_X5_40 rfl rfl ?_
    refine RR.s2 (pc' := 18) (lv' := [(0, .ref 0), (1, .ref 38), (2, .int x2)]) (st' := [.int x2, .ref 28]) dX5_agreesWithBook_17 rfl ?_
    refine RR.cV dX5_agreesWithBook_18 ml_X5_386 rfl rfl (as := [.int x2]) (rest := []) rfl rfl (Nat.le_of_ble_eq_true rfl) (Nat.le_of_ble_eq_true rfl) (by decide) (RR.toI H (fun v2 s1 H => ?_))
    show RR 0 3 mX5_agreesWithBook 21 [(0, .ref 0), (1, .ref 38), (2, .int x2)] [.int v2] s1 _
    refine RR.s2 (pc' := 22) (lv' := [(0, .ref 0), (1, .ref 38), (2, .int x2), (3, .int v2)]) (st' := []) dX5_agreesWithBook_21 rfl ?_
    refine RR.s2 (pc' := 23) (lv' := [(0, .ref 0), (1, .ref 38), (2, .int x2), (3, .int v2)]) (st' := [.ref 0]) dX5_agreesWithBook_22 rfl ?_
    refine RR.getR dX5_agreesWithBook_23 fl_X5_12 rfl rfl ?_
    refine RR.s2 (pc' := 27) (lv' := [(0, .ref 0), (1, .ref 38), (2, .int x2), (3, .int v2)]) (st' := [.int v2, .ref 1]) dX5_agreesWithBook_26 rfl ?_
    refine RR.cV (d' := 2) dX5_agreesWithBook_27 ml_X5_92 rfl rfl (as := [.int v2]) (rest := []) rfl rfl (Nat.le_of_ble_eq_true rfl) (Nat.le_of_ble_eq_true rfl) (by decide) ?_
    show RR 0 2 mX0_has 0 [(0, .ref 1), (1, .int v2)] [] s1 _
    refine RR.s2 (pc' := 1) (lv' := [(0, .ref 1), (1, .int v2)]) (st' := [.int v2]) dX0_has_0 rfl ?_
    refine RR.ic (v := 0) dX0_has_1 (by decide) ?_
    refine RR.s2 (pc' := 3) (lv' := [(0, .ref 1), (1, .int v2)]) (st' := [.ref 1, .int 0, .int v2]) dX0_has_2 rfl ?_
    refine RR.getI dX0_has_3 fl_X0_25 rfl rfl ?_
    refine RR.ic (v := 1) dX0_has_6 (by decide) ?_
    refine RR.s2 (pc' := 8) (lv' := [(0, .ref 1), (1, .int v2)]) (st' := [.int ((s1.1 1 4) - 1), .int 0, .int v2]) dX0_has_7 rfl ?_
    refine RR.cN dX0_has_8 ml_X0_28 (as := [.int v2, .int 0, .int ((s1.1 1 4) - 1)]) (rest := []) rfl rfl (Nat.le_of_ble_eq_true rfl) (Nat.le_of_ble_eq_true rfl) (by decide) (kb_X5_within (fun c => ?_) (fun c => ?_))
    · have H := H.1 c
      show RR 0 2 mX0_has 11 [(0, .ref 1), (1, .int v2)] [.int 1] s1 _
      refine RR.zret dX0_has_11 rfl (by decide) ?_
      show RR 0 3 mX5_agreesWithBook 30 [(0, .ref 0), (1, .ref 38), (2, .int x2), (3, .int v2)] [.int 1] s1 _
      refine RR.brF dX5_agreesWithBook_30 rfl (by decide) ?_
      refine RR.s2 (pc' := 34) (lv' := [(0, .ref 0), (1, .ref 38), (2, .int x2), (3, .int v2)]) (st' := [.ref 38]) dX5_agreesWithBook_33 rfl ?_
      refine RR.s2 (pc' := 35) (lv' := [(0, .ref 0), (1, .ref 38), (2, .int x2), (3, .int v2)]) (st' := [.ref 0, .ref 38]) dX5_agreesWithBook_34 rfl ?_
      refine RR.getR dX5_agreesWithBook_35 fl_X5_40 rfl rfl ?_
      refine RR.s2 (pc' := 39) (lv' := [(0, .ref 0), (1, .ref 38), (2, .int x2), (3, .int v2)]) (st' := [.int x2, .ref 28, .ref 38]) dX5_agreesWithBook_38 rfl ?_
      refine RR.cV dX5_agreesWithBook_39 ml_X5_389 rfl rfl (as := [.int x2]) (rest := [.ref 38]) rfl rfl (Nat.le_of_ble_eq_true rfl) (Nat.le_of_ble_eq_true rfl) (by decide) (RR.toI H (fun v4 s3 H => ?_))
      show RR 0 3 mX5_agreesWithBook 42 [(0, .ref 0), (1, .ref 38), (2, .int x2), (3, .int v2)] [.int v4, .ref 38] s3 _
      refine RR.cV dX5_agreesWithBook_42 ml_X5_163 rfl rfl (as := [.int v4]) (rest := []) rfl rfl (Nat.le_of_ble_eq_true rfl) (Nat.le_of_ble_eq_true rfl) (by decide) (RR.toI H (fun v6 s5 H => ?_))
      show RR 0 3 mX5_agreesWithBook 45 [(0, .ref 0), (1, .ref 38), (2, .int x2), (3, .int v2)] [.int v6] s5 _
      refine RR.s2 (pc' := 46) (lv' := [(0, .ref 0), (1, .ref 38), (2, .int x2), (3, .int v2)]) (st' := [.int v2, .int v6]) dX5_agreesWithBook_45 rfl ?_
      refine RR.cS (d' := 1) dX5_agreesWithBook_46 ml_X5_102 (as := [.int v6, .int v2]) (rest := []) rfl rfl (Nat.le_of_ble_eq_true rfl) (Nat.le_of_ble_eq_true rfl) (by decide) ?_
      show RR 0 1 mX5_bit 0 [(0, .int v6), (1, .int v2)] [] s5 _
      refine RR.s2 (pc' := 1) (lv' := [(0, .int v6), (1, .int v2)]) (st' := [.int v6]) dX5_bit_0 rfl ?_
      refine RR.s2 (pc' := 2) (lv' := [(0, .int v6), (1, .int v2)]) (st' := [.int v2, .int v6]) dX5_bit_1 rfl ?_
      refine RR.s2 (pc' := 3) (lv' := [(0, .int v6), (1, .int v2)]) (st' := [.int (iu v6 v2)]) dX5_bit_2 rfl ?_
      refine RR.ic (v := 1) dX5_bit_3 (by decide) ?_
      refine RR.s2 (pc' := 5) (lv' := [(0, .int v6), (1, .int v2)]) (st' := [.int ((iu v6 v2) &&& 1)]) dX5_bit_4 rfl ?_
      refine RR.iret dX5_bit_5 rfl ?_
      show RR 0 3 mX5_agreesWithBook 49 [(0, .ref 0), (1, .ref 38), (2, .int x2), (3, .int v2)] [.int ((iu v6 v2) &&& 1)] s5 _
      refine RR.s2 (pc' := 50) (lv' := [(0, .ref 0), (1, .ref 38), (2, .int x2), (3, .int v2)]) (st' := [.ref 0, .int ((iu v6 v2) &&& 1)]) dX5_agreesWithBook_49 rfl ?_
      refine RR.getR dX5_agreesWithBook_50 fl_X5_40 rfl rfl ?_
      refine RR.s2 (pc' := 54) (lv' := [(0, .ref 0), (1, .ref 38), (2, .int x2), (3, .int v2)]) (st' := [.int x2, .ref 28, .int ((iu v6 v2) &&& 1)]) dX5_agreesWithBook_53 rfl ?_
      refine RR.cV dX5_agreesWithBook_54 ml_X5_392 rfl rfl (as := [.int x2]) (rest := [.int ((iu v6 v2) &&& 1)]) rfl rfl (Nat.le_of_ble_eq_true rfl) (Nat.le_of_ble_eq_true rfl) (by decide) (RR.toI H (fun v8 s7 H => ?_))
      show RR 0 3 mX5_agreesWithBook 57 [(0, .ref 0), (1, .ref 38), (2, .int x2), (3, .int v2)] [.int v8, .int ((iu v6 v2) &&& 1)] s7 _
      refine RR.br dX5_agreesWithBook_57 rfl (fun c => ?_) (fun c => ?_)
      · have H := H.1 c
        refine RR.inc (c := 1) (lv' := [(0, .ref 0), (1, .ref 38), (2, .int (x2 + 1)), (3, .int v2)]) dX5_agreesWithBook_62 rfl (by decide) (by decide) rfl ?_
        refine RR.s2 (pc' := 2) (lv' := [(0, .ref 0), (1, .ref 38), (2, .int (x2 + 1)), (3, .int v2)]) (st' := []) dX5_agreesWithBook_65 rfl ?_
        exact RR.cut [0, 1, 2] rfl H
      · have H := H.2 c
        refine RR.ic (v := 0) dX5_agreesWithBook_60 (by decide) ?_
        exact RR.zret dX5_agreesWithBook_61 rfl (by decide) ⟨_, rfl, H⟩
    · have H := H.2 c
      show RR 0 2 mX0_has 11 [(0, .ref 1), (1, .int v2)] [.int 0] s1 _
      refine RR.zret dX0_has_11 rfl (by decide) ?_
      show RR 0 3 mX5_agreesWithBook 30 [(0, .ref 0), (1, .ref 38), (2, .int x2), (3, .int v2)] [.int 0] s1 _
      refine RR.brT dX5_agreesWithBook_30 rfl (by decide) ?_
      refine RR.ic (v := 0) dX5_agreesWithBook_60 (by decide) ?_
      exact RR.zret dX5_agreesWithBook_61 rfl (by decide) ⟨_, rfl, H⟩
set_option maxRecDepth 20000 in
theorem b_X5_firstDay {σ : r_St} {K : Int32 → r_St → Prop} {y0 : Int64} {x2 : Int32}  (H : R_X5_firstDay_2 σ K y0 x2) : M_X5_firstDay σ K y0 x2 := by
  show RR 0 2 mX5_firstDay 0 [(0, .long y0), (2, .int x2)] [] σ (rI K)
  refine RR.s2 (pc' := 1) (lv' := [(0, .long y0), (2, .int x2)]) (st' := [.int x2]) dX5_firstDay_0 rfl ?_
  refine RR.s2 (pc' := 2) (lv' := [(0, .long y0), (2, .int x2), (3, .int x2)]) (st' := []) dX5_firstDay_1 rfl ?_
  exact RR.cut [0, 2] rfl H
set_option maxRecDepth 20000 in
theorem b_X5_firstDay_2 {σ : r_St} {K : Int32 → r_St → Prop} {y0 : Int64} {x3 : Int32}  (H : (40 ≤ x3 → K (-1) σ) ∧ (¬ (40 ≤ x3) → ((¬ lg_cmp ((lu y0 x3) &&& (1 : Int64)) (1 : Int64) = 0 → R_X5_firstDay_2 σ K y0 (x3 + 1)) ∧ (lg_cmp ((lu y0 x3) &&& (1 : Int64)) (1 : Int64) = 0 → K x3 σ)))) : R_X5_firstDay_2 σ K y0 x3 := by
  show RR 0 2 mX5_firstDay 2 [(0, .long y0), (3, .int x3)] [] σ (rI K)
  refine RR.s2 (pc' := 3) (lv' := [(0, .long y0), (3, .int x3)]) (st' := [.int x3]) dX5_firstDay_2 rfl ?_
  refine RR.bp (v := 40) dX5_firstDay_3 (by decide) ?_
  refine RR.br dX5_firstDay_5 rfl (fun c => ?_) (fun c => ?_)
  · have H := H.1 c
    refine RR.ic (v := (-1)) dX5_firstDay_24 (by decide) ?_
    exact RR.iret dX5_firstDay_25 rfl ⟨_, rfl, H⟩
  · have H := H.2 c
    refine RR.s2 (pc' := 9) (lv' := [(0, .long y0), (3, .int x3)]) (st' := [.long y0]) dX5_firstDay_8 rfl ?_
    refine RR.s2 (pc' := 10) (lv' := [(0, .long y0), (3, .int x3)]) (st' := [.int x3, .long y0]) dX5_firstDay_9 rfl ?_
    refine RR.cS (d' := 1) dX5_firstDay_10 ml_X5_402 (as := [.long y0, .int x3]) (rest := []) rfl rfl (Nat.le_of_ble_eq_true rfl) (Nat.le_of_ble_eq_true rfl) (by decide) ?_
    show RR 0 1 mX5_holdsDay 0 [(0, .long y0), (2, .int x3)] [] σ _
    refine RR.s2 (pc' := 1) (lv' := [(0, .long y0), (2, .int x3)]) (st' := [.long y0]) dX5_holdsDay_0 rfl ?_
    refine RR.s2 (pc' := 2) (lv' := [(0, .long y0), (2, .int x3)]) (st' := [.int x3, .long y0]) dX5_holdsDay_1 rfl ?_
    refine RR.s2 (pc' := 3) (lv' := [(0, .long y0), (2, .int x3)]) (st' := [.long (lu y0 x3)]) dX5_holdsDay_2 rfl ?_
    refine RR.s2 (pc' := 4) (lv' := [(0, .long y0), (2, .int x3)]) (st' := [.long (1 : Int64), .long (lu y0 x3)]) dX5_holdsDay_3 rfl ?_
    refine RR.s2 (pc' := 5) (lv' := [(0, .long y0), (2, .int x3)]) (st' := [.long ((lu y0 x3) &&& (1 : Int64))]) dX5_holdsDay_4 rfl ?_
    refine RR.s2 (pc' := 6) (lv' := [(0, .long y0), (2, .int x3)]) (st' := [.long (1 : Int64), .long ((lu y0 x3) &&& (1 : Int64))]) dX5_holdsDay_5 rfl ?_
    refine RR.s2 (pc' := 7) (lv' := [(0, .long y0), (2, .int x3)]) (st' := [.int (lg_cmp ((lu y0 x3) &&& (1 : Int64)) (1 : Int64))]) dX5_holdsDay_6 rfl ?_
    refine RR.br dX5_holdsDay_7 rfl (fun c => ?_) (fun c => ?_)
    · have H := H.1 c
      refine RR.ic (v := 0) dX5_holdsDay_14 (by decide) ?_
      refine RR.zret dX5_holdsDay_15 rfl (by decide) ?_
      show RR 0 2 mX5_firstDay 13 [(0, .long y0), (3, .int x3)] [.int 0] σ _
      refine RR.brT dX5_firstDay_13 rfl (by decide) ?_
      refine RR.inc (c := 1) (lv' := [(0, .long y0), (3, .int (x3 + 1))]) dX5_firstDay_18 rfl (by decide) (by decide) rfl ?_
      refine RR.s2 (pc' := 2) (lv' := [(0, .long y0), (3, .int (x3 + 1))]) (st' := []) dX5_firstDay_21 rfl ?_
      exact RR.cut [0, 1] rfl H
    · have H := H.2 (Classical.not_not.mp c)
      refine RR.ic (v := 1) dX5_holdsDay_10 (by decide) ?_
      refine RR.s2 (pc' := 15) (lv' := [(0, .long y0), (2, .int x3)]) (st' := [.int 1]) dX5_holdsDay_11 rfl ?_
      refine RR.zret dX5_holdsDay_15 rfl (by decide) ?_
      show RR 0 2 mX5_firstDay 13 [(0, .long y0), (3, .int x3)] [.int 1] σ _
      refine RR.brF dX5_firstDay_13 rfl (by decide) ?_
      refine RR.s2 (pc' := 17) (lv' := [(0, .long y0), (3, .int x3)]) (st' := [.int x3]) dX5_firstDay_16 rfl ?_
      exact RR.iret dX5_firstDay_17 rfl ⟨_, rfl, H⟩
set_option maxRecDepth 20000 in
theorem b_X5_dayInOrder {σ : r_St} {K : Int32 → r_St → Prop} {y0 : Int64} {x2 : Int32}  (H : R_X5_dayInOrder_5 σ K y0 x2 0 0) : M_X5_dayInOrder σ K y0 x2 := by
  show RR 0 2 mX5_dayInOrder 0 [(0, .long y0), (2, .int x2)] [] σ (rI K)
  refine RR.ic (v := 0) dX5_dayInOrder_0 (by decide) ?_
  refine RR.s2 (pc' := 2) (lv' := [(0, .long y0), (2, .int x2), (3, .int 0)]) (st' := []) dX5_dayInOrder_1 rfl ?_
  refine RR.ic (v := 0) dX5_dayInOrder_2 (by decide) ?_
  refine RR.s2 (pc' := 5) (lv' := [(0, .long y0), (2, .int x2), (3, .int 0), (4, .int 0)]) (st' := []) dX5_dayInOrder_3 rfl ?_
  exact RR.cut [0, 1, 2, 3] rfl H
set_option maxRecDepth 20000 in
theorem b_X5_dayInOrder_5 {σ : r_St} {K : Int32 → r_St → Prop} {y0 : Int64} {x2 : Int32} {x3 : Int32} {x4 : Int32}  (H : (40 ≤ x4 → K (-1) σ) ∧ (¬ (40 ≤ x4) → ((¬ lg_cmp ((lu y0 x4) &&& (1 : Int64)) (1 : Int64) = 0 → R_X5_dayInOrder_5 σ K y0 x2 x3 (x4 + 1)) ∧ (lg_cmp ((lu y0 x4) &&& (1 : Int64)) (1 : Int64) = 0 → ((¬ x3 = x2 → R_X5_dayInOrder_5 σ K y0 x2 (x3 + 1) (x4 + 1)) ∧ (x3 = x2 → K x4 σ)))))) : R_X5_dayInOrder_5 σ K y0 x2 x3 x4 := by
  show RR 0 2 mX5_dayInOrder 5 [(0, .long y0), (2, .int x2), (3, .int x3), (4, .int x4)] [] σ (rI K)
  refine RR.s2 (pc' := 7) (lv' := [(0, .long y0), (2, .int x2), (3, .int x3), (4, .int x4)]) (st' := [.int x4]) dX5_dayInOrder_5 rfl ?_
  refine RR.bp (v := 40) dX5_dayInOrder_7 (by decide) ?_
  refine RR.br dX5_dayInOrder_9 rfl (fun c => ?_) (fun c => ?_)
  · have H := H.1 c
    refine RR.ic (v := (-1)) dX5_dayInOrder_38 (by decide) ?_
    exact RR.iret dX5_dayInOrder_39 rfl ⟨_, rfl, H⟩
  · have H := H.2 c
    refine RR.s2 (pc' := 13) (lv' := [(0, .long y0), (2, .int x2), (3, .int x3), (4, .int x4)]) (st' := [.long y0]) dX5_dayInOrder_12 rfl ?_
    refine RR.s2 (pc' := 15) (lv' := [(0, .long y0), (2, .int x2), (3, .int x3), (4, .int x4)]) (st' := [.int x4, .long y0]) dX5_dayInOrder_13 rfl ?_
    refine RR.cS (d' := 1) dX5_dayInOrder_15 ml_X5_402 (as := [.long y0, .int x4]) (rest := []) rfl rfl (Nat.le_of_ble_eq_true rfl) (Nat.le_of_ble_eq_true rfl) (by decide) ?_
    show RR 0 1 mX5_holdsDay 0 [(0, .long y0), (2, .int x4)] [] σ _
    refine RR.s2 (pc' := 1) (lv' := [(0, .long y0), (2, .int x4)]) (st' := [.long y0]) dX5_holdsDay_0 rfl ?_
    refine RR.s2 (pc' := 2) (lv' := [(0, .long y0), (2, .int x4)]) (st' := [.int x4, .long y0]) dX5_holdsDay_1 rfl ?_
    refine RR.s2 (pc' := 3) (lv' := [(0, .long y0), (2, .int x4)]) (st' := [.long (lu y0 x4)]) dX5_holdsDay_2 rfl ?_
    refine RR.s2 (pc' := 4) (lv' := [(0, .long y0), (2, .int x4)]) (st' := [.long (1 : Int64), .long (lu y0 x4)]) dX5_holdsDay_3 rfl ?_
    refine RR.s2 (pc' := 5) (lv' := [(0, .long y0), (2, .int x4)]) (st' := [.long ((lu y0 x4) &&& (1 : Int64))]) dX5_holdsDay_4 rfl ?_
    refine RR.s2 (pc' := 6) (lv' := [(0, .long y0), (2, .int x4)]) (st' := [.long (1 : Int64), .long ((lu y0 x4) &&& (1 : Int64))]) dX5_holdsDay_5 rfl ?_
    refine RR.s2 (pc' := 7) (lv' := [(0, .long y0), (2, .int x4)]) (st' := [.int (lg_cmp ((lu y0 x4) &&& (1 : Int64)) (1 : Int64))]) dX5_holdsDay_6 rfl ?_
    refine RR.br dX5_holdsDay_7 rfl (fun c => ?_) (fun c => ?_)
    · have H := H.1 c
      refine RR.ic (v := 0) dX5_holdsDay_14 (by decide) ?_
      refine RR.zret dX5_holdsDay_15 rfl (by decide) ?_
      show RR 0 2 mX5_dayInOrder 18 [(0, .long y0), (2, .int x2), (3, .int x3), (4, .int x4)] [.int 0] σ _
      refine RR.brT dX5_dayInOrder_18 rfl (by decide) ?_
      refine RR.inc (c := 1) (lv' := [(0, .long y0), (2, .int x2), (3, .int x3), (4, .int (x4 + 1))]) dX5_dayInOrder_32 rfl (by decide) (by decide) rfl ?_
      refine RR.s2 (pc' := 5) (lv' := [(0, .long y0), (2, .int x2), (3, .int x3), (4, .int (x4 + 1))]) (st' := []) dX5_dayInOrder_35 rfl ?_
      exact RR.cut [0, 1, 2, 3] rfl H
    · have H := H.2 (Classical.not_not.mp c)
      refine RR.ic (v := 1) dX5_holdsDay_10 (by decide) ?_
      refine RR.s2 (pc' := 15) (lv' := [(0, .long y0), (2, .int x4)]) (st' := [.int 1]) dX5_holdsDay_11 rfl ?_
      refine RR.zret dX5_holdsDay_15 rfl (by decide) ?_
      show RR 0 2 mX5_dayInOrder 18 [(0, .long y0), (2, .int x2), (3, .int x3), (4, .int x4)] [.int 1] σ _
      refine RR.brF dX5_dayInOrder_18 rfl (by decide) ?_
      refine RR.s2 (pc' := 22) (lv' := [(0, .long y0), (2, .int x2), (3, .int x3), (4, .int x4)]) (st' := [.int x3]) dX5_dayInOrder_21 rfl ?_
      refine RR.s2 (pc' := 23) (lv' := [(0, .long y0), (2, .int x2), (3, .int x3), (4, .int x4)]) (st' := [.int x2, .int x3]) dX5_dayInOrder_22 rfl ?_
      refine RR.br dX5_dayInOrder_23 rfl (fun c => ?_) (fun c => ?_)
      · have H := H.1 c
        refine RR.inc (c := 1) (lv' := [(0, .long y0), (2, .int x2), (3, .int (x3 + 1)), (4, .int x4)]) dX5_dayInOrder_29 rfl (by decide) (by decide) rfl ?_
        refine RR.inc (c := 1) (lv' := [(0, .long y0), (2, .int x2), (3, .int (x3 + 1)), (4, .int (x4 + 1))]) dX5_dayInOrder_32 rfl (by decide) (by decide) rfl ?_
        refine RR.s2 (pc' := 5) (lv' := [(0, .long y0), (2, .int x2), (3, .int (x3 + 1)), (4, .int (x4 + 1))]) (st' := []) dX5_dayInOrder_35 rfl ?_
        exact RR.cut [0, 1, 2, 3] rfl H
      · have H := H.2 (Classical.not_not.mp c)
        refine RR.s2 (pc' := 28) (lv' := [(0, .long y0), (2, .int x2), (3, .int x3), (4, .int x4)]) (st' := [.int x4]) dX5_dayInOrder_26 rfl ?_
        exact RR.iret dX5_dayInOrder_28 rfl ⟨_, rfl, H⟩
set_option maxRecDepth 20000 in
theorem b_X5_closedDays {σ : r_St} {K : Int32 → r_St → Prop} {y0 : Int64} {x2 : Int32} {x3 : Int32}  (H : R_X5_closedDays_6 σ K y0 x2 x3 0 x2) : M_X5_closedDays σ K y0 x2 x3 := by
  show RR 0 2 mX5_closedDays 0 [(0, .long y0), (2, .int x2), (3, .int x3)] [] σ (rI K)
  refine RR.ic (v := 0) dX5_closedDays_0 (by decide) ?_
  refine RR.s2 (pc' := 3) (lv' := [(0, .long y0), (2, .int x2), (3, .int x3), (4, .int 0)]) (st' := []) dX5_closedDays_1 rfl ?_
  refine RR.s2 (pc' := 4) (lv' := [(0, .long y0), (2, .int x2), (3, .int x3), (4, .int 0)]) (st' := [.int x2]) dX5_closedDays_3 rfl ?_
  refine RR.s2 (pc' := 6) (lv' := [(0, .long y0), (2, .int x2), (3, .int x3), (4, .int 0), (5, .int x2)]) (st' := []) dX5_closedDays_4 rfl ?_
  exact RR.cut [0, 1, 2, 3, 4] rfl H
set_option maxRecDepth 20000 in
theorem b_X5_closedDays_6 {σ : r_St} {K : Int32 → r_St → Prop} {y0 : Int64} {x2 : Int32} {x3 : Int32} {x4 : Int32} {x5 : Int32}  (H : (x2 + x3 ≤ x5 → K x4 σ) ∧ (¬ (x2 + x3 ≤ x5) → ((¬ lg_cmp ((lu y0 x5) &&& (1 : Int64)) (1 : Int64) = 0 → R_X5_closedDays_6 σ K y0 x2 x3 (x4 + 1) (x5 + 1)) ∧ (lg_cmp ((lu y0 x5) &&& (1 : Int64)) (1 : Int64) = 0 → R_X5_closedDays_6 σ K y0 x2 x3 x4 (x5 + 1))))) : R_X5_closedDays_6 σ K y0 x2 x3 x4 x5 := by
  show RR 0 2 mX5_closedDays 6 [(0, .long y0), (2, .int x2), (3, .int x3), (4, .int x4), (5, .int x5)] [] σ (rI K)
  refine RR.s2 (pc' := 8) (lv' := [(0, .long y0), (2, .int x2), (3, .int x3), (4, .int x4), (5, .int x5)]) (st' := [.int x5]) dX5_closedDays_6 rfl ?_
  refine RR.s2 (pc' := 9) (lv' := [(0, .long y0), (2, .int x2), (3, .int x3), (4, .int x4), (5, .int x5)]) (st' := [.int x2, .int x5]) dX5_closedDays_8 rfl ?_
  refine RR.s2 (pc' := 10) (lv' := [(0, .long y0), (2, .int x2), (3, .int x3), (4, .int x4), (5, .int x5)]) (st' := [.int x3, .int x2, .int x5]) dX5_closedDays_9 rfl ?_
  refine RR.s2 (pc' := 11) (lv' := [(0, .long y0), (2, .int x2), (3, .int x3), (4, .int x4), (5, .int x5)]) (st' := [.int (x2 + x3), .int x5]) dX5_closedDays_10 rfl ?_
  refine RR.br dX5_closedDays_11 rfl (fun c => ?_) (fun c => ?_)
  · have H := H.1 c
    refine RR.s2 (pc' := 34) (lv' := [(0, .long y0), (2, .int x2), (3, .int x3), (4, .int x4), (5, .int x5)]) (st' := [.int x4]) dX5_closedDays_32 rfl ?_
    exact RR.iret dX5_closedDays_34 rfl ⟨_, rfl, H⟩
  · have H := H.2 c
    refine RR.s2 (pc' := 15) (lv' := [(0, .long y0), (2, .int x2), (3, .int x3), (4, .int x4), (5, .int x5)]) (st' := [.long y0]) dX5_closedDays_14 rfl ?_
    refine RR.s2 (pc' := 17) (lv' := [(0, .long y0), (2, .int x2), (3, .int x3), (4, .int x4), (5, .int x5)]) (st' := [.int x5, .long y0]) dX5_closedDays_15 rfl ?_
    refine RR.cS (d' := 1) dX5_closedDays_17 ml_X5_402 (as := [.long y0, .int x5]) (rest := []) rfl rfl (Nat.le_of_ble_eq_true rfl) (Nat.le_of_ble_eq_true rfl) (by decide) ?_
    show RR 0 1 mX5_holdsDay 0 [(0, .long y0), (2, .int x5)] [] σ _
    refine RR.s2 (pc' := 1) (lv' := [(0, .long y0), (2, .int x5)]) (st' := [.long y0]) dX5_holdsDay_0 rfl ?_
    refine RR.s2 (pc' := 2) (lv' := [(0, .long y0), (2, .int x5)]) (st' := [.int x5, .long y0]) dX5_holdsDay_1 rfl ?_
    refine RR.s2 (pc' := 3) (lv' := [(0, .long y0), (2, .int x5)]) (st' := [.long (lu y0 x5)]) dX5_holdsDay_2 rfl ?_
    refine RR.s2 (pc' := 4) (lv' := [(0, .long y0), (2, .int x5)]) (st' := [.long (1 : Int64), .long (lu y0 x5)]) dX5_holdsDay_3 rfl ?_
    refine RR.s2 (pc' := 5) (lv' := [(0, .long y0), (2, .int x5)]) (st' := [.long ((lu y0 x5) &&& (1 : Int64))]) dX5_holdsDay_4 rfl ?_
    refine RR.s2 (pc' := 6) (lv' := [(0, .long y0), (2, .int x5)]) (st' := [.long (1 : Int64), .long ((lu y0 x5) &&& (1 : Int64))]) dX5_holdsDay_5 rfl ?_
    refine RR.s2 (pc' := 7) (lv' := [(0, .long y0), (2, .int x5)]) (st' := [.int (lg_cmp ((lu y0 x5) &&& (1 : Int64)) (1 : Int64))]) dX5_holdsDay_6 rfl ?_
    refine RR.br dX5_holdsDay_7 rfl (fun c => ?_) (fun c => ?_)
    · have H := H.1 c
      refine RR.ic (v := 0) dX5_holdsDay_14 (by decide) ?_
      refine RR.zret dX5_holdsDay_15 rfl (by decide) ?_
      show RR 0 2 mX5_closedDays 20 [(0, .long y0), (2, .int x2), (3, .int x3), (4, .int x4), (5, .int x5)] [.int 0] σ _
      refine RR.brF dX5_closedDays_20 rfl (by decide) ?_
      refine RR.inc (c := 1) (lv' := [(0, .long y0), (2, .int x2), (3, .int x3), (4, .int (x4 + 1)), (5, .int x5)]) dX5_closedDays_23 rfl (by decide) (by decide) rfl ?_
      refine RR.inc (c := 1) (lv' := [(0, .long y0), (2, .int x2), (3, .int x3), (4, .int (x4 + 1)), (5, .int (x5 + 1))]) dX5_closedDays_26 rfl (by decide) (by decide) rfl ?_
      refine RR.s2 (pc' := 6) (lv' := [(0, .long y0), (2, .int x2), (3, .int x3), (4, .int (x4 + 1)), (5, .int (x5 + 1))]) (st' := []) dX5_closedDays_29 rfl ?_
      exact RR.cut [0, 1, 2, 3, 4] rfl H
    · have H := H.2 (Classical.not_not.mp c)
      refine RR.ic (v := 1) dX5_holdsDay_10 (by decide) ?_
      refine RR.s2 (pc' := 15) (lv' := [(0, .long y0), (2, .int x5)]) (st' := [.int 1]) dX5_holdsDay_11 rfl ?_
      refine RR.zret dX5_holdsDay_15 rfl (by decide) ?_
      show RR 0 2 mX5_closedDays 20 [(0, .long y0), (2, .int x2), (3, .int x3), (4, .int x4), (5, .int x5)] [.int 1] σ _
      refine RR.brT dX5_closedDays_20 rfl (by decide) ?_
      refine RR.inc (c := 1) (lv' := [(0, .long y0), (2, .int x2), (3, .int x3), (4, .int x4), (5, .int (x5 + 1))]) dX5_closedDays_26 rfl (by decide) (by decide) rfl ?_
      refine RR.s2 (pc' := 6) (lv' := [(0, .long y0), (2, .int x2), (3, .int x3), (4, .int x4), (5, .int (x5 + 1))]) (st' := []) dX5_closedDays_29 rfl ?_
      exact RR.cut [0, 1, 2, 3, 4] rfl H
set_option maxRecDepth 20000 in
theorem b_X5_inLowestTerms {σ : r_St} {K : Int64 → r_St → Prop} {y0 : Int64} {y2 : Int64} {x4 : Int32}  (H : R_X5_inLowestTerms_9 σ K x4 y0 y2 0) : M_X5_inLowestTerms σ K y0 y2 x4 := by
  show RR 0 1 mX5_inLowestTerms 0 [(0, .long y0), (2, .long y2), (4, .int x4)] [] σ (rL K)
  refine RR.s2 (pc' := 1) (lv' := [(0, .long y0), (2, .long y2), (4, .int x4)]) (st' := [.long y0]) dX5_inLowestTerms_0 rfl ?_
  refine RR.s2 (pc' := 3) (lv' := [(0, .long y0), (2, .long y2), (4, .int x4), (5, .long y0)]) (st' := []) dX5_inLowestTerms_1 rfl ?_
  refine RR.s2 (pc' := 4) (lv' := [(0, .long y0), (2, .long y2), (4, .int x4), (5, .long y0)]) (st' := [.long y2]) dX5_inLowestTerms_3 rfl ?_
  refine RR.s2 (pc' := 6) (lv' := [(0, .long y0), (2, .long y2), (4, .int x4), (5, .long y0), (7, .long y2)]) (st' := []) dX5_inLowestTerms_4 rfl ?_
  refine RR.ic (v := 0) dX5_inLowestTerms_6 (by decide) ?_
  refine RR.s2 (pc' := 9) (lv' := [(0, .long y0), (2, .long y2), (4, .int x4), (5, .long y0), (7, .long y2), (9, .int 0)]) (st' := []) dX5_inLowestTerms_7 rfl ?_
  exact RR.cut [2, 3, 4, 5] rfl H
set_option maxRecDepth 20000 in
theorem b_X5_inLowestTerms_9 {σ : r_St} {K : Int64 → r_St → Prop} {x4 : Int32} {y5 : Int64} {y7 : Int64} {x9 : Int32}  (H : (62 ≤ x9 → R_X5_inLowestTerms_52 σ K x4 y5 y7) ∧ (¬ (62 ≤ x9) → ((¬ lg_cmp (y5 &&& (1 : Int64)) (0 : Int64) = 0 → R_X5_inLowestTerms_52 σ K x4 y5 y7) ∧ (lg_cmp (y5 &&& (1 : Int64)) (0 : Int64) = 0 → ((¬ lg_cmp (y7 &&& (1 : Int64)) (0 : Int64) = 0 → R_X5_inLowestTerms_52 σ K x4 y5 y7) ∧ (lg_cmp (y7 &&& (1 : Int64)) (0 : Int64) = 0 → R_X5_inLowestTerms_9 σ K x4 (lsr y5 1) (lsr y7 1) (x9 + 1))))))) : R_X5_inLowestTerms_9 σ K x4 y5 y7 x9 := by
  show RR 0 1 mX5_inLowestTerms 9 [(4, .int x4), (5, .long y5), (7, .long y7), (9, .int x9)] [] σ (rL K)
  refine RR.s2 (pc' := 11) (lv' := [(4, .int x4), (5, .long y5), (7, .long y7), (9, .int x9)]) (st' := [.int x9]) dX5_inLowestTerms_9 rfl ?_
  refine RR.bp (v := 62) dX5_inLowestTerms_11 (by decide) ?_
  refine RR.br dX5_inLowestTerms_13 rfl (fun c => ?_) (fun c => ?_)
  · have H := H.1 c
    exact RR.cut [0, 1, 2] rfl H
  · have H := H.2 c
    refine RR.s2 (pc' := 18) (lv' := [(4, .int x4), (5, .long y5), (7, .long y7), (9, .int x9)]) (st' := [.long y5]) dX5_inLowestTerms_16 rfl ?_
    refine RR.s2 (pc' := 19) (lv' := [(4, .int x4), (5, .long y5), (7, .long y7), (9, .int x9)]) (st' := [.long (1 : Int64), .long y5]) dX5_inLowestTerms_18 rfl ?_
    refine RR.s2 (pc' := 20) (lv' := [(4, .int x4), (5, .long y5), (7, .long y7), (9, .int x9)]) (st' := [.long (y5 &&& (1 : Int64))]) dX5_inLowestTerms_19 rfl ?_
    refine RR.s2 (pc' := 21) (lv' := [(4, .int x4), (5, .long y5), (7, .long y7), (9, .int x9)]) (st' := [.long (0 : Int64), .long (y5 &&& (1 : Int64))]) dX5_inLowestTerms_20 rfl ?_
    refine RR.s2 (pc' := 22) (lv' := [(4, .int x4), (5, .long y5), (7, .long y7), (9, .int x9)]) (st' := [.int (lg_cmp (y5 &&& (1 : Int64)) (0 : Int64))]) dX5_inLowestTerms_21 rfl ?_
    refine RR.br dX5_inLowestTerms_22 rfl (fun c => ?_) (fun c => ?_)
    · have H := H.1 c
      exact RR.cut [0, 1, 2] rfl H
    · have H := H.2 (Classical.not_not.mp c)
      refine RR.s2 (pc' := 27) (lv' := [(4, .int x4), (5, .long y5), (7, .long y7), (9, .int x9)]) (st' := [.long y7]) dX5_inLowestTerms_25 rfl ?_
      refine RR.s2 (pc' := 28) (lv' := [(4, .int x4), (5, .long y5), (7, .long y7), (9, .int x9)]) (st' := [.long (1 : Int64), .long y7]) dX5_inLowestTerms_27 rfl ?_
      refine RR.s2 (pc' := 29) (lv' := [(4, .int x4), (5, .long y5), (7, .long y7), (9, .int x9)]) (st' := [.long (y7 &&& (1 : Int64))]) dX5_inLowestTerms_28 rfl ?_
      refine RR.s2 (pc' := 30) (lv' := [(4, .int x4), (5, .long y5), (7, .long y7), (9, .int x9)]) (st' := [.long (0 : Int64), .long (y7 &&& (1 : Int64))]) dX5_inLowestTerms_29 rfl ?_
      refine RR.s2 (pc' := 31) (lv' := [(4, .int x4), (5, .long y5), (7, .long y7), (9, .int x9)]) (st' := [.int (lg_cmp (y7 &&& (1 : Int64)) (0 : Int64))]) dX5_inLowestTerms_30 rfl ?_
      refine RR.br dX5_inLowestTerms_31 rfl (fun c => ?_) (fun c => ?_)
      · have H := H.1 c
        exact RR.cut [0, 1, 2] rfl H
      · have H := H.2 (Classical.not_not.mp c)
        refine RR.s2 (pc' := 36) (lv' := [(4, .int x4), (5, .long y5), (7, .long y7), (9, .int x9)]) (st' := [.long y5]) dX5_inLowestTerms_34 rfl ?_
        refine RR.ic (v := 1) dX5_inLowestTerms_36 (by decide) ?_
        refine RR.s2 (pc' := 38) (lv' := [(4, .int x4), (5, .long y5), (7, .long y7), (9, .int x9)]) (st' := [.long (lsr y5 1)]) dX5_inLowestTerms_37 rfl ?_
        refine RR.s2 (pc' := 40) (lv' := [(4, .int x4), (5, .long (lsr y5 1)), (7, .long y7), (9, .int x9)]) (st' := []) dX5_inLowestTerms_38 rfl ?_
        refine RR.s2 (pc' := 42) (lv' := [(4, .int x4), (5, .long (lsr y5 1)), (7, .long y7), (9, .int x9)]) (st' := [.long y7]) dX5_inLowestTerms_40 rfl ?_
        refine RR.ic (v := 1) dX5_inLowestTerms_42 (by decide) ?_
        refine RR.s2 (pc' := 44) (lv' := [(4, .int x4), (5, .long (lsr y5 1)), (7, .long y7), (9, .int x9)]) (st' := [.long (lsr y7 1)]) dX5_inLowestTerms_43 rfl ?_
        refine RR.s2 (pc' := 46) (lv' := [(4, .int x4), (5, .long (lsr y5 1)), (7, .long (lsr y7 1)), (9, .int x9)]) (st' := []) dX5_inLowestTerms_44 rfl ?_
        refine RR.inc (c := 1) (lv' := [(4, .int x4), (5, .long (lsr y5 1)), (7, .long (lsr y7 1)), (9, .int (x9 + 1))]) dX5_inLowestTerms_46 rfl (by decide) (by decide) rfl ?_
        refine RR.s2 (pc' := 9) (lv' := [(4, .int x4), (5, .long (lsr y5 1)), (7, .long (lsr y7 1)), (9, .int (x9 + 1))]) (st' := []) dX5_inLowestTerms_49 rfl ?_
        exact RR.cut [0, 1, 2, 3] rfl H
set_option maxRecDepth 20000 in
theorem b_X5_inLowestTerms_52 {σ : r_St} {K : Int64 → r_St → Prop} {x4 : Int32} {y5 : Int64} {y7 : Int64}  (H : (¬ x4 = 0 → K y7 σ) ∧ (x4 = 0 → K y5 σ)) : R_X5_inLowestTerms_52 σ K x4 y5 y7 := by
  show RR 0 1 mX5_inLowestTerms 52 [(4, .int x4), (5, .long y5), (7, .long y7)] [] σ (rL K)
  refine RR.s2 (pc' := 54) (lv' := [(4, .int x4), (5, .long y5), (7, .long y7)]) (st' := [.int x4]) dX5_inLowestTerms_52 rfl ?_
  refine RR.br dX5_inLowestTerms_54 rfl (fun c => ?_) (fun c => ?_)
  · have H := H.1 c
    refine RR.s2 (pc' := 64) (lv' := [(4, .int x4), (5, .long y5), (7, .long y7)]) (st' := [.long y7]) dX5_inLowestTerms_62 rfl ?_
    exact RR.lret dX5_inLowestTerms_64 rfl ⟨_, rfl, H⟩
  · have H := H.2 (Classical.not_not.mp c)
    refine RR.s2 (pc' := 59) (lv' := [(4, .int x4), (5, .long y5), (7, .long y7)]) (st' := [.long y5]) dX5_inLowestTerms_57 rfl ?_
    refine RR.s2 (pc' := 64) (lv' := [(4, .int x4), (5, .long y5), (7, .long y7)]) (st' := [.long y5]) dX5_inLowestTerms_59 rfl ?_
    exact RR.lret dX5_inLowestTerms_64 rfl ⟨_, rfl, H⟩
