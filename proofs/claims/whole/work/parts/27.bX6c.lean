/-! ===== block lemmas (written by mk.py) ===== -/
set_option maxRecDepth 20000 in
theorem b_X6_seen {σ : r_St} {K : Int32 → r_St → Prop} {x1 : Int32} {x2 : Int32}  (H : (IN x1 0 7 → ((IN x2 0 1 → ((¬ σ.1 0 29 = 8 → (∃ j1 : Nat, σ.1 0 29 = nI j1 ∧ j1 < 8 ∧ (∃ j4 : Nat, σ.1 0 29 = nI j4 ∧ j4 < 8 ∧ K ((σ.1 0 29) + 1) (wI (wI (wI σ 22 j1 x1) 23 j4 x2) 0 29 ((σ.1 0 29) + 1))))) ∧ (σ.1 0 29 = 8 → K (-4) σ))) ∧ (¬ IN x2 0 1 → K (-2) σ))) ∧ (¬ IN x1 0 7 → K (-2) σ)) : M_X6_seen σ K x1 x2 := by
  show RR 1 3 mX6_seen 0 [(0, .ref 0), (1, .int x1), (2, .int x2)] [] σ (rI K)
  refine RR.s2 (pc' := 1) (lv' := [(0, .ref 0), (1, .int x1), (2, .int x2)]) (st' := [.int x1]) dX6_seen_0 rfl ?_
  refine RR.cS dX6_seen_1 ml_X6_154 (as := [.int x1]) (rest := []) rfl rfl (Nat.le_of_ble_eq_true rfl) (Nat.le_of_ble_eq_true rfl) (by decide) (kb_X6_isEight (fun c => ?_) (fun c => ?_))
  · have H := H.1 c
    show RR 1 3 mX6_seen 4 [(0, .ref 0), (1, .int x1), (2, .int x2)] [.int 1] σ _
    refine RR.brF dX6_seen_4 rfl (by decide) ?_
    refine RR.s2 (pc' := 8) (lv' := [(0, .ref 0), (1, .int x1), (2, .int x2)]) (st' := [.int x2]) dX6_seen_7 rfl ?_
    refine RR.cS dX6_seen_8 ml_X6_145 (as := [.int x2]) (rest := []) rfl rfl (Nat.le_of_ble_eq_true rfl) (Nat.le_of_ble_eq_true rfl) (by decide) (kb_X6_isTwo (fun c => ?_) (fun c => ?_))
    · have H := H.1 c
      show RR 1 3 mX6_seen 11 [(0, .ref 0), (1, .int x1), (2, .int x2)] [.int 1] σ _
      refine RR.brT dX6_seen_11 rfl (by decide) ?_
      refine RR.s2 (pc' := 18) (lv' := [(0, .ref 0), (1, .int x1), (2, .int x2)]) (st' := [.ref 0]) dX6_seen_17 rfl ?_
      refine RR.getI dX6_seen_18 fl_X6_260 rfl rfl ?_
      refine RR.bp (v := 8) dX6_seen_21 (by decide) ?_
      refine RR.br dX6_seen_23 rfl (fun c => ?_) (fun c => ?_)
      · have H := H.1 c
        refine RR.s2 (pc' := 30) (lv' := [(0, .ref 0), (1, .int x1), (2, .int x2)]) (st' := [.ref 0]) dX6_seen_29 rfl ?_
        refine RR.getR dX6_seen_30 fl_X6_73 rfl rfl ?_
        refine RR.s2 (pc' := 34) (lv' := [(0, .ref 0), (1, .int x1), (2, .int x2)]) (st' := [.ref 0, .ref 22]) dX6_seen_33 rfl ?_
        refine RR.getI dX6_seen_34 fl_X6_260 rfl rfl ?_
        refine RR.s2 (pc' := 38) (lv' := [(0, .ref 0), (1, .int x1), (2, .int x2)]) (st' := [.int x1, .int (σ.1 0 29), .ref 22]) dX6_seen_37 rfl ?_
        obtain ⟨j1, e2, b3, H⟩ := H
        refine RR.iast dX6_seen_38 rfl e2 b3 ?_
        refine RR.s2 (pc' := 40) (lv' := [(0, .ref 0), (1, .int x1), (2, .int x2)]) (st' := [.ref 0]) dX6_seen_39 rfl ?_
        refine RR.getR dX6_seen_40 fl_X6_76 rfl rfl ?_
        refine RR.s2 (pc' := 44) (lv' := [(0, .ref 0), (1, .int x1), (2, .int x2)]) (st' := [.ref 0, .ref 23]) dX6_seen_43 rfl ?_
        refine RR.getI dX6_seen_44 fl_X6_260 rfl rfl ?_
        show RR 1 3 mX6_seen 47 [(0, .ref 0), (1, .int x1), (2, .int x2)] [.int (σ.1 0 29), .ref 23] (wI σ 22 j1 x1) _
        refine RR.s2 (pc' := 48) (lv' := [(0, .ref 0), (1, .int x1), (2, .int x2)]) (st' := [.int x2, .int (σ.1 0 29), .ref 23]) dX6_seen_47 rfl ?_
        obtain ⟨j4, e5, b6, H⟩ := H
        refine RR.iast dX6_seen_48 rfl e5 b6 ?_
        refine RR.s2 (pc' := 50) (lv' := [(0, .ref 0), (1, .int x1), (2, .int x2)]) (st' := [.ref 0]) dX6_seen_49 rfl ?_
        refine RR.s2 (pc' := 51) (lv' := [(0, .ref 0), (1, .int x1), (2, .int x2)]) (st' := [.ref 0, .ref 0]) dX6_seen_50 rfl ?_
        refine RR.getI dX6_seen_51 fl_X6_260 rfl rfl ?_
        show RR 1 3 mX6_seen 54 [(0, .ref 0), (1, .int x1), (2, .int x2)] [.int (σ.1 0 29), .ref 0] (wI (wI σ 22 j1 x1) 23 j4 x2) _
        refine RR.ic (v := 1) dX6_seen_54 (by decide) ?_
        refine RR.s2 (pc' := 56) (lv' := [(0, .ref 0), (1, .int x1), (2, .int x2)]) (st' := [.int ((σ.1 0 29) + 1), .ref 0]) dX6_seen_55 rfl ?_
        refine RR.putI dX6_seen_56 fp_X6_260 rfl rfl ?_
        refine RR.s2 (pc' := 60) (lv' := [(0, .ref 0), (1, .int x1), (2, .int x2)]) (st' := [.ref 0]) dX6_seen_59 rfl ?_
        refine RR.getI dX6_seen_60 fl_X6_260 rfl rfl ?_
        show RR 1 3 mX6_seen 63 [(0, .ref 0), (1, .int x1), (2, .int x2)] [.int ((σ.1 0 29) + 1)] (wI (wI (wI σ 22 j1 x1) 23 j4 x2) 0 29 ((σ.1 0 29) + 1)) _
        exact RR.iret dX6_seen_63 rfl ⟨_, rfl, H⟩
      · have H := H.2 (Classical.not_not.mp c)
        refine RR.bp (v := (-4)) dX6_seen_26 (by decide) ?_
        exact RR.iret dX6_seen_28 rfl ⟨_, rfl, H⟩
    · have H := H.2 c
      show RR 1 3 mX6_seen 11 [(0, .ref 0), (1, .int x1), (2, .int x2)] [.int 0] σ _
      refine RR.brF dX6_seen_11 rfl (by decide) ?_
      refine RR.bp (v := (-2)) dX6_seen_14 (by decide) ?_
      exact RR.iret dX6_seen_16 rfl ⟨_, rfl, H⟩
  · have H := H.2 c
    show RR 1 3 mX6_seen 4 [(0, .ref 0), (1, .int x1), (2, .int x2)] [.int 0] σ _
    refine RR.brT dX6_seen_4 rfl (by decide) ?_
    refine RR.bp (v := (-2)) dX6_seen_14 (by decide) ?_
    exact RR.iret dX6_seen_16 rfl ⟨_, rfl, H⟩
set_option maxRecDepth 20000 in
theorem b_X6_book {σ : r_St} {K : Int32 → r_St → Prop} {x1 : Int32} {x2 : Int32} {x3 : Int32}  (H : (IN x1 0 39 → ((IN x2 0 7 → ((IN x3 0 1 → ((¬ σ.1 0 32 = 8 → (∃ j1 : Nat, σ.1 0 32 = nI j1 ∧ j1 < 8 ∧ (∃ j4 : Nat, σ.1 0 32 = nI j4 ∧ j4 < 8 ∧ (∃ j7 : Nat, σ.1 0 32 = nI j7 ∧ j7 < 8 ∧ K ((σ.1 0 32) + 1) (wI (wI (wI (wI σ 24 j1 x1) 25 j4 x2) 26 j7 x3) 0 32 ((σ.1 0 32) + 1)))))) ∧ (σ.1 0 32 = 8 → K (-4) σ))) ∧ (¬ IN x3 0 1 → K (-2) σ))) ∧ (¬ IN x2 0 7 → K (-2) σ))) ∧ (¬ IN x1 0 39 → K (-2) σ)) : M_X6_book σ K x1 x2 x3 := by
  show RR 1 3 mX6_book 0 [(0, .ref 0), (1, .int x1), (2, .int x2), (3, .int x3)] [] σ (rI K)
  refine RR.s2 (pc' := 1) (lv' := [(0, .ref 0), (1, .int x1), (2, .int x2), (3, .int x3)]) (st' := [.int x1]) dX6_book_0 rfl ?_
  refine RR.cS dX6_book_1 ml_X6_151 (as := [.int x1]) (rest := []) rfl rfl (Nat.le_of_ble_eq_true rfl) (Nat.le_of_ble_eq_true rfl) (by decide) (kb_X6_isDay (fun c => ?_) (fun c => ?_))
  · have H := H.1 c
    show RR 1 3 mX6_book 4 [(0, .ref 0), (1, .int x1), (2, .int x2), (3, .int x3)] [.int 1] σ _
    refine RR.brF dX6_book_4 rfl (by decide) ?_
    refine RR.s2 (pc' := 8) (lv' := [(0, .ref 0), (1, .int x1), (2, .int x2), (3, .int x3)]) (st' := [.int x2]) dX6_book_7 rfl ?_
    refine RR.cS dX6_book_8 ml_X6_154 (as := [.int x2]) (rest := []) rfl rfl (Nat.le_of_ble_eq_true rfl) (Nat.le_of_ble_eq_true rfl) (by decide) (kb_X6_isEight (fun c => ?_) (fun c => ?_))
    · have H := H.1 c
      show RR 1 3 mX6_book 11 [(0, .ref 0), (1, .int x1), (2, .int x2), (3, .int x3)] [.int 1] σ _
      refine RR.brF dX6_book_11 rfl (by decide) ?_
      refine RR.s2 (pc' := 15) (lv' := [(0, .ref 0), (1, .int x1), (2, .int x2), (3, .int x3)]) (st' := [.int x3]) dX6_book_14 rfl ?_
      refine RR.cS dX6_book_15 ml_X6_145 (as := [.int x3]) (rest := []) rfl rfl (Nat.le_of_ble_eq_true rfl) (Nat.le_of_ble_eq_true rfl) (by decide) (kb_X6_isTwo (fun c => ?_) (fun c => ?_))
      · have H := H.1 c
        show RR 1 3 mX6_book 18 [(0, .ref 0), (1, .int x1), (2, .int x2), (3, .int x3)] [.int 1] σ _
        refine RR.brT dX6_book_18 rfl (by decide) ?_
        refine RR.s2 (pc' := 25) (lv' := [(0, .ref 0), (1, .int x1), (2, .int x2), (3, .int x3)]) (st' := [.ref 0]) dX6_book_24 rfl ?_
        refine RR.getI dX6_book_25 fl_X6_263 rfl rfl ?_
        refine RR.bp (v := 8) dX6_book_28 (by decide) ?_
        refine RR.br dX6_book_30 rfl (fun c => ?_) (fun c => ?_)
        · have H := H.1 c
          refine RR.s2 (pc' := 37) (lv' := [(0, .ref 0), (1, .int x1), (2, .int x2), (3, .int x3)]) (st' := [.ref 0]) dX6_book_36 rfl ?_
          refine RR.getR dX6_book_37 fl_X6_79 rfl rfl ?_
          refine RR.s2 (pc' := 41) (lv' := [(0, .ref 0), (1, .int x1), (2, .int x2), (3, .int x3)]) (st' := [.ref 0, .ref 24]) dX6_book_40 rfl ?_
          refine RR.getI dX6_book_41 fl_X6_263 rfl rfl ?_
          refine RR.s2 (pc' := 45) (lv' := [(0, .ref 0), (1, .int x1), (2, .int x2), (3, .int x3)]) (st' := [.int x1, .int (σ.1 0 32), .ref 24]) dX6_book_44 rfl ?_
          obtain ⟨j1, e2, b3, H⟩ := H
          refine RR.iast dX6_book_45 rfl e2 b3 ?_
          refine RR.s2 (pc' := 47) (lv' := [(0, .ref 0), (1, .int x1), (2, .int x2), (3, .int x3)]) (st' := [.ref 0]) dX6_book_46 rfl ?_
          refine RR.getR dX6_book_47 fl_X6_82 rfl rfl ?_
          refine RR.s2 (pc' := 51) (lv' := [(0, .ref 0), (1, .int x1), (2, .int x2), (3, .int x3)]) (st' := [.ref 0, .ref 25]) dX6_book_50 rfl ?_
          refine RR.getI dX6_book_51 fl_X6_263 rfl rfl ?_
          show RR 1 3 mX6_book 54 [(0, .ref 0), (1, .int x1), (2, .int x2), (3, .int x3)] [.int (σ.1 0 32), .ref 25] (wI σ 24 j1 x1) _
          refine RR.s2 (pc' := 55) (lv' := [(0, .ref 0), (1, .int x1), (2, .int x2), (3, .int x3)]) (st' := [.int x2, .int (σ.1 0 32), .ref 25]) dX6_book_54 rfl ?_
          obtain ⟨j4, e5, b6, H⟩ := H
          refine RR.iast dX6_book_55 rfl e5 b6 ?_
          refine RR.s2 (pc' := 57) (lv' := [(0, .ref 0), (1, .int x1), (2, .int x2), (3, .int x3)]) (st' := [.ref 0]) dX6_book_56 rfl ?_
          refine RR.getR dX6_book_57 fl_X6_85 rfl rfl ?_
          refine RR.s2 (pc' := 61) (lv' := [(0, .ref 0), (1, .int x1), (2, .int x2), (3, .int x3)]) (st' := [.ref 0, .ref 26]) dX6_book_60 rfl ?_
          refine RR.getI dX6_book_61 fl_X6_263 rfl rfl ?_
          show RR 1 3 mX6_book 64 [(0, .ref 0), (1, .int x1), (2, .int x2), (3, .int x3)] [.int (σ.1 0 32), .ref 26] (wI (wI σ 24 j1 x1) 25 j4 x2) _
          refine RR.s2 (pc' := 65) (lv' := [(0, .ref 0), (1, .int x1), (2, .int x2), (3, .int x3)]) (st' := [.int x3, .int (σ.1 0 32), .ref 26]) dX6_book_64 rfl ?_
          obtain ⟨j7, e8, b9, H⟩ := H
          refine RR.iast dX6_book_65 rfl e8 b9 ?_
          refine RR.s2 (pc' := 67) (lv' := [(0, .ref 0), (1, .int x1), (2, .int x2), (3, .int x3)]) (st' := [.ref 0]) dX6_book_66 rfl ?_
          refine RR.s2 (pc' := 68) (lv' := [(0, .ref 0), (1, .int x1), (2, .int x2), (3, .int x3)]) (st' := [.ref 0, .ref 0]) dX6_book_67 rfl ?_
          refine RR.getI dX6_book_68 fl_X6_263 rfl rfl ?_
          show RR 1 3 mX6_book 71 [(0, .ref 0), (1, .int x1), (2, .int x2), (3, .int x3)] [.int (σ.1 0 32), .ref 0] (wI (wI (wI σ 24 j1 x1) 25 j4 x2) 26 j7 x3) _
          refine RR.ic (v := 1) dX6_book_71 (by decide) ?_
          refine RR.s2 (pc' := 73) (lv' := [(0, .ref 0), (1, .int x1), (2, .int x2), (3, .int x3)]) (st' := [.int ((σ.1 0 32) + 1), .ref 0]) dX6_book_72 rfl ?_
          refine RR.putI dX6_book_73 fp_X6_263 rfl rfl ?_
          refine RR.s2 (pc' := 77) (lv' := [(0, .ref 0), (1, .int x1), (2, .int x2), (3, .int x3)]) (st' := [.ref 0]) dX6_book_76 rfl ?_
          refine RR.getI dX6_book_77 fl_X6_263 rfl rfl ?_
          show RR 1 3 mX6_book 80 [(0, .ref 0), (1, .int x1), (2, .int x2), (3, .int x3)] [.int ((σ.1 0 32) + 1)] (wI (wI (wI (wI σ 24 j1 x1) 25 j4 x2) 26 j7 x3) 0 32 ((σ.1 0 32) + 1)) _
          exact RR.iret dX6_book_80 rfl ⟨_, rfl, H⟩
        · have H := H.2 (Classical.not_not.mp c)
          refine RR.bp (v := (-4)) dX6_book_33 (by decide) ?_
          exact RR.iret dX6_book_35 rfl ⟨_, rfl, H⟩
      · have H := H.2 c
        show RR 1 3 mX6_book 18 [(0, .ref 0), (1, .int x1), (2, .int x2), (3, .int x3)] [.int 0] σ _
        refine RR.brF dX6_book_18 rfl (by decide) ?_
        refine RR.bp (v := (-2)) dX6_book_21 (by decide) ?_
        exact RR.iret dX6_book_23 rfl ⟨_, rfl, H⟩
    · have H := H.2 c
      show RR 1 3 mX6_book 11 [(0, .ref 0), (1, .int x1), (2, .int x2), (3, .int x3)] [.int 0] σ _
      refine RR.brT dX6_book_11 rfl (by decide) ?_
      refine RR.bp (v := (-2)) dX6_book_21 (by decide) ?_
      exact RR.iret dX6_book_23 rfl ⟨_, rfl, H⟩
  · have H := H.2 c
    show RR 1 3 mX6_book 4 [(0, .ref 0), (1, .int x1), (2, .int x2), (3, .int x3)] [.int 0] σ _
    refine RR.brT dX6_book_4 rfl (by decide) ?_
    refine RR.bp (v := (-2)) dX6_book_21 (by decide) ?_
    exact RR.iret dX6_book_23 rfl ⟨_, rfl, H⟩
set_option maxRecDepth 20000 in
theorem b_X6_forget {σ : r_St} {K : Int32 → r_St → Prop} {x1 : Int32}  (H : (IN x1 0 1 → ((¬ x1 = 0 → R_X6_forget_25 σ K x1 (σ.1 0 32)) ∧ (x1 = 0 → R_X6_forget_25 σ K x1 (σ.1 0 29)))) ∧ (¬ IN x1 0 1 → K (-2) σ)) : M_X6_forget σ K x1 := by
  show RR 1 3 mX6_forget 0 [(0, .ref 0), (1, .int x1)] [] σ (rI K)
  refine RR.s2 (pc' := 1) (lv' := [(0, .ref 0), (1, .int x1)]) (st' := [.int x1]) dX6_forget_0 rfl ?_
  refine RR.cS dX6_forget_1 ml_X6_145 (as := [.int x1]) (rest := []) rfl rfl (Nat.le_of_ble_eq_true rfl) (Nat.le_of_ble_eq_true rfl) (by decide) (kb_X6_isTwo (fun c => ?_) (fun c => ?_))
  · have H := H.1 c
    show RR 1 3 mX6_forget 4 [(0, .ref 0), (1, .int x1)] [.int 1] σ _
    refine RR.brT dX6_forget_4 rfl (by decide) ?_
    refine RR.s2 (pc' := 11) (lv' := [(0, .ref 0), (1, .int x1)]) (st' := [.int x1]) dX6_forget_10 rfl ?_
    refine RR.br dX6_forget_11 rfl (fun c => ?_) (fun c => ?_)
    · have H := H.1 c
      refine RR.s2 (pc' := 22) (lv' := [(0, .ref 0), (1, .int x1)]) (st' := [.ref 0]) dX6_forget_21 rfl ?_
      refine RR.getI dX6_forget_22 fl_X6_263 rfl rfl ?_
      exact RR.cut [0, 1] rfl H
    · have H := H.2 (Classical.not_not.mp c)
      refine RR.s2 (pc' := 15) (lv' := [(0, .ref 0), (1, .int x1)]) (st' := [.ref 0]) dX6_forget_14 rfl ?_
      refine RR.getI dX6_forget_15 fl_X6_260 rfl rfl ?_
      refine RR.s2 (pc' := 25) (lv' := [(0, .ref 0), (1, .int x1)]) (st' := [.int (σ.1 0 29)]) dX6_forget_18 rfl ?_
      exact RR.cut [0, 1] rfl H
  · have H := H.2 c
    show RR 1 3 mX6_forget 4 [(0, .ref 0), (1, .int x1)] [.int 0] σ _
    refine RR.brF dX6_forget_4 rfl (by decide) ?_
    refine RR.bp (v := (-2)) dX6_forget_7 (by decide) ?_
    exact RR.iret dX6_forget_9 rfl ⟨_, rfl, H⟩
set_option maxRecDepth 20000 in
theorem b_X6_forget_25 {σ : r_St} {K : Int32 → r_St → Prop} {x1 : Int32} {t0 : Int32}  (H : (¬ x1 = 0 → R_X6_forget_39 σ K x1 t0 (σ.1 0 29)) ∧ (x1 = 0 → R_X6_forget_39 σ K x1 t0 0)) : R_X6_forget_25 σ K x1 t0 := by
  show RR 1 3 mX6_forget 25 [(0, .ref 0), (1, .int x1)] [.int t0] σ (rI K)
  refine RR.s2 (pc' := 26) (lv' := [(0, .ref 0), (1, .int x1), (2, .int t0)]) (st' := []) dX6_forget_25 rfl ?_
  refine RR.s2 (pc' := 27) (lv' := [(0, .ref 0), (1, .int x1), (2, .int t0)]) (st' := [.ref 0]) dX6_forget_26 rfl ?_
  refine RR.s2 (pc' := 28) (lv' := [(0, .ref 0), (1, .int x1), (2, .int t0)]) (st' := [.int x1, .ref 0]) dX6_forget_27 rfl ?_
  refine RR.br dX6_forget_28 rfl (fun c => ?_) (fun c => ?_)
  · have H := H.1 c
    refine RR.s2 (pc' := 36) (lv' := [(0, .ref 0), (1, .int x1), (2, .int t0)]) (st' := [.ref 0, .ref 0]) dX6_forget_35 rfl ?_
    refine RR.getI dX6_forget_36 fl_X6_260 rfl rfl ?_
    exact RR.cut [0, 1, 2] rfl H
  · have H := H.2 (Classical.not_not.mp c)
    refine RR.ic (v := 0) dX6_forget_31 (by decide) ?_
    refine RR.s2 (pc' := 39) (lv' := [(0, .ref 0), (1, .int x1), (2, .int t0)]) (st' := [.int 0, .ref 0]) dX6_forget_32 rfl ?_
    exact RR.cut [0, 1, 2] rfl H
set_option maxRecDepth 20000 in
theorem b_X6_forget_39 {σ : r_St} {K : Int32 → r_St → Prop} {x1 : Int32} {x2 : Int32} {t0 : Int32}  (H : (¬ x1 = 1 → K x2 (wI (wI σ 0 29 t0) 0 32 (σ.1 0 32))) ∧ (x1 = 1 → K x2 (wI (wI σ 0 29 t0) 0 32 0))) : R_X6_forget_39 σ K x1 x2 t0 := by
  show RR 1 3 mX6_forget 39 [(0, .ref 0), (1, .int x1), (2, .int x2)] [.int t0, .ref 0] σ (rI K)
  refine RR.putI dX6_forget_39 fp_X6_260 rfl rfl ?_
  refine RR.s2 (pc' := 43) (lv' := [(0, .ref 0), (1, .int x1), (2, .int x2)]) (st' := [.ref 0]) dX6_forget_42 rfl ?_
  refine RR.s2 (pc' := 44) (lv' := [(0, .ref 0), (1, .int x1), (2, .int x2)]) (st' := [.int x1, .ref 0]) dX6_forget_43 rfl ?_
  refine RR.ic (v := 1) dX6_forget_44 (by decide) ?_
  refine RR.br dX6_forget_45 rfl (fun c => ?_) (fun c => ?_)
  · have H := H.1 c
    refine RR.s2 (pc' := 53) (lv' := [(0, .ref 0), (1, .int x1), (2, .int x2)]) (st' := [.ref 0, .ref 0]) dX6_forget_52 rfl ?_
    refine RR.getI dX6_forget_53 fl_X6_263 rfl rfl ?_
    show RR 1 3 mX6_forget 56 [(0, .ref 0), (1, .int x1), (2, .int x2)] [.int (σ.1 0 32), .ref 0] (wI σ 0 29 t0) _
    refine RR.putI dX6_forget_56 fp_X6_263 rfl rfl ?_
    refine RR.s2 (pc' := 60) (lv' := [(0, .ref 0), (1, .int x1), (2, .int x2)]) (st' := [.int x2]) dX6_forget_59 rfl ?_
    exact RR.iret dX6_forget_60 rfl ⟨_, rfl, H⟩
  · have H := H.2 (Classical.not_not.mp c)
    refine RR.ic (v := 0) dX6_forget_48 (by decide) ?_
    refine RR.s2 (pc' := 56) (lv' := [(0, .ref 0), (1, .int x1), (2, .int x2)]) (st' := [.int 0, .ref 0]) dX6_forget_49 rfl ?_
    refine RR.putI dX6_forget_56 fp_X6_263 rfl rfl ?_
    refine RR.s2 (pc' := 60) (lv' := [(0, .ref 0), (1, .int x1), (2, .int x2)]) (st' := [.int x2]) dX6_forget_59 rfl ?_
    exact RR.iret dX6_forget_60 rfl ⟨_, rfl, H⟩
set_option maxRecDepth 20000 in
theorem b_X6_isSo {σ : r_St} {K : Int32 → r_St → Prop} {x1 : Int32} {x2 : Int32} {x3 : Int32}  (H : (σ.1 0 2 ≤ x2 → K 0 σ) ∧ (¬ (σ.1 0 2 ≤ x2) → (∃ j1 : Nat, x1 = nI j1 ∧ j1 < 40 ∧ ((¬ (sr (σ.1 16 j1) x2) &&& 1 = x3 → K 0 σ) ∧ ((sr (σ.1 16 j1) x2) &&& 1 = x3 → K 1 σ))))) : M_X6_isSo σ K x1 x2 x3 := by
  show RR 1 1 mX6_isSo 0 [(0, .ref 0), (1, .int x1), (2, .int x2), (3, .int x3)] [] σ (rI K)
  refine RR.s2 (pc' := 1) (lv' := [(0, .ref 0), (1, .int x1), (2, .int x2), (3, .int x3)]) (st' := [.int x2]) dX6_isSo_0 rfl ?_
  refine RR.s2 (pc' := 2) (lv' := [(0, .ref 0), (1, .int x1), (2, .int x2), (3, .int x3)]) (st' := [.ref 0, .int x2]) dX6_isSo_1 rfl ?_
  refine RR.getI dX6_isSo_2 fl_X6_114 rfl rfl ?_
  refine RR.br dX6_isSo_5 rfl (fun c => ?_) (fun c => ?_)
  · have H := H.1 c
    refine RR.ic (v := 0) dX6_isSo_26 (by decide) ?_
    exact RR.zret dX6_isSo_27 rfl (by decide) ⟨_, rfl, H⟩
  · have H := H.2 c
    refine RR.s2 (pc' := 9) (lv' := [(0, .ref 0), (1, .int x1), (2, .int x2), (3, .int x3)]) (st' := [.ref 0]) dX6_isSo_8 rfl ?_
    refine RR.getR dX6_isSo_9 fl_X6_55 rfl rfl ?_
    refine RR.s2 (pc' := 13) (lv' := [(0, .ref 0), (1, .int x1), (2, .int x2), (3, .int x3)]) (st' := [.int x1, .ref 16]) dX6_isSo_12 rfl ?_
    obtain ⟨j1, e2, b3, H⟩ := H
    refine RR.iald dX6_isSo_13 rfl e2 b3 ?_
    refine RR.s2 (pc' := 15) (lv' := [(0, .ref 0), (1, .int x1), (2, .int x2), (3, .int x3)]) (st' := [.int x2, .int (σ.1 16 j1)]) dX6_isSo_14 rfl ?_
    refine RR.s2 (pc' := 16) (lv' := [(0, .ref 0), (1, .int x1), (2, .int x2), (3, .int x3)]) (st' := [.int (sr (σ.1 16 j1) x2)]) dX6_isSo_15 rfl ?_
    refine RR.ic (v := 1) dX6_isSo_16 (by decide) ?_
    refine RR.s2 (pc' := 18) (lv' := [(0, .ref 0), (1, .int x1), (2, .int x2), (3, .int x3)]) (st' := [.int ((sr (σ.1 16 j1) x2) &&& 1)]) dX6_isSo_17 rfl ?_
    refine RR.s2 (pc' := 19) (lv' := [(0, .ref 0), (1, .int x1), (2, .int x2), (3, .int x3)]) (st' := [.int x3, .int ((sr (σ.1 16 j1) x2) &&& 1)]) dX6_isSo_18 rfl ?_
    refine RR.br dX6_isSo_19 rfl (fun c => ?_) (fun c => ?_)
    · have H := H.1 c
      refine RR.ic (v := 0) dX6_isSo_26 (by decide) ?_
      exact RR.zret dX6_isSo_27 rfl (by decide) ⟨_, rfl, H⟩
    · have H := H.2 (Classical.not_not.mp c)
      refine RR.ic (v := 1) dX6_isSo_22 (by decide) ?_
      refine RR.s2 (pc' := 27) (lv' := [(0, .ref 0), (1, .int x1), (2, .int x2), (3, .int x3)]) (st' := [.int 1]) dX6_isSo_23 rfl ?_
      exact RR.zret dX6_isSo_27 rfl (by decide) ⟨_, rfl, H⟩
set_option maxRecDepth 20000 in
theorem b_X6_isWhen {σ : r_St} {K : Int32 → r_St → Prop} {x1 : Int32}  (H : R_X6_isWhen_4 σ K x1 1 0) : M_X6_isWhen σ K x1 := by
  show RR 1 2 mX6_isWhen 0 [(0, .ref 0), (1, .int x1)] [] σ (rI K)
  refine RR.ic (v := 1) dX6_isWhen_0 (by decide) ?_
  refine RR.s2 (pc' := 2) (lv' := [(0, .ref 0), (1, .int x1), (2, .int 1)]) (st' := []) dX6_isWhen_1 rfl ?_
  refine RR.ic (v := 0) dX6_isWhen_2 (by decide) ?_
  refine RR.s2 (pc' := 4) (lv' := [(0, .ref 0), (1, .int x1), (2, .int 1), (3, .int 0)]) (st' := []) dX6_isWhen_3 rfl ?_
  exact RR.cut [0, 1, 2, 3] rfl H
set_option maxRecDepth 20000 in
theorem b_X6_isWhen_4 {σ : r_St} {K : Int32 → r_St → Prop} {x1 : Int32} {x2 : Int32} {x3 : Int32}  (H : (σ.1 0 29 ≤ x3 → ((x2 = 0 ∨ x2 = 1) ∧ K x2 σ)) ∧ (¬ (σ.1 0 29 ≤ x3) → ((x2 = 0 → R_X6_isWhen_4 σ K x1 0 (x3 + 1)) ∧ (¬ (x2 = 0) → (∃ j1 : Nat, x3 = nI j1 ∧ j1 < 8 ∧ (∃ j4 : Nat, x3 = nI j4 ∧ j4 < 8 ∧ (M_X6_isSo σ (fun v8 s7 => (v8 = 0 → R_X6_isWhen_4 s7 K x1 0 (x3 + 1)) ∧ (¬ (v8 = 0) → R_X6_isWhen_4 s7 K x1 1 (x3 + 1))) x1 (σ.1 22 j1) (σ.1 23 j4)))))))) : R_X6_isWhen_4 σ K x1 x2 x3 := by
  show RR 1 2 mX6_isWhen 4 [(0, .ref 0), (1, .int x1), (2, .int x2), (3, .int x3)] [] σ (rI K)
  refine RR.s2 (pc' := 5) (lv' := [(0, .ref 0), (1, .int x1), (2, .int x2), (3, .int x3)]) (st' := [.int x3]) dX6_isWhen_4 rfl ?_
  refine RR.s2 (pc' := 6) (lv' := [(0, .ref 0), (1, .int x1), (2, .int x2), (3, .int x3)]) (st' := [.ref 0, .int x3]) dX6_isWhen_5 rfl ?_
  refine RR.getI dX6_isWhen_6 fl_X6_260 rfl rfl ?_
  refine RR.br dX6_isWhen_9 rfl (fun c => ?_) (fun c => ?_)
  · have H := H.1 c
    refine RR.s2 (pc' := 49) (lv' := [(0, .ref 0), (1, .int x1), (2, .int x2), (3, .int x3)]) (st' := [.int x2]) dX6_isWhen_48 rfl ?_
    exact RR.zret dX6_isWhen_49 rfl H.1 ⟨_, rfl, H.2⟩
  · have H := H.2 c
    refine RR.s2 (pc' := 13) (lv' := [(0, .ref 0), (1, .int x1), (2, .int x2), (3, .int x3)]) (st' := [.int x2]) dX6_isWhen_12 rfl ?_
    refine RR.br dX6_isWhen_13 rfl (fun c => ?_) (fun c => ?_)
    · have H := H.1 c
      refine RR.ic (v := 0) dX6_isWhen_40 (by decide) ?_
      refine RR.s2 (pc' := 42) (lv' := [(0, .ref 0), (1, .int x1), (2, .int 0), (3, .int x3)]) (st' := []) dX6_isWhen_41 rfl ?_
      refine RR.inc (c := 1) (lv' := [(0, .ref 0), (1, .int x1), (2, .int 0), (3, .int (x3 + 1))]) dX6_isWhen_42 rfl (by decide) (by decide) rfl ?_
      refine RR.s2 (pc' := 4) (lv' := [(0, .ref 0), (1, .int x1), (2, .int 0), (3, .int (x3 + 1))]) (st' := []) dX6_isWhen_45 rfl ?_
      exact RR.cut [0, 1, 2, 3] rfl H
    · have H := H.2 c
      refine RR.s2 (pc' := 17) (lv' := [(0, .ref 0), (1, .int x1), (2, .int x2), (3, .int x3)]) (st' := [.ref 0]) dX6_isWhen_16 rfl ?_
      refine RR.s2 (pc' := 18) (lv' := [(0, .ref 0), (1, .int x1), (2, .int x2), (3, .int x3)]) (st' := [.int x1, .ref 0]) dX6_isWhen_17 rfl ?_
      refine RR.s2 (pc' := 19) (lv' := [(0, .ref 0), (1, .int x1), (2, .int x2), (3, .int x3)]) (st' := [.ref 0, .int x1, .ref 0]) dX6_isWhen_18 rfl ?_
      refine RR.getR dX6_isWhen_19 fl_X6_73 rfl rfl ?_
      refine RR.s2 (pc' := 23) (lv' := [(0, .ref 0), (1, .int x1), (2, .int x2), (3, .int x3)]) (st' := [.int x3, .ref 22, .int x1, .ref 0]) dX6_isWhen_22 rfl ?_
      obtain ⟨j1, e2, b3, H⟩ := H
      refine RR.iald dX6_isWhen_23 rfl e2 b3 ?_
      refine RR.s2 (pc' := 25) (lv' := [(0, .ref 0), (1, .int x1), (2, .int x2), (3, .int x3)]) (st' := [.ref 0, .int (σ.1 22 j1), .int x1, .ref 0]) dX6_isWhen_24 rfl ?_
      refine RR.getR dX6_isWhen_25 fl_X6_76 rfl rfl ?_
      refine RR.s2 (pc' := 29) (lv' := [(0, .ref 0), (1, .int x1), (2, .int x2), (3, .int x3)]) (st' := [.int x3, .ref 23, .int (σ.1 22 j1), .int x1, .ref 0]) dX6_isWhen_28 rfl ?_
      obtain ⟨j4, e5, b6, H⟩ := H
      refine RR.iald dX6_isWhen_29 rfl e5 b6 ?_
      refine RR.cV dX6_isWhen_30 ml_X6_266 rfl rfl (as := [.int x1, .int (σ.1 22 j1), .int (σ.1 23 j4)]) (rest := []) rfl rfl (Nat.le_of_ble_eq_true rfl) (Nat.le_of_ble_eq_true rfl) (by decide) (RR.toI H (fun v8 s7 H => ?_))
      show RR 1 2 mX6_isWhen 33 [(0, .ref 0), (1, .int x1), (2, .int x2), (3, .int x3)] [.int v8] s7 _
      refine RR.br dX6_isWhen_33 rfl (fun c => ?_) (fun c => ?_)
      · have H := H.1 c
        refine RR.ic (v := 0) dX6_isWhen_40 (by decide) ?_
        refine RR.s2 (pc' := 42) (lv' := [(0, .ref 0), (1, .int x1), (2, .int 0), (3, .int x3)]) (st' := []) dX6_isWhen_41 rfl ?_
        refine RR.inc (c := 1) (lv' := [(0, .ref 0), (1, .int x1), (2, .int 0), (3, .int (x3 + 1))]) dX6_isWhen_42 rfl (by decide) (by decide) rfl ?_
        refine RR.s2 (pc' := 4) (lv' := [(0, .ref 0), (1, .int x1), (2, .int 0), (3, .int (x3 + 1))]) (st' := []) dX6_isWhen_45 rfl ?_
        exact RR.cut [0, 1, 2, 3] rfl H
      · have H := H.2 c
        refine RR.ic (v := 1) dX6_isWhen_36 (by decide) ?_
        refine RR.s2 (pc' := 41) (lv' := [(0, .ref 0), (1, .int x1), (2, .int x2), (3, .int x3)]) (st' := [.int 1]) dX6_isWhen_37 rfl ?_
        refine RR.s2 (pc' := 42) (lv' := [(0, .ref 0), (1, .int x1), (2, .int 1), (3, .int x3)]) (st' := []) dX6_isWhen_41 rfl ?_
        refine RR.inc (c := 1) (lv' := [(0, .ref 0), (1, .int x1), (2, .int 1), (3, .int (x3 + 1))]) dX6_isWhen_42 rfl (by decide) (by decide) rfl ?_
        refine RR.s2 (pc' := 4) (lv' := [(0, .ref 0), (1, .int x1), (2, .int 1), (3, .int (x3 + 1))]) (st' := []) dX6_isWhen_45 rfl ?_
        exact RR.cut [0, 1, 2, 3] rfl H
set_option maxRecDepth 20000 in
theorem b_X6_whenOf {σ : r_St} {K : Int32 → r_St → Prop} {x1 : Int32}  (H : M_X6_laysTold σ (fun s1 => R_X6_whenOf_11 s1 K x1 0 (-1) 0)) : M_X6_whenOf σ K x1 := by
  show RR 1 5 mX6_whenOf 0 [(0, .ref 0), (1, .int x1)] [] σ (rI K)
  refine RR.s2 (pc' := 1) (lv' := [(0, .ref 0), (1, .int x1)]) (st' := [.ref 0]) dX6_whenOf_0 rfl ?_
  refine RR.cV dX6_whenOf_1 ml_X6_194 rfl rfl (as := []) (rest := []) rfl rfl (Nat.le_of_ble_eq_true rfl) (Nat.le_of_ble_eq_true rfl) (by decide) (RR.toV H (fun s1 H => ?_))
  show RR 1 5 mX6_whenOf 4 [(0, .ref 0), (1, .int x1)] [] s1 _
  refine RR.ic (v := 0) dX6_whenOf_4 (by decide) ?_
  refine RR.s2 (pc' := 6) (lv' := [(0, .ref 0), (1, .int x1), (2, .int 0)]) (st' := []) dX6_whenOf_5 rfl ?_
  refine RR.ic (v := (-1)) dX6_whenOf_6 (by decide) ?_
  refine RR.s2 (pc' := 8) (lv' := [(0, .ref 0), (1, .int x1), (2, .int 0), (3, .int (-1))]) (st' := []) dX6_whenOf_7 rfl ?_
  refine RR.ic (v := 0) dX6_whenOf_8 (by decide) ?_
  refine RR.s2 (pc' := 11) (lv' := [(0, .ref 0), (1, .int x1), (2, .int 0), (3, .int (-1)), (4, .int 0)]) (st' := []) dX6_whenOf_9 rfl ?_
  exact RR.cut [0, 1, 2, 3, 4] rfl H
set_option maxRecDepth 20000 in
theorem b_X6_whenOf_11 {σ : r_St} {K : Int32 → r_St → Prop} {x1 : Int32} {x2 : Int32} {x3 : Int32} {x4 : Int32}  (H : (40 ≤ x4 → ((¬ x1 = (-1) → K x3 σ) ∧ (x1 = (-1) → K x2 σ))) ∧ (¬ (40 ≤ x4) → (M_X6_isWhen σ (fun v2 s1 => (v2 = 0 → R_X6_whenOf_42 s1 K x1 x2 x4 v2 x3) ∧ (¬ (v2 = 0) → ((¬ x2 = x1 → R_X6_whenOf_42 s1 K x1 x2 x4 v2 x3) ∧ (x2 = x1 → R_X6_whenOf_42 s1 K x1 x2 x4 v2 x4)))) x4))) : R_X6_whenOf_11 σ K x1 x2 x3 x4 := by
  show RR 1 5 mX6_whenOf 11 [(0, .ref 0), (1, .int x1), (2, .int x2), (3, .int x3), (4, .int x4)] [] σ (rI K)
  refine RR.s2 (pc' := 13) (lv' := [(0, .ref 0), (1, .int x1), (2, .int x2), (3, .int x3), (4, .int x4)]) (st' := [.int x4]) dX6_whenOf_11 rfl ?_
  refine RR.bp (v := 40) dX6_whenOf_13 (by decide) ?_
  refine RR.br dX6_whenOf_15 rfl (fun c => ?_) (fun c => ?_)
  · have H := H.1 c
    refine RR.s2 (pc' := 63) (lv' := [(0, .ref 0), (1, .int x1), (2, .int x2), (3, .int x3), (4, .int x4)]) (st' := [.int x1]) dX6_whenOf_62 rfl ?_
    refine RR.ic (v := (-1)) dX6_whenOf_63 (by decide) ?_
    refine RR.br dX6_whenOf_64 rfl (fun c => ?_) (fun c => ?_)
    · have H := H.1 c
      refine RR.s2 (pc' := 72) (lv' := [(0, .ref 0), (1, .int x1), (2, .int x2), (3, .int x3), (4, .int x4)]) (st' := [.int x3]) dX6_whenOf_71 rfl ?_
      exact RR.iret dX6_whenOf_72 rfl ⟨_, rfl, H⟩
    · have H := H.2 (Classical.not_not.mp c)
      refine RR.s2 (pc' := 68) (lv' := [(0, .ref 0), (1, .int x1), (2, .int x2), (3, .int x3), (4, .int x4)]) (st' := [.int x2]) dX6_whenOf_67 rfl ?_
      refine RR.s2 (pc' := 72) (lv' := [(0, .ref 0), (1, .int x1), (2, .int x2), (3, .int x3), (4, .int x4)]) (st' := [.int x2]) dX6_whenOf_68 rfl ?_
      exact RR.iret dX6_whenOf_72 rfl ⟨_, rfl, H⟩
  · have H := H.2 c
    refine RR.s2 (pc' := 19) (lv' := [(0, .ref 0), (1, .int x1), (2, .int x2), (3, .int x3), (4, .int x4)]) (st' := [.ref 0]) dX6_whenOf_18 rfl ?_
    refine RR.s2 (pc' := 21) (lv' := [(0, .ref 0), (1, .int x1), (2, .int x2), (3, .int x3), (4, .int x4)]) (st' := [.int x4, .ref 0]) dX6_whenOf_19 rfl ?_
    refine RR.cV dX6_whenOf_21 ml_X6_269 rfl rfl (as := [.int x4]) (rest := []) rfl rfl (Nat.le_of_ble_eq_true rfl) (Nat.le_of_ble_eq_true rfl) (by decide) (RR.toI H (fun v2 s1 H => ?_))
    show RR 1 5 mX6_whenOf 24 [(0, .ref 0), (1, .int x1), (2, .int x2), (3, .int x3), (4, .int x4)] [.int v2] s1 _
    refine RR.s2 (pc' := 26) (lv' := [(0, .ref 0), (1, .int x1), (2, .int x2), (3, .int x3), (4, .int x4), (5, .int v2)]) (st' := []) dX6_whenOf_24 rfl ?_
    refine RR.s2 (pc' := 28) (lv' := [(0, .ref 0), (1, .int x1), (2, .int x2), (3, .int x3), (4, .int x4), (5, .int v2)]) (st' := [.int v2]) dX6_whenOf_26 rfl ?_
    refine RR.br dX6_whenOf_28 rfl (fun c => ?_) (fun c => ?_)
    · have H := H.1 c
      refine RR.s2 (pc' := 42) (lv' := [(0, .ref 0), (1, .int x1), (2, .int x2), (3, .int x3), (4, .int x4), (5, .int v2)]) (st' := [.int x3]) dX6_whenOf_41 rfl ?_
      exact RR.cut [0, 1, 2, 4, 5] rfl H
    · have H := H.2 c
      refine RR.s2 (pc' := 32) (lv' := [(0, .ref 0), (1, .int x1), (2, .int x2), (3, .int x3), (4, .int x4), (5, .int v2)]) (st' := [.int x2]) dX6_whenOf_31 rfl ?_
      refine RR.s2 (pc' := 33) (lv' := [(0, .ref 0), (1, .int x1), (2, .int x2), (3, .int x3), (4, .int x4), (5, .int v2)]) (st' := [.int x1, .int x2]) dX6_whenOf_32 rfl ?_
      refine RR.br dX6_whenOf_33 rfl (fun c => ?_) (fun c => ?_)
      · have H := H.1 c
        refine RR.s2 (pc' := 42) (lv' := [(0, .ref 0), (1, .int x1), (2, .int x2), (3, .int x3), (4, .int x4), (5, .int v2)]) (st' := [.int x3]) dX6_whenOf_41 rfl ?_
        exact RR.cut [0, 1, 2, 4, 5] rfl H
      · have H := H.2 (Classical.not_not.mp c)
        refine RR.s2 (pc' := 38) (lv' := [(0, .ref 0), (1, .int x1), (2, .int x2), (3, .int x3), (4, .int x4), (5, .int v2)]) (st' := [.int x4]) dX6_whenOf_36 rfl ?_
        refine RR.s2 (pc' := 42) (lv' := [(0, .ref 0), (1, .int x1), (2, .int x2), (3, .int x3), (4, .int x4), (5, .int v2)]) (st' := [.int x4]) dX6_whenOf_38 rfl ?_
        exact RR.cut [0, 1, 2, 4, 5] rfl H
set_option maxRecDepth 20000 in
theorem b_X6_whenOf_42 {σ : r_St} {K : Int32 → r_St → Prop} {x1 : Int32} {x2 : Int32} {x4 : Int32} {x5 : Int32} {t0 : Int32}  (H : (x5 = 0 → R_X6_whenOf_11 σ K x1 (x2 + 0) t0 (x4 + 1)) ∧ (¬ (x5 = 0) → R_X6_whenOf_11 σ K x1 (x2 + 1) t0 (x4 + 1))) : R_X6_whenOf_42 σ K x1 x2 x4 x5 t0 := by
  show RR 1 5 mX6_whenOf 42 [(0, .ref 0), (1, .int x1), (2, .int x2), (4, .int x4), (5, .int x5)] [.int t0] σ (rI K)
  refine RR.s2 (pc' := 43) (lv' := [(0, .ref 0), (1, .int x1), (2, .int x2), (3, .int t0), (4, .int x4), (5, .int x5)]) (st' := []) dX6_whenOf_42 rfl ?_
  refine RR.s2 (pc' := 44) (lv' := [(0, .ref 0), (1, .int x1), (2, .int x2), (3, .int t0), (4, .int x4), (5, .int x5)]) (st' := [.int x2]) dX6_whenOf_43 rfl ?_
  refine RR.s2 (pc' := 46) (lv' := [(0, .ref 0), (1, .int x1), (2, .int x2), (3, .int t0), (4, .int x4), (5, .int x5)]) (st' := [.int x5, .int x2]) dX6_whenOf_44 rfl ?_
  refine RR.br dX6_whenOf_46 rfl (fun c => ?_) (fun c => ?_)
  · have H := H.1 c
    refine RR.ic (v := 0) dX6_whenOf_53 (by decide) ?_
    refine RR.s2 (pc' := 55) (lv' := [(0, .ref 0), (1, .int x1), (2, .int x2), (3, .int t0), (4, .int x4), (5, .int x5)]) (st' := [.int (x2 + 0)]) dX6_whenOf_54 rfl ?_
    refine RR.s2 (pc' := 56) (lv' := [(0, .ref 0), (1, .int x1), (2, .int (x2 + 0)), (3, .int t0), (4, .int x4), (5, .int x5)]) (st' := []) dX6_whenOf_55 rfl ?_
    refine RR.inc (c := 1) (lv' := [(0, .ref 0), (1, .int x1), (2, .int (x2 + 0)), (3, .int t0), (4, .int (x4 + 1)), (5, .int x5)]) dX6_whenOf_56 rfl (by decide) (by decide) rfl ?_
    refine RR.s2 (pc' := 11) (lv' := [(0, .ref 0), (1, .int x1), (2, .int (x2 + 0)), (3, .int t0), (4, .int (x4 + 1)), (5, .int x5)]) (st' := []) dX6_whenOf_59 rfl ?_
    exact RR.cut [0, 1, 2, 3, 4] rfl H
  · have H := H.2 c
    refine RR.ic (v := 1) dX6_whenOf_49 (by decide) ?_
    refine RR.s2 (pc' := 54) (lv' := [(0, .ref 0), (1, .int x1), (2, .int x2), (3, .int t0), (4, .int x4), (5, .int x5)]) (st' := [.int 1, .int x2]) dX6_whenOf_50 rfl ?_
    refine RR.s2 (pc' := 55) (lv' := [(0, .ref 0), (1, .int x1), (2, .int x2), (3, .int t0), (4, .int x4), (5, .int x5)]) (st' := [.int (x2 + 1)]) dX6_whenOf_54 rfl ?_
    refine RR.s2 (pc' := 56) (lv' := [(0, .ref 0), (1, .int x1), (2, .int (x2 + 1)), (3, .int t0), (4, .int x4), (5, .int x5)]) (st' := []) dX6_whenOf_55 rfl ?_
    refine RR.inc (c := 1) (lv' := [(0, .ref 0), (1, .int x1), (2, .int (x2 + 1)), (3, .int t0), (4, .int (x4 + 1)), (5, .int x5)]) dX6_whenOf_56 rfl (by decide) (by decide) rfl ?_
    refine RR.s2 (pc' := 11) (lv' := [(0, .ref 0), (1, .int x1), (2, .int (x2 + 1)), (3, .int t0), (4, .int (x4 + 1)), (5, .int x5)]) (st' := []) dX6_whenOf_59 rfl ?_
    exact RR.cut [0, 1, 2, 3, 4] rfl H
set_option maxRecDepth 20000 in
theorem b_X6_when {σ : r_St} {K : Int32 → r_St → Prop} {x1 : Int32}  (H : (IN x1 (-1) 39 → M_X6_whenOf σ (fun v2 s1 => K v2 s1) x1) ∧ (¬ IN x1 (-1) 39 → K (-2) σ)) : M_X6_when σ K x1 := by
  show RR 1 6 mX6_when 0 [(0, .ref 0), (1, .int x1)] [] σ (rI K)
  refine RR.s2 (pc' := 1) (lv' := [(0, .ref 0), (1, .int x1)]) (st' := [.int x1]) dX6_when_0 rfl ?_
  refine RR.ic (v := (-1)) dX6_when_1 (by decide) ?_
  refine RR.bp (v := 39) dX6_when_2 (by decide) ?_
  refine RR.cS dX6_when_4 ml_X6_106 (as := [.int x1, .int (-1), .int 39]) (rest := []) rfl rfl (Nat.le_of_ble_eq_true rfl) (Nat.le_of_ble_eq_true rfl) (by decide) (kb_X6_in (fun c => ?_) (fun c => ?_))
  · have H := H.1 c
    show RR 1 6 mX6_when 7 [(0, .ref 0), (1, .int x1)] [.int 1] σ _
    refine RR.brF dX6_when_7 rfl (by decide) ?_
    refine RR.s2 (pc' := 11) (lv' := [(0, .ref 0), (1, .int x1)]) (st' := [.ref 0]) dX6_when_10 rfl ?_
    refine RR.s2 (pc' := 12) (lv' := [(0, .ref 0), (1, .int x1)]) (st' := [.int x1, .ref 0]) dX6_when_11 rfl ?_
    refine RR.cV dX6_when_12 ml_X6_272 rfl rfl (as := [.int x1]) (rest := []) rfl rfl (Nat.le_of_ble_eq_true rfl) (Nat.le_of_ble_eq_true rfl) (by decide) (RR.toI H (fun v2 s1 H => ?_))
    show RR 1 6 mX6_when 15 [(0, .ref 0), (1, .int x1)] [.int v2] s1 _
    refine RR.s2 (pc' := 20) (lv' := [(0, .ref 0), (1, .int x1)]) (st' := [.int v2]) dX6_when_15 rfl ?_
    exact RR.iret dX6_when_20 rfl ⟨_, rfl, H⟩
  · have H := H.2 c
    show RR 1 6 mX6_when 7 [(0, .ref 0), (1, .int x1)] [.int 0] σ _
    refine RR.brT dX6_when_7 rfl (by decide) ?_
    refine RR.bp (v := (-2)) dX6_when_18 (by decide) ?_
    exact RR.iret dX6_when_20 rfl ⟨_, rfl, H⟩
set_option maxRecDepth 20000 in
theorem b_X6_askNow {σ : r_St} {K : Int32 → r_St → Prop}  (H : M_X6_laysTold σ (fun s1 => R_X6_askNow_10 s1 K (-1) 0 0)) : M_X6_askNow σ K := by
  show RR 1 5 mX6_askNow 0 [(0, .ref 0)] [] σ (rI K)
  refine RR.s2 (pc' := 1) (lv' := [(0, .ref 0)]) (st' := [.ref 0]) dX6_askNow_0 rfl ?_
  refine RR.cV dX6_askNow_1 ml_X6_194 rfl rfl (as := []) (rest := []) rfl rfl (Nat.le_of_ble_eq_true rfl) (Nat.le_of_ble_eq_true rfl) (by decide) (RR.toV H (fun s1 H => ?_))
  show RR 1 5 mX6_askNow 4 [(0, .ref 0)] [] s1 _
  refine RR.ic (v := (-1)) dX6_askNow_4 (by decide) ?_
  refine RR.s2 (pc' := 6) (lv' := [(0, .ref 0), (1, .int (-1))]) (st' := []) dX6_askNow_5 rfl ?_
  refine RR.ic (v := 0) dX6_askNow_6 (by decide) ?_
  refine RR.s2 (pc' := 8) (lv' := [(0, .ref 0), (1, .int (-1)), (2, .int 0)]) (st' := []) dX6_askNow_7 rfl ?_
  refine RR.ic (v := 0) dX6_askNow_8 (by decide) ?_
  refine RR.s2 (pc' := 10) (lv' := [(0, .ref 0), (1, .int (-1)), (2, .int 0), (3, .int 0)]) (st' := []) dX6_askNow_9 rfl ?_
  exact RR.cut [0, 1, 2, 3] rfl H
set_option maxRecDepth 20000 in
theorem b_X6_askNow_10 {σ : r_St} {K : Int32 → r_St → Prop} {x1 : Int32} {x2 : Int32} {x3 : Int32}  (H : (σ.1 0 2 ≤ x3 → K x1 σ) ∧ (¬ (σ.1 0 2 ≤ x3) → R_X6_askNow_27 σ K x1 x2 x3 0 0 0)) : R_X6_askNow_10 σ K x1 x2 x3 := by
  show RR 1 5 mX6_askNow 10 [(0, .ref 0), (1, .int x1), (2, .int x2), (3, .int x3)] [] σ (rI K)
  refine RR.s2 (pc' := 11) (lv' := [(0, .ref 0), (1, .int x1), (2, .int x2), (3, .int x3)]) (st' := [.int x3]) dX6_askNow_10 rfl ?_
  refine RR.s2 (pc' := 12) (lv' := [(0, .ref 0), (1, .int x1), (2, .int x2), (3, .int x3)]) (st' := [.ref 0, .int x3]) dX6_askNow_11 rfl ?_
  refine RR.getI dX6_askNow_12 fl_X6_114 rfl rfl ?_
  refine RR.br dX6_askNow_15 rfl (fun c => ?_) (fun c => ?_)
  · have H := H.1 c
    refine RR.s2 (pc' := 170) (lv' := [(0, .ref 0), (1, .int x1), (2, .int x2), (3, .int x3)]) (st' := [.int x1]) dX6_askNow_169 rfl ?_
    exact RR.iret dX6_askNow_170 rfl ⟨_, rfl, H⟩
  · have H := H.2 c
    refine RR.ic (v := 0) dX6_askNow_18 (by decide) ?_
    refine RR.s2 (pc' := 21) (lv' := [(0, .ref 0), (1, .int x1), (2, .int x2), (3, .int x3), (4, .int 0)]) (st' := []) dX6_askNow_19 rfl ?_
    refine RR.ic (v := 0) dX6_askNow_21 (by decide) ?_
    refine RR.s2 (pc' := 24) (lv' := [(0, .ref 0), (1, .int x1), (2, .int x2), (3, .int x3), (4, .int 0), (5, .int 0)]) (st' := []) dX6_askNow_22 rfl ?_
    refine RR.ic (v := 0) dX6_askNow_24 (by decide) ?_
    refine RR.s2 (pc' := 27) (lv' := [(0, .ref 0), (1, .int x1), (2, .int x2), (3, .int x3), (4, .int 0), (5, .int 0), (6, .int 0)]) (st' := []) dX6_askNow_25 rfl ?_
    exact RR.cut [0, 1, 2, 3, 4, 5, 6] rfl H
set_option maxRecDepth 20000 in
theorem b_X6_askNow_27 {σ : r_St} {K : Int32 → r_St → Prop} {x1 : Int32} {x2 : Int32} {x3 : Int32} {x4 : Int32} {x5 : Int32} {x6 : Int32}  (H : (40 ≤ x6 → ((x4 ≤ x5 → R_X6_askNow_120 σ K x1 x2 x3 x5) ∧ (¬ (x4 ≤ x5) → R_X6_askNow_120 σ K x1 x2 x3 x4))) ∧ (¬ (40 ≤ x6) → (M_X6_isWhen σ (fun v2 s1 => (v2 = 0 → R_X6_askNow_64 s1 K x1 x2 x3 x5 x6 0 x4) ∧ (¬ (v2 = 0) → (∃ j3 : Nat, x6 = nI j3 ∧ j3 < 40 ∧ ((¬ (sr (s1.1 16 j3) x3) &&& 1 = 1 → R_X6_askNow_64 s1 K x1 x2 x3 x5 x6 0 x4) ∧ ((sr (s1.1 16 j3) x3) &&& 1 = 1 → R_X6_askNow_64 s1 K x1 x2 x3 x5 x6 1 x4))))) x6))) : R_X6_askNow_27 σ K x1 x2 x3 x4 x5 x6 := by
  show RR 1 5 mX6_askNow 27 [(0, .ref 0), (1, .int x1), (2, .int x2), (3, .int x3), (4, .int x4), (5, .int x5), (6, .int x6)] [] σ (rI K)
  refine RR.s2 (pc' := 29) (lv' := [(0, .ref 0), (1, .int x1), (2, .int x2), (3, .int x3), (4, .int x4), (5, .int x5), (6, .int x6)]) (st' := [.int x6]) dX6_askNow_27 rfl ?_
  refine RR.bp (v := 40) dX6_askNow_29 (by decide) ?_
  refine RR.br dX6_askNow_31 rfl (fun c => ?_) (fun c => ?_)
  · have H := H.1 c
    refine RR.s2 (pc' := 108) (lv' := [(0, .ref 0), (1, .int x1), (2, .int x2), (3, .int x3), (4, .int x4), (5, .int x5), (6, .int x6)]) (st' := [.int x4]) dX6_askNow_106 rfl ?_
    refine RR.s2 (pc' := 110) (lv' := [(0, .ref 0), (1, .int x1), (2, .int x2), (3, .int x3), (4, .int x4), (5, .int x5), (6, .int x6)]) (st' := [.int x5, .int x4]) dX6_askNow_108 rfl ?_
    refine RR.br dX6_askNow_110 rfl (fun c => ?_) (fun c => ?_)
    · have H := H.1 c
      refine RR.s2 (pc' := 120) (lv' := [(0, .ref 0), (1, .int x1), (2, .int x2), (3, .int x3), (4, .int x4), (5, .int x5), (6, .int x6)]) (st' := [.int x5]) dX6_askNow_118 rfl ?_
      exact RR.cut [0, 1, 2, 3] rfl H
    · have H := H.2 c
      refine RR.s2 (pc' := 115) (lv' := [(0, .ref 0), (1, .int x1), (2, .int x2), (3, .int x3), (4, .int x4), (5, .int x5), (6, .int x6)]) (st' := [.int x4]) dX6_askNow_113 rfl ?_
      refine RR.s2 (pc' := 120) (lv' := [(0, .ref 0), (1, .int x1), (2, .int x2), (3, .int x3), (4, .int x4), (5, .int x5), (6, .int x6)]) (st' := [.int x4]) dX6_askNow_115 rfl ?_
      exact RR.cut [0, 1, 2, 3] rfl H
  · have H := H.2 c
    refine RR.s2 (pc' := 36) (lv' := [(0, .ref 0), (1, .int x1), (2, .int x2), (3, .int x3), (4, .int x4), (5, .int x5), (6, .int x6)]) (st' := [.int x4]) dX6_askNow_34 rfl ?_
    refine RR.s2 (pc' := 37) (lv' := [(0, .ref 0), (1, .int x1), (2, .int x2), (3, .int x3), (4, .int x4), (5, .int x5), (6, .int x6)]) (st' := [.ref 0, .int x4]) dX6_askNow_36 rfl ?_
    refine RR.s2 (pc' := 39) (lv' := [(0, .ref 0), (1, .int x1), (2, .int x2), (3, .int x3), (4, .int x4), (5, .int x5), (6, .int x6)]) (st' := [.int x6, .ref 0, .int x4]) dX6_askNow_37 rfl ?_
    refine RR.cV dX6_askNow_39 ml_X6_269 rfl rfl (as := [.int x6]) (rest := [.int x4]) rfl rfl (Nat.le_of_ble_eq_true rfl) (Nat.le_of_ble_eq_true rfl) (by decide) (RR.toI H (fun v2 s1 H => ?_))
    show RR 1 5 mX6_askNow 42 [(0, .ref 0), (1, .int x1), (2, .int x2), (3, .int x3), (4, .int x4), (5, .int x5), (6, .int x6)] [.int v2, .int x4] s1 _
    refine RR.br dX6_askNow_42 rfl (fun c => ?_) (fun c => ?_)
    · have H := H.1 c
      refine RR.ic (v := 0) dX6_askNow_63 (by decide) ?_
      exact RR.cut [0, 1, 2, 3, 5, 6] rfl H
    · have H := H.2 c
      refine RR.s2 (pc' := 46) (lv' := [(0, .ref 0), (1, .int x1), (2, .int x2), (3, .int x3), (4, .int x4), (5, .int x5), (6, .int x6)]) (st' := [.ref 0, .int x4]) dX6_askNow_45 rfl ?_
      refine RR.getR dX6_askNow_46 fl_X6_55 rfl rfl ?_
      refine RR.s2 (pc' := 51) (lv' := [(0, .ref 0), (1, .int x1), (2, .int x2), (3, .int x3), (4, .int x4), (5, .int x5), (6, .int x6)]) (st' := [.int x6, .ref 16, .int x4]) dX6_askNow_49 rfl ?_
      obtain ⟨j3, e4, b5, H⟩ := H
      refine RR.iald dX6_askNow_51 rfl e4 b5 ?_
      refine RR.s2 (pc' := 53) (lv' := [(0, .ref 0), (1, .int x1), (2, .int x2), (3, .int x3), (4, .int x4), (5, .int x5), (6, .int x6)]) (st' := [.int x3, .int (s1.1 16 j3), .int x4]) dX6_askNow_52 rfl ?_
      refine RR.cS (d' := 1) dX6_askNow_53 ml_X6_127 (as := [.int (s1.1 16 j3), .int x3]) (rest := [.int x4]) rfl rfl (Nat.le_of_ble_eq_true rfl) (Nat.le_of_ble_eq_true rfl) (by decide) ?_
      show RR 1 1 mX6_isIn 0 [(0, .int (s1.1 16 j3)), (1, .int x3)] [] s1 _
      refine RR.s2 (pc' := 1) (lv' := [(0, .int (s1.1 16 j3)), (1, .int x3)]) (st' := [.int (s1.1 16 j3)]) dX6_isIn_0 rfl ?_
      refine RR.s2 (pc' := 2) (lv' := [(0, .int (s1.1 16 j3)), (1, .int x3)]) (st' := [.int x3, .int (s1.1 16 j3)]) dX6_isIn_1 rfl ?_
      refine RR.s2 (pc' := 3) (lv' := [(0, .int (s1.1 16 j3)), (1, .int x3)]) (st' := [.int (sr (s1.1 16 j3) x3)]) dX6_isIn_2 rfl ?_
      refine RR.ic (v := 1) dX6_isIn_3 (by decide) ?_
      refine RR.s2 (pc' := 5) (lv' := [(0, .int (s1.1 16 j3)), (1, .int x3)]) (st' := [.int ((sr (s1.1 16 j3) x3) &&& 1)]) dX6_isIn_4 rfl ?_
      refine RR.ic (v := 1) dX6_isIn_5 (by decide) ?_
      refine RR.br dX6_isIn_6 rfl (fun c => ?_) (fun c => ?_)
      · have H := H.1 c
        refine RR.ic (v := 0) dX6_isIn_13 (by decide) ?_
        refine RR.zret dX6_isIn_14 rfl (by decide) ?_
        show RR 1 5 mX6_askNow 56 [(0, .ref 0), (1, .int x1), (2, .int x2), (3, .int x3), (4, .int x4), (5, .int x5), (6, .int x6)] [.int 0, .int x4] s1 _
        refine RR.brT dX6_askNow_56 rfl (by decide) ?_
        refine RR.ic (v := 0) dX6_askNow_63 (by decide) ?_
        exact RR.cut [0, 1, 2, 3, 5, 6] rfl H
      · have H := H.2 (Classical.not_not.mp c)
        refine RR.ic (v := 1) dX6_isIn_9 (by decide) ?_
        refine RR.s2 (pc' := 14) (lv' := [(0, .int (s1.1 16 j3)), (1, .int x3)]) (st' := [.int 1]) dX6_isIn_10 rfl ?_
        refine RR.zret dX6_isIn_14 rfl (by decide) ?_
        show RR 1 5 mX6_askNow 56 [(0, .ref 0), (1, .int x1), (2, .int x2), (3, .int x3), (4, .int x4), (5, .int x5), (6, .int x6)] [.int 1, .int x4] s1 _
        refine RR.brF dX6_askNow_56 rfl (by decide) ?_
        refine RR.ic (v := 1) dX6_askNow_59 (by decide) ?_
        refine RR.s2 (pc' := 64) (lv' := [(0, .ref 0), (1, .int x1), (2, .int x2), (3, .int x3), (4, .int x4), (5, .int x5), (6, .int x6)]) (st' := [.int 1, .int x4]) dX6_askNow_60 rfl ?_
        exact RR.cut [0, 1, 2, 3, 5, 6] rfl H
set_option maxRecDepth 20000 in
theorem b_X6_askNow_120 {σ : r_St} {K : Int32 → r_St → Prop} {x1 : Int32} {x2 : Int32} {x3 : Int32} {t0 : Int32}  (H : (x1 = (-1) → R_X6_askNow_138 σ K x1 x2 x3 t0 1) ∧ (¬ (x1 = (-1)) → ((x2 ≤ t0 → R_X6_askNow_138 σ K x1 x2 x3 t0 0) ∧ (¬ (x2 ≤ t0) → R_X6_askNow_138 σ K x1 x2 x3 t0 1)))) : R_X6_askNow_120 σ K x1 x2 x3 t0 := by
  show RR 1 5 mX6_askNow 120 [(0, .ref 0), (1, .int x1), (2, .int x2), (3, .int x3)] [.int t0] σ (rI K)
  refine RR.s2 (pc' := 122) (lv' := [(0, .ref 0), (1, .int x1), (2, .int x2), (3, .int x3), (6, .int t0)]) (st' := []) dX6_askNow_120 rfl ?_
  refine RR.s2 (pc' := 123) (lv' := [(0, .ref 0), (1, .int x1), (2, .int x2), (3, .int x3), (6, .int t0)]) (st' := [.int x1]) dX6_askNow_122 rfl ?_
  refine RR.ic (v := (-1)) dX6_askNow_123 (by decide) ?_
  refine RR.br dX6_askNow_124 rfl (fun c => ?_) (fun c => ?_)
  · have H := H.1 c
    refine RR.ic (v := 1) dX6_askNow_133 (by decide) ?_
    refine RR.s2 (pc' := 138) (lv' := [(0, .ref 0), (1, .int x1), (2, .int x2), (3, .int x3), (6, .int t0)]) (st' := [.int 1]) dX6_askNow_134 rfl ?_
    exact RR.cut [0, 1, 2, 3, 4] rfl H
  · have H := H.2 c
    refine RR.s2 (pc' := 129) (lv' := [(0, .ref 0), (1, .int x1), (2, .int x2), (3, .int x3), (6, .int t0)]) (st' := [.int t0]) dX6_askNow_127 rfl ?_
    refine RR.s2 (pc' := 130) (lv' := [(0, .ref 0), (1, .int x1), (2, .int x2), (3, .int x3), (6, .int t0)]) (st' := [.int x2, .int t0]) dX6_askNow_129 rfl ?_
    refine RR.br dX6_askNow_130 rfl (fun c => ?_) (fun c => ?_)
    · have H := H.1 c
      refine RR.ic (v := 0) dX6_askNow_137 (by decide) ?_
      exact RR.cut [0, 1, 2, 3, 4] rfl H
    · have H := H.2 c
      refine RR.ic (v := 1) dX6_askNow_133 (by decide) ?_
      refine RR.s2 (pc' := 138) (lv' := [(0, .ref 0), (1, .int x1), (2, .int x2), (3, .int x3), (6, .int t0)]) (st' := [.int 1]) dX6_askNow_134 rfl ?_
      exact RR.cut [0, 1, 2, 3, 4] rfl H
set_option maxRecDepth 20000 in
theorem b_X6_askNow_64 {σ : r_St} {K : Int32 → r_St → Prop} {x1 : Int32} {x2 : Int32} {x3 : Int32} {x5 : Int32} {x6 : Int32} {t0 : Int32} {t1 : Int32}  (H : M_X6_isWhen σ (fun v2 s1 => (v2 = 0 → R_X6_askNow_27 s1 K x1 x2 x3 (t1 + t0) (x5 + 0) (x6 + 1)) ∧ (¬ (v2 = 0) → (∃ j3 : Nat, x6 = nI j3 ∧ j3 < 40 ∧ ((¬ (sr (s1.1 16 j3) x3) &&& 1 = 1 → R_X6_askNow_27 s1 K x1 x2 x3 (t1 + t0) (x5 + 1) (x6 + 1)) ∧ ((sr (s1.1 16 j3) x3) &&& 1 = 1 → R_X6_askNow_27 s1 K x1 x2 x3 (t1 + t0) (x5 + 0) (x6 + 1)))))) x6) : R_X6_askNow_64 σ K x1 x2 x3 x5 x6 t0 t1 := by
  show RR 1 5 mX6_askNow 64 [(0, .ref 0), (1, .int x1), (2, .int x2), (3, .int x3), (5, .int x5), (6, .int x6)] [.int t0, .int t1] σ (rI K)
  refine RR.s2 (pc' := 65) (lv' := [(0, .ref 0), (1, .int x1), (2, .int x2), (3, .int x3), (5, .int x5), (6, .int x6)]) (st' := [.int (t1 + t0)]) dX6_askNow_64 rfl ?_
  refine RR.s2 (pc' := 67) (lv' := [(0, .ref 0), (1, .int x1), (2, .int x2), (3, .int x3), (4, .int (t1 + t0)), (5, .int x5), (6, .int x6)]) (st' := []) dX6_askNow_65 rfl ?_
  refine RR.s2 (pc' := 69) (lv' := [(0, .ref 0), (1, .int x1), (2, .int x2), (3, .int x3), (4, .int (t1 + t0)), (5, .int x5), (6, .int x6)]) (st' := [.int x5]) dX6_askNow_67 rfl ?_
  refine RR.s2 (pc' := 70) (lv' := [(0, .ref 0), (1, .int x1), (2, .int x2), (3, .int x3), (4, .int (t1 + t0)), (5, .int x5), (6, .int x6)]) (st' := [.ref 0, .int x5]) dX6_askNow_69 rfl ?_
  refine RR.s2 (pc' := 72) (lv' := [(0, .ref 0), (1, .int x1), (2, .int x2), (3, .int x3), (4, .int (t1 + t0)), (5, .int x5), (6, .int x6)]) (st' := [.int x6, .ref 0, .int x5]) dX6_askNow_70 rfl ?_
  refine RR.cV dX6_askNow_72 ml_X6_269 rfl rfl (as := [.int x6]) (rest := [.int x5]) rfl rfl (Nat.le_of_ble_eq_true rfl) (Nat.le_of_ble_eq_true rfl) (by decide) (RR.toI H (fun v2 s1 H => ?_))
  show RR 1 5 mX6_askNow 75 [(0, .ref 0), (1, .int x1), (2, .int x2), (3, .int x3), (4, .int (t1 + t0)), (5, .int x5), (6, .int x6)] [.int v2, .int x5] s1 _
  refine RR.br dX6_askNow_75 rfl (fun c => ?_) (fun c => ?_)
  · have H := H.1 c
    refine RR.ic (v := 0) dX6_askNow_96 (by decide) ?_
    refine RR.s2 (pc' := 98) (lv' := [(0, .ref 0), (1, .int x1), (2, .int x2), (3, .int x3), (4, .int (t1 + t0)), (5, .int x5), (6, .int x6)]) (st' := [.int (x5 + 0)]) dX6_askNow_97 rfl ?_
    refine RR.s2 (pc' := 100) (lv' := [(0, .ref 0), (1, .int x1), (2, .int x2), (3, .int x3), (4, .int (t1 + t0)), (5, .int (x5 + 0)), (6, .int x6)]) (st' := []) dX6_askNow_98 rfl ?_
    refine RR.inc (c := 1) (lv' := [(0, .ref 0), (1, .int x1), (2, .int x2), (3, .int x3), (4, .int (t1 + t0)), (5, .int (x5 + 0)), (6, .int (x6 + 1))]) dX6_askNow_100 rfl (by decide) (by decide) rfl ?_
    refine RR.s2 (pc' := 27) (lv' := [(0, .ref 0), (1, .int x1), (2, .int x2), (3, .int x3), (4, .int (t1 + t0)), (5, .int (x5 + 0)), (6, .int (x6 + 1))]) (st' := []) dX6_askNow_103 rfl ?_
    exact RR.cut [0, 1, 2, 3, 4, 5, 6] rfl H
  · have H := H.2 c
    refine RR.s2 (pc' := 79) (lv' := [(0, .ref 0), (1, .int x1), (2, .int x2), (3, .int x3), (4, .int (t1 + t0)), (5, .int x5), (6, .int x6)]) (st' := [.ref 0, .int x5]) dX6_askNow_78 rfl ?_
    refine RR.getR dX6_askNow_79 fl_X6_55 rfl rfl ?_
    refine RR.s2 (pc' := 84) (lv' := [(0, .ref 0), (1, .int x1), (2, .int x2), (3, .int x3), (4, .int (t1 + t0)), (5, .int x5), (6, .int x6)]) (st' := [.int x6, .ref 16, .int x5]) dX6_askNow_82 rfl ?_
    obtain ⟨j3, e4, b5, H⟩ := H
    refine RR.iald dX6_askNow_84 rfl e4 b5 ?_
    refine RR.s2 (pc' := 86) (lv' := [(0, .ref 0), (1, .int x1), (2, .int x2), (3, .int x3), (4, .int (t1 + t0)), (5, .int x5), (6, .int x6)]) (st' := [.int x3, .int (s1.1 16 j3), .int x5]) dX6_askNow_85 rfl ?_
    refine RR.cS (d' := 1) dX6_askNow_86 ml_X6_127 (as := [.int (s1.1 16 j3), .int x3]) (rest := [.int x5]) rfl rfl (Nat.le_of_ble_eq_true rfl) (Nat.le_of_ble_eq_true rfl) (by decide) ?_
    show RR 1 1 mX6_isIn 0 [(0, .int (s1.1 16 j3)), (1, .int x3)] [] s1 _
    refine RR.s2 (pc' := 1) (lv' := [(0, .int (s1.1 16 j3)), (1, .int x3)]) (st' := [.int (s1.1 16 j3)]) dX6_isIn_0 rfl ?_
    refine RR.s2 (pc' := 2) (lv' := [(0, .int (s1.1 16 j3)), (1, .int x3)]) (st' := [.int x3, .int (s1.1 16 j3)]) dX6_isIn_1 rfl ?_
    refine RR.s2 (pc' := 3) (lv' := [(0, .int (s1.1 16 j3)), (1, .int x3)]) (st' := [.int (sr (s1.1 16 j3) x3)]) dX6_isIn_2 rfl ?_
    refine RR.ic (v := 1) dX6_isIn_3 (by decide) ?_
    refine RR.s2 (pc' := 5) (lv' := [(0, .int (s1.1 16 j3)), (1, .int x3)]) (st' := [.int ((sr (s1.1 16 j3) x3) &&& 1)]) dX6_isIn_4 rfl ?_
    refine RR.ic (v := 1) dX6_isIn_5 (by decide) ?_
    refine RR.br dX6_isIn_6 rfl (fun c => ?_) (fun c => ?_)
    · have H := H.1 c
      refine RR.ic (v := 0) dX6_isIn_13 (by decide) ?_
      refine RR.zret dX6_isIn_14 rfl (by decide) ?_
      show RR 1 5 mX6_askNow 89 [(0, .ref 0), (1, .int x1), (2, .int x2), (3, .int x3), (4, .int (t1 + t0)), (5, .int x5), (6, .int x6)] [.int 0, .int x5] s1 _
      refine RR.brF dX6_askNow_89 rfl (by decide) ?_
      refine RR.ic (v := 1) dX6_askNow_92 (by decide) ?_
      refine RR.s2 (pc' := 97) (lv' := [(0, .ref 0), (1, .int x1), (2, .int x2), (3, .int x3), (4, .int (t1 + t0)), (5, .int x5), (6, .int x6)]) (st' := [.int 1, .int x5]) dX6_askNow_93 rfl ?_
      refine RR.s2 (pc' := 98) (lv' := [(0, .ref 0), (1, .int x1), (2, .int x2), (3, .int x3), (4, .int (t1 + t0)), (5, .int x5), (6, .int x6)]) (st' := [.int (x5 + 1)]) dX6_askNow_97 rfl ?_
      refine RR.s2 (pc' := 100) (lv' := [(0, .ref 0), (1, .int x1), (2, .int x2), (3, .int x3), (4, .int (t1 + t0)), (5, .int (x5 + 1)), (6, .int x6)]) (st' := []) dX6_askNow_98 rfl ?_
      refine RR.inc (c := 1) (lv' := [(0, .ref 0), (1, .int x1), (2, .int x2), (3, .int x3), (4, .int (t1 + t0)), (5, .int (x5 + 1)), (6, .int (x6 + 1))]) dX6_askNow_100 rfl (by decide) (by decide) rfl ?_
      refine RR.s2 (pc' := 27) (lv' := [(0, .ref 0), (1, .int x1), (2, .int x2), (3, .int x3), (4, .int (t1 + t0)), (5, .int (x5 + 1)), (6, .int (x6 + 1))]) (st' := []) dX6_askNow_103 rfl ?_
      exact RR.cut [0, 1, 2, 3, 4, 5, 6] rfl H
    · have H := H.2 (Classical.not_not.mp c)
      refine RR.ic (v := 1) dX6_isIn_9 (by decide) ?_
      refine RR.s2 (pc' := 14) (lv' := [(0, .int (s1.1 16 j3)), (1, .int x3)]) (st' := [.int 1]) dX6_isIn_10 rfl ?_
      refine RR.zret dX6_isIn_14 rfl (by decide) ?_
      show RR 1 5 mX6_askNow 89 [(0, .ref 0), (1, .int x1), (2, .int x2), (3, .int x3), (4, .int (t1 + t0)), (5, .int x5), (6, .int x6)] [.int 1, .int x5] s1 _
      refine RR.brT dX6_askNow_89 rfl (by decide) ?_
      refine RR.ic (v := 0) dX6_askNow_96 (by decide) ?_
      refine RR.s2 (pc' := 98) (lv' := [(0, .ref 0), (1, .int x1), (2, .int x2), (3, .int x3), (4, .int (t1 + t0)), (5, .int x5), (6, .int x6)]) (st' := [.int (x5 + 0)]) dX6_askNow_97 rfl ?_
      refine RR.s2 (pc' := 100) (lv' := [(0, .ref 0), (1, .int x1), (2, .int x2), (3, .int x3), (4, .int (t1 + t0)), (5, .int (x5 + 0)), (6, .int x6)]) (st' := []) dX6_askNow_98 rfl ?_
      refine RR.inc (c := 1) (lv' := [(0, .ref 0), (1, .int x1), (2, .int x2), (3, .int x3), (4, .int (t1 + t0)), (5, .int (x5 + 0)), (6, .int (x6 + 1))]) dX6_askNow_100 rfl (by decide) (by decide) rfl ?_
      refine RR.s2 (pc' := 27) (lv' := [(0, .ref 0), (1, .int x1), (2, .int x2), (3, .int x3), (4, .int (t1 + t0)), (5, .int (x5 + 0)), (6, .int (x6 + 1))]) (st' := []) dX6_askNow_103 rfl ?_
      exact RR.cut [0, 1, 2, 3, 4, 5, 6] rfl H
set_option maxRecDepth 20000 in
theorem b_X6_askNow_138 {σ : r_St} {K : Int32 → r_St → Prop} {x1 : Int32} {x2 : Int32} {x3 : Int32} {x6 : Int32} {t0 : Int32}  (H : (t0 = 0 → R_X6_askNow_150 σ K x2 x3 x6 t0 x1) ∧ (¬ (t0 = 0) → R_X6_askNow_150 σ K x2 x3 x6 t0 x3)) : R_X6_askNow_138 σ K x1 x2 x3 x6 t0 := by
  show RR 1 5 mX6_askNow 138 [(0, .ref 0), (1, .int x1), (2, .int x2), (3, .int x3), (6, .int x6)] [.int t0] σ (rI K)
  refine RR.s2 (pc' := 140) (lv' := [(0, .ref 0), (1, .int x1), (2, .int x2), (3, .int x3), (6, .int x6), (7, .int t0)]) (st' := []) dX6_askNow_138 rfl ?_
  refine RR.s2 (pc' := 142) (lv' := [(0, .ref 0), (1, .int x1), (2, .int x2), (3, .int x3), (6, .int x6), (7, .int t0)]) (st' := [.int t0]) dX6_askNow_140 rfl ?_
  refine RR.br dX6_askNow_142 rfl (fun c => ?_) (fun c => ?_)
  · have H := H.1 c
    refine RR.s2 (pc' := 150) (lv' := [(0, .ref 0), (1, .int x1), (2, .int x2), (3, .int x3), (6, .int x6), (7, .int t0)]) (st' := [.int x1]) dX6_askNow_149 rfl ?_
    exact RR.cut [0, 2, 3, 4, 5] rfl H
  · have H := H.2 c
    refine RR.s2 (pc' := 146) (lv' := [(0, .ref 0), (1, .int x1), (2, .int x2), (3, .int x3), (6, .int x6), (7, .int t0)]) (st' := [.int x3]) dX6_askNow_145 rfl ?_
    refine RR.s2 (pc' := 150) (lv' := [(0, .ref 0), (1, .int x1), (2, .int x2), (3, .int x3), (6, .int x6), (7, .int t0)]) (st' := [.int x3]) dX6_askNow_146 rfl ?_
    exact RR.cut [0, 2, 3, 4, 5] rfl H
set_option maxRecDepth 20000 in
theorem b_X6_askNow_150 {σ : r_St} {K : Int32 → r_St → Prop} {x2 : Int32} {x3 : Int32} {x6 : Int32} {x7 : Int32} {t0 : Int32}  (H : (x7 = 0 → R_X6_askNow_10 σ K t0 x2 (x3 + 1)) ∧ (¬ (x7 = 0) → R_X6_askNow_10 σ K t0 x6 (x3 + 1))) : R_X6_askNow_150 σ K x2 x3 x6 x7 t0 := by
  show RR 1 5 mX6_askNow 150 [(0, .ref 0), (2, .int x2), (3, .int x3), (6, .int x6), (7, .int x7)] [.int t0] σ (rI K)
  refine RR.s2 (pc' := 151) (lv' := [(0, .ref 0), (1, .int t0), (2, .int x2), (3, .int x3), (6, .int x6), (7, .int x7)]) (st' := []) dX6_askNow_150 rfl ?_
  refine RR.s2 (pc' := 153) (lv' := [(0, .ref 0), (1, .int t0), (2, .int x2), (3, .int x3), (6, .int x6), (7, .int x7)]) (st' := [.int x7]) dX6_askNow_151 rfl ?_
  refine RR.br dX6_askNow_153 rfl (fun c => ?_) (fun c => ?_)
  · have H := H.1 c
    refine RR.s2 (pc' := 162) (lv' := [(0, .ref 0), (1, .int t0), (2, .int x2), (3, .int x3), (6, .int x6), (7, .int x7)]) (st' := [.int x2]) dX6_askNow_161 rfl ?_
    refine RR.s2 (pc' := 163) (lv' := [(0, .ref 0), (1, .int t0), (2, .int x2), (3, .int x3), (6, .int x6), (7, .int x7)]) (st' := []) dX6_askNow_162 rfl ?_
    refine RR.inc (c := 1) (lv' := [(0, .ref 0), (1, .int t0), (2, .int x2), (3, .int (x3 + 1)), (6, .int x6), (7, .int x7)]) dX6_askNow_163 rfl (by decide) (by decide) rfl ?_
    refine RR.s2 (pc' := 10) (lv' := [(0, .ref 0), (1, .int t0), (2, .int x2), (3, .int (x3 + 1)), (6, .int x6), (7, .int x7)]) (st' := []) dX6_askNow_166 rfl ?_
    exact RR.cut [0, 1, 2, 3] rfl H
  · have H := H.2 c
    refine RR.s2 (pc' := 158) (lv' := [(0, .ref 0), (1, .int t0), (2, .int x2), (3, .int x3), (6, .int x6), (7, .int x7)]) (st' := [.int x6]) dX6_askNow_156 rfl ?_
    refine RR.s2 (pc' := 162) (lv' := [(0, .ref 0), (1, .int t0), (2, .int x2), (3, .int x3), (6, .int x6), (7, .int x7)]) (st' := [.int x6]) dX6_askNow_158 rfl ?_
    refine RR.s2 (pc' := 163) (lv' := [(0, .ref 0), (1, .int t0), (2, .int x6), (3, .int x3), (6, .int x6), (7, .int x7)]) (st' := []) dX6_askNow_162 rfl ?_
    refine RR.inc (c := 1) (lv' := [(0, .ref 0), (1, .int t0), (2, .int x6), (3, .int (x3 + 1)), (6, .int x6), (7, .int x7)]) dX6_askNow_163 rfl (by decide) (by decide) rfl ?_
    refine RR.s2 (pc' := 10) (lv' := [(0, .ref 0), (1, .int t0), (2, .int x6), (3, .int (x3 + 1)), (6, .int x6), (7, .int x7)]) (st' := []) dX6_askNow_166 rfl ?_
    exact RR.cut [0, 1, 2, 3] rfl H
set_option maxRecDepth 20000 in
theorem b_X6_ask {σ : r_St} {K : Int32 → r_St → Prop}  (H : M_X6_askNow σ (fun v2 s1 => K v2 s1)) : M_X6_ask σ K := by
  show RR 1 6 mX6_ask 0 [(0, .ref 0)] [] σ (rI K)
  refine RR.s2 (pc' := 1) (lv' := [(0, .ref 0)]) (st' := [.ref 0]) dX6_ask_0 rfl ?_
  refine RR.cV dX6_ask_1 ml_X6_275 rfl rfl (as := []) (rest := []) rfl rfl (Nat.le_of_ble_eq_true rfl) (Nat.le_of_ble_eq_true rfl) (by decide) (RR.toI H (fun v2 s1 H => ?_))
  show RR 1 6 mX6_ask 4 [(0, .ref 0)] [.int v2] s1 _
  exact RR.iret dX6_ask_4 rfl ⟨_, rfl, H⟩
set_option maxRecDepth 20000 in
theorem b_X6_forgedNow {σ : r_St} {K : Int32 → r_St → Prop}  (H : M_X6_faultNow σ (fun v2 s1 => R_X6_forgedNow_12 (wI (wI s1 0 21 (-1)) 0 23 0) K 0 0)) : M_X6_forgedNow σ K := by
  show RR 1 4 mX6_forgedNow 0 [(0, .ref 0)] [] σ (rI K)
  refine RR.s2 (pc' := 1) (lv' := [(0, .ref 0)]) (st' := [.ref 0]) dX6_forgedNow_0 rfl ?_
  refine RR.cV (d' := 3) dX6_forgedNow_1 ml_X6_124 rfl rfl (as := []) (rest := []) rfl rfl (Nat.le_of_ble_eq_true rfl) (Nat.le_of_ble_eq_true rfl) (by decide) ?_
  show RR 1 3 mX6_reads 0 [(0, .ref 0)] [] σ _
  refine RR.s2 (pc' := 1) (lv' := [(0, .ref 0)]) (st' := [.ref 0]) dX6_reads_0 rfl ?_
  refine RR.cV dX6_reads_1 ml_X6_120 rfl rfl (as := []) (rest := []) rfl rfl (Nat.le_of_ble_eq_true rfl) (Nat.le_of_ble_eq_true rfl) (by decide) (RR.toI H (fun v2 s1 H => ?_))
  show RR 1 3 mX6_reads 4 [(0, .ref 0)] [.int v2] s1 _
  refine RR.s2 (pc' := 5) (lv' := [(0, .ref 0), (1, .int v2)]) (st' := []) dX6_reads_4 rfl ?_
  refine RR.vret dX6_reads_5 rfl ?_
  show RR 1 4 mX6_forgedNow 4 [(0, .ref 0)] [] s1 _
  refine RR.s2 (pc' := 5) (lv' := [(0, .ref 0)]) (st' := [.ref 0]) dX6_forgedNow_4 rfl ?_
  refine RR.cV (d' := 1) dX6_forgedNow_5 ml_X6_188 rfl rfl (as := []) (rest := []) rfl rfl (Nat.le_of_ble_eq_true rfl) (Nat.le_of_ble_eq_true rfl) (by decide) ?_
  show RR 1 1 mX6_asTold 0 [(0, .ref 0)] [] s1 _
  refine RR.s2 (pc' := 1) (lv' := [(0, .ref 0)]) (st' := [.ref 0]) dX6_asTold_0 rfl ?_
  refine RR.ic (v := (-1)) dX6_asTold_1 (by decide) ?_
  refine RR.putI dX6_asTold_2 fp_X6_176 rfl rfl ?_
  refine RR.s2 (pc' := 6) (lv' := [(0, .ref 0)]) (st' := [.ref 0]) dX6_asTold_5 rfl ?_
  refine RR.ic (v := 0) dX6_asTold_6 (by decide) ?_
  refine RR.putI dX6_asTold_7 fp_X6_179 rfl rfl ?_
  refine RR.vret dX6_asTold_10 rfl ?_
  show RR 1 4 mX6_forgedNow 8 [(0, .ref 0)] [] (wI (wI s1 0 21 (-1)) 0 23 0) _
  refine RR.ic (v := 0) dX6_forgedNow_8 (by decide) ?_
  refine RR.s2 (pc' := 10) (lv' := [(0, .ref 0), (1, .int 0)]) (st' := []) dX6_forgedNow_9 rfl ?_
  refine RR.ic (v := 0) dX6_forgedNow_10 (by decide) ?_
  refine RR.s2 (pc' := 12) (lv' := [(0, .ref 0), (1, .int 0), (2, .int 0)]) (st' := []) dX6_forgedNow_11 rfl ?_
  exact RR.cut [0, 1, 2] rfl H
set_option maxRecDepth 20000 in
theorem b_X6_forgedNow_12 {σ : r_St} {K : Int32 → r_St → Prop} {x1 : Int32} {x2 : Int32}  (H : (σ.1 3 2 ≤ x2 → K x1 σ) ∧ (¬ (σ.1 3 2 ≤ x2) → M_X6_lays (wI σ 0 21 x2) (fun s1 => R_X6_forgedNow_36 s1 K x1 x2 1 0))) : R_X6_forgedNow_12 σ K x1 x2 := by
  show RR 1 4 mX6_forgedNow 12 [(0, .ref 0), (1, .int x1), (2, .int x2)] [] σ (rI K)
  refine RR.s2 (pc' := 13) (lv' := [(0, .ref 0), (1, .int x1), (2, .int x2)]) (st' := [.int x2]) dX6_forgedNow_12 rfl ?_
  refine RR.s2 (pc' := 14) (lv' := [(0, .ref 0), (1, .int x1), (2, .int x2)]) (st' := [.ref 0, .int x2]) dX6_forgedNow_13 rfl ?_
  refine RR.getR dX6_forgedNow_14 fl_X6_16 rfl rfl ?_
  refine RR.ic (v := 2) dX6_forgedNow_17 (by decide) ?_
  refine RR.iald (j := 2) dX6_forgedNow_18 rfl rfl (by decide) ?_
  refine RR.br dX6_forgedNow_19 rfl (fun c => ?_) (fun c => ?_)
  · have H := H.1 c
    refine RR.s2 (pc' := 110) (lv' := [(0, .ref 0), (1, .int x1), (2, .int x2)]) (st' := [.int x1]) dX6_forgedNow_109 rfl ?_
    exact RR.iret dX6_forgedNow_110 rfl ⟨_, rfl, H⟩
  · have H := H.2 c
    refine RR.s2 (pc' := 23) (lv' := [(0, .ref 0), (1, .int x1), (2, .int x2)]) (st' := [.ref 0]) dX6_forgedNow_22 rfl ?_
    refine RR.s2 (pc' := 24) (lv' := [(0, .ref 0), (1, .int x1), (2, .int x2)]) (st' := [.int x2, .ref 0]) dX6_forgedNow_23 rfl ?_
    refine RR.putI dX6_forgedNow_24 fp_X6_176 rfl rfl ?_
    refine RR.s2 (pc' := 28) (lv' := [(0, .ref 0), (1, .int x1), (2, .int x2)]) (st' := [.ref 0]) dX6_forgedNow_27 rfl ?_
    refine RR.cV dX6_forgedNow_28 ml_X6_191 rfl rfl (as := []) (rest := []) rfl rfl (Nat.le_of_ble_eq_true rfl) (Nat.le_of_ble_eq_true rfl) (by decide) (RR.toV H (fun s1 H => ?_))
    show RR 1 4 mX6_forgedNow 31 [(0, .ref 0), (1, .int x1), (2, .int x2)] [] s1 _
    refine RR.ic (v := 1) dX6_forgedNow_31 (by decide) ?_
    refine RR.s2 (pc' := 33) (lv' := [(0, .ref 0), (1, .int x1), (2, .int x2), (3, .int 1)]) (st' := []) dX6_forgedNow_32 rfl ?_
    refine RR.ic (v := 0) dX6_forgedNow_33 (by decide) ?_
    refine RR.s2 (pc' := 36) (lv' := [(0, .ref 0), (1, .int x1), (2, .int x2), (3, .int 1), (4, .int 0)]) (st' := []) dX6_forgedNow_34 rfl ?_
    exact RR.cut [0, 1, 2, 3, 4] rfl H
set_option maxRecDepth 20000 in
theorem b_X6_forgedNow_36 {σ : r_St} {K : Int32 → r_St → Prop} {x1 : Int32} {x2 : Int32} {x3 : Int32} {x4 : Int32}  (H : (σ.1 0 32 ≤ x4 → ((x3 = 0 → R_X6_forgedNow_12 σ K (x1 ||| 0) (x2 + 1)) ∧ (¬ (x3 = 0) → R_X6_forgedNow_12 σ K (x1 ||| (sl 1 x2)) (x2 + 1)))) ∧ (¬ (σ.1 0 32 ≤ x4) → ((x3 = 0 → R_X6_forgedNow_36 σ K x1 x2 0 (x4 + 1)) ∧ (¬ (x3 = 0) → (∃ j1 : Nat, x4 = nI j1 ∧ j1 < 8 ∧ (∃ j4 : Nat, x4 = nI j4 ∧ j4 < 8 ∧ (∃ j7 : Nat, x4 = nI j7 ∧ j7 < 8 ∧ (M_X6_isSo σ (fun v11 s10 => (v11 = 0 → R_X6_forgedNow_36 s10 K x1 x2 0 (x4 + 1)) ∧ (¬ (v11 = 0) → R_X6_forgedNow_36 s10 K x1 x2 1 (x4 + 1))) (σ.1 24 j1) (σ.1 25 j4) (σ.1 26 j7))))))))) : R_X6_forgedNow_36 σ K x1 x2 x3 x4 := by
  show RR 1 4 mX6_forgedNow 36 [(0, .ref 0), (1, .int x1), (2, .int x2), (3, .int x3), (4, .int x4)] [] σ (rI K)
  refine RR.s2 (pc' := 38) (lv' := [(0, .ref 0), (1, .int x1), (2, .int x2), (3, .int x3), (4, .int x4)]) (st' := [.int x4]) dX6_forgedNow_36 rfl ?_
  refine RR.s2 (pc' := 39) (lv' := [(0, .ref 0), (1, .int x1), (2, .int x2), (3, .int x3), (4, .int x4)]) (st' := [.ref 0, .int x4]) dX6_forgedNow_38 rfl ?_
  refine RR.getI dX6_forgedNow_39 fl_X6_263 rfl rfl ?_
  refine RR.br dX6_forgedNow_42 rfl (fun c => ?_) (fun c => ?_)
  · have H := H.1 c
    refine RR.s2 (pc' := 90) (lv' := [(0, .ref 0), (1, .int x1), (2, .int x2), (3, .int x3), (4, .int x4)]) (st' := [.int x1]) dX6_forgedNow_89 rfl ?_
    refine RR.s2 (pc' := 91) (lv' := [(0, .ref 0), (1, .int x1), (2, .int x2), (3, .int x3), (4, .int x4)]) (st' := [.int x3, .int x1]) dX6_forgedNow_90 rfl ?_
    refine RR.br dX6_forgedNow_91 rfl (fun c => ?_) (fun c => ?_)
    · have H := H.1 c
      refine RR.ic (v := 0) dX6_forgedNow_100 (by decide) ?_
      refine RR.s2 (pc' := 102) (lv' := [(0, .ref 0), (1, .int x1), (2, .int x2), (3, .int x3), (4, .int x4)]) (st' := [.int (x1 ||| 0)]) dX6_forgedNow_101 rfl ?_
      refine RR.s2 (pc' := 103) (lv' := [(0, .ref 0), (1, .int (x1 ||| 0)), (2, .int x2), (3, .int x3), (4, .int x4)]) (st' := []) dX6_forgedNow_102 rfl ?_
      refine RR.inc (c := 1) (lv' := [(0, .ref 0), (1, .int (x1 ||| 0)), (2, .int (x2 + 1)), (3, .int x3), (4, .int x4)]) dX6_forgedNow_103 rfl (by decide) (by decide) rfl ?_
      refine RR.s2 (pc' := 12) (lv' := [(0, .ref 0), (1, .int (x1 ||| 0)), (2, .int (x2 + 1)), (3, .int x3), (4, .int x4)]) (st' := []) dX6_forgedNow_106 rfl ?_
      exact RR.cut [0, 1, 2] rfl H
    · have H := H.2 c
      refine RR.ic (v := 1) dX6_forgedNow_94 (by decide) ?_
      refine RR.s2 (pc' := 96) (lv' := [(0, .ref 0), (1, .int x1), (2, .int x2), (3, .int x3), (4, .int x4)]) (st' := [.int x2, .int 1, .int x1]) dX6_forgedNow_95 rfl ?_
      refine RR.s2 (pc' := 97) (lv' := [(0, .ref 0), (1, .int x1), (2, .int x2), (3, .int x3), (4, .int x4)]) (st' := [.int (sl 1 x2), .int x1]) dX6_forgedNow_96 rfl ?_
      refine RR.s2 (pc' := 101) (lv' := [(0, .ref 0), (1, .int x1), (2, .int x2), (3, .int x3), (4, .int x4)]) (st' := [.int (sl 1 x2), .int x1]) dX6_forgedNow_97 rfl ?_
      refine RR.s2 (pc' := 102) (lv' := [(0, .ref 0), (1, .int x1), (2, .int x2), (3, .int x3), (4, .int x4)]) (st' := [.int (x1 ||| (sl 1 x2))]) dX6_forgedNow_101 rfl ?_
      refine RR.s2 (pc' := 103) (lv' := [(0, .ref 0), (1, .int (x1 ||| (sl 1 x2))), (2, .int x2), (3, .int x3), (4, .int x4)]) (st' := []) dX6_forgedNow_102 rfl ?_
      refine RR.inc (c := 1) (lv' := [(0, .ref 0), (1, .int (x1 ||| (sl 1 x2))), (2, .int (x2 + 1)), (3, .int x3), (4, .int x4)]) dX6_forgedNow_103 rfl (by decide) (by decide) rfl ?_
      refine RR.s2 (pc' := 12) (lv' := [(0, .ref 0), (1, .int (x1 ||| (sl 1 x2))), (2, .int (x2 + 1)), (3, .int x3), (4, .int x4)]) (st' := []) dX6_forgedNow_106 rfl ?_
      exact RR.cut [0, 1, 2] rfl H
  · have H := H.2 c
    refine RR.s2 (pc' := 46) (lv' := [(0, .ref 0), (1, .int x1), (2, .int x2), (3, .int x3), (4, .int x4)]) (st' := [.int x3]) dX6_forgedNow_45 rfl ?_
    refine RR.br dX6_forgedNow_46 rfl (fun c => ?_) (fun c => ?_)
    · have H := H.1 c
      refine RR.ic (v := 0) dX6_forgedNow_81 (by decide) ?_
      refine RR.s2 (pc' := 83) (lv' := [(0, .ref 0), (1, .int x1), (2, .int x2), (3, .int 0), (4, .int x4)]) (st' := []) dX6_forgedNow_82 rfl ?_
      refine RR.inc (c := 1) (lv' := [(0, .ref 0), (1, .int x1), (2, .int x2), (3, .int 0), (4, .int (x4 + 1))]) dX6_forgedNow_83 rfl (by decide) (by decide) rfl ?_
      refine RR.s2 (pc' := 36) (lv' := [(0, .ref 0), (1, .int x1), (2, .int x2), (3, .int 0), (4, .int (x4 + 1))]) (st' := []) dX6_forgedNow_86 rfl ?_
      exact RR.cut [0, 1, 2, 3, 4] rfl H
    · have H := H.2 c
      refine RR.s2 (pc' := 50) (lv' := [(0, .ref 0), (1, .int x1), (2, .int x2), (3, .int x3), (4, .int x4)]) (st' := [.ref 0]) dX6_forgedNow_49 rfl ?_
      refine RR.s2 (pc' := 51) (lv' := [(0, .ref 0), (1, .int x1), (2, .int x2), (3, .int x3), (4, .int x4)]) (st' := [.ref 0, .ref 0]) dX6_forgedNow_50 rfl ?_
      refine RR.getR dX6_forgedNow_51 fl_X6_79 rfl rfl ?_
      refine RR.s2 (pc' := 56) (lv' := [(0, .ref 0), (1, .int x1), (2, .int x2), (3, .int x3), (4, .int x4)]) (st' := [.int x4, .ref 24, .ref 0]) dX6_forgedNow_54 rfl ?_
      obtain ⟨j1, e2, b3, H⟩ := H
      refine RR.iald dX6_forgedNow_56 rfl e2 b3 ?_
      refine RR.s2 (pc' := 58) (lv' := [(0, .ref 0), (1, .int x1), (2, .int x2), (3, .int x3), (4, .int x4)]) (st' := [.ref 0, .int (σ.1 24 j1), .ref 0]) dX6_forgedNow_57 rfl ?_
      refine RR.getR dX6_forgedNow_58 fl_X6_82 rfl rfl ?_
      refine RR.s2 (pc' := 63) (lv' := [(0, .ref 0), (1, .int x1), (2, .int x2), (3, .int x3), (4, .int x4)]) (st' := [.int x4, .ref 25, .int (σ.1 24 j1), .ref 0]) dX6_forgedNow_61 rfl ?_
      obtain ⟨j4, e5, b6, H⟩ := H
      refine RR.iald dX6_forgedNow_63 rfl e5 b6 ?_
      refine RR.s2 (pc' := 65) (lv' := [(0, .ref 0), (1, .int x1), (2, .int x2), (3, .int x3), (4, .int x4)]) (st' := [.ref 0, .int (σ.1 25 j4), .int (σ.1 24 j1), .ref 0]) dX6_forgedNow_64 rfl ?_
      refine RR.getR dX6_forgedNow_65 fl_X6_85 rfl rfl ?_
      refine RR.s2 (pc' := 70) (lv' := [(0, .ref 0), (1, .int x1), (2, .int x2), (3, .int x3), (4, .int x4)]) (st' := [.int x4, .ref 26, .int (σ.1 25 j4), .int (σ.1 24 j1), .ref 0]) dX6_forgedNow_68 rfl ?_
      obtain ⟨j7, e8, b9, H⟩ := H
      refine RR.iald dX6_forgedNow_70 rfl e8 b9 ?_
      refine RR.cV dX6_forgedNow_71 ml_X6_266 rfl rfl (as := [.int (σ.1 24 j1), .int (σ.1 25 j4), .int (σ.1 26 j7)]) (rest := []) rfl rfl (Nat.le_of_ble_eq_true rfl) (Nat.le_of_ble_eq_true rfl) (by decide) (RR.toI H (fun v11 s10 H => ?_))
      show RR 1 4 mX6_forgedNow 74 [(0, .ref 0), (1, .int x1), (2, .int x2), (3, .int x3), (4, .int x4)] [.int v11] s10 _
      refine RR.br dX6_forgedNow_74 rfl (fun c => ?_) (fun c => ?_)
      · have H := H.1 c
        refine RR.ic (v := 0) dX6_forgedNow_81 (by decide) ?_
        refine RR.s2 (pc' := 83) (lv' := [(0, .ref 0), (1, .int x1), (2, .int x2), (3, .int 0), (4, .int x4)]) (st' := []) dX6_forgedNow_82 rfl ?_
        refine RR.inc (c := 1) (lv' := [(0, .ref 0), (1, .int x1), (2, .int x2), (3, .int 0), (4, .int (x4 + 1))]) dX6_forgedNow_83 rfl (by decide) (by decide) rfl ?_
        refine RR.s2 (pc' := 36) (lv' := [(0, .ref 0), (1, .int x1), (2, .int x2), (3, .int 0), (4, .int (x4 + 1))]) (st' := []) dX6_forgedNow_86 rfl ?_
        exact RR.cut [0, 1, 2, 3, 4] rfl H
      · have H := H.2 c
        refine RR.ic (v := 1) dX6_forgedNow_77 (by decide) ?_
        refine RR.s2 (pc' := 82) (lv' := [(0, .ref 0), (1, .int x1), (2, .int x2), (3, .int x3), (4, .int x4)]) (st' := [.int 1]) dX6_forgedNow_78 rfl ?_
        refine RR.s2 (pc' := 83) (lv' := [(0, .ref 0), (1, .int x1), (2, .int x2), (3, .int 1), (4, .int x4)]) (st' := []) dX6_forgedNow_82 rfl ?_
        refine RR.inc (c := 1) (lv' := [(0, .ref 0), (1, .int x1), (2, .int x2), (3, .int 1), (4, .int (x4 + 1))]) dX6_forgedNow_83 rfl (by decide) (by decide) rfl ?_
        refine RR.s2 (pc' := 36) (lv' := [(0, .ref 0), (1, .int x1), (2, .int x2), (3, .int 1), (4, .int (x4 + 1))]) (st' := []) dX6_forgedNow_86 rfl ?_
        exact RR.cut [0, 1, 2, 3, 4] rfl H
set_option maxRecDepth 20000 in
theorem b_X6_forged {σ : r_St} {K : Int32 → r_St → Prop}  (H : M_X6_forgedNow σ (fun v2 s1 => K v2 s1)) : M_X6_forged σ K := by
  show RR 1 5 mX6_forged 0 [(0, .ref 0)] [] σ (rI K)
  refine RR.s2 (pc' := 1) (lv' := [(0, .ref 0)]) (st' := [.ref 0]) dX6_forged_0 rfl ?_
  refine RR.cV dX6_forged_1 ml_X6_278 rfl rfl (as := []) (rest := []) rfl rfl (Nat.le_of_ble_eq_true rfl) (Nat.le_of_ble_eq_true rfl) (by decide) (RR.toI H (fun v2 s1 H => ?_))
  show RR 1 5 mX6_forged 4 [(0, .ref 0)] [.int v2] s1 _
  exact RR.iret dX6_forged_4 rfl ⟨_, rfl, H⟩
set_option maxRecDepth 20000 in
theorem b_X6_chanceOn {σ : r_St} {K : Int32 → r_St → Prop} {x1 : Int32} {x2 : Int32} {x3 : Int32}  (H : ∃ j1 : Nat, x2 = nI j1 ∧ j1 < 80 ∧ (∃ j4 : Nat, 40 + x2 = nI j4 ∧ j4 < 80 ∧ (M_X6_isLeap σ (fun v8 s7 => (v8 = 0 → ((¬ rm x2 7 = 6 → ((¬ rm x2 2 = 0 → R_X6_chanceOn_71 s7 K x1 x2 ((sr (σ.1 15 j1) x3) &&& 1) ((sr (σ.1 15 j4) x3) &&& 1) ((sr (σ.1 15 j4) x3) &&& 1)) ∧ (rm x2 2 = 0 → R_X6_chanceOn_71 s7 K x1 x2 ((sr (σ.1 15 j1) x3) &&& 1) ((sr (σ.1 15 j4) x3) &&& 1) ((sr (σ.1 15 j1) x3) &&& 1)))) ∧ (rm x2 7 = 6 → K 256 s7))) ∧ (¬ (v8 = 0) → K ((256 * ((sr (σ.1 15 j1) x3) &&& 1)) * ((sr (σ.1 15 j4) x3) &&& 1)) s7)) x2))) : M_X6_chanceOn σ K x1 x2 x3 := by
  show RR 1 2 mX6_chanceOn 0 [(0, .ref 0), (1, .int x1), (2, .int x2), (3, .int x3)] [] σ (rI K)
  refine RR.s2 (pc' := 1) (lv' := [(0, .ref 0), (1, .int x1), (2, .int x2), (3, .int x3)]) (st' := [.ref 0]) dX6_chanceOn_0 rfl ?_
  refine RR.getR dX6_chanceOn_1 fl_X6_52 rfl rfl ?_
  refine RR.s2 (pc' := 5) (lv' := [(0, .ref 0), (1, .int x1), (2, .int x2), (3, .int x3)]) (st' := [.int x2, .ref 15]) dX6_chanceOn_4 rfl ?_
  obtain ⟨j1, e2, b3, H⟩ := H
  refine RR.iald dX6_chanceOn_5 rfl e2 b3 ?_
  refine RR.s2 (pc' := 7) (lv' := [(0, .ref 0), (1, .int x1), (2, .int x2), (3, .int x3)]) (st' := [.int x3, .int (σ.1 15 j1)]) dX6_chanceOn_6 rfl ?_
  refine RR.s2 (pc' := 8) (lv' := [(0, .ref 0), (1, .int x1), (2, .int x2), (3, .int x3)]) (st' := [.int (sr (σ.1 15 j1) x3)]) dX6_chanceOn_7 rfl ?_
  refine RR.ic (v := 1) dX6_chanceOn_8 (by decide) ?_
  refine RR.s2 (pc' := 10) (lv' := [(0, .ref 0), (1, .int x1), (2, .int x2), (3, .int x3)]) (st' := [.int ((sr (σ.1 15 j1) x3) &&& 1)]) dX6_chanceOn_9 rfl ?_
  refine RR.s2 (pc' := 12) (lv' := [(0, .ref 0), (1, .int x1), (2, .int x2), (3, .int x3), (4, .int ((sr (σ.1 15 j1) x3) &&& 1))]) (st' := []) dX6_chanceOn_10 rfl ?_
  refine RR.s2 (pc' := 13) (lv' := [(0, .ref 0), (1, .int x1), (2, .int x2), (3, .int x3), (4, .int ((sr (σ.1 15 j1) x3) &&& 1))]) (st' := [.ref 0]) dX6_chanceOn_12 rfl ?_
  refine RR.getR dX6_chanceOn_13 fl_X6_52 rfl rfl ?_
  refine RR.bp (v := 40) dX6_chanceOn_16 (by decide) ?_
  refine RR.s2 (pc' := 19) (lv' := [(0, .ref 0), (1, .int x1), (2, .int x2), (3, .int x3), (4, .int ((sr (σ.1 15 j1) x3) &&& 1))]) (st' := [.int x2, .int 40, .ref 15]) dX6_chanceOn_18 rfl ?_
  refine RR.s2 (pc' := 20) (lv' := [(0, .ref 0), (1, .int x1), (2, .int x2), (3, .int x3), (4, .int ((sr (σ.1 15 j1) x3) &&& 1))]) (st' := [.int (40 + x2), .ref 15]) dX6_chanceOn_19 rfl ?_
  obtain ⟨j4, e5, b6, H⟩ := H
  refine RR.iald dX6_chanceOn_20 rfl e5 b6 ?_
  refine RR.s2 (pc' := 22) (lv' := [(0, .ref 0), (1, .int x1), (2, .int x2), (3, .int x3), (4, .int ((sr (σ.1 15 j1) x3) &&& 1))]) (st' := [.int x3, .int (σ.1 15 j4)]) dX6_chanceOn_21 rfl ?_
  refine RR.s2 (pc' := 23) (lv' := [(0, .ref 0), (1, .int x1), (2, .int x2), (3, .int x3), (4, .int ((sr (σ.1 15 j1) x3) &&& 1))]) (st' := [.int (sr (σ.1 15 j4) x3)]) dX6_chanceOn_22 rfl ?_
  refine RR.ic (v := 1) dX6_chanceOn_23 (by decide) ?_
  refine RR.s2 (pc' := 25) (lv' := [(0, .ref 0), (1, .int x1), (2, .int x2), (3, .int x3), (4, .int ((sr (σ.1 15 j1) x3) &&& 1))]) (st' := [.int ((sr (σ.1 15 j4) x3) &&& 1)]) dX6_chanceOn_24 rfl ?_
  refine RR.s2 (pc' := 27) (lv' := [(0, .ref 0), (1, .int x1), (2, .int x2), (3, .int x3), (4, .int ((sr (σ.1 15 j1) x3) &&& 1)), (5, .int ((sr (σ.1 15 j4) x3) &&& 1))]) (st' := []) dX6_chanceOn_25 rfl ?_
  refine RR.s2 (pc' := 28) (lv' := [(0, .ref 0), (1, .int x1), (2, .int x2), (3, .int x3), (4, .int ((sr (σ.1 15 j1) x3) &&& 1)), (5, .int ((sr (σ.1 15 j4) x3) &&& 1))]) (st' := [.ref 0]) dX6_chanceOn_27 rfl ?_
  refine RR.s2 (pc' := 29) (lv' := [(0, .ref 0), (1, .int x1), (2, .int x2), (3, .int x3), (4, .int ((sr (σ.1 15 j1) x3) &&& 1)), (5, .int ((sr (σ.1 15 j4) x3) &&& 1))]) (st' := [.int x2, .ref 0]) dX6_chanceOn_28 rfl ?_
  refine RR.cV dX6_chanceOn_29 ml_X6_167 rfl rfl (as := [.int x2]) (rest := []) rfl rfl (Nat.le_of_ble_eq_true rfl) (Nat.le_of_ble_eq_true rfl) (by decide) (RR.toI H (fun v8 s7 H => ?_))
  show RR 1 2 mX6_chanceOn 32 [(0, .ref 0), (1, .int x1), (2, .int x2), (3, .int x3), (4, .int ((sr (σ.1 15 j1) x3) &&& 1)), (5, .int ((sr (σ.1 15 j4) x3) &&& 1))] [.int v8] s7 _
  refine RR.br dX6_chanceOn_32 rfl (fun c => ?_) (fun c => ?_)
  · have H := H.1 c
    refine RR.s2 (pc' := 46) (lv' := [(0, .ref 0), (1, .int x1), (2, .int x2), (3, .int x3), (4, .int ((sr (σ.1 15 j1) x3) &&& 1)), (5, .int ((sr (σ.1 15 j4) x3) &&& 1))]) (st' := [.int x2]) dX6_chanceOn_45 rfl ?_
    refine RR.bp (v := 7) dX6_chanceOn_46 (by decide) ?_
    refine RR.irem dX6_chanceOn_48 (by decide) ?_
    show RR 1 2 mX6_chanceOn 49 [(0, .ref 0), (1, .int x1), (2, .int x2), (3, .int x3), (4, .int ((sr (σ.1 15 j1) x3) &&& 1)), (5, .int ((sr (σ.1 15 j4) x3) &&& 1))] [.int (rm x2 7)] s7 _
    refine RR.bp (v := 6) dX6_chanceOn_49 (by decide) ?_
    refine RR.br dX6_chanceOn_51 rfl (fun c => ?_) (fun c => ?_)
    · have H := H.1 c
      refine RR.s2 (pc' := 59) (lv' := [(0, .ref 0), (1, .int x1), (2, .int x2), (3, .int x3), (4, .int ((sr (σ.1 15 j1) x3) &&& 1)), (5, .int ((sr (σ.1 15 j4) x3) &&& 1))]) (st' := [.int x2]) dX6_chanceOn_58 rfl ?_
      refine RR.ic (v := 2) dX6_chanceOn_59 (by decide) ?_
      refine RR.irem dX6_chanceOn_60 (by decide) ?_
      show RR 1 2 mX6_chanceOn 61 [(0, .ref 0), (1, .int x1), (2, .int x2), (3, .int x3), (4, .int ((sr (σ.1 15 j1) x3) &&& 1)), (5, .int ((sr (σ.1 15 j4) x3) &&& 1))] [.int (rm x2 2)] s7 _
      refine RR.br dX6_chanceOn_61 rfl (fun c => ?_) (fun c => ?_)
      · have H := H.1 c
        refine RR.s2 (pc' := 71) (lv' := [(0, .ref 0), (1, .int x1), (2, .int x2), (3, .int x3), (4, .int ((sr (σ.1 15 j1) x3) &&& 1)), (5, .int ((sr (σ.1 15 j4) x3) &&& 1))]) (st' := [.int ((sr (σ.1 15 j4) x3) &&& 1)]) dX6_chanceOn_69 rfl ?_
        exact RR.cut [1, 2, 4, 5] rfl H
      · have H := H.2 (Classical.not_not.mp c)
        refine RR.s2 (pc' := 66) (lv' := [(0, .ref 0), (1, .int x1), (2, .int x2), (3, .int x3), (4, .int ((sr (σ.1 15 j1) x3) &&& 1)), (5, .int ((sr (σ.1 15 j4) x3) &&& 1))]) (st' := [.int ((sr (σ.1 15 j1) x3) &&& 1)]) dX6_chanceOn_64 rfl ?_
        refine RR.s2 (pc' := 71) (lv' := [(0, .ref 0), (1, .int x1), (2, .int x2), (3, .int x3), (4, .int ((sr (σ.1 15 j1) x3) &&& 1)), (5, .int ((sr (σ.1 15 j4) x3) &&& 1))]) (st' := [.int ((sr (σ.1 15 j1) x3) &&& 1)]) dX6_chanceOn_66 rfl ?_
        exact RR.cut [1, 2, 4, 5] rfl H
    · have H := H.2 (Classical.not_not.mp c)
      refine RR.sp (v := 256) dX6_chanceOn_54 (by decide) ?_
      exact RR.iret dX6_chanceOn_57 rfl ⟨_, rfl, H⟩
  · have H := H.2 c
    refine RR.sp (v := 256) dX6_chanceOn_35 (by decide) ?_
    refine RR.s2 (pc' := 40) (lv' := [(0, .ref 0), (1, .int x1), (2, .int x2), (3, .int x3), (4, .int ((sr (σ.1 15 j1) x3) &&& 1)), (5, .int ((sr (σ.1 15 j4) x3) &&& 1))]) (st' := [.int ((sr (σ.1 15 j1) x3) &&& 1), .int 256]) dX6_chanceOn_38 rfl ?_
    refine RR.s2 (pc' := 41) (lv' := [(0, .ref 0), (1, .int x1), (2, .int x2), (3, .int x3), (4, .int ((sr (σ.1 15 j1) x3) &&& 1)), (5, .int ((sr (σ.1 15 j4) x3) &&& 1))]) (st' := [.int (256 * ((sr (σ.1 15 j1) x3) &&& 1))]) dX6_chanceOn_40 rfl ?_
    refine RR.s2 (pc' := 43) (lv' := [(0, .ref 0), (1, .int x1), (2, .int x2), (3, .int x3), (4, .int ((sr (σ.1 15 j1) x3) &&& 1)), (5, .int ((sr (σ.1 15 j4) x3) &&& 1))]) (st' := [.int ((sr (σ.1 15 j4) x3) &&& 1), .int (256 * ((sr (σ.1 15 j1) x3) &&& 1))]) dX6_chanceOn_41 rfl ?_
    refine RR.s2 (pc' := 44) (lv' := [(0, .ref 0), (1, .int x1), (2, .int x2), (3, .int x3), (4, .int ((sr (σ.1 15 j1) x3) &&& 1)), (5, .int ((sr (σ.1 15 j4) x3) &&& 1))]) (st' := [.int ((256 * ((sr (σ.1 15 j1) x3) &&& 1)) * ((sr (σ.1 15 j4) x3) &&& 1))]) dX6_chanceOn_43 rfl ?_
    exact RR.iret dX6_chanceOn_44 rfl ⟨_, rfl, H⟩
set_option maxRecDepth 20000 in
theorem b_X6_chanceOn_71 {σ : r_St} {K : Int32 → r_St → Prop} {x1 : Int32} {x2 : Int32} {x4 : Int32} {x5 : Int32} {t0 : Int32}  (H : (¬ rm x2 2 = 0 → R_X6_chanceOn_86 σ K x1 t0 x4) ∧ (rm x2 2 = 0 → R_X6_chanceOn_86 σ K x1 t0 x5)) : R_X6_chanceOn_71 σ K x1 x2 x4 x5 t0 := by
  show RR 1 2 mX6_chanceOn 71 [(1, .int x1), (2, .int x2), (4, .int x4), (5, .int x5)] [.int t0] σ (rI K)
  refine RR.s2 (pc' := 73) (lv' := [(1, .int x1), (2, .int x2), (4, .int x4), (5, .int x5), (6, .int t0)]) (st' := []) dX6_chanceOn_71 rfl ?_
  refine RR.s2 (pc' := 74) (lv' := [(1, .int x1), (2, .int x2), (4, .int x4), (5, .int x5), (6, .int t0)]) (st' := [.int x2]) dX6_chanceOn_73 rfl ?_
  refine RR.ic (v := 2) dX6_chanceOn_74 (by decide) ?_
  refine RR.irem dX6_chanceOn_75 (by decide) ?_
  show RR 1 2 mX6_chanceOn 76 [(1, .int x1), (2, .int x2), (4, .int x4), (5, .int x5), (6, .int t0)] [.int (rm x2 2)] σ _
  refine RR.br dX6_chanceOn_76 rfl (fun c => ?_) (fun c => ?_)
  · have H := H.1 c
    refine RR.s2 (pc' := 86) (lv' := [(1, .int x1), (2, .int x2), (4, .int x4), (5, .int x5), (6, .int t0)]) (st' := [.int x4]) dX6_chanceOn_84 rfl ?_
    exact RR.cut [0, 4] rfl H
  · have H := H.2 (Classical.not_not.mp c)
    refine RR.s2 (pc' := 81) (lv' := [(1, .int x1), (2, .int x2), (4, .int x4), (5, .int x5), (6, .int t0)]) (st' := [.int x5]) dX6_chanceOn_79 rfl ?_
    refine RR.s2 (pc' := 86) (lv' := [(1, .int x1), (2, .int x2), (4, .int x4), (5, .int x5), (6, .int t0)]) (st' := [.int x5]) dX6_chanceOn_81 rfl ?_
    exact RR.cut [0, 4] rfl H
set_option maxRecDepth 20000 in
theorem b_X6_chanceOn_86 {σ : r_St} {K : Int32 → r_St → Prop} {x1 : Int32} {x6 : Int32} {t0 : Int32}  (H : K ((((x6 * 16) * (16 - x1)) + ((t0 * x1) * (16 - x1))) + (x1 * x1)) σ) : R_X6_chanceOn_86 σ K x1 x6 t0 := by
  show RR 1 2 mX6_chanceOn 86 [(1, .int x1), (6, .int x6)] [.int t0] σ (rI K)
  refine RR.s2 (pc' := 88) (lv' := [(1, .int x1), (6, .int x6), (7, .int t0)]) (st' := []) dX6_chanceOn_86 rfl ?_
  refine RR.s2 (pc' := 90) (lv' := [(1, .int x1), (6, .int x6), (7, .int t0)]) (st' := [.int x6]) dX6_chanceOn_88 rfl ?_
  refine RR.bp (v := 16) dX6_chanceOn_90 (by decide) ?_
  refine RR.s2 (pc' := 93) (lv' := [(1, .int x1), (6, .int x6), (7, .int t0)]) (st' := [.int (x6 * 16)]) dX6_chanceOn_92 rfl ?_
  refine RR.bp (v := 16) dX6_chanceOn_93 (by decide) ?_
  refine RR.s2 (pc' := 96) (lv' := [(1, .int x1), (6, .int x6), (7, .int t0)]) (st' := [.int x1, .int 16, .int (x6 * 16)]) dX6_chanceOn_95 rfl ?_
  refine RR.s2 (pc' := 97) (lv' := [(1, .int x1), (6, .int x6), (7, .int t0)]) (st' := [.int (16 - x1), .int (x6 * 16)]) dX6_chanceOn_96 rfl ?_
  refine RR.s2 (pc' := 98) (lv' := [(1, .int x1), (6, .int x6), (7, .int t0)]) (st' := [.int ((x6 * 16) * (16 - x1))]) dX6_chanceOn_97 rfl ?_
  refine RR.s2 (pc' := 100) (lv' := [(1, .int x1), (6, .int x6), (7, .int t0)]) (st' := [.int t0, .int ((x6 * 16) * (16 - x1))]) dX6_chanceOn_98 rfl ?_
  refine RR.s2 (pc' := 101) (lv' := [(1, .int x1), (6, .int x6), (7, .int t0)]) (st' := [.int x1, .int t0, .int ((x6 * 16) * (16 - x1))]) dX6_chanceOn_100 rfl ?_
  refine RR.s2 (pc' := 102) (lv' := [(1, .int x1), (6, .int x6), (7, .int t0)]) (st' := [.int (t0 * x1), .int ((x6 * 16) * (16 - x1))]) dX6_chanceOn_101 rfl ?_
  refine RR.bp (v := 16) dX6_chanceOn_102 (by decide) ?_
  refine RR.s2 (pc' := 105) (lv' := [(1, .int x1), (6, .int x6), (7, .int t0)]) (st' := [.int x1, .int 16, .int (t0 * x1), .int ((x6 * 16) * (16 - x1))]) dX6_chanceOn_104 rfl ?_
  refine RR.s2 (pc' := 106) (lv' := [(1, .int x1), (6, .int x6), (7, .int t0)]) (st' := [.int (16 - x1), .int (t0 * x1), .int ((x6 * 16) * (16 - x1))]) dX6_chanceOn_105 rfl ?_
  refine RR.s2 (pc' := 107) (lv' := [(1, .int x1), (6, .int x6), (7, .int t0)]) (st' := [.int ((t0 * x1) * (16 - x1)), .int ((x6 * 16) * (16 - x1))]) dX6_chanceOn_106 rfl ?_
  refine RR.s2 (pc' := 108) (lv' := [(1, .int x1), (6, .int x6), (7, .int t0)]) (st' := [.int (((x6 * 16) * (16 - x1)) + ((t0 * x1) * (16 - x1)))]) dX6_chanceOn_107 rfl ?_
  refine RR.s2 (pc' := 109) (lv' := [(1, .int x1), (6, .int x6), (7, .int t0)]) (st' := [.int x1, .int (((x6 * 16) * (16 - x1)) + ((t0 * x1) * (16 - x1)))]) dX6_chanceOn_108 rfl ?_
  refine RR.s2 (pc' := 110) (lv' := [(1, .int x1), (6, .int x6), (7, .int t0)]) (st' := [.int x1, .int x1, .int (((x6 * 16) * (16 - x1)) + ((t0 * x1) * (16 - x1)))]) dX6_chanceOn_109 rfl ?_
  refine RR.s2 (pc' := 111) (lv' := [(1, .int x1), (6, .int x6), (7, .int t0)]) (st' := [.int (x1 * x1), .int (((x6 * 16) * (16 - x1)) + ((t0 * x1) * (16 - x1)))]) dX6_chanceOn_110 rfl ?_
  refine RR.s2 (pc' := 112) (lv' := [(1, .int x1), (6, .int x6), (7, .int t0)]) (st' := [.int ((((x6 * 16) * (16 - x1)) + ((t0 * x1) * (16 - x1))) + (x1 * x1))]) dX6_chanceOn_111 rfl ?_
  exact RR.iret dX6_chanceOn_112 rfl ⟨_, rfl, H⟩
set_option maxRecDepth 20000 in
theorem b_X6_chanceOf {σ : r_St} {K : Int64 → r_St → Prop} {x1 : Int32} {x2 : Int32} {x3 : Int32} {x4 : Int32} {x5 : Int32}  (H : M_X6_laysTold σ (fun s1 => R_X6_chanceOf_13 s1 K x1 x2 x3 x4 x5 (1 : Int64) (1 : Int64) 0)) : M_X6_chanceOf σ K x1 x2 x3 x4 x5 := by
  show RR 1 5 mX6_chanceOf 0 [(0, .ref 0), (1, .int x1), (2, .int x2), (3, .int x3), (4, .int x4), (5, .int x5)] [] σ (rL K)
  refine RR.s2 (pc' := 1) (lv' := [(0, .ref 0), (1, .int x1), (2, .int x2), (3, .int x3), (4, .int x4), (5, .int x5)]) (st' := [.ref 0]) dX6_chanceOf_0 rfl ?_
  refine RR.cV dX6_chanceOf_1 ml_X6_194 rfl rfl (as := []) (rest := []) rfl rfl (Nat.le_of_ble_eq_true rfl) (Nat.le_of_ble_eq_true rfl) (by decide) (RR.toV H (fun s1 H => ?_))
  show RR 1 5 mX6_chanceOf 4 [(0, .ref 0), (1, .int x1), (2, .int x2), (3, .int x3), (4, .int x4), (5, .int x5)] [] s1 _
  refine RR.s2 (pc' := 5) (lv' := [(0, .ref 0), (1, .int x1), (2, .int x2), (3, .int x3), (4, .int x4), (5, .int x5)]) (st' := [.long (1 : Int64)]) dX6_chanceOf_4 rfl ?_
  refine RR.s2 (pc' := 7) (lv' := [(0, .ref 0), (1, .int x1), (2, .int x2), (3, .int x3), (4, .int x4), (5, .int x5), (6, .long (1 : Int64))]) (st' := []) dX6_chanceOf_5 rfl ?_
  refine RR.s2 (pc' := 8) (lv' := [(0, .ref 0), (1, .int x1), (2, .int x2), (3, .int x3), (4, .int x4), (5, .int x5), (6, .long (1 : Int64))]) (st' := [.long (1 : Int64)]) dX6_chanceOf_7 rfl ?_
  refine RR.s2 (pc' := 10) (lv' := [(0, .ref 0), (1, .int x1), (2, .int x2), (3, .int x3), (4, .int x4), (5, .int x5), (6, .long (1 : Int64)), (8, .long (1 : Int64))]) (st' := []) dX6_chanceOf_8 rfl ?_
  refine RR.ic (v := 0) dX6_chanceOf_10 (by decide) ?_
  refine RR.s2 (pc' := 13) (lv' := [(0, .ref 0), (1, .int x1), (2, .int x2), (3, .int x3), (4, .int x4), (5, .int x5), (6, .long (1 : Int64)), (8, .long (1 : Int64)), (10, .int 0)]) (st' := []) dX6_chanceOf_11 rfl ?_
  exact RR.cut [0, 1, 2, 3, 4, 5, 6, 7, 8] rfl H
set_option maxRecDepth 20000 in
theorem b_X6_chanceOf_13 {σ : r_St} {K : Int64 → r_St → Prop} {x1 : Int32} {x2 : Int32} {x3 : Int32} {x4 : Int32} {x5 : Int32} {y6 : Int64} {y8 : Int64} {x10 : Int32}  (H : (x4 ≤ x10 → M_X6_lowest σ (fun v2 s1 => K v2 s1) y6 y8 x5) ∧ (¬ (x4 ≤ x10) → M_X6_chanceOn σ (fun v4 s3 => R_X6_chanceOf_13 s3 K x1 x2 x3 x4 x5 (y6 * v4.toInt64) (y8 * (256 : Int64)) (x10 + 1)) x1 (x2 + x10) x3)) : R_X6_chanceOf_13 σ K x1 x2 x3 x4 x5 y6 y8 x10 := by
  show RR 1 5 mX6_chanceOf 13 [(0, .ref 0), (1, .int x1), (2, .int x2), (3, .int x3), (4, .int x4), (5, .int x5), (6, .long y6), (8, .long y8), (10, .int x10)] [] σ (rL K)
  refine RR.s2 (pc' := 15) (lv' := [(0, .ref 0), (1, .int x1), (2, .int x2), (3, .int x3), (4, .int x4), (5, .int x5), (6, .long y6), (8, .long y8), (10, .int x10)]) (st' := [.int x10]) dX6_chanceOf_13 rfl ?_
  refine RR.s2 (pc' := 17) (lv' := [(0, .ref 0), (1, .int x1), (2, .int x2), (3, .int x3), (4, .int x4), (5, .int x5), (6, .long y6), (8, .long y8), (10, .int x10)]) (st' := [.int x4, .int x10]) dX6_chanceOf_15 rfl ?_
  refine RR.br dX6_chanceOf_17 rfl (fun c => ?_) (fun c => ?_)
  · have H := H.1 c
    refine RR.s2 (pc' := 52) (lv' := [(0, .ref 0), (1, .int x1), (2, .int x2), (3, .int x3), (4, .int x4), (5, .int x5), (6, .long y6), (8, .long y8), (10, .int x10)]) (st' := [.long y6]) dX6_chanceOf_50 rfl ?_
    refine RR.s2 (pc' := 54) (lv' := [(0, .ref 0), (1, .int x1), (2, .int x2), (3, .int x3), (4, .int x4), (5, .int x5), (6, .long y6), (8, .long y8), (10, .int x10)]) (st' := [.long y8, .long y6]) dX6_chanceOf_52 rfl ?_
    refine RR.s2 (pc' := 56) (lv' := [(0, .ref 0), (1, .int x1), (2, .int x2), (3, .int x3), (4, .int x4), (5, .int x5), (6, .long y6), (8, .long y8), (10, .int x10)]) (st' := [.int x5, .long y8, .long y6]) dX6_chanceOf_54 rfl ?_
    refine RR.cS dX6_chanceOf_56 ml_X6_286 (as := [.long y6, .long y8, .int x5]) (rest := []) rfl rfl (Nat.le_of_ble_eq_true rfl) (Nat.le_of_ble_eq_true rfl) (by decide) (RR.toL H (fun v2 s1 H => ?_))
    show RR 1 5 mX6_chanceOf 59 [(0, .ref 0), (1, .int x1), (2, .int x2), (3, .int x3), (4, .int x4), (5, .int x5), (6, .long y6), (8, .long y8), (10, .int x10)] [.long v2] s1 _
    exact RR.lret dX6_chanceOf_59 rfl ⟨_, rfl, H⟩
  · have H := H.2 c
    refine RR.s2 (pc' := 22) (lv' := [(0, .ref 0), (1, .int x1), (2, .int x2), (3, .int x3), (4, .int x4), (5, .int x5), (6, .long y6), (8, .long y8), (10, .int x10)]) (st' := [.long y6]) dX6_chanceOf_20 rfl ?_
    refine RR.s2 (pc' := 23) (lv' := [(0, .ref 0), (1, .int x1), (2, .int x2), (3, .int x3), (4, .int x4), (5, .int x5), (6, .long y6), (8, .long y8), (10, .int x10)]) (st' := [.ref 0, .long y6]) dX6_chanceOf_22 rfl ?_
    refine RR.s2 (pc' := 24) (lv' := [(0, .ref 0), (1, .int x1), (2, .int x2), (3, .int x3), (4, .int x4), (5, .int x5), (6, .long y6), (8, .long y8), (10, .int x10)]) (st' := [.int x1, .ref 0, .long y6]) dX6_chanceOf_23 rfl ?_
    refine RR.s2 (pc' := 25) (lv' := [(0, .ref 0), (1, .int x1), (2, .int x2), (3, .int x3), (4, .int x4), (5, .int x5), (6, .long y6), (8, .long y8), (10, .int x10)]) (st' := [.int x2, .int x1, .ref 0, .long y6]) dX6_chanceOf_24 rfl ?_
    refine RR.s2 (pc' := 27) (lv' := [(0, .ref 0), (1, .int x1), (2, .int x2), (3, .int x3), (4, .int x4), (5, .int x5), (6, .long y6), (8, .long y8), (10, .int x10)]) (st' := [.int x10, .int x2, .int x1, .ref 0, .long y6]) dX6_chanceOf_25 rfl ?_
    refine RR.s2 (pc' := 28) (lv' := [(0, .ref 0), (1, .int x1), (2, .int x2), (3, .int x3), (4, .int x4), (5, .int x5), (6, .long y6), (8, .long y8), (10, .int x10)]) (st' := [.int (x2 + x10), .int x1, .ref 0, .long y6]) dX6_chanceOf_27 rfl ?_
    refine RR.s2 (pc' := 29) (lv' := [(0, .ref 0), (1, .int x1), (2, .int x2), (3, .int x3), (4, .int x4), (5, .int x5), (6, .long y6), (8, .long y8), (10, .int x10)]) (st' := [.int x3, .int (x2 + x10), .int x1, .ref 0, .long y6]) dX6_chanceOf_28 rfl ?_
    refine RR.cV dX6_chanceOf_29 ml_X6_281 rfl rfl (as := [.int x1, .int (x2 + x10), .int x3]) (rest := [.long y6]) rfl rfl (Nat.le_of_ble_eq_true rfl) (Nat.le_of_ble_eq_true rfl) (by decide) (RR.toI H (fun v4 s3 H => ?_))
    show RR 1 5 mX6_chanceOf 32 [(0, .ref 0), (1, .int x1), (2, .int x2), (3, .int x3), (4, .int x4), (5, .int x5), (6, .long y6), (8, .long y8), (10, .int x10)] [.int v4, .long y6] s3 _
    refine RR.s2 (pc' := 33) (lv' := [(0, .ref 0), (1, .int x1), (2, .int x2), (3, .int x3), (4, .int x4), (5, .int x5), (6, .long y6), (8, .long y8), (10, .int x10)]) (st' := [.long v4.toInt64, .long y6]) dX6_chanceOf_32 rfl ?_
    refine RR.s2 (pc' := 34) (lv' := [(0, .ref 0), (1, .int x1), (2, .int x2), (3, .int x3), (4, .int x4), (5, .int x5), (6, .long y6), (8, .long y8), (10, .int x10)]) (st' := [.long (y6 * v4.toInt64)]) dX6_chanceOf_33 rfl ?_
    refine RR.s2 (pc' := 36) (lv' := [(0, .ref 0), (1, .int x1), (2, .int x2), (3, .int x3), (4, .int x4), (5, .int x5), (6, .long (y6 * v4.toInt64)), (8, .long y8), (10, .int x10)]) (st' := []) dX6_chanceOf_34 rfl ?_
    refine RR.s2 (pc' := 38) (lv' := [(0, .ref 0), (1, .int x1), (2, .int x2), (3, .int x3), (4, .int x4), (5, .int x5), (6, .long (y6 * v4.toInt64)), (8, .long y8), (10, .int x10)]) (st' := [.long y8]) dX6_chanceOf_36 rfl ?_
    refine RR.ldc2 dX6_chanceOf_38 pw_w1264 ?_
    refine RR.s2 (pc' := 42) (lv' := [(0, .ref 0), (1, .int x1), (2, .int x2), (3, .int x3), (4, .int x4), (5, .int x5), (6, .long (y6 * v4.toInt64)), (8, .long y8), (10, .int x10)]) (st' := [.long (y8 * (256 : Int64))]) dX6_chanceOf_41 rfl ?_
    refine RR.s2 (pc' := 44) (lv' := [(0, .ref 0), (1, .int x1), (2, .int x2), (3, .int x3), (4, .int x4), (5, .int x5), (6, .long (y6 * v4.toInt64)), (8, .long (y8 * (256 : Int64))), (10, .int x10)]) (st' := []) dX6_chanceOf_42 rfl ?_
    refine RR.inc (c := 1) (lv' := [(0, .ref 0), (1, .int x1), (2, .int x2), (3, .int x3), (4, .int x4), (5, .int x5), (6, .long (y6 * v4.toInt64)), (8, .long (y8 * (256 : Int64))), (10, .int (x10 + 1))]) dX6_chanceOf_44 rfl (by decide) (by decide) rfl ?_
    refine RR.s2 (pc' := 13) (lv' := [(0, .ref 0), (1, .int x1), (2, .int x2), (3, .int x3), (4, .int x4), (5, .int x5), (6, .long (y6 * v4.toInt64)), (8, .long (y8 * (256 : Int64))), (10, .int (x10 + 1))]) (st' := []) dX6_chanceOf_47 rfl ?_
    exact RR.cut [0, 1, 2, 3, 4, 5, 6, 7, 8] rfl H
set_option maxRecDepth 20000 in
theorem b_X6_chance {σ : r_St} {K : Int64 → r_St → Prop} {x1 : Int32} {x2 : Int32} {x3 : Int32} {x4 : Int32} {x5 : Int32}  (H : (IN x1 0 16 → ((IN x2 0 39 → (M_X6_isDeed σ (fun v2 s1 => (v2 = 0 → R_X6_chance_50 s1 K x1 x2 x3 x4 x5 0) ∧ (¬ (v2 = 0) → ((IN x4 1 6 → ((40 < x2 + x4 → R_X6_chance_50 s1 K x1 x2 x3 x4 x5 0) ∧ (¬ (40 < x2 + x4) → R_X6_chance_50 s1 K x1 x2 x3 x4 x5 1))) ∧ (¬ IN x4 1 6 → R_X6_chance_50 s1 K x1 x2 x3 x4 x5 0)))) x3)) ∧ (¬ IN x2 0 39 → R_X6_chance_50 σ K x1 x2 x3 x4 x5 0))) ∧ (¬ IN x1 0 16 → R_X6_chance_50 σ K x1 x2 x3 x4 x5 0)) : M_X6_chance σ K x1 x2 x3 x4 x5 := by
  show RR 1 6 mX6_chance 0 [(0, .ref 0), (1, .int x1), (2, .int x2), (3, .int x3), (4, .int x4), (5, .int x5)] [] σ (rL K)
  refine RR.s2 (pc' := 1) (lv' := [(0, .ref 0), (1, .int x1), (2, .int x2), (3, .int x3), (4, .int x4), (5, .int x5)]) (st' := [.int x1]) dX6_chance_0 rfl ?_
  refine RR.ic (v := 0) dX6_chance_1 (by decide) ?_
  refine RR.bp (v := 16) dX6_chance_2 (by decide) ?_
  refine RR.cS dX6_chance_4 ml_X6_106 (as := [.int x1, .int 0, .int 16]) (rest := []) rfl rfl (Nat.le_of_ble_eq_true rfl) (Nat.le_of_ble_eq_true rfl) (by decide) (kb_X6_in (fun c => ?_) (fun c => ?_))
  · have H := H.1 c
    show RR 1 6 mX6_chance 7 [(0, .ref 0), (1, .int x1), (2, .int x2), (3, .int x3), (4, .int x4), (5, .int x5)] [.int 1] σ _
    refine RR.brF dX6_chance_7 rfl (by decide) ?_
    refine RR.s2 (pc' := 11) (lv' := [(0, .ref 0), (1, .int x1), (2, .int x2), (3, .int x3), (4, .int x4), (5, .int x5)]) (st' := [.int x2]) dX6_chance_10 rfl ?_
    refine RR.cS dX6_chance_11 ml_X6_151 (as := [.int x2]) (rest := []) rfl rfl (Nat.le_of_ble_eq_true rfl) (Nat.le_of_ble_eq_true rfl) (by decide) (kb_X6_isDay (fun c => ?_) (fun c => ?_))
    · have H := H.1 c
      show RR 1 6 mX6_chance 14 [(0, .ref 0), (1, .int x1), (2, .int x2), (3, .int x3), (4, .int x4), (5, .int x5)] [.int 1] σ _
      refine RR.brF dX6_chance_14 rfl (by decide) ?_
      refine RR.s2 (pc' := 18) (lv' := [(0, .ref 0), (1, .int x1), (2, .int x2), (3, .int x3), (4, .int x4), (5, .int x5)]) (st' := [.ref 0]) dX6_chance_17 rfl ?_
      refine RR.s2 (pc' := 19) (lv' := [(0, .ref 0), (1, .int x1), (2, .int x2), (3, .int x3), (4, .int x4), (5, .int x5)]) (st' := [.int x3, .ref 0]) dX6_chance_18 rfl ?_
      refine RR.cV dX6_chance_19 ml_X6_137 rfl rfl (as := [.int x3]) (rest := []) rfl rfl (Nat.le_of_ble_eq_true rfl) (Nat.le_of_ble_eq_true rfl) (by decide) (RR.toI H (fun v2 s1 H => ?_))
      show RR 1 6 mX6_chance 22 [(0, .ref 0), (1, .int x1), (2, .int x2), (3, .int x3), (4, .int x4), (5, .int x5)] [.int v2] s1 _
      refine RR.br dX6_chance_22 rfl (fun c => ?_) (fun c => ?_)
      · have H := H.1 c
        refine RR.ic (v := 0) dX6_chance_49 (by decide) ?_
        exact RR.cut [0, 1, 2, 3, 4, 5] rfl H
      · have H := H.2 c
        refine RR.s2 (pc' := 27) (lv' := [(0, .ref 0), (1, .int x1), (2, .int x2), (3, .int x3), (4, .int x4), (5, .int x5)]) (st' := [.int x4]) dX6_chance_25 rfl ?_
        refine RR.ic (v := 1) dX6_chance_27 (by decide) ?_
        refine RR.bp (v := 6) dX6_chance_28 (by decide) ?_
        refine RR.cS dX6_chance_30 ml_X6_106 (as := [.int x4, .int 1, .int 6]) (rest := []) rfl rfl (Nat.le_of_ble_eq_true rfl) (Nat.le_of_ble_eq_true rfl) (by decide) (kb_X6_in (fun c => ?_) (fun c => ?_))
        · have H := H.1 c
          show RR 1 6 mX6_chance 33 [(0, .ref 0), (1, .int x1), (2, .int x2), (3, .int x3), (4, .int x4), (5, .int x5)] [.int 1] s1 _
          refine RR.brF dX6_chance_33 rfl (by decide) ?_
          refine RR.s2 (pc' := 37) (lv' := [(0, .ref 0), (1, .int x1), (2, .int x2), (3, .int x3), (4, .int x4), (5, .int x5)]) (st' := [.int x2]) dX6_chance_36 rfl ?_
          refine RR.s2 (pc' := 39) (lv' := [(0, .ref 0), (1, .int x1), (2, .int x2), (3, .int x3), (4, .int x4), (5, .int x5)]) (st' := [.int x4, .int x2]) dX6_chance_37 rfl ?_
          refine RR.s2 (pc' := 40) (lv' := [(0, .ref 0), (1, .int x1), (2, .int x2), (3, .int x3), (4, .int x4), (5, .int x5)]) (st' := [.int (x2 + x4)]) dX6_chance_39 rfl ?_
          refine RR.bp (v := 40) dX6_chance_40 (by decide) ?_
          refine RR.br dX6_chance_42 rfl (fun c => ?_) (fun c => ?_)
          · have H := H.1 c
            refine RR.ic (v := 0) dX6_chance_49 (by decide) ?_
            exact RR.cut [0, 1, 2, 3, 4, 5] rfl H
          · have H := H.2 c
            refine RR.ic (v := 1) dX6_chance_45 (by decide) ?_
            refine RR.s2 (pc' := 50) (lv' := [(0, .ref 0), (1, .int x1), (2, .int x2), (3, .int x3), (4, .int x4), (5, .int x5)]) (st' := [.int 1]) dX6_chance_46 rfl ?_
            exact RR.cut [0, 1, 2, 3, 4, 5] rfl H
        · have H := H.2 c
          show RR 1 6 mX6_chance 33 [(0, .ref 0), (1, .int x1), (2, .int x2), (3, .int x3), (4, .int x4), (5, .int x5)] [.int 0] s1 _
          refine RR.brT dX6_chance_33 rfl (by decide) ?_
          refine RR.ic (v := 0) dX6_chance_49 (by decide) ?_
          exact RR.cut [0, 1, 2, 3, 4, 5] rfl H
    · have H := H.2 c
      show RR 1 6 mX6_chance 14 [(0, .ref 0), (1, .int x1), (2, .int x2), (3, .int x3), (4, .int x4), (5, .int x5)] [.int 0] σ _
      refine RR.brT dX6_chance_14 rfl (by decide) ?_
      refine RR.ic (v := 0) dX6_chance_49 (by decide) ?_
      exact RR.cut [0, 1, 2, 3, 4, 5] rfl H
  · have H := H.2 c
    show RR 1 6 mX6_chance 7 [(0, .ref 0), (1, .int x1), (2, .int x2), (3, .int x3), (4, .int x4), (5, .int x5)] [.int 0] σ _
    refine RR.brT dX6_chance_7 rfl (by decide) ?_
    refine RR.ic (v := 0) dX6_chance_49 (by decide) ?_
    exact RR.cut [0, 1, 2, 3, 4, 5] rfl H
set_option maxRecDepth 20000 in
theorem b_X6_chance_50 {σ : r_St} {K : Int64 → r_St → Prop} {x1 : Int32} {x2 : Int32} {x3 : Int32} {x4 : Int32} {x5 : Int32} {t0 : Int32}  (H : (t0 = 0 → K ((-9223372036854775808 : Int64) - (((-2) : Int32).toInt64)) σ) ∧ (¬ (t0 = 0) → ((IN x5 0 1 → M_X6_chanceOf σ (fun v2 s1 => K v2 s1) x1 x2 x3 x4 x5) ∧ (¬ IN x5 0 1 → K ((-9223372036854775808 : Int64) - (((-2) : Int32).toInt64)) σ)))) : R_X6_chance_50 σ K x1 x2 x3 x4 x5 t0 := by
  show RR 1 6 mX6_chance 50 [(0, .ref 0), (1, .int x1), (2, .int x2), (3, .int x3), (4, .int x4), (5, .int x5)] [.int t0] σ (rL K)
  refine RR.s2 (pc' := 52) (lv' := [(0, .ref 0), (1, .int x1), (2, .int x2), (3, .int x3), (4, .int x4), (5, .int x5), (6, .int t0)]) (st' := []) dX6_chance_50 rfl ?_
  refine RR.s2 (pc' := 54) (lv' := [(0, .ref 0), (1, .int x1), (2, .int x2), (3, .int x3), (4, .int x4), (5, .int x5), (6, .int t0)]) (st' := [.int t0]) dX6_chance_52 rfl ?_
  refine RR.br dX6_chance_54 rfl (fun c => ?_) (fun c => ?_)
  · have H := H.1 c
    refine RR.bp (v := (-2)) dX6_chance_79 (by decide) ?_
    refine RR.cS (d' := 1) dX6_chance_81 ml_X6_294 (as := [.int (-2)]) (rest := []) rfl rfl (Nat.le_of_ble_eq_true rfl) (Nat.le_of_ble_eq_true rfl) (by decide) ?_
    show RR 1 1 mX6_no 0 [(0, .int (-2))] [] σ _
    refine RR.ldc2 dX6_no_0 pw_w1271 ?_
    refine RR.s2 (pc' := 4) (lv' := [(0, .int (-2))]) (st' := [.int (-2), .long (-9223372036854775808 : Int64)]) dX6_no_3 rfl ?_
    refine RR.s2 (pc' := 5) (lv' := [(0, .int (-2))]) (st' := [.long (((-2) : Int32).toInt64), .long (-9223372036854775808 : Int64)]) dX6_no_4 rfl ?_
    refine RR.s2 (pc' := 6) (lv' := [(0, .int (-2))]) (st' := [.long ((-9223372036854775808 : Int64) - (((-2) : Int32).toInt64))]) dX6_no_5 rfl ?_
    refine RR.lret dX6_no_6 rfl ?_
    show RR 1 6 mX6_chance 84 [(0, .ref 0), (1, .int x1), (2, .int x2), (3, .int x3), (4, .int x4), (5, .int x5), (6, .int t0)] [.long ((-9223372036854775808 : Int64) - (((-2) : Int32).toInt64))] σ _
    exact RR.lret dX6_chance_84 rfl ⟨_, rfl, H⟩
  · have H := H.2 c
    refine RR.s2 (pc' := 59) (lv' := [(0, .ref 0), (1, .int x1), (2, .int x2), (3, .int x3), (4, .int x4), (5, .int x5), (6, .int t0)]) (st' := [.int x5]) dX6_chance_57 rfl ?_
    refine RR.cS dX6_chance_59 ml_X6_145 (as := [.int x5]) (rest := []) rfl rfl (Nat.le_of_ble_eq_true rfl) (Nat.le_of_ble_eq_true rfl) (by decide) (kb_X6_isTwo (fun c => ?_) (fun c => ?_))
    · have H := H.1 c
      show RR 1 6 mX6_chance 62 [(0, .ref 0), (1, .int x1), (2, .int x2), (3, .int x3), (4, .int x4), (5, .int x5), (6, .int t0)] [.int 1] σ _
      refine RR.brF dX6_chance_62 rfl (by decide) ?_
      refine RR.s2 (pc' := 66) (lv' := [(0, .ref 0), (1, .int x1), (2, .int x2), (3, .int x3), (4, .int x4), (5, .int x5), (6, .int t0)]) (st' := [.ref 0]) dX6_chance_65 rfl ?_
      refine RR.s2 (pc' := 67) (lv' := [(0, .ref 0), (1, .int x1), (2, .int x2), (3, .int x3), (4, .int x4), (5, .int x5), (6, .int t0)]) (st' := [.int x1, .ref 0]) dX6_chance_66 rfl ?_
      refine RR.s2 (pc' := 68) (lv' := [(0, .ref 0), (1, .int x1), (2, .int x2), (3, .int x3), (4, .int x4), (5, .int x5), (6, .int t0)]) (st' := [.int x2, .int x1, .ref 0]) dX6_chance_67 rfl ?_
      refine RR.s2 (pc' := 69) (lv' := [(0, .ref 0), (1, .int x1), (2, .int x2), (3, .int x3), (4, .int x4), (5, .int x5), (6, .int t0)]) (st' := [.int x3, .int x2, .int x1, .ref 0]) dX6_chance_68 rfl ?_
      refine RR.s2 (pc' := 71) (lv' := [(0, .ref 0), (1, .int x1), (2, .int x2), (3, .int x3), (4, .int x4), (5, .int x5), (6, .int t0)]) (st' := [.int x4, .int x3, .int x2, .int x1, .ref 0]) dX6_chance_69 rfl ?_
      refine RR.s2 (pc' := 73) (lv' := [(0, .ref 0), (1, .int x1), (2, .int x2), (3, .int x3), (4, .int x4), (5, .int x5), (6, .int t0)]) (st' := [.int x5, .int x4, .int x3, .int x2, .int x1, .ref 0]) dX6_chance_71 rfl ?_
      refine RR.cV dX6_chance_73 ml_X6_290 rfl rfl (as := [.int x1, .int x2, .int x3, .int x4, .int x5]) (rest := []) rfl rfl (Nat.le_of_ble_eq_true rfl) (Nat.le_of_ble_eq_true rfl) (by decide) (RR.toL H (fun v2 s1 H => ?_))
      show RR 1 6 mX6_chance 76 [(0, .ref 0), (1, .int x1), (2, .int x2), (3, .int x3), (4, .int x4), (5, .int x5), (6, .int t0)] [.long v2] s1 _
      refine RR.s2 (pc' := 84) (lv' := [(0, .ref 0), (1, .int x1), (2, .int x2), (3, .int x3), (4, .int x4), (5, .int x5), (6, .int t0)]) (st' := [.long v2]) dX6_chance_76 rfl ?_
      exact RR.lret dX6_chance_84 rfl ⟨_, rfl, H⟩
    · have H := H.2 c
      show RR 1 6 mX6_chance 62 [(0, .ref 0), (1, .int x1), (2, .int x2), (3, .int x3), (4, .int x4), (5, .int x5), (6, .int t0)] [.int 0] σ _
      refine RR.brT dX6_chance_62 rfl (by decide) ?_
      refine RR.bp (v := (-2)) dX6_chance_79 (by decide) ?_
      refine RR.cS (d' := 1) dX6_chance_81 ml_X6_294 (as := [.int (-2)]) (rest := []) rfl rfl (Nat.le_of_ble_eq_true rfl) (Nat.le_of_ble_eq_true rfl) (by decide) ?_
      show RR 1 1 mX6_no 0 [(0, .int (-2))] [] σ _
      refine RR.ldc2 dX6_no_0 pw_w1271 ?_
      refine RR.s2 (pc' := 4) (lv' := [(0, .int (-2))]) (st' := [.int (-2), .long (-9223372036854775808 : Int64)]) dX6_no_3 rfl ?_
      refine RR.s2 (pc' := 5) (lv' := [(0, .int (-2))]) (st' := [.long (((-2) : Int32).toInt64), .long (-9223372036854775808 : Int64)]) dX6_no_4 rfl ?_
      refine RR.s2 (pc' := 6) (lv' := [(0, .int (-2))]) (st' := [.long ((-9223372036854775808 : Int64) - (((-2) : Int32).toInt64))]) dX6_no_5 rfl ?_
      refine RR.lret dX6_no_6 rfl ?_
      show RR 1 6 mX6_chance 84 [(0, .ref 0), (1, .int x1), (2, .int x2), (3, .int x3), (4, .int x4), (5, .int x5), (6, .int t0)] [.long ((-9223372036854775808 : Int64) - (((-2) : Int32).toInt64))] σ _
      exact RR.lret dX6_chance_84 rfl ⟨_, rfl, H⟩
set_option maxRecDepth 20000 in
theorem b_X6_yearOf {σ : r_St} {K : Int32 → r_St → Prop} {x1 : Int32} {x2 : Int32} {x3 : Int32}  (H : M_X6_laysTold σ (fun s1 => R_X6_yearOf_16 s1 K x2 x3 x1 0 0 0)) : M_X6_yearOf σ K x1 x2 x3 := by
  show RR 1 5 mX6_yearOf 0 [(0, .ref 0), (1, .int x1), (2, .int x2), (3, .int x3)] [] σ (rI K)
  refine RR.s2 (pc' := 1) (lv' := [(0, .ref 0), (1, .int x1), (2, .int x2), (3, .int x3)]) (st' := [.ref 0]) dX6_yearOf_0 rfl ?_
  refine RR.cV dX6_yearOf_1 ml_X6_194 rfl rfl (as := []) (rest := []) rfl rfl (Nat.le_of_ble_eq_true rfl) (Nat.le_of_ble_eq_true rfl) (by decide) (RR.toV H (fun s1 H => ?_))
  show RR 1 5 mX6_yearOf 4 [(0, .ref 0), (1, .int x1), (2, .int x2), (3, .int x3)] [] s1 _
  refine RR.s2 (pc' := 5) (lv' := [(0, .ref 0), (1, .int x1), (2, .int x2), (3, .int x3)]) (st' := [.int x1]) dX6_yearOf_4 rfl ?_
  refine RR.s2 (pc' := 7) (lv' := [(0, .ref 0), (1, .int x1), (2, .int x2), (3, .int x3), (4, .int x1)]) (st' := []) dX6_yearOf_5 rfl ?_
  refine RR.ic (v := 0) dX6_yearOf_7 (by decide) ?_
  refine RR.s2 (pc' := 10) (lv' := [(0, .ref 0), (1, .int x1), (2, .int x2), (3, .int x3), (4, .int x1), (5, .int 0)]) (st' := []) dX6_yearOf_8 rfl ?_
  refine RR.ic (v := 0) dX6_yearOf_10 (by decide) ?_
  refine RR.s2 (pc' := 13) (lv' := [(0, .ref 0), (1, .int x1), (2, .int x2), (3, .int x3), (4, .int x1), (5, .int 0), (6, .int 0)]) (st' := []) dX6_yearOf_11 rfl ?_
  refine RR.ic (v := 0) dX6_yearOf_13 (by decide) ?_
  refine RR.s2 (pc' := 16) (lv' := [(0, .ref 0), (1, .int x1), (2, .int x2), (3, .int x3), (4, .int x1), (5, .int 0), (6, .int 0), (7, .int 0)]) (st' := []) dX6_yearOf_14 rfl ?_
  exact RR.cut [0, 2, 3, 4, 5, 6, 7] rfl H
set_option maxRecDepth 20000 in
theorem b_X6_yearOf_16 {σ : r_St} {K : Int32 → r_St → Prop} {x2 : Int32} {x3 : Int32} {x4 : Int32} {x5 : Int32} {x6 : Int32} {x7 : Int32}  (H : (x2 ≤ x7 → R_X6_yearOf_117 σ K x3 x5 x6) ∧ (¬ (x2 ≤ x7) → ((σ.1 0 2 ≤ 0 → R_X6_yearOf_117 σ K x3 x5 x6) ∧ (¬ (σ.1 0 2 ≤ 0) → (¬ σ.1 0 2 = 0 ∧ (∃ j1 : Nat, x7 = nI j1 ∧ j1 < 40 ∧ ((¬ (sr (σ.1 16 j1) (rm (iu ((1103515245 * x4) + 12345) 16) (σ.1 0 2))) &&& 1 = 1 → R_X6_yearOf_73 σ K x2 x3 ((1103515245 * x4) + 12345) x5 x6 x7 (rm (iu ((1103515245 * x4) + 12345) 16) (σ.1 0 2)) 1) ∧ ((sr (σ.1 16 j1) (rm (iu ((1103515245 * x4) + 12345) 16) (σ.1 0 2))) &&& 1 = 1 → R_X6_yearOf_73 σ K x2 x3 ((1103515245 * x4) + 12345) x5 x6 x7 (rm (iu ((1103515245 * x4) + 12345) 16) (σ.1 0 2)) 0)))))))) : R_X6_yearOf_16 σ K x2 x3 x4 x5 x6 x7 := by
  show RR 1 5 mX6_yearOf 16 [(0, .ref 0), (2, .int x2), (3, .int x3), (4, .int x4), (5, .int x5), (6, .int x6), (7, .int x7)] [] σ (rI K)
  refine RR.s2 (pc' := 18) (lv' := [(0, .ref 0), (2, .int x2), (3, .int x3), (4, .int x4), (5, .int x5), (6, .int x6), (7, .int x7)]) (st' := [.int x7]) dX6_yearOf_16 rfl ?_
  refine RR.s2 (pc' := 19) (lv' := [(0, .ref 0), (2, .int x2), (3, .int x3), (4, .int x4), (5, .int x5), (6, .int x6), (7, .int x7)]) (st' := [.int x2, .int x7]) dX6_yearOf_18 rfl ?_
  refine RR.br dX6_yearOf_19 rfl (fun c => ?_) (fun c => ?_)
  · have H := H.1 c
    exact RR.cut [2, 4, 5] rfl H
  · have H := H.2 c
    refine RR.s2 (pc' := 23) (lv' := [(0, .ref 0), (2, .int x2), (3, .int x3), (4, .int x4), (5, .int x5), (6, .int x6), (7, .int x7)]) (st' := [.ref 0]) dX6_yearOf_22 rfl ?_
    refine RR.getI dX6_yearOf_23 fl_X6_114 rfl rfl ?_
    refine RR.br dX6_yearOf_26 rfl (fun c => ?_) (fun c => ?_)
    · have H := H.1 c
      exact RR.cut [2, 4, 5] rfl H
    · have H := H.2 c
      refine RR.ldcw dX6_yearOf_29 pw_w1280 ?_
      refine RR.s2 (pc' := 34) (lv' := [(0, .ref 0), (2, .int x2), (3, .int x3), (4, .int x4), (5, .int x5), (6, .int x6), (7, .int x7)]) (st' := [.int x4, .int 1103515245]) dX6_yearOf_32 rfl ?_
      refine RR.s2 (pc' := 35) (lv' := [(0, .ref 0), (2, .int x2), (3, .int x3), (4, .int x4), (5, .int x5), (6, .int x6), (7, .int x7)]) (st' := [.int (1103515245 * x4)]) dX6_yearOf_34 rfl ?_
      refine RR.sp (v := 12345) dX6_yearOf_35 (by decide) ?_
      refine RR.s2 (pc' := 39) (lv' := [(0, .ref 0), (2, .int x2), (3, .int x3), (4, .int x4), (5, .int x5), (6, .int x6), (7, .int x7)]) (st' := [.int ((1103515245 * x4) + 12345)]) dX6_yearOf_38 rfl ?_
      refine RR.s2 (pc' := 41) (lv' := [(0, .ref 0), (2, .int x2), (3, .int x3), (4, .int ((1103515245 * x4) + 12345)), (5, .int x5), (6, .int x6), (7, .int x7)]) (st' := []) dX6_yearOf_39 rfl ?_
      refine RR.s2 (pc' := 43) (lv' := [(0, .ref 0), (2, .int x2), (3, .int x3), (4, .int ((1103515245 * x4) + 12345)), (5, .int x5), (6, .int x6), (7, .int x7)]) (st' := [.int ((1103515245 * x4) + 12345)]) dX6_yearOf_41 rfl ?_
      refine RR.bp (v := 16) dX6_yearOf_43 (by decide) ?_
      refine RR.s2 (pc' := 46) (lv' := [(0, .ref 0), (2, .int x2), (3, .int x3), (4, .int ((1103515245 * x4) + 12345)), (5, .int x5), (6, .int x6), (7, .int x7)]) (st' := [.int (iu ((1103515245 * x4) + 12345) 16)]) dX6_yearOf_45 rfl ?_
      refine RR.s2 (pc' := 47) (lv' := [(0, .ref 0), (2, .int x2), (3, .int x3), (4, .int ((1103515245 * x4) + 12345)), (5, .int x5), (6, .int x6), (7, .int x7)]) (st' := [.ref 0, .int (iu ((1103515245 * x4) + 12345) 16)]) dX6_yearOf_46 rfl ?_
      refine RR.getI dX6_yearOf_47 fl_X6_114 rfl rfl ?_
      obtain ⟨h0, H⟩ := H
      refine RR.irem dX6_yearOf_50 h0 ?_
      show RR 1 5 mX6_yearOf 51 [(0, .ref 0), (2, .int x2), (3, .int x3), (4, .int ((1103515245 * x4) + 12345)), (5, .int x5), (6, .int x6), (7, .int x7)] [.int (rm (iu ((1103515245 * x4) + 12345) 16) (σ.1 0 2))] σ _
      refine RR.s2 (pc' := 53) (lv' := [(0, .ref 0), (2, .int x2), (3, .int x3), (4, .int ((1103515245 * x4) + 12345)), (5, .int x5), (6, .int x6), (7, .int x7), (8, .int (rm (iu ((1103515245 * x4) + 12345) 16) (σ.1 0 2)))]) (st' := []) dX6_yearOf_51 rfl ?_
      refine RR.s2 (pc' := 54) (lv' := [(0, .ref 0), (2, .int x2), (3, .int x3), (4, .int ((1103515245 * x4) + 12345)), (5, .int x5), (6, .int x6), (7, .int x7), (8, .int (rm (iu ((1103515245 * x4) + 12345) 16) (σ.1 0 2)))]) (st' := [.ref 0]) dX6_yearOf_53 rfl ?_
      refine RR.getR dX6_yearOf_54 fl_X6_55 rfl rfl ?_
      refine RR.s2 (pc' := 59) (lv' := [(0, .ref 0), (2, .int x2), (3, .int x3), (4, .int ((1103515245 * x4) + 12345)), (5, .int x5), (6, .int x6), (7, .int x7), (8, .int (rm (iu ((1103515245 * x4) + 12345) 16) (σ.1 0 2)))]) (st' := [.int x7, .ref 16]) dX6_yearOf_57 rfl ?_
      obtain ⟨j1, e2, b3, H⟩ := H
      refine RR.iald dX6_yearOf_59 rfl e2 b3 ?_
      refine RR.s2 (pc' := 62) (lv' := [(0, .ref 0), (2, .int x2), (3, .int x3), (4, .int ((1103515245 * x4) + 12345)), (5, .int x5), (6, .int x6), (7, .int x7), (8, .int (rm (iu ((1103515245 * x4) + 12345) 16) (σ.1 0 2)))]) (st' := [.int (rm (iu ((1103515245 * x4) + 12345) 16) (σ.1 0 2)), .int (σ.1 16 j1)]) dX6_yearOf_60 rfl ?_
      refine RR.cS (d' := 1) dX6_yearOf_62 ml_X6_127 (as := [.int (σ.1 16 j1), .int (rm (iu ((1103515245 * x4) + 12345) 16) (σ.1 0 2))]) (rest := []) rfl rfl (Nat.le_of_ble_eq_true rfl) (Nat.le_of_ble_eq_true rfl) (by decide) ?_
      show RR 1 1 mX6_isIn 0 [(0, .int (σ.1 16 j1)), (1, .int (rm (iu ((1103515245 * x4) + 12345) 16) (σ.1 0 2)))] [] σ _
      refine RR.s2 (pc' := 1) (lv' := [(0, .int (σ.1 16 j1)), (1, .int (rm (iu ((1103515245 * x4) + 12345) 16) (σ.1 0 2)))]) (st' := [.int (σ.1 16 j1)]) dX6_isIn_0 rfl ?_
      refine RR.s2 (pc' := 2) (lv' := [(0, .int (σ.1 16 j1)), (1, .int (rm (iu ((1103515245 * x4) + 12345) 16) (σ.1 0 2)))]) (st' := [.int (rm (iu ((1103515245 * x4) + 12345) 16) (σ.1 0 2)), .int (σ.1 16 j1)]) dX6_isIn_1 rfl ?_
      refine RR.s2 (pc' := 3) (lv' := [(0, .int (σ.1 16 j1)), (1, .int (rm (iu ((1103515245 * x4) + 12345) 16) (σ.1 0 2)))]) (st' := [.int (sr (σ.1 16 j1) (rm (iu ((1103515245 * x4) + 12345) 16) (σ.1 0 2)))]) dX6_isIn_2 rfl ?_
      refine RR.ic (v := 1) dX6_isIn_3 (by decide) ?_
      refine RR.s2 (pc' := 5) (lv' := [(0, .int (σ.1 16 j1)), (1, .int (rm (iu ((1103515245 * x4) + 12345) 16) (σ.1 0 2)))]) (st' := [.int ((sr (σ.1 16 j1) (rm (iu ((1103515245 * x4) + 12345) 16) (σ.1 0 2))) &&& 1)]) dX6_isIn_4 rfl ?_
      refine RR.ic (v := 1) dX6_isIn_5 (by decide) ?_
      refine RR.br dX6_isIn_6 rfl (fun c => ?_) (fun c => ?_)
      · have H := H.1 c
        refine RR.ic (v := 0) dX6_isIn_13 (by decide) ?_
        refine RR.zret dX6_isIn_14 rfl (by decide) ?_
        show RR 1 5 mX6_yearOf 65 [(0, .ref 0), (2, .int x2), (3, .int x3), (4, .int ((1103515245 * x4) + 12345)), (5, .int x5), (6, .int x6), (7, .int x7), (8, .int (rm (iu ((1103515245 * x4) + 12345) 16) (σ.1 0 2)))] [.int 0] σ _
        refine RR.brF dX6_yearOf_65 rfl (by decide) ?_
        refine RR.ic (v := 1) dX6_yearOf_68 (by decide) ?_
        refine RR.s2 (pc' := 73) (lv' := [(0, .ref 0), (2, .int x2), (3, .int x3), (4, .int ((1103515245 * x4) + 12345)), (5, .int x5), (6, .int x6), (7, .int x7), (8, .int (rm (iu ((1103515245 * x4) + 12345) 16) (σ.1 0 2)))]) (st' := [.int 1]) dX6_yearOf_69 rfl ?_
        exact RR.cut [0, 1, 2, 3, 4, 5, 6, 7] rfl H
      · have H := H.2 (Classical.not_not.mp c)
        refine RR.ic (v := 1) dX6_isIn_9 (by decide) ?_
        refine RR.s2 (pc' := 14) (lv' := [(0, .int (σ.1 16 j1)), (1, .int (rm (iu ((1103515245 * x4) + 12345) 16) (σ.1 0 2)))]) (st' := [.int 1]) dX6_isIn_10 rfl ?_
        refine RR.zret dX6_isIn_14 rfl (by decide) ?_
        show RR 1 5 mX6_yearOf 65 [(0, .ref 0), (2, .int x2), (3, .int x3), (4, .int ((1103515245 * x4) + 12345)), (5, .int x5), (6, .int x6), (7, .int x7), (8, .int (rm (iu ((1103515245 * x4) + 12345) 16) (σ.1 0 2)))] [.int 1] σ _
        refine RR.brT dX6_yearOf_65 rfl (by decide) ?_
        refine RR.ic (v := 0) dX6_yearOf_72 (by decide) ?_
        exact RR.cut [0, 1, 2, 3, 4, 5, 6, 7] rfl H
set_option maxRecDepth 20000 in
theorem b_X6_yearOf_117 {σ : r_St} {K : Int32 → r_St → Prop} {x3 : Int32} {x5 : Int32} {x6 : Int32}  (H : (¬ x3 = 0 → K x6 σ) ∧ (x3 = 0 → K x5 σ)) : R_X6_yearOf_117 σ K x3 x5 x6 := by
  show RR 1 5 mX6_yearOf 117 [(3, .int x3), (5, .int x5), (6, .int x6)] [] σ (rI K)
  refine RR.s2 (pc' := 118) (lv' := [(3, .int x3), (5, .int x5), (6, .int x6)]) (st' := [.int x3]) dX6_yearOf_117 rfl ?_
  refine RR.br dX6_yearOf_118 rfl (fun c => ?_) (fun c => ?_)
  · have H := H.1 c
    refine RR.s2 (pc' := 128) (lv' := [(3, .int x3), (5, .int x5), (6, .int x6)]) (st' := [.int x6]) dX6_yearOf_126 rfl ?_
    exact RR.iret dX6_yearOf_128 rfl ⟨_, rfl, H⟩
  · have H := H.2 (Classical.not_not.mp c)
    refine RR.s2 (pc' := 123) (lv' := [(3, .int x3), (5, .int x5), (6, .int x6)]) (st' := [.int x5]) dX6_yearOf_121 rfl ?_
    refine RR.s2 (pc' := 128) (lv' := [(3, .int x3), (5, .int x5), (6, .int x6)]) (st' := [.int x5]) dX6_yearOf_123 rfl ?_
    exact RR.iret dX6_yearOf_128 rfl ⟨_, rfl, H⟩
set_option maxRecDepth 20000 in
theorem b_X6_yearOf_73 {σ : r_St} {K : Int32 → r_St → Prop} {x2 : Int32} {x3 : Int32} {x4 : Int32} {x5 : Int32} {x6 : Int32} {x7 : Int32} {x8 : Int32} {t0 : Int32}  (H : (t0 = 0 → R_X6_yearOf_87 σ K x2 x3 x4 x6 x7 x8 t0 0 x5) ∧ (¬ (t0 = 0) → R_X6_yearOf_87 σ K x2 x3 x4 x6 x7 x8 t0 1 x5)) : R_X6_yearOf_73 σ K x2 x3 x4 x5 x6 x7 x8 t0 := by
  show RR 1 5 mX6_yearOf 73 [(0, .ref 0), (2, .int x2), (3, .int x3), (4, .int x4), (5, .int x5), (6, .int x6), (7, .int x7), (8, .int x8)] [.int t0] σ (rI K)
  refine RR.s2 (pc' := 75) (lv' := [(0, .ref 0), (2, .int x2), (3, .int x3), (4, .int x4), (5, .int x5), (6, .int x6), (7, .int x7), (8, .int x8), (9, .int t0)]) (st' := []) dX6_yearOf_73 rfl ?_
  refine RR.s2 (pc' := 77) (lv' := [(0, .ref 0), (2, .int x2), (3, .int x3), (4, .int x4), (5, .int x5), (6, .int x6), (7, .int x7), (8, .int x8), (9, .int t0)]) (st' := [.int x5]) dX6_yearOf_75 rfl ?_
  refine RR.s2 (pc' := 79) (lv' := [(0, .ref 0), (2, .int x2), (3, .int x3), (4, .int x4), (5, .int x5), (6, .int x6), (7, .int x7), (8, .int x8), (9, .int t0)]) (st' := [.int t0, .int x5]) dX6_yearOf_77 rfl ?_
  refine RR.br dX6_yearOf_79 rfl (fun c => ?_) (fun c => ?_)
  · have H := H.1 c
    refine RR.ic (v := 0) dX6_yearOf_86 (by decide) ?_
    exact RR.cut [0, 1, 2, 3, 5, 6, 7, 8] rfl H
  · have H := H.2 c
    refine RR.ic (v := 1) dX6_yearOf_82 (by decide) ?_
    refine RR.s2 (pc' := 87) (lv' := [(0, .ref 0), (2, .int x2), (3, .int x3), (4, .int x4), (5, .int x5), (6, .int x6), (7, .int x7), (8, .int x8), (9, .int t0)]) (st' := [.int 1, .int x5]) dX6_yearOf_83 rfl ?_
    exact RR.cut [0, 1, 2, 3, 5, 6, 7, 8] rfl H
set_option maxRecDepth 20000 in
theorem b_X6_yearOf_87 {σ : r_St} {K : Int32 → r_St → Prop} {x2 : Int32} {x3 : Int32} {x4 : Int32} {x6 : Int32} {x7 : Int32} {x8 : Int32} {x9 : Int32} {t0 : Int32} {t1 : Int32}  (H : (x9 = 0 → R_X6_yearOf_16 σ K x2 x3 x4 (t1 + t0) (x6 + 0) (x7 + 1)) ∧ (¬ (x9 = 0) → (∃ j1 : Nat, x8 = nI j1 ∧ j1 < 9 ∧ R_X6_yearOf_16 σ K x2 x3 x4 (t1 + t0) (x6 + (σ.1 2 j1)) (x7 + 1)))) : R_X6_yearOf_87 σ K x2 x3 x4 x6 x7 x8 x9 t0 t1 := by
  show RR 1 5 mX6_yearOf 87 [(0, .ref 0), (2, .int x2), (3, .int x3), (4, .int x4), (6, .int x6), (7, .int x7), (8, .int x8), (9, .int x9)] [.int t0, .int t1] σ (rI K)
  refine RR.s2 (pc' := 88) (lv' := [(0, .ref 0), (2, .int x2), (3, .int x3), (4, .int x4), (6, .int x6), (7, .int x7), (8, .int x8), (9, .int x9)]) (st' := [.int (t1 + t0)]) dX6_yearOf_87 rfl ?_
  refine RR.s2 (pc' := 90) (lv' := [(0, .ref 0), (2, .int x2), (3, .int x3), (4, .int x4), (5, .int (t1 + t0)), (6, .int x6), (7, .int x7), (8, .int x8), (9, .int x9)]) (st' := []) dX6_yearOf_88 rfl ?_
  refine RR.s2 (pc' := 92) (lv' := [(0, .ref 0), (2, .int x2), (3, .int x3), (4, .int x4), (5, .int (t1 + t0)), (6, .int x6), (7, .int x7), (8, .int x8), (9, .int x9)]) (st' := [.int x6]) dX6_yearOf_90 rfl ?_
  refine RR.s2 (pc' := 94) (lv' := [(0, .ref 0), (2, .int x2), (3, .int x3), (4, .int x4), (5, .int (t1 + t0)), (6, .int x6), (7, .int x7), (8, .int x8), (9, .int x9)]) (st' := [.int x9, .int x6]) dX6_yearOf_92 rfl ?_
  refine RR.br dX6_yearOf_94 rfl (fun c => ?_) (fun c => ?_)
  · have H := H.1 c
    refine RR.ic (v := 0) dX6_yearOf_107 (by decide) ?_
    refine RR.s2 (pc' := 109) (lv' := [(0, .ref 0), (2, .int x2), (3, .int x3), (4, .int x4), (5, .int (t1 + t0)), (6, .int x6), (7, .int x7), (8, .int x8), (9, .int x9)]) (st' := [.int (x6 + 0)]) dX6_yearOf_108 rfl ?_
    refine RR.s2 (pc' := 111) (lv' := [(0, .ref 0), (2, .int x2), (3, .int x3), (4, .int x4), (5, .int (t1 + t0)), (6, .int (x6 + 0)), (7, .int x7), (8, .int x8), (9, .int x9)]) (st' := []) dX6_yearOf_109 rfl ?_
    refine RR.inc (c := 1) (lv' := [(0, .ref 0), (2, .int x2), (3, .int x3), (4, .int x4), (5, .int (t1 + t0)), (6, .int (x6 + 0)), (7, .int (x7 + 1)), (8, .int x8), (9, .int x9)]) dX6_yearOf_111 rfl (by decide) (by decide) rfl ?_
    refine RR.s2 (pc' := 16) (lv' := [(0, .ref 0), (2, .int x2), (3, .int x3), (4, .int x4), (5, .int (t1 + t0)), (6, .int (x6 + 0)), (7, .int (x7 + 1)), (8, .int x8), (9, .int x9)]) (st' := []) dX6_yearOf_114 rfl ?_
    exact RR.cut [0, 1, 2, 3, 4, 5, 6] rfl H
  · have H := H.2 c
    refine RR.s2 (pc' := 98) (lv' := [(0, .ref 0), (2, .int x2), (3, .int x3), (4, .int x4), (5, .int (t1 + t0)), (6, .int x6), (7, .int x7), (8, .int x8), (9, .int x9)]) (st' := [.ref 0, .int x6]) dX6_yearOf_97 rfl ?_
    refine RR.getR dX6_yearOf_98 fl_X6_13 rfl rfl ?_
    refine RR.s2 (pc' := 103) (lv' := [(0, .ref 0), (2, .int x2), (3, .int x3), (4, .int x4), (5, .int (t1 + t0)), (6, .int x6), (7, .int x7), (8, .int x8), (9, .int x9)]) (st' := [.int x8, .ref 2, .int x6]) dX6_yearOf_101 rfl ?_
    obtain ⟨j1, e2, b3, H⟩ := H
    refine RR.iald dX6_yearOf_103 rfl e2 b3 ?_
    refine RR.s2 (pc' := 108) (lv' := [(0, .ref 0), (2, .int x2), (3, .int x3), (4, .int x4), (5, .int (t1 + t0)), (6, .int x6), (7, .int x7), (8, .int x8), (9, .int x9)]) (st' := [.int (σ.1 2 j1), .int x6]) dX6_yearOf_104 rfl ?_
    refine RR.s2 (pc' := 109) (lv' := [(0, .ref 0), (2, .int x2), (3, .int x3), (4, .int x4), (5, .int (t1 + t0)), (6, .int x6), (7, .int x7), (8, .int x8), (9, .int x9)]) (st' := [.int (x6 + (σ.1 2 j1))]) dX6_yearOf_108 rfl ?_
    refine RR.s2 (pc' := 111) (lv' := [(0, .ref 0), (2, .int x2), (3, .int x3), (4, .int x4), (5, .int (t1 + t0)), (6, .int (x6 + (σ.1 2 j1))), (7, .int x7), (8, .int x8), (9, .int x9)]) (st' := []) dX6_yearOf_109 rfl ?_
    refine RR.inc (c := 1) (lv' := [(0, .ref 0), (2, .int x2), (3, .int x3), (4, .int x4), (5, .int (t1 + t0)), (6, .int (x6 + (σ.1 2 j1))), (7, .int (x7 + 1)), (8, .int x8), (9, .int x9)]) dX6_yearOf_111 rfl (by decide) (by decide) rfl ?_
    refine RR.s2 (pc' := 16) (lv' := [(0, .ref 0), (2, .int x2), (3, .int x3), (4, .int x4), (5, .int (t1 + t0)), (6, .int (x6 + (σ.1 2 j1))), (7, .int (x7 + 1)), (8, .int x8), (9, .int x9)]) (st' := []) dX6_yearOf_114 rfl ?_
    exact RR.cut [0, 1, 2, 3, 4, 5, 6] rfl H
set_option maxRecDepth 20000 in
theorem b_X6_year {σ : r_St} {K : Int32 → r_St → Prop} {x1 : Int32} {x2 : Int32} {x3 : Int32}  (H : (IN x2 1 40 → ((IN x3 0 1 → M_X6_yearOf σ (fun v2 s1 => K v2 s1) x1 x2 x3) ∧ (¬ IN x3 0 1 → K (-2) σ))) ∧ (¬ IN x2 1 40 → K (-2) σ)) : M_X6_year σ K x1 x2 x3 := by
  show RR 1 6 mX6_year 0 [(0, .ref 0), (1, .int x1), (2, .int x2), (3, .int x3)] [] σ (rI K)
  refine RR.s2 (pc' := 1) (lv' := [(0, .ref 0), (1, .int x1), (2, .int x2), (3, .int x3)]) (st' := [.int x2]) dX6_year_0 rfl ?_
  refine RR.ic (v := 1) dX6_year_1 (by decide) ?_
  refine RR.bp (v := 40) dX6_year_2 (by decide) ?_
  refine RR.cS dX6_year_4 ml_X6_106 (as := [.int x2, .int 1, .int 40]) (rest := []) rfl rfl (Nat.le_of_ble_eq_true rfl) (Nat.le_of_ble_eq_true rfl) (by decide) (kb_X6_in (fun c => ?_) (fun c => ?_))
  · have H := H.1 c
    show RR 1 6 mX6_year 7 [(0, .ref 0), (1, .int x1), (2, .int x2), (3, .int x3)] [.int 1] σ _
    refine RR.brF dX6_year_7 rfl (by decide) ?_
    refine RR.s2 (pc' := 11) (lv' := [(0, .ref 0), (1, .int x1), (2, .int x2), (3, .int x3)]) (st' := [.int x3]) dX6_year_10 rfl ?_
    refine RR.cS dX6_year_11 ml_X6_145 (as := [.int x3]) (rest := []) rfl rfl (Nat.le_of_ble_eq_true rfl) (Nat.le_of_ble_eq_true rfl) (by decide) (kb_X6_isTwo (fun c => ?_) (fun c => ?_))
    · have H := H.1 c
      show RR 1 6 mX6_year 14 [(0, .ref 0), (1, .int x1), (2, .int x2), (3, .int x3)] [.int 1] σ _
      refine RR.brF dX6_year_14 rfl (by decide) ?_
      refine RR.s2 (pc' := 18) (lv' := [(0, .ref 0), (1, .int x1), (2, .int x2), (3, .int x3)]) (st' := [.ref 0]) dX6_year_17 rfl ?_
      refine RR.s2 (pc' := 19) (lv' := [(0, .ref 0), (1, .int x1), (2, .int x2), (3, .int x3)]) (st' := [.int x1, .ref 0]) dX6_year_18 rfl ?_
      refine RR.s2 (pc' := 20) (lv' := [(0, .ref 0), (1, .int x1), (2, .int x2), (3, .int x3)]) (st' := [.int x2, .int x1, .ref 0]) dX6_year_19 rfl ?_
      refine RR.s2 (pc' := 21) (lv' := [(0, .ref 0), (1, .int x1), (2, .int x2), (3, .int x3)]) (st' := [.int x3, .int x2, .int x1, .ref 0]) dX6_year_20 rfl ?_
      refine RR.cV dX6_year_21 ml_X6_299 rfl rfl (as := [.int x1, .int x2, .int x3]) (rest := []) rfl rfl (Nat.le_of_ble_eq_true rfl) (Nat.le_of_ble_eq_true rfl) (by decide) (RR.toI H (fun v2 s1 H => ?_))
      show RR 1 6 mX6_year 24 [(0, .ref 0), (1, .int x1), (2, .int x2), (3, .int x3)] [.int v2] s1 _
      refine RR.s2 (pc' := 29) (lv' := [(0, .ref 0), (1, .int x1), (2, .int x2), (3, .int x3)]) (st' := [.int v2]) dX6_year_24 rfl ?_
      exact RR.iret dX6_year_29 rfl ⟨_, rfl, H⟩
    · have H := H.2 c
      show RR 1 6 mX6_year 14 [(0, .ref 0), (1, .int x1), (2, .int x2), (3, .int x3)] [.int 0] σ _
      refine RR.brT dX6_year_14 rfl (by decide) ?_
      refine RR.bp (v := (-2)) dX6_year_27 (by decide) ?_
      exact RR.iret dX6_year_29 rfl ⟨_, rfl, H⟩
  · have H := H.2 c
    show RR 1 6 mX6_year 7 [(0, .ref 0), (1, .int x1), (2, .int x2), (3, .int x3)] [.int 0] σ _
    refine RR.brT dX6_year_7 rfl (by decide) ?_
    refine RR.bp (v := (-2)) dX6_year_27 (by decide) ?_
    exact RR.iret dX6_year_29 rfl ⟨_, rfl, H⟩
set_option maxRecDepth 20000 in
theorem b_X6_sheet {σ : r_St} {K : Int32 → r_St → Prop} {x1 : Int32} {x2 : Int32} {x3 : Int32}  (H : (IN x1 0 3 → ((IN x2 0 2 → ((x3 ≤ 60 → ((0 ≤ x3 → (∃ j1 : Nat, x1 = nI j1 ∧ j1 < 4 ∧ (∃ j4 : Nat, x1 = nI j4 ∧ j4 < 4 ∧ (∃ j7 : Nat, x1 = nI j7 ∧ j7 < 4 ∧ R_X6_sheet_59 (wI (wI (wI σ 27 j1 1) 28 j4 x2) 29 j7 x3) K x1 x3 0)))) ∧ (¬ (0 ≤ x3) → K ((-10) - 5) (wI σ 0 41 5)))) ∧ (¬ (x3 ≤ 60) → K (-2) σ))) ∧ (¬ IN x2 0 2 → K (-2) σ))) ∧ (¬ IN x1 0 3 → K (-2) σ)) : M_X6_sheet σ K x1 x2 x3 := by
  show RR 1 3 mX6_sheet 0 [(0, .ref 0), (1, .int x1), (2, .int x2), (3, .int x3)] [] σ (rI K)
  refine RR.s2 (pc' := 1) (lv' := [(0, .ref 0), (1, .int x1), (2, .int x2), (3, .int x3)]) (st' := [.int x1]) dX6_sheet_0 rfl ?_
  refine RR.cS dX6_sheet_1 ml_X6_157 (as := [.int x1]) (rest := []) rfl rfl (Nat.le_of_ble_eq_true rfl) (Nat.le_of_ble_eq_true rfl) (by decide) (kb_X6_isSheet (fun c => ?_) (fun c => ?_))
  · have H := H.1 c
    show RR 1 3 mX6_sheet 4 [(0, .ref 0), (1, .int x1), (2, .int x2), (3, .int x3)] [.int 1] σ _
    refine RR.brF dX6_sheet_4 rfl (by decide) ?_
    refine RR.s2 (pc' := 8) (lv' := [(0, .ref 0), (1, .int x1), (2, .int x2), (3, .int x3)]) (st' := [.int x2]) dX6_sheet_7 rfl ?_
    refine RR.ic (v := 0) dX6_sheet_8 (by decide) ?_
    refine RR.ic (v := 2) dX6_sheet_9 (by decide) ?_
    refine RR.cS dX6_sheet_10 ml_X6_106 (as := [.int x2, .int 0, .int 2]) (rest := []) rfl rfl (Nat.le_of_ble_eq_true rfl) (Nat.le_of_ble_eq_true rfl) (by decide) (kb_X6_in (fun c => ?_) (fun c => ?_))
    · have H := H.1 c
      show RR 1 3 mX6_sheet 13 [(0, .ref 0), (1, .int x1), (2, .int x2), (3, .int x3)] [.int 1] σ _
      refine RR.brF dX6_sheet_13 rfl (by decide) ?_
      refine RR.s2 (pc' := 17) (lv' := [(0, .ref 0), (1, .int x1), (2, .int x2), (3, .int x3)]) (st' := [.int x3]) dX6_sheet_16 rfl ?_
      refine RR.bp (v := 60) dX6_sheet_17 (by decide) ?_
      refine RR.br dX6_sheet_19 rfl (fun c => ?_) (fun c => ?_)
      · have H := H.1 c
        refine RR.s2 (pc' := 26) (lv' := [(0, .ref 0), (1, .int x1), (2, .int x2), (3, .int x3)]) (st' := [.int x3]) dX6_sheet_25 rfl ?_
        refine RR.br dX6_sheet_26 rfl (fun c => ?_) (fun c => ?_)
        · have H := H.1 c
          refine RR.s2 (pc' := 36) (lv' := [(0, .ref 0), (1, .int x1), (2, .int x2), (3, .int x3)]) (st' := [.ref 0]) dX6_sheet_35 rfl ?_
          refine RR.getR dX6_sheet_36 fl_X6_88 rfl rfl ?_
          refine RR.s2 (pc' := 40) (lv' := [(0, .ref 0), (1, .int x1), (2, .int x2), (3, .int x3)]) (st' := [.int x1, .ref 27]) dX6_sheet_39 rfl ?_
          refine RR.ic (v := 1) dX6_sheet_40 (by decide) ?_
          obtain ⟨j1, e2, b3, H⟩ := H
          refine RR.bast dX6_sheet_41 rfl e2 b3 rfl ?_
          refine RR.s2 (pc' := 43) (lv' := [(0, .ref 0), (1, .int x1), (2, .int x2), (3, .int x3)]) (st' := [.ref 0]) dX6_sheet_42 rfl ?_
          refine RR.getR dX6_sheet_43 fl_X6_92 rfl rfl ?_
          refine RR.s2 (pc' := 47) (lv' := [(0, .ref 0), (1, .int x1), (2, .int x2), (3, .int x3)]) (st' := [.int x1, .ref 28]) dX6_sheet_46 rfl ?_
          refine RR.s2 (pc' := 48) (lv' := [(0, .ref 0), (1, .int x1), (2, .int x2), (3, .int x3)]) (st' := [.int x2, .int x1, .ref 28]) dX6_sheet_47 rfl ?_
          obtain ⟨j4, e5, b6, H⟩ := H
          refine RR.iast dX6_sheet_48 rfl e5 b6 ?_
          refine RR.s2 (pc' := 50) (lv' := [(0, .ref 0), (1, .int x1), (2, .int x2), (3, .int x3)]) (st' := [.ref 0]) dX6_sheet_49 rfl ?_
          refine RR.getR dX6_sheet_50 fl_X6_95 rfl rfl ?_
          refine RR.s2 (pc' := 54) (lv' := [(0, .ref 0), (1, .int x1), (2, .int x2), (3, .int x3)]) (st' := [.int x1, .ref 29]) dX6_sheet_53 rfl ?_
          refine RR.s2 (pc' := 55) (lv' := [(0, .ref 0), (1, .int x1), (2, .int x2), (3, .int x3)]) (st' := [.int x3, .int x1, .ref 29]) dX6_sheet_54 rfl ?_
          obtain ⟨j7, e8, b9, H⟩ := H
          refine RR.iast dX6_sheet_55 rfl e8 b9 ?_
          refine RR.ic (v := 0) dX6_sheet_56 (by decide) ?_
          refine RR.s2 (pc' := 59) (lv' := [(0, .ref 0), (1, .int x1), (2, .int x2), (3, .int x3), (4, .int 0)]) (st' := []) dX6_sheet_57 rfl ?_
          exact RR.cut [0, 1, 3, 4] rfl H
        · have H := H.2 c
          refine RR.s2 (pc' := 30) (lv' := [(0, .ref 0), (1, .int x1), (2, .int x2), (3, .int x3)]) (st' := [.ref 0]) dX6_sheet_29 rfl ?_
          refine RR.ic (v := 5) dX6_sheet_30 (by decide) ?_
          refine RR.cV (d' := 1) dX6_sheet_31 ml_X6_160 rfl rfl (as := [.int 5]) (rest := []) rfl rfl (Nat.le_of_ble_eq_true rfl) (Nat.le_of_ble_eq_true rfl) (by decide) ?_
          show RR 1 1 mX6_meets 0 [(0, .ref 0), (1, .int 5)] [] σ _
          refine RR.s2 (pc' := 1) (lv' := [(0, .ref 0), (1, .int 5)]) (st' := [.ref 0]) dX6_meets_0 rfl ?_
          refine RR.s2 (pc' := 2) (lv' := [(0, .ref 0), (1, .int 5)]) (st' := [.int 5, .ref 0]) dX6_meets_1 rfl ?_
          refine RR.putI dX6_meets_2 fp_X6_302 rfl rfl ?_
          refine RR.bp (v := (-10)) dX6_meets_5 (by decide) ?_
          refine RR.s2 (pc' := 8) (lv' := [(0, .ref 0), (1, .int 5)]) (st' := [.int 5, .int (-10)]) dX6_meets_7 rfl ?_
          refine RR.s2 (pc' := 9) (lv' := [(0, .ref 0), (1, .int 5)]) (st' := [.int ((-10) - 5)]) dX6_meets_8 rfl ?_
          refine RR.iret dX6_meets_9 rfl ?_
          show RR 1 3 mX6_sheet 34 [(0, .ref 0), (1, .int x1), (2, .int x2), (3, .int x3)] [.int ((-10) - 5)] (wI σ 0 41 5) _
          exact RR.iret dX6_sheet_34 rfl ⟨_, rfl, H⟩
      · have H := H.2 c
        refine RR.bp (v := (-2)) dX6_sheet_22 (by decide) ?_
        exact RR.iret dX6_sheet_24 rfl ⟨_, rfl, H⟩
    · have H := H.2 c
      show RR 1 3 mX6_sheet 13 [(0, .ref 0), (1, .int x1), (2, .int x2), (3, .int x3)] [.int 0] σ _
      refine RR.brT dX6_sheet_13 rfl (by decide) ?_
      refine RR.bp (v := (-2)) dX6_sheet_22 (by decide) ?_
      exact RR.iret dX6_sheet_24 rfl ⟨_, rfl, H⟩
  · have H := H.2 c
    show RR 1 3 mX6_sheet 4 [(0, .ref 0), (1, .int x1), (2, .int x2), (3, .int x3)] [.int 0] σ _
    refine RR.brT dX6_sheet_4 rfl (by decide) ?_
    refine RR.bp (v := (-2)) dX6_sheet_22 (by decide) ?_
    exact RR.iret dX6_sheet_24 rfl ⟨_, rfl, H⟩
set_option maxRecDepth 20000 in
theorem b_X6_sheet_59 {σ : r_St} {K : Int32 → r_St → Prop} {x1 : Int32} {x3 : Int32} {x4 : Int32}  (H : (60 ≤ x4 → K x3 σ) ∧ (¬ (60 ≤ x4) → (∃ j1 : Nat, (60 * x1) + x4 = nI j1 ∧ j1 < 240 ∧ R_X6_sheet_59 (wI σ 30 j1 0) K x1 x3 (x4 + 1)))) : R_X6_sheet_59 σ K x1 x3 x4 := by
  show RR 1 3 mX6_sheet 59 [(0, .ref 0), (1, .int x1), (3, .int x3), (4, .int x4)] [] σ (rI K)
  refine RR.s2 (pc' := 61) (lv' := [(0, .ref 0), (1, .int x1), (3, .int x3), (4, .int x4)]) (st' := [.int x4]) dX6_sheet_59 rfl ?_
  refine RR.bp (v := 60) dX6_sheet_61 (by decide) ?_
  refine RR.br dX6_sheet_63 rfl (fun c => ?_) (fun c => ?_)
  · have H := H.1 c
    refine RR.s2 (pc' := 86) (lv' := [(0, .ref 0), (1, .int x1), (3, .int x3), (4, .int x4)]) (st' := [.int x3]) dX6_sheet_85 rfl ?_
    exact RR.iret dX6_sheet_86 rfl ⟨_, rfl, H⟩
  · have H := H.2 c
    refine RR.s2 (pc' := 67) (lv' := [(0, .ref 0), (1, .int x1), (3, .int x3), (4, .int x4)]) (st' := [.ref 0]) dX6_sheet_66 rfl ?_
    refine RR.getR dX6_sheet_67 fl_X6_98 rfl rfl ?_
    refine RR.bp (v := 60) dX6_sheet_70 (by decide) ?_
    refine RR.s2 (pc' := 73) (lv' := [(0, .ref 0), (1, .int x1), (3, .int x3), (4, .int x4)]) (st' := [.int x1, .int 60, .ref 30]) dX6_sheet_72 rfl ?_
    refine RR.s2 (pc' := 74) (lv' := [(0, .ref 0), (1, .int x1), (3, .int x3), (4, .int x4)]) (st' := [.int (60 * x1), .ref 30]) dX6_sheet_73 rfl ?_
    refine RR.s2 (pc' := 76) (lv' := [(0, .ref 0), (1, .int x1), (3, .int x3), (4, .int x4)]) (st' := [.int x4, .int (60 * x1), .ref 30]) dX6_sheet_74 rfl ?_
    refine RR.s2 (pc' := 77) (lv' := [(0, .ref 0), (1, .int x1), (3, .int x3), (4, .int x4)]) (st' := [.int ((60 * x1) + x4), .ref 30]) dX6_sheet_76 rfl ?_
    refine RR.ic (v := 0) dX6_sheet_77 (by decide) ?_
    obtain ⟨j1, e2, b3, H⟩ := H
    refine RR.iast dX6_sheet_78 rfl e2 b3 ?_
    refine RR.inc (c := 1) (lv' := [(0, .ref 0), (1, .int x1), (3, .int x3), (4, .int (x4 + 1))]) dX6_sheet_79 rfl (by decide) (by decide) rfl ?_
    refine RR.s2 (pc' := 59) (lv' := [(0, .ref 0), (1, .int x1), (3, .int x3), (4, .int (x4 + 1))]) (st' := []) dX6_sheet_82 rfl ?_
    exact RR.cut [0, 1, 2, 3] rfl H
set_option maxRecDepth 20000 in
theorem b_X6_lose {σ : r_St} {K : Int32 → r_St → Prop} {x1 : Int32}  (H : (IN x1 0 3 → (∃ j1 : Nat, x1 = nI j1 ∧ j1 < 4 ∧ ((¬ σ.1 27 j1 = 0 → (∃ j4 : Nat, x1 = nI j4 ∧ j4 < 4 ∧ (∃ j7 : Nat, x1 = nI j7 ∧ j7 < 4 ∧ K ((wI σ 27 j4 0).1 29 j7) (wI σ 27 j4 0)))) ∧ (σ.1 27 j1 = 0 → K ((-10) - 1) (wI σ 0 41 1))))) ∧ (¬ IN x1 0 3 → K (-2) σ)) : M_X6_lose σ K x1 := by
  show RR 1 3 mX6_lose 0 [(0, .ref 0), (1, .int x1)] [] σ (rI K)
  refine RR.s2 (pc' := 1) (lv' := [(0, .ref 0), (1, .int x1)]) (st' := [.int x1]) dX6_lose_0 rfl ?_
  refine RR.cS dX6_lose_1 ml_X6_157 (as := [.int x1]) (rest := []) rfl rfl (Nat.le_of_ble_eq_true rfl) (Nat.le_of_ble_eq_true rfl) (by decide) (kb_X6_isSheet (fun c => ?_) (fun c => ?_))
  · have H := H.1 c
    show RR 1 3 mX6_lose 4 [(0, .ref 0), (1, .int x1)] [.int 1] σ _
    refine RR.brT dX6_lose_4 rfl (by decide) ?_
    refine RR.s2 (pc' := 11) (lv' := [(0, .ref 0), (1, .int x1)]) (st' := [.ref 0]) dX6_lose_10 rfl ?_
    refine RR.getR dX6_lose_11 fl_X6_88 rfl rfl ?_
    refine RR.s2 (pc' := 15) (lv' := [(0, .ref 0), (1, .int x1)]) (st' := [.int x1, .ref 27]) dX6_lose_14 rfl ?_
    obtain ⟨j1, e2, b3, H⟩ := H
    refine RR.bald dX6_lose_15 rfl e2 b3 ?_
    refine RR.br dX6_lose_16 rfl (fun c => ?_) (fun c => ?_)
    · have H := H.1 c
      refine RR.s2 (pc' := 26) (lv' := [(0, .ref 0), (1, .int x1)]) (st' := [.ref 0]) dX6_lose_25 rfl ?_
      refine RR.getR dX6_lose_26 fl_X6_88 rfl rfl ?_
      refine RR.s2 (pc' := 30) (lv' := [(0, .ref 0), (1, .int x1)]) (st' := [.int x1, .ref 27]) dX6_lose_29 rfl ?_
      refine RR.ic (v := 0) dX6_lose_30 (by decide) ?_
      obtain ⟨j4, e5, b6, H⟩ := H
      refine RR.bast dX6_lose_31 rfl e5 b6 rfl ?_
      refine RR.s2 (pc' := 33) (lv' := [(0, .ref 0), (1, .int x1)]) (st' := [.ref 0]) dX6_lose_32 rfl ?_
      refine RR.getR dX6_lose_33 fl_X6_95 rfl rfl ?_
      refine RR.s2 (pc' := 37) (lv' := [(0, .ref 0), (1, .int x1)]) (st' := [.int x1, .ref 29]) dX6_lose_36 rfl ?_
      obtain ⟨j7, e8, b9, H⟩ := H
      refine RR.iald dX6_lose_37 rfl e8 b9 ?_
      exact RR.iret dX6_lose_38 rfl ⟨_, rfl, H⟩
    · have H := H.2 (Classical.not_not.mp c)
      refine RR.s2 (pc' := 20) (lv' := [(0, .ref 0), (1, .int x1)]) (st' := [.ref 0]) dX6_lose_19 rfl ?_
      refine RR.ic (v := 1) dX6_lose_20 (by decide) ?_
      refine RR.cV (d' := 1) dX6_lose_21 ml_X6_160 rfl rfl (as := [.int 1]) (rest := []) rfl rfl (Nat.le_of_ble_eq_true rfl) (Nat.le_of_ble_eq_true rfl) (by decide) ?_
      show RR 1 1 mX6_meets 0 [(0, .ref 0), (1, .int 1)] [] σ _
      refine RR.s2 (pc' := 1) (lv' := [(0, .ref 0), (1, .int 1)]) (st' := [.ref 0]) dX6_meets_0 rfl ?_
      refine RR.s2 (pc' := 2) (lv' := [(0, .ref 0), (1, .int 1)]) (st' := [.int 1, .ref 0]) dX6_meets_1 rfl ?_
      refine RR.putI dX6_meets_2 fp_X6_302 rfl rfl ?_
      refine RR.bp (v := (-10)) dX6_meets_5 (by decide) ?_
      refine RR.s2 (pc' := 8) (lv' := [(0, .ref 0), (1, .int 1)]) (st' := [.int 1, .int (-10)]) dX6_meets_7 rfl ?_
      refine RR.s2 (pc' := 9) (lv' := [(0, .ref 0), (1, .int 1)]) (st' := [.int ((-10) - 1)]) dX6_meets_8 rfl ?_
      refine RR.iret dX6_meets_9 rfl ?_
      show RR 1 3 mX6_lose 24 [(0, .ref 0), (1, .int x1)] [.int ((-10) - 1)] (wI σ 0 41 1) _
      exact RR.iret dX6_lose_24 rfl ⟨_, rfl, H⟩
  · have H := H.2 c
    show RR 1 3 mX6_lose 4 [(0, .ref 0), (1, .int x1)] [.int 0] σ _
    refine RR.brF dX6_lose_4 rfl (by decide) ?_
    refine RR.bp (v := (-2)) dX6_lose_7 (by decide) ?_
    exact RR.iret dX6_lose_9 rfl ⟨_, rfl, H⟩
set_option maxRecDepth 20000 in
theorem b_X6_lacks {σ : r_St} {K : Int32 → r_St → Prop} {x1 : Int32} {x2 : Int32} {x3 : Int32}  (H : ∃ j1 : Nat, x1 = nI j1 ∧ j1 < 4 ∧ ((¬ σ.1 27 j1 = 0 → (∃ j4 : Nat, x1 = nI j4 ∧ j4 < 4 ∧ ((σ.1 28 j4 = x2 → (∃ j7 : Nat, x1 = nI j7 ∧ j7 < 4 ∧ ((IN x3 0 ((σ.1 29 j7) - 1) → K 0 σ) ∧ (¬ IN x3 0 ((σ.1 29 j7) - 1) → K 2 σ)))) ∧ (¬ (σ.1 28 j4 = x2) → K 3 σ)))) ∧ (σ.1 27 j1 = 0 → K 1 σ))) : M_X6_lacks σ K x1 x2 x3 := by
  show RR 1 2 mX6_lacks 0 [(0, .ref 0), (1, .int x1), (2, .int x2), (3, .int x3)] [] σ (rI K)
  refine RR.s2 (pc' := 1) (lv' := [(0, .ref 0), (1, .int x1), (2, .int x2), (3, .int x3)]) (st' := [.ref 0]) dX6_lacks_0 rfl ?_
  refine RR.getR dX6_lacks_1 fl_X6_88 rfl rfl ?_
  refine RR.s2 (pc' := 5) (lv' := [(0, .ref 0), (1, .int x1), (2, .int x2), (3, .int x3)]) (st' := [.int x1, .ref 27]) dX6_lacks_4 rfl ?_
  obtain ⟨j1, e2, b3, H⟩ := H
  refine RR.bald dX6_lacks_5 rfl e2 b3 ?_
  refine RR.br dX6_lacks_6 rfl (fun c => ?_) (fun c => ?_)
  · have H := H.1 c
    refine RR.s2 (pc' := 14) (lv' := [(0, .ref 0), (1, .int x1), (2, .int x2), (3, .int x3)]) (st' := [.ref 0]) dX6_lacks_13 rfl ?_
    refine RR.getR dX6_lacks_14 fl_X6_92 rfl rfl ?_
    refine RR.s2 (pc' := 18) (lv' := [(0, .ref 0), (1, .int x1), (2, .int x2), (3, .int x3)]) (st' := [.int x1, .ref 28]) dX6_lacks_17 rfl ?_
    obtain ⟨j4, e5, b6, H⟩ := H
    refine RR.iald dX6_lacks_18 rfl e5 b6 ?_
    refine RR.s2 (pc' := 20) (lv' := [(0, .ref 0), (1, .int x1), (2, .int x2), (3, .int x3)]) (st' := [.int x2, .int (σ.1 28 j4)]) dX6_lacks_19 rfl ?_
    refine RR.br dX6_lacks_20 rfl (fun c => ?_) (fun c => ?_)
    · have H := H.1 c
      refine RR.s2 (pc' := 28) (lv' := [(0, .ref 0), (1, .int x1), (2, .int x2), (3, .int x3)]) (st' := [.int x3]) dX6_lacks_27 rfl ?_
      refine RR.ic (v := 0) dX6_lacks_28 (by decide) ?_
      refine RR.s2 (pc' := 30) (lv' := [(0, .ref 0), (1, .int x1), (2, .int x2), (3, .int x3)]) (st' := [.ref 0, .int 0, .int x3]) dX6_lacks_29 rfl ?_
      refine RR.getR dX6_lacks_30 fl_X6_95 rfl rfl ?_
      refine RR.s2 (pc' := 34) (lv' := [(0, .ref 0), (1, .int x1), (2, .int x2), (3, .int x3)]) (st' := [.int x1, .ref 29, .int 0, .int x3]) dX6_lacks_33 rfl ?_
      obtain ⟨j7, e8, b9, H⟩ := H
      refine RR.iald dX6_lacks_34 rfl e8 b9 ?_
      refine RR.ic (v := 1) dX6_lacks_35 (by decide) ?_
      refine RR.s2 (pc' := 37) (lv' := [(0, .ref 0), (1, .int x1), (2, .int x2), (3, .int x3)]) (st' := [.int ((σ.1 29 j7) - 1), .int 0, .int x3]) dX6_lacks_36 rfl ?_
      refine RR.cS dX6_lacks_37 ml_X6_106 (as := [.int x3, .int 0, .int ((σ.1 29 j7) - 1)]) (rest := []) rfl rfl (Nat.le_of_ble_eq_true rfl) (Nat.le_of_ble_eq_true rfl) (by decide) (kb_X6_in (fun c => ?_) (fun c => ?_))
      · have H := H.1 c
        show RR 1 2 mX6_lacks 40 [(0, .ref 0), (1, .int x1), (2, .int x2), (3, .int x3)] [.int 1] σ _
        refine RR.brF dX6_lacks_40 rfl (by decide) ?_
        refine RR.ic (v := 0) dX6_lacks_43 (by decide) ?_
        refine RR.s2 (pc' := 48) (lv' := [(0, .ref 0), (1, .int x1), (2, .int x2), (3, .int x3)]) (st' := [.int 0]) dX6_lacks_44 rfl ?_
        exact RR.iret dX6_lacks_48 rfl ⟨_, rfl, H⟩
      · have H := H.2 c
        show RR 1 2 mX6_lacks 40 [(0, .ref 0), (1, .int x1), (2, .int x2), (3, .int x3)] [.int 0] σ _
        refine RR.brT dX6_lacks_40 rfl (by decide) ?_
        refine RR.ic (v := 2) dX6_lacks_47 (by decide) ?_
        exact RR.iret dX6_lacks_48 rfl ⟨_, rfl, H⟩
    · have H := H.2 c
      refine RR.ic (v := 3) dX6_lacks_23 (by decide) ?_
      refine RR.s2 (pc' := 48) (lv' := [(0, .ref 0), (1, .int x1), (2, .int x2), (3, .int x3)]) (st' := [.int 3]) dX6_lacks_24 rfl ?_
      exact RR.iret dX6_lacks_48 rfl ⟨_, rfl, H⟩
  · have H := H.2 (Classical.not_not.mp c)
    refine RR.ic (v := 1) dX6_lacks_9 (by decide) ?_
    refine RR.s2 (pc' := 48) (lv' := [(0, .ref 0), (1, .int x1), (2, .int x2), (3, .int x3)]) (st' := [.int 1]) dX6_lacks_10 rfl ?_
    exact RR.iret dX6_lacks_48 rfl ⟨_, rfl, H⟩
set_option maxRecDepth 20000 in
theorem b_X6_keep {σ : r_St} {K : r_St → Prop} {x1 : Int32} {x2 : Int32} {x3 : Int32}  (H : ∃ j1 : Nat, x1 = nI j1 ∧ j1 < 4 ∧ ((¬ σ.1 28 j1 = 0 → (∃ j4 : Nat, x1 = nI j4 ∧ j4 < 4 ∧ ((¬ σ.1 28 j4 = 1 → (∃ j7 : Nat, (60 * x1) + x2 = nI j7 ∧ j7 < 240 ∧ K (wI σ 30 j7 x3))) ∧ (σ.1 28 j4 = 1 → (∃ j10 : Nat, (60 * x1) + x2 = nI j10 ∧ j10 < 240 ∧ K (wI σ 30 j10 x3.toInt16.toInt32)))))) ∧ (σ.1 28 j1 = 0 → (∃ j13 : Nat, (60 * x1) + x2 = nI j13 ∧ j13 < 240 ∧ K (wI σ 30 j13 x3.toInt8.toInt32))))) : M_X6_keep σ K x1 x2 x3 := by
  show RR 1 1 mX6_keep 0 [(0, .ref 0), (1, .int x1), (2, .int x2), (3, .int x3)] [] σ (rV K)
  refine RR.s2 (pc' := 1) (lv' := [(0, .ref 0), (1, .int x1), (2, .int x2), (3, .int x3)]) (st' := [.ref 0]) dX6_keep_0 rfl ?_
  refine RR.getR dX6_keep_1 fl_X6_98 rfl rfl ?_
  refine RR.bp (v := 60) dX6_keep_4 (by decide) ?_
  refine RR.s2 (pc' := 7) (lv' := [(0, .ref 0), (1, .int x1), (2, .int x2), (3, .int x3)]) (st' := [.int x1, .int 60, .ref 30]) dX6_keep_6 rfl ?_
  refine RR.s2 (pc' := 8) (lv' := [(0, .ref 0), (1, .int x1), (2, .int x2), (3, .int x3)]) (st' := [.int (60 * x1), .ref 30]) dX6_keep_7 rfl ?_
  refine RR.s2 (pc' := 9) (lv' := [(0, .ref 0), (1, .int x1), (2, .int x2), (3, .int x3)]) (st' := [.int x2, .int (60 * x1), .ref 30]) dX6_keep_8 rfl ?_
  refine RR.s2 (pc' := 10) (lv' := [(0, .ref 0), (1, .int x1), (2, .int x2), (3, .int x3)]) (st' := [.int ((60 * x1) + x2), .ref 30]) dX6_keep_9 rfl ?_
  refine RR.s2 (pc' := 11) (lv' := [(0, .ref 0), (1, .int x1), (2, .int x2), (3, .int x3)]) (st' := [.ref 0, .int ((60 * x1) + x2), .ref 30]) dX6_keep_10 rfl ?_
  refine RR.getR dX6_keep_11 fl_X6_92 rfl rfl ?_
  refine RR.s2 (pc' := 15) (lv' := [(0, .ref 0), (1, .int x1), (2, .int x2), (3, .int x3)]) (st' := [.int x1, .ref 28, .int ((60 * x1) + x2), .ref 30]) dX6_keep_14 rfl ?_
  obtain ⟨j1, e2, b3, H⟩ := H
  refine RR.iald dX6_keep_15 rfl e2 b3 ?_
  refine RR.br dX6_keep_16 rfl (fun c => ?_) (fun c => ?_)
  · have H := H.1 c
    refine RR.s2 (pc' := 25) (lv' := [(0, .ref 0), (1, .int x1), (2, .int x2), (3, .int x3)]) (st' := [.ref 0, .int ((60 * x1) + x2), .ref 30]) dX6_keep_24 rfl ?_
    refine RR.getR dX6_keep_25 fl_X6_92 rfl rfl ?_
    refine RR.s2 (pc' := 29) (lv' := [(0, .ref 0), (1, .int x1), (2, .int x2), (3, .int x3)]) (st' := [.int x1, .ref 28, .int ((60 * x1) + x2), .ref 30]) dX6_keep_28 rfl ?_
    obtain ⟨j4, e5, b6, H⟩ := H
    refine RR.iald dX6_keep_29 rfl e5 b6 ?_
    refine RR.ic (v := 1) dX6_keep_30 (by decide) ?_
    refine RR.br dX6_keep_31 rfl (fun c => ?_) (fun c => ?_)
    · have H := H.1 c
      refine RR.s2 (pc' := 40) (lv' := [(0, .ref 0), (1, .int x1), (2, .int x2), (3, .int x3)]) (st' := [.int x3, .int ((60 * x1) + x2), .ref 30]) dX6_keep_39 rfl ?_
      obtain ⟨j7, e8, b9, H⟩ := H
      refine RR.iast dX6_keep_40 rfl e8 b9 ?_
      exact RR.vret dX6_keep_41 rfl ⟨rfl, H⟩
    · have H := H.2 (Classical.not_not.mp c)
      refine RR.s2 (pc' := 35) (lv' := [(0, .ref 0), (1, .int x1), (2, .int x2), (3, .int x3)]) (st' := [.int x3, .int ((60 * x1) + x2), .ref 30]) dX6_keep_34 rfl ?_
      refine RR.s2 (pc' := 36) (lv' := [(0, .ref 0), (1, .int x1), (2, .int x2), (3, .int x3)]) (st' := [.int x3.toInt16.toInt32, .int ((60 * x1) + x2), .ref 30]) dX6_keep_35 rfl ?_
      refine RR.s2 (pc' := 40) (lv' := [(0, .ref 0), (1, .int x1), (2, .int x2), (3, .int x3)]) (st' := [.int x3.toInt16.toInt32, .int ((60 * x1) + x2), .ref 30]) dX6_keep_36 rfl ?_
      obtain ⟨j10, e11, b12, H⟩ := H
      refine RR.iast dX6_keep_40 rfl e11 b12 ?_
      exact RR.vret dX6_keep_41 rfl ⟨rfl, H⟩
  · have H := H.2 (Classical.not_not.mp c)
    refine RR.s2 (pc' := 20) (lv' := [(0, .ref 0), (1, .int x1), (2, .int x2), (3, .int x3)]) (st' := [.int x3, .int ((60 * x1) + x2), .ref 30]) dX6_keep_19 rfl ?_
    refine RR.s2 (pc' := 21) (lv' := [(0, .ref 0), (1, .int x1), (2, .int x2), (3, .int x3)]) (st' := [.int x3.toInt8.toInt32, .int ((60 * x1) + x2), .ref 30]) dX6_keep_20 rfl ?_
    refine RR.s2 (pc' := 40) (lv' := [(0, .ref 0), (1, .int x1), (2, .int x2), (3, .int x3)]) (st' := [.int x3.toInt8.toInt32, .int ((60 * x1) + x2), .ref 30]) dX6_keep_21 rfl ?_
    obtain ⟨j13, e14, b15, H⟩ := H
    refine RR.iast dX6_keep_40 rfl e14 b15 ?_
    exact RR.vret dX6_keep_41 rfl ⟨rfl, H⟩
set_option maxRecDepth 20000 in
theorem b_X6_put {σ : r_St} {K : Int32 → r_St → Prop} {x1 : Int32} {x2 : Int32} {x3 : Int32} {x4 : Int32}  (H : (IN x1 0 3 → ((IN x2 0 2 → (M_X6_lacks σ (fun v2 s1 => (v2 ≤ 0 → M_X6_keep s1 (fun s3 => K 1 s3) x1 x3 x4) ∧ (¬ (v2 ≤ 0) → K ((-10) - v2) (wI s1 0 41 v2))) x1 x2 x3)) ∧ (¬ IN x2 0 2 → K (-2) σ))) ∧ (¬ IN x1 0 3 → K (-2) σ)) : M_X6_put σ K x1 x2 x3 x4 := by
  show RR 1 3 mX6_put 0 [(0, .ref 0), (1, .int x1), (2, .int x2), (3, .int x3), (4, .int x4)] [] σ (rI K)
  refine RR.s2 (pc' := 1) (lv' := [(0, .ref 0), (1, .int x1), (2, .int x2), (3, .int x3), (4, .int x4)]) (st' := [.int x1]) dX6_put_0 rfl ?_
  refine RR.cS dX6_put_1 ml_X6_157 (as := [.int x1]) (rest := []) rfl rfl (Nat.le_of_ble_eq_true rfl) (Nat.le_of_ble_eq_true rfl) (by decide) (kb_X6_isSheet (fun c => ?_) (fun c => ?_))
  · have H := H.1 c
    show RR 1 3 mX6_put 4 [(0, .ref 0), (1, .int x1), (2, .int x2), (3, .int x3), (4, .int x4)] [.int 1] σ _
    refine RR.brF dX6_put_4 rfl (by decide) ?_
    refine RR.s2 (pc' := 8) (lv' := [(0, .ref 0), (1, .int x1), (2, .int x2), (3, .int x3), (4, .int x4)]) (st' := [.int x2]) dX6_put_7 rfl ?_
    refine RR.ic (v := 0) dX6_put_8 (by decide) ?_
    refine RR.ic (v := 2) dX6_put_9 (by decide) ?_
    refine RR.cS dX6_put_10 ml_X6_106 (as := [.int x2, .int 0, .int 2]) (rest := []) rfl rfl (Nat.le_of_ble_eq_true rfl) (Nat.le_of_ble_eq_true rfl) (by decide) (kb_X6_in (fun c => ?_) (fun c => ?_))
    · have H := H.1 c
      show RR 1 3 mX6_put 13 [(0, .ref 0), (1, .int x1), (2, .int x2), (3, .int x3), (4, .int x4)] [.int 1] σ _
      refine RR.brT dX6_put_13 rfl (by decide) ?_
      refine RR.s2 (pc' := 20) (lv' := [(0, .ref 0), (1, .int x1), (2, .int x2), (3, .int x3), (4, .int x4)]) (st' := [.ref 0]) dX6_put_19 rfl ?_
      refine RR.s2 (pc' := 21) (lv' := [(0, .ref 0), (1, .int x1), (2, .int x2), (3, .int x3), (4, .int x4)]) (st' := [.int x1, .ref 0]) dX6_put_20 rfl ?_
      refine RR.s2 (pc' := 22) (lv' := [(0, .ref 0), (1, .int x1), (2, .int x2), (3, .int x3), (4, .int x4)]) (st' := [.int x2, .int x1, .ref 0]) dX6_put_21 rfl ?_
      refine RR.s2 (pc' := 23) (lv' := [(0, .ref 0), (1, .int x1), (2, .int x2), (3, .int x3), (4, .int x4)]) (st' := [.int x3, .int x2, .int x1, .ref 0]) dX6_put_22 rfl ?_
      refine RR.cV dX6_put_23 ml_X6_305 rfl rfl (as := [.int x1, .int x2, .int x3]) (rest := []) rfl rfl (Nat.le_of_ble_eq_true rfl) (Nat.le_of_ble_eq_true rfl) (by decide) (RR.toI H (fun v2 s1 H => ?_))
      show RR 1 3 mX6_put 26 [(0, .ref 0), (1, .int x1), (2, .int x2), (3, .int x3), (4, .int x4)] [.int v2] s1 _
      refine RR.s2 (pc' := 28) (lv' := [(0, .ref 0), (1, .int x1), (2, .int x2), (3, .int x3), (4, .int x4), (5, .int v2)]) (st' := []) dX6_put_26 rfl ?_
      refine RR.s2 (pc' := 30) (lv' := [(0, .ref 0), (1, .int x1), (2, .int x2), (3, .int x3), (4, .int x4), (5, .int v2)]) (st' := [.int v2]) dX6_put_28 rfl ?_
      refine RR.br dX6_put_30 rfl (fun c => ?_) (fun c => ?_)
      · have H := H.1 c
        refine RR.s2 (pc' := 41) (lv' := [(0, .ref 0), (1, .int x1), (2, .int x2), (3, .int x3), (4, .int x4), (5, .int v2)]) (st' := [.ref 0]) dX6_put_40 rfl ?_
        refine RR.s2 (pc' := 42) (lv' := [(0, .ref 0), (1, .int x1), (2, .int x2), (3, .int x3), (4, .int x4), (5, .int v2)]) (st' := [.int x1, .ref 0]) dX6_put_41 rfl ?_
        refine RR.s2 (pc' := 43) (lv' := [(0, .ref 0), (1, .int x1), (2, .int x2), (3, .int x3), (4, .int x4), (5, .int v2)]) (st' := [.int x3, .int x1, .ref 0]) dX6_put_42 rfl ?_
        refine RR.s2 (pc' := 45) (lv' := [(0, .ref 0), (1, .int x1), (2, .int x2), (3, .int x3), (4, .int x4), (5, .int v2)]) (st' := [.int x4, .int x3, .int x1, .ref 0]) dX6_put_43 rfl ?_
        refine RR.cV dX6_put_45 ml_X6_308 rfl rfl (as := [.int x1, .int x3, .int x4]) (rest := []) rfl rfl (Nat.le_of_ble_eq_true rfl) (Nat.le_of_ble_eq_true rfl) (by decide) (RR.toV H (fun s3 H => ?_))
        show RR 1 3 mX6_put 48 [(0, .ref 0), (1, .int x1), (2, .int x2), (3, .int x3), (4, .int x4), (5, .int v2)] [] s3 _
        refine RR.ic (v := 1) dX6_put_48 (by decide) ?_
        exact RR.iret dX6_put_49 rfl ⟨_, rfl, H⟩
      · have H := H.2 c
        refine RR.s2 (pc' := 34) (lv' := [(0, .ref 0), (1, .int x1), (2, .int x2), (3, .int x3), (4, .int x4), (5, .int v2)]) (st' := [.ref 0]) dX6_put_33 rfl ?_
        refine RR.s2 (pc' := 36) (lv' := [(0, .ref 0), (1, .int x1), (2, .int x2), (3, .int x3), (4, .int x4), (5, .int v2)]) (st' := [.int v2, .ref 0]) dX6_put_34 rfl ?_
        refine RR.cV (d' := 1) dX6_put_36 ml_X6_160 rfl rfl (as := [.int v2]) (rest := []) rfl rfl (Nat.le_of_ble_eq_true rfl) (Nat.le_of_ble_eq_true rfl) (by decide) ?_
        show RR 1 1 mX6_meets 0 [(0, .ref 0), (1, .int v2)] [] s1 _
        refine RR.s2 (pc' := 1) (lv' := [(0, .ref 0), (1, .int v2)]) (st' := [.ref 0]) dX6_meets_0 rfl ?_
        refine RR.s2 (pc' := 2) (lv' := [(0, .ref 0), (1, .int v2)]) (st' := [.int v2, .ref 0]) dX6_meets_1 rfl ?_
        refine RR.putI dX6_meets_2 fp_X6_302 rfl rfl ?_
        refine RR.bp (v := (-10)) dX6_meets_5 (by decide) ?_
        refine RR.s2 (pc' := 8) (lv' := [(0, .ref 0), (1, .int v2)]) (st' := [.int v2, .int (-10)]) dX6_meets_7 rfl ?_
        refine RR.s2 (pc' := 9) (lv' := [(0, .ref 0), (1, .int v2)]) (st' := [.int ((-10) - v2)]) dX6_meets_8 rfl ?_
        refine RR.iret dX6_meets_9 rfl ?_
        show RR 1 3 mX6_put 39 [(0, .ref 0), (1, .int x1), (2, .int x2), (3, .int x3), (4, .int x4), (5, .int v2)] [.int ((-10) - v2)] (wI s1 0 41 v2) _
        exact RR.iret dX6_put_39 rfl ⟨_, rfl, H⟩
    · have H := H.2 c
      show RR 1 3 mX6_put 13 [(0, .ref 0), (1, .int x1), (2, .int x2), (3, .int x3), (4, .int x4)] [.int 0] σ _
      refine RR.brF dX6_put_13 rfl (by decide) ?_
      refine RR.bp (v := (-2)) dX6_put_16 (by decide) ?_
      exact RR.iret dX6_put_18 rfl ⟨_, rfl, H⟩
  · have H := H.2 c
    show RR 1 3 mX6_put 4 [(0, .ref 0), (1, .int x1), (2, .int x2), (3, .int x3), (4, .int x4)] [.int 0] σ _
    refine RR.brT dX6_put_4 rfl (by decide) ?_
    refine RR.bp (v := (-2)) dX6_put_16 (by decide) ?_
    exact RR.iret dX6_put_18 rfl ⟨_, rfl, H⟩
set_option maxRecDepth 20000 in
theorem b_X6_get {σ : r_St} {K : Int32 → r_St → Prop} {x1 : Int32} {x2 : Int32} {x3 : Int32}  (H : (IN x1 0 3 → ((IN x2 0 2 → (M_X6_lacks σ (fun v2 s1 => (v2 ≤ 0 → (∃ j3 : Nat, (60 * x1) + x3 = nI j3 ∧ j3 < 240 ∧ K (s1.1 30 j3) s1)) ∧ (¬ (v2 ≤ 0) → K (-2147483648) (wI s1 0 41 v2))) x1 x2 x3)) ∧ (¬ IN x2 0 2 → K (-2147483648) σ))) ∧ (¬ IN x1 0 3 → K (-2147483648) σ)) : M_X6_get σ K x1 x2 x3 := by
  show RR 1 3 mX6_get 0 [(0, .ref 0), (1, .int x1), (2, .int x2), (3, .int x3)] [] σ (rI K)
  refine RR.s2 (pc' := 1) (lv' := [(0, .ref 0), (1, .int x1), (2, .int x2), (3, .int x3)]) (st' := [.int x1]) dX6_get_0 rfl ?_
  refine RR.cS dX6_get_1 ml_X6_157 (as := [.int x1]) (rest := []) rfl rfl (Nat.le_of_ble_eq_true rfl) (Nat.le_of_ble_eq_true rfl) (by decide) (kb_X6_isSheet (fun c => ?_) (fun c => ?_))
  · have H := H.1 c
    show RR 1 3 mX6_get 4 [(0, .ref 0), (1, .int x1), (2, .int x2), (3, .int x3)] [.int 1] σ _
    refine RR.brF dX6_get_4 rfl (by decide) ?_
    refine RR.s2 (pc' := 8) (lv' := [(0, .ref 0), (1, .int x1), (2, .int x2), (3, .int x3)]) (st' := [.int x2]) dX6_get_7 rfl ?_
    refine RR.ic (v := 0) dX6_get_8 (by decide) ?_
    refine RR.ic (v := 2) dX6_get_9 (by decide) ?_
    refine RR.cS dX6_get_10 ml_X6_106 (as := [.int x2, .int 0, .int 2]) (rest := []) rfl rfl (Nat.le_of_ble_eq_true rfl) (Nat.le_of_ble_eq_true rfl) (by decide) (kb_X6_in (fun c => ?_) (fun c => ?_))
    · have H := H.1 c
      show RR 1 3 mX6_get 13 [(0, .ref 0), (1, .int x1), (2, .int x2), (3, .int x3)] [.int 1] σ _
      refine RR.brT dX6_get_13 rfl (by decide) ?_
      refine RR.s2 (pc' := 21) (lv' := [(0, .ref 0), (1, .int x1), (2, .int x2), (3, .int x3)]) (st' := [.ref 0]) dX6_get_20 rfl ?_
      refine RR.s2 (pc' := 22) (lv' := [(0, .ref 0), (1, .int x1), (2, .int x2), (3, .int x3)]) (st' := [.int x1, .ref 0]) dX6_get_21 rfl ?_
      refine RR.s2 (pc' := 23) (lv' := [(0, .ref 0), (1, .int x1), (2, .int x2), (3, .int x3)]) (st' := [.int x2, .int x1, .ref 0]) dX6_get_22 rfl ?_
      refine RR.s2 (pc' := 24) (lv' := [(0, .ref 0), (1, .int x1), (2, .int x2), (3, .int x3)]) (st' := [.int x3, .int x2, .int x1, .ref 0]) dX6_get_23 rfl ?_
      refine RR.cV dX6_get_24 ml_X6_305 rfl rfl (as := [.int x1, .int x2, .int x3]) (rest := []) rfl rfl (Nat.le_of_ble_eq_true rfl) (Nat.le_of_ble_eq_true rfl) (by decide) (RR.toI H (fun v2 s1 H => ?_))
      show RR 1 3 mX6_get 27 [(0, .ref 0), (1, .int x1), (2, .int x2), (3, .int x3)] [.int v2] s1 _
      refine RR.s2 (pc' := 29) (lv' := [(0, .ref 0), (1, .int x1), (2, .int x2), (3, .int x3), (4, .int v2)]) (st' := []) dX6_get_27 rfl ?_
      refine RR.s2 (pc' := 31) (lv' := [(0, .ref 0), (1, .int x1), (2, .int x2), (3, .int x3), (4, .int v2)]) (st' := [.int v2]) dX6_get_29 rfl ?_
      refine RR.br dX6_get_31 rfl (fun c => ?_) (fun c => ?_)
      · have H := H.1 c
        refine RR.s2 (pc' := 45) (lv' := [(0, .ref 0), (1, .int x1), (2, .int x2), (3, .int x3), (4, .int v2)]) (st' := [.ref 0]) dX6_get_44 rfl ?_
        refine RR.getR dX6_get_45 fl_X6_98 rfl rfl ?_
        refine RR.bp (v := 60) dX6_get_48 (by decide) ?_
        refine RR.s2 (pc' := 51) (lv' := [(0, .ref 0), (1, .int x1), (2, .int x2), (3, .int x3), (4, .int v2)]) (st' := [.int x1, .int 60, .ref 30]) dX6_get_50 rfl ?_
        refine RR.s2 (pc' := 52) (lv' := [(0, .ref 0), (1, .int x1), (2, .int x2), (3, .int x3), (4, .int v2)]) (st' := [.int (60 * x1), .ref 30]) dX6_get_51 rfl ?_
        refine RR.s2 (pc' := 53) (lv' := [(0, .ref 0), (1, .int x1), (2, .int x2), (3, .int x3), (4, .int v2)]) (st' := [.int x3, .int (60 * x1), .ref 30]) dX6_get_52 rfl ?_
        refine RR.s2 (pc' := 54) (lv' := [(0, .ref 0), (1, .int x1), (2, .int x2), (3, .int x3), (4, .int v2)]) (st' := [.int ((60 * x1) + x3), .ref 30]) dX6_get_53 rfl ?_
        obtain ⟨j3, e4, b5, H⟩ := H
        refine RR.iald dX6_get_54 rfl e4 b5 ?_
        exact RR.iret dX6_get_55 rfl ⟨_, rfl, H⟩
      · have H := H.2 c
        refine RR.s2 (pc' := 35) (lv' := [(0, .ref 0), (1, .int x1), (2, .int x2), (3, .int x3), (4, .int v2)]) (st' := [.ref 0]) dX6_get_34 rfl ?_
        refine RR.s2 (pc' := 37) (lv' := [(0, .ref 0), (1, .int x1), (2, .int x2), (3, .int x3), (4, .int v2)]) (st' := [.int v2, .ref 0]) dX6_get_35 rfl ?_
        refine RR.putI dX6_get_37 fp_X6_302 rfl rfl ?_
        refine RR.ldcw dX6_get_40 pw_w1305 ?_
        exact RR.iret dX6_get_43 rfl ⟨_, rfl, H⟩
    · have H := H.2 c
      show RR 1 3 mX6_get 13 [(0, .ref 0), (1, .int x1), (2, .int x2), (3, .int x3)] [.int 0] σ _
      refine RR.brF dX6_get_13 rfl (by decide) ?_
      refine RR.ldcw dX6_get_16 pw_w1305 ?_
      exact RR.iret dX6_get_19 rfl ⟨_, rfl, H⟩
  · have H := H.2 c
    show RR 1 3 mX6_get 4 [(0, .ref 0), (1, .int x1), (2, .int x2), (3, .int x3)] [.int 0] σ _
    refine RR.brT dX6_get_4 rfl (by decide) ?_
    refine RR.ldcw dX6_get_16 pw_w1305 ?_
    exact RR.iret dX6_get_19 rfl ⟨_, rfl, H⟩
set_option maxRecDepth 20000 in
theorem b_X6_copy {σ : r_St} {K : Int32 → r_St → Prop} {x1 : Int32} {x2 : Int32} {x3 : Int32} {x4 : Int32} {x5 : Int32}  (H : (IN x1 0 3 → ((IN x3 0 3 → (∃ j1 : Nat, x1 = nI j1 ∧ j1 < 4 ∧ ((σ.1 27 j1 = 0 → K ((-10) - 1) (wI σ 0 41 1)) ∧ (¬ (σ.1 27 j1 = 0) → (∃ j4 : Nat, x3 = nI j4 ∧ j4 < 4 ∧ ((¬ σ.1 27 j4 = 0 → (∃ j7 : Nat, x1 = nI j7 ∧ j7 < 4 ∧ (∃ j10 : Nat, x3 = nI j10 ∧ j10 < 4 ∧ ((σ.1 28 j7 = σ.1 28 j10 → ((x2 < 0 → K ((-10) - 2) (wI σ 0 41 2)) ∧ (¬ (x2 < 0) → ((x4 < 0 → K ((-10) - 2) (wI σ 0 41 2)) ∧ (¬ (x4 < 0) → ((x5 < 0 → K ((-10) - 2) (wI σ 0 41 2)) ∧ (¬ (x5 < 0) → (∃ j13 : Nat, x1 = nI j13 ∧ j13 < 4 ∧ ((0 < lg_cmp (x2.toInt64 + x5.toInt64) ((σ.1 29 j13).toInt64) → K ((-10) - 2) (wI σ 0 41 2)) ∧ (¬ (0 < lg_cmp (x2.toInt64 + x5.toInt64) ((σ.1 29 j13).toInt64)) → (∃ j16 : Nat, x3 = nI j16 ∧ j16 < 4 ∧ ((lg_cmp (x4.toInt64 + x5.toInt64) ((σ.1 29 j16).toInt64) ≤ 0 → R_X6_copy_120 σ K x1 x2 x3 x4 x5 0) ∧ (¬ (lg_cmp (x4.toInt64 + x5.toInt64) ((σ.1 29 j16).toInt64) ≤ 0) → K ((-10) - 2) (wI σ 0 41 2)))))))))))))) ∧ (¬ (σ.1 28 j7 = σ.1 28 j10) → K ((-10) - 4) (wI σ 0 41 4)))))) ∧ (σ.1 27 j4 = 0 → K ((-10) - 1) (wI σ 0 41 1)))))))) ∧ (¬ IN x3 0 3 → K (-2) σ))) ∧ (¬ IN x1 0 3 → K (-2) σ)) : M_X6_copy σ K x1 x2 x3 x4 x5 := by
  show RR 1 3 mX6_copy 0 [(0, .ref 0), (1, .int x1), (2, .int x2), (3, .int x3), (4, .int x4), (5, .int x5)] [] σ (rI K)
  refine RR.s2 (pc' := 1) (lv' := [(0, .ref 0), (1, .int x1), (2, .int x2), (3, .int x3), (4, .int x4), (5, .int x5)]) (st' := [.int x1]) dX6_copy_0 rfl ?_
  refine RR.cS dX6_copy_1 ml_X6_157 (as := [.int x1]) (rest := []) rfl rfl (Nat.le_of_ble_eq_true rfl) (Nat.le_of_ble_eq_true rfl) (by decide) (kb_X6_isSheet (fun c => ?_) (fun c => ?_))
  · have H := H.1 c
    show RR 1 3 mX6_copy 4 [(0, .ref 0), (1, .int x1), (2, .int x2), (3, .int x3), (4, .int x4), (5, .int x5)] [.int 1] σ _
    refine RR.brF dX6_copy_4 rfl (by decide) ?_
    refine RR.s2 (pc' := 8) (lv' := [(0, .ref 0), (1, .int x1), (2, .int x2), (3, .int x3), (4, .int x4), (5, .int x5)]) (st' := [.int x3]) dX6_copy_7 rfl ?_
    refine RR.cS dX6_copy_8 ml_X6_157 (as := [.int x3]) (rest := []) rfl rfl (Nat.le_of_ble_eq_true rfl) (Nat.le_of_ble_eq_true rfl) (by decide) (kb_X6_isSheet (fun c => ?_) (fun c => ?_))
    · have H := H.1 c
      show RR 1 3 mX6_copy 11 [(0, .ref 0), (1, .int x1), (2, .int x2), (3, .int x3), (4, .int x4), (5, .int x5)] [.int 1] σ _
      refine RR.brT dX6_copy_11 rfl (by decide) ?_
      refine RR.s2 (pc' := 18) (lv' := [(0, .ref 0), (1, .int x1), (2, .int x2), (3, .int x3), (4, .int x4), (5, .int x5)]) (st' := [.ref 0]) dX6_copy_17 rfl ?_
      refine RR.getR dX6_copy_18 fl_X6_88 rfl rfl ?_
      refine RR.s2 (pc' := 22) (lv' := [(0, .ref 0), (1, .int x1), (2, .int x2), (3, .int x3), (4, .int x4), (5, .int x5)]) (st' := [.int x1, .ref 27]) dX6_copy_21 rfl ?_
      obtain ⟨j1, e2, b3, H⟩ := H
      refine RR.bald dX6_copy_22 rfl e2 b3 ?_
      refine RR.br dX6_copy_23 rfl (fun c => ?_) (fun c => ?_)
      · have H := H.1 c
        refine RR.s2 (pc' := 36) (lv' := [(0, .ref 0), (1, .int x1), (2, .int x2), (3, .int x3), (4, .int x4), (5, .int x5)]) (st' := [.ref 0]) dX6_copy_35 rfl ?_
        refine RR.ic (v := 1) dX6_copy_36 (by decide) ?_
        refine RR.cV (d' := 1) dX6_copy_37 ml_X6_160 rfl rfl (as := [.int 1]) (rest := []) rfl rfl (Nat.le_of_ble_eq_true rfl) (Nat.le_of_ble_eq_true rfl) (by decide) ?_
        show RR 1 1 mX6_meets 0 [(0, .ref 0), (1, .int 1)] [] σ _
        refine RR.s2 (pc' := 1) (lv' := [(0, .ref 0), (1, .int 1)]) (st' := [.ref 0]) dX6_meets_0 rfl ?_
        refine RR.s2 (pc' := 2) (lv' := [(0, .ref 0), (1, .int 1)]) (st' := [.int 1, .ref 0]) dX6_meets_1 rfl ?_
        refine RR.putI dX6_meets_2 fp_X6_302 rfl rfl ?_
        refine RR.bp (v := (-10)) dX6_meets_5 (by decide) ?_
        refine RR.s2 (pc' := 8) (lv' := [(0, .ref 0), (1, .int 1)]) (st' := [.int 1, .int (-10)]) dX6_meets_7 rfl ?_
        refine RR.s2 (pc' := 9) (lv' := [(0, .ref 0), (1, .int 1)]) (st' := [.int ((-10) - 1)]) dX6_meets_8 rfl ?_
        refine RR.iret dX6_meets_9 rfl ?_
        show RR 1 3 mX6_copy 40 [(0, .ref 0), (1, .int x1), (2, .int x2), (3, .int x3), (4, .int x4), (5, .int x5)] [.int ((-10) - 1)] (wI σ 0 41 1) _
        exact RR.iret dX6_copy_40 rfl ⟨_, rfl, H⟩
      · have H := H.2 c
        refine RR.s2 (pc' := 27) (lv' := [(0, .ref 0), (1, .int x1), (2, .int x2), (3, .int x3), (4, .int x4), (5, .int x5)]) (st' := [.ref 0]) dX6_copy_26 rfl ?_
        refine RR.getR dX6_copy_27 fl_X6_88 rfl rfl ?_
        refine RR.s2 (pc' := 31) (lv' := [(0, .ref 0), (1, .int x1), (2, .int x2), (3, .int x3), (4, .int x4), (5, .int x5)]) (st' := [.int x3, .ref 27]) dX6_copy_30 rfl ?_
        obtain ⟨j4, e5, b6, H⟩ := H
        refine RR.bald dX6_copy_31 rfl e5 b6 ?_
        refine RR.br dX6_copy_32 rfl (fun c => ?_) (fun c => ?_)
        · have H := H.1 c
          refine RR.s2 (pc' := 42) (lv' := [(0, .ref 0), (1, .int x1), (2, .int x2), (3, .int x3), (4, .int x4), (5, .int x5)]) (st' := [.ref 0]) dX6_copy_41 rfl ?_
          refine RR.getR dX6_copy_42 fl_X6_92 rfl rfl ?_
          refine RR.s2 (pc' := 46) (lv' := [(0, .ref 0), (1, .int x1), (2, .int x2), (3, .int x3), (4, .int x4), (5, .int x5)]) (st' := [.int x1, .ref 28]) dX6_copy_45 rfl ?_
          obtain ⟨j7, e8, b9, H⟩ := H
          refine RR.iald dX6_copy_46 rfl e8 b9 ?_
          refine RR.s2 (pc' := 48) (lv' := [(0, .ref 0), (1, .int x1), (2, .int x2), (3, .int x3), (4, .int x4), (5, .int x5)]) (st' := [.ref 0, .int (σ.1 28 j7)]) dX6_copy_47 rfl ?_
          refine RR.getR dX6_copy_48 fl_X6_92 rfl rfl ?_
          refine RR.s2 (pc' := 52) (lv' := [(0, .ref 0), (1, .int x1), (2, .int x2), (3, .int x3), (4, .int x4), (5, .int x5)]) (st' := [.int x3, .ref 28, .int (σ.1 28 j7)]) dX6_copy_51 rfl ?_
          obtain ⟨j10, e11, b12, H⟩ := H
          refine RR.iald dX6_copy_52 rfl e11 b12 ?_
          refine RR.br dX6_copy_53 rfl (fun c => ?_) (fun c => ?_)
          · have H := H.1 c
            refine RR.s2 (pc' := 63) (lv' := [(0, .ref 0), (1, .int x1), (2, .int x2), (3, .int x3), (4, .int x4), (5, .int x5)]) (st' := [.int x2]) dX6_copy_62 rfl ?_
            refine RR.br dX6_copy_63 rfl (fun c => ?_) (fun c => ?_)
            · have H := H.1 c
              refine RR.s2 (pc' := 112) (lv' := [(0, .ref 0), (1, .int x1), (2, .int x2), (3, .int x3), (4, .int x4), (5, .int x5)]) (st' := [.ref 0]) dX6_copy_111 rfl ?_
              refine RR.ic (v := 2) dX6_copy_112 (by decide) ?_
              refine RR.cV (d' := 1) dX6_copy_113 ml_X6_160 rfl rfl (as := [.int 2]) (rest := []) rfl rfl (Nat.le_of_ble_eq_true rfl) (Nat.le_of_ble_eq_true rfl) (by decide) ?_
              show RR 1 1 mX6_meets 0 [(0, .ref 0), (1, .int 2)] [] σ _
              refine RR.s2 (pc' := 1) (lv' := [(0, .ref 0), (1, .int 2)]) (st' := [.ref 0]) dX6_meets_0 rfl ?_
              refine RR.s2 (pc' := 2) (lv' := [(0, .ref 0), (1, .int 2)]) (st' := [.int 2, .ref 0]) dX6_meets_1 rfl ?_
              refine RR.putI dX6_meets_2 fp_X6_302 rfl rfl ?_
              refine RR.bp (v := (-10)) dX6_meets_5 (by decide) ?_
              refine RR.s2 (pc' := 8) (lv' := [(0, .ref 0), (1, .int 2)]) (st' := [.int 2, .int (-10)]) dX6_meets_7 rfl ?_
              refine RR.s2 (pc' := 9) (lv' := [(0, .ref 0), (1, .int 2)]) (st' := [.int ((-10) - 2)]) dX6_meets_8 rfl ?_
              refine RR.iret dX6_meets_9 rfl ?_
              show RR 1 3 mX6_copy 116 [(0, .ref 0), (1, .int x1), (2, .int x2), (3, .int x3), (4, .int x4), (5, .int x5)] [.int ((-10) - 2)] (wI σ 0 41 2) _
              exact RR.iret dX6_copy_116 rfl ⟨_, rfl, H⟩
            · have H := H.2 c
              refine RR.s2 (pc' := 68) (lv' := [(0, .ref 0), (1, .int x1), (2, .int x2), (3, .int x3), (4, .int x4), (5, .int x5)]) (st' := [.int x4]) dX6_copy_66 rfl ?_
              refine RR.br dX6_copy_68 rfl (fun c => ?_) (fun c => ?_)
              · have H := H.1 c
                refine RR.s2 (pc' := 112) (lv' := [(0, .ref 0), (1, .int x1), (2, .int x2), (3, .int x3), (4, .int x4), (5, .int x5)]) (st' := [.ref 0]) dX6_copy_111 rfl ?_
                refine RR.ic (v := 2) dX6_copy_112 (by decide) ?_
                refine RR.cV (d' := 1) dX6_copy_113 ml_X6_160 rfl rfl (as := [.int 2]) (rest := []) rfl rfl (Nat.le_of_ble_eq_true rfl) (Nat.le_of_ble_eq_true rfl) (by decide) ?_
                show RR 1 1 mX6_meets 0 [(0, .ref 0), (1, .int 2)] [] σ _
                refine RR.s2 (pc' := 1) (lv' := [(0, .ref 0), (1, .int 2)]) (st' := [.ref 0]) dX6_meets_0 rfl ?_
                refine RR.s2 (pc' := 2) (lv' := [(0, .ref 0), (1, .int 2)]) (st' := [.int 2, .ref 0]) dX6_meets_1 rfl ?_
                refine RR.putI dX6_meets_2 fp_X6_302 rfl rfl ?_
                refine RR.bp (v := (-10)) dX6_meets_5 (by decide) ?_
                refine RR.s2 (pc' := 8) (lv' := [(0, .ref 0), (1, .int 2)]) (st' := [.int 2, .int (-10)]) dX6_meets_7 rfl ?_
                refine RR.s2 (pc' := 9) (lv' := [(0, .ref 0), (1, .int 2)]) (st' := [.int ((-10) - 2)]) dX6_meets_8 rfl ?_
                refine RR.iret dX6_meets_9 rfl ?_
                show RR 1 3 mX6_copy 116 [(0, .ref 0), (1, .int x1), (2, .int x2), (3, .int x3), (4, .int x4), (5, .int x5)] [.int ((-10) - 2)] (wI σ 0 41 2) _
                exact RR.iret dX6_copy_116 rfl ⟨_, rfl, H⟩
              · have H := H.2 c
                refine RR.s2 (pc' := 73) (lv' := [(0, .ref 0), (1, .int x1), (2, .int x2), (3, .int x3), (4, .int x4), (5, .int x5)]) (st' := [.int x5]) dX6_copy_71 rfl ?_
                refine RR.br dX6_copy_73 rfl (fun c => ?_) (fun c => ?_)
                · have H := H.1 c
                  refine RR.s2 (pc' := 112) (lv' := [(0, .ref 0), (1, .int x1), (2, .int x2), (3, .int x3), (4, .int x4), (5, .int x5)]) (st' := [.ref 0]) dX6_copy_111 rfl ?_
                  refine RR.ic (v := 2) dX6_copy_112 (by decide) ?_
                  refine RR.cV (d' := 1) dX6_copy_113 ml_X6_160 rfl rfl (as := [.int 2]) (rest := []) rfl rfl (Nat.le_of_ble_eq_true rfl) (Nat.le_of_ble_eq_true rfl) (by decide) ?_
                  show RR 1 1 mX6_meets 0 [(0, .ref 0), (1, .int 2)] [] σ _
                  refine RR.s2 (pc' := 1) (lv' := [(0, .ref 0), (1, .int 2)]) (st' := [.ref 0]) dX6_meets_0 rfl ?_
                  refine RR.s2 (pc' := 2) (lv' := [(0, .ref 0), (1, .int 2)]) (st' := [.int 2, .ref 0]) dX6_meets_1 rfl ?_
                  refine RR.putI dX6_meets_2 fp_X6_302 rfl rfl ?_
                  refine RR.bp (v := (-10)) dX6_meets_5 (by decide) ?_
                  refine RR.s2 (pc' := 8) (lv' := [(0, .ref 0), (1, .int 2)]) (st' := [.int 2, .int (-10)]) dX6_meets_7 rfl ?_
                  refine RR.s2 (pc' := 9) (lv' := [(0, .ref 0), (1, .int 2)]) (st' := [.int ((-10) - 2)]) dX6_meets_8 rfl ?_
                  refine RR.iret dX6_meets_9 rfl ?_
                  show RR 1 3 mX6_copy 116 [(0, .ref 0), (1, .int x1), (2, .int x2), (3, .int x3), (4, .int x4), (5, .int x5)] [.int ((-10) - 2)] (wI σ 0 41 2) _
                  exact RR.iret dX6_copy_116 rfl ⟨_, rfl, H⟩
                · have H := H.2 c
                  refine RR.s2 (pc' := 77) (lv' := [(0, .ref 0), (1, .int x1), (2, .int x2), (3, .int x3), (4, .int x4), (5, .int x5)]) (st' := [.int x2]) dX6_copy_76 rfl ?_
                  refine RR.s2 (pc' := 78) (lv' := [(0, .ref 0), (1, .int x1), (2, .int x2), (3, .int x3), (4, .int x4), (5, .int x5)]) (st' := [.long x2.toInt64]) dX6_copy_77 rfl ?_
                  refine RR.s2 (pc' := 80) (lv' := [(0, .ref 0), (1, .int x1), (2, .int x2), (3, .int x3), (4, .int x4), (5, .int x5)]) (st' := [.int x5, .long x2.toInt64]) dX6_copy_78 rfl ?_
                  refine RR.s2 (pc' := 81) (lv' := [(0, .ref 0), (1, .int x1), (2, .int x2), (3, .int x3), (4, .int x4), (5, .int x5)]) (st' := [.long x5.toInt64, .long x2.toInt64]) dX6_copy_80 rfl ?_
                  refine RR.s2 (pc' := 82) (lv' := [(0, .ref 0), (1, .int x1), (2, .int x2), (3, .int x3), (4, .int x4), (5, .int x5)]) (st' := [.long (x2.toInt64 + x5.toInt64)]) dX6_copy_81 rfl ?_
                  refine RR.s2 (pc' := 83) (lv' := [(0, .ref 0), (1, .int x1), (2, .int x2), (3, .int x3), (4, .int x4), (5, .int x5)]) (st' := [.ref 0, .long (x2.toInt64 + x5.toInt64)]) dX6_copy_82 rfl ?_
                  refine RR.getR dX6_copy_83 fl_X6_95 rfl rfl ?_
                  refine RR.s2 (pc' := 87) (lv' := [(0, .ref 0), (1, .int x1), (2, .int x2), (3, .int x3), (4, .int x4), (5, .int x5)]) (st' := [.int x1, .ref 29, .long (x2.toInt64 + x5.toInt64)]) dX6_copy_86 rfl ?_
                  obtain ⟨j13, e14, b15, H⟩ := H
                  refine RR.iald dX6_copy_87 rfl e14 b15 ?_
                  refine RR.s2 (pc' := 89) (lv' := [(0, .ref 0), (1, .int x1), (2, .int x2), (3, .int x3), (4, .int x4), (5, .int x5)]) (st' := [.long ((σ.1 29 j13).toInt64), .long (x2.toInt64 + x5.toInt64)]) dX6_copy_88 rfl ?_
                  refine RR.s2 (pc' := 90) (lv' := [(0, .ref 0), (1, .int x1), (2, .int x2), (3, .int x3), (4, .int x4), (5, .int x5)]) (st' := [.int (lg_cmp (x2.toInt64 + x5.toInt64) ((σ.1 29 j13).toInt64))]) dX6_copy_89 rfl ?_
                  refine RR.br dX6_copy_90 rfl (fun c => ?_) (fun c => ?_)
                  · have H := H.1 c
                    refine RR.s2 (pc' := 112) (lv' := [(0, .ref 0), (1, .int x1), (2, .int x2), (3, .int x3), (4, .int x4), (5, .int x5)]) (st' := [.ref 0]) dX6_copy_111 rfl ?_
                    refine RR.ic (v := 2) dX6_copy_112 (by decide) ?_
                    refine RR.cV (d' := 1) dX6_copy_113 ml_X6_160 rfl rfl (as := [.int 2]) (rest := []) rfl rfl (Nat.le_of_ble_eq_true rfl) (Nat.le_of_ble_eq_true rfl) (by decide) ?_
                    show RR 1 1 mX6_meets 0 [(0, .ref 0), (1, .int 2)] [] σ _
                    refine RR.s2 (pc' := 1) (lv' := [(0, .ref 0), (1, .int 2)]) (st' := [.ref 0]) dX6_meets_0 rfl ?_
                    refine RR.s2 (pc' := 2) (lv' := [(0, .ref 0), (1, .int 2)]) (st' := [.int 2, .ref 0]) dX6_meets_1 rfl ?_
                    refine RR.putI dX6_meets_2 fp_X6_302 rfl rfl ?_
                    refine RR.bp (v := (-10)) dX6_meets_5 (by decide) ?_
                    refine RR.s2 (pc' := 8) (lv' := [(0, .ref 0), (1, .int 2)]) (st' := [.int 2, .int (-10)]) dX6_meets_7 rfl ?_
                    refine RR.s2 (pc' := 9) (lv' := [(0, .ref 0), (1, .int 2)]) (st' := [.int ((-10) - 2)]) dX6_meets_8 rfl ?_
                    refine RR.iret dX6_meets_9 rfl ?_
                    show RR 1 3 mX6_copy 116 [(0, .ref 0), (1, .int x1), (2, .int x2), (3, .int x3), (4, .int x4), (5, .int x5)] [.int ((-10) - 2)] (wI σ 0 41 2) _
                    exact RR.iret dX6_copy_116 rfl ⟨_, rfl, H⟩
                  · have H := H.2 c
                    refine RR.s2 (pc' := 95) (lv' := [(0, .ref 0), (1, .int x1), (2, .int x2), (3, .int x3), (4, .int x4), (5, .int x5)]) (st' := [.int x4]) dX6_copy_93 rfl ?_
                    refine RR.s2 (pc' := 96) (lv' := [(0, .ref 0), (1, .int x1), (2, .int x2), (3, .int x3), (4, .int x4), (5, .int x5)]) (st' := [.long x4.toInt64]) dX6_copy_95 rfl ?_
                    refine RR.s2 (pc' := 98) (lv' := [(0, .ref 0), (1, .int x1), (2, .int x2), (3, .int x3), (4, .int x4), (5, .int x5)]) (st' := [.int x5, .long x4.toInt64]) dX6_copy_96 rfl ?_
                    refine RR.s2 (pc' := 99) (lv' := [(0, .ref 0), (1, .int x1), (2, .int x2), (3, .int x3), (4, .int x4), (5, .int x5)]) (st' := [.long x5.toInt64, .long x4.toInt64]) dX6_copy_98 rfl ?_
                    refine RR.s2 (pc' := 100) (lv' := [(0, .ref 0), (1, .int x1), (2, .int x2), (3, .int x3), (4, .int x4), (5, .int x5)]) (st' := [.long (x4.toInt64 + x5.toInt64)]) dX6_copy_99 rfl ?_
                    refine RR.s2 (pc' := 101) (lv' := [(0, .ref 0), (1, .int x1), (2, .int x2), (3, .int x3), (4, .int x4), (5, .int x5)]) (st' := [.ref 0, .long (x4.toInt64 + x5.toInt64)]) dX6_copy_100 rfl ?_
                    refine RR.getR dX6_copy_101 fl_X6_95 rfl rfl ?_
                    refine RR.s2 (pc' := 105) (lv' := [(0, .ref 0), (1, .int x1), (2, .int x2), (3, .int x3), (4, .int x4), (5, .int x5)]) (st' := [.int x3, .ref 29, .long (x4.toInt64 + x5.toInt64)]) dX6_copy_104 rfl ?_
                    obtain ⟨j16, e17, b18, H⟩ := H
                    refine RR.iald dX6_copy_105 rfl e17 b18 ?_
                    refine RR.s2 (pc' := 107) (lv' := [(0, .ref 0), (1, .int x1), (2, .int x2), (3, .int x3), (4, .int x4), (5, .int x5)]) (st' := [.long ((σ.1 29 j16).toInt64), .long (x4.toInt64 + x5.toInt64)]) dX6_copy_106 rfl ?_
                    refine RR.s2 (pc' := 108) (lv' := [(0, .ref 0), (1, .int x1), (2, .int x2), (3, .int x3), (4, .int x4), (5, .int x5)]) (st' := [.int (lg_cmp (x4.toInt64 + x5.toInt64) ((σ.1 29 j16).toInt64))]) dX6_copy_107 rfl ?_
                    refine RR.br dX6_copy_108 rfl (fun c => ?_) (fun c => ?_)
                    · have H := H.1 c
                      refine RR.ic (v := 0) dX6_copy_117 (by decide) ?_
                      refine RR.s2 (pc' := 120) (lv' := [(0, .ref 0), (1, .int x1), (2, .int x2), (3, .int x3), (4, .int x4), (5, .int x5), (6, .int 0)]) (st' := []) dX6_copy_118 rfl ?_
                      exact RR.cut [0, 1, 2, 3, 4, 5, 6] rfl H
                    · have H := H.2 c
                      refine RR.s2 (pc' := 112) (lv' := [(0, .ref 0), (1, .int x1), (2, .int x2), (3, .int x3), (4, .int x4), (5, .int x5)]) (st' := [.ref 0]) dX6_copy_111 rfl ?_
                      refine RR.ic (v := 2) dX6_copy_112 (by decide) ?_
                      refine RR.cV (d' := 1) dX6_copy_113 ml_X6_160 rfl rfl (as := [.int 2]) (rest := []) rfl rfl (Nat.le_of_ble_eq_true rfl) (Nat.le_of_ble_eq_true rfl) (by decide) ?_
                      show RR 1 1 mX6_meets 0 [(0, .ref 0), (1, .int 2)] [] σ _
                      refine RR.s2 (pc' := 1) (lv' := [(0, .ref 0), (1, .int 2)]) (st' := [.ref 0]) dX6_meets_0 rfl ?_
                      refine RR.s2 (pc' := 2) (lv' := [(0, .ref 0), (1, .int 2)]) (st' := [.int 2, .ref 0]) dX6_meets_1 rfl ?_
                      refine RR.putI dX6_meets_2 fp_X6_302 rfl rfl ?_
                      refine RR.bp (v := (-10)) dX6_meets_5 (by decide) ?_
                      refine RR.s2 (pc' := 8) (lv' := [(0, .ref 0), (1, .int 2)]) (st' := [.int 2, .int (-10)]) dX6_meets_7 rfl ?_
                      refine RR.s2 (pc' := 9) (lv' := [(0, .ref 0), (1, .int 2)]) (st' := [.int ((-10) - 2)]) dX6_meets_8 rfl ?_
                      refine RR.iret dX6_meets_9 rfl ?_
                      show RR 1 3 mX6_copy 116 [(0, .ref 0), (1, .int x1), (2, .int x2), (3, .int x3), (4, .int x4), (5, .int x5)] [.int ((-10) - 2)] (wI σ 0 41 2) _
                      exact RR.iret dX6_copy_116 rfl ⟨_, rfl, H⟩
          · have H := H.2 c
            refine RR.s2 (pc' := 57) (lv' := [(0, .ref 0), (1, .int x1), (2, .int x2), (3, .int x3), (4, .int x4), (5, .int x5)]) (st' := [.ref 0]) dX6_copy_56 rfl ?_
            refine RR.ic (v := 4) dX6_copy_57 (by decide) ?_
            refine RR.cV (d' := 1) dX6_copy_58 ml_X6_160 rfl rfl (as := [.int 4]) (rest := []) rfl rfl (Nat.le_of_ble_eq_true rfl) (Nat.le_of_ble_eq_true rfl) (by decide) ?_
            show RR 1 1 mX6_meets 0 [(0, .ref 0), (1, .int 4)] [] σ _
            refine RR.s2 (pc' := 1) (lv' := [(0, .ref 0), (1, .int 4)]) (st' := [.ref 0]) dX6_meets_0 rfl ?_
            refine RR.s2 (pc' := 2) (lv' := [(0, .ref 0), (1, .int 4)]) (st' := [.int 4, .ref 0]) dX6_meets_1 rfl ?_
            refine RR.putI dX6_meets_2 fp_X6_302 rfl rfl ?_
            refine RR.bp (v := (-10)) dX6_meets_5 (by decide) ?_
            refine RR.s2 (pc' := 8) (lv' := [(0, .ref 0), (1, .int 4)]) (st' := [.int 4, .int (-10)]) dX6_meets_7 rfl ?_
            refine RR.s2 (pc' := 9) (lv' := [(0, .ref 0), (1, .int 4)]) (st' := [.int ((-10) - 4)]) dX6_meets_8 rfl ?_
            refine RR.iret dX6_meets_9 rfl ?_
            show RR 1 3 mX6_copy 61 [(0, .ref 0), (1, .int x1), (2, .int x2), (3, .int x3), (4, .int x4), (5, .int x5)] [.int ((-10) - 4)] (wI σ 0 41 4) _
            exact RR.iret dX6_copy_61 rfl ⟨_, rfl, H⟩
        · have H := H.2 (Classical.not_not.mp c)
          refine RR.s2 (pc' := 36) (lv' := [(0, .ref 0), (1, .int x1), (2, .int x2), (3, .int x3), (4, .int x4), (5, .int x5)]) (st' := [.ref 0]) dX6_copy_35 rfl ?_
          refine RR.ic (v := 1) dX6_copy_36 (by decide) ?_
          refine RR.cV (d' := 1) dX6_copy_37 ml_X6_160 rfl rfl (as := [.int 1]) (rest := []) rfl rfl (Nat.le_of_ble_eq_true rfl) (Nat.le_of_ble_eq_true rfl) (by decide) ?_
          show RR 1 1 mX6_meets 0 [(0, .ref 0), (1, .int 1)] [] σ _
          refine RR.s2 (pc' := 1) (lv' := [(0, .ref 0), (1, .int 1)]) (st' := [.ref 0]) dX6_meets_0 rfl ?_
          refine RR.s2 (pc' := 2) (lv' := [(0, .ref 0), (1, .int 1)]) (st' := [.int 1, .ref 0]) dX6_meets_1 rfl ?_
          refine RR.putI dX6_meets_2 fp_X6_302 rfl rfl ?_
          refine RR.bp (v := (-10)) dX6_meets_5 (by decide) ?_
          refine RR.s2 (pc' := 8) (lv' := [(0, .ref 0), (1, .int 1)]) (st' := [.int 1, .int (-10)]) dX6_meets_7 rfl ?_
          refine RR.s2 (pc' := 9) (lv' := [(0, .ref 0), (1, .int 1)]) (st' := [.int ((-10) - 1)]) dX6_meets_8 rfl ?_
          refine RR.iret dX6_meets_9 rfl ?_
          show RR 1 3 mX6_copy 40 [(0, .ref 0), (1, .int x1), (2, .int x2), (3, .int x3), (4, .int x4), (5, .int x5)] [.int ((-10) - 1)] (wI σ 0 41 1) _
          exact RR.iret dX6_copy_40 rfl ⟨_, rfl, H⟩
    · have H := H.2 c
      show RR 1 3 mX6_copy 11 [(0, .ref 0), (1, .int x1), (2, .int x2), (3, .int x3), (4, .int x4), (5, .int x5)] [.int 0] σ _
      refine RR.brF dX6_copy_11 rfl (by decide) ?_
      refine RR.bp (v := (-2)) dX6_copy_14 (by decide) ?_
      exact RR.iret dX6_copy_16 rfl ⟨_, rfl, H⟩
  · have H := H.2 c
    show RR 1 3 mX6_copy 4 [(0, .ref 0), (1, .int x1), (2, .int x2), (3, .int x3), (4, .int x4), (5, .int x5)] [.int 0] σ _
    refine RR.brT dX6_copy_4 rfl (by decide) ?_
    refine RR.bp (v := (-2)) dX6_copy_14 (by decide) ?_
    exact RR.iret dX6_copy_16 rfl ⟨_, rfl, H⟩
set_option maxRecDepth 20000 in
theorem b_X6_copy_120 {σ : r_St} {K : Int32 → r_St → Prop} {x1 : Int32} {x2 : Int32} {x3 : Int32} {x4 : Int32} {x5 : Int32} {x6 : Int32}  (H : (x5 ≤ x6 → R_X6_copy_157 σ K x3 x4 x5 0) ∧ (¬ (x5 ≤ x6) → (∃ j1 : Nat, ((60 * x1) + x2) + x6 = nI j1 ∧ j1 < 240 ∧ (∃ j4 : Nat, x6 = nI j4 ∧ j4 < 60 ∧ R_X6_copy_120 (wI σ 31 j4 (σ.1 30 j1)) K x1 x2 x3 x4 x5 (x6 + 1))))) : R_X6_copy_120 σ K x1 x2 x3 x4 x5 x6 := by
  show RR 1 3 mX6_copy 120 [(0, .ref 0), (1, .int x1), (2, .int x2), (3, .int x3), (4, .int x4), (5, .int x5), (6, .int x6)] [] σ (rI K)
  refine RR.s2 (pc' := 122) (lv' := [(0, .ref 0), (1, .int x1), (2, .int x2), (3, .int x3), (4, .int x4), (5, .int x5), (6, .int x6)]) (st' := [.int x6]) dX6_copy_120 rfl ?_
  refine RR.s2 (pc' := 124) (lv' := [(0, .ref 0), (1, .int x1), (2, .int x2), (3, .int x3), (4, .int x4), (5, .int x5), (6, .int x6)]) (st' := [.int x5, .int x6]) dX6_copy_122 rfl ?_
  refine RR.br dX6_copy_124 rfl (fun c => ?_) (fun c => ?_)
  · have H := H.1 c
    refine RR.ic (v := 0) dX6_copy_154 (by decide) ?_
    refine RR.s2 (pc' := 157) (lv' := [(0, .ref 0), (1, .int x1), (2, .int x2), (3, .int x3), (4, .int x4), (5, .int x5), (6, .int 0)]) (st' := []) dX6_copy_155 rfl ?_
    exact RR.cut [0, 3, 4, 5, 6] rfl H
  · have H := H.2 c
    refine RR.s2 (pc' := 128) (lv' := [(0, .ref 0), (1, .int x1), (2, .int x2), (3, .int x3), (4, .int x4), (5, .int x5), (6, .int x6)]) (st' := [.ref 0]) dX6_copy_127 rfl ?_
    refine RR.getR dX6_copy_128 fl_X6_101 rfl rfl ?_
    refine RR.s2 (pc' := 133) (lv' := [(0, .ref 0), (1, .int x1), (2, .int x2), (3, .int x3), (4, .int x4), (5, .int x5), (6, .int x6)]) (st' := [.int x6, .ref 31]) dX6_copy_131 rfl ?_
    refine RR.s2 (pc' := 134) (lv' := [(0, .ref 0), (1, .int x1), (2, .int x2), (3, .int x3), (4, .int x4), (5, .int x5), (6, .int x6)]) (st' := [.ref 0, .int x6, .ref 31]) dX6_copy_133 rfl ?_
    refine RR.getR dX6_copy_134 fl_X6_98 rfl rfl ?_
    refine RR.bp (v := 60) dX6_copy_137 (by decide) ?_
    refine RR.s2 (pc' := 140) (lv' := [(0, .ref 0), (1, .int x1), (2, .int x2), (3, .int x3), (4, .int x4), (5, .int x5), (6, .int x6)]) (st' := [.int x1, .int 60, .ref 30, .int x6, .ref 31]) dX6_copy_139 rfl ?_
    refine RR.s2 (pc' := 141) (lv' := [(0, .ref 0), (1, .int x1), (2, .int x2), (3, .int x3), (4, .int x4), (5, .int x5), (6, .int x6)]) (st' := [.int (60 * x1), .ref 30, .int x6, .ref 31]) dX6_copy_140 rfl ?_
    refine RR.s2 (pc' := 142) (lv' := [(0, .ref 0), (1, .int x1), (2, .int x2), (3, .int x3), (4, .int x4), (5, .int x5), (6, .int x6)]) (st' := [.int x2, .int (60 * x1), .ref 30, .int x6, .ref 31]) dX6_copy_141 rfl ?_
    refine RR.s2 (pc' := 143) (lv' := [(0, .ref 0), (1, .int x1), (2, .int x2), (3, .int x3), (4, .int x4), (5, .int x5), (6, .int x6)]) (st' := [.int ((60 * x1) + x2), .ref 30, .int x6, .ref 31]) dX6_copy_142 rfl ?_
    refine RR.s2 (pc' := 145) (lv' := [(0, .ref 0), (1, .int x1), (2, .int x2), (3, .int x3), (4, .int x4), (5, .int x5), (6, .int x6)]) (st' := [.int x6, .int ((60 * x1) + x2), .ref 30, .int x6, .ref 31]) dX6_copy_143 rfl ?_
    refine RR.s2 (pc' := 146) (lv' := [(0, .ref 0), (1, .int x1), (2, .int x2), (3, .int x3), (4, .int x4), (5, .int x5), (6, .int x6)]) (st' := [.int (((60 * x1) + x2) + x6), .ref 30, .int x6, .ref 31]) dX6_copy_145 rfl ?_
    obtain ⟨j1, e2, b3, H⟩ := H
    refine RR.iald dX6_copy_146 rfl e2 b3 ?_
    obtain ⟨j4, e5, b6, H⟩ := H
    refine RR.iast dX6_copy_147 rfl e5 b6 ?_
    refine RR.inc (c := 1) (lv' := [(0, .ref 0), (1, .int x1), (2, .int x2), (3, .int x3), (4, .int x4), (5, .int x5), (6, .int (x6 + 1))]) dX6_copy_148 rfl (by decide) (by decide) rfl ?_
    refine RR.s2 (pc' := 120) (lv' := [(0, .ref 0), (1, .int x1), (2, .int x2), (3, .int x3), (4, .int x4), (5, .int x5), (6, .int (x6 + 1))]) (st' := []) dX6_copy_151 rfl ?_
    exact RR.cut [0, 1, 2, 3, 4, 5, 6] rfl H
set_option maxRecDepth 20000 in
theorem b_X6_copy_157 {σ : r_St} {K : Int32 → r_St → Prop} {x3 : Int32} {x4 : Int32} {x5 : Int32} {x6 : Int32}  (H : (x5 ≤ x6 → K 1 σ) ∧ (¬ (x5 ≤ x6) → (∃ j1 : Nat, x6 = nI j1 ∧ j1 < 60 ∧ (∃ j4 : Nat, ((60 * x3) + x4) + x6 = nI j4 ∧ j4 < 240 ∧ R_X6_copy_157 (wI σ 30 j4 (σ.1 31 j1)) K x3 x4 x5 (x6 + 1))))) : R_X6_copy_157 σ K x3 x4 x5 x6 := by
  show RR 1 3 mX6_copy 157 [(0, .ref 0), (3, .int x3), (4, .int x4), (5, .int x5), (6, .int x6)] [] σ (rI K)
  refine RR.s2 (pc' := 159) (lv' := [(0, .ref 0), (3, .int x3), (4, .int x4), (5, .int x5), (6, .int x6)]) (st' := [.int x6]) dX6_copy_157 rfl ?_
  refine RR.s2 (pc' := 161) (lv' := [(0, .ref 0), (3, .int x3), (4, .int x4), (5, .int x5), (6, .int x6)]) (st' := [.int x5, .int x6]) dX6_copy_159 rfl ?_
  refine RR.br dX6_copy_161 rfl (fun c => ?_) (fun c => ?_)
  · have H := H.1 c
    refine RR.ic (v := 1) dX6_copy_192 (by decide) ?_
    exact RR.iret dX6_copy_193 rfl ⟨_, rfl, H⟩
  · have H := H.2 c
    refine RR.s2 (pc' := 165) (lv' := [(0, .ref 0), (3, .int x3), (4, .int x4), (5, .int x5), (6, .int x6)]) (st' := [.ref 0]) dX6_copy_164 rfl ?_
    refine RR.getR dX6_copy_165 fl_X6_98 rfl rfl ?_
    refine RR.bp (v := 60) dX6_copy_168 (by decide) ?_
    refine RR.s2 (pc' := 171) (lv' := [(0, .ref 0), (3, .int x3), (4, .int x4), (5, .int x5), (6, .int x6)]) (st' := [.int x3, .int 60, .ref 30]) dX6_copy_170 rfl ?_
    refine RR.s2 (pc' := 172) (lv' := [(0, .ref 0), (3, .int x3), (4, .int x4), (5, .int x5), (6, .int x6)]) (st' := [.int (60 * x3), .ref 30]) dX6_copy_171 rfl ?_
    refine RR.s2 (pc' := 174) (lv' := [(0, .ref 0), (3, .int x3), (4, .int x4), (5, .int x5), (6, .int x6)]) (st' := [.int x4, .int (60 * x3), .ref 30]) dX6_copy_172 rfl ?_
    refine RR.s2 (pc' := 175) (lv' := [(0, .ref 0), (3, .int x3), (4, .int x4), (5, .int x5), (6, .int x6)]) (st' := [.int ((60 * x3) + x4), .ref 30]) dX6_copy_174 rfl ?_
    refine RR.s2 (pc' := 177) (lv' := [(0, .ref 0), (3, .int x3), (4, .int x4), (5, .int x5), (6, .int x6)]) (st' := [.int x6, .int ((60 * x3) + x4), .ref 30]) dX6_copy_175 rfl ?_
    refine RR.s2 (pc' := 178) (lv' := [(0, .ref 0), (3, .int x3), (4, .int x4), (5, .int x5), (6, .int x6)]) (st' := [.int (((60 * x3) + x4) + x6), .ref 30]) dX6_copy_177 rfl ?_
    refine RR.s2 (pc' := 179) (lv' := [(0, .ref 0), (3, .int x3), (4, .int x4), (5, .int x5), (6, .int x6)]) (st' := [.ref 0, .int (((60 * x3) + x4) + x6), .ref 30]) dX6_copy_178 rfl ?_
    refine RR.getR dX6_copy_179 fl_X6_101 rfl rfl ?_
    refine RR.s2 (pc' := 184) (lv' := [(0, .ref 0), (3, .int x3), (4, .int x4), (5, .int x5), (6, .int x6)]) (st' := [.int x6, .ref 31, .int (((60 * x3) + x4) + x6), .ref 30]) dX6_copy_182 rfl ?_
    obtain ⟨j1, e2, b3, H⟩ := H
    refine RR.iald dX6_copy_184 rfl e2 b3 ?_
    obtain ⟨j4, e5, b6, H⟩ := H
    refine RR.iast dX6_copy_185 rfl e5 b6 ?_
    refine RR.inc (c := 1) (lv' := [(0, .ref 0), (3, .int x3), (4, .int x4), (5, .int x5), (6, .int (x6 + 1))]) dX6_copy_186 rfl (by decide) (by decide) rfl ?_
    refine RR.s2 (pc' := 157) (lv' := [(0, .ref 0), (3, .int x3), (4, .int x4), (5, .int x5), (6, .int (x6 + 1))]) (st' := []) dX6_copy_189 rfl ?_
    exact RR.cut [0, 1, 2, 3, 4] rfl H
set_option maxRecDepth 20000 in
theorem b_X6_write {σ : r_St} {K : Int32 → r_St → Prop} {x1 : Int32}  (H : (IN x1 0 3 → (∃ j1 : Nat, x1 = nI j1 ∧ j1 < 4 ∧ ((¬ σ.1 27 j1 = 0 → M_X6_laysTold σ (fun s4 => R_X6_write_31 s4 K x1 0)) ∧ (σ.1 27 j1 = 0 → K ((-10) - 1) (wI σ 0 41 1))))) ∧ (¬ IN x1 0 3 → K (-2) σ)) : M_X6_write σ K x1 := by
  show RR 1 5 mX6_write 0 [(0, .ref 0), (1, .int x1)] [] σ (rI K)
  refine RR.s2 (pc' := 1) (lv' := [(0, .ref 0), (1, .int x1)]) (st' := [.int x1]) dX6_write_0 rfl ?_
  refine RR.cS dX6_write_1 ml_X6_157 (as := [.int x1]) (rest := []) rfl rfl (Nat.le_of_ble_eq_true rfl) (Nat.le_of_ble_eq_true rfl) (by decide) (kb_X6_isSheet (fun c => ?_) (fun c => ?_))
  · have H := H.1 c
    show RR 1 5 mX6_write 4 [(0, .ref 0), (1, .int x1)] [.int 1] σ _
    refine RR.brT dX6_write_4 rfl (by decide) ?_
    refine RR.s2 (pc' := 11) (lv' := [(0, .ref 0), (1, .int x1)]) (st' := [.ref 0]) dX6_write_10 rfl ?_
    refine RR.getR dX6_write_11 fl_X6_88 rfl rfl ?_
    refine RR.s2 (pc' := 15) (lv' := [(0, .ref 0), (1, .int x1)]) (st' := [.int x1, .ref 27]) dX6_write_14 rfl ?_
    obtain ⟨j1, e2, b3, H⟩ := H
    refine RR.bald dX6_write_15 rfl e2 b3 ?_
    refine RR.br dX6_write_16 rfl (fun c => ?_) (fun c => ?_)
    · have H := H.1 c
      refine RR.s2 (pc' := 26) (lv' := [(0, .ref 0), (1, .int x1)]) (st' := [.ref 0]) dX6_write_25 rfl ?_
      refine RR.cV dX6_write_26 ml_X6_194 rfl rfl (as := []) (rest := []) rfl rfl (Nat.le_of_ble_eq_true rfl) (Nat.le_of_ble_eq_true rfl) (by decide) (RR.toV H (fun s4 H => ?_))
      show RR 1 5 mX6_write 29 [(0, .ref 0), (1, .int x1)] [] s4 _
      refine RR.ic (v := 0) dX6_write_29 (by decide) ?_
      refine RR.s2 (pc' := 31) (lv' := [(0, .ref 0), (1, .int x1), (2, .int 0)]) (st' := []) dX6_write_30 rfl ?_
      exact RR.cut [0, 1, 2] rfl H
    · have H := H.2 (Classical.not_not.mp c)
      refine RR.s2 (pc' := 20) (lv' := [(0, .ref 0), (1, .int x1)]) (st' := [.ref 0]) dX6_write_19 rfl ?_
      refine RR.ic (v := 1) dX6_write_20 (by decide) ?_
      refine RR.cV (d' := 1) dX6_write_21 ml_X6_160 rfl rfl (as := [.int 1]) (rest := []) rfl rfl (Nat.le_of_ble_eq_true rfl) (Nat.le_of_ble_eq_true rfl) (by decide) ?_
      show RR 1 1 mX6_meets 0 [(0, .ref 0), (1, .int 1)] [] σ _
      refine RR.s2 (pc' := 1) (lv' := [(0, .ref 0), (1, .int 1)]) (st' := [.ref 0]) dX6_meets_0 rfl ?_
      refine RR.s2 (pc' := 2) (lv' := [(0, .ref 0), (1, .int 1)]) (st' := [.int 1, .ref 0]) dX6_meets_1 rfl ?_
      refine RR.putI dX6_meets_2 fp_X6_302 rfl rfl ?_
      refine RR.bp (v := (-10)) dX6_meets_5 (by decide) ?_
      refine RR.s2 (pc' := 8) (lv' := [(0, .ref 0), (1, .int 1)]) (st' := [.int 1, .int (-10)]) dX6_meets_7 rfl ?_
      refine RR.s2 (pc' := 9) (lv' := [(0, .ref 0), (1, .int 1)]) (st' := [.int ((-10) - 1)]) dX6_meets_8 rfl ?_
      refine RR.iret dX6_meets_9 rfl ?_
      show RR 1 5 mX6_write 24 [(0, .ref 0), (1, .int x1)] [.int ((-10) - 1)] (wI σ 0 41 1) _
      exact RR.iret dX6_write_24 rfl ⟨_, rfl, H⟩
  · have H := H.2 c
    show RR 1 5 mX6_write 4 [(0, .ref 0), (1, .int x1)] [.int 0] σ _
    refine RR.brF dX6_write_4 rfl (by decide) ?_
    refine RR.bp (v := (-2)) dX6_write_7 (by decide) ?_
    exact RR.iret dX6_write_9 rfl ⟨_, rfl, H⟩
set_option maxRecDepth 20000 in
theorem b_X6_write_31 {σ : r_St} {K : Int32 → r_St → Prop} {x1 : Int32} {x2 : Int32}  (H : ∃ j1 : Nat, x1 = nI j1 ∧ j1 < 4 ∧ ((σ.1 29 j1 ≤ x2 → K x2 σ) ∧ (¬ (σ.1 29 j1 ≤ x2) → ((40 ≤ x2 → K x2 σ) ∧ (¬ (40 ≤ x2) → (∃ j4 : Nat, x2 = nI j4 ∧ j4 < 40 ∧ M_X6_keep σ (fun s7 => R_X6_write_31 s7 K x1 (x2 + 1)) x1 x2 (σ.1 16 j4))))))) : R_X6_write_31 σ K x1 x2 := by
  show RR 1 5 mX6_write 31 [(0, .ref 0), (1, .int x1), (2, .int x2)] [] σ (rI K)
  refine RR.s2 (pc' := 32) (lv' := [(0, .ref 0), (1, .int x1), (2, .int x2)]) (st' := [.int x2]) dX6_write_31 rfl ?_
  refine RR.s2 (pc' := 33) (lv' := [(0, .ref 0), (1, .int x1), (2, .int x2)]) (st' := [.ref 0, .int x2]) dX6_write_32 rfl ?_
  refine RR.getR dX6_write_33 fl_X6_95 rfl rfl ?_
  refine RR.s2 (pc' := 37) (lv' := [(0, .ref 0), (1, .int x1), (2, .int x2)]) (st' := [.int x1, .ref 29, .int x2]) dX6_write_36 rfl ?_
  obtain ⟨j1, e2, b3, H⟩ := H
  refine RR.iald dX6_write_37 rfl e2 b3 ?_
  refine RR.br dX6_write_38 rfl (fun c => ?_) (fun c => ?_)
  · have H := H.1 c
    refine RR.s2 (pc' := 66) (lv' := [(0, .ref 0), (1, .int x1), (2, .int x2)]) (st' := [.int x2]) dX6_write_65 rfl ?_
    exact RR.iret dX6_write_66 rfl ⟨_, rfl, H⟩
  · have H := H.2 c
    refine RR.s2 (pc' := 42) (lv' := [(0, .ref 0), (1, .int x1), (2, .int x2)]) (st' := [.int x2]) dX6_write_41 rfl ?_
    refine RR.bp (v := 40) dX6_write_42 (by decide) ?_
    refine RR.br dX6_write_44 rfl (fun c => ?_) (fun c => ?_)
    · have H := H.1 c
      refine RR.s2 (pc' := 66) (lv' := [(0, .ref 0), (1, .int x1), (2, .int x2)]) (st' := [.int x2]) dX6_write_65 rfl ?_
      exact RR.iret dX6_write_66 rfl ⟨_, rfl, H⟩
    · have H := H.2 c
      refine RR.s2 (pc' := 48) (lv' := [(0, .ref 0), (1, .int x1), (2, .int x2)]) (st' := [.ref 0]) dX6_write_47 rfl ?_
      refine RR.s2 (pc' := 49) (lv' := [(0, .ref 0), (1, .int x1), (2, .int x2)]) (st' := [.int x1, .ref 0]) dX6_write_48 rfl ?_
      refine RR.s2 (pc' := 50) (lv' := [(0, .ref 0), (1, .int x1), (2, .int x2)]) (st' := [.int x2, .int x1, .ref 0]) dX6_write_49 rfl ?_
      refine RR.s2 (pc' := 51) (lv' := [(0, .ref 0), (1, .int x1), (2, .int x2)]) (st' := [.ref 0, .int x2, .int x1, .ref 0]) dX6_write_50 rfl ?_
      refine RR.getR dX6_write_51 fl_X6_55 rfl rfl ?_
      refine RR.s2 (pc' := 55) (lv' := [(0, .ref 0), (1, .int x1), (2, .int x2)]) (st' := [.int x2, .ref 16, .int x2, .int x1, .ref 0]) dX6_write_54 rfl ?_
      obtain ⟨j4, e5, b6, H⟩ := H
      refine RR.iald dX6_write_55 rfl e5 b6 ?_
      refine RR.cV dX6_write_56 ml_X6_308 rfl rfl (as := [.int x1, .int x2, .int (σ.1 16 j4)]) (rest := []) rfl rfl (Nat.le_of_ble_eq_true rfl) (Nat.le_of_ble_eq_true rfl) (by decide) (RR.toV H (fun s7 H => ?_))
      show RR 1 5 mX6_write 59 [(0, .ref 0), (1, .int x1), (2, .int x2)] [] s7 _
      refine RR.inc (c := 1) (lv' := [(0, .ref 0), (1, .int x1), (2, .int (x2 + 1))]) dX6_write_59 rfl (by decide) (by decide) rfl ?_
      refine RR.s2 (pc' := 31) (lv' := [(0, .ref 0), (1, .int x1), (2, .int (x2 + 1))]) (st' := []) dX6_write_62 rfl ?_
      exact RR.cut [0, 1, 2] rfl H
set_option maxRecDepth 20000 in
theorem b_X6_count {σ : r_St} {K : Int32 → r_St → Prop} {x1 : Int32}  (H : (x1 = 0 → M_X6_faultNow σ (fun v2 s1 => K (s1.1 0 2) s1)) ∧ (x1 = 1 → K (σ.1 0 1) σ) ∧ (x1 = 2 → (∃ j3 : Nat, x1 - 2 = nI j3 ∧ j3 < 5 ∧ K (σ.1 3 j3) σ)) ∧ (x1 = 3 → (∃ j6 : Nat, x1 - 2 = nI j6 ∧ j6 < 5 ∧ K (σ.1 3 j6) σ)) ∧ (x1 = 4 → (∃ j9 : Nat, x1 - 2 = nI j9 ∧ j9 < 5 ∧ K (σ.1 3 j9) σ)) ∧ (x1 = 5 → (∃ j12 : Nat, x1 - 2 = nI j12 ∧ j12 < 5 ∧ K (σ.1 3 j12) σ)) ∧ (x1 = 6 → (∃ j15 : Nat, x1 - 2 = nI j15 ∧ j15 < 5 ∧ K (σ.1 3 j15) σ)) ∧ (x1 = 7 → K ((σ.1 0 29) + (σ.1 0 32)) σ) ∧ (x1 = 8 → K (σ.1 0 41) σ) ∧ (¬ x1 = 0 ∧ ¬ x1 = 1 ∧ ¬ x1 = 2 ∧ ¬ x1 = 3 ∧ ¬ x1 = 4 ∧ ¬ x1 = 5 ∧ ¬ x1 = 6 ∧ ¬ x1 = 7 ∧ ¬ x1 = 8 → K (-2) σ)) : M_X6_count σ K x1 := by
  show RR 1 4 mX6_count 0 [(0, .ref 0), (1, .int x1)] [] σ (rI K)
  refine RR.s2 (pc' := 1) (lv' := [(0, .ref 0), (1, .int x1)]) (st' := [.int x1]) dX6_count_0 rfl ?_
  rcases Classical.em (x1 = 0) with c | n0
  · have H := H.1 c
    refine RR.tsIn (off := 51) (t := 52) dX6_count_1 (by rw [c]; decide) (by rw [c]; decide) (by rw [c]; rfl) rfl ?_
    refine RR.s2 (pc' := 53) (lv' := [(0, .ref 0), (1, .int x1)]) (st' := [.ref 0]) dX6_count_52 rfl ?_
    refine RR.cV (d' := 3) dX6_count_53 ml_X6_124 rfl rfl (as := []) (rest := []) rfl rfl (Nat.le_of_ble_eq_true rfl) (Nat.le_of_ble_eq_true rfl) (by decide) ?_
    show RR 1 3 mX6_reads 0 [(0, .ref 0)] [] σ _
    refine RR.s2 (pc' := 1) (lv' := [(0, .ref 0)]) (st' := [.ref 0]) dX6_reads_0 rfl ?_
    refine RR.cV dX6_reads_1 ml_X6_120 rfl rfl (as := []) (rest := []) rfl rfl (Nat.le_of_ble_eq_true rfl) (Nat.le_of_ble_eq_true rfl) (by decide) (RR.toI H (fun v2 s1 H => ?_))
    show RR 1 3 mX6_reads 4 [(0, .ref 0)] [.int v2] s1 _
    refine RR.s2 (pc' := 5) (lv' := [(0, .ref 0), (1, .int v2)]) (st' := []) dX6_reads_4 rfl ?_
    refine RR.vret dX6_reads_5 rfl ?_
    show RR 1 4 mX6_count 56 [(0, .ref 0), (1, .int x1)] [] s1 _
    refine RR.s2 (pc' := 57) (lv' := [(0, .ref 0), (1, .int x1)]) (st' := [.ref 0]) dX6_count_56 rfl ?_
    refine RR.getI dX6_count_57 fl_X6_114 rfl rfl ?_
    exact RR.iret dX6_count_60 rfl ⟨_, rfl, H⟩
  rcases Classical.em (x1 = 1) with c | n1
  · have H := H.2.1 c
    refine RR.tsIn (off := 60) (t := 61) dX6_count_1 (by rw [c]; decide) (by rw [c]; decide) (by rw [c]; rfl) rfl ?_
    refine RR.s2 (pc' := 62) (lv' := [(0, .ref 0), (1, .int x1)]) (st' := [.ref 0]) dX6_count_61 rfl ?_
    refine RR.getI dX6_count_62 fl_X6_110 rfl rfl ?_
    exact RR.iret dX6_count_65 rfl ⟨_, rfl, H⟩
  rcases Classical.em (x1 = 2) with c | n2
  · have H := H.2.2.1 c
    refine RR.tsIn (off := 65) (t := 66) dX6_count_1 (by rw [c]; decide) (by rw [c]; decide) (by rw [c]; rfl) rfl ?_
    refine RR.s2 (pc' := 67) (lv' := [(0, .ref 0), (1, .int x1)]) (st' := [.ref 0]) dX6_count_66 rfl ?_
    refine RR.getR dX6_count_67 fl_X6_16 rfl rfl ?_
    refine RR.s2 (pc' := 71) (lv' := [(0, .ref 0), (1, .int x1)]) (st' := [.int x1, .ref 3]) dX6_count_70 rfl ?_
    refine RR.ic (v := 2) dX6_count_71 (by decide) ?_
    refine RR.s2 (pc' := 73) (lv' := [(0, .ref 0), (1, .int x1)]) (st' := [.int (x1 - 2), .ref 3]) dX6_count_72 rfl ?_
    obtain ⟨j3, e4, b5, H⟩ := H
    refine RR.iald dX6_count_73 rfl e4 b5 ?_
    exact RR.iret dX6_count_74 rfl ⟨_, rfl, H⟩
  rcases Classical.em (x1 = 3) with c | n3
  · have H := H.2.2.2.1 c
    refine RR.tsIn (off := 65) (t := 66) dX6_count_1 (by rw [c]; decide) (by rw [c]; decide) (by rw [c]; rfl) rfl ?_
    refine RR.s2 (pc' := 67) (lv' := [(0, .ref 0), (1, .int x1)]) (st' := [.ref 0]) dX6_count_66 rfl ?_
    refine RR.getR dX6_count_67 fl_X6_16 rfl rfl ?_
    refine RR.s2 (pc' := 71) (lv' := [(0, .ref 0), (1, .int x1)]) (st' := [.int x1, .ref 3]) dX6_count_70 rfl ?_
    refine RR.ic (v := 2) dX6_count_71 (by decide) ?_
    refine RR.s2 (pc' := 73) (lv' := [(0, .ref 0), (1, .int x1)]) (st' := [.int (x1 - 2), .ref 3]) dX6_count_72 rfl ?_
    obtain ⟨j6, e7, b8, H⟩ := H
    refine RR.iald dX6_count_73 rfl e7 b8 ?_
    exact RR.iret dX6_count_74 rfl ⟨_, rfl, H⟩
  rcases Classical.em (x1 = 4) with c | n4
  · have H := H.2.2.2.2.1 c
    refine RR.tsIn (off := 65) (t := 66) dX6_count_1 (by rw [c]; decide) (by rw [c]; decide) (by rw [c]; rfl) rfl ?_
    refine RR.s2 (pc' := 67) (lv' := [(0, .ref 0), (1, .int x1)]) (st' := [.ref 0]) dX6_count_66 rfl ?_
    refine RR.getR dX6_count_67 fl_X6_16 rfl rfl ?_
    refine RR.s2 (pc' := 71) (lv' := [(0, .ref 0), (1, .int x1)]) (st' := [.int x1, .ref 3]) dX6_count_70 rfl ?_
    refine RR.ic (v := 2) dX6_count_71 (by decide) ?_
    refine RR.s2 (pc' := 73) (lv' := [(0, .ref 0), (1, .int x1)]) (st' := [.int (x1 - 2), .ref 3]) dX6_count_72 rfl ?_
    obtain ⟨j9, e10, b11, H⟩ := H
    refine RR.iald dX6_count_73 rfl e10 b11 ?_
    exact RR.iret dX6_count_74 rfl ⟨_, rfl, H⟩
  rcases Classical.em (x1 = 5) with c | n5
  · have H := H.2.2.2.2.2.1 c
    refine RR.tsIn (off := 65) (t := 66) dX6_count_1 (by rw [c]; decide) (by rw [c]; decide) (by rw [c]; rfl) rfl ?_
    refine RR.s2 (pc' := 67) (lv' := [(0, .ref 0), (1, .int x1)]) (st' := [.ref 0]) dX6_count_66 rfl ?_
    refine RR.getR dX6_count_67 fl_X6_16 rfl rfl ?_
    refine RR.s2 (pc' := 71) (lv' := [(0, .ref 0), (1, .int x1)]) (st' := [.int x1, .ref 3]) dX6_count_70 rfl ?_
    refine RR.ic (v := 2) dX6_count_71 (by decide) ?_
    refine RR.s2 (pc' := 73) (lv' := [(0, .ref 0), (1, .int x1)]) (st' := [.int (x1 - 2), .ref 3]) dX6_count_72 rfl ?_
    obtain ⟨j12, e13, b14, H⟩ := H
    refine RR.iald dX6_count_73 rfl e13 b14 ?_
    exact RR.iret dX6_count_74 rfl ⟨_, rfl, H⟩
  rcases Classical.em (x1 = 6) with c | n6
  · have H := H.2.2.2.2.2.2.1 c
    refine RR.tsIn (off := 65) (t := 66) dX6_count_1 (by rw [c]; decide) (by rw [c]; decide) (by rw [c]; rfl) rfl ?_
    refine RR.s2 (pc' := 67) (lv' := [(0, .ref 0), (1, .int x1)]) (st' := [.ref 0]) dX6_count_66 rfl ?_
    refine RR.getR dX6_count_67 fl_X6_16 rfl rfl ?_
    refine RR.s2 (pc' := 71) (lv' := [(0, .ref 0), (1, .int x1)]) (st' := [.int x1, .ref 3]) dX6_count_70 rfl ?_
    refine RR.ic (v := 2) dX6_count_71 (by decide) ?_
    refine RR.s2 (pc' := 73) (lv' := [(0, .ref 0), (1, .int x1)]) (st' := [.int (x1 - 2), .ref 3]) dX6_count_72 rfl ?_
    obtain ⟨j15, e16, b17, H⟩ := H
    refine RR.iald dX6_count_73 rfl e16 b17 ?_
    exact RR.iret dX6_count_74 rfl ⟨_, rfl, H⟩
  rcases Classical.em (x1 = 7) with c | n7
  · have H := H.2.2.2.2.2.2.2.1 c
    refine RR.tsIn (off := 74) (t := 75) dX6_count_1 (by rw [c]; decide) (by rw [c]; decide) (by rw [c]; rfl) rfl ?_
    refine RR.s2 (pc' := 76) (lv' := [(0, .ref 0), (1, .int x1)]) (st' := [.ref 0]) dX6_count_75 rfl ?_
    refine RR.getI dX6_count_76 fl_X6_260 rfl rfl ?_
    refine RR.s2 (pc' := 80) (lv' := [(0, .ref 0), (1, .int x1)]) (st' := [.ref 0, .int (σ.1 0 29)]) dX6_count_79 rfl ?_
    refine RR.getI dX6_count_80 fl_X6_263 rfl rfl ?_
    refine RR.s2 (pc' := 84) (lv' := [(0, .ref 0), (1, .int x1)]) (st' := [.int ((σ.1 0 29) + (σ.1 0 32))]) dX6_count_83 rfl ?_
    exact RR.iret dX6_count_84 rfl ⟨_, rfl, H⟩
  rcases Classical.em (x1 = 8) with c | n8
  · have H := H.2.2.2.2.2.2.2.2.1 c
    refine RR.tsIn (off := 84) (t := 85) dX6_count_1 (by rw [c]; decide) (by rw [c]; decide) (by rw [c]; rfl) rfl ?_
    refine RR.s2 (pc' := 86) (lv' := [(0, .ref 0), (1, .int x1)]) (st' := [.ref 0]) dX6_count_85 rfl ?_
    refine RR.getI dX6_count_86 fl_X6_302 rfl rfl ?_
    exact RR.iret dX6_count_89 rfl ⟨_, rfl, H⟩
  have H := H.2.2.2.2.2.2.2.2.2 ⟨n0, n1, n2, n3, n4, n5, n6, n7, n8⟩
  refine RR.tsOut dX6_count_1 (ts_out9 n0 n1 n2 n3 n4 n5 n6 n7 n8) rfl ?_
  refine RR.bp (v := (-2)) dX6_count_90 (by decide) ?_
  exact RR.iret dX6_count_92 rfl ⟨_, rfl, H⟩
set_option maxRecDepth 20000 in
theorem b_X6_deedDigest {σ : r_St} {K : Int64 → r_St → Prop} {y1 : Int64} {x3 : Int32}  (H : R_X6_deedDigest_6 σ K x3 y1 0) : M_X6_deedDigest σ K y1 x3 := by
  show RR 1 6 mX6_deedDigest 0 [(0, .ref 0), (1, .long y1), (3, .int x3)] [] σ (rL K)
  refine RR.s2 (pc' := 1) (lv' := [(0, .ref 0), (1, .long y1), (3, .int x3)]) (st' := [.long y1]) dX6_deedDigest_0 rfl ?_
  refine RR.s2 (pc' := 3) (lv' := [(0, .ref 0), (1, .long y1), (3, .int x3), (4, .long y1)]) (st' := []) dX6_deedDigest_1 rfl ?_
  refine RR.ic (v := 0) dX6_deedDigest_3 (by decide) ?_
  refine RR.s2 (pc' := 6) (lv' := [(0, .ref 0), (1, .long y1), (3, .int x3), (4, .long y1), (6, .int 0)]) (st' := []) dX6_deedDigest_4 rfl ?_
  exact RR.cut [0, 2, 3, 4] rfl H
set_option maxRecDepth 20000 in
theorem b_X6_deedDigest_6 {σ : r_St} {K : Int64 → r_St → Prop} {x3 : Int32} {y4 : Int64} {x6 : Int32}  (H : (3 ≤ x6 → M_X6_crossingOf σ (fun v2 s1 => M_X6_soonestOf s1 (fun v4 s3 => M_X6_cheapestOf s3 (fun v6 s5 => M_X6_cheapestOf s5 (fun v8 s7 => M_X6_chanceOf s7 (fun v10 s9 => M_X6_chanceOf s9 (fun v12 s11 => K (((31 : Int64) * (((31 : Int64) * (((31 : Int64) * (((31 : Int64) * (((31 : Int64) * (((31 : Int64) * y4) + v2.toInt64)) + v4.toInt64)) + v6.toInt64)) + v8.toInt64)) + v10)) + v12) s11) 5 3 x3 4 1) 5 3 x3 4 0) x3 4 2 1) x3 4 2 0) x3 3 5) x3) ∧ (¬ (3 ≤ x6) → M_X6_deedOf σ (fun v14 s13 => R_X6_deedDigest_6 s13 K x3 (((31 : Int64) * y4) + v14.toInt64) (x6 + 1)) x3 x6)) : R_X6_deedDigest_6 σ K x3 y4 x6 := by
  show RR 1 6 mX6_deedDigest 6 [(0, .ref 0), (3, .int x3), (4, .long y4), (6, .int x6)] [] σ (rL K)
  refine RR.s2 (pc' := 8) (lv' := [(0, .ref 0), (3, .int x3), (4, .long y4), (6, .int x6)]) (st' := [.int x6]) dX6_deedDigest_6 rfl ?_
  refine RR.ic (v := 3) dX6_deedDigest_8 (by decide) ?_
  refine RR.br dX6_deedDigest_9 rfl (fun c => ?_) (fun c => ?_)
  · have H := H.1 c
    refine RR.ldc2 dX6_deedDigest_35 pw_w1323 ?_
    refine RR.s2 (pc' := 40) (lv' := [(0, .ref 0), (3, .int x3), (4, .long y4), (6, .int x6)]) (st' := [.long y4, .long (31 : Int64)]) dX6_deedDigest_38 rfl ?_
    refine RR.s2 (pc' := 41) (lv' := [(0, .ref 0), (3, .int x3), (4, .long y4), (6, .int x6)]) (st' := [.long ((31 : Int64) * y4)]) dX6_deedDigest_40 rfl ?_
    refine RR.s2 (pc' := 42) (lv' := [(0, .ref 0), (3, .int x3), (4, .long y4), (6, .int x6)]) (st' := [.ref 0, .long ((31 : Int64) * y4)]) dX6_deedDigest_41 rfl ?_
    refine RR.s2 (pc' := 43) (lv' := [(0, .ref 0), (3, .int x3), (4, .long y4), (6, .int x6)]) (st' := [.int x3, .ref 0, .long ((31 : Int64) * y4)]) dX6_deedDigest_42 rfl ?_
    refine RR.cV dX6_deedDigest_43 ml_X6_209 rfl rfl (as := [.int x3]) (rest := [.long ((31 : Int64) * y4)]) rfl rfl (Nat.le_of_ble_eq_true rfl) (Nat.le_of_ble_eq_true rfl) (by decide) (RR.toI H (fun v2 s1 H => ?_))
    show RR 1 6 mX6_deedDigest 46 [(0, .ref 0), (3, .int x3), (4, .long y4), (6, .int x6)] [.int v2, .long ((31 : Int64) * y4)] s1 _
    refine RR.s2 (pc' := 47) (lv' := [(0, .ref 0), (3, .int x3), (4, .long y4), (6, .int x6)]) (st' := [.long v2.toInt64, .long ((31 : Int64) * y4)]) dX6_deedDigest_46 rfl ?_
    refine RR.s2 (pc' := 48) (lv' := [(0, .ref 0), (3, .int x3), (4, .long y4), (6, .int x6)]) (st' := [.long (((31 : Int64) * y4) + v2.toInt64)]) dX6_deedDigest_47 rfl ?_
    refine RR.s2 (pc' := 50) (lv' := [(0, .ref 0), (3, .int x3), (4, .long (((31 : Int64) * y4) + v2.toInt64)), (6, .int x6)]) (st' := []) dX6_deedDigest_48 rfl ?_
    refine RR.ldc2 dX6_deedDigest_50 pw_w1323 ?_
    refine RR.s2 (pc' := 55) (lv' := [(0, .ref 0), (3, .int x3), (4, .long (((31 : Int64) * y4) + v2.toInt64)), (6, .int x6)]) (st' := [.long (((31 : Int64) * y4) + v2.toInt64), .long (31 : Int64)]) dX6_deedDigest_53 rfl ?_
    refine RR.s2 (pc' := 56) (lv' := [(0, .ref 0), (3, .int x3), (4, .long (((31 : Int64) * y4) + v2.toInt64)), (6, .int x6)]) (st' := [.long ((31 : Int64) * (((31 : Int64) * y4) + v2.toInt64))]) dX6_deedDigest_55 rfl ?_
    refine RR.s2 (pc' := 57) (lv' := [(0, .ref 0), (3, .int x3), (4, .long (((31 : Int64) * y4) + v2.toInt64)), (6, .int x6)]) (st' := [.ref 0, .long ((31 : Int64) * (((31 : Int64) * y4) + v2.toInt64))]) dX6_deedDigest_56 rfl ?_
    refine RR.s2 (pc' := 58) (lv' := [(0, .ref 0), (3, .int x3), (4, .long (((31 : Int64) * y4) + v2.toInt64)), (6, .int x6)]) (st' := [.int x3, .ref 0, .long ((31 : Int64) * (((31 : Int64) * y4) + v2.toInt64))]) dX6_deedDigest_57 rfl ?_
    refine RR.ic (v := 3) dX6_deedDigest_58 (by decide) ?_
    refine RR.ic (v := 5) dX6_deedDigest_59 (by decide) ?_
    refine RR.cV dX6_deedDigest_60 ml_X6_225 rfl rfl (as := [.int x3, .int 3, .int 5]) (rest := [.long ((31 : Int64) * (((31 : Int64) * y4) + v2.toInt64))]) rfl rfl (Nat.le_of_ble_eq_true rfl) (Nat.le_of_ble_eq_true rfl) (by decide) (RR.toI H (fun v4 s3 H => ?_))
    show RR 1 6 mX6_deedDigest 63 [(0, .ref 0), (3, .int x3), (4, .long (((31 : Int64) * y4) + v2.toInt64)), (6, .int x6)] [.int v4, .long ((31 : Int64) * (((31 : Int64) * y4) + v2.toInt64))] s3 _
    refine RR.s2 (pc' := 64) (lv' := [(0, .ref 0), (3, .int x3), (4, .long (((31 : Int64) * y4) + v2.toInt64)), (6, .int x6)]) (st' := [.long v4.toInt64, .long ((31 : Int64) * (((31 : Int64) * y4) + v2.toInt64))]) dX6_deedDigest_63 rfl ?_
    refine RR.s2 (pc' := 65) (lv' := [(0, .ref 0), (3, .int x3), (4, .long (((31 : Int64) * y4) + v2.toInt64)), (6, .int x6)]) (st' := [.long (((31 : Int64) * (((31 : Int64) * y4) + v2.toInt64)) + v4.toInt64)]) dX6_deedDigest_64 rfl ?_
    refine RR.s2 (pc' := 67) (lv' := [(0, .ref 0), (3, .int x3), (4, .long (((31 : Int64) * (((31 : Int64) * y4) + v2.toInt64)) + v4.toInt64)), (6, .int x6)]) (st' := []) dX6_deedDigest_65 rfl ?_
    refine RR.ldc2 dX6_deedDigest_67 pw_w1323 ?_
    refine RR.s2 (pc' := 72) (lv' := [(0, .ref 0), (3, .int x3), (4, .long (((31 : Int64) * (((31 : Int64) * y4) + v2.toInt64)) + v4.toInt64)), (6, .int x6)]) (st' := [.long (((31 : Int64) * (((31 : Int64) * y4) + v2.toInt64)) + v4.toInt64), .long (31 : Int64)]) dX6_deedDigest_70 rfl ?_
    refine RR.s2 (pc' := 73) (lv' := [(0, .ref 0), (3, .int x3), (4, .long (((31 : Int64) * (((31 : Int64) * y4) + v2.toInt64)) + v4.toInt64)), (6, .int x6)]) (st' := [.long ((31 : Int64) * (((31 : Int64) * (((31 : Int64) * y4) + v2.toInt64)) + v4.toInt64))]) dX6_deedDigest_72 rfl ?_
    refine RR.s2 (pc' := 74) (lv' := [(0, .ref 0), (3, .int x3), (4, .long (((31 : Int64) * (((31 : Int64) * y4) + v2.toInt64)) + v4.toInt64)), (6, .int x6)]) (st' := [.ref 0, .long ((31 : Int64) * (((31 : Int64) * (((31 : Int64) * y4) + v2.toInt64)) + v4.toInt64))]) dX6_deedDigest_73 rfl ?_
    refine RR.s2 (pc' := 75) (lv' := [(0, .ref 0), (3, .int x3), (4, .long (((31 : Int64) * (((31 : Int64) * y4) + v2.toInt64)) + v4.toInt64)), (6, .int x6)]) (st' := [.int x3, .ref 0, .long ((31 : Int64) * (((31 : Int64) * (((31 : Int64) * y4) + v2.toInt64)) + v4.toInt64))]) dX6_deedDigest_74 rfl ?_
    refine RR.ic (v := 4) dX6_deedDigest_75 (by decide) ?_
    refine RR.ic (v := 2) dX6_deedDigest_76 (by decide) ?_
    refine RR.ic (v := 0) dX6_deedDigest_77 (by decide) ?_
    refine RR.cV dX6_deedDigest_78 ml_X6_228 rfl rfl (as := [.int x3, .int 4, .int 2, .int 0]) (rest := [.long ((31 : Int64) * (((31 : Int64) * (((31 : Int64) * y4) + v2.toInt64)) + v4.toInt64))]) rfl rfl (Nat.le_of_ble_eq_true rfl) (Nat.le_of_ble_eq_true rfl) (by decide) (RR.toI H (fun v6 s5 H => ?_))
    show RR 1 6 mX6_deedDigest 81 [(0, .ref 0), (3, .int x3), (4, .long (((31 : Int64) * (((31 : Int64) * y4) + v2.toInt64)) + v4.toInt64)), (6, .int x6)] [.int v6, .long ((31 : Int64) * (((31 : Int64) * (((31 : Int64) * y4) + v2.toInt64)) + v4.toInt64))] s5 _
    refine RR.s2 (pc' := 82) (lv' := [(0, .ref 0), (3, .int x3), (4, .long (((31 : Int64) * (((31 : Int64) * y4) + v2.toInt64)) + v4.toInt64)), (6, .int x6)]) (st' := [.long v6.toInt64, .long ((31 : Int64) * (((31 : Int64) * (((31 : Int64) * y4) + v2.toInt64)) + v4.toInt64))]) dX6_deedDigest_81 rfl ?_
    refine RR.s2 (pc' := 83) (lv' := [(0, .ref 0), (3, .int x3), (4, .long (((31 : Int64) * (((31 : Int64) * y4) + v2.toInt64)) + v4.toInt64)), (6, .int x6)]) (st' := [.long (((31 : Int64) * (((31 : Int64) * (((31 : Int64) * y4) + v2.toInt64)) + v4.toInt64)) + v6.toInt64)]) dX6_deedDigest_82 rfl ?_
    refine RR.s2 (pc' := 85) (lv' := [(0, .ref 0), (3, .int x3), (4, .long (((31 : Int64) * (((31 : Int64) * (((31 : Int64) * y4) + v2.toInt64)) + v4.toInt64)) + v6.toInt64)), (6, .int x6)]) (st' := []) dX6_deedDigest_83 rfl ?_
    refine RR.ldc2 dX6_deedDigest_85 pw_w1323 ?_
    refine RR.s2 (pc' := 90) (lv' := [(0, .ref 0), (3, .int x3), (4, .long (((31 : Int64) * (((31 : Int64) * (((31 : Int64) * y4) + v2.toInt64)) + v4.toInt64)) + v6.toInt64)), (6, .int x6)]) (st' := [.long (((31 : Int64) * (((31 : Int64) * (((31 : Int64) * y4) + v2.toInt64)) + v4.toInt64)) + v6.toInt64), .long (31 : Int64)]) dX6_deedDigest_88 rfl ?_
    refine RR.s2 (pc' := 91) (lv' := [(0, .ref 0), (3, .int x3), (4, .long (((31 : Int64) * (((31 : Int64) * (((31 : Int64) * y4) + v2.toInt64)) + v4.toInt64)) + v6.toInt64)), (6, .int x6)]) (st' := [.long ((31 : Int64) * (((31 : Int64) * (((31 : Int64) * (((31 : Int64) * y4) + v2.toInt64)) + v4.toInt64)) + v6.toInt64))]) dX6_deedDigest_90 rfl ?_
    refine RR.s2 (pc' := 92) (lv' := [(0, .ref 0), (3, .int x3), (4, .long (((31 : Int64) * (((31 : Int64) * (((31 : Int64) * y4) + v2.toInt64)) + v4.toInt64)) + v6.toInt64)), (6, .int x6)]) (st' := [.ref 0, .long ((31 : Int64) * (((31 : Int64) * (((31 : Int64) * (((31 : Int64) * y4) + v2.toInt64)) + v4.toInt64)) + v6.toInt64))]) dX6_deedDigest_91 rfl ?_
    refine RR.s2 (pc' := 93) (lv' := [(0, .ref 0), (3, .int x3), (4, .long (((31 : Int64) * (((31 : Int64) * (((31 : Int64) * y4) + v2.toInt64)) + v4.toInt64)) + v6.toInt64)), (6, .int x6)]) (st' := [.int x3, .ref 0, .long ((31 : Int64) * (((31 : Int64) * (((31 : Int64) * (((31 : Int64) * y4) + v2.toInt64)) + v4.toInt64)) + v6.toInt64))]) dX6_deedDigest_92 rfl ?_
    refine RR.ic (v := 4) dX6_deedDigest_93 (by decide) ?_
    refine RR.ic (v := 2) dX6_deedDigest_94 (by decide) ?_
    refine RR.ic (v := 1) dX6_deedDigest_95 (by decide) ?_
    refine RR.cV dX6_deedDigest_96 ml_X6_228 rfl rfl (as := [.int x3, .int 4, .int 2, .int 1]) (rest := [.long ((31 : Int64) * (((31 : Int64) * (((31 : Int64) * (((31 : Int64) * y4) + v2.toInt64)) + v4.toInt64)) + v6.toInt64))]) rfl rfl (Nat.le_of_ble_eq_true rfl) (Nat.le_of_ble_eq_true rfl) (by decide) (RR.toI H (fun v8 s7 H => ?_))
    show RR 1 6 mX6_deedDigest 99 [(0, .ref 0), (3, .int x3), (4, .long (((31 : Int64) * (((31 : Int64) * (((31 : Int64) * y4) + v2.toInt64)) + v4.toInt64)) + v6.toInt64)), (6, .int x6)] [.int v8, .long ((31 : Int64) * (((31 : Int64) * (((31 : Int64) * (((31 : Int64) * y4) + v2.toInt64)) + v4.toInt64)) + v6.toInt64))] s7 _
    refine RR.s2 (pc' := 100) (lv' := [(0, .ref 0), (3, .int x3), (4, .long (((31 : Int64) * (((31 : Int64) * (((31 : Int64) * y4) + v2.toInt64)) + v4.toInt64)) + v6.toInt64)), (6, .int x6)]) (st' := [.long v8.toInt64, .long ((31 : Int64) * (((31 : Int64) * (((31 : Int64) * (((31 : Int64) * y4) + v2.toInt64)) + v4.toInt64)) + v6.toInt64))]) dX6_deedDigest_99 rfl ?_
    refine RR.s2 (pc' := 101) (lv' := [(0, .ref 0), (3, .int x3), (4, .long (((31 : Int64) * (((31 : Int64) * (((31 : Int64) * y4) + v2.toInt64)) + v4.toInt64)) + v6.toInt64)), (6, .int x6)]) (st' := [.long (((31 : Int64) * (((31 : Int64) * (((31 : Int64) * (((31 : Int64) * y4) + v2.toInt64)) + v4.toInt64)) + v6.toInt64)) + v8.toInt64)]) dX6_deedDigest_100 rfl ?_
    refine RR.s2 (pc' := 103) (lv' := [(0, .ref 0), (3, .int x3), (4, .long (((31 : Int64) * (((31 : Int64) * (((31 : Int64) * (((31 : Int64) * y4) + v2.toInt64)) + v4.toInt64)) + v6.toInt64)) + v8.toInt64)), (6, .int x6)]) (st' := []) dX6_deedDigest_101 rfl ?_
    refine RR.ldc2 dX6_deedDigest_103 pw_w1323 ?_
    refine RR.s2 (pc' := 108) (lv' := [(0, .ref 0), (3, .int x3), (4, .long (((31 : Int64) * (((31 : Int64) * (((31 : Int64) * (((31 : Int64) * y4) + v2.toInt64)) + v4.toInt64)) + v6.toInt64)) + v8.toInt64)), (6, .int x6)]) (st' := [.long (((31 : Int64) * (((31 : Int64) * (((31 : Int64) * (((31 : Int64) * y4) + v2.toInt64)) + v4.toInt64)) + v6.toInt64)) + v8.toInt64), .long (31 : Int64)]) dX6_deedDigest_106 rfl ?_
    refine RR.s2 (pc' := 109) (lv' := [(0, .ref 0), (3, .int x3), (4, .long (((31 : Int64) * (((31 : Int64) * (((31 : Int64) * (((31 : Int64) * y4) + v2.toInt64)) + v4.toInt64)) + v6.toInt64)) + v8.toInt64)), (6, .int x6)]) (st' := [.long ((31 : Int64) * (((31 : Int64) * (((31 : Int64) * (((31 : Int64) * (((31 : Int64) * y4) + v2.toInt64)) + v4.toInt64)) + v6.toInt64)) + v8.toInt64))]) dX6_deedDigest_108 rfl ?_
    refine RR.s2 (pc' := 110) (lv' := [(0, .ref 0), (3, .int x3), (4, .long (((31 : Int64) * (((31 : Int64) * (((31 : Int64) * (((31 : Int64) * y4) + v2.toInt64)) + v4.toInt64)) + v6.toInt64)) + v8.toInt64)), (6, .int x6)]) (st' := [.ref 0, .long ((31 : Int64) * (((31 : Int64) * (((31 : Int64) * (((31 : Int64) * (((31 : Int64) * y4) + v2.toInt64)) + v4.toInt64)) + v6.toInt64)) + v8.toInt64))]) dX6_deedDigest_109 rfl ?_
    refine RR.ic (v := 5) dX6_deedDigest_110 (by decide) ?_
    refine RR.ic (v := 3) dX6_deedDigest_111 (by decide) ?_
    refine RR.s2 (pc' := 113) (lv' := [(0, .ref 0), (3, .int x3), (4, .long (((31 : Int64) * (((31 : Int64) * (((31 : Int64) * (((31 : Int64) * y4) + v2.toInt64)) + v4.toInt64)) + v6.toInt64)) + v8.toInt64)), (6, .int x6)]) (st' := [.int x3, .int 3, .int 5, .ref 0, .long ((31 : Int64) * (((31 : Int64) * (((31 : Int64) * (((31 : Int64) * (((31 : Int64) * y4) + v2.toInt64)) + v4.toInt64)) + v6.toInt64)) + v8.toInt64))]) dX6_deedDigest_112 rfl ?_
    refine RR.ic (v := 4) dX6_deedDigest_113 (by decide) ?_
    refine RR.ic (v := 0) dX6_deedDigest_114 (by decide) ?_
    refine RR.cV dX6_deedDigest_115 ml_X6_290 rfl rfl (as := [.int 5, .int 3, .int x3, .int 4, .int 0]) (rest := [.long ((31 : Int64) * (((31 : Int64) * (((31 : Int64) * (((31 : Int64) * (((31 : Int64) * y4) + v2.toInt64)) + v4.toInt64)) + v6.toInt64)) + v8.toInt64))]) rfl rfl (Nat.le_of_ble_eq_true rfl) (Nat.le_of_ble_eq_true rfl) (by decide) (RR.toL H (fun v10 s9 H => ?_))
    show RR 1 6 mX6_deedDigest 118 [(0, .ref 0), (3, .int x3), (4, .long (((31 : Int64) * (((31 : Int64) * (((31 : Int64) * (((31 : Int64) * y4) + v2.toInt64)) + v4.toInt64)) + v6.toInt64)) + v8.toInt64)), (6, .int x6)] [.long v10, .long ((31 : Int64) * (((31 : Int64) * (((31 : Int64) * (((31 : Int64) * (((31 : Int64) * y4) + v2.toInt64)) + v4.toInt64)) + v6.toInt64)) + v8.toInt64))] s9 _
    refine RR.s2 (pc' := 119) (lv' := [(0, .ref 0), (3, .int x3), (4, .long (((31 : Int64) * (((31 : Int64) * (((31 : Int64) * (((31 : Int64) * y4) + v2.toInt64)) + v4.toInt64)) + v6.toInt64)) + v8.toInt64)), (6, .int x6)]) (st' := [.long (((31 : Int64) * (((31 : Int64) * (((31 : Int64) * (((31 : Int64) * (((31 : Int64) * y4) + v2.toInt64)) + v4.toInt64)) + v6.toInt64)) + v8.toInt64)) + v10)]) dX6_deedDigest_118 rfl ?_
    refine RR.s2 (pc' := 121) (lv' := [(0, .ref 0), (3, .int x3), (4, .long (((31 : Int64) * (((31 : Int64) * (((31 : Int64) * (((31 : Int64) * (((31 : Int64) * y4) + v2.toInt64)) + v4.toInt64)) + v6.toInt64)) + v8.toInt64)) + v10)), (6, .int x6)]) (st' := []) dX6_deedDigest_119 rfl ?_
    refine RR.ldc2 dX6_deedDigest_121 pw_w1323 ?_
    refine RR.s2 (pc' := 126) (lv' := [(0, .ref 0), (3, .int x3), (4, .long (((31 : Int64) * (((31 : Int64) * (((31 : Int64) * (((31 : Int64) * (((31 : Int64) * y4) + v2.toInt64)) + v4.toInt64)) + v6.toInt64)) + v8.toInt64)) + v10)), (6, .int x6)]) (st' := [.long (((31 : Int64) * (((31 : Int64) * (((31 : Int64) * (((31 : Int64) * (((31 : Int64) * y4) + v2.toInt64)) + v4.toInt64)) + v6.toInt64)) + v8.toInt64)) + v10), .long (31 : Int64)]) dX6_deedDigest_124 rfl ?_
    refine RR.s2 (pc' := 127) (lv' := [(0, .ref 0), (3, .int x3), (4, .long (((31 : Int64) * (((31 : Int64) * (((31 : Int64) * (((31 : Int64) * (((31 : Int64) * y4) + v2.toInt64)) + v4.toInt64)) + v6.toInt64)) + v8.toInt64)) + v10)), (6, .int x6)]) (st' := [.long ((31 : Int64) * (((31 : Int64) * (((31 : Int64) * (((31 : Int64) * (((31 : Int64) * (((31 : Int64) * y4) + v2.toInt64)) + v4.toInt64)) + v6.toInt64)) + v8.toInt64)) + v10))]) dX6_deedDigest_126 rfl ?_
    refine RR.s2 (pc' := 128) (lv' := [(0, .ref 0), (3, .int x3), (4, .long (((31 : Int64) * (((31 : Int64) * (((31 : Int64) * (((31 : Int64) * (((31 : Int64) * y4) + v2.toInt64)) + v4.toInt64)) + v6.toInt64)) + v8.toInt64)) + v10)), (6, .int x6)]) (st' := [.ref 0, .long ((31 : Int64) * (((31 : Int64) * (((31 : Int64) * (((31 : Int64) * (((31 : Int64) * (((31 : Int64) * y4) + v2.toInt64)) + v4.toInt64)) + v6.toInt64)) + v8.toInt64)) + v10))]) dX6_deedDigest_127 rfl ?_
    refine RR.ic (v := 5) dX6_deedDigest_128 (by decide) ?_
    refine RR.ic (v := 3) dX6_deedDigest_129 (by decide) ?_
    refine RR.s2 (pc' := 131) (lv' := [(0, .ref 0), (3, .int x3), (4, .long (((31 : Int64) * (((31 : Int64) * (((31 : Int64) * (((31 : Int64) * (((31 : Int64) * y4) + v2.toInt64)) + v4.toInt64)) + v6.toInt64)) + v8.toInt64)) + v10)), (6, .int x6)]) (st' := [.int x3, .int 3, .int 5, .ref 0, .long ((31 : Int64) * (((31 : Int64) * (((31 : Int64) * (((31 : Int64) * (((31 : Int64) * (((31 : Int64) * y4) + v2.toInt64)) + v4.toInt64)) + v6.toInt64)) + v8.toInt64)) + v10))]) dX6_deedDigest_130 rfl ?_
    refine RR.ic (v := 4) dX6_deedDigest_131 (by decide) ?_
    refine RR.ic (v := 1) dX6_deedDigest_132 (by decide) ?_
    refine RR.cV dX6_deedDigest_133 ml_X6_290 rfl rfl (as := [.int 5, .int 3, .int x3, .int 4, .int 1]) (rest := [.long ((31 : Int64) * (((31 : Int64) * (((31 : Int64) * (((31 : Int64) * (((31 : Int64) * (((31 : Int64) * y4) + v2.toInt64)) + v4.toInt64)) + v6.toInt64)) + v8.toInt64)) + v10))]) rfl rfl (Nat.le_of_ble_eq_true rfl) (Nat.le_of_ble_eq_true rfl) (by decide) (RR.toL H (fun v12 s11 H => ?_))
    show RR 1 6 mX6_deedDigest 136 [(0, .ref 0), (3, .int x3), (4, .long (((31 : Int64) * (((31 : Int64) * (((31 : Int64) * (((31 : Int64) * (((31 : Int64) * y4) + v2.toInt64)) + v4.toInt64)) + v6.toInt64)) + v8.toInt64)) + v10)), (6, .int x6)] [.long v12, .long ((31 : Int64) * (((31 : Int64) * (((31 : Int64) * (((31 : Int64) * (((31 : Int64) * (((31 : Int64) * y4) + v2.toInt64)) + v4.toInt64)) + v6.toInt64)) + v8.toInt64)) + v10))] s11 _
    refine RR.s2 (pc' := 137) (lv' := [(0, .ref 0), (3, .int x3), (4, .long (((31 : Int64) * (((31 : Int64) * (((31 : Int64) * (((31 : Int64) * (((31 : Int64) * y4) + v2.toInt64)) + v4.toInt64)) + v6.toInt64)) + v8.toInt64)) + v10)), (6, .int x6)]) (st' := [.long (((31 : Int64) * (((31 : Int64) * (((31 : Int64) * (((31 : Int64) * (((31 : Int64) * (((31 : Int64) * y4) + v2.toInt64)) + v4.toInt64)) + v6.toInt64)) + v8.toInt64)) + v10)) + v12)]) dX6_deedDigest_136 rfl ?_
    exact RR.lret dX6_deedDigest_137 rfl ⟨_, rfl, H⟩
  · have H := H.2 c
    refine RR.ldc2 dX6_deedDigest_12 pw_w1323 ?_
    refine RR.s2 (pc' := 17) (lv' := [(0, .ref 0), (3, .int x3), (4, .long y4), (6, .int x6)]) (st' := [.long y4, .long (31 : Int64)]) dX6_deedDigest_15 rfl ?_
    refine RR.s2 (pc' := 18) (lv' := [(0, .ref 0), (3, .int x3), (4, .long y4), (6, .int x6)]) (st' := [.long ((31 : Int64) * y4)]) dX6_deedDigest_17 rfl ?_
    refine RR.s2 (pc' := 19) (lv' := [(0, .ref 0), (3, .int x3), (4, .long y4), (6, .int x6)]) (st' := [.ref 0, .long ((31 : Int64) * y4)]) dX6_deedDigest_18 rfl ?_
    refine RR.s2 (pc' := 20) (lv' := [(0, .ref 0), (3, .int x3), (4, .long y4), (6, .int x6)]) (st' := [.int x3, .ref 0, .long ((31 : Int64) * y4)]) dX6_deedDigest_19 rfl ?_
    refine RR.s2 (pc' := 22) (lv' := [(0, .ref 0), (3, .int x3), (4, .long y4), (6, .int x6)]) (st' := [.int x6, .int x3, .ref 0, .long ((31 : Int64) * y4)]) dX6_deedDigest_20 rfl ?_
    refine RR.cV dX6_deedDigest_22 ml_X6_141 rfl rfl (as := [.int x3, .int x6]) (rest := [.long ((31 : Int64) * y4)]) rfl rfl (Nat.le_of_ble_eq_true rfl) (Nat.le_of_ble_eq_true rfl) (by decide) (RR.toI H (fun v14 s13 H => ?_))
    show RR 1 6 mX6_deedDigest 25 [(0, .ref 0), (3, .int x3), (4, .long y4), (6, .int x6)] [.int v14, .long ((31 : Int64) * y4)] s13 _
    refine RR.s2 (pc' := 26) (lv' := [(0, .ref 0), (3, .int x3), (4, .long y4), (6, .int x6)]) (st' := [.long v14.toInt64, .long ((31 : Int64) * y4)]) dX6_deedDigest_25 rfl ?_
    refine RR.s2 (pc' := 27) (lv' := [(0, .ref 0), (3, .int x3), (4, .long y4), (6, .int x6)]) (st' := [.long (((31 : Int64) * y4) + v14.toInt64)]) dX6_deedDigest_26 rfl ?_
    refine RR.s2 (pc' := 29) (lv' := [(0, .ref 0), (3, .int x3), (4, .long (((31 : Int64) * y4) + v14.toInt64)), (6, .int x6)]) (st' := []) dX6_deedDigest_27 rfl ?_
    refine RR.inc (c := 1) (lv' := [(0, .ref 0), (3, .int x3), (4, .long (((31 : Int64) * y4) + v14.toInt64)), (6, .int (x6 + 1))]) dX6_deedDigest_29 rfl (by decide) (by decide) rfl ?_
    refine RR.s2 (pc' := 6) (lv' := [(0, .ref 0), (3, .int x3), (4, .long (((31 : Int64) * y4) + v14.toInt64)), (6, .int (x6 + 1))]) (st' := []) dX6_deedDigest_32 rfl ?_
    exact RR.cut [0, 1, 2, 3] rfl H
set_option maxRecDepth 20000 in
theorem b_X6_dayDigest {σ : r_St} {K : Int64 → r_St → Prop} {y1 : Int64} {x3 : Int32}  (H : M_X6_rulesOf σ (fun v2 s1 => M_X6_allowsOf s1 (fun v4 s3 => M_X6_allowsOf s3 (fun v6 s5 => M_X6_allowedOf s5 (fun v8 s7 => K (((31 : Int64) * (((31 : Int64) * (((31 : Int64) * (((31 : Int64) * y1) + v2.toInt64)) + v4.toInt64)) + v6.toInt64)) + v8.toInt64) s7) x3) x3 1) x3 0) x3) : M_X6_dayDigest σ K y1 x3 := by
  show RR 1 6 mX6_dayDigest 0 [(0, .ref 0), (1, .long y1), (3, .int x3)] [] σ (rL K)
  refine RR.ldc2 dX6_dayDigest_0 pw_w1323 ?_
  refine RR.s2 (pc' := 4) (lv' := [(0, .ref 0), (1, .long y1), (3, .int x3)]) (st' := [.long y1, .long (31 : Int64)]) dX6_dayDigest_3 rfl ?_
  refine RR.s2 (pc' := 5) (lv' := [(0, .ref 0), (1, .long y1), (3, .int x3)]) (st' := [.long ((31 : Int64) * y1)]) dX6_dayDigest_4 rfl ?_
  refine RR.s2 (pc' := 6) (lv' := [(0, .ref 0), (1, .long y1), (3, .int x3)]) (st' := [.ref 0, .long ((31 : Int64) * y1)]) dX6_dayDigest_5 rfl ?_
  refine RR.s2 (pc' := 7) (lv' := [(0, .ref 0), (1, .long y1), (3, .int x3)]) (st' := [.int x3, .ref 0, .long ((31 : Int64) * y1)]) dX6_dayDigest_6 rfl ?_
  refine RR.cV dX6_dayDigest_7 ml_X6_173 rfl rfl (as := [.int x3]) (rest := [.long ((31 : Int64) * y1)]) rfl rfl (Nat.le_of_ble_eq_true rfl) (Nat.le_of_ble_eq_true rfl) (by decide) (RR.toI H (fun v2 s1 H => ?_))
  show RR 1 6 mX6_dayDigest 10 [(0, .ref 0), (1, .long y1), (3, .int x3)] [.int v2, .long ((31 : Int64) * y1)] s1 _
  refine RR.s2 (pc' := 11) (lv' := [(0, .ref 0), (1, .long y1), (3, .int x3)]) (st' := [.long v2.toInt64, .long ((31 : Int64) * y1)]) dX6_dayDigest_10 rfl ?_
  refine RR.s2 (pc' := 12) (lv' := [(0, .ref 0), (1, .long y1), (3, .int x3)]) (st' := [.long (((31 : Int64) * y1) + v2.toInt64)]) dX6_dayDigest_11 rfl ?_
  refine RR.s2 (pc' := 14) (lv' := [(0, .ref 0), (1, .long y1), (3, .int x3), (4, .long (((31 : Int64) * y1) + v2.toInt64))]) (st' := []) dX6_dayDigest_12 rfl ?_
  refine RR.ldc2 dX6_dayDigest_14 pw_w1323 ?_
  refine RR.s2 (pc' := 19) (lv' := [(0, .ref 0), (1, .long y1), (3, .int x3), (4, .long (((31 : Int64) * y1) + v2.toInt64))]) (st' := [.long (((31 : Int64) * y1) + v2.toInt64), .long (31 : Int64)]) dX6_dayDigest_17 rfl ?_
  refine RR.s2 (pc' := 20) (lv' := [(0, .ref 0), (1, .long y1), (3, .int x3), (4, .long (((31 : Int64) * y1) + v2.toInt64))]) (st' := [.long ((31 : Int64) * (((31 : Int64) * y1) + v2.toInt64))]) dX6_dayDigest_19 rfl ?_
  refine RR.s2 (pc' := 21) (lv' := [(0, .ref 0), (1, .long y1), (3, .int x3), (4, .long (((31 : Int64) * y1) + v2.toInt64))]) (st' := [.ref 0, .long ((31 : Int64) * (((31 : Int64) * y1) + v2.toInt64))]) dX6_dayDigest_20 rfl ?_
  refine RR.s2 (pc' := 22) (lv' := [(0, .ref 0), (1, .long y1), (3, .int x3), (4, .long (((31 : Int64) * y1) + v2.toInt64))]) (st' := [.int x3, .ref 0, .long ((31 : Int64) * (((31 : Int64) * y1) + v2.toInt64))]) dX6_dayDigest_21 rfl ?_
  refine RR.ic (v := 0) dX6_dayDigest_22 (by decide) ?_
  refine RR.cV dX6_dayDigest_23 ml_X6_197 rfl rfl (as := [.int x3, .int 0]) (rest := [.long ((31 : Int64) * (((31 : Int64) * y1) + v2.toInt64))]) rfl rfl (Nat.le_of_ble_eq_true rfl) (Nat.le_of_ble_eq_true rfl) (by decide) (RR.toI H (fun v4 s3 H => ?_))
  show RR 1 6 mX6_dayDigest 26 [(0, .ref 0), (1, .long y1), (3, .int x3), (4, .long (((31 : Int64) * y1) + v2.toInt64))] [.int v4, .long ((31 : Int64) * (((31 : Int64) * y1) + v2.toInt64))] s3 _
  refine RR.s2 (pc' := 27) (lv' := [(0, .ref 0), (1, .long y1), (3, .int x3), (4, .long (((31 : Int64) * y1) + v2.toInt64))]) (st' := [.long v4.toInt64, .long ((31 : Int64) * (((31 : Int64) * y1) + v2.toInt64))]) dX6_dayDigest_26 rfl ?_
  refine RR.s2 (pc' := 28) (lv' := [(0, .ref 0), (1, .long y1), (3, .int x3), (4, .long (((31 : Int64) * y1) + v2.toInt64))]) (st' := [.long (((31 : Int64) * (((31 : Int64) * y1) + v2.toInt64)) + v4.toInt64)]) dX6_dayDigest_27 rfl ?_
  refine RR.s2 (pc' := 30) (lv' := [(0, .ref 0), (1, .long y1), (3, .int x3), (4, .long (((31 : Int64) * (((31 : Int64) * y1) + v2.toInt64)) + v4.toInt64))]) (st' := []) dX6_dayDigest_28 rfl ?_
  refine RR.ldc2 dX6_dayDigest_30 pw_w1323 ?_
  refine RR.s2 (pc' := 35) (lv' := [(0, .ref 0), (1, .long y1), (3, .int x3), (4, .long (((31 : Int64) * (((31 : Int64) * y1) + v2.toInt64)) + v4.toInt64))]) (st' := [.long (((31 : Int64) * (((31 : Int64) * y1) + v2.toInt64)) + v4.toInt64), .long (31 : Int64)]) dX6_dayDigest_33 rfl ?_
  refine RR.s2 (pc' := 36) (lv' := [(0, .ref 0), (1, .long y1), (3, .int x3), (4, .long (((31 : Int64) * (((31 : Int64) * y1) + v2.toInt64)) + v4.toInt64))]) (st' := [.long ((31 : Int64) * (((31 : Int64) * (((31 : Int64) * y1) + v2.toInt64)) + v4.toInt64))]) dX6_dayDigest_35 rfl ?_
  refine RR.s2 (pc' := 37) (lv' := [(0, .ref 0), (1, .long y1), (3, .int x3), (4, .long (((31 : Int64) * (((31 : Int64) * y1) + v2.toInt64)) + v4.toInt64))]) (st' := [.ref 0, .long ((31 : Int64) * (((31 : Int64) * (((31 : Int64) * y1) + v2.toInt64)) + v4.toInt64))]) dX6_dayDigest_36 rfl ?_
  refine RR.s2 (pc' := 38) (lv' := [(0, .ref 0), (1, .long y1), (3, .int x3), (4, .long (((31 : Int64) * (((31 : Int64) * y1) + v2.toInt64)) + v4.toInt64))]) (st' := [.int x3, .ref 0, .long ((31 : Int64) * (((31 : Int64) * (((31 : Int64) * y1) + v2.toInt64)) + v4.toInt64))]) dX6_dayDigest_37 rfl ?_
  refine RR.ic (v := 1) dX6_dayDigest_38 (by decide) ?_
  refine RR.cV dX6_dayDigest_39 ml_X6_197 rfl rfl (as := [.int x3, .int 1]) (rest := [.long ((31 : Int64) * (((31 : Int64) * (((31 : Int64) * y1) + v2.toInt64)) + v4.toInt64))]) rfl rfl (Nat.le_of_ble_eq_true rfl) (Nat.le_of_ble_eq_true rfl) (by decide) (RR.toI H (fun v6 s5 H => ?_))
  show RR 1 6 mX6_dayDigest 42 [(0, .ref 0), (1, .long y1), (3, .int x3), (4, .long (((31 : Int64) * (((31 : Int64) * y1) + v2.toInt64)) + v4.toInt64))] [.int v6, .long ((31 : Int64) * (((31 : Int64) * (((31 : Int64) * y1) + v2.toInt64)) + v4.toInt64))] s5 _
  refine RR.s2 (pc' := 43) (lv' := [(0, .ref 0), (1, .long y1), (3, .int x3), (4, .long (((31 : Int64) * (((31 : Int64) * y1) + v2.toInt64)) + v4.toInt64))]) (st' := [.long v6.toInt64, .long ((31 : Int64) * (((31 : Int64) * (((31 : Int64) * y1) + v2.toInt64)) + v4.toInt64))]) dX6_dayDigest_42 rfl ?_
  refine RR.s2 (pc' := 44) (lv' := [(0, .ref 0), (1, .long y1), (3, .int x3), (4, .long (((31 : Int64) * (((31 : Int64) * y1) + v2.toInt64)) + v4.toInt64))]) (st' := [.long (((31 : Int64) * (((31 : Int64) * (((31 : Int64) * y1) + v2.toInt64)) + v4.toInt64)) + v6.toInt64)]) dX6_dayDigest_43 rfl ?_
  refine RR.s2 (pc' := 46) (lv' := [(0, .ref 0), (1, .long y1), (3, .int x3), (4, .long (((31 : Int64) * (((31 : Int64) * (((31 : Int64) * y1) + v2.toInt64)) + v4.toInt64)) + v6.toInt64))]) (st' := []) dX6_dayDigest_44 rfl ?_
  refine RR.ldc2 dX6_dayDigest_46 pw_w1323 ?_
  refine RR.s2 (pc' := 51) (lv' := [(0, .ref 0), (1, .long y1), (3, .int x3), (4, .long (((31 : Int64) * (((31 : Int64) * (((31 : Int64) * y1) + v2.toInt64)) + v4.toInt64)) + v6.toInt64))]) (st' := [.long (((31 : Int64) * (((31 : Int64) * (((31 : Int64) * y1) + v2.toInt64)) + v4.toInt64)) + v6.toInt64), .long (31 : Int64)]) dX6_dayDigest_49 rfl ?_
  refine RR.s2 (pc' := 52) (lv' := [(0, .ref 0), (1, .long y1), (3, .int x3), (4, .long (((31 : Int64) * (((31 : Int64) * (((31 : Int64) * y1) + v2.toInt64)) + v4.toInt64)) + v6.toInt64))]) (st' := [.long ((31 : Int64) * (((31 : Int64) * (((31 : Int64) * (((31 : Int64) * y1) + v2.toInt64)) + v4.toInt64)) + v6.toInt64))]) dX6_dayDigest_51 rfl ?_
  refine RR.s2 (pc' := 53) (lv' := [(0, .ref 0), (1, .long y1), (3, .int x3), (4, .long (((31 : Int64) * (((31 : Int64) * (((31 : Int64) * y1) + v2.toInt64)) + v4.toInt64)) + v6.toInt64))]) (st' := [.ref 0, .long ((31 : Int64) * (((31 : Int64) * (((31 : Int64) * (((31 : Int64) * y1) + v2.toInt64)) + v4.toInt64)) + v6.toInt64))]) dX6_dayDigest_52 rfl ?_
  refine RR.s2 (pc' := 54) (lv' := [(0, .ref 0), (1, .long y1), (3, .int x3), (4, .long (((31 : Int64) * (((31 : Int64) * (((31 : Int64) * y1) + v2.toInt64)) + v4.toInt64)) + v6.toInt64))]) (st' := [.int x3, .ref 0, .long ((31 : Int64) * (((31 : Int64) * (((31 : Int64) * (((31 : Int64) * y1) + v2.toInt64)) + v4.toInt64)) + v6.toInt64))]) dX6_dayDigest_53 rfl ?_
  refine RR.cV dX6_dayDigest_54 ml_X6_200 rfl rfl (as := [.int x3]) (rest := [.long ((31 : Int64) * (((31 : Int64) * (((31 : Int64) * (((31 : Int64) * y1) + v2.toInt64)) + v4.toInt64)) + v6.toInt64))]) rfl rfl (Nat.le_of_ble_eq_true rfl) (Nat.le_of_ble_eq_true rfl) (by decide) (RR.toI H (fun v8 s7 H => ?_))
  show RR 1 6 mX6_dayDigest 57 [(0, .ref 0), (1, .long y1), (3, .int x3), (4, .long (((31 : Int64) * (((31 : Int64) * (((31 : Int64) * y1) + v2.toInt64)) + v4.toInt64)) + v6.toInt64))] [.int v8, .long ((31 : Int64) * (((31 : Int64) * (((31 : Int64) * (((31 : Int64) * y1) + v2.toInt64)) + v4.toInt64)) + v6.toInt64))] s7 _
  refine RR.s2 (pc' := 58) (lv' := [(0, .ref 0), (1, .long y1), (3, .int x3), (4, .long (((31 : Int64) * (((31 : Int64) * (((31 : Int64) * y1) + v2.toInt64)) + v4.toInt64)) + v6.toInt64))]) (st' := [.long v8.toInt64, .long ((31 : Int64) * (((31 : Int64) * (((31 : Int64) * (((31 : Int64) * y1) + v2.toInt64)) + v4.toInt64)) + v6.toInt64))]) dX6_dayDigest_57 rfl ?_
  refine RR.s2 (pc' := 59) (lv' := [(0, .ref 0), (1, .long y1), (3, .int x3), (4, .long (((31 : Int64) * (((31 : Int64) * (((31 : Int64) * y1) + v2.toInt64)) + v4.toInt64)) + v6.toInt64))]) (st' := [.long (((31 : Int64) * (((31 : Int64) * (((31 : Int64) * (((31 : Int64) * y1) + v2.toInt64)) + v4.toInt64)) + v6.toInt64)) + v8.toInt64)]) dX6_dayDigest_58 rfl ?_
  exact RR.lret dX6_dayDigest_59 rfl ⟨_, rfl, H⟩
set_option maxRecDepth 20000 in
theorem b_X6_digest {σ : r_St} {K : Int64 → r_St → Prop}  (H : R_X6_digest_6 σ K (17 : Int64) 0) : M_X6_digest σ K := by
  show RR 1 7 mX6_digest 0 [(0, .ref 0)] [] σ (rL K)
  refine RR.ldc2 dX6_digest_0 pw_w1322 ?_
  refine RR.s2 (pc' := 4) (lv' := [(0, .ref 0), (1, .long (17 : Int64))]) (st' := []) dX6_digest_3 rfl ?_
  refine RR.ic (v := 0) dX6_digest_4 (by decide) ?_
  refine RR.s2 (pc' := 6) (lv' := [(0, .ref 0), (1, .long (17 : Int64)), (3, .int 0)]) (st' := []) dX6_digest_5 rfl ?_
  exact RR.cut [0, 1, 2] rfl H
set_option maxRecDepth 20000 in
theorem b_X6_digest_6 {σ : r_St} {K : Int64 → r_St → Prop} {y1 : Int64} {x3 : Int32}  (H : (8 ≤ x3 → M_X6_faultNow σ (fun v2 s1 => R_X6_digest_45 s1 K (((31 : Int64) * y1) + v2.toInt64) 0)) ∧ (¬ (8 ≤ x3) → M_X6_count σ (fun v4 s3 => R_X6_digest_6 s3 K (((31 : Int64) * y1) + v4.toInt64) (x3 + 1)) x3)) : R_X6_digest_6 σ K y1 x3 := by
  show RR 1 7 mX6_digest 6 [(0, .ref 0), (1, .long y1), (3, .int x3)] [] σ (rL K)
  refine RR.s2 (pc' := 7) (lv' := [(0, .ref 0), (1, .long y1), (3, .int x3)]) (st' := [.int x3]) dX6_digest_6 rfl ?_
  refine RR.bp (v := 8) dX6_digest_7 (by decide) ?_
  refine RR.br dX6_digest_9 rfl (fun c => ?_) (fun c => ?_)
  · have H := H.1 c
    refine RR.ldc2 dX6_digest_31 pw_w1323 ?_
    refine RR.s2 (pc' := 35) (lv' := [(0, .ref 0), (1, .long y1), (3, .int x3)]) (st' := [.long y1, .long (31 : Int64)]) dX6_digest_34 rfl ?_
    refine RR.s2 (pc' := 36) (lv' := [(0, .ref 0), (1, .long y1), (3, .int x3)]) (st' := [.long ((31 : Int64) * y1)]) dX6_digest_35 rfl ?_
    refine RR.s2 (pc' := 37) (lv' := [(0, .ref 0), (1, .long y1), (3, .int x3)]) (st' := [.ref 0, .long ((31 : Int64) * y1)]) dX6_digest_36 rfl ?_
    refine RR.cV dX6_digest_37 ml_X6_120 rfl rfl (as := []) (rest := [.long ((31 : Int64) * y1)]) rfl rfl (Nat.le_of_ble_eq_true rfl) (Nat.le_of_ble_eq_true rfl) (by decide) (RR.toI H (fun v2 s1 H => ?_))
    show RR 1 7 mX6_digest 40 [(0, .ref 0), (1, .long y1), (3, .int x3)] [.int v2, .long ((31 : Int64) * y1)] s1 _
    refine RR.s2 (pc' := 41) (lv' := [(0, .ref 0), (1, .long y1), (3, .int x3)]) (st' := [.long v2.toInt64, .long ((31 : Int64) * y1)]) dX6_digest_40 rfl ?_
    refine RR.s2 (pc' := 42) (lv' := [(0, .ref 0), (1, .long y1), (3, .int x3)]) (st' := [.long (((31 : Int64) * y1) + v2.toInt64)]) dX6_digest_41 rfl ?_
    refine RR.s2 (pc' := 43) (lv' := [(0, .ref 0), (1, .long (((31 : Int64) * y1) + v2.toInt64)), (3, .int x3)]) (st' := []) dX6_digest_42 rfl ?_
    refine RR.ic (v := 0) dX6_digest_43 (by decide) ?_
    refine RR.s2 (pc' := 45) (lv' := [(0, .ref 0), (1, .long (((31 : Int64) * y1) + v2.toInt64)), (3, .int 0)]) (st' := []) dX6_digest_44 rfl ?_
    exact RR.cut [0, 1, 2] rfl H
  · have H := H.2 c
    refine RR.ldc2 dX6_digest_12 pw_w1323 ?_
    refine RR.s2 (pc' := 16) (lv' := [(0, .ref 0), (1, .long y1), (3, .int x3)]) (st' := [.long y1, .long (31 : Int64)]) dX6_digest_15 rfl ?_
    refine RR.s2 (pc' := 17) (lv' := [(0, .ref 0), (1, .long y1), (3, .int x3)]) (st' := [.long ((31 : Int64) * y1)]) dX6_digest_16 rfl ?_
    refine RR.s2 (pc' := 18) (lv' := [(0, .ref 0), (1, .long y1), (3, .int x3)]) (st' := [.ref 0, .long ((31 : Int64) * y1)]) dX6_digest_17 rfl ?_
    refine RR.s2 (pc' := 19) (lv' := [(0, .ref 0), (1, .long y1), (3, .int x3)]) (st' := [.int x3, .ref 0, .long ((31 : Int64) * y1)]) dX6_digest_18 rfl ?_
    refine RR.cV dX6_digest_19 ml_X6_316 rfl rfl (as := [.int x3]) (rest := [.long ((31 : Int64) * y1)]) rfl rfl (Nat.le_of_ble_eq_true rfl) (Nat.le_of_ble_eq_true rfl) (by decide) (RR.toI H (fun v4 s3 H => ?_))
    show RR 1 7 mX6_digest 22 [(0, .ref 0), (1, .long y1), (3, .int x3)] [.int v4, .long ((31 : Int64) * y1)] s3 _
    refine RR.s2 (pc' := 23) (lv' := [(0, .ref 0), (1, .long y1), (3, .int x3)]) (st' := [.long v4.toInt64, .long ((31 : Int64) * y1)]) dX6_digest_22 rfl ?_
    refine RR.s2 (pc' := 24) (lv' := [(0, .ref 0), (1, .long y1), (3, .int x3)]) (st' := [.long (((31 : Int64) * y1) + v4.toInt64)]) dX6_digest_23 rfl ?_
    refine RR.s2 (pc' := 25) (lv' := [(0, .ref 0), (1, .long (((31 : Int64) * y1) + v4.toInt64)), (3, .int x3)]) (st' := []) dX6_digest_24 rfl ?_
    refine RR.inc (c := 1) (lv' := [(0, .ref 0), (1, .long (((31 : Int64) * y1) + v4.toInt64)), (3, .int (x3 + 1))]) dX6_digest_25 rfl (by decide) (by decide) rfl ?_
    refine RR.s2 (pc' := 6) (lv' := [(0, .ref 0), (1, .long (((31 : Int64) * y1) + v4.toInt64)), (3, .int (x3 + 1))]) (st' := []) dX6_digest_28 rfl ?_
    exact RR.cut [0, 1, 2] rfl H
set_option maxRecDepth 20000 in
theorem b_X6_digest_45 {σ : r_St} {K : Int64 → r_St → Prop} {y1 : Int64} {x3 : Int32}  (H : (σ.1 0 2 ≤ x3 → M_X6_dayDigest σ (fun v2 s1 => M_X6_dayDigest s1 (fun v4 s3 => M_X6_dayDigest s3 (fun v6 s5 => M_X6_dayDigest s5 (fun v8 s7 => M_X6_dayDigest s7 (fun v10 s9 => M_X6_neverNow s9 (fun v12 s11 => M_X6_alikeNow s11 (fun v14 s13 => R_X6_digest_130 s13 K (((31 : Int64) * (((31 : Int64) * v10) + v12.toInt64)) + v14.toInt64) 0))) v8 39) v6 20) v4 6) v2 1) y1 0) ∧ (¬ (σ.1 0 2 ≤ x3) → M_X6_deedDigest σ (fun v16 s15 => R_X6_digest_45 s15 K v16 (x3 + 1)) y1 x3)) : R_X6_digest_45 σ K y1 x3 := by
  show RR 1 7 mX6_digest 45 [(0, .ref 0), (1, .long y1), (3, .int x3)] [] σ (rL K)
  refine RR.s2 (pc' := 46) (lv' := [(0, .ref 0), (1, .long y1), (3, .int x3)]) (st' := [.int x3]) dX6_digest_45 rfl ?_
  refine RR.s2 (pc' := 47) (lv' := [(0, .ref 0), (1, .long y1), (3, .int x3)]) (st' := [.ref 0, .int x3]) dX6_digest_46 rfl ?_
  refine RR.getI dX6_digest_47 fl_X6_114 rfl rfl ?_
  refine RR.br dX6_digest_50 rfl (fun c => ?_) (fun c => ?_)
  · have H := H.1 c
    refine RR.s2 (pc' := 67) (lv' := [(0, .ref 0), (1, .long y1), (3, .int x3)]) (st' := [.ref 0]) dX6_digest_66 rfl ?_
    refine RR.s2 (pc' := 68) (lv' := [(0, .ref 0), (1, .long y1), (3, .int x3)]) (st' := [.long y1, .ref 0]) dX6_digest_67 rfl ?_
    refine RR.ic (v := 0) dX6_digest_68 (by decide) ?_
    refine RR.cV dX6_digest_69 ml_X6_323 rfl rfl (as := [.long y1, .int 0]) (rest := []) rfl rfl (Nat.le_of_ble_eq_true rfl) (Nat.le_of_ble_eq_true rfl) (by decide) (RR.toL H (fun v2 s1 H => ?_))
    show RR 1 7 mX6_digest 72 [(0, .ref 0), (1, .long y1), (3, .int x3)] [.long v2] s1 _
    refine RR.s2 (pc' := 73) (lv' := [(0, .ref 0), (1, .long v2), (3, .int x3)]) (st' := []) dX6_digest_72 rfl ?_
    refine RR.s2 (pc' := 74) (lv' := [(0, .ref 0), (1, .long v2), (3, .int x3)]) (st' := [.ref 0]) dX6_digest_73 rfl ?_
    refine RR.s2 (pc' := 75) (lv' := [(0, .ref 0), (1, .long v2), (3, .int x3)]) (st' := [.long v2, .ref 0]) dX6_digest_74 rfl ?_
    refine RR.ic (v := 1) dX6_digest_75 (by decide) ?_
    refine RR.cV dX6_digest_76 ml_X6_323 rfl rfl (as := [.long v2, .int 1]) (rest := []) rfl rfl (Nat.le_of_ble_eq_true rfl) (Nat.le_of_ble_eq_true rfl) (by decide) (RR.toL H (fun v4 s3 H => ?_))
    show RR 1 7 mX6_digest 79 [(0, .ref 0), (1, .long v2), (3, .int x3)] [.long v4] s3 _
    refine RR.s2 (pc' := 80) (lv' := [(0, .ref 0), (1, .long v4), (3, .int x3)]) (st' := []) dX6_digest_79 rfl ?_
    refine RR.s2 (pc' := 81) (lv' := [(0, .ref 0), (1, .long v4), (3, .int x3)]) (st' := [.ref 0]) dX6_digest_80 rfl ?_
    refine RR.s2 (pc' := 82) (lv' := [(0, .ref 0), (1, .long v4), (3, .int x3)]) (st' := [.long v4, .ref 0]) dX6_digest_81 rfl ?_
    refine RR.bp (v := 6) dX6_digest_82 (by decide) ?_
    refine RR.cV dX6_digest_84 ml_X6_323 rfl rfl (as := [.long v4, .int 6]) (rest := []) rfl rfl (Nat.le_of_ble_eq_true rfl) (Nat.le_of_ble_eq_true rfl) (by decide) (RR.toL H (fun v6 s5 H => ?_))
    show RR 1 7 mX6_digest 87 [(0, .ref 0), (1, .long v4), (3, .int x3)] [.long v6] s5 _
    refine RR.s2 (pc' := 88) (lv' := [(0, .ref 0), (1, .long v6), (3, .int x3)]) (st' := []) dX6_digest_87 rfl ?_
    refine RR.s2 (pc' := 89) (lv' := [(0, .ref 0), (1, .long v6), (3, .int x3)]) (st' := [.ref 0]) dX6_digest_88 rfl ?_
    refine RR.s2 (pc' := 90) (lv' := [(0, .ref 0), (1, .long v6), (3, .int x3)]) (st' := [.long v6, .ref 0]) dX6_digest_89 rfl ?_
    refine RR.bp (v := 20) dX6_digest_90 (by decide) ?_
    refine RR.cV dX6_digest_92 ml_X6_323 rfl rfl (as := [.long v6, .int 20]) (rest := []) rfl rfl (Nat.le_of_ble_eq_true rfl) (Nat.le_of_ble_eq_true rfl) (by decide) (RR.toL H (fun v8 s7 H => ?_))
    show RR 1 7 mX6_digest 95 [(0, .ref 0), (1, .long v6), (3, .int x3)] [.long v8] s7 _
    refine RR.s2 (pc' := 96) (lv' := [(0, .ref 0), (1, .long v8), (3, .int x3)]) (st' := []) dX6_digest_95 rfl ?_
    refine RR.s2 (pc' := 97) (lv' := [(0, .ref 0), (1, .long v8), (3, .int x3)]) (st' := [.ref 0]) dX6_digest_96 rfl ?_
    refine RR.s2 (pc' := 98) (lv' := [(0, .ref 0), (1, .long v8), (3, .int x3)]) (st' := [.long v8, .ref 0]) dX6_digest_97 rfl ?_
    refine RR.bp (v := 39) dX6_digest_98 (by decide) ?_
    refine RR.cV dX6_digest_100 ml_X6_323 rfl rfl (as := [.long v8, .int 39]) (rest := []) rfl rfl (Nat.le_of_ble_eq_true rfl) (Nat.le_of_ble_eq_true rfl) (by decide) (RR.toL H (fun v10 s9 H => ?_))
    show RR 1 7 mX6_digest 103 [(0, .ref 0), (1, .long v8), (3, .int x3)] [.long v10] s9 _
    refine RR.s2 (pc' := 104) (lv' := [(0, .ref 0), (1, .long v10), (3, .int x3)]) (st' := []) dX6_digest_103 rfl ?_
    refine RR.ldc2 dX6_digest_104 pw_w1323 ?_
    refine RR.s2 (pc' := 108) (lv' := [(0, .ref 0), (1, .long v10), (3, .int x3)]) (st' := [.long v10, .long (31 : Int64)]) dX6_digest_107 rfl ?_
    refine RR.s2 (pc' := 109) (lv' := [(0, .ref 0), (1, .long v10), (3, .int x3)]) (st' := [.long ((31 : Int64) * v10)]) dX6_digest_108 rfl ?_
    refine RR.s2 (pc' := 110) (lv' := [(0, .ref 0), (1, .long v10), (3, .int x3)]) (st' := [.ref 0, .long ((31 : Int64) * v10)]) dX6_digest_109 rfl ?_
    refine RR.cV dX6_digest_110 ml_X6_203 rfl rfl (as := []) (rest := [.long ((31 : Int64) * v10)]) rfl rfl (Nat.le_of_ble_eq_true rfl) (Nat.le_of_ble_eq_true rfl) (by decide) (RR.toI H (fun v12 s11 H => ?_))
    show RR 1 7 mX6_digest 113 [(0, .ref 0), (1, .long v10), (3, .int x3)] [.int v12, .long ((31 : Int64) * v10)] s11 _
    refine RR.s2 (pc' := 114) (lv' := [(0, .ref 0), (1, .long v10), (3, .int x3)]) (st' := [.long v12.toInt64, .long ((31 : Int64) * v10)]) dX6_digest_113 rfl ?_
    refine RR.s2 (pc' := 115) (lv' := [(0, .ref 0), (1, .long v10), (3, .int x3)]) (st' := [.long (((31 : Int64) * v10) + v12.toInt64)]) dX6_digest_114 rfl ?_
    refine RR.s2 (pc' := 116) (lv' := [(0, .ref 0), (1, .long (((31 : Int64) * v10) + v12.toInt64)), (3, .int x3)]) (st' := []) dX6_digest_115 rfl ?_
    refine RR.ldc2 dX6_digest_116 pw_w1323 ?_
    refine RR.s2 (pc' := 120) (lv' := [(0, .ref 0), (1, .long (((31 : Int64) * v10) + v12.toInt64)), (3, .int x3)]) (st' := [.long (((31 : Int64) * v10) + v12.toInt64), .long (31 : Int64)]) dX6_digest_119 rfl ?_
    refine RR.s2 (pc' := 121) (lv' := [(0, .ref 0), (1, .long (((31 : Int64) * v10) + v12.toInt64)), (3, .int x3)]) (st' := [.long ((31 : Int64) * (((31 : Int64) * v10) + v12.toInt64))]) dX6_digest_120 rfl ?_
    refine RR.s2 (pc' := 122) (lv' := [(0, .ref 0), (1, .long (((31 : Int64) * v10) + v12.toInt64)), (3, .int x3)]) (st' := [.ref 0, .long ((31 : Int64) * (((31 : Int64) * v10) + v12.toInt64))]) dX6_digest_121 rfl ?_
    refine RR.cV dX6_digest_122 ml_X6_206 rfl rfl (as := []) (rest := [.long ((31 : Int64) * (((31 : Int64) * v10) + v12.toInt64))]) rfl rfl (Nat.le_of_ble_eq_true rfl) (Nat.le_of_ble_eq_true rfl) (by decide) (RR.toI H (fun v14 s13 H => ?_))
    show RR 1 7 mX6_digest 125 [(0, .ref 0), (1, .long (((31 : Int64) * v10) + v12.toInt64)), (3, .int x3)] [.int v14, .long ((31 : Int64) * (((31 : Int64) * v10) + v12.toInt64))] s13 _
    refine RR.s2 (pc' := 126) (lv' := [(0, .ref 0), (1, .long (((31 : Int64) * v10) + v12.toInt64)), (3, .int x3)]) (st' := [.long v14.toInt64, .long ((31 : Int64) * (((31 : Int64) * v10) + v12.toInt64))]) dX6_digest_125 rfl ?_
    refine RR.s2 (pc' := 127) (lv' := [(0, .ref 0), (1, .long (((31 : Int64) * v10) + v12.toInt64)), (3, .int x3)]) (st' := [.long (((31 : Int64) * (((31 : Int64) * v10) + v12.toInt64)) + v14.toInt64)]) dX6_digest_126 rfl ?_
    refine RR.s2 (pc' := 128) (lv' := [(0, .ref 0), (1, .long (((31 : Int64) * (((31 : Int64) * v10) + v12.toInt64)) + v14.toInt64)), (3, .int x3)]) (st' := []) dX6_digest_127 rfl ?_
    refine RR.ic (v := 0) dX6_digest_128 (by decide) ?_
    refine RR.s2 (pc' := 130) (lv' := [(0, .ref 0), (1, .long (((31 : Int64) * (((31 : Int64) * v10) + v12.toInt64)) + v14.toInt64)), (3, .int 0)]) (st' := []) dX6_digest_129 rfl ?_
    exact RR.cut [0, 1, 2] rfl H
  · have H := H.2 c
    refine RR.s2 (pc' := 54) (lv' := [(0, .ref 0), (1, .long y1), (3, .int x3)]) (st' := [.ref 0]) dX6_digest_53 rfl ?_
    refine RR.s2 (pc' := 55) (lv' := [(0, .ref 0), (1, .long y1), (3, .int x3)]) (st' := [.long y1, .ref 0]) dX6_digest_54 rfl ?_
    refine RR.s2 (pc' := 56) (lv' := [(0, .ref 0), (1, .long y1), (3, .int x3)]) (st' := [.int x3, .long y1, .ref 0]) dX6_digest_55 rfl ?_
    refine RR.cV dX6_digest_56 ml_X6_319 rfl rfl (as := [.long y1, .int x3]) (rest := []) rfl rfl (Nat.le_of_ble_eq_true rfl) (Nat.le_of_ble_eq_true rfl) (by decide) (RR.toL H (fun v16 s15 H => ?_))
    show RR 1 7 mX6_digest 59 [(0, .ref 0), (1, .long y1), (3, .int x3)] [.long v16] s15 _
    refine RR.s2 (pc' := 60) (lv' := [(0, .ref 0), (1, .long v16), (3, .int x3)]) (st' := []) dX6_digest_59 rfl ?_
    refine RR.inc (c := 1) (lv' := [(0, .ref 0), (1, .long v16), (3, .int (x3 + 1))]) dX6_digest_60 rfl (by decide) (by decide) rfl ?_
    refine RR.s2 (pc' := 45) (lv' := [(0, .ref 0), (1, .long v16), (3, .int (x3 + 1))]) (st' := []) dX6_digest_63 rfl ?_
    exact RR.cut [0, 1, 2] rfl H
set_option maxRecDepth 20000 in
theorem b_X6_digest_130 {σ : r_St} {K : Int64 → r_St → Prop} {y1 : Int64} {x3 : Int32}  (H : (σ.1 3 3 ≤ x3 → M_X6_coinsOf σ (fun v2 s1 => M_X6_coinsOf s1 (fun v4 s3 => M_X6_finishOf s3 (fun v6 s5 => M_X6_finishOf s5 (fun v8 s7 => M_X6_planOf s7 (fun v10 s9 => M_X6_planOf s9 (fun v12 s11 => M_X6_wordsOf s11 (fun v14 s13 => M_X6_wordsOf s13 (fun v16 s15 => M_X6_whenOf s15 (fun v18 s17 => M_X6_whenOf s17 (fun v20 s19 => M_X6_askNow s19 (fun v22 s21 => M_X6_forgedNow s21 (fun v24 s23 => M_X6_yearOf s23 (fun v26 s25 => M_X6_yearOf s25 (fun v28 s27 => K (((31 : Int64) * (((31 : Int64) * (((31 : Int64) * (((31 : Int64) * (((31 : Int64) * (((31 : Int64) * (((31 : Int64) * (((31 : Int64) * (((31 : Int64) * (((31 : Int64) * (((31 : Int64) * (((31 : Int64) * (((31 : Int64) * (((31 : Int64) * y1) + v2.toInt64)) + v4.toInt64)) + v6.toInt64)) + v8.toInt64)) + v10.toInt64)) + v12.toInt64)) + v14.toInt64)) + v16.toInt64)) + v18.toInt64)) + v20.toInt64)) + v22.toInt64)) + v24.toInt64)) + v26.toInt64)) + v28.toInt64) s27) 7 30 1) 7 30 0))) 0) (-1)) 4 2 1) 4 2 0) 2 0) 2 (-1)) 2 0) 2 (-1)) 1) 0) ∧ (¬ (σ.1 3 3 ≤ x3) → M_X6_finedOf σ (fun v30 s29 => R_X6_digest_130 s29 K (((31 : Int64) * y1) + v30.toInt64) (x3 + 1)) x3)) : R_X6_digest_130 σ K y1 x3 := by
  show RR 1 7 mX6_digest 130 [(0, .ref 0), (1, .long y1), (3, .int x3)] [] σ (rL K)
  refine RR.s2 (pc' := 131) (lv' := [(0, .ref 0), (1, .long y1), (3, .int x3)]) (st' := [.int x3]) dX6_digest_130 rfl ?_
  refine RR.s2 (pc' := 132) (lv' := [(0, .ref 0), (1, .long y1), (3, .int x3)]) (st' := [.ref 0, .int x3]) dX6_digest_131 rfl ?_
  refine RR.getR dX6_digest_132 fl_X6_16 rfl rfl ?_
  refine RR.ic (v := 3) dX6_digest_135 (by decide) ?_
  refine RR.iald (j := 3) dX6_digest_136 rfl rfl (by decide) ?_
  refine RR.br dX6_digest_137 rfl (fun c => ?_) (fun c => ?_)
  · have H := H.1 c
    refine RR.ldc2 dX6_digest_159 pw_w1323 ?_
    refine RR.s2 (pc' := 163) (lv' := [(0, .ref 0), (1, .long y1), (3, .int x3)]) (st' := [.long y1, .long (31 : Int64)]) dX6_digest_162 rfl ?_
    refine RR.s2 (pc' := 164) (lv' := [(0, .ref 0), (1, .long y1), (3, .int x3)]) (st' := [.long ((31 : Int64) * y1)]) dX6_digest_163 rfl ?_
    refine RR.s2 (pc' := 165) (lv' := [(0, .ref 0), (1, .long y1), (3, .int x3)]) (st' := [.ref 0, .long ((31 : Int64) * y1)]) dX6_digest_164 rfl ?_
    refine RR.ic (v := 0) dX6_digest_165 (by decide) ?_
    refine RR.cV dX6_digest_166 ml_X6_218 rfl rfl (as := [.int 0]) (rest := [.long ((31 : Int64) * y1)]) rfl rfl (Nat.le_of_ble_eq_true rfl) (Nat.le_of_ble_eq_true rfl) (by decide) (RR.toI H (fun v2 s1 H => ?_))
    show RR 1 7 mX6_digest 169 [(0, .ref 0), (1, .long y1), (3, .int x3)] [.int v2, .long ((31 : Int64) * y1)] s1 _
    refine RR.s2 (pc' := 170) (lv' := [(0, .ref 0), (1, .long y1), (3, .int x3)]) (st' := [.long v2.toInt64, .long ((31 : Int64) * y1)]) dX6_digest_169 rfl ?_
    refine RR.s2 (pc' := 171) (lv' := [(0, .ref 0), (1, .long y1), (3, .int x3)]) (st' := [.long (((31 : Int64) * y1) + v2.toInt64)]) dX6_digest_170 rfl ?_
    refine RR.s2 (pc' := 172) (lv' := [(0, .ref 0), (1, .long (((31 : Int64) * y1) + v2.toInt64)), (3, .int x3)]) (st' := []) dX6_digest_171 rfl ?_
    refine RR.ldc2 dX6_digest_172 pw_w1323 ?_
    refine RR.s2 (pc' := 176) (lv' := [(0, .ref 0), (1, .long (((31 : Int64) * y1) + v2.toInt64)), (3, .int x3)]) (st' := [.long (((31 : Int64) * y1) + v2.toInt64), .long (31 : Int64)]) dX6_digest_175 rfl ?_
    refine RR.s2 (pc' := 177) (lv' := [(0, .ref 0), (1, .long (((31 : Int64) * y1) + v2.toInt64)), (3, .int x3)]) (st' := [.long ((31 : Int64) * (((31 : Int64) * y1) + v2.toInt64))]) dX6_digest_176 rfl ?_
    refine RR.s2 (pc' := 178) (lv' := [(0, .ref 0), (1, .long (((31 : Int64) * y1) + v2.toInt64)), (3, .int x3)]) (st' := [.ref 0, .long ((31 : Int64) * (((31 : Int64) * y1) + v2.toInt64))]) dX6_digest_177 rfl ?_
    refine RR.ic (v := 1) dX6_digest_178 (by decide) ?_
    refine RR.cV dX6_digest_179 ml_X6_218 rfl rfl (as := [.int 1]) (rest := [.long ((31 : Int64) * (((31 : Int64) * y1) + v2.toInt64))]) rfl rfl (Nat.le_of_ble_eq_true rfl) (Nat.le_of_ble_eq_true rfl) (by decide) (RR.toI H (fun v4 s3 H => ?_))
    show RR 1 7 mX6_digest 182 [(0, .ref 0), (1, .long (((31 : Int64) * y1) + v2.toInt64)), (3, .int x3)] [.int v4, .long ((31 : Int64) * (((31 : Int64) * y1) + v2.toInt64))] s3 _
    refine RR.s2 (pc' := 183) (lv' := [(0, .ref 0), (1, .long (((31 : Int64) * y1) + v2.toInt64)), (3, .int x3)]) (st' := [.long v4.toInt64, .long ((31 : Int64) * (((31 : Int64) * y1) + v2.toInt64))]) dX6_digest_182 rfl ?_
    refine RR.s2 (pc' := 184) (lv' := [(0, .ref 0), (1, .long (((31 : Int64) * y1) + v2.toInt64)), (3, .int x3)]) (st' := [.long (((31 : Int64) * (((31 : Int64) * y1) + v2.toInt64)) + v4.toInt64)]) dX6_digest_183 rfl ?_
    refine RR.s2 (pc' := 185) (lv' := [(0, .ref 0), (1, .long (((31 : Int64) * (((31 : Int64) * y1) + v2.toInt64)) + v4.toInt64)), (3, .int x3)]) (st' := []) dX6_digest_184 rfl ?_
    refine RR.ldc2 dX6_digest_185 pw_w1323 ?_
    refine RR.s2 (pc' := 189) (lv' := [(0, .ref 0), (1, .long (((31 : Int64) * (((31 : Int64) * y1) + v2.toInt64)) + v4.toInt64)), (3, .int x3)]) (st' := [.long (((31 : Int64) * (((31 : Int64) * y1) + v2.toInt64)) + v4.toInt64), .long (31 : Int64)]) dX6_digest_188 rfl ?_
    refine RR.s2 (pc' := 190) (lv' := [(0, .ref 0), (1, .long (((31 : Int64) * (((31 : Int64) * y1) + v2.toInt64)) + v4.toInt64)), (3, .int x3)]) (st' := [.long ((31 : Int64) * (((31 : Int64) * (((31 : Int64) * y1) + v2.toInt64)) + v4.toInt64))]) dX6_digest_189 rfl ?_
    refine RR.s2 (pc' := 191) (lv' := [(0, .ref 0), (1, .long (((31 : Int64) * (((31 : Int64) * y1) + v2.toInt64)) + v4.toInt64)), (3, .int x3)]) (st' := [.ref 0, .long ((31 : Int64) * (((31 : Int64) * (((31 : Int64) * y1) + v2.toInt64)) + v4.toInt64))]) dX6_digest_190 rfl ?_
    refine RR.ic (v := 2) dX6_digest_191 (by decide) ?_
    refine RR.ic (v := (-1)) dX6_digest_192 (by decide) ?_
    refine RR.cV dX6_digest_193 ml_X6_235 rfl rfl (as := [.int 2, .int (-1)]) (rest := [.long ((31 : Int64) * (((31 : Int64) * (((31 : Int64) * y1) + v2.toInt64)) + v4.toInt64))]) rfl rfl (Nat.le_of_ble_eq_true rfl) (Nat.le_of_ble_eq_true rfl) (by decide) (RR.toI H (fun v6 s5 H => ?_))
    show RR 1 7 mX6_digest 196 [(0, .ref 0), (1, .long (((31 : Int64) * (((31 : Int64) * y1) + v2.toInt64)) + v4.toInt64)), (3, .int x3)] [.int v6, .long ((31 : Int64) * (((31 : Int64) * (((31 : Int64) * y1) + v2.toInt64)) + v4.toInt64))] s5 _
    refine RR.s2 (pc' := 197) (lv' := [(0, .ref 0), (1, .long (((31 : Int64) * (((31 : Int64) * y1) + v2.toInt64)) + v4.toInt64)), (3, .int x3)]) (st' := [.long v6.toInt64, .long ((31 : Int64) * (((31 : Int64) * (((31 : Int64) * y1) + v2.toInt64)) + v4.toInt64))]) dX6_digest_196 rfl ?_
    refine RR.s2 (pc' := 198) (lv' := [(0, .ref 0), (1, .long (((31 : Int64) * (((31 : Int64) * y1) + v2.toInt64)) + v4.toInt64)), (3, .int x3)]) (st' := [.long (((31 : Int64) * (((31 : Int64) * (((31 : Int64) * y1) + v2.toInt64)) + v4.toInt64)) + v6.toInt64)]) dX6_digest_197 rfl ?_
    refine RR.s2 (pc' := 199) (lv' := [(0, .ref 0), (1, .long (((31 : Int64) * (((31 : Int64) * (((31 : Int64) * y1) + v2.toInt64)) + v4.toInt64)) + v6.toInt64)), (3, .int x3)]) (st' := []) dX6_digest_198 rfl ?_
    refine RR.ldc2 dX6_digest_199 pw_w1323 ?_
    refine RR.s2 (pc' := 203) (lv' := [(0, .ref 0), (1, .long (((31 : Int64) * (((31 : Int64) * (((31 : Int64) * y1) + v2.toInt64)) + v4.toInt64)) + v6.toInt64)), (3, .int x3)]) (st' := [.long (((31 : Int64) * (((31 : Int64) * (((31 : Int64) * y1) + v2.toInt64)) + v4.toInt64)) + v6.toInt64), .long (31 : Int64)]) dX6_digest_202 rfl ?_
    refine RR.s2 (pc' := 204) (lv' := [(0, .ref 0), (1, .long (((31 : Int64) * (((31 : Int64) * (((31 : Int64) * y1) + v2.toInt64)) + v4.toInt64)) + v6.toInt64)), (3, .int x3)]) (st' := [.long ((31 : Int64) * (((31 : Int64) * (((31 : Int64) * (((31 : Int64) * y1) + v2.toInt64)) + v4.toInt64)) + v6.toInt64))]) dX6_digest_203 rfl ?_
    refine RR.s2 (pc' := 205) (lv' := [(0, .ref 0), (1, .long (((31 : Int64) * (((31 : Int64) * (((31 : Int64) * y1) + v2.toInt64)) + v4.toInt64)) + v6.toInt64)), (3, .int x3)]) (st' := [.ref 0, .long ((31 : Int64) * (((31 : Int64) * (((31 : Int64) * (((31 : Int64) * y1) + v2.toInt64)) + v4.toInt64)) + v6.toInt64))]) dX6_digest_204 rfl ?_
    refine RR.ic (v := 2) dX6_digest_205 (by decide) ?_
    refine RR.ic (v := 0) dX6_digest_206 (by decide) ?_
    refine RR.cV dX6_digest_207 ml_X6_235 rfl rfl (as := [.int 2, .int 0]) (rest := [.long ((31 : Int64) * (((31 : Int64) * (((31 : Int64) * (((31 : Int64) * y1) + v2.toInt64)) + v4.toInt64)) + v6.toInt64))]) rfl rfl (Nat.le_of_ble_eq_true rfl) (Nat.le_of_ble_eq_true rfl) (by decide) (RR.toI H (fun v8 s7 H => ?_))
    show RR 1 7 mX6_digest 210 [(0, .ref 0), (1, .long (((31 : Int64) * (((31 : Int64) * (((31 : Int64) * y1) + v2.toInt64)) + v4.toInt64)) + v6.toInt64)), (3, .int x3)] [.int v8, .long ((31 : Int64) * (((31 : Int64) * (((31 : Int64) * (((31 : Int64) * y1) + v2.toInt64)) + v4.toInt64)) + v6.toInt64))] s7 _
    refine RR.s2 (pc' := 211) (lv' := [(0, .ref 0), (1, .long (((31 : Int64) * (((31 : Int64) * (((31 : Int64) * y1) + v2.toInt64)) + v4.toInt64)) + v6.toInt64)), (3, .int x3)]) (st' := [.long v8.toInt64, .long ((31 : Int64) * (((31 : Int64) * (((31 : Int64) * (((31 : Int64) * y1) + v2.toInt64)) + v4.toInt64)) + v6.toInt64))]) dX6_digest_210 rfl ?_
    refine RR.s2 (pc' := 212) (lv' := [(0, .ref 0), (1, .long (((31 : Int64) * (((31 : Int64) * (((31 : Int64) * y1) + v2.toInt64)) + v4.toInt64)) + v6.toInt64)), (3, .int x3)]) (st' := [.long (((31 : Int64) * (((31 : Int64) * (((31 : Int64) * (((31 : Int64) * y1) + v2.toInt64)) + v4.toInt64)) + v6.toInt64)) + v8.toInt64)]) dX6_digest_211 rfl ?_
    refine RR.s2 (pc' := 213) (lv' := [(0, .ref 0), (1, .long (((31 : Int64) * (((31 : Int64) * (((31 : Int64) * (((31 : Int64) * y1) + v2.toInt64)) + v4.toInt64)) + v6.toInt64)) + v8.toInt64)), (3, .int x3)]) (st' := []) dX6_digest_212 rfl ?_
    refine RR.ldc2 dX6_digest_213 pw_w1323 ?_
    refine RR.s2 (pc' := 217) (lv' := [(0, .ref 0), (1, .long (((31 : Int64) * (((31 : Int64) * (((31 : Int64) * (((31 : Int64) * y1) + v2.toInt64)) + v4.toInt64)) + v6.toInt64)) + v8.toInt64)), (3, .int x3)]) (st' := [.long (((31 : Int64) * (((31 : Int64) * (((31 : Int64) * (((31 : Int64) * y1) + v2.toInt64)) + v4.toInt64)) + v6.toInt64)) + v8.toInt64), .long (31 : Int64)]) dX6_digest_216 rfl ?_
    refine RR.s2 (pc' := 218) (lv' := [(0, .ref 0), (1, .long (((31 : Int64) * (((31 : Int64) * (((31 : Int64) * (((31 : Int64) * y1) + v2.toInt64)) + v4.toInt64)) + v6.toInt64)) + v8.toInt64)), (3, .int x3)]) (st' := [.long ((31 : Int64) * (((31 : Int64) * (((31 : Int64) * (((31 : Int64) * (((31 : Int64) * y1) + v2.toInt64)) + v4.toInt64)) + v6.toInt64)) + v8.toInt64))]) dX6_digest_217 rfl ?_
    refine RR.s2 (pc' := 219) (lv' := [(0, .ref 0), (1, .long (((31 : Int64) * (((31 : Int64) * (((31 : Int64) * (((31 : Int64) * y1) + v2.toInt64)) + v4.toInt64)) + v6.toInt64)) + v8.toInt64)), (3, .int x3)]) (st' := [.ref 0, .long ((31 : Int64) * (((31 : Int64) * (((31 : Int64) * (((31 : Int64) * (((31 : Int64) * y1) + v2.toInt64)) + v4.toInt64)) + v6.toInt64)) + v8.toInt64))]) dX6_digest_218 rfl ?_
    refine RR.ic (v := 2) dX6_digest_219 (by decide) ?_
    refine RR.ic (v := (-1)) dX6_digest_220 (by decide) ?_
    refine RR.cV dX6_digest_221 ml_X6_241 rfl rfl (as := [.int 2, .int (-1)]) (rest := [.long ((31 : Int64) * (((31 : Int64) * (((31 : Int64) * (((31 : Int64) * (((31 : Int64) * y1) + v2.toInt64)) + v4.toInt64)) + v6.toInt64)) + v8.toInt64))]) rfl rfl (Nat.le_of_ble_eq_true rfl) (Nat.le_of_ble_eq_true rfl) (by decide) (RR.toI H (fun v10 s9 H => ?_))
    show RR 1 7 mX6_digest 224 [(0, .ref 0), (1, .long (((31 : Int64) * (((31 : Int64) * (((31 : Int64) * (((31 : Int64) * y1) + v2.toInt64)) + v4.toInt64)) + v6.toInt64)) + v8.toInt64)), (3, .int x3)] [.int v10, .long ((31 : Int64) * (((31 : Int64) * (((31 : Int64) * (((31 : Int64) * (((31 : Int64) * y1) + v2.toInt64)) + v4.toInt64)) + v6.toInt64)) + v8.toInt64))] s9 _
    refine RR.s2 (pc' := 225) (lv' := [(0, .ref 0), (1, .long (((31 : Int64) * (((31 : Int64) * (((31 : Int64) * (((31 : Int64) * y1) + v2.toInt64)) + v4.toInt64)) + v6.toInt64)) + v8.toInt64)), (3, .int x3)]) (st' := [.long v10.toInt64, .long ((31 : Int64) * (((31 : Int64) * (((31 : Int64) * (((31 : Int64) * (((31 : Int64) * y1) + v2.toInt64)) + v4.toInt64)) + v6.toInt64)) + v8.toInt64))]) dX6_digest_224 rfl ?_
    refine RR.s2 (pc' := 226) (lv' := [(0, .ref 0), (1, .long (((31 : Int64) * (((31 : Int64) * (((31 : Int64) * (((31 : Int64) * y1) + v2.toInt64)) + v4.toInt64)) + v6.toInt64)) + v8.toInt64)), (3, .int x3)]) (st' := [.long (((31 : Int64) * (((31 : Int64) * (((31 : Int64) * (((31 : Int64) * (((31 : Int64) * y1) + v2.toInt64)) + v4.toInt64)) + v6.toInt64)) + v8.toInt64)) + v10.toInt64)]) dX6_digest_225 rfl ?_
    refine RR.s2 (pc' := 227) (lv' := [(0, .ref 0), (1, .long (((31 : Int64) * (((31 : Int64) * (((31 : Int64) * (((31 : Int64) * (((31 : Int64) * y1) + v2.toInt64)) + v4.toInt64)) + v6.toInt64)) + v8.toInt64)) + v10.toInt64)), (3, .int x3)]) (st' := []) dX6_digest_226 rfl ?_
    refine RR.ldc2 dX6_digest_227 pw_w1323 ?_
    refine RR.s2 (pc' := 231) (lv' := [(0, .ref 0), (1, .long (((31 : Int64) * (((31 : Int64) * (((31 : Int64) * (((31 : Int64) * (((31 : Int64) * y1) + v2.toInt64)) + v4.toInt64)) + v6.toInt64)) + v8.toInt64)) + v10.toInt64)), (3, .int x3)]) (st' := [.long (((31 : Int64) * (((31 : Int64) * (((31 : Int64) * (((31 : Int64) * (((31 : Int64) * y1) + v2.toInt64)) + v4.toInt64)) + v6.toInt64)) + v8.toInt64)) + v10.toInt64), .long (31 : Int64)]) dX6_digest_230 rfl ?_
    refine RR.s2 (pc' := 232) (lv' := [(0, .ref 0), (1, .long (((31 : Int64) * (((31 : Int64) * (((31 : Int64) * (((31 : Int64) * (((31 : Int64) * y1) + v2.toInt64)) + v4.toInt64)) + v6.toInt64)) + v8.toInt64)) + v10.toInt64)), (3, .int x3)]) (st' := [.long ((31 : Int64) * (((31 : Int64) * (((31 : Int64) * (((31 : Int64) * (((31 : Int64) * (((31 : Int64) * y1) + v2.toInt64)) + v4.toInt64)) + v6.toInt64)) + v8.toInt64)) + v10.toInt64))]) dX6_digest_231 rfl ?_
    refine RR.s2 (pc' := 233) (lv' := [(0, .ref 0), (1, .long (((31 : Int64) * (((31 : Int64) * (((31 : Int64) * (((31 : Int64) * (((31 : Int64) * y1) + v2.toInt64)) + v4.toInt64)) + v6.toInt64)) + v8.toInt64)) + v10.toInt64)), (3, .int x3)]) (st' := [.ref 0, .long ((31 : Int64) * (((31 : Int64) * (((31 : Int64) * (((31 : Int64) * (((31 : Int64) * (((31 : Int64) * y1) + v2.toInt64)) + v4.toInt64)) + v6.toInt64)) + v8.toInt64)) + v10.toInt64))]) dX6_digest_232 rfl ?_
    refine RR.ic (v := 2) dX6_digest_233 (by decide) ?_
    refine RR.ic (v := 0) dX6_digest_234 (by decide) ?_
    refine RR.cV dX6_digest_235 ml_X6_241 rfl rfl (as := [.int 2, .int 0]) (rest := [.long ((31 : Int64) * (((31 : Int64) * (((31 : Int64) * (((31 : Int64) * (((31 : Int64) * (((31 : Int64) * y1) + v2.toInt64)) + v4.toInt64)) + v6.toInt64)) + v8.toInt64)) + v10.toInt64))]) rfl rfl (Nat.le_of_ble_eq_true rfl) (Nat.le_of_ble_eq_true rfl) (by decide) (RR.toI H (fun v12 s11 H => ?_))
    show RR 1 7 mX6_digest 238 [(0, .ref 0), (1, .long (((31 : Int64) * (((31 : Int64) * (((31 : Int64) * (((31 : Int64) * (((31 : Int64) * y1) + v2.toInt64)) + v4.toInt64)) + v6.toInt64)) + v8.toInt64)) + v10.toInt64)), (3, .int x3)] [.int v12, .long ((31 : Int64) * (((31 : Int64) * (((31 : Int64) * (((31 : Int64) * (((31 : Int64) * (((31 : Int64) * y1) + v2.toInt64)) + v4.toInt64)) + v6.toInt64)) + v8.toInt64)) + v10.toInt64))] s11 _
    refine RR.s2 (pc' := 239) (lv' := [(0, .ref 0), (1, .long (((31 : Int64) * (((31 : Int64) * (((31 : Int64) * (((31 : Int64) * (((31 : Int64) * y1) + v2.toInt64)) + v4.toInt64)) + v6.toInt64)) + v8.toInt64)) + v10.toInt64)), (3, .int x3)]) (st' := [.long v12.toInt64, .long ((31 : Int64) * (((31 : Int64) * (((31 : Int64) * (((31 : Int64) * (((31 : Int64) * (((31 : Int64) * y1) + v2.toInt64)) + v4.toInt64)) + v6.toInt64)) + v8.toInt64)) + v10.toInt64))]) dX6_digest_238 rfl ?_
    refine RR.s2 (pc' := 240) (lv' := [(0, .ref 0), (1, .long (((31 : Int64) * (((31 : Int64) * (((31 : Int64) * (((31 : Int64) * (((31 : Int64) * y1) + v2.toInt64)) + v4.toInt64)) + v6.toInt64)) + v8.toInt64)) + v10.toInt64)), (3, .int x3)]) (st' := [.long (((31 : Int64) * (((31 : Int64) * (((31 : Int64) * (((31 : Int64) * (((31 : Int64) * (((31 : Int64) * y1) + v2.toInt64)) + v4.toInt64)) + v6.toInt64)) + v8.toInt64)) + v10.toInt64)) + v12.toInt64)]) dX6_digest_239 rfl ?_
    refine RR.s2 (pc' := 241) (lv' := [(0, .ref 0), (1, .long (((31 : Int64) * (((31 : Int64) * (((31 : Int64) * (((31 : Int64) * (((31 : Int64) * (((31 : Int64) * y1) + v2.toInt64)) + v4.toInt64)) + v6.toInt64)) + v8.toInt64)) + v10.toInt64)) + v12.toInt64)), (3, .int x3)]) (st' := []) dX6_digest_240 rfl ?_
    refine RR.ldc2 dX6_digest_241 pw_w1323 ?_
    refine RR.s2 (pc' := 245) (lv' := [(0, .ref 0), (1, .long (((31 : Int64) * (((31 : Int64) * (((31 : Int64) * (((31 : Int64) * (((31 : Int64) * (((31 : Int64) * y1) + v2.toInt64)) + v4.toInt64)) + v6.toInt64)) + v8.toInt64)) + v10.toInt64)) + v12.toInt64)), (3, .int x3)]) (st' := [.long (((31 : Int64) * (((31 : Int64) * (((31 : Int64) * (((31 : Int64) * (((31 : Int64) * (((31 : Int64) * y1) + v2.toInt64)) + v4.toInt64)) + v6.toInt64)) + v8.toInt64)) + v10.toInt64)) + v12.toInt64), .long (31 : Int64)]) dX6_digest_244 rfl ?_
    refine RR.s2 (pc' := 246) (lv' := [(0, .ref 0), (1, .long (((31 : Int64) * (((31 : Int64) * (((31 : Int64) * (((31 : Int64) * (((31 : Int64) * (((31 : Int64) * y1) + v2.toInt64)) + v4.toInt64)) + v6.toInt64)) + v8.toInt64)) + v10.toInt64)) + v12.toInt64)), (3, .int x3)]) (st' := [.long ((31 : Int64) * (((31 : Int64) * (((31 : Int64) * (((31 : Int64) * (((31 : Int64) * (((31 : Int64) * (((31 : Int64) * y1) + v2.toInt64)) + v4.toInt64)) + v6.toInt64)) + v8.toInt64)) + v10.toInt64)) + v12.toInt64))]) dX6_digest_245 rfl ?_
    refine RR.s2 (pc' := 247) (lv' := [(0, .ref 0), (1, .long (((31 : Int64) * (((31 : Int64) * (((31 : Int64) * (((31 : Int64) * (((31 : Int64) * (((31 : Int64) * y1) + v2.toInt64)) + v4.toInt64)) + v6.toInt64)) + v8.toInt64)) + v10.toInt64)) + v12.toInt64)), (3, .int x3)]) (st' := [.ref 0, .long ((31 : Int64) * (((31 : Int64) * (((31 : Int64) * (((31 : Int64) * (((31 : Int64) * (((31 : Int64) * (((31 : Int64) * y1) + v2.toInt64)) + v4.toInt64)) + v6.toInt64)) + v8.toInt64)) + v10.toInt64)) + v12.toInt64))]) dX6_digest_246 rfl ?_
    refine RR.ic (v := 4) dX6_digest_247 (by decide) ?_
    refine RR.ic (v := 2) dX6_digest_248 (by decide) ?_
    refine RR.ic (v := 0) dX6_digest_249 (by decide) ?_
    refine RR.cV dX6_digest_250 ml_X6_257 rfl rfl (as := [.int 4, .int 2, .int 0]) (rest := [.long ((31 : Int64) * (((31 : Int64) * (((31 : Int64) * (((31 : Int64) * (((31 : Int64) * (((31 : Int64) * (((31 : Int64) * y1) + v2.toInt64)) + v4.toInt64)) + v6.toInt64)) + v8.toInt64)) + v10.toInt64)) + v12.toInt64))]) rfl rfl (Nat.le_of_ble_eq_true rfl) (Nat.le_of_ble_eq_true rfl) (by decide) (RR.toI H (fun v14 s13 H => ?_))
    show RR 1 7 mX6_digest 253 [(0, .ref 0), (1, .long (((31 : Int64) * (((31 : Int64) * (((31 : Int64) * (((31 : Int64) * (((31 : Int64) * (((31 : Int64) * y1) + v2.toInt64)) + v4.toInt64)) + v6.toInt64)) + v8.toInt64)) + v10.toInt64)) + v12.toInt64)), (3, .int x3)] [.int v14, .long ((31 : Int64) * (((31 : Int64) * (((31 : Int64) * (((31 : Int64) * (((31 : Int64) * (((31 : Int64) * (((31 : Int64) * y1) + v2.toInt64)) + v4.toInt64)) + v6.toInt64)) + v8.toInt64)) + v10.toInt64)) + v12.toInt64))] s13 _
    refine RR.s2 (pc' := 254) (lv' := [(0, .ref 0), (1, .long (((31 : Int64) * (((31 : Int64) * (((31 : Int64) * (((31 : Int64) * (((31 : Int64) * (((31 : Int64) * y1) + v2.toInt64)) + v4.toInt64)) + v6.toInt64)) + v8.toInt64)) + v10.toInt64)) + v12.toInt64)), (3, .int x3)]) (st' := [.long v14.toInt64, .long ((31 : Int64) * (((31 : Int64) * (((31 : Int64) * (((31 : Int64) * (((31 : Int64) * (((31 : Int64) * (((31 : Int64) * y1) + v2.toInt64)) + v4.toInt64)) + v6.toInt64)) + v8.toInt64)) + v10.toInt64)) + v12.toInt64))]) dX6_digest_253 rfl ?_
    refine RR.s2 (pc' := 255) (lv' := [(0, .ref 0), (1, .long (((31 : Int64) * (((31 : Int64) * (((31 : Int64) * (((31 : Int64) * (((31 : Int64) * (((31 : Int64) * y1) + v2.toInt64)) + v4.toInt64)) + v6.toInt64)) + v8.toInt64)) + v10.toInt64)) + v12.toInt64)), (3, .int x3)]) (st' := [.long (((31 : Int64) * (((31 : Int64) * (((31 : Int64) * (((31 : Int64) * (((31 : Int64) * (((31 : Int64) * (((31 : Int64) * y1) + v2.toInt64)) + v4.toInt64)) + v6.toInt64)) + v8.toInt64)) + v10.toInt64)) + v12.toInt64)) + v14.toInt64)]) dX6_digest_254 rfl ?_
    refine RR.s2 (pc' := 256) (lv' := [(0, .ref 0), (1, .long (((31 : Int64) * (((31 : Int64) * (((31 : Int64) * (((31 : Int64) * (((31 : Int64) * (((31 : Int64) * (((31 : Int64) * y1) + v2.toInt64)) + v4.toInt64)) + v6.toInt64)) + v8.toInt64)) + v10.toInt64)) + v12.toInt64)) + v14.toInt64)), (3, .int x3)]) (st' := []) dX6_digest_255 rfl ?_
    refine RR.ldc2 dX6_digest_256 pw_w1323 ?_
    refine RR.s2 (pc' := 260) (lv' := [(0, .ref 0), (1, .long (((31 : Int64) * (((31 : Int64) * (((31 : Int64) * (((31 : Int64) * (((31 : Int64) * (((31 : Int64) * (((31 : Int64) * y1) + v2.toInt64)) + v4.toInt64)) + v6.toInt64)) + v8.toInt64)) + v10.toInt64)) + v12.toInt64)) + v14.toInt64)), (3, .int x3)]) (st' := [.long (((31 : Int64) * (((31 : Int64) * (((31 : Int64) * (((31 : Int64) * (((31 : Int64) * (((31 : Int64) * (((31 : Int64) * y1) + v2.toInt64)) + v4.toInt64)) + v6.toInt64)) + v8.toInt64)) + v10.toInt64)) + v12.toInt64)) + v14.toInt64), .long (31 : Int64)]) dX6_digest_259 rfl ?_
    refine RR.s2 (pc' := 261) (lv' := [(0, .ref 0), (1, .long (((31 : Int64) * (((31 : Int64) * (((31 : Int64) * (((31 : Int64) * (((31 : Int64) * (((31 : Int64) * (((31 : Int64) * y1) + v2.toInt64)) + v4.toInt64)) + v6.toInt64)) + v8.toInt64)) + v10.toInt64)) + v12.toInt64)) + v14.toInt64)), (3, .int x3)]) (st' := [.long ((31 : Int64) * (((31 : Int64) * (((31 : Int64) * (((31 : Int64) * (((31 : Int64) * (((31 : Int64) * (((31 : Int64) * (((31 : Int64) * y1) + v2.toInt64)) + v4.toInt64)) + v6.toInt64)) + v8.toInt64)) + v10.toInt64)) + v12.toInt64)) + v14.toInt64))]) dX6_digest_260 rfl ?_
    refine RR.s2 (pc' := 262) (lv' := [(0, .ref 0), (1, .long (((31 : Int64) * (((31 : Int64) * (((31 : Int64) * (((31 : Int64) * (((31 : Int64) * (((31 : Int64) * (((31 : Int64) * y1) + v2.toInt64)) + v4.toInt64)) + v6.toInt64)) + v8.toInt64)) + v10.toInt64)) + v12.toInt64)) + v14.toInt64)), (3, .int x3)]) (st' := [.ref 0, .long ((31 : Int64) * (((31 : Int64) * (((31 : Int64) * (((31 : Int64) * (((31 : Int64) * (((31 : Int64) * (((31 : Int64) * (((31 : Int64) * y1) + v2.toInt64)) + v4.toInt64)) + v6.toInt64)) + v8.toInt64)) + v10.toInt64)) + v12.toInt64)) + v14.toInt64))]) dX6_digest_261 rfl ?_
    refine RR.ic (v := 4) dX6_digest_262 (by decide) ?_
    refine RR.ic (v := 2) dX6_digest_263 (by decide) ?_
    refine RR.ic (v := 1) dX6_digest_264 (by decide) ?_
    refine RR.cV dX6_digest_265 ml_X6_257 rfl rfl (as := [.int 4, .int 2, .int 1]) (rest := [.long ((31 : Int64) * (((31 : Int64) * (((31 : Int64) * (((31 : Int64) * (((31 : Int64) * (((31 : Int64) * (((31 : Int64) * (((31 : Int64) * y1) + v2.toInt64)) + v4.toInt64)) + v6.toInt64)) + v8.toInt64)) + v10.toInt64)) + v12.toInt64)) + v14.toInt64))]) rfl rfl (Nat.le_of_ble_eq_true rfl) (Nat.le_of_ble_eq_true rfl) (by decide) (RR.toI H (fun v16 s15 H => ?_))
    show RR 1 7 mX6_digest 268 [(0, .ref 0), (1, .long (((31 : Int64) * (((31 : Int64) * (((31 : Int64) * (((31 : Int64) * (((31 : Int64) * (((31 : Int64) * (((31 : Int64) * y1) + v2.toInt64)) + v4.toInt64)) + v6.toInt64)) + v8.toInt64)) + v10.toInt64)) + v12.toInt64)) + v14.toInt64)), (3, .int x3)] [.int v16, .long ((31 : Int64) * (((31 : Int64) * (((31 : Int64) * (((31 : Int64) * (((31 : Int64) * (((31 : Int64) * (((31 : Int64) * (((31 : Int64) * y1) + v2.toInt64)) + v4.toInt64)) + v6.toInt64)) + v8.toInt64)) + v10.toInt64)) + v12.toInt64)) + v14.toInt64))] s15 _
    refine RR.s2 (pc' := 269) (lv' := [(0, .ref 0), (1, .long (((31 : Int64) * (((31 : Int64) * (((31 : Int64) * (((31 : Int64) * (((31 : Int64) * (((31 : Int64) * (((31 : Int64) * y1) + v2.toInt64)) + v4.toInt64)) + v6.toInt64)) + v8.toInt64)) + v10.toInt64)) + v12.toInt64)) + v14.toInt64)), (3, .int x3)]) (st' := [.long v16.toInt64, .long ((31 : Int64) * (((31 : Int64) * (((31 : Int64) * (((31 : Int64) * (((31 : Int64) * (((31 : Int64) * (((31 : Int64) * (((31 : Int64) * y1) + v2.toInt64)) + v4.toInt64)) + v6.toInt64)) + v8.toInt64)) + v10.toInt64)) + v12.toInt64)) + v14.toInt64))]) dX6_digest_268 rfl ?_
    refine RR.s2 (pc' := 270) (lv' := [(0, .ref 0), (1, .long (((31 : Int64) * (((31 : Int64) * (((31 : Int64) * (((31 : Int64) * (((31 : Int64) * (((31 : Int64) * (((31 : Int64) * y1) + v2.toInt64)) + v4.toInt64)) + v6.toInt64)) + v8.toInt64)) + v10.toInt64)) + v12.toInt64)) + v14.toInt64)), (3, .int x3)]) (st' := [.long (((31 : Int64) * (((31 : Int64) * (((31 : Int64) * (((31 : Int64) * (((31 : Int64) * (((31 : Int64) * (((31 : Int64) * (((31 : Int64) * y1) + v2.toInt64)) + v4.toInt64)) + v6.toInt64)) + v8.toInt64)) + v10.toInt64)) + v12.toInt64)) + v14.toInt64)) + v16.toInt64)]) dX6_digest_269 rfl ?_
    refine RR.s2 (pc' := 271) (lv' := [(0, .ref 0), (1, .long (((31 : Int64) * (((31 : Int64) * (((31 : Int64) * (((31 : Int64) * (((31 : Int64) * (((31 : Int64) * (((31 : Int64) * (((31 : Int64) * y1) + v2.toInt64)) + v4.toInt64)) + v6.toInt64)) + v8.toInt64)) + v10.toInt64)) + v12.toInt64)) + v14.toInt64)) + v16.toInt64)), (3, .int x3)]) (st' := []) dX6_digest_270 rfl ?_
    refine RR.ldc2 dX6_digest_271 pw_w1323 ?_
    refine RR.s2 (pc' := 275) (lv' := [(0, .ref 0), (1, .long (((31 : Int64) * (((31 : Int64) * (((31 : Int64) * (((31 : Int64) * (((31 : Int64) * (((31 : Int64) * (((31 : Int64) * (((31 : Int64) * y1) + v2.toInt64)) + v4.toInt64)) + v6.toInt64)) + v8.toInt64)) + v10.toInt64)) + v12.toInt64)) + v14.toInt64)) + v16.toInt64)), (3, .int x3)]) (st' := [.long (((31 : Int64) * (((31 : Int64) * (((31 : Int64) * (((31 : Int64) * (((31 : Int64) * (((31 : Int64) * (((31 : Int64) * (((31 : Int64) * y1) + v2.toInt64)) + v4.toInt64)) + v6.toInt64)) + v8.toInt64)) + v10.toInt64)) + v12.toInt64)) + v14.toInt64)) + v16.toInt64), .long (31 : Int64)]) dX6_digest_274 rfl ?_
    refine RR.s2 (pc' := 276) (lv' := [(0, .ref 0), (1, .long (((31 : Int64) * (((31 : Int64) * (((31 : Int64) * (((31 : Int64) * (((31 : Int64) * (((31 : Int64) * (((31 : Int64) * (((31 : Int64) * y1) + v2.toInt64)) + v4.toInt64)) + v6.toInt64)) + v8.toInt64)) + v10.toInt64)) + v12.toInt64)) + v14.toInt64)) + v16.toInt64)), (3, .int x3)]) (st' := [.long ((31 : Int64) * (((31 : Int64) * (((31 : Int64) * (((31 : Int64) * (((31 : Int64) * (((31 : Int64) * (((31 : Int64) * (((31 : Int64) * (((31 : Int64) * y1) + v2.toInt64)) + v4.toInt64)) + v6.toInt64)) + v8.toInt64)) + v10.toInt64)) + v12.toInt64)) + v14.toInt64)) + v16.toInt64))]) dX6_digest_275 rfl ?_
    refine RR.s2 (pc' := 277) (lv' := [(0, .ref 0), (1, .long (((31 : Int64) * (((31 : Int64) * (((31 : Int64) * (((31 : Int64) * (((31 : Int64) * (((31 : Int64) * (((31 : Int64) * (((31 : Int64) * y1) + v2.toInt64)) + v4.toInt64)) + v6.toInt64)) + v8.toInt64)) + v10.toInt64)) + v12.toInt64)) + v14.toInt64)) + v16.toInt64)), (3, .int x3)]) (st' := [.ref 0, .long ((31 : Int64) * (((31 : Int64) * (((31 : Int64) * (((31 : Int64) * (((31 : Int64) * (((31 : Int64) * (((31 : Int64) * (((31 : Int64) * (((31 : Int64) * y1) + v2.toInt64)) + v4.toInt64)) + v6.toInt64)) + v8.toInt64)) + v10.toInt64)) + v12.toInt64)) + v14.toInt64)) + v16.toInt64))]) dX6_digest_276 rfl ?_
    refine RR.ic (v := (-1)) dX6_digest_277 (by decide) ?_
    refine RR.cV dX6_digest_278 ml_X6_272 rfl rfl (as := [.int (-1)]) (rest := [.long ((31 : Int64) * (((31 : Int64) * (((31 : Int64) * (((31 : Int64) * (((31 : Int64) * (((31 : Int64) * (((31 : Int64) * (((31 : Int64) * (((31 : Int64) * y1) + v2.toInt64)) + v4.toInt64)) + v6.toInt64)) + v8.toInt64)) + v10.toInt64)) + v12.toInt64)) + v14.toInt64)) + v16.toInt64))]) rfl rfl (Nat.le_of_ble_eq_true rfl) (Nat.le_of_ble_eq_true rfl) (by decide) (RR.toI H (fun v18 s17 H => ?_))
    show RR 1 7 mX6_digest 281 [(0, .ref 0), (1, .long (((31 : Int64) * (((31 : Int64) * (((31 : Int64) * (((31 : Int64) * (((31 : Int64) * (((31 : Int64) * (((31 : Int64) * (((31 : Int64) * y1) + v2.toInt64)) + v4.toInt64)) + v6.toInt64)) + v8.toInt64)) + v10.toInt64)) + v12.toInt64)) + v14.toInt64)) + v16.toInt64)), (3, .int x3)] [.int v18, .long ((31 : Int64) * (((31 : Int64) * (((31 : Int64) * (((31 : Int64) * (((31 : Int64) * (((31 : Int64) * (((31 : Int64) * (((31 : Int64) * (((31 : Int64) * y1) + v2.toInt64)) + v4.toInt64)) + v6.toInt64)) + v8.toInt64)) + v10.toInt64)) + v12.toInt64)) + v14.toInt64)) + v16.toInt64))] s17 _
    refine RR.s2 (pc' := 282) (lv' := [(0, .ref 0), (1, .long (((31 : Int64) * (((31 : Int64) * (((31 : Int64) * (((31 : Int64) * (((31 : Int64) * (((31 : Int64) * (((31 : Int64) * (((31 : Int64) * y1) + v2.toInt64)) + v4.toInt64)) + v6.toInt64)) + v8.toInt64)) + v10.toInt64)) + v12.toInt64)) + v14.toInt64)) + v16.toInt64)), (3, .int x3)]) (st' := [.long v18.toInt64, .long ((31 : Int64) * (((31 : Int64) * (((31 : Int64) * (((31 : Int64) * (((31 : Int64) * (((31 : Int64) * (((31 : Int64) * (((31 : Int64) * (((31 : Int64) * y1) + v2.toInt64)) + v4.toInt64)) + v6.toInt64)) + v8.toInt64)) + v10.toInt64)) + v12.toInt64)) + v14.toInt64)) + v16.toInt64))]) dX6_digest_281 rfl ?_
    refine RR.s2 (pc' := 283) (lv' := [(0, .ref 0), (1, .long (((31 : Int64) * (((31 : Int64) * (((31 : Int64) * (((31 : Int64) * (((31 : Int64) * (((31 : Int64) * (((31 : Int64) * (((31 : Int64) * y1) + v2.toInt64)) + v4.toInt64)) + v6.toInt64)) + v8.toInt64)) + v10.toInt64)) + v12.toInt64)) + v14.toInt64)) + v16.toInt64)), (3, .int x3)]) (st' := [.long (((31 : Int64) * (((31 : Int64) * (((31 : Int64) * (((31 : Int64) * (((31 : Int64) * (((31 : Int64) * (((31 : Int64) * (((31 : Int64) * (((31 : Int64) * y1) + v2.toInt64)) + v4.toInt64)) + v6.toInt64)) + v8.toInt64)) + v10.toInt64)) + v12.toInt64)) + v14.toInt64)) + v16.toInt64)) + v18.toInt64)]) dX6_digest_282 rfl ?_
    refine RR.s2 (pc' := 284) (lv' := [(0, .ref 0), (1, .long (((31 : Int64) * (((31 : Int64) * (((31 : Int64) * (((31 : Int64) * (((31 : Int64) * (((31 : Int64) * (((31 : Int64) * (((31 : Int64) * (((31 : Int64) * y1) + v2.toInt64)) + v4.toInt64)) + v6.toInt64)) + v8.toInt64)) + v10.toInt64)) + v12.toInt64)) + v14.toInt64)) + v16.toInt64)) + v18.toInt64)), (3, .int x3)]) (st' := []) dX6_digest_283 rfl ?_
    refine RR.ldc2 dX6_digest_284 pw_w1323 ?_
    refine RR.s2 (pc' := 288) (lv' := [(0, .ref 0), (1, .long (((31 : Int64) * (((31 : Int64) * (((31 : Int64) * (((31 : Int64) * (((31 : Int64) * (((31 : Int64) * (((31 : Int64) * (((31 : Int64) * (((31 : Int64) * y1) + v2.toInt64)) + v4.toInt64)) + v6.toInt64)) + v8.toInt64)) + v10.toInt64)) + v12.toInt64)) + v14.toInt64)) + v16.toInt64)) + v18.toInt64)), (3, .int x3)]) (st' := [.long (((31 : Int64) * (((31 : Int64) * (((31 : Int64) * (((31 : Int64) * (((31 : Int64) * (((31 : Int64) * (((31 : Int64) * (((31 : Int64) * (((31 : Int64) * y1) + v2.toInt64)) + v4.toInt64)) + v6.toInt64)) + v8.toInt64)) + v10.toInt64)) + v12.toInt64)) + v14.toInt64)) + v16.toInt64)) + v18.toInt64), .long (31 : Int64)]) dX6_digest_287 rfl ?_
    refine RR.s2 (pc' := 289) (lv' := [(0, .ref 0), (1, .long (((31 : Int64) * (((31 : Int64) * (((31 : Int64) * (((31 : Int64) * (((31 : Int64) * (((31 : Int64) * (((31 : Int64) * (((31 : Int64) * (((31 : Int64) * y1) + v2.toInt64)) + v4.toInt64)) + v6.toInt64)) + v8.toInt64)) + v10.toInt64)) + v12.toInt64)) + v14.toInt64)) + v16.toInt64)) + v18.toInt64)), (3, .int x3)]) (st' := [.long ((31 : Int64) * (((31 : Int64) * (((31 : Int64) * (((31 : Int64) * (((31 : Int64) * (((31 : Int64) * (((31 : Int64) * (((31 : Int64) * (((31 : Int64) * (((31 : Int64) * y1) + v2.toInt64)) + v4.toInt64)) + v6.toInt64)) + v8.toInt64)) + v10.toInt64)) + v12.toInt64)) + v14.toInt64)) + v16.toInt64)) + v18.toInt64))]) dX6_digest_288 rfl ?_
    refine RR.s2 (pc' := 290) (lv' := [(0, .ref 0), (1, .long (((31 : Int64) * (((31 : Int64) * (((31 : Int64) * (((31 : Int64) * (((31 : Int64) * (((31 : Int64) * (((31 : Int64) * (((31 : Int64) * (((31 : Int64) * y1) + v2.toInt64)) + v4.toInt64)) + v6.toInt64)) + v8.toInt64)) + v10.toInt64)) + v12.toInt64)) + v14.toInt64)) + v16.toInt64)) + v18.toInt64)), (3, .int x3)]) (st' := [.ref 0, .long ((31 : Int64) * (((31 : Int64) * (((31 : Int64) * (((31 : Int64) * (((31 : Int64) * (((31 : Int64) * (((31 : Int64) * (((31 : Int64) * (((31 : Int64) * (((31 : Int64) * y1) + v2.toInt64)) + v4.toInt64)) + v6.toInt64)) + v8.toInt64)) + v10.toInt64)) + v12.toInt64)) + v14.toInt64)) + v16.toInt64)) + v18.toInt64))]) dX6_digest_289 rfl ?_
    refine RR.ic (v := 0) dX6_digest_290 (by decide) ?_
    refine RR.cV dX6_digest_291 ml_X6_272 rfl rfl (as := [.int 0]) (rest := [.long ((31 : Int64) * (((31 : Int64) * (((31 : Int64) * (((31 : Int64) * (((31 : Int64) * (((31 : Int64) * (((31 : Int64) * (((31 : Int64) * (((31 : Int64) * (((31 : Int64) * y1) + v2.toInt64)) + v4.toInt64)) + v6.toInt64)) + v8.toInt64)) + v10.toInt64)) + v12.toInt64)) + v14.toInt64)) + v16.toInt64)) + v18.toInt64))]) rfl rfl (Nat.le_of_ble_eq_true rfl) (Nat.le_of_ble_eq_true rfl) (by decide) (RR.toI H (fun v20 s19 H => ?_))
    show RR 1 7 mX6_digest 294 [(0, .ref 0), (1, .long (((31 : Int64) * (((31 : Int64) * (((31 : Int64) * (((31 : Int64) * (((31 : Int64) * (((31 : Int64) * (((31 : Int64) * (((31 : Int64) * (((31 : Int64) * y1) + v2.toInt64)) + v4.toInt64)) + v6.toInt64)) + v8.toInt64)) + v10.toInt64)) + v12.toInt64)) + v14.toInt64)) + v16.toInt64)) + v18.toInt64)), (3, .int x3)] [.int v20, .long ((31 : Int64) * (((31 : Int64) * (((31 : Int64) * (((31 : Int64) * (((31 : Int64) * (((31 : Int64) * (((31 : Int64) * (((31 : Int64) * (((31 : Int64) * (((31 : Int64) * y1) + v2.toInt64)) + v4.toInt64)) + v6.toInt64)) + v8.toInt64)) + v10.toInt64)) + v12.toInt64)) + v14.toInt64)) + v16.toInt64)) + v18.toInt64))] s19 _
    refine RR.s2 (pc' := 295) (lv' := [(0, .ref 0), (1, .long (((31 : Int64) * (((31 : Int64) * (((31 : Int64) * (((31 : Int64) * (((31 : Int64) * (((31 : Int64) * (((31 : Int64) * (((31 : Int64) * (((31 : Int64) * y1) + v2.toInt64)) + v4.toInt64)) + v6.toInt64)) + v8.toInt64)) + v10.toInt64)) + v12.toInt64)) + v14.toInt64)) + v16.toInt64)) + v18.toInt64)), (3, .int x3)]) (st' := [.long v20.toInt64, .long ((31 : Int64) * (((31 : Int64) * (((31 : Int64) * (((31 : Int64) * (((31 : Int64) * (((31 : Int64) * (((31 : Int64) * (((31 : Int64) * (((31 : Int64) * (((31 : Int64) * y1) + v2.toInt64)) + v4.toInt64)) + v6.toInt64)) + v8.toInt64)) + v10.toInt64)) + v12.toInt64)) + v14.toInt64)) + v16.toInt64)) + v18.toInt64))]) dX6_digest_294 rfl ?_
    refine RR.s2 (pc' := 296) (lv' := [(0, .ref 0), (1, .long (((31 : Int64) * (((31 : Int64) * (((31 : Int64) * (((31 : Int64) * (((31 : Int64) * (((31 : Int64) * (((31 : Int64) * (((31 : Int64) * (((31 : Int64) * y1) + v2.toInt64)) + v4.toInt64)) + v6.toInt64)) + v8.toInt64)) + v10.toInt64)) + v12.toInt64)) + v14.toInt64)) + v16.toInt64)) + v18.toInt64)), (3, .int x3)]) (st' := [.long (((31 : Int64) * (((31 : Int64) * (((31 : Int64) * (((31 : Int64) * (((31 : Int64) * (((31 : Int64) * (((31 : Int64) * (((31 : Int64) * (((31 : Int64) * (((31 : Int64) * y1) + v2.toInt64)) + v4.toInt64)) + v6.toInt64)) + v8.toInt64)) + v10.toInt64)) + v12.toInt64)) + v14.toInt64)) + v16.toInt64)) + v18.toInt64)) + v20.toInt64)]) dX6_digest_295 rfl ?_
    refine RR.s2 (pc' := 297) (lv' := [(0, .ref 0), (1, .long (((31 : Int64) * (((31 : Int64) * (((31 : Int64) * (((31 : Int64) * (((31 : Int64) * (((31 : Int64) * (((31 : Int64) * (((31 : Int64) * (((31 : Int64) * (((31 : Int64) * y1) + v2.toInt64)) + v4.toInt64)) + v6.toInt64)) + v8.toInt64)) + v10.toInt64)) + v12.toInt64)) + v14.toInt64)) + v16.toInt64)) + v18.toInt64)) + v20.toInt64)), (3, .int x3)]) (st' := []) dX6_digest_296 rfl ?_
    refine RR.ldc2 dX6_digest_297 pw_w1323 ?_
    refine RR.s2 (pc' := 301) (lv' := [(0, .ref 0), (1, .long (((31 : Int64) * (((31 : Int64) * (((31 : Int64) * (((31 : Int64) * (((31 : Int64) * (((31 : Int64) * (((31 : Int64) * (((31 : Int64) * (((31 : Int64) * (((31 : Int64) * y1) + v2.toInt64)) + v4.toInt64)) + v6.toInt64)) + v8.toInt64)) + v10.toInt64)) + v12.toInt64)) + v14.toInt64)) + v16.toInt64)) + v18.toInt64)) + v20.toInt64)), (3, .int x3)]) (st' := [.long (((31 : Int64) * (((31 : Int64) * (((31 : Int64) * (((31 : Int64) * (((31 : Int64) * (((31 : Int64) * (((31 : Int64) * (((31 : Int64) * (((31 : Int64) * (((31 : Int64) * y1) + v2.toInt64)) + v4.toInt64)) + v6.toInt64)) + v8.toInt64)) + v10.toInt64)) + v12.toInt64)) + v14.toInt64)) + v16.toInt64)) + v18.toInt64)) + v20.toInt64), .long (31 : Int64)]) dX6_digest_300 rfl ?_
    refine RR.s2 (pc' := 302) (lv' := [(0, .ref 0), (1, .long (((31 : Int64) * (((31 : Int64) * (((31 : Int64) * (((31 : Int64) * (((31 : Int64) * (((31 : Int64) * (((31 : Int64) * (((31 : Int64) * (((31 : Int64) * (((31 : Int64) * y1) + v2.toInt64)) + v4.toInt64)) + v6.toInt64)) + v8.toInt64)) + v10.toInt64)) + v12.toInt64)) + v14.toInt64)) + v16.toInt64)) + v18.toInt64)) + v20.toInt64)), (3, .int x3)]) (st' := [.long ((31 : Int64) * (((31 : Int64) * (((31 : Int64) * (((31 : Int64) * (((31 : Int64) * (((31 : Int64) * (((31 : Int64) * (((31 : Int64) * (((31 : Int64) * (((31 : Int64) * (((31 : Int64) * y1) + v2.toInt64)) + v4.toInt64)) + v6.toInt64)) + v8.toInt64)) + v10.toInt64)) + v12.toInt64)) + v14.toInt64)) + v16.toInt64)) + v18.toInt64)) + v20.toInt64))]) dX6_digest_301 rfl ?_
    refine RR.s2 (pc' := 303) (lv' := [(0, .ref 0), (1, .long (((31 : Int64) * (((31 : Int64) * (((31 : Int64) * (((31 : Int64) * (((31 : Int64) * (((31 : Int64) * (((31 : Int64) * (((31 : Int64) * (((31 : Int64) * (((31 : Int64) * y1) + v2.toInt64)) + v4.toInt64)) + v6.toInt64)) + v8.toInt64)) + v10.toInt64)) + v12.toInt64)) + v14.toInt64)) + v16.toInt64)) + v18.toInt64)) + v20.toInt64)), (3, .int x3)]) (st' := [.ref 0, .long ((31 : Int64) * (((31 : Int64) * (((31 : Int64) * (((31 : Int64) * (((31 : Int64) * (((31 : Int64) * (((31 : Int64) * (((31 : Int64) * (((31 : Int64) * (((31 : Int64) * (((31 : Int64) * y1) + v2.toInt64)) + v4.toInt64)) + v6.toInt64)) + v8.toInt64)) + v10.toInt64)) + v12.toInt64)) + v14.toInt64)) + v16.toInt64)) + v18.toInt64)) + v20.toInt64))]) dX6_digest_302 rfl ?_
    refine RR.cV dX6_digest_303 ml_X6_275 rfl rfl (as := []) (rest := [.long ((31 : Int64) * (((31 : Int64) * (((31 : Int64) * (((31 : Int64) * (((31 : Int64) * (((31 : Int64) * (((31 : Int64) * (((31 : Int64) * (((31 : Int64) * (((31 : Int64) * (((31 : Int64) * y1) + v2.toInt64)) + v4.toInt64)) + v6.toInt64)) + v8.toInt64)) + v10.toInt64)) + v12.toInt64)) + v14.toInt64)) + v16.toInt64)) + v18.toInt64)) + v20.toInt64))]) rfl rfl (Nat.le_of_ble_eq_true rfl) (Nat.le_of_ble_eq_true rfl) (by decide) (RR.toI H (fun v22 s21 H => ?_))
    show RR 1 7 mX6_digest 306 [(0, .ref 0), (1, .long (((31 : Int64) * (((31 : Int64) * (((31 : Int64) * (((31 : Int64) * (((31 : Int64) * (((31 : Int64) * (((31 : Int64) * (((31 : Int64) * (((31 : Int64) * (((31 : Int64) * y1) + v2.toInt64)) + v4.toInt64)) + v6.toInt64)) + v8.toInt64)) + v10.toInt64)) + v12.toInt64)) + v14.toInt64)) + v16.toInt64)) + v18.toInt64)) + v20.toInt64)), (3, .int x3)] [.int v22, .long ((31 : Int64) * (((31 : Int64) * (((31 : Int64) * (((31 : Int64) * (((31 : Int64) * (((31 : Int64) * (((31 : Int64) * (((31 : Int64) * (((31 : Int64) * (((31 : Int64) * (((31 : Int64) * y1) + v2.toInt64)) + v4.toInt64)) + v6.toInt64)) + v8.toInt64)) + v10.toInt64)) + v12.toInt64)) + v14.toInt64)) + v16.toInt64)) + v18.toInt64)) + v20.toInt64))] s21 _
    refine RR.s2 (pc' := 307) (lv' := [(0, .ref 0), (1, .long (((31 : Int64) * (((31 : Int64) * (((31 : Int64) * (((31 : Int64) * (((31 : Int64) * (((31 : Int64) * (((31 : Int64) * (((31 : Int64) * (((31 : Int64) * (((31 : Int64) * y1) + v2.toInt64)) + v4.toInt64)) + v6.toInt64)) + v8.toInt64)) + v10.toInt64)) + v12.toInt64)) + v14.toInt64)) + v16.toInt64)) + v18.toInt64)) + v20.toInt64)), (3, .int x3)]) (st' := [.long v22.toInt64, .long ((31 : Int64) * (((31 : Int64) * (((31 : Int64) * (((31 : Int64) * (((31 : Int64) * (((31 : Int64) * (((31 : Int64) * (((31 : Int64) * (((31 : Int64) * (((31 : Int64) * (((31 : Int64) * y1) + v2.toInt64)) + v4.toInt64)) + v6.toInt64)) + v8.toInt64)) + v10.toInt64)) + v12.toInt64)) + v14.toInt64)) + v16.toInt64)) + v18.toInt64)) + v20.toInt64))]) dX6_digest_306 rfl ?_
    refine RR.s2 (pc' := 308) (lv' := [(0, .ref 0), (1, .long (((31 : Int64) * (((31 : Int64) * (((31 : Int64) * (((31 : Int64) * (((31 : Int64) * (((31 : Int64) * (((31 : Int64) * (((31 : Int64) * (((31 : Int64) * (((31 : Int64) * y1) + v2.toInt64)) + v4.toInt64)) + v6.toInt64)) + v8.toInt64)) + v10.toInt64)) + v12.toInt64)) + v14.toInt64)) + v16.toInt64)) + v18.toInt64)) + v20.toInt64)), (3, .int x3)]) (st' := [.long (((31 : Int64) * (((31 : Int64) * (((31 : Int64) * (((31 : Int64) * (((31 : Int64) * (((31 : Int64) * (((31 : Int64) * (((31 : Int64) * (((31 : Int64) * (((31 : Int64) * (((31 : Int64) * y1) + v2.toInt64)) + v4.toInt64)) + v6.toInt64)) + v8.toInt64)) + v10.toInt64)) + v12.toInt64)) + v14.toInt64)) + v16.toInt64)) + v18.toInt64)) + v20.toInt64)) + v22.toInt64)]) dX6_digest_307 rfl ?_
    refine RR.s2 (pc' := 309) (lv' := [(0, .ref 0), (1, .long (((31 : Int64) * (((31 : Int64) * (((31 : Int64) * (((31 : Int64) * (((31 : Int64) * (((31 : Int64) * (((31 : Int64) * (((31 : Int64) * (((31 : Int64) * (((31 : Int64) * (((31 : Int64) * y1) + v2.toInt64)) + v4.toInt64)) + v6.toInt64)) + v8.toInt64)) + v10.toInt64)) + v12.toInt64)) + v14.toInt64)) + v16.toInt64)) + v18.toInt64)) + v20.toInt64)) + v22.toInt64)), (3, .int x3)]) (st' := []) dX6_digest_308 rfl ?_
    refine RR.ldc2 dX6_digest_309 pw_w1323 ?_
    refine RR.s2 (pc' := 313) (lv' := [(0, .ref 0), (1, .long (((31 : Int64) * (((31 : Int64) * (((31 : Int64) * (((31 : Int64) * (((31 : Int64) * (((31 : Int64) * (((31 : Int64) * (((31 : Int64) * (((31 : Int64) * (((31 : Int64) * (((31 : Int64) * y1) + v2.toInt64)) + v4.toInt64)) + v6.toInt64)) + v8.toInt64)) + v10.toInt64)) + v12.toInt64)) + v14.toInt64)) + v16.toInt64)) + v18.toInt64)) + v20.toInt64)) + v22.toInt64)), (3, .int x3)]) (st' := [.long (((31 : Int64) * (((31 : Int64) * (((31 : Int64) * (((31 : Int64) * (((31 : Int64) * (((31 : Int64) * (((31 : Int64) * (((31 : Int64) * (((31 : Int64) * (((31 : Int64) * (((31 : Int64) * y1) + v2.toInt64)) + v4.toInt64)) + v6.toInt64)) + v8.toInt64)) + v10.toInt64)) + v12.toInt64)) + v14.toInt64)) + v16.toInt64)) + v18.toInt64)) + v20.toInt64)) + v22.toInt64), .long (31 : Int64)]) dX6_digest_312 rfl ?_
    refine RR.s2 (pc' := 314) (lv' := [(0, .ref 0), (1, .long (((31 : Int64) * (((31 : Int64) * (((31 : Int64) * (((31 : Int64) * (((31 : Int64) * (((31 : Int64) * (((31 : Int64) * (((31 : Int64) * (((31 : Int64) * (((31 : Int64) * (((31 : Int64) * y1) + v2.toInt64)) + v4.toInt64)) + v6.toInt64)) + v8.toInt64)) + v10.toInt64)) + v12.toInt64)) + v14.toInt64)) + v16.toInt64)) + v18.toInt64)) + v20.toInt64)) + v22.toInt64)), (3, .int x3)]) (st' := [.long ((31 : Int64) * (((31 : Int64) * (((31 : Int64) * (((31 : Int64) * (((31 : Int64) * (((31 : Int64) * (((31 : Int64) * (((31 : Int64) * (((31 : Int64) * (((31 : Int64) * (((31 : Int64) * (((31 : Int64) * y1) + v2.toInt64)) + v4.toInt64)) + v6.toInt64)) + v8.toInt64)) + v10.toInt64)) + v12.toInt64)) + v14.toInt64)) + v16.toInt64)) + v18.toInt64)) + v20.toInt64)) + v22.toInt64))]) dX6_digest_313 rfl ?_
    refine RR.s2 (pc' := 315) (lv' := [(0, .ref 0), (1, .long (((31 : Int64) * (((31 : Int64) * (((31 : Int64) * (((31 : Int64) * (((31 : Int64) * (((31 : Int64) * (((31 : Int64) * (((31 : Int64) * (((31 : Int64) * (((31 : Int64) * (((31 : Int64) * y1) + v2.toInt64)) + v4.toInt64)) + v6.toInt64)) + v8.toInt64)) + v10.toInt64)) + v12.toInt64)) + v14.toInt64)) + v16.toInt64)) + v18.toInt64)) + v20.toInt64)) + v22.toInt64)), (3, .int x3)]) (st' := [.ref 0, .long ((31 : Int64) * (((31 : Int64) * (((31 : Int64) * (((31 : Int64) * (((31 : Int64) * (((31 : Int64) * (((31 : Int64) * (((31 : Int64) * (((31 : Int64) * (((31 : Int64) * (((31 : Int64) * (((31 : Int64) * y1) + v2.toInt64)) + v4.toInt64)) + v6.toInt64)) + v8.toInt64)) + v10.toInt64)) + v12.toInt64)) + v14.toInt64)) + v16.toInt64)) + v18.toInt64)) + v20.toInt64)) + v22.toInt64))]) dX6_digest_314 rfl ?_
    refine RR.cV dX6_digest_315 ml_X6_278 rfl rfl (as := []) (rest := [.long ((31 : Int64) * (((31 : Int64) * (((31 : Int64) * (((31 : Int64) * (((31 : Int64) * (((31 : Int64) * (((31 : Int64) * (((31 : Int64) * (((31 : Int64) * (((31 : Int64) * (((31 : Int64) * (((31 : Int64) * y1) + v2.toInt64)) + v4.toInt64)) + v6.toInt64)) + v8.toInt64)) + v10.toInt64)) + v12.toInt64)) + v14.toInt64)) + v16.toInt64)) + v18.toInt64)) + v20.toInt64)) + v22.toInt64))]) rfl rfl (Nat.le_of_ble_eq_true rfl) (Nat.le_of_ble_eq_true rfl) (by decide) (RR.toI H (fun v24 s23 H => ?_))
    show RR 1 7 mX6_digest 318 [(0, .ref 0), (1, .long (((31 : Int64) * (((31 : Int64) * (((31 : Int64) * (((31 : Int64) * (((31 : Int64) * (((31 : Int64) * (((31 : Int64) * (((31 : Int64) * (((31 : Int64) * (((31 : Int64) * (((31 : Int64) * y1) + v2.toInt64)) + v4.toInt64)) + v6.toInt64)) + v8.toInt64)) + v10.toInt64)) + v12.toInt64)) + v14.toInt64)) + v16.toInt64)) + v18.toInt64)) + v20.toInt64)) + v22.toInt64)), (3, .int x3)] [.int v24, .long ((31 : Int64) * (((31 : Int64) * (((31 : Int64) * (((31 : Int64) * (((31 : Int64) * (((31 : Int64) * (((31 : Int64) * (((31 : Int64) * (((31 : Int64) * (((31 : Int64) * (((31 : Int64) * (((31 : Int64) * y1) + v2.toInt64)) + v4.toInt64)) + v6.toInt64)) + v8.toInt64)) + v10.toInt64)) + v12.toInt64)) + v14.toInt64)) + v16.toInt64)) + v18.toInt64)) + v20.toInt64)) + v22.toInt64))] s23 _
    refine RR.s2 (pc' := 319) (lv' := [(0, .ref 0), (1, .long (((31 : Int64) * (((31 : Int64) * (((31 : Int64) * (((31 : Int64) * (((31 : Int64) * (((31 : Int64) * (((31 : Int64) * (((31 : Int64) * (((31 : Int64) * (((31 : Int64) * (((31 : Int64) * y1) + v2.toInt64)) + v4.toInt64)) + v6.toInt64)) + v8.toInt64)) + v10.toInt64)) + v12.toInt64)) + v14.toInt64)) + v16.toInt64)) + v18.toInt64)) + v20.toInt64)) + v22.toInt64)), (3, .int x3)]) (st' := [.long v24.toInt64, .long ((31 : Int64) * (((31 : Int64) * (((31 : Int64) * (((31 : Int64) * (((31 : Int64) * (((31 : Int64) * (((31 : Int64) * (((31 : Int64) * (((31 : Int64) * (((31 : Int64) * (((31 : Int64) * (((31 : Int64) * y1) + v2.toInt64)) + v4.toInt64)) + v6.toInt64)) + v8.toInt64)) + v10.toInt64)) + v12.toInt64)) + v14.toInt64)) + v16.toInt64)) + v18.toInt64)) + v20.toInt64)) + v22.toInt64))]) dX6_digest_318 rfl ?_
    refine RR.s2 (pc' := 320) (lv' := [(0, .ref 0), (1, .long (((31 : Int64) * (((31 : Int64) * (((31 : Int64) * (((31 : Int64) * (((31 : Int64) * (((31 : Int64) * (((31 : Int64) * (((31 : Int64) * (((31 : Int64) * (((31 : Int64) * (((31 : Int64) * y1) + v2.toInt64)) + v4.toInt64)) + v6.toInt64)) + v8.toInt64)) + v10.toInt64)) + v12.toInt64)) + v14.toInt64)) + v16.toInt64)) + v18.toInt64)) + v20.toInt64)) + v22.toInt64)), (3, .int x3)]) (st' := [.long (((31 : Int64) * (((31 : Int64) * (((31 : Int64) * (((31 : Int64) * (((31 : Int64) * (((31 : Int64) * (((31 : Int64) * (((31 : Int64) * (((31 : Int64) * (((31 : Int64) * (((31 : Int64) * (((31 : Int64) * y1) + v2.toInt64)) + v4.toInt64)) + v6.toInt64)) + v8.toInt64)) + v10.toInt64)) + v12.toInt64)) + v14.toInt64)) + v16.toInt64)) + v18.toInt64)) + v20.toInt64)) + v22.toInt64)) + v24.toInt64)]) dX6_digest_319 rfl ?_
    refine RR.s2 (pc' := 321) (lv' := [(0, .ref 0), (1, .long (((31 : Int64) * (((31 : Int64) * (((31 : Int64) * (((31 : Int64) * (((31 : Int64) * (((31 : Int64) * (((31 : Int64) * (((31 : Int64) * (((31 : Int64) * (((31 : Int64) * (((31 : Int64) * (((31 : Int64) * y1) + v2.toInt64)) + v4.toInt64)) + v6.toInt64)) + v8.toInt64)) + v10.toInt64)) + v12.toInt64)) + v14.toInt64)) + v16.toInt64)) + v18.toInt64)) + v20.toInt64)) + v22.toInt64)) + v24.toInt64)), (3, .int x3)]) (st' := []) dX6_digest_320 rfl ?_
    refine RR.ldc2 dX6_digest_321 pw_w1323 ?_
    refine RR.s2 (pc' := 325) (lv' := [(0, .ref 0), (1, .long (((31 : Int64) * (((31 : Int64) * (((31 : Int64) * (((31 : Int64) * (((31 : Int64) * (((31 : Int64) * (((31 : Int64) * (((31 : Int64) * (((31 : Int64) * (((31 : Int64) * (((31 : Int64) * (((31 : Int64) * y1) + v2.toInt64)) + v4.toInt64)) + v6.toInt64)) + v8.toInt64)) + v10.toInt64)) + v12.toInt64)) + v14.toInt64)) + v16.toInt64)) + v18.toInt64)) + v20.toInt64)) + v22.toInt64)) + v24.toInt64)), (3, .int x3)]) (st' := [.long (((31 : Int64) * (((31 : Int64) * (((31 : Int64) * (((31 : Int64) * (((31 : Int64) * (((31 : Int64) * (((31 : Int64) * (((31 : Int64) * (((31 : Int64) * (((31 : Int64) * (((31 : Int64) * (((31 : Int64) * y1) + v2.toInt64)) + v4.toInt64)) + v6.toInt64)) + v8.toInt64)) + v10.toInt64)) + v12.toInt64)) + v14.toInt64)) + v16.toInt64)) + v18.toInt64)) + v20.toInt64)) + v22.toInt64)) + v24.toInt64), .long (31 : Int64)]) dX6_digest_324 rfl ?_
    refine RR.s2 (pc' := 326) (lv' := [(0, .ref 0), (1, .long (((31 : Int64) * (((31 : Int64) * (((31 : Int64) * (((31 : Int64) * (((31 : Int64) * (((31 : Int64) * (((31 : Int64) * (((31 : Int64) * (((31 : Int64) * (((31 : Int64) * (((31 : Int64) * (((31 : Int64) * y1) + v2.toInt64)) + v4.toInt64)) + v6.toInt64)) + v8.toInt64)) + v10.toInt64)) + v12.toInt64)) + v14.toInt64)) + v16.toInt64)) + v18.toInt64)) + v20.toInt64)) + v22.toInt64)) + v24.toInt64)), (3, .int x3)]) (st' := [.long ((31 : Int64) * (((31 : Int64) * (((31 : Int64) * (((31 : Int64) * (((31 : Int64) * (((31 : Int64) * (((31 : Int64) * (((31 : Int64) * (((31 : Int64) * (((31 : Int64) * (((31 : Int64) * (((31 : Int64) * (((31 : Int64) * y1) + v2.toInt64)) + v4.toInt64)) + v6.toInt64)) + v8.toInt64)) + v10.toInt64)) + v12.toInt64)) + v14.toInt64)) + v16.toInt64)) + v18.toInt64)) + v20.toInt64)) + v22.toInt64)) + v24.toInt64))]) dX6_digest_325 rfl ?_
    refine RR.s2 (pc' := 327) (lv' := [(0, .ref 0), (1, .long (((31 : Int64) * (((31 : Int64) * (((31 : Int64) * (((31 : Int64) * (((31 : Int64) * (((31 : Int64) * (((31 : Int64) * (((31 : Int64) * (((31 : Int64) * (((31 : Int64) * (((31 : Int64) * (((31 : Int64) * y1) + v2.toInt64)) + v4.toInt64)) + v6.toInt64)) + v8.toInt64)) + v10.toInt64)) + v12.toInt64)) + v14.toInt64)) + v16.toInt64)) + v18.toInt64)) + v20.toInt64)) + v22.toInt64)) + v24.toInt64)), (3, .int x3)]) (st' := [.ref 0, .long ((31 : Int64) * (((31 : Int64) * (((31 : Int64) * (((31 : Int64) * (((31 : Int64) * (((31 : Int64) * (((31 : Int64) * (((31 : Int64) * (((31 : Int64) * (((31 : Int64) * (((31 : Int64) * (((31 : Int64) * (((31 : Int64) * y1) + v2.toInt64)) + v4.toInt64)) + v6.toInt64)) + v8.toInt64)) + v10.toInt64)) + v12.toInt64)) + v14.toInt64)) + v16.toInt64)) + v18.toInt64)) + v20.toInt64)) + v22.toInt64)) + v24.toInt64))]) dX6_digest_326 rfl ?_
    refine RR.bp (v := 7) dX6_digest_327 (by decide) ?_
    refine RR.bp (v := 30) dX6_digest_329 (by decide) ?_
    refine RR.ic (v := 0) dX6_digest_331 (by decide) ?_
    refine RR.cV dX6_digest_332 ml_X6_299 rfl rfl (as := [.int 7, .int 30, .int 0]) (rest := [.long ((31 : Int64) * (((31 : Int64) * (((31 : Int64) * (((31 : Int64) * (((31 : Int64) * (((31 : Int64) * (((31 : Int64) * (((31 : Int64) * (((31 : Int64) * (((31 : Int64) * (((31 : Int64) * (((31 : Int64) * (((31 : Int64) * y1) + v2.toInt64)) + v4.toInt64)) + v6.toInt64)) + v8.toInt64)) + v10.toInt64)) + v12.toInt64)) + v14.toInt64)) + v16.toInt64)) + v18.toInt64)) + v20.toInt64)) + v22.toInt64)) + v24.toInt64))]) rfl rfl (Nat.le_of_ble_eq_true rfl) (Nat.le_of_ble_eq_true rfl) (by decide) (RR.toI H (fun v26 s25 H => ?_))
    show RR 1 7 mX6_digest 335 [(0, .ref 0), (1, .long (((31 : Int64) * (((31 : Int64) * (((31 : Int64) * (((31 : Int64) * (((31 : Int64) * (((31 : Int64) * (((31 : Int64) * (((31 : Int64) * (((31 : Int64) * (((31 : Int64) * (((31 : Int64) * (((31 : Int64) * y1) + v2.toInt64)) + v4.toInt64)) + v6.toInt64)) + v8.toInt64)) + v10.toInt64)) + v12.toInt64)) + v14.toInt64)) + v16.toInt64)) + v18.toInt64)) + v20.toInt64)) + v22.toInt64)) + v24.toInt64)), (3, .int x3)] [.int v26, .long ((31 : Int64) * (((31 : Int64) * (((31 : Int64) * (((31 : Int64) * (((31 : Int64) * (((31 : Int64) * (((31 : Int64) * (((31 : Int64) * (((31 : Int64) * (((31 : Int64) * (((31 : Int64) * (((31 : Int64) * (((31 : Int64) * y1) + v2.toInt64)) + v4.toInt64)) + v6.toInt64)) + v8.toInt64)) + v10.toInt64)) + v12.toInt64)) + v14.toInt64)) + v16.toInt64)) + v18.toInt64)) + v20.toInt64)) + v22.toInt64)) + v24.toInt64))] s25 _
    refine RR.s2 (pc' := 336) (lv' := [(0, .ref 0), (1, .long (((31 : Int64) * (((31 : Int64) * (((31 : Int64) * (((31 : Int64) * (((31 : Int64) * (((31 : Int64) * (((31 : Int64) * (((31 : Int64) * (((31 : Int64) * (((31 : Int64) * (((31 : Int64) * (((31 : Int64) * y1) + v2.toInt64)) + v4.toInt64)) + v6.toInt64)) + v8.toInt64)) + v10.toInt64)) + v12.toInt64)) + v14.toInt64)) + v16.toInt64)) + v18.toInt64)) + v20.toInt64)) + v22.toInt64)) + v24.toInt64)), (3, .int x3)]) (st' := [.long v26.toInt64, .long ((31 : Int64) * (((31 : Int64) * (((31 : Int64) * (((31 : Int64) * (((31 : Int64) * (((31 : Int64) * (((31 : Int64) * (((31 : Int64) * (((31 : Int64) * (((31 : Int64) * (((31 : Int64) * (((31 : Int64) * (((31 : Int64) * y1) + v2.toInt64)) + v4.toInt64)) + v6.toInt64)) + v8.toInt64)) + v10.toInt64)) + v12.toInt64)) + v14.toInt64)) + v16.toInt64)) + v18.toInt64)) + v20.toInt64)) + v22.toInt64)) + v24.toInt64))]) dX6_digest_335 rfl ?_
    refine RR.s2 (pc' := 337) (lv' := [(0, .ref 0), (1, .long (((31 : Int64) * (((31 : Int64) * (((31 : Int64) * (((31 : Int64) * (((31 : Int64) * (((31 : Int64) * (((31 : Int64) * (((31 : Int64) * (((31 : Int64) * (((31 : Int64) * (((31 : Int64) * (((31 : Int64) * y1) + v2.toInt64)) + v4.toInt64)) + v6.toInt64)) + v8.toInt64)) + v10.toInt64)) + v12.toInt64)) + v14.toInt64)) + v16.toInt64)) + v18.toInt64)) + v20.toInt64)) + v22.toInt64)) + v24.toInt64)), (3, .int x3)]) (st' := [.long (((31 : Int64) * (((31 : Int64) * (((31 : Int64) * (((31 : Int64) * (((31 : Int64) * (((31 : Int64) * (((31 : Int64) * (((31 : Int64) * (((31 : Int64) * (((31 : Int64) * (((31 : Int64) * (((31 : Int64) * (((31 : Int64) * y1) + v2.toInt64)) + v4.toInt64)) + v6.toInt64)) + v8.toInt64)) + v10.toInt64)) + v12.toInt64)) + v14.toInt64)) + v16.toInt64)) + v18.toInt64)) + v20.toInt64)) + v22.toInt64)) + v24.toInt64)) + v26.toInt64)]) dX6_digest_336 rfl ?_
    refine RR.s2 (pc' := 338) (lv' := [(0, .ref 0), (1, .long (((31 : Int64) * (((31 : Int64) * (((31 : Int64) * (((31 : Int64) * (((31 : Int64) * (((31 : Int64) * (((31 : Int64) * (((31 : Int64) * (((31 : Int64) * (((31 : Int64) * (((31 : Int64) * (((31 : Int64) * (((31 : Int64) * y1) + v2.toInt64)) + v4.toInt64)) + v6.toInt64)) + v8.toInt64)) + v10.toInt64)) + v12.toInt64)) + v14.toInt64)) + v16.toInt64)) + v18.toInt64)) + v20.toInt64)) + v22.toInt64)) + v24.toInt64)) + v26.toInt64)), (3, .int x3)]) (st' := []) dX6_digest_337 rfl ?_
    refine RR.ldc2 dX6_digest_338 pw_w1323 ?_
    refine RR.s2 (pc' := 342) (lv' := [(0, .ref 0), (1, .long (((31 : Int64) * (((31 : Int64) * (((31 : Int64) * (((31 : Int64) * (((31 : Int64) * (((31 : Int64) * (((31 : Int64) * (((31 : Int64) * (((31 : Int64) * (((31 : Int64) * (((31 : Int64) * (((31 : Int64) * (((31 : Int64) * y1) + v2.toInt64)) + v4.toInt64)) + v6.toInt64)) + v8.toInt64)) + v10.toInt64)) + v12.toInt64)) + v14.toInt64)) + v16.toInt64)) + v18.toInt64)) + v20.toInt64)) + v22.toInt64)) + v24.toInt64)) + v26.toInt64)), (3, .int x3)]) (st' := [.long (((31 : Int64) * (((31 : Int64) * (((31 : Int64) * (((31 : Int64) * (((31 : Int64) * (((31 : Int64) * (((31 : Int64) * (((31 : Int64) * (((31 : Int64) * (((31 : Int64) * (((31 : Int64) * (((31 : Int64) * (((31 : Int64) * y1) + v2.toInt64)) + v4.toInt64)) + v6.toInt64)) + v8.toInt64)) + v10.toInt64)) + v12.toInt64)) + v14.toInt64)) + v16.toInt64)) + v18.toInt64)) + v20.toInt64)) + v22.toInt64)) + v24.toInt64)) + v26.toInt64), .long (31 : Int64)]) dX6_digest_341 rfl ?_
    refine RR.s2 (pc' := 343) (lv' := [(0, .ref 0), (1, .long (((31 : Int64) * (((31 : Int64) * (((31 : Int64) * (((31 : Int64) * (((31 : Int64) * (((31 : Int64) * (((31 : Int64) * (((31 : Int64) * (((31 : Int64) * (((31 : Int64) * (((31 : Int64) * (((31 : Int64) * (((31 : Int64) * y1) + v2.toInt64)) + v4.toInt64)) + v6.toInt64)) + v8.toInt64)) + v10.toInt64)) + v12.toInt64)) + v14.toInt64)) + v16.toInt64)) + v18.toInt64)) + v20.toInt64)) + v22.toInt64)) + v24.toInt64)) + v26.toInt64)), (3, .int x3)]) (st' := [.long ((31 : Int64) * (((31 : Int64) * (((31 : Int64) * (((31 : Int64) * (((31 : Int64) * (((31 : Int64) * (((31 : Int64) * (((31 : Int64) * (((31 : Int64) * (((31 : Int64) * (((31 : Int64) * (((31 : Int64) * (((31 : Int64) * (((31 : Int64) * y1) + v2.toInt64)) + v4.toInt64)) + v6.toInt64)) + v8.toInt64)) + v10.toInt64)) + v12.toInt64)) + v14.toInt64)) + v16.toInt64)) + v18.toInt64)) + v20.toInt64)) + v22.toInt64)) + v24.toInt64)) + v26.toInt64))]) dX6_digest_342 rfl ?_
    refine RR.s2 (pc' := 344) (lv' := [(0, .ref 0), (1, .long (((31 : Int64) * (((31 : Int64) * (((31 : Int64) * (((31 : Int64) * (((31 : Int64) * (((31 : Int64) * (((31 : Int64) * (((31 : Int64) * (((31 : Int64) * (((31 : Int64) * (((31 : Int64) * (((31 : Int64) * (((31 : Int64) * y1) + v2.toInt64)) + v4.toInt64)) + v6.toInt64)) + v8.toInt64)) + v10.toInt64)) + v12.toInt64)) + v14.toInt64)) + v16.toInt64)) + v18.toInt64)) + v20.toInt64)) + v22.toInt64)) + v24.toInt64)) + v26.toInt64)), (3, .int x3)]) (st' := [.ref 0, .long ((31 : Int64) * (((31 : Int64) * (((31 : Int64) * (((31 : Int64) * (((31 : Int64) * (((31 : Int64) * (((31 : Int64) * (((31 : Int64) * (((31 : Int64) * (((31 : Int64) * (((31 : Int64) * (((31 : Int64) * (((31 : Int64) * (((31 : Int64) * y1) + v2.toInt64)) + v4.toInt64)) + v6.toInt64)) + v8.toInt64)) + v10.toInt64)) + v12.toInt64)) + v14.toInt64)) + v16.toInt64)) + v18.toInt64)) + v20.toInt64)) + v22.toInt64)) + v24.toInt64)) + v26.toInt64))]) dX6_digest_343 rfl ?_
    refine RR.bp (v := 7) dX6_digest_344 (by decide) ?_
    refine RR.bp (v := 30) dX6_digest_346 (by decide) ?_
    refine RR.ic (v := 1) dX6_digest_348 (by decide) ?_
    refine RR.cV dX6_digest_349 ml_X6_299 rfl rfl (as := [.int 7, .int 30, .int 1]) (rest := [.long ((31 : Int64) * (((31 : Int64) * (((31 : Int64) * (((31 : Int64) * (((31 : Int64) * (((31 : Int64) * (((31 : Int64) * (((31 : Int64) * (((31 : Int64) * (((31 : Int64) * (((31 : Int64) * (((31 : Int64) * (((31 : Int64) * (((31 : Int64) * y1) + v2.toInt64)) + v4.toInt64)) + v6.toInt64)) + v8.toInt64)) + v10.toInt64)) + v12.toInt64)) + v14.toInt64)) + v16.toInt64)) + v18.toInt64)) + v20.toInt64)) + v22.toInt64)) + v24.toInt64)) + v26.toInt64))]) rfl rfl (Nat.le_of_ble_eq_true rfl) (Nat.le_of_ble_eq_true rfl) (by decide) (RR.toI H (fun v28 s27 H => ?_))
    show RR 1 7 mX6_digest 352 [(0, .ref 0), (1, .long (((31 : Int64) * (((31 : Int64) * (((31 : Int64) * (((31 : Int64) * (((31 : Int64) * (((31 : Int64) * (((31 : Int64) * (((31 : Int64) * (((31 : Int64) * (((31 : Int64) * (((31 : Int64) * (((31 : Int64) * (((31 : Int64) * y1) + v2.toInt64)) + v4.toInt64)) + v6.toInt64)) + v8.toInt64)) + v10.toInt64)) + v12.toInt64)) + v14.toInt64)) + v16.toInt64)) + v18.toInt64)) + v20.toInt64)) + v22.toInt64)) + v24.toInt64)) + v26.toInt64)), (3, .int x3)] [.int v28, .long ((31 : Int64) * (((31 : Int64) * (((31 : Int64) * (((31 : Int64) * (((31 : Int64) * (((31 : Int64) * (((31 : Int64) * (((31 : Int64) * (((31 : Int64) * (((31 : Int64) * (((31 : Int64) * (((31 : Int64) * (((31 : Int64) * (((31 : Int64) * y1) + v2.toInt64)) + v4.toInt64)) + v6.toInt64)) + v8.toInt64)) + v10.toInt64)) + v12.toInt64)) + v14.toInt64)) + v16.toInt64)) + v18.toInt64)) + v20.toInt64)) + v22.toInt64)) + v24.toInt64)) + v26.toInt64))] s27 _
    refine RR.s2 (pc' := 353) (lv' := [(0, .ref 0), (1, .long (((31 : Int64) * (((31 : Int64) * (((31 : Int64) * (((31 : Int64) * (((31 : Int64) * (((31 : Int64) * (((31 : Int64) * (((31 : Int64) * (((31 : Int64) * (((31 : Int64) * (((31 : Int64) * (((31 : Int64) * (((31 : Int64) * y1) + v2.toInt64)) + v4.toInt64)) + v6.toInt64)) + v8.toInt64)) + v10.toInt64)) + v12.toInt64)) + v14.toInt64)) + v16.toInt64)) + v18.toInt64)) + v20.toInt64)) + v22.toInt64)) + v24.toInt64)) + v26.toInt64)), (3, .int x3)]) (st' := [.long v28.toInt64, .long ((31 : Int64) * (((31 : Int64) * (((31 : Int64) * (((31 : Int64) * (((31 : Int64) * (((31 : Int64) * (((31 : Int64) * (((31 : Int64) * (((31 : Int64) * (((31 : Int64) * (((31 : Int64) * (((31 : Int64) * (((31 : Int64) * (((31 : Int64) * y1) + v2.toInt64)) + v4.toInt64)) + v6.toInt64)) + v8.toInt64)) + v10.toInt64)) + v12.toInt64)) + v14.toInt64)) + v16.toInt64)) + v18.toInt64)) + v20.toInt64)) + v22.toInt64)) + v24.toInt64)) + v26.toInt64))]) dX6_digest_352 rfl ?_
    refine RR.s2 (pc' := 354) (lv' := [(0, .ref 0), (1, .long (((31 : Int64) * (((31 : Int64) * (((31 : Int64) * (((31 : Int64) * (((31 : Int64) * (((31 : Int64) * (((31 : Int64) * (((31 : Int64) * (((31 : Int64) * (((31 : Int64) * (((31 : Int64) * (((31 : Int64) * (((31 : Int64) * y1) + v2.toInt64)) + v4.toInt64)) + v6.toInt64)) + v8.toInt64)) + v10.toInt64)) + v12.toInt64)) + v14.toInt64)) + v16.toInt64)) + v18.toInt64)) + v20.toInt64)) + v22.toInt64)) + v24.toInt64)) + v26.toInt64)), (3, .int x3)]) (st' := [.long (((31 : Int64) * (((31 : Int64) * (((31 : Int64) * (((31 : Int64) * (((31 : Int64) * (((31 : Int64) * (((31 : Int64) * (((31 : Int64) * (((31 : Int64) * (((31 : Int64) * (((31 : Int64) * (((31 : Int64) * (((31 : Int64) * (((31 : Int64) * y1) + v2.toInt64)) + v4.toInt64)) + v6.toInt64)) + v8.toInt64)) + v10.toInt64)) + v12.toInt64)) + v14.toInt64)) + v16.toInt64)) + v18.toInt64)) + v20.toInt64)) + v22.toInt64)) + v24.toInt64)) + v26.toInt64)) + v28.toInt64)]) dX6_digest_353 rfl ?_
    exact RR.lret dX6_digest_354 rfl ⟨_, rfl, H⟩
  · have H := H.2 c
    refine RR.ldc2 dX6_digest_140 pw_w1323 ?_
    refine RR.s2 (pc' := 144) (lv' := [(0, .ref 0), (1, .long y1), (3, .int x3)]) (st' := [.long y1, .long (31 : Int64)]) dX6_digest_143 rfl ?_
    refine RR.s2 (pc' := 145) (lv' := [(0, .ref 0), (1, .long y1), (3, .int x3)]) (st' := [.long ((31 : Int64) * y1)]) dX6_digest_144 rfl ?_
    refine RR.s2 (pc' := 146) (lv' := [(0, .ref 0), (1, .long y1), (3, .int x3)]) (st' := [.ref 0, .long ((31 : Int64) * y1)]) dX6_digest_145 rfl ?_
    refine RR.s2 (pc' := 147) (lv' := [(0, .ref 0), (1, .long y1), (3, .int x3)]) (st' := [.int x3, .ref 0, .long ((31 : Int64) * y1)]) dX6_digest_146 rfl ?_
    refine RR.cV dX6_digest_147 ml_X6_215 rfl rfl (as := [.int x3]) (rest := [.long ((31 : Int64) * y1)]) rfl rfl (Nat.le_of_ble_eq_true rfl) (Nat.le_of_ble_eq_true rfl) (by decide) (RR.toI H (fun v30 s29 H => ?_))
    show RR 1 7 mX6_digest 150 [(0, .ref 0), (1, .long y1), (3, .int x3)] [.int v30, .long ((31 : Int64) * y1)] s29 _
    refine RR.s2 (pc' := 151) (lv' := [(0, .ref 0), (1, .long y1), (3, .int x3)]) (st' := [.long v30.toInt64, .long ((31 : Int64) * y1)]) dX6_digest_150 rfl ?_
    refine RR.s2 (pc' := 152) (lv' := [(0, .ref 0), (1, .long y1), (3, .int x3)]) (st' := [.long (((31 : Int64) * y1) + v30.toInt64)]) dX6_digest_151 rfl ?_
    refine RR.s2 (pc' := 153) (lv' := [(0, .ref 0), (1, .long (((31 : Int64) * y1) + v30.toInt64)), (3, .int x3)]) (st' := []) dX6_digest_152 rfl ?_
    refine RR.inc (c := 1) (lv' := [(0, .ref 0), (1, .long (((31 : Int64) * y1) + v30.toInt64)), (3, .int (x3 + 1))]) dX6_digest_153 rfl (by decide) (by decide) rfl ?_
    refine RR.s2 (pc' := 130) (lv' := [(0, .ref 0), (1, .long (((31 : Int64) * y1) + v30.toInt64)), (3, .int (x3 + 1))]) (st' := []) dX6_digest_156 rfl ?_
    exact RR.cut [0, 1, 2] rfl H
