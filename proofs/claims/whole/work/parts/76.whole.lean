/-! ===== the law, from its entry (written by lawstart.py) ===== -/
theorem df_X5 : ∀ j, j < 16 → defaultValue (tyX5 j) = vp_V [.null, .null, .null, .null, .null, .null, .null, .null, .null, .null, .null, .null, .int 0, .int 0, .int 0, .int 0] j := by
  intro j hj
  match j, hj with
  | 0, _ => rfl
  | 1, _ => rfl
  | 2, _ => rfl
  | 3, _ => rfl
  | 4, _ => rfl
  | 5, _ => rfl
  | 6, _ => rfl
  | 7, _ => rfl
  | 8, _ => rfl
  | 9, _ => rfl
  | 10, _ => rfl
  | 11, _ => rfl
  | 12, _ => rfl
  | 13, _ => rfl
  | 14, _ => rfl
  | 15, _ => rfl
  | k + 16, h => omega
theorem df_X6 : ∀ j, j < 42 → defaultValue (tyX6 j) = vp_V [.null, .int 0, .int 0, .null, .int 0, .int 0, .int 0, .null, .null, .null, .null, .null, .null, .null, .null, .null, .null, .null, .null, .null, .null, .int 0, .int 0, .int 0, .null, .null, .null, .null, .null, .int 0, .null, .null, .int 0, .null, .null, .null, .null, .null, .null, .null, .null, .int 0] j := by
  intro j hj
  match j, hj with
  | 0, _ => rfl
  | 1, _ => rfl
  | 2, _ => rfl
  | 3, _ => rfl
  | 4, _ => rfl
  | 5, _ => rfl
  | 6, _ => rfl
  | 7, _ => rfl
  | 8, _ => rfl
  | 9, _ => rfl
  | 10, _ => rfl
  | 11, _ => rfl
  | 12, _ => rfl
  | 13, _ => rfl
  | 14, _ => rfl
  | 15, _ => rfl
  | 16, _ => rfl
  | 17, _ => rfl
  | 18, _ => rfl
  | 19, _ => rfl
  | 20, _ => rfl
  | 21, _ => rfl
  | 22, _ => rfl
  | 23, _ => rfl
  | 24, _ => rfl
  | 25, _ => rfl
  | 26, _ => rfl
  | 27, _ => rfl
  | 28, _ => rfl
  | 29, _ => rfl
  | 30, _ => rfl
  | 31, _ => rfl
  | 32, _ => rfl
  | 33, _ => rfl
  | 34, _ => rfl
  | 35, _ => rfl
  | 36, _ => rfl
  | 37, _ => rfl
  | 38, _ => rfl
  | 39, _ => rfl
  | 40, _ => rfl
  | 41, _ => rfl
  | k + 42, h => omega
theorem cm_X5 : r_CM mX5_init 0 := ⟨pw_in 81 (by decide +kernel) (by decide +kernel), pw_in 66 (by decide +kernel) (by decide +kernel), by decide +kernel, ⟨by decide +kernel, by decide +kernel⟩, by decide +kernel, by decide⟩
theorem cm_X6 : r_CM mX6_init 0 := ⟨pw_in 824 (by decide +kernel) (by decide +kernel), pw_in 73 (by decide +kernel) (by decide +kernel), by decide +kernel, ⟨by decide +kernel, by decide +kernel⟩, by decide +kernel, by decide⟩
section LJ
variable {p : Program} {l : Launch} {e : Env} {s : State} {m : MethodId} {below : List Frame} {meth : Method} {c : Code} {H : Heap} {locs : List Loc} {D : va_G} {dA : Nat → ClassId} {ls : Array Slot}
theorem l_go {b L q0 q1 dd0 : Nat} {u0 u1 : List Nat} {xs : Nat → Int32} (hL : L ≤ 384) (C0 : lw_At p s m meth c b L xs) (htp : ∀ w ∈ pw_wl, w.before #[Value.ref b] s = true) (hK : va_K D vwCl (r_ty dA) s) (hZ : va_Z "TwinKings" "DIGEST_DAYS" "[I" (.ref dd0) (fun q : Nat => s.heap.size ≤ q) s s.heap) (hTb : va_T .int dd0 5 r_dd (fun q : Nat => s.heap.size ≤ q) s s.heap) {w0 w1 : va_W} (e0 : w0 = r_wl (n_ad q0 dd0 u0) dA s0_0 (r_lay 0)) (e1 : w1 = r_wl (n_ad q1 0 u1) dA s0_1 (r_lay 1)) (h : n_Hp D (fun q : Nat => s.heap.size ≤ q) (w0 ++ w1) s H locs) (hl : lv_has ls 4 [(3, .int 0), (2, .ref q1), (1, .ref q0), (0, .ref b)]) : W p l e room_1 s m #[Value.ref b] below meth c H locs 600000 7302250 (lw_Z below #[Value.ref b] s) (F0 m 18 ls []) := by
  obtain ⟨hx, hb, hr, hml, hown, hts, hX, hbl, hlocks, hgv⟩ := id C0
  obtain ⟨hP, hD, hS⟩ := h
  obtain ⟨hP0, hP1, hD0, hD1, hap⟩ := l_split hP hD
  rw [e0] at hP0 hD0 hap
  rw [e1] at hP1 hD1 hap
  have z0 : n_ad q0 dd0 u0 0 = q0 := rfl
  have z1 : n_ad q1 0 u1 0 = q1 := rfl
  have z2 : n_ad q0 dd0 u0 1000 = dd0 := rfl
  have hl2 : lv_has ls 4 [(0, .ref b), (1, .ref q0), (2, .ref q1), (3, .int (nI 0))] := lv_sub hl [3, 2, 1, 0] rfl
  rw [← z0, ← z1] at hl2
  rw [← z2] at hZ hTb
  generalize n_ad q0 dd0 u0 = ad0 at *
  generalize n_ad q1 0 u1 = ad1 at *
  have hA0 : ∀ q, r_A (r_lay 0).length ad0 q → s.heap.size ≤ q := l_in hD0
  have hA1 : ∀ q, r_A (r_lay 1).length ad1 q → s.heap.size ≤ q := l_in hD1
  have G : l_G p s m #[Value.ref b] c D dA ad0 ad1 := by
    refine ⟨hx, hb, hml, hown, htp, hK, l_inj hD0, l_inj hD1, fun _ => ⟨hZ.narrow hA0, hTb.narrow hA0⟩, hA0, hA1, ?_⟩
    rintro q ⟨i, hi, rfl⟩ ⟨j, hj, ej⟩
    exact hap i j _ _ (r_wl_at (List.getElem?_eq_getElem hi)) (r_wl_at (List.getElem?_eq_getElem hj)) ej
  exact law_loop hL hr hlocks G hX hbl (L + 1) 0 a0 H locs ls (by omega) (Nat.zero_le _) ⟨s0_0, s0_1, inv0_first, inv1_first, hP0, hP1, hS⟩ hl2
end LJ
set_option maxHeartbeats 400000 in
set_option maxRecDepth 20000 in
theorem whole_start {p : Program} {e : Env} {s : State} {m : MethodId} {below : List Frame} {meth : Method} {c : Code} (l : Launch) {b L : Nat} {xs : Nat → Int32} (hL : L ≤ 384) (C0 : lw_At p s m meth c b L xs) : W p l e room_1 s m #[Value.ref b] below meth c s.heap [] 0 0 (lw_Z below #[Value.ref b] s) (entryFrame m ([Value.ref b] : List Value).toArray 4) := by
  obtain ⟨hx, hb, hr, hml, hown, hts, hX, hbl, hlocks, hgv⟩ := id C0
  have htp : ∀ w ∈ pw_wl, w.before #[Value.ref b] s = true := fun w hw => hts w (List.mem_filter.mp hw).1
  obtain ⟨D, hDk⟩ := l_known htp
  obtain ⟨dA, hTy⟩ := l_arrs hts
  have hK : va_K D vwCl (r_ty dA) s := ⟨hDk, hTy⟩
  have hAO : va_AO "TwinKings$Sheet" s := va_AO.of (hts _ (List.mem_of_getElem? (i := 191) (by decide +kernel)))
  obtain ⟨dd0, hZ, hTb⟩ := l_sta hts hgv
  have C : l_C p s m #[Value.ref b] c D dA (fun q : Nat => s.heap.size ≤ q) := ⟨hx, hb, hml, hown, htp, hK, fun _ h => h⟩
  have h : n_Hp D (fun q : Nat => s.heap.size ≤ q) [] s s.heap [] := ⟨fun k q h => by simp at h, ⟨fun i j x y h => by simp at h, fun k q h => by simp at h⟩, va_S.rf⟩
  have hl := lv_entry ([.ref b]) (n := 4) (Nat.le_of_ble_eq_true rfl)
  rw [lg_entry_eq]
  generalize (lg_sl ([.ref b]) ++ List.replicate (4 - (lg_sl ([.ref b])).length) Slot.unset).toArray = ls at hl ⊢
  have hl : lv_has ls 4 [(0, .ref b)] := hl
  refine l_new (CC := RX5) (T := TX5) (N := 16) (ci := 5) (fs := [.null, .null, .null, .null, .null, .null, .null, .null, .null, .null, .null, .null, .int 0, .int 0, .int 0, .int 0]) C h rfl tyX5 tyX5_ok pw_uX5 (pw_in 77 (by decide +kernel) (by decide +kernel)) (pw_in 78 (by decide +kernel) (by decide +kernel)) (pw_in 66 (by decide +kernel) (by decide +kernel)) df_X5 (show 0 + 1 ≤ 600000 by omega) (show 0 + 16 ≤ 7302250 by omega) dL_law_0 (fun q0 H h => ?_)
  have h : n_Hp D (fun q : Nat => s.heap.size ≤ q) ([] ++ [(q0, e0_X5)]) s H [] := h
  refine lv_dup hx hb dL_law_3 rfl ?_
  refine l_init (wf := fun u => r_wl (n_ad q0 dd0 u) dA s0_0 r_lay0) (q := q0) (e0 := e0_X5) (rest := [.ref q0]) C hAO h (fun sz => i_X5 l D dA q0 sz dd0) cm_X5 rfl rfl (pw_in 80 (by decide +kernel) (by decide +kernel)) (pw_in 79 (by decide +kernel) (by decide +kernel)) hl.1 (show 2 + 1 ≤ 2048 by omega) (show 64 * (2 + 1) ≤ 84000 by omega) (show 0 + 1 + 58 ≤ 600000 by omega) (show 0 + 16 + 945 ≤ 7302250 by omega) (Nat.le_of_ble_eq_true rfl) dL_law_4 (fun u0 H locs h => ?_)
  rw [List.nil_append] at h
  obtain ⟨w0, ew0⟩ : ∃ w0 : va_W, w0 = r_wl (n_ad q0 dd0 u0) dA s0_0 r_lay0 := ⟨_, rfl⟩
  have h : n_Hp D (fun q : Nat => s.heap.size ≤ q) w0 s H locs := by rw [ew0]; exact h
  refine lv_astore_n (lv' := [(1, .ref q0), (0, .ref b)]) hx hb dL_law_7 rfl hl (by decide) rfl (fun ls hl => ?_)
  refine l_new (CC := RX6) (T := TX6) (N := 42) (ci := 6) (fs := [.null, .int 0, .int 0, .null, .int 0, .int 0, .int 0, .null, .null, .null, .null, .null, .null, .null, .null, .null, .null, .null, .null, .null, .null, .int 0, .int 0, .int 0, .null, .null, .null, .null, .null, .int 0, .null, .null, .int 0, .null, .null, .null, .null, .null, .null, .null, .null, .int 0]) C h rfl tyX6 tyX6_ok pw_uX6 (pw_in 820 (by decide +kernel) (by decide +kernel)) (pw_in 821 (by decide +kernel) (by decide +kernel)) (pw_in 73 (by decide +kernel) (by decide +kernel)) df_X6 (show 0 + 1 + 58 + 1 ≤ 600000 by omega) (show 0 + 16 + 945 + 42 ≤ 7302250 by omega) dL_law_8 (fun q1 H h => ?_)
  have h : n_Hp D (fun q : Nat => s.heap.size ≤ q) (w0 ++ [(q1, e0_X6)]) s H locs := h
  refine lv_dup hx hb dL_law_11 rfl ?_
  refine l_init (wf := fun u => r_wl (n_ad q1 0 u) dA s0_1 r_lay1) (q := q1) (e0 := e0_X6) (rest := [.ref q1]) C hAO h (fun sz => i_X6 l D dA q1 sz) cm_X6 rfl rfl (pw_in 823 (by decide +kernel) (by decide +kernel)) (pw_in 822 (by decide +kernel) (by decide +kernel)) hl.1 (show 1 + 1 ≤ 2048 by omega) (show 64 * (1 + 1) ≤ 84000 by omega) (show 0 + 1 + 58 + 1 + 31 ≤ 600000 by omega) (show 0 + 16 + 945 + 42 + 1387 ≤ 7302250 by omega) (Nat.le_of_ble_eq_true rfl) dL_law_12 (fun u1 H locs h => ?_)
  refine lv_astore_n (lv' := [(2, .ref q1), (1, .ref q0), (0, .ref b)]) hx hb dL_law_15 rfl hl (by decide) rfl (fun ls hl => ?_)
  refine lv_iconst (v := 0) hx hb dL_law_16 (by decide) ?_
  refine lv_istore_n (lv' := [(3, .int 0), (2, .ref q1), (1, .ref q0), (0, .ref b)]) hx hb dL_law_17 rfl hl (by decide) rfl (fun ls hl => ?_)
  refine W.widen (k := 600000) (n := 7302250) (by omega) (by omega) ?_
  exact l_go hL C0 htp hK hZ hTb ew0 rfl h hl
