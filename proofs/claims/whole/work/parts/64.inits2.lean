/-! ===== constructors: Rows (written by inits2.py) ===== -/
theorem fq_X3_15 : n_FQ RX3 15 3 0 .int := ⟨RX3, TX3, 5, tyX3, rfl, by decide, by decide +kernel, pw_uX3, tyX3_ok, nmX3, Or.inr ⟨rfl, rfl⟩, by decide +kernel⟩
theorem fq_X3_21 : n_FQ RX3 21 3 1 (.array .int) := ⟨RX3, TX3, 5, tyX3, rfl, by decide, by decide +kernel, pw_uX3, tyX3_ok, nmX3, Or.inr ⟨rfl, rfl⟩, by decide +kernel⟩
theorem fq_X3_25 : n_FQ RX3 25 3 2 (.array .int) := ⟨RX3, TX3, 5, tyX3, rfl, by decide, by decide +kernel, pw_uX3, tyX3_ok, nmX3, Or.inr ⟨rfl, rfl⟩, by decide +kernel⟩
theorem fq_X3_28 : n_FQ RX3 28 3 3 (.array .int) := ⟨RX3, TX3, 5, tyX3, rfl, by decide, by decide +kernel, pw_uX3, tyX3_ok, nmX3, Or.inr ⟨rfl, rfl⟩, by decide +kernel⟩
def wf_X3 (dA : Nat → ClassId) (N h0 : Nat) (u : Nat × Nat × Nat) : va_W := [(h0, .inr (3, [.int (nI N), .ref u.1, .ref u.2.1, .ref u.2.2, .int 0])), (u.1, .inl (dA 0, N, .inl fun _ => 0)), (u.2.1, .inl (dA 0, N, .inl fun _ => 0)), (u.2.2, .inl (dA 0, N, .inl fun _ => 0))]
def e0_X3 : va_E := .inr (3, [.int 0, .null, .null, .null, .int 0])
set_option maxHeartbeats 4000000 in
theorem i_X3 (l : Launch) (D : va_G) (dA : Nat → ClassId) (N h0 sz : Nat) (hN : N < 1000) : Met l mX3_init.1 (r_ws mX3_init) (n_rm 1 3 (N + N + N)) (n_Pc D dA h0 e0_X3 sz [.int (nI N)]) (n_Qc D h0 e0_X3 sz (wf_X3 dA N h0)) 3 (N + N + N) (va_A [(h0, e0_X3)] sz) := by
  refine n_met l D dA sz (by decide) rfl rfl (Nat.le_of_ble_eq_true rfl) (fun p e s m args below meth c ls A Z C hAO h hl hend => ?_)
  obtain ⟨hx, hb, hml, hown, hts, hK, hin, hA⟩ := id C
  have hl : lv_has ls 2 [(0, .ref h0), (1, .int (nI N))] := hl
  have get : ∀ {pc : Nat} {fs : List Value} {wr : va_W} {H : Heap} {locs : List Loc} {cells slots : Nat} {rest : List Value}, n_Hp D A ((h0, .inr (3, fs)) :: wr) s H locs → fs[0]? = some (.int (nI N)) → decode cX3_init pc = .ok (.getfield 15, 3) → W p l e (n_rm 1 3 (N + N + N)) s m args below meth c H locs cells slots Z (F0 m (pc + 3) ls (.int (nI N) :: rest)) → W p l e (n_rm 1 3 (N + N + N)) s m args below meth c H locs cells slots Z (F0 m pc ls (.ref h0 :: rest)) := by
    intro pc fs wr H locs cells slots rest h hf hd kk
    obtain ⟨C2, T, NN, h1, h2, h3, h4⟩ := fl_X3_15
    exact va_get (D := D) (ci := 3) (v := .int (nI N)) (C := C2) (T := T) (N := NN) hx hb hts h4 hown hK h.1 0 rfl h1 0 h2 (hts _ h3) (fun _ h9 => h9) hf hd kk
  refine lv_aload_n hx hb dX3_init_0 rfl (lv_at hl 0 rfl) ?_
  refine n_obj C hl.1 (by decide +kernel) n_oI n_oC dX3_init_1 (Nat.le_of_ble_eq_true rfl) (Nat.le_of_ble_eq_true rfl) ?_
  refine lv_aload_n hx hb dX3_init_4 rfl (lv_at hl 0 rfl) ?_
  refine lv_iload_n hx hb dX3_init_5 rfl (lv_at hl 1 rfl) ?_
  refine lv_iconst (v := 0) hx hb dX3_init_6 (by decide) ?_
  refine va_mmax (own := RX3) hx hb (by rw [hml]; exact hl.1.symm) hown (hts (.methodLink RX3 9 Lib.Math.max.name) (by decide +kernel)) (hts (.static Lib.Math.max.name) (by decide +kernel)) (hts (.initialized "java/lang/Math") (by decide +kernel)) (hts (.code Lib.Math.max.name Lib.Math.max.code 2 (some .int)) (by decide +kernel)) (Nat.le_of_ble_eq_true rfl) (Nat.le_of_ble_eq_true rfl) (Nat.zero_le _) (Nat.zero_le _) dX3_init_7 ?_
  rw [if_neg (nI_pos (by omega))]
  refine n_put C h dX3_init_10 fq_X3_15 rfl rfl (by simp) (fun H locs h => ?_)
  refine lv_aload_n hx hb dX3_init_13 rfl (lv_at hl 0 rfl) ?_
  refine lv_aload_n hx hb dX3_init_14 rfl (lv_at hl 0 rfl) ?_
  refine get h rfl dX3_init_15 ?_
  refine n_arrI (N := N) C h rfl hN dX3_init_18 dX3_init_20 fq_X3_21 (by simp) (Nat.le_of_ble_eq_true rfl) (by show 0 + N ≤ N + N + N; omega) (fun q1 H locs h => ?_)
  refine lv_aload_n hx hb dX3_init_23 rfl (lv_at hl 0 rfl) ?_
  refine lv_aload_n hx hb dX3_init_24 rfl (lv_at hl 0 rfl) ?_
  refine get h rfl dX3_init_25 ?_
  refine n_arrI (N := N) C h rfl hN dX3_init_28 dX3_init_30 fq_X3_25 (by simp) (Nat.le_of_ble_eq_true rfl) (by show 0 + N + N ≤ N + N + N; omega) (fun q2 H locs h => ?_)
  refine lv_aload_n hx hb dX3_init_33 rfl (lv_at hl 0 rfl) ?_
  refine lv_aload_n hx hb dX3_init_34 rfl (lv_at hl 0 rfl) ?_
  refine get h rfl dX3_init_35 ?_
  refine n_arrI (N := N) C h rfl hN dX3_init_38 dX3_init_40 fq_X3_28 (by simp) (Nat.le_of_ble_eq_true rfl) (by show 0 + N + N + N ≤ N + N + N; omega) (fun q3 H locs h => ?_)
  refine W.widen (k := 3) (n := N + N + N) (by omega) (by omega) ?_
  exact hend (q1, q2, q3) _ _ _ _ h dX3_init_43
