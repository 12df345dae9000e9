/-! ===== the law: its switch and its loop (written by lawloop.py) ===== -/
theorem l_and63 (x : Int32) : ∃ k : Nat, k < 64 ∧ x &&& 63 = nI k := by
  refine ⟨x.toBitVec.toNat &&& 63, Nat.lt_of_le_of_lt Nat.and_le_right (by decide), ?_⟩
  have h : nI x.toBitVec.toNat = x := by
    apply Int32.toBitVec_inj.1
    show BitVec.ofNat 32 x.toBitVec.toNat = x.toBitVec
    simp
  have h2 := n_and x.toBitVec.toNat 63
  rw [h] at h2
  exact h2
theorem l_six {i L : Nat} (hL : L ≤ 384) (hi : i ≤ L) (h : ¬ Int32.ofNat L - 6 < nI i) : i + 6 ≤ L := by
  by_cases h6 : 6 ≤ L
  · have e : Int32.ofNat L - 6 = nI (L - 6) := by
      have e1 : nI (L - 6) + nI 6 = nI L := by rw [nI_add, Nat.sub_add_cancel h6]
      have e2 : nI L = Int32.ofNat L := rfl
      rw [← e2, ← e1]
      have e3 : nI 6 = 6 := rfl
      rw [e3]
      apply Int32.toBitVec_inj.1
      exact BitVec.add_sub_cancel _ _
    rw [e, nI_ltI (by omega) (by omega)] at h
    omega
  · exfalso
    have hn : ∀ k : Nat, k < 6 → Int32.ofNat k - 6 < 0 := by decide
    exact h (Int32.lt_of_lt_of_le (hn L (by omega)) (nI_pos' (by omega)))
section LG
variable {p : Program} {l : Launch} {e : Env} {s : State} {m : MethodId} {args : Array Value} {below : List Frame} {meth : Method} {c : Code} {H : Heap} {locs : List Loc} {cells slots : Nat} {Q : State → Prop} {D : va_G} {dA : Nat → ClassId} {ad0 ad1 : Nat → Nat} {ls : Array Slot} {a : ab}
theorem law_sw {b L i : Nat} {xs : Nat → Int32} (G : l_G p s m args c D dA ad0 ad1) (hX : va_X b L xs s s.heap) (hbl : b < s.heap.size) (h : l_H s D dA ad0 ad1 a a H locs) (hW : WF a) (hl : lv_has ls 4 [(0, .ref b), (1, .ref (ad0 0)), (2, .ref (ad1 0)), (3, .int (nI i))]) (hi : i + 6 ≤ L) (hL : L ≤ 384) (hce : cells ≤ room_1.cells) (hsl : slots ≤ room_1.slots) (kk : ∀ (a2 : ab) (H1 : Heap) (locs1 : List Loc), l_H s D dA ad0 ad1 a2 a2 H1 locs1 → W p l e room_1 s m args below meth c H1 locs1 cells slots Q (F0 m 1474 ls [])) (x : Int32) : W p l e room_1 s m args below meth c H locs cells slots Q (F0 m 33 ls [.int (x &&& 63)]) := by
  obtain ⟨hx, hb, -⟩ := id G
  obtain ⟨k, hk, ek⟩ := l_and63 x
  rw [ek]
  match k, hk with
  | 0, _ => exact lv_tableIn (off := 183) (tgt := 216) hx hb dL_law_33 (by decide +kernel) (by decide +kernel) rfl (by decide) (lc_0 G hX hbl h hW hl hi hL hce hsl kk)
  | 1, _ => exact lv_tableIn (off := 206) (tgt := 239) hx hb dL_law_33 (by decide +kernel) (by decide +kernel) rfl (by decide) (lc_1 G hX hbl h hW hl hi hL hce hsl kk)
  | 2, _ => exact lv_tableIn (off := 219) (tgt := 252) hx hb dL_law_33 (by decide +kernel) (by decide +kernel) rfl (by decide) (lc_2 G hX hbl h hW hl hi hL hce hsl kk)
  | 3, _ => exact lv_tableIn (off := 232) (tgt := 265) hx hb dL_law_33 (by decide +kernel) (by decide +kernel) rfl (by decide) (lc_3 G hX hbl h hW hl hi hL hce hsl kk)
  | 4, _ => exact lv_tableIn (off := 245) (tgt := 278) hx hb dL_law_33 (by decide +kernel) (by decide +kernel) rfl (by decide) (lc_4 G hX hbl h hW hl hi hL hce hsl kk)
  | 5, _ => exact lv_tableIn (off := 278) (tgt := 311) hx hb dL_law_33 (by decide +kernel) (by decide +kernel) rfl (by decide) (lc_5 G hX hbl h hW hl hi hL hce hsl kk)
  | 6, _ => exact lv_tableIn (off := 311) (tgt := 344) hx hb dL_law_33 (by decide +kernel) (by decide +kernel) rfl (by decide) (lc_6 G hX hbl h hW hl hi hL hce hsl kk)
  | 7, _ => exact lv_tableIn (off := 344) (tgt := 377) hx hb dL_law_33 (by decide +kernel) (by decide +kernel) rfl (by decide) (lc_7 G hX hbl h hW hl hi hL hce hsl kk)
  | 8, _ => exact lv_tableIn (off := 367) (tgt := 400) hx hb dL_law_33 (by decide +kernel) (by decide +kernel) rfl (by decide) (lc_8 G hX hbl h hW hl hi hL hce hsl kk)
  | 9, _ => exact lv_tableIn (off := 400) (tgt := 433) hx hb dL_law_33 (by decide +kernel) (by decide +kernel) rfl (by decide) (lc_9 G hX hbl h hW hl hi hL hce hsl kk)
  | 10, _ => exact lv_tableIn (off := 443) (tgt := 476) hx hb dL_law_33 (by decide +kernel) (by decide +kernel) rfl (by decide) (lc_10 G hX hbl h hW hl hi hL hce hsl kk)
  | 11, _ => exact lv_tableIn (off := 476) (tgt := 509) hx hb dL_law_33 (by decide +kernel) (by decide +kernel) rfl (by decide) (lc_11 G hX hbl h hW hl hi hL hce hsl kk)
  | 12, _ => exact lv_tableIn (off := 499) (tgt := 532) hx hb dL_law_33 (by decide +kernel) (by decide +kernel) rfl (by decide) (lc_12 G hX hbl h hW hl hi hL hce hsl kk)
  | 13, _ => exact lv_tableIn (off := 522) (tgt := 555) hx hb dL_law_33 (by decide +kernel) (by decide +kernel) rfl (by decide) (lc_13 G hX hbl h hW hl hi hL hce hsl kk)
  | 14, _ => exact lv_tableIn (off := 545) (tgt := 578) hx hb dL_law_33 (by decide +kernel) (by decide +kernel) rfl (by decide) (lc_14 G hX hbl h hW hl hi hL hce hsl kk)
  | 15, _ => exact lv_tableIn (off := 578) (tgt := 611) hx hb dL_law_33 (by decide +kernel) (by decide +kernel) rfl (by decide) (lc_15 G hX hbl h hW hl hi hL hce hsl kk)
  | 16, _ => exact lv_tableIn (off := 601) (tgt := 634) hx hb dL_law_33 (by decide +kernel) (by decide +kernel) rfl (by decide) (lc_16 G hX hbl h hW hl hi hL hce hsl kk)
  | 17, _ => exact lv_tableIn (off := 614) (tgt := 647) hx hb dL_law_33 (by decide +kernel) (by decide +kernel) rfl (by decide) (lc_17 G hX hbl h hW hl hi hL hce hsl kk)
  | 18, _ => exact lv_tableIn (off := 627) (tgt := 660) hx hb dL_law_33 (by decide +kernel) (by decide +kernel) rfl (by decide) (lc_18 G hX hbl h hW hl hi hL hce hsl kk)
  | 19, _ => exact lv_tableIn (off := 650) (tgt := 683) hx hb dL_law_33 (by decide +kernel) (by decide +kernel) rfl (by decide) (lc_19 G hX hbl h hW hl hi hL hce hsl kk)
  | 20, _ => exact lv_tableIn (off := 673) (tgt := 706) hx hb dL_law_33 (by decide +kernel) (by decide +kernel) rfl (by decide) (lc_20 G hX hbl h hW hl hi hL hce hsl kk)
  | 21, _ => exact lv_tableIn (off := 696) (tgt := 729) hx hb dL_law_33 (by decide +kernel) (by decide +kernel) rfl (by decide) (lc_21 G hX hbl h hW hl hi hL hce hsl kk)
  | 22, _ => exact lv_tableIn (off := 739) (tgt := 772) hx hb dL_law_33 (by decide +kernel) (by decide +kernel) rfl (by decide) (lc_22 G hX hbl h hW hl hi hL hce hsl kk)
  | 23, _ => exact lv_tableIn (off := 792) (tgt := 825) hx hb dL_law_33 (by decide +kernel) (by decide +kernel) rfl (by decide) (lc_23 G hX hbl h hW hl hi hL hce hsl kk)
  | 24, _ => exact lv_tableIn (off := 825) (tgt := 858) hx hb dL_law_33 (by decide +kernel) (by decide +kernel) rfl (by decide) (lc_24 G hX hbl h hW hl hi hL hce hsl kk)
  | 25, _ => exact lv_tableIn (off := 858) (tgt := 891) hx hb dL_law_33 (by decide +kernel) (by decide +kernel) rfl (by decide) (lc_25 G hX hbl h hW hl hi hL hce hsl kk)
  | 26, _ => exact lv_tableIn (off := 901) (tgt := 934) hx hb dL_law_33 (by decide +kernel) (by decide +kernel) rfl (by decide) (lc_26 G hX hbl h hW hl hi hL hce hsl kk)
  | 27, _ => exact lv_tableIn (off := 934) (tgt := 967) hx hb dL_law_33 (by decide +kernel) (by decide +kernel) rfl (by decide) (lc_27 G hX hbl h hW hl hi hL hce hsl kk)
  | 28, _ => exact lv_tableIn (off := 977) (tgt := 1010) hx hb dL_law_33 (by decide +kernel) (by decide +kernel) rfl (by decide) (lc_28 G hX hbl h hW hl hi hL hce hsl kk)
  | 29, _ => exact lv_tableIn (off := 1000) (tgt := 1033) hx hb dL_law_33 (by decide +kernel) (by decide +kernel) rfl (by decide) (lc_29 G hX hbl h hW hl hi hL hce hsl kk)
  | 30, _ => exact lv_tableIn (off := 1023) (tgt := 1056) hx hb dL_law_33 (by decide +kernel) (by decide +kernel) rfl (by decide) (lc_30 G hX hbl h hW hl hi hL hce hsl kk)
  | 31, _ => exact lv_tableIn (off := 1036) (tgt := 1069) hx hb dL_law_33 (by decide +kernel) (by decide +kernel) rfl (by decide) (lc_31 G hX hbl h hW hl hi hL hce hsl kk)
  | 32, _ => exact lv_tableIn (off := 1049) (tgt := 1082) hx hb dL_law_33 (by decide +kernel) (by decide +kernel) rfl (by decide) (lc_32 G hX hbl h hW hl hi hL hce hsl kk)
  | 33, _ => exact lv_tableIn (off := 1113) (tgt := 1146) hx hb dL_law_33 (by decide +kernel) (by decide +kernel) rfl (by decide) (lc_33 G hX hbl h hW hl hi hL hce hsl kk)
  | 34, _ => exact lv_tableIn (off := 1156) (tgt := 1189) hx hb dL_law_33 (by decide +kernel) (by decide +kernel) rfl (by decide) (lc_34 G hX hbl h hW hl hi hL hce hsl kk)
  | 35, _ => exact lv_tableIn (off := 1199) (tgt := 1232) hx hb dL_law_33 (by decide +kernel) (by decide +kernel) rfl (by decide) (lc_35 G hX hbl h hW hl hi hL hce hsl kk)
  | 36, _ => exact lv_tableIn (off := 1222) (tgt := 1255) hx hb dL_law_33 (by decide +kernel) (by decide +kernel) rfl (by decide) (lc_36 G hX hbl h hW hl hi hL hce hsl kk)
  | 37, _ => exact lv_tableIn (off := 1275) (tgt := 1308) hx hb dL_law_33 (by decide +kernel) (by decide +kernel) rfl (by decide) (lc_37 G hX hbl h hW hl hi hL hce hsl kk)
  | 38, _ => exact lv_tableIn (off := 1318) (tgt := 1351) hx hb dL_law_33 (by decide +kernel) (by decide +kernel) rfl (by decide) (lc_38 G hX hbl h hW hl hi hL hce hsl kk)
  | 39, _ => exact lv_tableIn (off := 1381) (tgt := 1414) hx hb dL_law_33 (by decide +kernel) (by decide +kernel) rfl (by decide) (lc_39 G hX hbl h hW hl hi hL hce hsl kk)
  | 40, _ => exact lv_tableIn (off := 1404) (tgt := 1437) hx hb dL_law_33 (by decide +kernel) (by decide +kernel) rfl (by decide) (lc_40 G hX hbl h hW hl hi hL hce hsl kk)
  | 41, _ => exact lv_tableIn (off := 1427) (tgt := 1460) hx hb dL_law_33 (by decide +kernel) (by decide +kernel) rfl (by decide) (lc_41 G hX hbl h hW hl hi hL hce hsl kk)
  | k + 42, hk =>
    refine lv_tableOut (tgt := 1474) hx hb dL_law_33 (Or.inr ?_) (by decide) (kk a H locs h)
    rw [nI_toInt (by omega)]
    omega
end LG
section LH
variable {p : Program} {l : Launch} {e : Env} {s : State} {m : MethodId} {below : List Frame} {meth : Method} {c : Code} {D : va_G} {dA : Nat → ClassId} {ad0 ad1 : Nat → Nat}
theorem law_loop {b L : Nat} {xs : Nat → Int32} (hL : L ≤ 384) (hr : meth.sig.returnType = ret) (hlocks : meth.locks = false) (G : l_G p s m #[Value.ref b] c D dA ad0 ad1) (hX : va_X b L xs s s.heap) (hbl : b < s.heap.size) : ∀ (n i : Nat) (a : ab) (H : Heap) (locs : List Loc) (ls : Array Slot), L < i + n → i ≤ L → l_H s D dA ad0 ad1 a a H locs → lv_has ls 4 [(0, .ref b), (1, .ref (ad0 0)), (2, .ref (ad1 0)), (3, .int (nI i))] → W p l e room_1 s m #[Value.ref b] below meth c H locs 600000 7302250 (lw_Z below #[Value.ref b] s) (F0 m 18 ls []) := by
  intro n
  induction n with
  | zero => intro i a H locs ls h1 h2; omega
  | succ n ih =>
    intro i a H locs ls hn hi h hl
    obtain ⟨hx, hb, -⟩ := id G
    obtain ⟨σ0, σ1, I0, I1, hP0, hP1, hS⟩ := id h
    refine lv_iload_n hx hb dL_law_18 rfl (lv_at hl 3 rfl) ?_
    refine lv_aload_n hx hb dL_law_19 rfl (lv_at hl 0 rfl) ?_
    refine va_slen hx hb hX hbl (Nat.not_le.mpr hbl) hS dL_law_20 ?_
    refine lv_bipush (v := 6) hx hb dL_law_21 (by decide) ?_
    refine lv_isub hx hb dL_law_23 ?_
    refine lv_icmp_gt (tgt := 1480) hx hb dL_law_24 (by decide) (fun _ => ?_) (fun c1 => ?_)
    · refine lv_iconst (v := 1) hx hb dL_law_1480 (by decide) ?_
      refine va_forget (fun q hq => hS.2.2 q hq) ?_
      exact lw_ret hx hb hr hlocks dL_law_1481
    · have h6 : i + 6 ≤ L := l_six hL hi c1
      have next : ∀ (a2 : ab) (H1 : Heap) (locs1 : List Loc), l_H s D dA ad0 ad1 a2 a2 H1 locs1 → W p l e room_1 s m #[Value.ref b] below meth c H1 locs1 600000 7302250 (lw_Z below #[Value.ref b] s) (F0 m 1474 ls []) := by
        intro a2 H1 locs1 h2
        refine lv_iinc (v := nI (i + 6)) (lv' := [(3, .int (nI (i + 6))), (0, .ref b), (1, .ref (ad0 0)), (2, .ref (ad1 0))]) hx hb dL_law_1474 hl (k := 3) rfl (nI_add i 6) (by decide) rfl (fun ls hl => ?_)
        refine lv_goto (tgt := 18) hx hb dL_law_1477 (by decide) ?_
        exact ih (i + 6) a2 H1 locs1 ls (by omega) (by omega) h2 (lv_sub hl [1, 2, 3, 0] rfl)
      refine lv_aload_n hx hb dL_law_27 rfl (lv_at hl 0 rfl) ?_
      refine lv_iload_n hx hb dL_law_28 rfl (lv_at hl 3 rfl) ?_
      refine va_sld hx hb hX hbl (Nat.not_le.mpr hbl) hS (vp_in_nI (show i < L by omega) (by omega)) dL_law_29 ?_
      rw [nI_clamp (by omega)]
      refine lv_bipush (v := 63) hx hb dL_law_30 (by decide) ?_
      refine lv_iand hx hb dL_law_32 ?_
      exact law_sw G hX hbl h I0.1 hl h6 hL (Nat.le_refl _) (Nat.le_refl _) next (xs i)
end LH
