/-! ===== the law: a number of the script ===== -/
section LE
variable {p : Program} {l : Launch} {e : Env} {R : Room} {s : State} {m : MethodId} {args : Array Value} {below : List Frame} {meth : Method} {c : Code} {H : Heap} {locs : List Loc} {cells slots : Nat} {Q : State → Prop} {D : va_G} {dA : Nat → ClassId} {ad0 ad1 : Nat → Nat} {pc : Nat} {ls : Array Slot} {st : List Value} {a5 a6 : ab}
theorem l_arg {b L i j h1 h2 : Nat} {xs : Nat → Int32} {z : Int} (G : l_G p s m args c D dA ad0 ad1) (hX : va_X b L xs s s.heap) (hbl : b < s.heap.size) (h : l_H s D dA ad0 ad1 a5 a6 H locs) (hl : lv_has ls 4 [(0, .ref b), (1, .ref h1), (2, .ref h2), (3, .int (nI i))]) (hi : i + 6 ≤ L) (hL : L ≤ 384) (hj : j < 6) (hz : Int32.ofInt z = nI j) (d0 : decode code pc = .ok (.aload_n 0, 1)) (d1 : decode code (pc + 1) = .ok (.iload_n 3, 1)) (d2 : decode code (pc + 2) = .ok (.iconst z, 1)) (d3 : decode code (pc + 3) = .ok (.iadd, 1)) (d4 : decode code (pc + 4) = .ok (.iaload, 1))
    (kk : W p l e R s m args below meth c H locs cells slots Q (F0 m (pc + 5) ls (.int (xs (i + j)) :: st))) : W p l e R s m args below meth c H locs cells slots Q (F0 m pc ls st) := by
  obtain ⟨hx, hb, hml, hown, hts, hK, hi0, hi1, hSt, hA0, hA1, hap⟩ := G
  obtain ⟨σ0, σ1, I0, I1, hP0, hP1, hS⟩ := h
  refine lv_aload_n hx hb d0 rfl (lv_at hl 0 rfl) ?_
  refine lv_iload_n hx hb d1 rfl (lv_at hl 3 rfl) ?_
  refine lv_iconst (v := nI j) hx hb d2 hz ?_
  refine lv_iadd hx hb d3 ?_
  rw [nI_add]
  refine va_sld hx hb hX hbl (Nat.not_le.mpr hbl) hS (vp_in_nI (show i + j < L by omega) (by omega)) d4 ?_
  rw [nI_clamp (by omega)]
  exact kk
end LE
