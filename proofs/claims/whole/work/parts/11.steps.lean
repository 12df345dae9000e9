/-! ===== instructions that leave the store: one function, one theorem ===== -/
def r_len : Instr → Nat
  | .iload _ => 2
  | .lload _ => 2
  | .aload _ => 2
  | .istore _ => 2
  | .lstore _ => 2
  | .astore _ => 2
  | .bipush _ => 2
  | .sipush _ => 3
  | .iinc _ _ => 3
  | .goto _ => 3
  | .ifnonnull _ => 3
  | .ifCond _ _ => 3
  | .if_icmp _ _ => 3
  | _ => 1
def r_to (pc : Nat) (off : Int) : Option Nat := match (pc : Int) + off with
  | .ofNat t => some t
  | .negSucc _ => none
theorem r_to_eq {pc t : Nat} {off : Int} (h : r_to pc off = some t) : (pc : Int) + off = (t : Int) := by
  unfold r_to at h
  split at h
  · rename_i t' e
    cases h
    exact e
  · cases h
def r_lI (lv : r_Lv) (st : List Value) (i n : Nat) : Option (Nat × r_Lv × List Value) := match r_get lv i with
  | some (.int x) => some (n, lv, .int x :: st)
  | _ => none
def r_lL (lv : r_Lv) (st : List Value) (i n : Nat) : Option (Nat × r_Lv × List Value) := match r_get lv i with
  | some (.long x) => some (n, lv, .long x :: st)
  | _ => none
def r_lA (lv : r_Lv) (st : List Value) (i n : Nat) : Option (Nat × r_Lv × List Value) := match r_get lv i with
  | some (.ref x) => some (n, lv, .ref x :: st)
  | some .null => some (n, lv, .null :: st)
  | _ => none
def r_sI (nL : Nat) (lv : r_Lv) (st : List Value) (i n : Nat) : Option (Nat × r_Lv × List Value) := match st with
  | .int x :: t => if i < nL then some (n, r_set1 lv i (.int x), t) else none
  | _ => none
def r_sL (nL : Nat) (lv : r_Lv) (st : List Value) (i n : Nat) : Option (Nat × r_Lv × List Value) := match st with
  | .long x :: t => if i + 1 < nL then some (n, r_set2 lv i (.long x), t) else none
  | _ => none
def r_sA (nL : Nat) (lv : r_Lv) (st : List Value) (i n : Nat) : Option (Nat × r_Lv × List Value) := match st with
  | .ref x :: t => if i < nL then some (n, r_set1 lv i (.ref x), t) else none
  | .null :: t => if i < nL then some (n, r_set1 lv i .null, t) else none
  | _ => none
def r_bI (n : Nat) (lv : r_Lv) (st : List Value) (f : Int32 → Int32 → Int32) : Option (Nat × r_Lv × List Value) := match st with
  | .int y :: .int x :: t => some (n, lv, .int (f x y) :: t)
  | _ => none
def r_bL (n : Nat) (lv : r_Lv) (st : List Value) (f : Int64 → Int64 → Int64) : Option (Nat × r_Lv × List Value) := match st with
  | .long y :: .long x :: t => some (n, lv, .long (f x y) :: t)
  | _ => none
def r_bS (n : Nat) (lv : r_Lv) (st : List Value) (f : Int64 → Int32 → Int64) : Option (Nat × r_Lv × List Value) := match st with
  | .int y :: .long x :: t => some (n, lv, .long (f x y) :: t)
  | _ => none
def r_uI (n : Nat) (lv : r_Lv) (st : List Value) (f : Int32 → Int32) : Option (Nat × r_Lv × List Value) := match st with
  | .int x :: t => some (n, lv, .int (f x) :: t)
  | _ => none
def r_step (nL pc : Nat) (lv : r_Lv) (st : List Value) : Instr → Option (Nat × r_Lv × List Value)
  | .iconst n => some (pc + 1, lv, .int (Int32.ofInt n) :: st)
  | .bipush n => some (pc + 2, lv, .int (Int8.ofInt n).toInt32 :: st)
  | .sipush n => some (pc + 3, lv, .int (Int16.ofInt n).toInt32 :: st)
  | .lconst n => some (pc + 1, lv, .long (Int64.ofNat (n : Nat)) :: st)
  | .aconst_null => some (pc + 1, lv, .null :: st)
  | .iload i => r_lI lv st i (pc + 2)
  | .iload_n k => r_lI lv st (k : Nat) (pc + 1)
  | .lload i => r_lL lv st i (pc + 2)
  | .lload_n k => r_lL lv st (k : Nat) (pc + 1)
  | .aload i => r_lA lv st i (pc + 2)
  | .aload_n k => r_lA lv st (k : Nat) (pc + 1)
  | .istore i => r_sI nL lv st i (pc + 2)
  | .istore_n k => r_sI nL lv st (k : Nat) (pc + 1)
  | .lstore i => r_sL nL lv st i (pc + 2)
  | .lstore_n k => r_sL nL lv st (k : Nat) (pc + 1)
  | .astore i => r_sA nL lv st i (pc + 2)
  | .astore_n k => r_sA nL lv st (k : Nat) (pc + 1)
  | .iinc i n => match r_get lv i with
    | some (.int x) => if i < nL then some (pc + 3, r_set1 lv i (.int (x + Int32.ofInt n)), st) else none
    | _ => none
  | .iadd => r_bI (pc + 1) lv st fun x y => x + y
  | .isub => r_bI (pc + 1) lv st fun x y => x - y
  | .imul => r_bI (pc + 1) lv st fun x y => x * y
  | .iand => r_bI (pc + 1) lv st fun x y => x &&& y
  | .ior => r_bI (pc + 1) lv st fun x y => x ||| y
  | .ixor => r_bI (pc + 1) lv st fun x y => x ^^^ y
  | .ishl => r_bI (pc + 1) lv st fun x y => x <<< (y &&& 31)
  | .ishr => r_bI (pc + 1) lv st fun x y => x >>> (y &&& 31)
  | .iushr => r_bI (pc + 1) lv st fun x y => (x.toUInt32 >>> (y.toUInt32 &&& Int32.toUInt32 31)).toInt32
  | .ladd => r_bL (pc + 1) lv st fun x y => x + y
  | .lsub => r_bL (pc + 1) lv st fun x y => x - y
  | .lmul => r_bL (pc + 1) lv st fun x y => x * y
  | .land => r_bL (pc + 1) lv st fun x y => x &&& y
  | .lor => r_bL (pc + 1) lv st fun x y => x ||| y
  | .lxor => r_bL (pc + 1) lv st fun x y => x ^^^ y
  | .lushr => r_bS (pc + 1) lv st fun x y => (x.toUInt64 >>> (y.toInt64.toUInt64 &&& Int64.toUInt64 63)).toInt64
  | .lshl => r_bS (pc + 1) lv st fun x y => x <<< (y.toInt64 &&& 63)
  | .lshr => r_bS (pc + 1) lv st fun x y => x >>> (y.toInt64 &&& 63)
  | .i2b => r_uI (pc + 1) lv st fun x => x.toInt8.toInt32
  | .i2s => r_uI (pc + 1) lv st fun x => x.toInt16.toInt32
  | .i2l => match st with
    | .int x :: t => some (pc + 1, lv, .long x.toInt64 :: t)
    | _ => none
  | .l2i => match st with
    | .long x :: t => some (pc + 1, lv, .int x.toInt32 :: t)
    | _ => none
  | .lcmp => match st with
    | .long y :: .long x :: t => some (pc + 1, lv, .int (lg_cmp x y) :: t)
    | _ => none
  | .dup => match st with
    | .int x :: t => some (pc + 1, lv, .int x :: .int x :: t)
    | .ref x :: t => some (pc + 1, lv, .ref x :: .ref x :: t)
    | _ => none
  | .dup2 => match st with
    | .int x :: .ref y :: t => some (pc + 1, lv, .int x :: .ref y :: .int x :: .ref y :: t)
    | _ => none
  | .pop => match st with
    | .int _ :: t => some (pc + 1, lv, t)
    | _ => none
  | .goto off => match r_to pc off with
    | some t => some (t, lv, st)
    | none => none
  | .ifnonnull off => match st with
    | .ref _ :: rest => match r_to pc off with
      | some t => some (t, lv, rest)
      | none => none
    | .null :: rest => some (pc + 3, lv, rest)
    | _ => none
  | _ => none
section RS
variable {z d : Nat} {μ : r_Mt} {pc : Nat} {lv : r_Lv} {st : List Value} {σ : r_St} {Q : Option Value → r_St → Prop}
set_option maxHeartbeats 4000000 in
theorem RR.s {i : Instr} {q : Nat × r_Lv × List Value} (hd : decode μ.2.1 pc = .ok (i, r_len i)) (hs : r_step μ.2.2.1 pc lv st i = some q) (h : RR z d μ q.1 q.2.1 q.2.2 σ Q) : RR z d μ pc lv st σ Q := by
  intro p l e R s m args below meth c H locs cells slots Z D dA ad ls hC hH hL hF
  have hx := hC.1
  have hb := hC.2.1
  have go : ∀ {pc' : Nat} {lv' : r_Lv} {st' : List Value} {ls' : Array Slot}, some (pc', lv', st') = some q → lv_has ls' μ.2.2.1 (lv'.map (r_rl ad)) → W p l e R s m args below meth c H locs cells slots Z (F0 m pc' ls' (st'.map (r_rv ad))) := by
    intro pc' lv' st' ls' e1 h1
    cases e1
    exact h p l e R s m args below meth c H locs cells slots Z D dA ad ls' hC hH h1 hF
  cases i with
  | iconst n => exact lv_iconst hx hb hd rfl (go hs hL)
  | bipush n => exact lv_bipush hx hb hd rfl (go hs hL)
  | sipush n => exact lv_sipush hx hb hd rfl (go hs hL)
  | lconst n => exact lv_lconst hx hb hd rfl (go hs hL)
  | aconst_null => exact lv_null hx hb hd (go hs hL)
  | iload i =>
    simp only [r_step, r_lI] at hs
    split at hs
    · rename_i x hg
      exact lv_iload hx hb hd (r_lat hL hg) (go hs hL)
    · cases hs
  | iload_n k =>
    simp only [r_step, r_lI] at hs
    split at hs
    · rename_i x hg
      exact lv_iload_n hx hb hd rfl (r_lat hL hg) (go hs hL)
    · cases hs
  | lload i =>
    simp only [r_step, r_lL] at hs
    split at hs
    · rename_i x hg
      exact lv_lload hx hb hd (r_lat hL hg) (go hs hL)
    · cases hs
  | lload_n k =>
    simp only [r_step, r_lL] at hs
    split at hs
    · rename_i x hg
      exact lv_lload_n hx hb hd rfl (r_lat hL hg) (go hs hL)
    · cases hs
  | aload i =>
    simp only [r_step, r_lA] at hs
    split at hs
    · rename_i x hg
      exact lv_aload hx hb hd (r_lat hL hg) (go hs hL)
    · rename_i hg
      exact lv_aloadN hx hb hd (r_lat hL hg) (go hs hL)
    · cases hs
  | aload_n k =>
    simp only [r_step, r_lA] at hs
    split at hs
    · rename_i x hg
      exact lv_aload_n hx hb hd rfl (r_lat hL hg) (go hs hL)
    · rename_i hg
      exact lv_aload_nN hx hb hd rfl (r_lat hL hg) (go hs hL)
    · cases hs
  | istore i =>
    simp only [r_step, r_sI] at hs
    split at hs
    · split at hs
      · rename_i hn
        exact lv_istore hx hb hd hL hn rfl (fun ls' h' => go hs (r_lv1 (v := .int _) h'))
      · cases hs
    · cases hs
  | istore_n k =>
    simp only [r_step, r_sI] at hs
    split at hs
    · split at hs
      · rename_i hn
        exact lv_istore_n hx hb hd rfl hL hn rfl (fun ls' h' => go hs (r_lv1 (v := .int _) h'))
      · cases hs
    · cases hs
  | lstore i =>
    simp only [r_step, r_sL] at hs
    split at hs
    · split at hs
      · rename_i hn
        exact lv_lstore hx hb hd hL hn rfl (fun ls' h' => go hs (r_lv2 (v := .long _) h'))
      · cases hs
    · cases hs
  | lstore_n k =>
    simp only [r_step, r_sL] at hs
    split at hs
    · split at hs
      · rename_i hn
        exact lv_lstore_n hx hb hd rfl hL hn rfl (fun ls' h' => go hs (r_lv2 (v := .long _) h'))
      · cases hs
    · cases hs
  | astore i =>
    simp only [r_step, r_sA] at hs
    split at hs
    · split at hs
      · rename_i hn
        exact lv_astore hx hb hd hL hn rfl (fun ls' h' => go hs (r_lv1 (v := .ref _) h'))
      · cases hs
    · split at hs
      · rename_i hn
        exact lv_astoreN hx hb hd hL hn rfl (fun ls' h' => go hs (r_lv1 (v := .null) h'))
      · cases hs
    · cases hs
  | astore_n k =>
    simp only [r_step, r_sA] at hs
    split at hs
    · split at hs
      · rename_i hn
        exact lv_astore_n hx hb hd rfl hL hn rfl (fun ls' h' => go hs (r_lv1 (v := .ref _) h'))
      · cases hs
    · split at hs
      · rename_i hn
        exact lv_astore_nN hx hb hd rfl hL hn rfl (fun ls' h' => go hs (r_lv1 (v := .null) h'))
      · cases hs
    · cases hs
  | iinc i n =>
    simp only [r_step] at hs
    split at hs
    · rename_i x hg
      split at hs
      · rename_i hn
        obtain ⟨k, hk⟩ := List.getElem?_of_mem (List.mem_map.mpr ⟨(i, Value.int x), r_get_mem hg, rfl⟩ : (i, Value.int x) ∈ lv.map (r_rl ad))
        exact lv_iinc hx hb hd hL hk rfl hn rfl (fun ls' h' => go hs (r_lv1 (v := .int _) h'))
      · cases hs
    · cases hs
  | iadd => simp only [r_step, r_bI] at hs; split at hs <;> first | exact lv_iadd hx hb hd (go hs hL) | cases hs
  | isub => simp only [r_step, r_bI] at hs; split at hs <;> first | exact lv_isub hx hb hd (go hs hL) | cases hs
  | imul => simp only [r_step, r_bI] at hs; split at hs <;> first | exact lv_imul hx hb hd (go hs hL) | cases hs
  | iand => simp only [r_step, r_bI] at hs; split at hs <;> first | exact lv_iand hx hb hd (go hs hL) | cases hs
  | ior => simp only [r_step, r_bI] at hs; split at hs <;> first | exact lv_ior hx hb hd (go hs hL) | cases hs
  | ixor => simp only [r_step, r_bI] at hs; split at hs <;> first | exact lv_ixor hx hb hd (go hs hL) | cases hs
  | ishl => simp only [r_step, r_bI] at hs; split at hs <;> first | exact lv_ishl hx hb hd (go hs hL) | cases hs
  | ishr => simp only [r_step, r_bI] at hs; split at hs <;> first | exact lv_ishr hx hb hd (go hs hL) | cases hs
  | iushr => simp only [r_step, r_bI] at hs; split at hs <;> first | exact lv_iushr hx hb hd rfl (go hs hL) | cases hs
  | ladd => simp only [r_step, r_bL] at hs; split at hs <;> first | exact lv_ladd hx hb hd (go hs hL) | cases hs
  | lsub => simp only [r_step, r_bL] at hs; split at hs <;> first | exact lv_lsub hx hb hd (go hs hL) | cases hs
  | lmul => simp only [r_step, r_bL] at hs; split at hs <;> first | exact lv_lmul hx hb hd (go hs hL) | cases hs
  | land => simp only [r_step, r_bL] at hs; split at hs <;> first | exact lv_land hx hb hd (go hs hL) | cases hs
  | lor => simp only [r_step, r_bL] at hs; split at hs <;> first | exact lv_lor hx hb hd (go hs hL) | cases hs
  | lxor => simp only [r_step, r_bL] at hs; split at hs <;> first | exact lv_lxor hx hb hd (go hs hL) | cases hs
  | lushr => simp only [r_step, r_bS] at hs; split at hs <;> first | exact lv_lushr hx hb hd rfl (go hs hL) | cases hs
  | lshl => simp only [r_step, r_bS] at hs; split at hs <;> first | exact lv_lshl hx hb hd rfl (go hs hL) | cases hs
  | lshr => simp only [r_step, r_bS] at hs; split at hs <;> first | exact lv_lshr hx hb hd rfl (go hs hL) | cases hs
  | i2b => simp only [r_step, r_uI] at hs; split at hs <;> first | exact lv_i2b hx hb hd rfl (go hs hL) | cases hs
  | i2s => simp only [r_step, r_uI] at hs; split at hs <;> first | exact lv_i2s hx hb hd rfl (go hs hL) | cases hs
  | i2l => simp only [r_step] at hs; split at hs <;> first | exact lv_i2l hx hb hd rfl (go hs hL) | cases hs
  | l2i => simp only [r_step] at hs; split at hs <;> first | exact lv_l2i hx hb hd rfl (go hs hL) | cases hs
  | lcmp => simp only [r_step] at hs; split at hs <;> first | exact W.lcmp hx hb hd (go hs hL) | cases hs
  | dup => simp only [r_step] at hs; split at hs <;> first | exact lv_dup (va := .int _) hx hb hd rfl (go hs hL) | exact lv_dup (va := .ref _) hx hb hd rfl (go hs hL) | cases hs
  | dup2 => simp only [r_step] at hs; split at hs <;> first | exact lv_dup2_11 (va := .int _) (vb := .ref _) hx hb hd rfl rfl (go hs hL) | cases hs
  | pop => simp only [r_step] at hs; split at hs <;> first | exact lv_pop (va := .int _) hx hb hd rfl (go hs hL) | cases hs
  | goto off =>
    simp only [r_step] at hs
    split at hs
    · rename_i t ht
      exact lv_goto hx hb hd (r_to_eq ht) (go hs hL)
    · cases hs
  | ifnonnull off =>
    simp only [r_step] at hs
    split at hs
    · split at hs
      · rename_i t ht
        exact lv_ifnonnull hx hb hd (r_to_eq ht) (go hs hL)
      · cases hs
    · exact lv_ifnonnullN hx hb hd (go hs hL)
    · cases hs
  | _ => cases hs
def r_br (pc : Nat) (st : List Value) : Instr → Option (Prop × Nat × List Value)
  | .ifCond o off => match st, r_to pc off with
    | .int x :: t, some n => match o with
      | .eq => some (x = 0, n, t)
      | .ne => some (¬ x = 0, n, t)
      | .lt => some (x < 0, n, t)
      | .ge => some (0 ≤ x, n, t)
      | .gt => some (0 < x, n, t)
      | .le => some (x ≤ 0, n, t)
    | _, _ => none
  | .if_icmp o off => match st, r_to pc off with
    | .int y :: .int x :: t, some n => match o with
      | .eq => some (x = y, n, t)
      | .ne => some (¬ x = y, n, t)
      | .lt => some (x < y, n, t)
      | .ge => some (y ≤ x, n, t)
      | .gt => some (y < x, n, t)
      | .le => some (x ≤ y, n, t)
    | _, _ => none
  | _ => none
set_option maxHeartbeats 4000000 in
theorem RR.br {i : Instr} {P : Prop} {t : Nat} {rest : List Value} (hd : decode μ.2.1 pc = .ok (i, r_len i)) (hs : r_br pc st i = some (P, t, rest)) (kt : P → RR z d μ t lv rest σ Q) (kf : ¬ P → RR z d μ (pc + 3) lv rest σ Q) : RR z d μ pc lv st σ Q := by
  intro p l e R s m args below meth c H locs cells slots Z D dA ad ls hC hH hL hF
  have hx := hC.1
  have hb := hC.2.1
  have g1 : P → W p l e R s m args below meth c H locs cells slots Z (F0 m t ls (rest.map (r_rv ad))) := fun q => kt q p l e R s m args below meth c H locs cells slots Z D dA ad ls hC hH hL hF
  have g2 : ¬ P → W p l e R s m args below meth c H locs cells slots Z (F0 m (pc + 3) ls (rest.map (r_rv ad))) := fun q => kf q p l e R s m args below meth c H locs cells slots Z D dA ad ls hC hH hL hF
  cases i with
  | ifCond o off =>
    simp only [r_br] at hs
    split at hs
    · rename_i x t' n ht
      cases o <;> cases hs
      · exact lv_if_eq hx hb hd (r_to_eq ht) g1 g2
      · exact lv_if_ne hx hb hd (r_to_eq ht) g1 (fun q => g2 (fun q2 => q2 q))
      · exact lv_if_lt hx hb hd (r_to_eq ht) g1 g2
      · exact lv_if_ge hx hb hd (r_to_eq ht) g1 g2
      · exact lv_if_gt hx hb hd (r_to_eq ht) g1 g2
      · exact lv_if_le hx hb hd (r_to_eq ht) g1 g2
    · cases hs
  | if_icmp o off =>
    simp only [r_br] at hs
    split at hs
    · rename_i y x t' n ht
      cases o <;> cases hs
      · exact lv_icmp_eq hx hb hd (r_to_eq ht) g1 g2
      · exact lv_icmp_ne hx hb hd (r_to_eq ht) g1 (fun q => g2 (fun q2 => q2 q))
      · exact lv_icmp_lt hx hb hd (r_to_eq ht) g1 g2
      · exact lv_icmp_ge hx hb hd (r_to_eq ht) g1 g2
      · exact lv_icmp_gt hx hb hd (r_to_eq ht) g1 g2
      · exact lv_icmp_le hx hb hd (r_to_eq ht) g1 g2
    · cases hs
  | _ => cases hs
end RS
