/-! ===== a pure picture of the machine: words, cells, the judgement RR ===== -/
def pw_nest : Cond → Bool
  | .methodLinkNest _ _ _ _ => true
  | _ => false
def pw_ok (w : Cond) : Bool := goodWord w || pw_nest w
def pw_wl : List Cond := lw_tbl.filter pw_ok
theorem pw_in {w : Cond} (i : Nat) (h : lw_tbl[i]? = some w) (h2 : pw_ok w = true) : w ∈ pw_wl := List.mem_filter.mpr ⟨List.mem_of_getElem? h, h2⟩
theorem pw_good {w : Cond} (h : w ∈ pw_wl) : pw_ok w = true := (List.mem_filter.mp h).2
theorem pw_warm {args a' : Array Value} {s U : State} (hW : s.WarmedH U.vm) {w : Cond} (hw : pw_ok w = true) (h : w.before args s = true) : w.before a' U = true := by
  unfold pw_ok at hw
  rcases Bool.or_eq_true_iff.mp hw with h1 | h1
  · exact word_at hW (good_of_word h1) h
  · cases w with
    | methodLinkNest a b x y => exact va_Nw.use rfl (va_Nw.warmM hW (va_Nw.of rfl h))
    | _ => simp [pw_nest] at h1
abbrev r_St : Type := (Nat → Nat → Int32) × (Nat → Int64)
abbrev r_Lv : Type := List (Nat × Value)
abbrev r_Kd : Type := (Nat × List (Option Nat)) ⊕ (Nat × Nat × List Nat)
abbrev r_Mt : Type := MethodName × ByteArray × Nat × Option FieldType
/-- the store after one int is written: cell k, place j -/
def wI (σ : r_St) (k j : Nat) (v : Int32) : r_St := (fun a => if a = k then upd (σ.1 k) j v else σ.1 a, σ.2)
def wL (σ : r_St) (j : Nat) (v : Int64) : r_St := (σ.1, vp_updL σ.2 j v)
def r_rv (ad : Nat → Nat) : Value → Value
  | .ref k => .ref (ad k)
  | v => v
def r_rl (ad : Nat → Nat) (q : Nat × Value) : Nat × Value := (q.1, r_rv ad q.2)
theorem r_rv_cat (ad : Nat → Nat) (v : Value) : (r_rv ad v).category = v.category := by cases v <;> rfl
def r_fs (ad : Nat → Nat) (f : Nat → Int32) : Nat → List (Option Nat) → List Value
  | _, [] => []
  | j, some r :: t => .ref (ad r) :: r_fs ad f (j + 1) t
  | j, none :: t => .int (f j) :: r_fs ad f (j + 1) t
def r_en (ad : Nat → Nat) (dA : Nat → ClassId) (σ : r_St) (k : Nat) (q : r_Kd) : va_E := match q with
  | .inl o => .inr (o.1, r_fs ad (σ.1 k) 0 o.2)
  | .inr (0, n, _) => .inl (dA 0, n, .inl (σ.1 k))
  | .inr (1, n, _) => .inl (dA 1, n, .inr (.inl σ.2))
  | .inr (2, n, _) => .inl (dA 2, n, .inl (σ.1 k))
  | .inr (_, n, es) => .inl (dA 3, n, .inr (.inr (.inr (.inr fun j => (es[j]?).map ad))))
def r_wl (ad : Nat → Nat) (dA : Nat → ClassId) (σ : r_St) (L : List r_Kd) : va_W := L.mapIdx fun k q => (ad k, r_en ad dA σ k q)
theorem r_wl_at {ad : Nat → Nat} {dA : Nat → ClassId} {σ : r_St} {L : List r_Kd} {k : Nat} {q : r_Kd} (h : L[k]? = some q) : (r_wl ad dA σ L)[k]? = some (ad k, r_en ad dA σ k q) := by
  unfold r_wl
  rw [List.getElem?_mapIdx, h]
  rfl
theorem r_wl_of {ad : Nat → Nat} {dA : Nat → ClassId} {σ : r_St} {L : List r_Kd} {k : Nat} {x : Nat × va_E} (h : (r_wl ad dA σ L)[k]? = some x) : k < L.length ∧ x.1 = ad k := by
  unfold r_wl at h
  rw [List.getElem?_mapIdx] at h
  cases hq : L[k]? with
  | none => rw [hq] at h; cases h
  | some q =>
    rw [hq] at h
    cases h
    exact ⟨(List.getElem?_eq_some_iff.mp hq).1, rfl⟩
def r_vf (ad : Nat → Nat) (f : Nat → Int32) (j : Nat) : Option Nat → Value
  | some r => .ref (ad r)
  | none => .int (f j)
theorem r_fs_at {ad : Nat → Nat} {f : Nat → Int32} : ∀ (l : List (Option Nat)) (i j : Nat) {o : Option Nat}, l[j]? = some o → (r_fs ad f i l)[j]? = some (r_vf ad f (i + j) o) := by
  intro l
  induction l with
  | nil => intro i j o h; simp at h
  | cons a t ih =>
    intro i j o h
    cases j with
    | zero =>
      simp at h
      subst h
      cases a <;> rfl
    | succ j =>
      have h1 : t[j]? = some o := by simpa using h
      have h2 := ih (i + 1) j h1
      have e : i + (j + 1) = i + 1 + j := by omega
      rw [e]
      cases a <;> simpa [r_fs] using h2
theorem r_fs_len {ad : Nat → Nat} {f : Nat → Int32} : ∀ (l : List (Option Nat)) (i : Nat), (r_fs ad f i l).length = l.length := by
  intro l
  induction l with
  | nil => intro i; rfl
  | cons a t ih => intro i; cases a <;> simp [r_fs, ih]
theorem r_fs_set {ad : Nat → Nat} {f : Nat → Int32} {v : Int32} : ∀ (l : List (Option Nat)) (i j : Nat), l[j]? = some none → (r_fs ad f i l).set j (.int v) = r_fs ad (upd f (i + j) v) i l := by
  intro l i j h
  apply List.ext_getElem?
  intro n
  rw [List.getElem?_set]
  by_cases hn : j = n
  · subst hn
    have hl : j < l.length := (List.getElem?_eq_some_iff.mp h).1
    rw [if_pos rfl, r_fs_len, if_pos hl, r_fs_at l i j h]
    simp [r_vf, upd]
  · rw [if_neg hn]
    cases ho : l[n]? with
    | none =>
      have hl : l.length ≤ n := by simpa using ho
      rw [List.getElem?_eq_none (by rw [r_fs_len]; exact hl), List.getElem?_eq_none (by rw [r_fs_len]; exact hl)]
    | some o =>
      rw [r_fs_at l i n ho, r_fs_at l i n ho]
      cases o with
      | some r => rfl
      | none =>
        have e : ¬ n = j := fun x => hn x.symm
        simp [r_vf, upd, e]
theorem r_wl_set {ad : Nat → Nat} {dA : Nat → ClassId} {σ σ' : r_St} {L : List r_Kd} {k : Nat} {q : r_Kd} {e : va_E} (h : L[k]? = some q) (he : r_en ad dA σ' k q = e) (ho : ∀ k' q', ¬ k' = k → L[k']? = some q' → r_en ad dA σ' k' q' = r_en ad dA σ k' q') : (r_wl ad dA σ L).set k (ad k, e) = r_wl ad dA σ' L := by
  apply List.ext_getElem?
  intro n
  rw [List.getElem?_set]
  have hlen : (r_wl ad dA σ L).length = L.length := by simp [r_wl]
  by_cases hn : k = n
  · subst hn
    rw [if_pos rfl, hlen, if_pos (List.getElem?_eq_some_iff.mp h).1, r_wl_at h, he]
  · rw [if_neg hn]
    cases hq : L[n]? with
    | none =>
      have hl : L.length ≤ n := by simpa using hq
      rw [List.getElem?_eq_none (by rw [hlen]; exact hl), List.getElem?_eq_none (by simpa [r_wl] using hl)]
    | some q' => rw [r_wl_at hq, r_wl_at hq, ho n q' (fun x => hn x.symm) hq]
/-- a write of an int leaves every other cell -/
theorem r_en_wI {ad : Nat → Nat} {dA : Nat → ClassId} {σ : r_St} {k j : Nat} {v : Int32} (k' : Nat) (q : r_Kd) (h : ¬ k' = k) : r_en ad dA (wI σ k j v) k' q = r_en ad dA σ k' q := by
  have e : (wI σ k j v).1 k' = σ.1 k' := by simp [wI, h]
  unfold r_en
  split <;> first | rw [e] | rfl
theorem wI_at (σ : r_St) (k j : Nat) (v : Int32) : (wI σ k j v).1 k = upd (σ.1 k) j v := by simp [wI]
def r_inj (ad : Nat → Nat) (N : Nat) : Prop := ∀ i j : Nat, i < N → j < N → ad i = ad j → i = j
def r_A (N : Nat) (ad : Nat → Nat) : Nat → Prop := fun q => ∃ k : Nat, k < N ∧ q = ad k
theorem r_D {ad : Nat → Nat} {dA : Nat → ClassId} {σ : r_St} {L : List r_Kd} (h : r_inj ad L.length) : va_D (r_A L.length ad) (r_wl ad dA σ L) := by
  refine ⟨fun i j x y hx hy e => ?_, fun k q hk => ?_⟩
  · obtain ⟨h1, e1⟩ := r_wl_of hx
    obtain ⟨h2, e2⟩ := r_wl_of hy
    exact h i j h1 h2 (by rw [← e1, ← e2, e])
  · obtain ⟨h1, e1⟩ := r_wl_of hk
    exact ⟨k, h1, e1⟩
def r_rows (b n : Nat) : List r_Kd := [.inl (3, [none, some (b + 1), some (b + 2), some (b + 3), none]), .inr (0, n, []), .inr (0, n, []), .inr (0, n, [])]
def r_laws (b : Nat) : List r_Kd := [.inl (1, [some (b + 1), some (b + 2), some (b + 3), some (b + 4), some (b + 5), none]), .inr (0, 40, []), .inr (0, 40, []), .inr (0, 40, []), .inr (0, 40, []), .inr (0, 40, [])]
/-- the cells of the class: 0 itself, 1 the text, 4 8 .. 28 the seven Rows, 32 and 38 the two Laws, 44 the Planner, 50 the row of Sheets, 51 53 55 57 these -/
def r_lay0 : List r_Kd :=
  [.inl (5, [some 1, some 4, some 8, some 12, some 16, some 20, some 24, some 28, some 32, some 38, some 44, some 50, none, none, none, none]),
   .inl (0, [some 2, some 3, none, none, none, none]), .inr (0, 23, []), .inr (0, 8, [])]
  ++ r_rows 4 8 ++ r_rows 8 4 ++ r_rows 12 10 ++ r_rows 16 12 ++ r_rows 20 6 ++ r_rows 24 8 ++ r_rows 28 8 ++ r_laws 32 ++ r_laws 38 ++
  [.inl (2, [some 45, some 46, some 47, some 48, some 49, none, none]), .inr (1, 6, []), .inr (0, 6, []), .inr (0, 6, []), .inr (0, 6, []), .inr (0, 6, []),
   .inr (3, 4, [51, 53, 55, 57]), .inl (4, [some 52, none, none]), .inr (0, 60, []), .inl (4, [some 54, none, none]), .inr (0, 60, []), .inl (4, [some 56, none, none]), .inr (0, 60, []), .inl (4, [some 58, none, none]), .inr (0, 60, [])]
/-- the cells of the reference: 0 itself, then its arrays in the order of its fields -/
def r_lay1 : List r_Kd :=
  [.inl (6, [some 1, none, none, some 2, none, none, none, some 3, some 4, some 5, some 6, some 7, some 8, some 9, some 10, some 11, some 12, some 13, some 14, some 15, some 16, none, none, none, some 17, some 18, some 19, some 20, some 21, none, some 22, some 23, none, some 24, some 25, some 26, some 27, some 28, some 29, some 30, some 31, none]),
   .inr (0, 23, []), .inr (0, 9, []), .inr (0, 5, []), .inr (0, 8, []), .inr (0, 8, []), .inr (0, 4, []), .inr (0, 10, []), .inr (0, 10, []), .inr (0, 12, []), .inr (0, 12, []), .inr (0, 12, []), .inr (0, 6, []), .inr (0, 6, []), .inr (0, 40, []), .inr (0, 80, []), .inr (0, 40, []), .inr (0, 3, []), .inr (0, 6, []), .inr (0, 6, []), .inr (0, 6, []), .inr (0, 729, []), .inr (0, 8, []), .inr (0, 8, []), .inr (0, 8, []), .inr (0, 8, []), .inr (0, 8, []), .inr (2, 4, []), .inr (0, 4, []), .inr (0, 4, []), .inr (0, 240, []), .inr (0, 60, [])]
def r_lay (z : Nat) : List r_Kd := match z with
  | 0 => r_lay0
  | _ => r_lay1
def r_ty (dA : Nat → ClassId) : List (ClassId × FieldType) := [(dA 0, .int), (dA 1, .long), (dA 2, .boolean), (dA 3, .object "TwinKings$Sheet")]
def r_ddI (j : Nat) : Int32 := match j with
  | 0 => 0
  | 1 => 1
  | 2 => 6
  | 3 => 20
  | _ => 39
def r_dd (j : Nat) : Value := .int (r_ddI j)
/-- what stays of the statics: the class's own row of days, at the cell that is numbered 1000 -/
def r_Sta (z : Nat) (ad : Nat → Nat) (U : State) : Prop := z = 0 → va_Z "TwinKings" "DIGEST_DAYS" "[I" (.ref (ad 1000)) (r_A (r_lay z).length ad) U U.heap ∧ va_T .int (ad 1000) 5 r_dd (r_A (r_lay z).length ad) U U.heap
def r_Cx (z d : Nat) (μ : r_Mt) (p : Program) (R : Room) (s : State) (m : MethodId) (args : Array Value) (c : Code) (cells slots : Nat) (D : va_G) (dA : Nat → ClassId) (ad : Nat → Nat) : Prop :=
  p.tables.exec = Jvm.exec ∧ c.code = μ.2.1 ∧ c.maxLocals = μ.2.2.1 ∧ s.vm.findClass μ.1.cls = some m.cls ∧ (∀ w ∈ pw_wl, w.before args s = true) ∧ va_K D vwCl (r_ty dA) s ∧ r_inj ad (r_lay z).length ∧ r_Sta z ad s ∧ d ≤ R.frames ∧ 64 * d ≤ R.locals ∧ cells ≤ R.cells ∧ slots ≤ R.slots
def r_Hp (z : Nat) (D : va_G) (dA : Nat → ClassId) (ad : Nat → Nat) (σ : r_St) (s : State) (H : Heap) (locs : List Loc) : Prop :=
  va_P D vwCl (r_wl ad dA σ (r_lay z)) H ∧ va_S (r_A (r_lay z).length ad) s.heap H locs
/-- a return stands at pc, of the answer r -/
def r_ret (μ : r_Mt) (pc : Nat) (r : Option Value) : Prop := match r with
  | none => decode μ.2.1 pc = .ok (.return_, 1) ∧ μ.2.2.2 = none
  | some (.int v) => decode μ.2.1 pc = .ok (.ireturn, 1) ∧ (μ.2.2.2 = some .int ∨ (μ.2.2.2 = some .boolean ∧ (v = 0 ∨ v = 1)))
  | some (.long _) => decode μ.2.1 pc = .ok (.lreturn, 1) ∧ μ.2.2.2 = some .long
  | some (.ref _) => decode μ.2.1 pc = .ok (.areturn, 1) ∧ ∃ n, μ.2.2.2 = some (.object n)
  | some .null => decode μ.2.1 pc = .ok (.areturn, 1) ∧ ∃ n, μ.2.2.2 = some (.object n)
  | _ => False
/-- the machine in method μ at pc, locals lv, stack st (references by the cells' numbers), store σ: it comes to the method's return, with an answer and a store of which Q holds -/
def RR (z d : Nat) (μ : r_Mt) (pc : Nat) (lv : r_Lv) (st : List Value) (σ : r_St) (Q : Option Value → r_St → Prop) : Prop :=
  ∀ (p : Program) (l : Launch) (e : Env) (R : Room) (s : State) (m : MethodId) (args : Array Value) (below : List Frame) (meth : Method) (c : Code) (H : Heap) (locs : List Loc) (cells slots : Nat) (Z : State → Prop) (D : va_G) (dA : Nat → ClassId) (ad : Nat → Nat) (ls : Array Slot),
    r_Cx z d μ p R s m args c cells slots D dA ad → r_Hp z D dA ad σ s H locs → lv_has ls μ.2.2.1 (lv.map (r_rl ad)) →
    (∀ (r : Option Value) (σ' : r_St) (H' : Heap) (locs' : List Loc) (pc' : Nat) (ls' : Array Slot), Q r σ' → r_Hp z D dA ad σ' s H' locs' → r_ret μ pc' r → W p l e R s m args below meth c H' locs' cells slots Z (F0 m pc' ls' (r.toList.map (r_rv ad)))) →
    W p l e R s m args below meth c H locs cells slots Z (F0 m pc ls (st.map (r_rv ad)))
def r_get (lv : r_Lv) (i : Nat) : Option Value := match lv with
  | [] => none
  | q :: t => if q.1 = i then some q.2 else r_get t i
theorem r_get_mem {lv : r_Lv} {i : Nat} {v : Value} (h : r_get lv i = some v) : (i, v) ∈ lv := by
  induction lv with
  | nil => cases h
  | cons q t ih =>
    unfold r_get at h
    split at h
    · rename_i e
      cases h
      subst e
      exact List.mem_cons_self
    · exact List.mem_cons_of_mem _ (ih h)
def r_ins (x : Nat × Value) (l : r_Lv) : r_Lv := match l with
  | [] => [x]
  | y :: t => if x.1 ≤ y.1 then x :: y :: t else y :: r_ins x t
theorem r_ins_mem {x q : Nat × Value} {l : r_Lv} (h : q ∈ r_ins x l) : q ∈ x :: l := by
  induction l with
  | nil => exact h
  | cons y t ih =>
    unfold r_ins at h
    split at h
    · exact h
    · rcases List.mem_cons.mp h with h1 | h1
      · subst h1
        exact List.mem_cons_of_mem _ List.mem_cons_self
      · rcases List.mem_cons.mp (ih h1) with h2 | h2
        · subst h2
          exact List.mem_cons_self
        · exact List.mem_cons_of_mem _ (List.mem_cons_of_mem _ h2)
def r_f1 (i : Nat) (q : Nat × Value) : Bool := !(q.1 == i) && !(q.1 + 1 == i && q.2.category == 2)
def r_f2 (i : Nat) (q : Nat × Value) : Bool := !(q.1 == i) && (!(q.1 == i + 1) && !(q.1 + 1 == i && q.2.category == 2))
def r_set1 (lv : r_Lv) (i : Nat) (v : Value) : r_Lv := r_ins (i, v) (lv.filter (r_f1 i))
def r_set2 (lv : r_Lv) (i : Nat) (v : Value) : r_Lv := r_ins (i, v) (lv.filter (r_f2 i))
theorem r_lv1 {ls : Array Slot} {nL i : Nat} {ad : Nat → Nat} {lv : r_Lv} {v : Value} (h : lv_has ls nL ((i, r_rv ad v) :: (lv.map (r_rl ad)).filter (fun q => !(q.1 == i) && !(q.1 + 1 == i && q.2.category == 2)))) : lv_has ls nL ((r_set1 lv i v).map (r_rl ad)) := by
  refine ⟨h.1, h.2.1, fun q hq => ?_⟩
  obtain ⟨x, hx, rfl⟩ := List.mem_map.mp hq
  rcases List.mem_cons.mp (r_ins_mem hx) with h1 | h1
  · subst h1
    exact h.2.2 _ List.mem_cons_self
  · obtain ⟨h2, h3⟩ := List.mem_filter.mp h1
    refine h.2.2 _ (List.mem_cons_of_mem _ (List.mem_filter.mpr ⟨List.mem_map.mpr ⟨x, h2, rfl⟩, ?_⟩))
    show (!(x.1 == i) && !(x.1 + 1 == i && (r_rv ad x.2).category == 2)) = true
    rw [r_rv_cat]
    exact h3
theorem r_lv2 {ls : Array Slot} {nL i : Nat} {ad : Nat → Nat} {lv : r_Lv} {v : Value} (h : lv_has ls nL ((i, r_rv ad v) :: (lv.map (r_rl ad)).filter (fun q => !(q.1 == i) && (!(q.1 == i + 1) && !(q.1 + 1 == i && q.2.category == 2))))) : lv_has ls nL ((r_set2 lv i v).map (r_rl ad)) := by
  refine ⟨h.1, h.2.1, fun q hq => ?_⟩
  obtain ⟨x, hx, rfl⟩ := List.mem_map.mp hq
  rcases List.mem_cons.mp (r_ins_mem hx) with h1 | h1
  · subst h1
    exact h.2.2 _ List.mem_cons_self
  · obtain ⟨h2, h3⟩ := List.mem_filter.mp h1
    refine h.2.2 _ (List.mem_cons_of_mem _ (List.mem_filter.mpr ⟨List.mem_map.mpr ⟨x, h2, rfl⟩, ?_⟩))
    show (!(x.1 == i) && (!(x.1 == i + 1) && !(x.1 + 1 == i && (r_rv ad x.2).category == 2))) = true
    rw [r_rv_cat]
    exact h3
theorem r_lat {ls : Array Slot} {nL i : Nat} {ad : Nat → Nat} {lv : r_Lv} {v : Value} (h : lv_has ls nL (lv.map (r_rl ad))) (hg : r_get lv i = some v) : ls[i]? = some (.val (r_rv ad v)) := h.2.2 (i, r_rv ad v) (List.mem_map.mpr ⟨(i, v), r_get_mem hg, rfl⟩)
theorem RR.post {z d : Nat} {μ : r_Mt} {pc : Nat} {lv : r_Lv} {st : List Value} {σ : r_St} {Q Q' : Option Value → r_St → Prop} (h : RR z d μ pc lv st σ Q) (hQ : ∀ r σ', Q r σ' → Q' r σ') : RR z d μ pc lv st σ Q' :=
  fun p l e R s m args below meth c H locs cells slots Z D dA ad ls h1 h2 h3 h4 => h p l e R s m args below meth c H locs cells slots Z D dA ad ls h1 h2 h3 fun r σ' H' locs' pc' ls' a b c => h4 r σ' H' locs' pc' ls' (hQ _ _ a) b c
theorem RR.lvs {z d : Nat} {μ : r_Mt} {pc : Nat} {lv lv' : r_Lv} {st : List Value} {σ : r_St} {Q : Option Value → r_St → Prop} (hl : ∀ q ∈ lv', q ∈ lv) (h : RR z d μ pc lv' st σ Q) : RR z d μ pc lv st σ Q :=
  fun p l e R s m args below meth c H locs cells slots Z D dA ad ls h1 h2 h3 h4 => h p l e R s m args below meth c H locs cells slots Z D dA ad ls h1 h2 ⟨h3.1, h3.2.1, fun q hq => by
    obtain ⟨x, hx, rfl⟩ := List.mem_map.mp hq
    exact h3.2.2 _ (List.mem_map.mpr ⟨x, hl x hx, rfl⟩)⟩ h4
theorem RR.deep {z d d' : Nat} {μ : r_Mt} {pc : Nat} {lv : r_Lv} {st : List Value} {σ : r_St} {Q : Option Value → r_St → Prop} (hd : d ≤ d') (h : RR z d μ pc lv st σ Q) : RR z d' μ pc lv st σ Q :=
  fun p l e R s m args below meth c H locs cells slots Z D dA ad ls h1 h2 h3 h4 => h p l e R s m args below meth c H locs cells slots Z D dA ad ls ⟨h1.1, h1.2.1, h1.2.2.1, h1.2.2.2.1, h1.2.2.2.2.1, h1.2.2.2.2.2.1, h1.2.2.2.2.2.2.1, h1.2.2.2.2.2.2.2.1, Nat.le_trans hd h1.2.2.2.2.2.2.2.2.1, Nat.le_trans (Nat.mul_le_mul_left 64 hd) h1.2.2.2.2.2.2.2.2.2.1, h1.2.2.2.2.2.2.2.2.2.2⟩ h2 h3 h4
