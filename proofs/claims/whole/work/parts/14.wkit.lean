/-! ===== the walk's own words: ends, cuts, steps with named results ===== -/
abbrev rI (K : Int32 → r_St → Prop) : Option Value → r_St → Prop := fun r σ => ∃ v, r = some (.int v) ∧ K v σ
abbrev rL (K : Int64 → r_St → Prop) : Option Value → r_St → Prop := fun r σ => ∃ v, r = some (.long v) ∧ K v σ
abbrev rV (K : r_St → Prop) : Option Value → r_St → Prop := fun r σ => r = none ∧ K σ
abbrev rC (c : Nat) (K : r_St → Prop) : Option Value → r_St → Prop := fun r σ => r = some (.ref c) ∧ K σ
def IN (v lo hi : Int32) : Prop := lo ≤ v ∧ v ≤ hi
def sl (x y : Int32) : Int32 := x <<< (y &&& 31)
def sr (x y : Int32) : Int32 := x >>> (y &&& 31)
def iu (x y : Int32) : Int32 := (x.toUInt32 >>> (y.toUInt32 &&& Int32.toUInt32 31)).toInt32
def lsl (x : Int64) (y : Int32) : Int64 := x <<< (y.toInt64 &&& 63)
def lsr (x : Int64) (y : Int32) : Int64 := x >>> (y.toInt64 &&& 63)
def lu (x : Int64) (y : Int32) : Int64 := (x.toUInt64 >>> (y.toInt64.toUInt64 &&& Int64.toUInt64 63)).toInt64
def rm (x y : Int32) : Int32 := x - x / y * y
def lrm (x y : Int64) : Int64 := x - x / y * y
def isRows (k n : Nat) : Prop := (r_lay 0)[k]? = some (.inl (3, [none, some (k + 1), some (k + 2), some (k + 3), none])) ∧ (r_lay 0)[k + 1]? = some (.inr (0, n, [])) ∧ (r_lay 0)[k + 2]? = some (.inr (0, n, [])) ∧ (r_lay 0)[k + 3]? = some (.inr (0, n, [])) ∧ n < 2147483648
def isLaws (k : Nat) : Prop := (r_lay 0)[k]? = some (.inl (1, [some (k + 1), some (k + 2), some (k + 3), some (k + 4), some (k + 5), none])) ∧ (r_lay 0)[k + 1]? = some (.inr (0, 40, [])) ∧ (r_lay 0)[k + 2]? = some (.inr (0, 40, [])) ∧ (r_lay 0)[k + 3]? = some (.inr (0, 40, [])) ∧ (r_lay 0)[k + 4]? = some (.inr (0, 40, [])) ∧ (r_lay 0)[k + 5]? = some (.inr (0, 40, []))
def isSheet (k : Nat) : Prop := (r_lay 0)[k]? = some (.inl (4, [some (k + 1), none, none])) ∧ (r_lay 0)[k + 1]? = some (.inr (0, 60, []))
theorem isRows_4 : isRows 4 8 := ⟨rfl, rfl, rfl, rfl, by decide⟩
theorem isRows_8 : isRows 8 4 := ⟨rfl, rfl, rfl, rfl, by decide⟩
theorem isRows_12 : isRows 12 10 := ⟨rfl, rfl, rfl, rfl, by decide⟩
theorem isRows_16 : isRows 16 12 := ⟨rfl, rfl, rfl, rfl, by decide⟩
theorem isRows_20 : isRows 20 6 := ⟨rfl, rfl, rfl, rfl, by decide⟩
theorem isRows_24 : isRows 24 8 := ⟨rfl, rfl, rfl, rfl, by decide⟩
theorem isRows_28 : isRows 28 8 := ⟨rfl, rfl, rfl, rfl, by decide⟩
theorem isLaws_32 : isLaws 32 := ⟨rfl, rfl, rfl, rfl, rfl, rfl⟩
theorem isLaws_38 : isLaws 38 := ⟨rfl, rfl, rfl, rfl, rfl, rfl⟩
theorem isSheet_at {j : Nat} (h : j < 4) : isSheet (51 + 2 * j) := by
  rcases (show j = 0 ∨ j = 1 ∨ j = 2 ∨ j = 3 by omega) with rfl | rfl | rfl | rfl <;> exact ⟨rfl, rfl⟩
theorem shx {j : Nat} (h : j < 4) : ([51, 53, 55, 57] : List Nat)[j]? = some (51 + 2 * j) := by
  rcases (show j = 0 ∨ j = 1 ∨ j = 2 ∨ j = 3 by omega) with rfl | rfl | rfl | rfl <;> rfl
section RW
variable {z d : Nat} {μ : r_Mt} {pc : Nat} {lv : r_Lv} {st : List Value} {σ : r_St} {Q : Option Value → r_St → Prop}
theorem RR.s2 {i : Instr} {pc' : Nat} {lv' : r_Lv} {st' : List Value} (hd : decode μ.2.1 pc = .ok (i, r_len i)) (hs : r_step μ.2.2.1 pc lv st i = some (pc', lv', st')) (h : RR z d μ pc' lv' st' σ Q) : RR z d μ pc lv st σ Q := RR.s hd hs h
theorem RR.brT {i : Instr} {P : Prop} {t : Nat} {rest : List Value} (hd : decode μ.2.1 pc = .ok (i, r_len i)) (hs : r_br pc st i = some (P, t, rest)) (hp : P) (kt : RR z d μ t lv rest σ Q) : RR z d μ pc lv st σ Q := RR.br hd hs (fun _ => kt) (fun c => absurd hp c)
theorem RR.brF {i : Instr} {P : Prop} {t : Nat} {rest : List Value} (hd : decode μ.2.1 pc = .ok (i, r_len i)) (hs : r_br pc st i = some (P, t, rest)) (hp : ¬ P) (kf : RR z d μ (pc + 3) lv rest σ Q) : RR z d μ pc lv st σ Q := RR.br hd hs (fun c => absurd c hp) (fun _ => kf)
theorem RR.cut (ps : List Nat) {lv' : r_Lv} (hl : ps.filterMap (fun i => lv[i]?) = lv') (h : RR z d μ pc lv' st σ Q) : RR z d μ pc lv st σ Q := by
  refine RR.lvs (fun q hq => ?_) h
  rw [← hl] at hq
  obtain ⟨i, _, hi⟩ := List.mem_filterMap.mp hq
  exact List.mem_of_getElem? hi
theorem RR.toI {K : Int32 → r_St → Prop} (H : RR z d μ pc lv st σ (rI K)) (h : ∀ v σ', K v σ' → Q (some (.int v)) σ') : RR z d μ pc lv st σ Q := RR.post H (fun r σ' ⟨v, e, hk⟩ => by subst e; exact h v σ' hk)
theorem RR.toL {K : Int64 → r_St → Prop} (H : RR z d μ pc lv st σ (rL K)) (h : ∀ v σ', K v σ' → Q (some (.long v)) σ') : RR z d μ pc lv st σ Q := RR.post H (fun r σ' ⟨v, e, hk⟩ => by subst e; exact h v σ' hk)
theorem RR.toV {K : r_St → Prop} (H : RR z d μ pc lv st σ (rV K)) (h : ∀ σ', K σ' → Q none σ') : RR z d μ pc lv st σ Q := RR.post H (fun r σ' ⟨e, hk⟩ => by subst e; exact h σ' hk)
theorem RR.toC {c : Nat} {K : r_St → Prop} (H : RR z d μ pc lv st σ (rC c K)) (h : ∀ σ', K σ' → Q (some (.ref c)) σ') : RR z d μ pc lv st σ Q := RR.post H (fun r σ' ⟨e, hk⟩ => by subst e; exact h σ' hk)
end RW
