/-! ===== what is told (a): scalars a.1, tables a.2.1, items of sheets a.2.2 =====
scalars: 0 typed, 1 rule, 2 court, 3 sick, 4 leaps, 5 edicts, 6 done, 7 tasks, 8 seen, 9 book, 10 finding, 20+s there, 24+s form, 28+s size
tables: 0 text, 1 2 sick (king, day), 3 leap day, 4 5 edict (day, deed), 6 7 8 done (day, deed, days), 9 10 task (deed, days), 11 12 seen (deed, is), 13 14 15 book (day, deed, is) -/
abbrev ab : Type := (Nat → Nat) × (Nat → Nat → Nat) × (Nat → Nat → Int32)
/-- the text -/
def tfit (tx : Nat → Nat) (i : Nat) : Bool := if i % 3 = 0 then decide (48 ≤ tx i ∧ tx i ≤ 57) else if i % 3 = 1 then decide (tx i = 97 ∨ tx i = 102) else decide (tx i = 59)
def tscan (tx : Nat → Nat) : Nat → Nat → Nat
  | 0, i => i
  | m + 1, i => if tfit tx i then tscan tx m (i + 1) else i
def tbad (a : ab) : Nat := tscan (a.2.1 0) (a.1 0) 0
def tok (a : ab) : Prop := tbad a = a.1 0 ∧ (a.1 0 = 0 ∨ a.1 0 % 3 = 2)
def tflt (a : ab) : Int32 := if tbad a < a.1 0 then nI (tbad a) else if a.1 0 = 0 ∨ a.1 0 % 3 = 2 then -1 else nI (a.1 0)
def dd (a : ab) : Nat := if tbad a < a.1 0 then 0 else if a.1 0 = 0 ∨ a.1 0 % 3 = 2 then (a.1 0 + 1) / 3 else 0
def fin (a : ab) (k : Nat) : Nat := a.2.1 0 (3 * k) - 48
def el (a : ab) : Nat := mkb (fun k => decide (a.2.1 0 (3 * k + 1) = 97)) (dd a)
/-- by which rule the younger differs -/
def yoB (a : ab) (k : Nat) : Bool := if a.1 1 = 2 then (el a).testBit (if k + 1 < dd a then k + 1 else 0) else if a.1 1 = 1 ∧ k ^^^ 1 < dd a then (el a).testBit (k ^^^ 1) else !(el a).testBit k
def yo (a : ab) : Nat := mkb (yoB a) (dd a)
/-- who rules: 0, 1, 2 both, 3 neither -/
def sickB (a : ab) (k d : Nat) : Bool := exB (a.1 3) (fun j => decide (a.2.1 1 j = k ∧ a.2.1 2 j = d))
def leapB (a : ab) (d : Nat) : Bool := exB (a.1 4) (fun j => decide (a.2.1 3 j = d))
def ru (a : ab) (d : Nat) : Nat := if leapB a d then 2 else if d % 7 = 6 then 3 else if sickB a (d % 2) d then (if sickB a (1 - d % 2) d then 3 else 1 - d % 2) else d % 2
def ruI (r : Nat) : Int32 := if r = 3 then -1 else nI r
/-- what is turned by the edicts of a day, but for the one numbered w -/
def tnF (a : ab) (w : Int32) (d k : Nat) : Nat := if a.2.1 4 k = d ∧ ¬ nI k = w ∧ a.2.1 5 k < dd a then 2 ^ a.2.1 5 k else 0
def tn (a : ab) (w : Int32) (d : Nat) : Nat := xr (tnF a w d) (a.1 5)
/-- what the kings say -/
def syp (r t : Nat → Nat) (e y : Nat) : Nat → Nat × Nat
  | 0 => (e, y)
  | d + 1 => (if r d = 0 ∨ r d = 2 then (syp r t e y d).1 ^^^ t d else (syp r t e y d).1, if r d = 1 ∨ r d = 2 then (syp r t e y d).2 ^^^ t d else (syp r t e y d).2)
def opn (n r e y : Nat) : Nat := if r = 0 then e else if r = 1 then y else if r = 2 then e &&& y else 2 ^ n - 1
def sE (a : ab) (w : Int32) (d : Nat) : Nat := (syp (ru a) (tn a w) (el a) (yo a) d).1
def sY (a : ab) (w : Int32) (d : Nat) : Nat := (syp (ru a) (tn a w) (el a) (yo a) d).2
def op (a : ab) (w : Int32) (d : Nat) : Nat := opn (dd a) (ru a d) (sE a w d) (sY a w d)
/-- what is well -/
def WF (a : ab) : Prop := a.1 0 ≤ 23 ∧ (∀ j, j < a.1 0 → a.2.1 0 j < 256) ∧ a.1 1 ≤ 2 ∧ a.1 2 ≤ 2 ∧
  (a.1 3 ≤ 8 ∧ ∀ j, j < a.1 3 → a.2.1 1 j < 2 ∧ a.2.1 2 j < 40) ∧ (a.1 4 ≤ 4 ∧ ∀ j, j < a.1 4 → a.2.1 3 j < 40) ∧
  (a.1 5 ≤ 10 ∧ ∀ j, j < a.1 5 → a.2.1 4 j < 40 ∧ a.2.1 5 j < 8) ∧
  (a.1 6 ≤ 12 ∧ ∀ j, j < a.1 6 → a.2.1 6 j < 40 ∧ a.2.1 7 j < 8 ∧ 1 ≤ a.2.1 8 j ∧ a.2.1 8 j ≤ 5 ∧ a.2.1 6 j + a.2.1 8 j ≤ 40) ∧
  (a.1 7 ≤ 6 ∧ ∀ j, j < a.1 7 → a.2.1 9 j < 8 ∧ 1 ≤ a.2.1 10 j ∧ a.2.1 10 j ≤ 5) ∧
  (a.1 8 ≤ 8 ∧ ∀ j, j < a.1 8 → a.2.1 11 j < 8 ∧ a.2.1 12 j < 2) ∧
  (a.1 9 ≤ 8 ∧ ∀ j, j < a.1 9 → a.2.1 13 j < 40 ∧ a.2.1 14 j < 8 ∧ a.2.1 15 j < 2) ∧
  ∀ s, s < 4 → a.1 (20 + s) ≤ 1 ∧ a.1 (24 + s) ≤ 2 ∧ a.1 (28 + s) ≤ 60
/-- a Rows of the class at cell k: its room, its size, its three columns; a column of the reference -/
def z0 : Nat → Nat := fun _ => 0
def R3 (σ : r_St) (k room s : Nat) (f g h : Nat → Nat) : Prop := σ.1 k 0 = nI room ∧ σ.1 k 4 = nI s ∧ ∀ j, j < s → σ.1 (k + 1) j = nI (f j) ∧ σ.1 (k + 2) j = nI (g j) ∧ σ.1 (k + 3) j = nI (h j)
def C1 (σ : r_St) (c s : Nat) (f : Nat → Nat) : Prop := ∀ j, j < s → σ.1 c j = nI (f j)
/-- the class's store holds it -/
def Tx0 (a : ab) (σ : r_St) : Prop := σ.1 1 2 = nI (a.1 0) ∧ C1 σ 2 (a.1 0) (a.2.1 0) ∧ σ.1 1 4 = nI (dd a) ∧ σ.1 1 5 = nI (el a) ∧ σ.1 1 3 = tflt a ∧ C1 σ 3 (dd a) (fin a)
def Sc0 (a : ab) (σ : r_St) : Prop := σ.1 0 12 = nI (a.1 1) ∧ σ.1 0 13 = nI (a.1 2) ∧ σ.1 0 14 = nI (a.1 10)
def Sh0 (a : ab) (σ : r_St) (s : Nat) : Prop := (a.1 (20 + s) = 0 → σ.1 (51 + 2 * s) 1 = -1 ∧ σ.1 (51 + 2 * s) 2 = 0) ∧ (a.1 (20 + s) = 1 → σ.1 (51 + 2 * s) 1 = nI (a.1 (24 + s)) ∧ σ.1 (51 + 2 * s) 2 = nI (a.1 (28 + s)) ∧ ∀ j, j < a.1 (28 + s) → σ.1 (52 + 2 * s) j = a.2.2 s j)
def B0 (a : ab) (σ : r_St) : Prop := Tx0 a σ ∧ Sc0 a σ ∧ R3 σ 4 8 (a.1 3) (a.2.1 1) (a.2.1 2) z0 ∧ R3 σ 8 4 (a.1 4) (a.2.1 3) z0 z0 ∧ R3 σ 12 10 (a.1 5) (a.2.1 4) (a.2.1 5) z0 ∧ R3 σ 16 12 (a.1 6) (a.2.1 6) (a.2.1 7) (a.2.1 8) ∧
  R3 σ 20 6 (a.1 7) (a.2.1 9) (a.2.1 10) z0 ∧ R3 σ 24 8 (a.1 8) (a.2.1 11) (a.2.1 12) z0 ∧ R3 σ 28 8 (a.1 9) (a.2.1 13) (a.2.1 14) (a.2.1 15) ∧ ∀ s, s < 4 → Sh0 a σ s
/-- Laws at cell k: the rulers; all of it, as laid without the edict w -/
def Seat (a : ab) (k : Nat) (σ : r_St) : Prop := ∀ j, j < 40 → σ.1 (k + 1) j = ruI (ru a j)
def Told (a : ab) (w : Int32) (k : Nat) (σ : r_St) : Prop := σ.1 k 5 = nI (dd a) ∧ Seat a k σ ∧ ∀ j, j < 40 → σ.1 (k + 2) j = nI (sE a w j) ∧ σ.1 (k + 3) j = nI (sY a w j) ∧ σ.1 (k + 4) j = nI (op a w j)
def Inv0 (a : ab) (σ : r_St) : Prop := WF a ∧ B0 a σ ∧ (σ.1 0 15 = 0 → Told a (-1) 32 σ)
/-- the reference's store holds it -/
def Sh1 (a : ab) (σ : r_St) (s : Nat) : Prop := σ.1 27 s = nI (a.1 (20 + s)) ∧ (a.1 (20 + s) = 1 → σ.1 28 s = nI (a.1 (24 + s)) ∧ σ.1 29 s = nI (a.1 (28 + s)) ∧ ∀ j, j < a.1 (28 + s) → σ.1 30 (60 * s + j) = a.2.2 s j)
def Tx1 (a : ab) (σ : r_St) : Prop := σ.1 0 1 = nI (a.1 0) ∧ C1 σ 1 (a.1 0) (a.2.1 0)
def Sc1 (a : ab) (σ : r_St) : Prop := σ.1 0 5 = nI (a.1 1) ∧ σ.1 0 6 = nI (a.1 2) ∧ σ.1 0 41 = nI (a.1 10)
def B1 (a : ab) (σ : r_St) : Prop := Tx1 a σ ∧ Sc1 a σ ∧
  (σ.1 3 0 = nI (a.1 3) ∧ C1 σ 4 (a.1 3) (a.2.1 1) ∧ C1 σ 5 (a.1 3) (a.2.1 2)) ∧ (σ.1 3 1 = nI (a.1 4) ∧ C1 σ 6 (a.1 4) (a.2.1 3)) ∧
  (σ.1 3 2 = nI (a.1 5) ∧ C1 σ 7 (a.1 5) (a.2.1 4) ∧ C1 σ 8 (a.1 5) (a.2.1 5)) ∧
  (σ.1 3 3 = nI (a.1 6) ∧ C1 σ 9 (a.1 6) (a.2.1 6) ∧ C1 σ 10 (a.1 6) (a.2.1 7) ∧ C1 σ 11 (a.1 6) (a.2.1 8)) ∧
  (σ.1 3 4 = nI (a.1 7) ∧ C1 σ 12 (a.1 7) (a.2.1 9) ∧ C1 σ 13 (a.1 7) (a.2.1 10)) ∧
  (σ.1 0 29 = nI (a.1 8) ∧ C1 σ 22 (a.1 8) (a.2.1 11) ∧ C1 σ 23 (a.1 8) (a.2.1 12)) ∧
  (σ.1 0 32 = nI (a.1 9) ∧ C1 σ 24 (a.1 9) (a.2.1 13) ∧ C1 σ 25 (a.1 9) (a.2.1 14) ∧ C1 σ 26 (a.1 9) (a.2.1 15)) ∧ ∀ s, s < 4 → Sh1 a σ s
def Inv1 (a : ab) (σ : r_St) : Prop := WF a ∧ B1 a σ
/-- what is laid in the reference: the text read; all -/
def Read1 (a : ab) (σ : r_St) : Prop := σ.1 0 2 = nI (dd a) ∧ σ.1 0 4 = nI (el a) ∧ C1 σ 2 (dd a) (fin a)
def Laid1 (a : ab) (w : Int32) (σ : r_St) : Prop := Read1 a σ ∧ ∀ j, j < 40 → σ.1 14 j = ruI (ru a j) ∧ σ.1 15 j = nI (sE a w j) ∧ σ.1 15 (40 + j) = nI (sY a w j) ∧ σ.1 16 j = nI (op a w j)
/-- nothing but what is worked out anew has changed -/
def sm0 (σ σ' : r_St) : Prop := ∀ c j, ¬ (c = 0 ∧ j = 15) → (c < 32 ∨ 50 ≤ c) → σ'.1 c j = σ.1 c j
def sm1 (σ σ' : r_St) : Prop := ∀ c j, ¬ (c = 0 ∧ (j = 2 ∨ j = 4 ∨ j = 21 ∨ j = 22 ∨ j = 23)) → (c ≤ 1 ∨ (3 ≤ c ∧ c ≤ 13) ∨ (22 ≤ c ∧ c ≤ 30)) → σ'.1 c j = σ.1 c j
theorem sm0.rf {σ : r_St} : sm0 σ σ := fun _ _ _ _ => rfl
theorem sm1.rf {σ : r_St} : sm1 σ σ := fun _ _ _ _ => rfl
theorem sm0.tr {σ σ' σ'' : r_St} (h : sm0 σ σ') (h2 : sm0 σ' σ'') : sm0 σ σ'' := fun c j a b => (h2 c j a b).trans (h c j a b)
theorem sm1.tr {σ σ' σ'' : r_St} (h : sm1 σ σ') (h2 : sm1 σ' σ'') : sm1 σ σ'' := fun c j a b => (h2 c j a b).trans (h c j a b)
theorem C1.mv {σ σ' : r_St} {c s : Nat} {f : Nat → Nat} (h : C1 σ c s f) (e : ∀ j, j < s → σ'.1 c j = σ.1 c j) : C1 σ' c s f := fun j hj => by rw [e j hj]; exact h j hj
theorem R3.mv {σ σ' : r_St} {k room s : Nat} {f g h : Nat → Nat} (H : R3 σ k room s f g h) (e : ∀ c j, k ≤ c → c ≤ k + 3 → σ'.1 c j = σ.1 c j) : R3 σ' k room s f g h := by
  refine ⟨?_, ?_, fun j hj => ⟨?_, ?_, ?_⟩⟩
  · rw [e k 0 (by omega) (by omega)]; exact H.1
  · rw [e k 4 (by omega) (by omega)]; exact H.2.1
  · rw [e _ j (by omega) (by omega)]; exact (H.2.2 j hj).1
  · rw [e _ j (by omega) (by omega)]; exact (H.2.2 j hj).2.1
  · rw [e _ j (by omega) (by omega)]; exact (H.2.2 j hj).2.2
theorem Tx0.mv {a : ab} {σ σ' : r_St} (h : Tx0 a σ) (e : ∀ c j, 1 ≤ c → c ≤ 3 → σ'.1 c j = σ.1 c j) : Tx0 a σ' := by
  obtain ⟨h1, h2, h3, h4, h5, h6⟩ := h
  refine ⟨?_, h2.mv (fun j _ => e _ j (by omega) (by omega)), ?_, ?_, ?_, h6.mv (fun j _ => e _ j (by omega) (by omega))⟩
  · rw [e 1 2 (by omega) (by omega)]; exact h1
  · rw [e 1 4 (by omega) (by omega)]; exact h3
  · rw [e 1 5 (by omega) (by omega)]; exact h4
  · rw [e 1 3 (by omega) (by omega)]; exact h5
theorem Sc0.mv {a : ab} {σ σ' : r_St} (h : Sc0 a σ) (e : ∀ j, 12 ≤ j → j ≤ 14 → σ'.1 0 j = σ.1 0 j) : Sc0 a σ' := by
  refine ⟨?_, ?_, ?_⟩
  · rw [e 12 (by omega) (by omega)]; exact h.1
  · rw [e 13 (by omega) (by omega)]; exact h.2.1
  · rw [e 14 (by omega) (by omega)]; exact h.2.2
theorem Sh0.mv {a : ab} {σ σ' : r_St} {s : Nat} (h : Sh0 a σ s) (e : ∀ c j, c = 51 + 2 * s ∨ c = 52 + 2 * s → σ'.1 c j = σ.1 c j) : Sh0 a σ' s := by
  refine ⟨fun h0 => ?_, fun h0 => ?_⟩
  · rw [e _ 1 (Or.inl rfl), e _ 2 (Or.inl rfl)]; exact h.1 h0
  · rw [e _ 1 (Or.inl rfl), e _ 2 (Or.inl rfl)]
    exact ⟨(h.2 h0).1, (h.2 h0).2.1, fun j hj => by rw [e _ j (Or.inr rfl)]; exact (h.2 h0).2.2 j hj⟩
theorem B0.mv {a : ab} {σ σ' : r_St} (h : B0 a σ) (e : sm0 σ σ') : B0 a σ' := by
  obtain ⟨h1, h2, h3, h4, h5, h6, h7, h8, h9, h10⟩ := h
  have ee : ∀ c j, 1 ≤ c → (c < 32 ∨ 50 ≤ c) → σ'.1 c j = σ.1 c j := fun c j q1 q2 => e c j (by omega) q2
  exact ⟨h1.mv (fun c j _ _ => ee c j (by omega) (by omega)), h2.mv (fun j _ _ => e 0 j (by omega) (by omega)), h3.mv (fun c j _ _ => ee c j (by omega) (by omega)), h4.mv (fun c j _ _ => ee c j (by omega) (by omega)), h5.mv (fun c j _ _ => ee c j (by omega) (by omega)), h6.mv (fun c j _ _ => ee c j (by omega) (by omega)), h7.mv (fun c j _ _ => ee c j (by omega) (by omega)), h8.mv (fun c j _ _ => ee c j (by omega) (by omega)), h9.mv (fun c j _ _ => ee c j (by omega) (by omega)), fun s hs => (h10 s hs).mv (fun c j _ => ee c j (by omega) (by omega))⟩
theorem Sh1.mv {a : ab} {σ σ' : r_St} {s : Nat} (h : Sh1 a σ s) (e : ∀ c j, 27 ≤ c → c ≤ 30 → σ'.1 c j = σ.1 c j) : Sh1 a σ' s := by
  refine ⟨?_, fun h0 => ?_⟩
  · rw [e 27 s (by omega) (by omega)]; exact h.1
  · rw [e 28 s (by omega) (by omega), e 29 s (by omega) (by omega)]
    exact ⟨(h.2 h0).1, (h.2 h0).2.1, fun j hj => by rw [e 30 _ (by omega) (by omega)]; exact (h.2 h0).2.2 j hj⟩
theorem B1.mv {a : ab} {σ σ' : r_St} (h : B1 a σ) (e : sm1 σ σ') : B1 a σ' := by
  obtain ⟨h1, h2, h3, h4, h5, h6, h7, h8, h9, h10⟩ := h
  have e0 : ∀ j, ¬ j = 2 → ¬ j = 4 → ¬ j = 21 → ¬ j = 22 → ¬ j = 23 → σ'.1 0 j = σ.1 0 j := fun j _ _ _ _ _ => e 0 j (by omega) (by omega)
  have ee : ∀ c j, 1 ≤ c → (c ≤ 1 ∨ (3 ≤ c ∧ c ≤ 13) ∨ (22 ≤ c ∧ c ≤ 30)) → σ'.1 c j = σ.1 c j := fun c j q1 q2 => e c j (by omega) q2
  refine ⟨⟨?_, h1.2.mv (fun j _ => ee _ j (by omega) (by omega))⟩, ⟨?_, ?_, ?_⟩, ⟨?_, h3.2.1.mv (fun j _ => ee _ j (by omega) (by omega)), h3.2.2.mv (fun j _ => ee _ j (by omega) (by omega))⟩, ⟨?_, h4.2.mv (fun j _ => ee _ j (by omega) (by omega))⟩, ⟨?_, h5.2.1.mv (fun j _ => ee _ j (by omega) (by omega)), h5.2.2.mv (fun j _ => ee _ j (by omega) (by omega))⟩, ⟨?_, h6.2.1.mv (fun j _ => ee _ j (by omega) (by omega)), h6.2.2.1.mv (fun j _ => ee _ j (by omega) (by omega)), h6.2.2.2.mv (fun j _ => ee _ j (by omega) (by omega))⟩, ⟨?_, h7.2.1.mv (fun j _ => ee _ j (by omega) (by omega)), h7.2.2.mv (fun j _ => ee _ j (by omega) (by omega))⟩, ⟨?_, h8.2.1.mv (fun j _ => ee _ j (by omega) (by omega)), h8.2.2.mv (fun j _ => ee _ j (by omega) (by omega))⟩, ⟨?_, h9.2.1.mv (fun j _ => ee _ j (by omega) (by omega)), h9.2.2.1.mv (fun j _ => ee _ j (by omega) (by omega)), h9.2.2.2.mv (fun j _ => ee _ j (by omega) (by omega))⟩, fun s hs => (h10 s hs).mv (fun c j _ _ => ee c j (by omega) (by omega))⟩
  · rw [e0 1 (by omega) (by omega) (by omega) (by omega) (by omega)]; exact h1.1
  · rw [e0 5 (by omega) (by omega) (by omega) (by omega) (by omega)]; exact h2.1
  · rw [e0 6 (by omega) (by omega) (by omega) (by omega) (by omega)]; exact h2.2.1
  · rw [e0 41 (by omega) (by omega) (by omega) (by omega) (by omega)]; exact h2.2.2
  · rw [ee 3 0 (by omega) (by omega)]; exact h3.1
  · rw [ee 3 1 (by omega) (by omega)]; exact h4.1
  · rw [ee 3 2 (by omega) (by omega)]; exact h5.1
  · rw [ee 3 3 (by omega) (by omega)]; exact h6.1
  · rw [ee 3 4 (by omega) (by omega)]; exact h7.1
  · rw [e0 29 (by omega) (by omega) (by omega) (by omega) (by omega)]; exact h8.1
  · rw [e0 32 (by omega) (by omega) (by omega) (by omega) (by omega)]; exact h9.1
theorem Inv1.mv {a : ab} {σ σ' : r_St} (h : Inv1 a σ) (e : sm1 σ σ') : Inv1 a σ' := ⟨h.1, h.2.mv e⟩
/-- what the laws rest on -/
def sameL (a a' : ab) : Prop := a'.1 0 = a.1 0 ∧ a'.1 1 = a.1 1 ∧ a'.1 3 = a.1 3 ∧ a'.1 4 = a.1 4 ∧ a'.1 5 = a.1 5 ∧ a'.2.1 0 = a.2.1 0 ∧ a'.2.1 1 = a.2.1 1 ∧ a'.2.1 2 = a.2.1 2 ∧ a'.2.1 3 = a.2.1 3 ∧ a'.2.1 4 = a.2.1 4 ∧ a'.2.1 5 = a.2.1 5
def sameT (a a' : ab) : Prop := a'.1 0 = a.1 0 ∧ a'.2.1 0 = a.2.1 0
theorem sameT.tb {a a' : ab} (h : sameT a a') : tbad a' = tbad a := by unfold tbad; rw [h.1, h.2]
theorem sameT.e_dd {a a' : ab} (h : sameT a a') : dd a' = dd a := by unfold dd; rw [h.tb, h.1]
theorem sameT.flt {a a' : ab} (h : sameT a a') : tflt a' = tflt a := by unfold tflt; rw [h.tb, h.1]
theorem sameT.e_fin {a a' : ab} (h : sameT a a') : fin a' = fin a := by funext k; unfold fin; rw [h.2]
theorem sameT.e_el {a a' : ab} (h : sameT a a') : el a' = el a := by unfold el; rw [h.e_dd, h.2]
theorem sameL.T {a a' : ab} (h : sameL a a') : sameT a a' := ⟨h.1, h.2.2.2.2.2.1⟩
theorem sameL.e_yo {a a' : ab} (h : sameL a a') : yo a' = yo a := by
  have e : yoB a' = yoB a := by funext k; unfold yoB; rw [h.T.e_el, h.T.e_dd, h.2.1]
  unfold yo
  rw [e, h.T.e_dd]
theorem sameL.e_ru {a a' : ab} (h : sameL a a') : ru a' = ru a := by
  obtain ⟨h0, h1, h3, h4, h5, t0, t1, t2, t3, t4, t5⟩ := h
  have e1 : sickB a' = sickB a := by funext k d; unfold sickB; rw [h3, t1, t2]
  have e2 : leapB a' = leapB a := by funext d; unfold leapB; rw [h4, t3]
  funext d
  unfold ru
  rw [e1, e2]
theorem sameL.e_tn {a a' : ab} (h : sameL a a') : tn a' = tn a := by
  have e : tnF a' = tnF a := by funext w d k; unfold tnF; rw [h.T.e_dd, h.2.2.2.2.2.2.2.2.2.1, h.2.2.2.2.2.2.2.2.2.2]
  funext w d
  unfold tn
  rw [e, h.2.2.2.2.1]
theorem sameL.e_sE {a a' : ab} (h : sameL a a') : sE a' = sE a := by funext w d; unfold sE; rw [h.e_ru, h.e_tn, h.T.e_el, h.e_yo]
theorem sameL.e_sY {a a' : ab} (h : sameL a a') : sY a' = sY a := by funext w d; unfold sY; rw [h.e_ru, h.e_tn, h.T.e_el, h.e_yo]
theorem sameL.e_op {a a' : ab} (h : sameL a a') : op a' = op a := by funext w d; unfold op; rw [h.e_ru, h.e_sE, h.e_sY, h.T.e_dd]
theorem Told.mv {a a' : ab} {w : Int32} {k : Nat} {σ σ' : r_St} (h : Told a w k σ) (ha : sameL a a') (e : ∀ c j, k ≤ c → c ≤ k + 4 → σ'.1 c j = σ.1 c j) : Told a' w k σ' := by
  unfold Told Seat at *
  rw [ha.T.e_dd, ha.e_ru, ha.e_sE, ha.e_sY, ha.e_op, e k 5 (by omega) (by omega)]
  refine ⟨h.1, fun j hj => ?_, fun j hj => ?_⟩
  · rw [e _ j (by omega) (by omega)]; exact h.2.1 j hj
  · rw [e _ j (by omega) (by omega), e _ j (by omega) (by omega), e _ j (by omega) (by omega)]; exact h.2.2 j hj
theorem sameL.rf {a : ab} : sameL a a := ⟨rfl, rfl, rfl, rfl, rfl, rfl, rfl, rfl, rfl, rfl, rfl⟩
