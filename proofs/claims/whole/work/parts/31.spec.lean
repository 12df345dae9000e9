/-! ===== what is told (a): scalars a.1, tables a.2.1, items of sheets a.2.2 =====
scalars: 0 typed, 1 rule, 2 court, 3 sick, 4 leaps, 5 edicts, 6 done, 7 tasks, 8 seen, 9 book, 10 finding, 20+s there, 24+s form, 28+s size
tables: 0 text, 1 2 sick (king, day), 3 leap day, 4 5 edict (day, deed), 6 7 8 done (day, deed, days), 9 10 task (deed, days), 11 12 seen (deed, is), 13 14 15 book (day, deed, is) -/
abbrev ab : Type := (Nat → Nat) × (Nat → Nat → Nat) × (Nat → Nat → Int32)
/-- the text -/
def tfit (tx : Nat → Nat) (i : Nat) : Bool := if i % 3 = 0 then decide (48 ≤ tx i ∧ tx i ≤ 57) else if i % 3 = 1 then decide (tx i = 97 ∨ tx i = 102) else decide (tx i = 59)
def tscan (tx : Nat → Nat) : Nat → Nat → Nat
  | 0, i => i
  | m + 1, i => if tfit tx i then tscan tx m (i + 1) else i
def tbad (a : ab) : Nat := tscan (a.2.1 0) (a.1 0) 0
def tok (a : ab) : Prop := tbad a = a.1 0 ∧ (a.1 0 = 0 ∨ a.1 0 % 3 = 2)
def tflt (a : ab) : Int32 := if tbad a < a.1 0 then nI (tbad a) else if a.1 0 = 0 ∨ a.1 0 % 3 = 2 then -1 else nI (a.1 0)
def dd (a : ab) : Nat := if tbad a < a.1 0 then 0 else if a.1 0 = 0 ∨ a.1 0 % 3 = 2 then (a.1 0 + 1) / 3 else 0
def fin (a : ab) (k : Nat) : Nat := a.2.1 0 (3 * k) - 48
def el (a : ab) : Nat := mkb (fun k => decide (a.2.1 0 (3 * k + 1) = 97)) (dd a)
/-- by which rule the younger differs -/
def yoB (a : ab) (k : Nat) : Bool := if a.1 1 = 2 then (el a).testBit (if k + 1 < dd a then k + 1 else 0) else if a.1 1 = 1 ∧ k ^^^ 1 < dd a then (el a).testBit (k ^^^ 1) else !(el a).testBit k
def yo (a : ab) : Nat := mkb (yoB a) (dd a)
/-- who rules: 0, 1, 2 both, 3 neither -/
def sickB (a : ab) (k d : Nat) : Bool := exB (a.1 3) (fun j => decide (a.2.1 1 j = k ∧ a.2.1 2 j = d))
def leapB (a : ab) (d : Nat) : Bool := exB (a.1 4) (fun j => decide (a.2.1 3 j = d))
def ru (a : ab) (d : Nat) : Nat := if leapB a d then 2 else if d % 7 = 6 then 3 else if sickB a (d % 2) d then (if sickB a (1 - d % 2) d then 3 else 1 - d % 2) else d % 2
def ruI (r : Nat) : Int32 := if r = 3 then -1 else nI r
/-- what is turned by the edicts of a day, but for the one numbered w -/
def tnF (a : ab) (w : Int32) (d k : Nat) : Nat := if a.2.1 4 k = d ∧ ¬ nI k = w ∧ a.2.1 5 k < dd a then 2 ^ a.2.1 5 k else 0
def tn (a : ab) (w : Int32) (d : Nat) : Nat := xr (tnF a w d) (a.1 5)
/-- what the kings say -/
def syp (r t : Nat → Nat) (e y : Nat) : Nat → Nat × Nat
  | 0 => (e, y)
  | d + 1 => (if r d = 0 ∨ r d = 2 then (syp r t e y d).1 ^^^ t d else (syp r t e y d).1, if r d = 1 ∨ r d = 2 then (syp r t e y d).2 ^^^ t d else (syp r t e y d).2)
def opn (n r e y : Nat) : Nat := if r = 0 then e else if r = 1 then y else if r = 2 then e &&& y else 2 ^ n - 1
def sE (a : ab) (w : Int32) (d : Nat) : Nat := (syp (ru a) (tn a w) (el a) (yo a) d).1
def sY (a : ab) (w : Int32) (d : Nat) : Nat := (syp (ru a) (tn a w) (el a) (yo a) d).2
def op (a : ab) (w : Int32) (d : Nat) : Nat := opn (dd a) (ru a d) (sE a w d) (sY a w d)
/-- what is well -/
def WF (a : ab) : Prop := a.1 0 ≤ 23 ∧ (∀ j, j < a.1 0 → a.2.1 0 j < 256) ∧ a.1 1 ≤ 2 ∧ a.1 2 ≤ 2 ∧
  (a.1 3 ≤ 8 ∧ ∀ j, j < a.1 3 → a.2.1 1 j < 2 ∧ a.2.1 2 j < 40) ∧ (a.1 4 ≤ 4 ∧ ∀ j, j < a.1 4 → a.2.1 3 j < 40) ∧
  (a.1 5 ≤ 10 ∧ ∀ j, j < a.1 5 → a.2.1 4 j < 40 ∧ a.2.1 5 j < 8) ∧
  (a.1 6 ≤ 12 ∧ ∀ j, j < a.1 6 → a.2.1 6 j < 40 ∧ a.2.1 7 j < 8 ∧ 1 ≤ a.2.1 8 j ∧ a.2.1 8 j ≤ 5 ∧ a.2.1 6 j + a.2.1 8 j ≤ 40) ∧
  (a.1 7 ≤ 6 ∧ ∀ j, j < a.1 7 → a.2.1 9 j < 8 ∧ 1 ≤ a.2.1 10 j ∧ a.2.1 10 j ≤ 5) ∧
  (a.1 8 ≤ 8 ∧ ∀ j, j < a.1 8 → a.2.1 11 j < 8 ∧ a.2.1 12 j < 2) ∧
  (a.1 9 ≤ 8 ∧ ∀ j, j < a.1 9 → a.2.1 13 j < 40 ∧ a.2.1 14 j < 8 ∧ a.2.1 15 j < 2) ∧
  ∀ s, s < 4 → a.1 (20 + s) ≤ 1 ∧ a.1 (24 + s) ≤ 2 ∧ a.1 (28 + s) ≤ 60
/-- the class's store holds it -/
def B0 (a : ab) (σ : r_St) : Prop :=
  (σ.1 1 2 = nI (a.1 0) ∧ (∀ j, j < a.1 0 → σ.1 2 j = nI (a.2.1 0 j)) ∧ σ.1 1 4 = nI (dd a) ∧ σ.1 1 5 = nI (el a) ∧ σ.1 1 3 = tflt a ∧ ∀ k, k < dd a → σ.1 3 k = nI (fin a k)) ∧
  (σ.1 0 12 = nI (a.1 1) ∧ σ.1 0 13 = nI (a.1 2) ∧ σ.1 0 14 = nI (a.1 10)) ∧
  (σ.1 4 0 = 8 ∧ σ.1 4 4 = nI (a.1 3) ∧ ∀ j, j < a.1 3 → σ.1 5 j = nI (a.2.1 1 j) ∧ σ.1 6 j = nI (a.2.1 2 j)) ∧
  (σ.1 8 0 = 4 ∧ σ.1 8 4 = nI (a.1 4) ∧ ∀ j, j < a.1 4 → σ.1 9 j = nI (a.2.1 3 j) ∧ σ.1 10 j = 0) ∧
  (σ.1 12 0 = 10 ∧ σ.1 12 4 = nI (a.1 5) ∧ ∀ j, j < a.1 5 → σ.1 13 j = nI (a.2.1 4 j) ∧ σ.1 14 j = nI (a.2.1 5 j)) ∧
  (σ.1 16 0 = 12 ∧ σ.1 16 4 = nI (a.1 6) ∧ ∀ j, j < a.1 6 → σ.1 17 j = nI (a.2.1 6 j) ∧ σ.1 18 j = nI (a.2.1 7 j) ∧ σ.1 19 j = nI (a.2.1 8 j)) ∧
  (σ.1 20 0 = 6 ∧ σ.1 20 4 = nI (a.1 7) ∧ ∀ j, j < a.1 7 → σ.1 21 j = nI (a.2.1 9 j) ∧ σ.1 22 j = nI (a.2.1 10 j)) ∧
  (σ.1 24 0 = 8 ∧ σ.1 24 4 = nI (a.1 8) ∧ ∀ j, j < a.1 8 → σ.1 25 j = nI (a.2.1 11 j) ∧ σ.1 26 j = nI (a.2.1 12 j)) ∧
  (σ.1 28 0 = 8 ∧ σ.1 28 4 = nI (a.1 9) ∧ ∀ j, j < a.1 9 → σ.1 29 j = nI (a.2.1 13 j) ∧ σ.1 30 j = nI (a.2.1 14 j) ∧ σ.1 31 j = nI (a.2.1 15 j)) ∧
  ∀ s, s < 4 → (a.1 (20 + s) = 0 → σ.1 (51 + 2 * s) 1 = -1 ∧ σ.1 (51 + 2 * s) 2 = 0) ∧ (a.1 (20 + s) = 1 → σ.1 (51 + 2 * s) 1 = nI (a.1 (24 + s)) ∧ σ.1 (51 + 2 * s) 2 = nI (a.1 (28 + s)) ∧ ∀ j, j < a.1 (28 + s) → σ.1 (52 + 2 * s) j = a.2.2 s j)
/-- Laws at cell k: the rulers; all of it, as laid without the edict w -/
def Seat (a : ab) (k : Nat) (σ : r_St) : Prop := ∀ j, j < 40 → σ.1 (k + 1) j = ruI (ru a j)
def Told (a : ab) (w : Int32) (k : Nat) (σ : r_St) : Prop := σ.1 k 5 = nI (dd a) ∧ Seat a k σ ∧ ∀ j, j < 40 → σ.1 (k + 2) j = nI (sE a w j) ∧ σ.1 (k + 3) j = nI (sY a w j) ∧ σ.1 (k + 4) j = nI (op a w j)
def Inv0 (a : ab) (σ : r_St) : Prop := WF a ∧ B0 a σ ∧ (σ.1 0 15 = 0 → Told a (-1) 32 σ)
/-- the reference's store holds it -/
def B1 (a : ab) (σ : r_St) : Prop :=
  (σ.1 0 1 = nI (a.1 0) ∧ (∀ j, j < a.1 0 → σ.1 1 j = nI (a.2.1 0 j))) ∧
  (σ.1 0 5 = nI (a.1 1) ∧ σ.1 0 6 = nI (a.1 2) ∧ σ.1 0 41 = nI (a.1 10)) ∧
  (σ.1 3 0 = nI (a.1 3) ∧ ∀ j, j < a.1 3 → σ.1 4 j = nI (a.2.1 1 j) ∧ σ.1 5 j = nI (a.2.1 2 j)) ∧
  (σ.1 3 1 = nI (a.1 4) ∧ ∀ j, j < a.1 4 → σ.1 6 j = nI (a.2.1 3 j)) ∧
  (σ.1 3 2 = nI (a.1 5) ∧ ∀ j, j < a.1 5 → σ.1 7 j = nI (a.2.1 4 j) ∧ σ.1 8 j = nI (a.2.1 5 j)) ∧
  (σ.1 3 3 = nI (a.1 6) ∧ ∀ j, j < a.1 6 → σ.1 9 j = nI (a.2.1 6 j) ∧ σ.1 10 j = nI (a.2.1 7 j) ∧ σ.1 11 j = nI (a.2.1 8 j)) ∧
  (σ.1 3 4 = nI (a.1 7) ∧ ∀ j, j < a.1 7 → σ.1 12 j = nI (a.2.1 9 j) ∧ σ.1 13 j = nI (a.2.1 10 j)) ∧
  (σ.1 0 29 = nI (a.1 8) ∧ ∀ j, j < a.1 8 → σ.1 22 j = nI (a.2.1 11 j) ∧ σ.1 23 j = nI (a.2.1 12 j)) ∧
  (σ.1 0 32 = nI (a.1 9) ∧ ∀ j, j < a.1 9 → σ.1 24 j = nI (a.2.1 13 j) ∧ σ.1 25 j = nI (a.2.1 14 j) ∧ σ.1 26 j = nI (a.2.1 15 j)) ∧
  ∀ s, s < 4 → σ.1 27 s = nI (a.1 (20 + s)) ∧ (a.1 (20 + s) = 1 → σ.1 28 s = nI (a.1 (24 + s)) ∧ σ.1 29 s = nI (a.1 (28 + s)) ∧ ∀ j, j < a.1 (28 + s) → σ.1 30 (60 * s + j) = a.2.2 s j)
def Inv1 (a : ab) (σ : r_St) : Prop := WF a ∧ B1 a σ
