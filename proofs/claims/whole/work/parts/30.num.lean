/-! ===== numbers: ints that are naturals, ranges, bits, words of longs ===== -/
theorem wI_same (σ : r_St) (k j : Nat) (v : Int32) : (wI σ k j v).1 k j = v := by simp [wI, upd]
theorem wI_cell {c k : Nat} (σ : r_St) (j : Nat) (v : Int32) (h : ¬ c = k) : (wI σ k j v).1 c = σ.1 c := by simp [wI, h]
theorem wI_place {i j : Nat} (σ : r_St) (k : Nat) (v : Int32) (h : ¬ i = j) : (wI σ k j v).1 k i = σ.1 k i := by simp [wI, upd, h]
theorem wI_long (σ : r_St) (k j : Nat) (v : Int32) : (wI σ k j v).2 = σ.2 := rfl
theorem wI_rd (σ : r_St) (k j c i : Nat) (v : Int32) : (wI σ k j v).1 c i = if c = k then (if i = j then v else σ.1 k i) else σ.1 c i := by
  by_cases h : c = k
  · subst h
    simp [wI, upd]
  · simp [wI, h]
theorem wL_int (σ : r_St) (j : Nat) (v : Int64) : (wL σ j v).1 = σ.1 := rfl
theorem wL_rd (σ : r_St) (j i : Nat) (v : Int64) : (wL σ j v).2 i = if i = j then v else σ.2 i := rfl
theorem n_and (a b : Nat) : nI a &&& nI b = nI (a &&& b) := by
  apply Int32.toBitVec_inj.1
  show BitVec.ofNat 32 a &&& BitVec.ofNat 32 b = BitVec.ofNat 32 (a &&& b)
  apply BitVec.eq_of_getLsbD_eq
  intro i hi
  simp [hi]
theorem n_or (a b : Nat) : nI a ||| nI b = nI (a ||| b) := by
  apply Int32.toBitVec_inj.1
  show BitVec.ofNat 32 a ||| BitVec.ofNat 32 b = BitVec.ofNat 32 (a ||| b)
  apply BitVec.eq_of_getLsbD_eq
  intro i hi
  simp [hi]
theorem n_xor (a b : Nat) : nI a ^^^ nI b = nI (a ^^^ b) := by
  apply Int32.toBitVec_inj.1
  show BitVec.ofNat 32 a ^^^ BitVec.ofNat 32 b = BitVec.ofNat 32 (a ^^^ b)
  apply BitVec.eq_of_getLsbD_eq
  intro i hi
  simp [hi]
theorem l_and (a b : Nat) : lN a &&& lN b = lN (a &&& b) := by
  apply Int64.toBitVec_inj.1
  show BitVec.ofNat 64 a &&& BitVec.ofNat 64 b = BitVec.ofNat 64 (a &&& b)
  apply BitVec.eq_of_getLsbD_eq
  intro i hi
  simp [hi]
theorem l_or (a b : Nat) : lN a ||| lN b = lN (a ||| b) := by
  apply Int64.toBitVec_inj.1
  show BitVec.ofNat 64 a ||| BitVec.ofNat 64 b = BitVec.ofNat 64 (a ||| b)
  apply BitVec.eq_of_getLsbD_eq
  intro i hi
  simp [hi]
theorem l_xor (a b : Nat) : lN a ^^^ lN b = lN (a ^^^ b) := by
  apply Int64.toBitVec_inj.1
  show BitVec.ofNat 64 a ^^^ BitVec.ofNat 64 b = BitVec.ofNat 64 (a ^^^ b)
  apply BitVec.eq_of_getLsbD_eq
  intro i hi
  simp [hi]
/-- a range whose ends are naturals -/
theorem IN_iff {x : Int32} {lo hi : Nat} (h1 : hi < 2147483648) (h2 : lo < 2147483648) : IN x (nI lo) (nI hi) ↔ ∃ j : Nat, lo ≤ j ∧ j ≤ hi ∧ x = nI j := by
  constructor
  · intro h
    have a := Int32.le_iff_toInt_le.mp h.1
    have b := Int32.le_iff_toInt_le.mp h.2
    rw [nI_toInt (by omega)] at a b
    refine ⟨x.toInt.toNat, by omega, by omega, ?_⟩
    apply Int32.toInt_inj.mp
    rw [nI_toInt (by omega)]
    omega
  · rintro ⟨j, a, b, rfl⟩
    exact ⟨nI_le a (by omega), nI_le b (by omega)⟩
theorem IN_lt_iff {x : Int32} {n : Nat} (h1 : n < 2147483648) : IN x 0 (nI n - 1) ↔ ∃ j : Nat, j < n ∧ x = nI j := by
  cases n with
  | zero =>
    constructor
    · intro h
      have a := Int32.le_trans h.1 h.2
      exact absurd a (by decide)
    · rintro ⟨j, a, _⟩
      omega
  | succ n =>
    rw [nI_pred, show (0 : Int32) = nI 0 from rfl, IN_iff (by omega) (by omega)]
    constructor
    · rintro ⟨j, _, b, e⟩
      exact ⟨j, by omega, e⟩
    · rintro ⟨j, b, e⟩
      exact ⟨j, by omega, by omega, e⟩
theorem IN_m1 {x : Int32} {n : Nat} (h1 : n < 2147483648) (h : IN x (-1) (nI n)) : x = -1 ∨ ∃ j : Nat, j ≤ n ∧ x = nI j := by
  have a := Int32.le_iff_toInt_le.mp h.1
  have b := Int32.le_iff_toInt_le.mp h.2
  rw [nI_toInt (by omega)] at b
  have e : (-1 : Int32).toInt = -1 := by decide
  rw [e] at a
  rcases (show x.toInt = -1 ∨ 0 ≤ x.toInt by omega) with q | q
  · left
    apply Int32.toInt_inj.mp
    rw [q, e]
  · right
    refine ⟨x.toInt.toNat, by omega, ?_⟩
    apply Int32.toInt_inj.mp
    rw [nI_toInt (by omega)]
    omega
theorem nI_m1 {n : Nat} (h : n < 2147483648) : ¬ nI n = -1 := by
  intro e
  have a := nI_toInt h
  rw [e] at a
  have b : (-1 : Int32).toInt = -1 := by decide
  omega
theorem nI_inj {a b : Nat} (ha : a < 2147483648) (hb : b < 2147483648) (h : nI a = nI b) : a = b := (nI_eq ha hb).mp h
theorem nI_ne {a b : Nat} (ha : a < 2147483648) (hb : b < 2147483648) (h : ¬ a = b) : ¬ nI a = nI b := fun e => h (nI_inj ha hb e)
/-- shifts and bits of ints -/
theorem sl_nI {a k : Nat} (hk : k < 32) (h : a * 2 ^ k < 2147483648) : sl (nI a) (nI k) = nI (a * 2 ^ k) := by
  have s_l : ∀ n, n < 32 → ((nI n &&& 31).toBitVec.smod 32).toNat = n := by decide
  exact pk_shlN _ k (s_l k hk) (by omega)
theorem sl_1 {k : Nat} (hk : k < 31) : sl 1 (nI k) = nI (2 ^ k) := by
  have h : 2 ^ k < 2 ^ 31 := Nat.pow_lt_pow_right (by decide) hk
  have e := sl_nI (a := 1) (k := k) (by omega) (by omega)
  rw [Nat.one_mul] at e
  exact e
theorem sr_nI {a k : Nat} (hk : k < 32) (h : a < 2147483648) : sr (nI a) (nI k) = nI (a / 2 ^ k) := by
  have s_l : ∀ n, n < 32 → ((nI n &&& 31).toBitVec.smod 32).toNat = n := by decide
  exact pk_shrN h _ k (s_l k hk)
theorem iu_nI {a k : Nat} (hk : k < 32) (h : a < 4294967296) : iu (nI a) (nI k) = nI (a / 2 ^ k) := by
  have s_u : ∀ n, n < 32 → (((nI n).toUInt32 &&& Int32.toUInt32 31).toBitVec % 32).toNat = n := by decide
  exact pk_ushrN h _ k (s_u k hk)
theorem and1 (a : Nat) : nI a &&& 1 = nI (a % 2) := by
  rw [show (1 : Int32) = nI 1 from rfl, n_and]
  congr 1
  exact Nat.and_one_is_mod a
def b2n (b : Bool) : Nat := if b then 1 else 0
theorem b2n_lt (b : Bool) : b2n b < 2 := by cases b <;> decide
theorem div_bit (m k : Nat) : m / 2 ^ k % 2 = b2n (m.testBit k) := by
  rw [Nat.testBit_eq_decide_div_mod_eq]
  unfold b2n
  rcases Nat.mod_two_eq_zero_or_one (m / 2 ^ k) with h | h <;> simp [h]
theorem iu_bit {m k : Nat} (hk : k < 32) (h : m < 4294967296) : iu (nI m) (nI k) &&& 1 = nI (b2n (m.testBit k)) := by rw [iu_nI hk h, and1, div_bit]
theorem sr_bit {m k : Nat} (hk : k < 32) (h : m < 2147483648) : sr (nI m) (nI k) &&& 1 = nI (b2n (m.testBit k)) := by rw [sr_nI hk h, and1, div_bit]
theorem b2n_0 {b : Bool} : nI (b2n b) = 0 ↔ b = false := by cases b <;> decide
theorem b2n_1 {b : Bool} : nI (b2n b) = 1 ↔ b = true := by cases b <;> decide
theorem b2n_n {b : Bool} {n : Nat} (h : n < 2) : nI (b2n b) = nI n ↔ b2n b = n := nI_eq (by have := b2n_lt b; omega) (by omega)
theorem rm_nI {a b : Nat} (ha : a < 2147483648) (h0 : 0 < b) (hb : b < 2147483648) : rm (nI a) (nI b) = nI (a % b) := pk_rem ha h0 hb
theorem rm_2 {a : Nat} (ha : a < 2147483648) : rm (nI a) 2 = nI (a % 2) := rm_nI ha (by decide) (by decide)
theorem rm_3 {a : Nat} (ha : a < 2147483648) : rm (nI a) 3 = nI (a % 3) := rm_nI ha (by decide) (by decide)
theorem rm_7 {a : Nat} (ha : a < 2147483648) : rm (nI a) 7 = nI (a % 7) := rm_nI ha (by decide) (by decide)
theorem rm_9 {a : Nat} (ha : a < 2147483648) : rm (nI a) 9 = nI (a % 9) := rm_nI ha (by decide) (by decide)
/-- a row of bits -/
def mkb (p : Nat → Bool) : Nat → Nat
  | 0 => 0
  | n + 1 => mkb p n + (if p n then 2 ^ n else 0)
theorem mkb_lt (p : Nat → Bool) (n : Nat) : mkb p n < 2 ^ n := by
  induction n with
  | zero => simp [mkb]
  | succ n ih =>
    unfold mkb
    rw [Nat.pow_succ]
    split <;> omega
theorem mkb_bit (p : Nat → Bool) (n i : Nat) : (mkb p n).testBit i = (decide (i < n) && p i) := by
  induction n with
  | zero => simp [mkb]
  | succ n ih =>
    unfold mkb
    have hl := mkb_lt p n
    cases hp : p n with
    | false =>
      simp only [Bool.false_eq_true, if_false, Nat.add_zero]
      rw [ih]
      by_cases h : i = n
      · subst h
        simp [hp]
      · have : (i < n + 1) ↔ (i < n) := by omega
        simp [this]
    | true =>
      simp only [if_true]
      have e : mkb p n + 2 ^ n = 2 ^ n * 1 + mkb p n := by omega
      rw [e, Nat.testBit_two_pow_mul_add 1 hl, ih]
      by_cases h : i < n
      · have h2 : i < n + 1 := by omega
        simp [h, h2]
      · rcases (show i = n ∨ n < i by omega) with h2 | h2
        · subst h2
          simp [hp]
        · obtain ⟨q, rfl⟩ : ∃ q, i = n + (q + 1) := ⟨i - n - 1, by omega⟩
          have h3 : (1 : Nat) < 2 ^ (q + 1) := @Nat.one_lt_two_pow (q + 1) (by omega)
          have h4 : ¬ n + (q + 1) < n := by omega
          have h5 : ¬ n + (q + 1) < n + 1 := by omega
          rw [if_neg h4, show n + (q + 1) - n = q + 1 by omega, Nat.testBit_lt_two_pow h3]
          simp [h5]
theorem mkb_or (p : Nat → Bool) (n : Nat) : mkb p n ||| 2 ^ n = mkb p n + 2 ^ n := by
  have h := Nat.two_pow_add_eq_or_of_lt (mkb_lt p n) 1
  rw [Nat.mul_one] at h
  rw [Nat.or_comm, ← h, Nat.add_comm]
theorem mkb_cong {p q : Nat → Bool} {n : Nat} (h : ∀ k, k < n → p k = q k) : mkb p n = mkb q n := by
  induction n with
  | zero => rfl
  | succ n ih =>
    unfold mkb
    rw [ih (fun k hk => h k (by omega)), h n (by omega)]
theorem mkb_test {p : Nat → Bool} {n i : Nat} (h : i < n) : (mkb p n).testBit i = p i := by rw [mkb_bit]; simp [h]
theorem mkb_out {p : Nat → Bool} {n i : Nat} (h : n ≤ i) : (mkb p n).testBit i = false := by rw [mkb_bit]; simp; omega
/-- every number below 2^n is its own row of bits -/
theorem mkb_self {m n : Nat} (h : m < 2 ^ n) : mkb (fun i => m.testBit i) n = m := by
  apply Nat.eq_of_testBit_eq
  intro i
  rw [mkb_bit]
  by_cases hi : i < n
  · simp [hi]
  · have h2 : m < 2 ^ i := Nat.lt_of_lt_of_le h (Nat.pow_le_pow_right (by decide) (by omega))
    rw [Nat.testBit_lt_two_pow h2]
    simp
theorem xor_lt {a b n : Nat} (ha : a < 2 ^ n) (hb : b < 2 ^ n) : a ^^^ b < 2 ^ n := Nat.xor_lt_two_pow ha hb
theorem and_lt {a b n : Nat} (ha : a < 2 ^ n) : a &&& b < 2 ^ n := Nat.lt_of_le_of_lt Nat.and_le_left ha
theorem pow_lt8 {k : Nat} (h : k ≤ 8) : 2 ^ k ≤ 256 := by
  have := Nat.pow_le_pow_right (n := 2) (by decide) h
  omega
/-- xor of a row -/
def xr (f : Nat → Nat) : Nat → Nat
  | 0 => 0
  | n + 1 => xr f n ^^^ f n
theorem xr_lt {f : Nat → Nat} {m : Nat} (n : Nat) (h : ∀ k, k < n → f k < 2 ^ m) : xr f n < 2 ^ m := by
  induction n with
  | zero => exact Nat.two_pow_pos m
  | succ n ih => exact xor_lt (ih (fun k hk => h k (by omega))) (h n (by omega))
theorem xr_cong {f g : Nat → Nat} {n : Nat} (h : ∀ k, k < n → f k = g k) : xr f n = xr g n := by
  induction n with
  | zero => rfl
  | succ n ih =>
    unfold xr
    rw [ih (fun k hk => h k (by omega)), h n (by omega)]
/-- is there one below n -/
def exB (n : Nat) (p : Nat → Bool) : Bool := (List.range n).any p
theorem exB_iff {n : Nat} {p : Nat → Bool} : exB n p = true ↔ ∃ j, j < n ∧ p j = true := by simp [exB]
theorem exB_false {n : Nat} {p : Nat → Bool} : exB n p = false ↔ ∀ j, j < n → p j = false := by
  cases h : exB n p with
  | true =>
    obtain ⟨j, h1, h2⟩ := exB_iff.mp h
    simp
    exact ⟨j, h1, h2⟩
  | false =>
    simp
    intro j hj
    cases h2 : p j with
    | false => rfl
    | true =>
      have := exB_iff.mpr ⟨j, hj, h2⟩
      rw [h] at this
      cases this
/-- longs -/
theorem lu_lN {n k : Nat} (hk : k < 64) (hn : n < 9223372036854775808) : lu (lN n) (nI k) = lN (n / 2 ^ k) := by
  have wb_cu : ∀ k, k < 64 → ((nI k).toInt64.toUInt64 &&& Int64.toUInt64 63) = UInt64.ofNat k := by decide
  unfold lu
  rw [wb_cu k hk]
  apply Int64.toBitVec_inj.1
  apply BitVec.eq_of_toNat_eq
  show ((BitVec.ofNat 64 n) >>> (BitVec.ofNat 64 k % 64)).toNat = (BitVec.ofNat 64 (n / 2 ^ k)).toNat
  have h1 : n / 2 ^ k ≤ n := Nat.div_le_self _ _
  have e1 : (BitVec.ofNat 64 k % 64).toNat = k := by
    rw [BitVec.toNat_umod, BitVec.toNat_ofNat]
    show k % 2 ^ 64 % 64 = k
    omega
  show ((BitVec.ofNat 64 n) >>> (BitVec.ofNat 64 k % 64).toNat).toNat = _
  rw [e1, BitVec.toNat_ushiftRight, BitVec.toNat_ofNat, BitVec.toNat_ofNat, Nat.mod_eq_of_lt (by omega), Nat.mod_eq_of_lt (by omega), Nat.shiftRight_eq_div_pow]
theorem lsl_lN {n k : Nat} (hk : k < 64) : lsl (lN n) (nI k) = lN (n * 2 ^ k) := by
  have wb_c : ∀ k, k < 64 → ((nI k).toInt64 &&& 63) = lN k := by decide
  have wb_sm : ∀ k, k < 64 → (BitVec.ofNat 64 k).smod 64 = BitVec.ofNat 64 k := by decide
  unfold lsl
  rw [wb_c k hk]
  apply Int64.toBitVec_inj.1
  apply BitVec.eq_of_toNat_eq
  show ((BitVec.ofNat 64 n) <<< (BitVec.ofNat 64 k).smod 64).toNat = (BitVec.ofNat 64 (n * 2 ^ k)).toNat
  rw [wb_sm k hk]
  show ((BitVec.ofNat 64 n) <<< (BitVec.ofNat 64 k).toNat).toNat = _
  rw [BitVec.toNat_ofNat, Nat.mod_eq_of_lt (show k < 2 ^ 64 by omega), BitVec.toNat_shiftLeft, BitVec.toNat_ofNat, BitVec.toNat_ofNat, Nat.shiftLeft_eq, Nat.mod_mul_mod]
theorem l_and1 (a : Nat) : lN a &&& 1 = lN (a % 2) := by
  rw [show (1 : Int64) = lN 1 from rfl, l_and]
  congr 1
  exact Nat.and_one_is_mod a
theorem lu_bit {m k : Nat} (hk : k < 64) (h : m < 9223372036854775808) : lu (lN m) (nI k) &&& 1 = lN (b2n (m.testBit k)) := by rw [lu_lN hk h, l_and1, div_bit]
theorem cmp_1 {b : Bool} : lg_cmp (lN (b2n b)) 1 = 0 ↔ b = true := by cases b <;> decide
theorem hold_iff {m k : Nat} (hk : k < 64) (h : m < 9223372036854775808) : lg_cmp (lu (lN m) (nI k) &&& 1) 1 = 0 ↔ m.testBit k = true := by rw [lu_bit hk h, cmp_1]
