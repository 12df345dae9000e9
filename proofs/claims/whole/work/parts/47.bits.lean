/-! ===== bitCount: Integer's and Long's ===== -/
theorem and_split (i a b M c : Nat) (hb : b < 2 ^ i) (hc : c < 2 ^ i) : (2 ^ i * a + b) &&& (2 ^ i * M + c) = 2 ^ i * (a &&& M) + (b &&& c) := by
  apply Nat.eq_of_testBit_eq
  intro j
  rw [Nat.testBit_and, Nat.testBit_two_pow_mul_add _ hb, Nat.testBit_two_pow_mul_add _ hc, Nat.testBit_two_pow_mul_add _ (and_lt hb)]
  split
  · rw [Nat.testBit_and]
  · rw [Nat.testBit_and]
def mk_b (c : Nat) : Nat → Nat
  | 0 => 0
  | k + 1 => 256 * mk_b c k + c
def mb (g : Nat → Nat) : Nat → Nat → Nat
  | 0, _ => 0
  | k + 1, x => 256 * mb g k (x / 256) + g (x % 256)
def f1b (r : Nat) : Nat := r - ((r / 2) &&& 85)
def f2b (r : Nat) : Nat := (r &&& 51) + ((r / 4) &&& 51)
def f3b (r : Nat) : Nat := (r + r / 16) % 16
def pc8 (r : Nat) : Nat := sm (fun i => b2n (r.testBit i)) 8
theorem fb_all : ∀ r, r < 256 → f1b r < 256 ∧ f2b (f1b r) % 16 ≤ 4 ∧ f2b (f1b r) ≤ 68 ∧ f3b (f2b (f1b r)) = pc8 r ∧ pc8 r ≤ 8 := by decide +kernel
theorem F1_mb : ∀ k x, x < 256 ^ k → x - ((x / 2) &&& mk_b 85 k) = mb f1b k x ∧ ((x / 2) &&& mk_b 85 k) ≤ x := by
  intro k
  induction k with
  | zero =>
    intro x hx
    have : x = 0 := by simp at hx; omega
    subst this
    exact ⟨rfl, Nat.le_refl _⟩
  | succ k ih =>
    intro x hx
    have hq : x / 256 < 256 ^ k := by
      rw [Nat.pow_succ] at hx
      exact Nat.div_lt_of_lt_mul (by omega)
    obtain ⟨i1, i2⟩ := ih (x / 256) hq
    have e1 : x / 2 = 2 ^ 8 * (x / 256 / 2) + (128 * (x / 256 % 2) + x % 256 / 2) := by omega
    have e2 : mk_b 85 (k + 1) = 2 ^ 8 * mk_b 85 k + 85 := rfl
    have e3 : (128 * (x / 256 % 2) + x % 256 / 2) &&& 85 = (x % 256 / 2) &&& 85 := by
      have := and_split 7 (x / 256 % 2) (x % 256 / 2) 0 85 (by omega) (by decide)
      simpa using this
    have e4 : (x / 2) &&& mk_b 85 (k + 1) = 256 * ((x / 256 / 2) &&& mk_b 85 k) + ((x % 256 / 2) &&& 85) := by
      rw [e1, e2, and_split 8 _ _ _ _ (by omega) (by decide), e3]
    have h3 : ((x % 256 / 2) &&& 85) ≤ x % 256 / 2 := Nat.and_le_left
    rw [e4]
    constructor
    · show _ = 256 * mb f1b k (x / 256) + f1b (x % 256)
      rw [← i1]
      unfold f1b
      omega
    · omega
theorem mb_mod (g : Nat → Nat) (k x : Nat) (h : ∀ r, r < 256 → g r < 256) : mb g (k + 1) x % 256 = g (x % 256) ∧ mb g (k + 1) x / 256 = mb g k (x / 256) := by
  have e : mb g (k + 1) x = 256 * mb g k (x / 256) + g (x % 256) := rfl
  have := h (x % 256) (Nat.mod_lt _ (by decide))
  rw [e]
  omega
theorem F2_mb : ∀ k x, x < 256 ^ k → (mb f1b k x &&& mk_b 51 k) + ((mb f1b k x / 4) &&& mk_b 51 k) = mb (fun r => f2b (f1b r)) k x := by
  intro k
  induction k with
  | zero => intro x hx; simp [mb, mk_b]
  | succ k ih =>
    intro x hx
    have hq : x / 256 < 256 ^ k := by
      rw [Nat.pow_succ] at hx
      exact Nat.div_lt_of_lt_mul (by omega)
    have i1 := ih (x / 256) hq
    have hr : x % 256 < 256 := Nat.mod_lt _ (by decide)
    have hf := (fb_all _ hr).1
    have e0 : mb f1b (k + 1) x = 2 ^ 8 * mb f1b k (x / 256) + f1b (x % 256) := rfl
    have e2 : mk_b 51 (k + 1) = 2 ^ 8 * mk_b 51 k + 51 := rfl
    have e1 : mb f1b (k + 1) x / 4 = 2 ^ 8 * (mb f1b k (x / 256) / 4) + (64 * (mb f1b k (x / 256) % 4) + f1b (x % 256) / 4) := by rw [e0]; omega
    have e3 : (64 * (mb f1b k (x / 256) % 4) + f1b (x % 256) / 4) &&& 51 = (f1b (x % 256) / 4) &&& 51 := by
      have := and_split 6 (mb f1b k (x / 256) % 4) (f1b (x % 256) / 4) 0 51 (by omega) (by decide)
      simpa using this
    rw [e1, e0, e2, and_split 8 _ _ _ _ (by omega) (by decide), and_split 8 _ _ _ _ (by omega) (by decide), e3]
    show _ = 256 * mb (fun r => f2b (f1b r)) k (x / 256) + f2b (f1b (x % 256))
    rw [← i1]
    unfold f2b
    omega
theorem F3_mb : ∀ k x, x < 256 ^ k → (mb (fun r => f2b (f1b r)) k x + mb (fun r => f2b (f1b r)) k x / 16) &&& mk_b 15 k = mb pc8 k x := by
  intro k
  induction k with
  | zero => intro x hx; simp [mb, mk_b]
  | succ k ih =>
    intro x hx
    have hq : x / 256 < 256 ^ k := by
      rw [Nat.pow_succ] at hx
      exact Nat.div_lt_of_lt_mul (by omega)
    have i1 := ih (x / 256) hq
    have hr : x % 256 < 256 := Nat.mod_lt _ (by decide)
    obtain ⟨g1, g2, g3, g4, g5⟩ := fb_all _ hr
    have e0 : mb (fun r => f2b (f1b r)) (k + 1) x = 256 * mb (fun r => f2b (f1b r)) k (x / 256) + f2b (f1b (x % 256)) := rfl
    have q4 : mb (fun r => f2b (f1b r)) k (x / 256) % 16 ≤ 4 := by
      cases k with
      | zero => simp [mb]
      | succ k =>
        have e9 : mb (fun r => f2b (f1b r)) (k + 1) (x / 256) = 256 * mb (fun r => f2b (f1b r)) k (x / 256 / 256) + f2b (f1b (x / 256 % 256)) := rfl
        have := (fb_all (x / 256 % 256) (Nat.mod_lt _ (by decide))).2.1
        rw [e9]
        omega
    have e2 : mk_b 15 (k + 1) = 2 ^ 8 * mk_b 15 k + 15 := rfl
    have e1 : mb (fun r => f2b (f1b r)) (k + 1) x + mb (fun r => f2b (f1b r)) (k + 1) x / 16 = 2 ^ 8 * (mb (fun r => f2b (f1b r)) k (x / 256) + mb (fun r => f2b (f1b r)) k (x / 256) / 16) + (f2b (f1b (x % 256)) + f2b (f1b (x % 256)) / 16 + 16 * (mb (fun r => f2b (f1b r)) k (x / 256) % 16)) := by rw [e0]; omega
    rw [e1, e2, and_split 8 _ _ _ _ (by omega) (by decide), i1]
    show _ = 256 * mb pc8 k (x / 256) + pc8 (x % 256)
    rw [← g4]
    have e3 : (f2b (f1b (x % 256)) + f2b (f1b (x % 256)) / 16 + 16 * (mb (fun r => f2b (f1b r)) k (x / 256) % 16)) &&& 15 = f3b (f2b (f1b (x % 256))) := by
      rw [show (15 : Nat) = 2 ^ 4 - 1 from rfl, Nat.and_two_pow_sub_one_eq_mod]
      unfold f3b
      omega
    rw [e3]
def pc40 (M : Nat) : Nat := sm (fun d => b2n (M.testBit d)) 40
theorem sm_8 (f : Nat → Nat) (n : Nat) : sm f (n + 8) = sm f n + sm (fun i => f (n + i)) 8 := by
  show sm f n + f n + f (n + 1) + f (n + 2) + f (n + 3) + f (n + 4) + f (n + 5) + f (n + 6) + f (n + 7) = sm f n + (0 + f n + f (n + 1) + f (n + 2) + f (n + 3) + f (n + 4) + f (n + 5) + f (n + 6) + f (n + 7))
  omega
theorem pc_byte (M j : Nat) : sm (fun i => b2n (M.testBit (8 * j + i))) 8 = pc8 (M / 256 ^ j % 256) := by
  unfold pc8
  refine sm_cong (fun i hi => ?_)
  congr 1
  rw [show (256 : Nat) ^ j = 2 ^ (8 * j) by rw [Nat.pow_mul], show (256 : Nat) = 2 ^ 8 from rfl, Nat.testBit_mod_two_pow, Nat.testBit_div_two_pow]
  simp [hi, Nat.add_comm]
theorem pc40_bytes (M : Nat) : pc40 M = pc8 (M % 256) + pc8 (M / 256 % 256) + pc8 (M / 65536 % 256) + pc8 (M / 16777216 % 256) + pc8 (M / 4294967296 % 256) := by
  unfold pc40
  rw [show (40 : Nat) = 32 + 8 from rfl, sm_8, show (32 : Nat) = 24 + 8 from rfl, sm_8, show (24 : Nat) = 16 + 8 from rfl, sm_8, show (16 : Nat) = 8 + 8 from rfl, sm_8, show (8 : Nat) = 0 + 8 from rfl, sm_8]
  have b0 := pc_byte M 0
  have b1 := pc_byte M 1
  have b2 := pc_byte M 2
  have b3 := pc_byte M 3
  have b4 := pc_byte M 4
  simp only [Nat.pow_zero, Nat.div_one, Nat.mul_zero, Nat.zero_add, Nat.mul_one, Nat.pow_one] at b0 b1
  show 0 + sm (fun i => b2n (M.testBit (0 + i))) 8 + sm (fun i => b2n (M.testBit (8 + i))) 8 + sm (fun i => b2n (M.testBit (16 + i))) 8 + sm (fun i => b2n (M.testBit (24 + i))) 8 + sm (fun i => b2n (M.testBit (32 + i))) 8 = _
  have b2' : sm (fun i => b2n (M.testBit (16 + i))) 8 = pc8 (M / 65536 % 256) := b2
  have b3' : sm (fun i => b2n (M.testBit (24 + i))) 8 = pc8 (M / 16777216 % 256) := b3
  have b4' : sm (fun i => b2n (M.testBit (32 + i))) 8 = pc8 (M / 4294967296 % 256) := b4
  simp only [Nat.zero_add]
  rw [b0, b1, b2', b3', b4']
section BCT
variable {σ : r_St} {K : Int32 → r_St → Prop}
set_option maxRecDepth 4000 in
theorem kJ_long {M : Nat} (hM : M < 1099511627776) (h : K (nI (pc40 M)) σ) : M_J13_bitCount_95d88 σ K (lN M) := by
  have hp : M < 256 ^ 8 := by
    have : (256 : Nat) ^ 8 = 18446744073709551616 := by decide
    omega
  obtain ⟨a1, a2⟩ := F1_mb 8 M hp
  have a3 := F2_mb 8 M hp
  have a4 := F3_mb 8 M hp
  have m5 : mk_b 85 8 = 6148914691236517205 := by decide
  have m3 : mk_b 51 8 = 3689348814741910323 := by decide
  have mf : mk_b 15 8 = 1085102592571150095 := by decide
  rw [m5] at a1 a2
  rw [m3] at a3
  rw [mf] at a4
  -- bounds and the five bytes
  have z : M / 256 / 256 / 256 / 256 / 256 = 0 := by omega
  have u1 : mb f1b 8 M ≤ M := by rw [← a1]; omega
  generalize hx1 : mb f1b 8 M = x1 at a1 a3 u1
  have l2 : x1 &&& 3689348814741910323 ≤ x1 := Nat.and_le_left
  have l2' : (x1 / 4) &&& 3689348814741910323 ≤ x1 / 4 := Nat.and_le_left
  generalize hx2 : mb (fun r => f2b (f1b r)) 8 M = x2 at a3 a4
  have u2 : x2 ≤ 2 * M := by omega
  have pz : pc8 0 = 0 := by decide
  have e5 : mb pc8 8 M = 256 * (256 * (256 * (256 * (256 * (256 * (256 * (256 * 0 + pc8 (M / 256 / 256 / 256 / 256 / 256 / 256 / 256 % 256)) + pc8 (M / 256 / 256 / 256 / 256 / 256 / 256 % 256)) + pc8 (M / 256 / 256 / 256 / 256 / 256 % 256)) + pc8 (M / 256 / 256 / 256 / 256 % 256)) + pc8 (M / 256 / 256 / 256 % 256)) + pc8 (M / 256 / 256 % 256)) + pc8 (M / 256 % 256)) + pc8 (M % 256) := rfl
  have pb : ∀ r, pc8 (r % 256) ≤ 8 := fun r => (fb_all _ (Nat.mod_lt _ (by decide))).2.2.2.2
  have e6 : M / 256 / 256 = M / 65536 := by omega
  have e7 : M / 256 / 256 / 256 = M / 16777216 := by omega
  have e8 : M / 256 / 256 / 256 / 256 = M / 4294967296 := by omega
  rw [z, show (0 : Nat) / 256 / 256 % 256 = 0 from rfl, pz, e8, e7, e6] at e5
  have p0 := pb M
  have p1 := pb (M / 256)
  have p2 := pb (M / 65536)
  have p3 := pb (M / 16777216)
  have p4 := pb (M / 4294967296)
  rw [pc40_bytes] at h
  generalize pc8 (M % 256) = r0 at *
  generalize pc8 (M / 256 % 256) = r1 at *
  generalize pc8 (M / 65536 % 256) = r2 at *
  generalize pc8 (M / 16777216 % 256) = r3 at *
  generalize pc8 (M / 4294967296 % 256) = r4 at *
  generalize mb pc8 8 M = x3 at a4 e5
  have c1 : lN M - (lu (lN M) 1 &&& 6148914691236517205) = lN x1 := by
    have : lu (lN M) (nI 1) = lN (M / 2 ^ 1) := lu_lN (by decide) (by omega)
    rw [show (1 : Int32) = nI 1 from rfl, this, show (6148914691236517205 : Int64) = lN 6148914691236517205 from rfl, l_and, lN_sub a2, a1]
  have c2 : (lN x1 &&& 3689348814741910323) + (lu (lN x1) 2 &&& 3689348814741910323) = lN x2 := by
    have : lu (lN x1) (nI 2) = lN (x1 / 2 ^ 2) := lu_lN (by decide) (by omega)
    rw [show (2 : Int32) = nI 2 from rfl, this, show (3689348814741910323 : Int64) = lN 3689348814741910323 from rfl, l_and, l_and, lN_add, a3]
  have c3 : (lN x2 + lu (lN x2) 4) &&& 1085102592571150095 = lN x3 := by
    have : lu (lN x2) (nI 4) = lN (x2 / 2 ^ 4) := lu_lN (by decide) (by omega)
    rw [show (4 : Int32) = nI 4 from rfl, this, show (1085102592571150095 : Int64) = lN 1085102592571150095 from rfl, lN_add, l_and, a4]
  have c4 : lN x3 + lu (lN x3) 8 = lN (x3 + x3 / 256) := by
    have : lu (lN x3) (nI 8) = lN (x3 / 2 ^ 8) := lu_lN (by decide) (by omega)
    rw [show (8 : Int32) = nI 8 from rfl, this, lN_add]
  have c5 : lN (x3 + x3 / 256) + lu (lN (x3 + x3 / 256)) 16 = lN (x3 + x3 / 256 + (x3 + x3 / 256) / 65536) := by
    have : lu (lN (x3 + x3 / 256)) (nI 16) = lN ((x3 + x3 / 256) / 2 ^ 16) := lu_lN (by decide) (by omega)
    rw [show (16 : Int32) = nI 16 from rfl, this, lN_add]
  refine b_J13_bitCount_95d88 ?_
  rw [c1, c2, c3, c4, c5]
  generalize hx5 : x3 + x3 / 256 + (x3 + x3 / 256) / 65536 = x5
  have c6 : lN x5 + lu (lN x5) 32 = lN (x5 + x5 / 4294967296) := by
    have : lu (lN x5) (nI 32) = lN (x5 / 2 ^ 32) := lu_lN (by decide) (by omega)
    rw [show (32 : Int32) = nI 32 from rfl, this, lN_add]
  rw [c6, lN_i, show (127 : Int32) = nI (2 ^ 7 - 1) from rfl, n_and, Nat.and_two_pow_sub_one_eq_mod]
  have fin7 : (x5 + x5 / 4294967296) % 2 ^ 7 = r0 + r1 + r2 + r3 + r4 := by
    show (x5 + x5 / 4294967296) % 128 = _
    clear a1 a2 a3 a4 u1 l2 l2' u2 c1 c2 c3 c4 c5 c6 h hp z e6 e7 e8
    have d3 : x3 = r0 + 256 * (r1 + 256 * (r2 + 256 * (r3 + 256 * r4))) := by omega
    have d4 : x3 / 256 = r1 + 256 * (r2 + 256 * (r3 + 256 * r4)) := by omega
    have d5 : x3 + x3 / 256 = (r0 + r1 + 256 * (r1 + r2)) + 65536 * (r2 + r3 + 256 * (r3 + r4) + 65536 * r4) := by omega
    have d6 : (x3 + x3 / 256) / 65536 = r2 + r3 + 256 * (r3 + r4) + 65536 * r4 := by omega
    have d7 : x5 = (r0 + r1 + r2 + r3 + 256 * (r1 + r2 + r3 + r4) + 65536 * (r2 + r3 + r4) + 16777216 * (r3 + r4)) + 4294967296 * r4 := by omega
    have d8 : x5 / 4294967296 = r4 := by omega
    omega
  rw [fin7]
  exact h
set_option maxRecDepth 4000 in
theorem kJ_int {m : Nat} (hm : m < 256) (h : K (nI (pc8 m)) σ) : M_J6_bitCount_0f7a4 σ K (nI m) := by
  refine b_J6_bitCount_0f7a4 ?_
  have all : ∀ m, m < 256 → ((((((((nI m - ((iu (nI m) 1) &&& 1431655765)) &&& 858993459) + ((iu (nI m - ((iu (nI m) 1) &&& 1431655765)) 2) &&& 858993459)) + (iu (((nI m - ((iu (nI m) 1) &&& 1431655765)) &&& 858993459) + ((iu (nI m - ((iu (nI m) 1) &&& 1431655765)) 2) &&& 858993459)) 4)) &&& 252645135) + (iu (((((nI m - ((iu (nI m) 1) &&& 1431655765)) &&& 858993459) + ((iu (nI m - ((iu (nI m) 1) &&& 1431655765)) 2) &&& 858993459)) + (iu (((nI m - ((iu (nI m) 1) &&& 1431655765)) &&& 858993459) + ((iu (nI m - ((iu (nI m) 1) &&& 1431655765)) 2) &&& 858993459)) 4)) &&& 252645135) 8)) + (iu ((((((nI m - ((iu (nI m) 1) &&& 1431655765)) &&& 858993459) + ((iu (nI m - ((iu (nI m) 1) &&& 1431655765)) 2) &&& 858993459)) + (iu (((nI m - ((iu (nI m) 1) &&& 1431655765)) &&& 858993459) + ((iu (nI m - ((iu (nI m) 1) &&& 1431655765)) 2) &&& 858993459)) 4)) &&& 252645135) + (iu (((((nI m - ((iu (nI m) 1) &&& 1431655765)) &&& 858993459) + ((iu (nI m - ((iu (nI m) 1) &&& 1431655765)) 2) &&& 858993459)) + (iu (((nI m - ((iu (nI m) 1) &&& 1431655765)) &&& 858993459) + ((iu (nI m - ((iu (nI m) 1) &&& 1431655765)) 2) &&& 858993459)) 4)) &&& 252645135) 8)) 16)) &&& 63) = nI (pc8 m) := by decide +kernel
  rw [all m hm]
  exact h
end BCT
