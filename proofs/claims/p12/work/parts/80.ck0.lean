/-! THE CHECKER, 1: ints. Intervals of what the machine computes -/
theorem ci_rng (x : Int32) : -2147483648 ≤ x.toInt ∧ x.toInt ≤ 2147483647 := by
  have a := x.le_toInt
  have b := x.toInt_lt
  omega
theorem ci_bm {n : Int} (h : -2147483648 ≤ n ∧ n ≤ 2147483647) : n.bmod (2 ^ 32) = n := Int.bmod_eq_of_le (by omega) (by omega)
theorem ci_add {x y : Int32} (h : -2147483648 ≤ x.toInt + y.toInt ∧ x.toInt + y.toInt ≤ 2147483647) : (x + y).toInt = x.toInt + y.toInt := by
  rw [Int32.toInt_add]; exact ci_bm h
theorem ci_sub {x y : Int32} (h : -2147483648 ≤ x.toInt - y.toInt ∧ x.toInt - y.toInt ≤ 2147483647) : (x - y).toInt = x.toInt - y.toInt := by
  rw [Int32.toInt_sub]; exact ci_bm h
theorem ci_mul {x y : Int32} (h : -2147483648 ≤ x.toInt * y.toInt ∧ x.toInt * y.toInt ≤ 2147483647) : (x * y).toInt = x.toInt * y.toInt := by
  rw [Int32.toInt_mul]; exact ci_bm h
theorem ci_neg {x : Int32} (h : -2147483647 ≤ x.toInt) : (-x).toInt = -x.toInt := by
  rw [Int32.toInt_neg]
  have := ci_rng x
  exact ci_bm ⟨by omega, by omega⟩
theorem ci_nat {x : Int32} (h : 0 ≤ x.toInt) : (x.toBitVec.toNat : Int) = x.toInt := by
  rw [← Int32.toInt_toBitVec] at h ⊢
  rw [BitVec.toInt_eq_toNat_of_msb]
  rw [BitVec.msb_eq_toInt]
  simp only [decide_eq_false_iff_not]
  omega
theorem ci_small {x : Int32} {n : Nat} (h : x.toBitVec.toNat ≤ n) (hn : n < 2147483648) : 0 ≤ x.toInt ∧ x.toInt ≤ (n : Int) := by
  have e : x.toInt = (x.toBitVec.toNat : Int) := by
    rw [← Int32.toInt_toBitVec, BitVec.toInt_eq_toNat_cond]
    rw [if_pos (by omega)]
  omega
theorem ci_andR {x y : Int32} (h : 0 ≤ y.toInt) : 0 ≤ (x &&& y).toInt ∧ (x &&& y).toInt ≤ y.toInt := by
  have e := ci_nat h
  have hy := ci_rng y
  have := ci_small (x := x &&& y) (n := y.toBitVec.toNat) (by rw [Int32.toBitVec_and, BitVec.toNat_and]; exact Nat.and_le_right) (by omega)
  omega
theorem ci_andL {x y : Int32} (h : 0 ≤ x.toInt) : 0 ≤ (x &&& y).toInt ∧ (x &&& y).toInt ≤ x.toInt := by
  rw [Int32.and_comm]; exact ci_andR h
theorem ci_div {x y : Int32} (hx : 0 ≤ x.toInt) (hy : 0 < y.toInt) : (x / y).toInt = x.toInt / y.toInt := by
  rw [Int32.toInt_div_of_ne_right _ _ (fun e => by rw [e] at hy; revert hy; decide), Int.tdiv_eq_ediv_of_nonneg hx]
theorem ci_rem {x y : Int32} (hx : 0 ≤ x.toInt) (hy : 0 < y.toInt) : (x - x / y * y).toInt = x.toInt % y.toInt := by
  have d := ci_div hx hy
  have e := Int.mul_ediv_add_emod x.toInt y.toInt
  have e0 := Int.emod_nonneg x.toInt (show y.toInt ≠ 0 by omega)
  have e1 := Int.emod_lt_of_pos x.toInt hy
  have hxr := ci_rng x
  have q0 : 0 ≤ x.toInt / y.toInt := Int.ediv_nonneg hx (by omega)
  have p0 : 0 ≤ y.toInt * (x.toInt / y.toInt) := Int.mul_nonneg (by omega) q0
  have m : (x / y * y).toInt = x.toInt / y.toInt * y.toInt := by
    rw [ci_mul]
    · rw [d]
    · rw [d, Int.mul_comm]; omega
  rw [ci_sub]
  · rw [m, Int.mul_comm]; omega
  · rw [m, Int.mul_comm]; omega
theorem ci_shl1 {y : Int32} (h0 : 0 ≤ y.toInt) (h1 : y.toInt ≤ 30) : ((1 : Int32) <<< (y &&& 31)).toInt = 2 ^ y.toInt.toNat := by
  have key : ∀ k : Nat, k < 31 → ((1 : Int32) <<< (Int32.ofNat k &&& 31)).toInt = 2 ^ k := by decide +kernel
  have e : y = Int32.ofNat y.toInt.toNat := by
    apply Int32.toInt_inj.mp
    rw [Int32.toInt_ofNat_of_lt (by omega)]
    omega
  have := key y.toInt.toNat (by omega)
  rw [← e] at this
  exact this
theorem ci_pow {a b : Nat} (h : a ≤ b) : (2 : Int) ^ a ≤ 2 ^ b := by
  have := Nat.pow_le_pow_right (show 0 < 2 by decide) h
  exact_mod_cast this
theorem ci_shr0 (y : Int32) : ((0 : Int32) >>> y).toInt = 0 := by
  have : (0 : Int32) >>> y = 0 := by
    apply Int32.toBitVec_inj.mp
    simp
  rw [this]; rfl
theorem ci_i2b (x : Int32) : -128 ≤ x.toInt8.toInt32.toInt ∧ x.toInt8.toInt32.toInt ≤ 127 := by
  rw [Int8.toInt_toInt32]
  have a := x.toInt8.le_toInt
  have b := x.toInt8.toInt_lt
  omega
theorem ci_i2bE {x : Int32} (h0 : -128 ≤ x.toInt) (h1 : x.toInt ≤ 127) : x.toInt8.toInt32 = x := by
  apply Int32.toInt_inj.mp
  rw [Int8.toInt_toInt32, Int32.toInt_toInt8]
  exact Int.bmod_eq_of_le (by omega) (by omega)
theorem ci_i2c (x : Int32) : 0 ≤ (x.toUInt32 % 65536).toInt32.toInt ∧ (x.toUInt32 % 65536).toInt32.toInt ≤ 65535 := by
  refine ci_small (n := 65535) ?_ (by decide)
  show (x.toUInt32 % 65536).toNat ≤ 65535
  rw [UInt32.toNat_mod]
  have := Nat.mod_lt x.toUInt32.toNat (show 0 < (65536 : UInt32).toNat by decide)
  have e : (65536 : UInt32).toNat = 65536 := rfl
  omega
theorem ci_lcmp (x y : Int64) : -1 ≤ (lg_cmp x y).toInt ∧ (lg_cmp x y).toInt ≤ 1 := by
  unfold lg_cmp
  split
  · decide
  · split <;> decide
theorem ci_inb {i : Int32} {n : Nat} : mq_inb i n = true ↔ 0 ≤ i.toInt ∧ i.toInt < (n : Int) := by
  unfold mq_inb
  exact decide_eq_true_iff
theorem ci_bit {x : Int32} (h0 : 0 ≤ x.toInt) (h1 : x.toInt ≤ 1) : mq_bit x = true := by
  unfold mq_bit
  refine decide_eq_true ?_
  rcases (show x.toInt = 0 ∨ x.toInt = 1 by omega) with e | e
  · exact Or.inl (Int32.toInt_inj.mp e)
  · exact Or.inr (Int32.toInt_inj.mp e)
theorem ci_cl {i : Int32} (h : 0 ≤ i.toInt) : ((i.toNatClampNeg : Nat) : Int) = i.toInt := by
  show ((i.toInt.toNat : Nat) : Int) = i.toInt
  omega
