/-! SMALL RULES, more -/
theorem cl_lt {x : Int32} {n : Nat} (h0 : 0 ≤ x.toInt) (h : x.toInt < (n : Int)) : x.toNatClampNeg < n := by
  show x.toInt.toNat < n
  omega
/-- Arrays.fill of a row of 60 -/
theorem lit_i : (0 : Int32).toInt = 0 ∧ (1 : Int32).toInt = 1 ∧ (2 : Int32).toInt = 2 ∧ (3 : Int32).toInt = 3 ∧ (4 : Int32).toInt = 4 ∧ (5 : Int32).toInt = 5 ∧ (6 : Int32).toInt = 6 ∧ (7 : Int32).toInt = 7 ∧ (8 : Int32).toInt = 8 ∧ (9 : Int32).toInt = 9 ∧ (10 : Int32).toInt = 10 ∧ (11 : Int32).toInt = 11 ∧ (12 : Int32).toInt = 12 ∧ (17 : Int32).toInt = 17 ∧ (18 : Int32).toInt = 18 ∧ (20 : Int32).toInt = 20 ∧ (24 : Int32).toInt = 24 ∧ (25 : Int32).toInt = 25 ∧ (26 : Int32).toInt = 26 ∧ (29 : Int32).toInt = 29 ∧ (30 : Int32).toInt = 30 ∧ (60 : Int32).toInt = 60 ∧ (64 : Int32).toInt = 64 ∧ (380 : Int32).toInt = 380 ∧ (400 : Int32).toInt = 400 ∧ (999 : Int32).toInt = 999 ∧ (1000 : Int32).toInt = 1000 ∧ (2999 : Int32).toInt = 2999 ∧ (3000 : Int32).toInt = 3000 ∧ (4999 : Int32).toInt = 4999 ∧ (5000 : Int32).toInt = 5000 ∧ (9999 : Int32).toInt = 9999 ∧ (10000 : Int32).toInt = 10000 ∧ (100000 : Int32).toInt = 100000 ∧ (-1 : Int32).toInt = -1 ∧ (-2 : Int32).toInt = -2 ∧ (-3 : Int32).toInt = -3 ∧ (-10 : Int32).toInt = -10 ∧ (-100000 : Int32).toInt = -100000 := by decide +kernel
theorem tT_none {L a : Nat} (h : 100 ≤ a) : (mq_tT L).1 a = none := by
  obtain ⟨a, rfl⟩ : ∃ b, a = b + 1 := ⟨a - 1, by omega⟩
  show mq_tS1 (a + 1) = none
  unfold mq_tS1
  rw [Nat.ble_eq_true_of_le h]
  rfl
theorem mq_sh_cpR (h : mq_H) (a b sp dp n : Nat) : mq_sh (mq_cpR h a b sp dp n) = mq_sh h := rfl
