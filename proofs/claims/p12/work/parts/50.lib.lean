/-! SMALL RULES for stepping -/
theorem bq_t {c A B : Prop} (h : c) (a : A) : (c → A) ∧ (¬ c → B) := ⟨fun _ => a, fun n => absurd h n⟩
theorem bq_f {c A B : Prop} (h : ¬ c) (b : B) : (c → A) ∧ (¬ c → B) := ⟨fun n => absurd n h, fun _ => b⟩
theorem bq_c {c A B : Prop} (a : c → A) (b : ¬ c → B) : (c → A) ∧ (¬ c → B) := ⟨a, b⟩
theorem bn_t {c A B : Prop} (h : ¬ c) (a : A) : (¬ c → A) ∧ (c → B) := ⟨fun _ => a, fun n => absurd n h⟩
theorem bn_f {c A B : Prop} (h : c) (b : B) : (¬ c → A) ∧ (c → B) := ⟨fun n => absurd h n, fun _ => b⟩
theorem bn_c {c A B : Prop} (a : ¬ c → A) (b : c → B) : (¬ c → A) ∧ (c → B) := ⟨a, b⟩
theorem gq_i {g : Bool} {A : Prop} (h : g = true) (a : A) : g = true ∧ A := ⟨h, a⟩
theorem oq_n {o : Option Nat} {A : Prop} {B : Nat → Prop} (h : o = none) (a : A) : (o = none → A) ∧ (∀ q : Nat, o = some q → B q) := ⟨fun _ => a, fun q e => by rw [h] at e; cases e⟩
theorem oq_s {o : Option Nat} {A : Prop} {B : Nat → Prop} {q : Nat} (h : o = some q) (b : B q) : (o = none → A) ∧ (∀ q : Nat, o = some q → B q) := ⟨fun e => (by rw [h] at e; cases e), fun q' e => (by rw [h] at e; cases e; exact b)⟩
theorem inb_of {i : Int32} {n : Nat} (h : 0 ≤ i.toInt ∧ i.toInt < (n : Int)) : mq_inb i n = true := decide_eq_true h
theorem inb_nI {k n : Nat} (h : k < n) (hn : n < 2 ^ 31) : mq_inb (nI k) n = true := by
  apply inb_of
  rw [nI_toInt (by omega)]
  omega
theorem clamp_nI {k : Nat} (h : k < 2 ^ 31) : (nI k).toNatClampNeg = k := nI_clamp h
/-- Math over ints: what comparisons say -/
theorem lt_i {x y : Int32} : x < y ↔ x.toInt < y.toInt := Int32.lt_iff_toInt_lt
theorem le_i {x y : Int32} : x ≤ y ↔ x.toInt ≤ y.toInt := Int32.le_iff_toInt_le
theorem eq_i {x y : Int32} : x = y ↔ x.toInt = y.toInt := Int32.toInt_inj.symm
section PC
variable {lL : Nat} {h : mq_H} {Q : Option Value → mq_H → Prop}
/-- within(x, n) -/
theorem c_within {x n : Int32} (h1 : 0 ≤ x.toInt → x.toInt < n.toInt → Q (some (.int 1)) h) (h0 : (0 ≤ x.toInt → ¬ x.toInt < n.toInt) → Q (some (.int 0)) h) : mq_Call mq_G (mq_tT lL) 135 [.int x, .int n] h Q := by
  apply mq_enter 60 []
  constructor
  · intro c
    constructor
    · rfl
    · exact h0 (fun z => by rw [lt_i] at c; simp at c; omega)
  · intro c
    have c : 0 ≤ x.toInt := by rw [lt_i] at c; simp at c; omega
    constructor
    · intro c2
      constructor
      · rfl
      · exact h0 (fun _ => by rw [le_i] at c2; omega)
    · intro c2
      constructor
      · rfl
      · exact h1 c (by rw [le_i] at c2; omega)
/-- isClaim(c) -/
theorem c_isClaim {x : Int32} (h1 : 0 ≤ x.toInt → x.toInt < (mq_I h 17 0).toInt → Q (some (.int 1)) h) (h0 : (0 ≤ x.toInt → ¬ x.toInt < (mq_I h 17 0).toInt) → Q (some (.int 0)) h) : mq_Call mq_G (mq_tT lL) 132 [.retAddr 4, .int x] h Q := by
  apply mq_enter 60 []
  apply c_within
  · intro a b
    constructor
    · rfl
    · exact h1 a b
  · intro a
    constructor
    · rfl
    · exact h0 a
end PC
