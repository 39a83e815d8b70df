/-! THE REFERENCE's lines: isSo, termLine, isTouched, isBeyond; ones -/
section XA
variable {lL : Nat} {h h' : mq_H} {Q : Option Value → mq_H → Prop}
theorem x_nat {x : Int32} {n : Nat} (h0 : 0 ≤ x.toInt) (h1 : x.toInt ≤ (n : Int)) : ∃ k : Nat, x = nI k ∧ k ≤ n ∧ x.toInt = (k : Int) := by
  have := ci_rng x
  refine ⟨x.toInt.toNat, Int32.toInt_inj.mp ?_, by omega, by omega⟩
  rw [nI_toInt (by omega)]
  omega
theorem nI_mul (a b : Nat) : nI a * nI b = nI (a * b) := (Int32.ofNat_mul a b).symm
theorem x_cl {x : Int32} {k : Nat} (e : x = nI k) (hk : k < 2 ^ 31) : x.toNatClampNeg = k := by rw [e]; exact nI_clamp hk
theorem x_inb {x : Int32} {k n : Nat} (e : x = nI k) (hk : k < n) (hn : n < 2 ^ 31) : mq_inb x n = true := by rw [e]; exact inb_nI hk hn
/-- one row of ints written, nothing else -/
def x_f (a : Nat) (h h' : mq_H) : Prop := mq_N h' = mq_N h ∧ mq_Z h' = mq_Z h ∧ mq_sh h' = mq_sh h ∧ mq_R h' = mq_R h ∧ ∀ b, ¬ b = a → mq_I h' b = mq_I h b
theorem x_f.rf (a : Nat) (h : mq_H) : x_f a h h := ⟨rfl, rfl, rfl, rfl, fun _ _ => rfl⟩
theorem x_f.tr {a : Nat} {h h1 h2 : mq_H} (p : x_f a h h1) (q : x_f a h1 h2) : x_f a h h2 := ⟨q.1.trans p.1, q.2.1.trans p.2.1, q.2.2.1.trans p.2.2.1, q.2.2.2.1.trans p.2.2.2.1, fun b hb => (q.2.2.2.2 b hb).trans (p.2.2.2.2 b hb)⟩
theorem x_f.set {a : Nat} {h h' : mq_H} (p : x_f a h h') (k : Nat) (x : Int32) : x_f a h (mq_setI h' a k x) := ⟨p.1, p.2.1, p.2.2.1, p.2.2.2.1, fun b hb => (mq_setI_ne hb k x).trans (p.2.2.2.2 b hb)⟩
theorem x_f.ok {a n : Nat} (h1 : ck_iva a = some (n, -2147483648, 2147483647)) (h2 : Nat.beq (ck_lca a) 0 = false) {M : Nat} (h3 : ck_wl M x_sup (ck_lca a) = true) (b0 : Nat.testBit M 0 = false) (F : x_f a h h') (I : ck_Iv x_X h) : ck_Iv x_X h' ∧ ck_md M h h' := by
  refine ck_chg x_Xf I (ck_md.rf M h) b0 F.1 F.2.1 F.2.2.1 F.2.2.2.1 h3 (fun b k hb => ?_) ⟨fun b k l u hb => ?_, fun b m l u hb k hk => ?_⟩
  · refine congrFun (F.2.2.2.2 b (fun e => hb ?_)) k
    subst e
    unfold ck_lc
    rw [h2]
    rfl
  · have : ¬ b = a := fun e => by
      subst e
      unfold ck_ivo at hb
      rw [h2] at hb
      cases hb
    rw [F.2.2.2.2 b this]
    exact I.1.1 b k l u hb
  · by_cases e : b = a
    · subst e
      rw [h1] at hb
      cases hb
      exact ci_rng _
    · rw [F.2.2.2.2 b e]
      exact I.1.2 b m l u hb k hk
theorem x_and_lt {v : Int32} (hv : ¬ v = 0) : (v &&& (v - 1)).toBitVec.toNat < v.toBitVec.toNat := by
  have h1 : (v &&& (v - 1)).toBitVec.toNat ≤ (v - 1).toBitVec.toNat := by
    rw [Int32.toBitVec_and, BitVec.toNat_and]
    exact Nat.and_le_right
  have h2 : ¬ v.toBitVec.toNat = 0 := fun e => hv (Int32.toBitVec_inj.mp (BitVec.eq_of_toNat_eq (by rw [e]; rfl)))
  have h3 : (v - 1).toBitVec.toNat = v.toBitVec.toNat - 1 := by
    rw [Int32.toBitVec_sub, BitVec.toNat_sub]
    have e : (1 : Int32).toBitVec.toNat = 1 := rfl
    have := v.toBitVec.isLt
    rw [e]
    omega
  omega
theorem x_ones {x : Int32} (hq : ∀ r : Int32, Q (some (.int r)) h) : mq_Call mq_G (mq_tT lL) 138 [.retAddr 59, .int x] h Q := by
  have key : ∀ (n : Nat) (v c : Int32), v.toBitVec.toNat ≤ n → mq_At mq_G (mq_tT lL) 138 4 [some (.retAddr 59), some (.int x), some (.int c), some (.int v)] [] h Q := by
    intro n
    induction n with
    | zero =>
      intro v c hn
      apply mq_go 40 []
      refine bq_t (Int32.toBitVec_inj.mp (BitVec.eq_of_toNat_eq (by rw [show v.toBitVec.toNat = 0 by omega]; rfl))) ?_
      exact hq _
    | succ n ih =>
      intro v c hn
      apply mq_go 40 [4]
      refine bq_c (fun e => ?_) (fun e => ?_)
      · exact hq _
      · exact ih _ _ (by have := x_and_lt e; omega)
  apply mq_enter 40 [4]
  exact key _ _ _ (Nat.le_refl _)
theorem x_twoOf {w x y : Int32} (h5 : w = 5 → ¬ y = 0) (hq : ∀ r : Int32, Q (some (.int r)) h) : mq_Call mq_G (mq_tT lL) 179 [.retAddr 59, .int w, .int x, .int y] h Q := by
  apply mq_enter 40 []
  refine bn_c (fun _ => ?_) (fun _ => hq _)
  refine bn_c (fun _ => ?_) (fun _ => hq _)
  refine bn_c (fun _ => ?_) (fun _ => hq _)
  refine bn_c (fun _ => ?_) (fun e => gq_i (decide_eq_true (h5 e)) (hq _))
  refine bn_c (fun _ => ?_) (fun _ => bq_c (fun _ => hq _) (fun _ => hq _))
  refine bn_c (fun _ => ?_) (fun _ => bn_c (fun _ => hq _) (fun _ => hq _))
  refine bn_c (fun _ => ?_) (fun _ => bq_c (fun _ => hq _) (fun _ => hq _))
  refine bn_c (fun _ => bq_c (fun _ => hq _) (fun _ => hq _)) (fun _ => hq _)
end XA
