/-! claim, fact, doubt of the reference -/
section XO
variable {lL : Nat} {h h' h2 : mq_H} {Q : Option Value → mq_H → Prop}
def x_XcM : Nat := 892029808097967387078448839942198818177548288
theorem x_Xc {M : Nat} (m : ck_md M h h') (hM : Nat.beq (Nat.land M x_XcM) 0 = true) (b0 : Nat.testBit M 0 = false) (X : x_X h) (ct : x_ct (mq_I h')) : x_X h' := by
  have e : ∀ i, Nat.testBit x_XcM i = true → Nat.testBit M i = false := fun i hi => by
    have h0 : M &&& x_XcM = 0 := Nat.eq_of_beq_eq_true hM
    have := congrArg (fun n => Nat.testBit n i) h0
    rw [Nat.testBit_and, hi, Bool.and_true, Nat.zero_testBit] at this
    exact this
  obtain ⟨a1, a2, a3, a4, a5, a6, a7⟩ := X
  have c1 := fun k => m.2.2.2.2 81 k (e (ck_lca 81) (by decide))
  have c2 := fun k => m.2.2.2.2 82 k (e (ck_lca 82) (by decide))
  have c3 := fun k => m.2.2.2.2 86 k (e (ck_lca 86) (by decide))
  have c4 := fun k => m.2.2.2.2 87 k (e (ck_lca 87) (by decide))
  have c5 := fun k => m.2.2.2.2 88 k (e (ck_lca 88) (by decide))
  have c6 := fun k => m.2.2.2.2 89 k (e (ck_lca 89) (by decide))
  have c9 := fun k => m.2.2.2.2 99 k (e (ck_lca 99) (by decide))
  have c11 : mq_I h' 59 69 = mq_I h 59 69 := m.2.2.2.2 _ _ (e _ (by decide))
  have vw : x_vw h' = x_vw h := by funext a k; exact c9 _
  obtain ⟨d1, d2, -⟩ := x_dyn m.1 m.2.2.1 m.2.2.2.1 (fun b j z => m.2.2.2.2 b j (by rw [z]; exact b0))
  refine ⟨a1.of m.1 m.2.2.1, fun k hk => (c1 k).trans (a2 k hk), fun row hr i hi => ?_, ct, fun hi => ?_, d1 a6, d2 a7⟩
  · rw [c2] at hi
    have := a3 row hr i hi
    unfold x_ln at this ⊢
    simp only [c3, c4, c5, c6]
    exact this
  · rw [c11] at hi
    rw [vw]
    exact a5 hi
theorem x_isPlace (hq : ∀ r : Int32, Q (some (.int r)) h) {x : Int32} : mq_Call mq_G (mq_tT lL) 139 [.retAddr 59, .int x] h Q := by
  apply mq_enter 40 []
  refine bq_c (fun _ => gq_i rfl (hq _)) (fun _ => ?_)
  exact bq_c (fun _ => gq_i rfl (hq _)) (fun _ => gq_i rfl (hq _))
theorem x_isClm {x : Int32} (h1 : 0 ≤ x.toInt → x.toInt < (mq_I h 59 9).toInt → Q (some (.int 1)) h) (h0 : Q (some (.int 0)) h) : mq_Call mq_G (mq_tT lL) 146 [.retAddr 59, .int x] h Q := by
  apply mq_enter 40 []
  refine bq_c (fun _ => gq_i rfl h0) (fun c => ?_)
  rw [lt_i] at c
  have c : ¬ x.toInt < 0 := c
  refine bq_c (fun _ => gq_i rfl h0) (fun c2 => ?_)
  rw [le_i] at c2
  exact gq_i rfl (h1 (by omega) (by omega))
theorem x_c2_ext {fc fc' fd fd' : Nat → Int32} : ∀ (n : Nat), (∀ c, c < n → x_c1 fd' c (fc' c).toNatClampNeg = x_c1 fd c (fc c).toNatClampNeg) → x_c2 fc' fd' n = x_c2 fc fd n
  | 0, _ => rfl
  | n + 1, H => by
    show x_c2 fc' fd' n + x_c1 fd' n (fc' n).toNatClampNeg = x_c2 fc fd n + x_c1 fd n (fc n).toNatClampNeg
    rw [x_c2_ext n (fun c hc => H c (by omega)), H n (by omega)]
theorem x_claim_ct (I : ck_Iv x_X h) {x1 x2 x3 x4 x5 x6 : Int32} (n : Nat) : mq_PC mq_G (mq_tT lL) n 147 [.retAddr 59, .int x1, .int x2, .int x3, .int x4, .int x5, .int x6] h (fun _ h' => x_ct (mq_I h')) := by
  have ct : x_ct (mq_I h) := I.2.2.2.2.2.1
  obtain ⟨c, ec, hc, -⟩ := x_nat (n := 60) (I.1.1 59 9 0 60 rfl).1 (I.1.1 59 9 0 60 rfl).2
  revert n
  refine mq_el_in 150 [] (fun n => ?_)
  refine (x_isPlace (fun _ => ?_)).pc n
  refine bq_c (fun _ => ct) (fun _ => ?_)
  refine (x_isIn (fun _ _ => ?_) (fun _ => bq_t rfl ct)).pc n
  refine bq_f (by decide) ?_
  refine (x_isIn (fun _ _ => ?_) (fun _ => bq_t rfl ct)).pc n
  refine bq_f (by decide) ?_
  refine (x_isIn (fun _ _ => ?_) (fun _ => bq_t rfl ct)).pc n
  refine bq_f (by decide) ?_
  refine (x_isIn (fun _ _ => ?_) (fun _ => bq_t rfl ct)).pc n
  refine bq_f (by decide) ?_
  refine (x_isIn (fun _ _ => ?_) (fun _ => bq_t rfl ct)).pc n
  refine bq_f (by decide) ?_
  refine bn_c (fun h60 => ?_) (fun _ => ct)
  intro _ _ _ _ _ _ _ _
  have ecl : (mq_I h 59 9).toNatClampNeg = c := x_cl ec (by omega)
  have e1 : mq_I h 59 9 + 1 = nI (c + 1) := by rw [ec]; exact nI_1 _
  show x_c2 (fun j => if j = (mq_I h 59 9).toNatClampNeg then 0 else mq_I h 71 j) (mq_I h 75) (mq_I h 59 9 + 1).toNatClampNeg ≤ 6
  rw [x_cl e1 (by omega), ecl]
  show x_c2 (fun j => if j = c then 0 else mq_I h 71 j) (mq_I h 75) c + x_c1 (mq_I h 75) c (if c = c then (0 : Int32) else mq_I h 71 c).toNatClampNeg ≤ 6
  rw [if_pos rfl, x_c2_cong (fc := mq_I h 71) (fd := mq_I h 75) c (fun d hd => ⟨if_neg (by omega), fun _ _ => rfl⟩)]
  unfold x_ct at ct
  rw [ecl] at ct
  exact ct
theorem x_fact_ct (I : ck_Iv x_X h) {x1 x2 x3 x4 : Int32} (n : Nat) : mq_PC mq_G (mq_tT lL) n 148 [.retAddr 59, .int x1, .int x2, .int x3, .int x4] h (fun _ h' => x_ct (mq_I h')) := by
  have ct : x_ct (mq_I h) := I.2.2.2.2.2.1
  obtain ⟨N, eN, hN, -⟩ := x_nat (n := 60) (I.1.1 59 9 0 60 rfl).1 (I.1.1 59 9 0 60 rfl).2
  revert n
  refine mq_el_in 150 [] (fun n => ?_)
  refine (x_isClm (fun x0 x1' => ?_) (bq_t rfl ct)).pc n
  refine bq_f (by decide) ?_
  have x1' : x1.toInt < (mq_I h 59 9).toInt := x1'
  rw [eN, nI_toInt (by omega)] at x1'
  obtain ⟨c, rfl, hc, hci⟩ := x_nat (n := 59) x0 (by omega)
  have hf0 := I.1.2 71 60 0 12 rfl c (by omega)
  obtain ⟨fc, efc, hfc, hfi⟩ := x_nat (n := 12) hf0.1 hf0.2
  refine (x_isIn (fun _ _ => ?_) (fun _ => bq_t rfl ct)).pc n
  refine bq_f (by decide) ?_
  refine (x_isIn (fun _ _ => ?_) (fun _ => bq_t rfl ct)).pc n
  refine bq_f (by decide) ?_
  have fin : ∀ (_ : ¬ mq_I h 71 (nI c).toNatClampNeg = 12), x_c2 (fun j => if j = (nI c).toNatClampNeg then mq_I h 71 (nI c).toNatClampNeg + 1 else mq_I h 71 j) (fun j => if j = ((12 : Int32) * nI c + mq_I h 71 (nI c).toNatClampNeg).toNatClampNeg then 0 else mq_I h 75 j) (mq_I h 59 9).toNatClampNeg ≤ 6 := fun h12 => by
    rw [nI_clamp (by omega)] at h12 ⊢
    have h12 : ¬ fc = 12 := fun e => h12 (by rw [efc, e]; rfl)
    rw [efc, nI_1, show (12 : Int32) = nI 12 from rfl, nI_mul, nI_add, nI_clamp (by omega), x_cl eN (by omega)]
    rw [x_c2_ext (fc := mq_I h 71) (fd := mq_I h 75) N]
    · unfold x_ct at ct
      rw [x_cl eN (by omega)] at ct
      exact ct
    · intro d hd
      have hd0 := I.1.2 71 60 0 12 rfl d (by omega)
      have hdc := ci_cl hd0.1
      by_cases e : d = c
      · subst e
        rw [if_pos rfl, efc, nI_clamp (by omega), nI_clamp (by omega)]
        show x_c1 _ d fc + (if (if 12 * d + fc = 12 * d + fc then (0 : Int32) else mq_I h 75 (12 * d + fc)).toInt = 6 then 1 else 0) = _
        rw [if_pos rfl, if_neg (by decide), x_c1_cong (fd := mq_I h 75) fc (fun k hk => if_neg (by omega))]
        rfl
      · rw [if_neg e]
        exact x_c1_cong _ (fun k hk => if_neg (by omega))
  refine bq_c (fun _ => ?_) (fun _ => ?_)
  · refine (x_isIn (fun _ _ => ?_) (fun _ => bq_t rfl ct)).pc n
    refine bq_f (by decide) ?_
    intro _
    refine bn_c (fun h12 => ?_) (fun _ => ct)
    intro _ _ _ _ _ _ _ _
    exact fin h12
  · refine (x_isIn (fun _ _ => ?_) (fun _ => bq_t rfl ct)).pc n
    refine bq_f (by decide) ?_
    intro _
    refine bn_c (fun h12 => ?_) (fun _ => ct)
    intro _ _ _ _ _ _ _ _
    exact fin h12
end XO
