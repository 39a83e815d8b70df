/-! WHAT TIES CLASS AND REFERENCE: places that hold the same, in the books and in their images -/
abbrev y_T := (Nat → Nat → Int32) → (Nat → Nat → Int32) → Prop
section YR
variable {lL : Nat} {h h1 h2 : mq_H} {Q : Option Value → mq_H → Prop} {E : y_T} {S M : Nat}
/-- E looks at no other places than those of S -/
def y_F (E : y_T) (S : Nat) : Prop := ∀ v v2 w w2, (∀ a k, Nat.testBit S (ck_lc a k) = true → 5 ≤ a → a < 35 → x_dm a k → v2 a k = v a k) → (∀ a k, Nat.testBit S (ck_lc a k) = true → ¬ x_pos a k = none → w2 a k = w a k) → E v w → E v2 w2
def y_S (E : y_T) (h : mq_H) : Prop := (mq_R h 4 5 = none → mq_I h 59 69 = 0) ∧ ∀ s, mq_R h 4 5 = some s → mq_I h 59 69 = 1 ∧ E (fun a k => mq_I h (s + (a - 5)) k) (x_vw h)
def y_R (E : y_T) (h : mq_H) : Prop := E (mq_I h) (mq_I h) ∧ y_S E h
theorem y_dis {M S i : Nat} (d : Nat.beq (Nat.land M S) 0 = true) (e : Nat.testBit S i = true) : Nat.testBit M i = false := by
  have z : M &&& S = 0 := Nat.eq_of_beq_eq_true d
  have t := Nat.testBit_and M S i
  rw [z, Nat.zero_testBit, e, Bool.and_true] at t
  exact t.symm
theorem y_S.of (F : y_F E S) (hR : mq_R h2 4 5 = mq_R h 4 5) (hi : mq_I h2 59 69 = mq_I h 59 69) (hm : ∀ q, mq_I h2 99 q = mq_I h 99 q) (hd : ∀ a k, 100 ≤ a → a < mq_N h → mq_I h2 a k = mq_I h a k) (I : ck_Iv x_X h) (H : y_S E h) : y_S E h2 := by
  refine ⟨fun e => by rw [hi]; exact H.1 (by rw [← hR]; exact e), fun s e => ?_⟩
  rw [hR] at e
  obtain ⟨e1, e2⟩ := H.2 s e
  obtain ⟨g1, g2, -⟩ := I.2.2.2.2.2.2.2.2 s e
  refine ⟨by rw [hi]; exact e1, F _ _ _ _ (fun a k _ a1 a2 _ => ?_) (fun a k _ _ => hm _) e2⟩
  exact hd (s + (a - 5)) k (by omega) (by omega)
theorem y_S.md (F : y_F E S) (m : ck_md M h h2) (b0 : Nat.testBit M 0 = false) (b1 : Nat.testBit M (ck_lc 59 69) = false) (b2 : Nat.testBit M (ck_lca 99) = false) (I : ck_Iv x_X h) (H : y_S E h) : y_S E h2 :=
  H.of F (by rw [m.2.2.2.1]) (m.2.2.2.2 _ _ b1) (fun q => m.2.2.2.2 99 q b2) (fun a k ha _ => m.2.2.2.2 a k (by rw [ck_lc_dyn ha]; exact b0)) I
theorem y_R.md (F : y_F E S) (m : ck_md M h h2) (b0 : Nat.testBit M 0 = false) (b1 : Nat.testBit M (ck_lc 59 69) = false) (b2 : Nat.testBit M (ck_lca 99) = false) (d : Nat.beq (Nat.land M S) 0 = true) (I : ck_Iv x_X h) (H : y_R E h) : y_R E h2 :=
  ⟨F _ _ _ _ (fun a k e _ _ _ => m.2.2.2.2 a k (y_dis d e)) (fun a k e _ => m.2.2.2.2 a k (y_dis d e)) H.1, H.2.md F m b0 b1 b2 I⟩
theorem y_pos_lt {a k : Nat} (e : ¬ x_pos a k = none) : 59 ≤ a ∧ a < 99 := by
  cases z : x_pos a k with
  | none => exact absurd z e
  | some q =>
    rcases x_pos_cs z with ⟨e1, -⟩ | ⟨e1, -⟩ | ⟨e1, -⟩ | ⟨e1, -⟩ | ⟨e1, -⟩ | ⟨e1, -⟩ | ⟨e1, -⟩ | ⟨e1, -⟩ | ⟨e1, -⟩ | ⟨e1, -⟩ | ⟨e1, -⟩ | ⟨e1, -⟩ | ⟨e1, -⟩ | ⟨e1, -⟩ | ⟨e1, -⟩ | ⟨e1, -⟩ | ⟨e1, -⟩ | ⟨e1, -⟩ | ⟨e1, -⟩ | ⟨e1, -⟩ | ⟨e1, -⟩ | ⟨e1, -⟩ | ⟨e1, -⟩ | ⟨e1, -⟩ | ⟨e1, -⟩ | ⟨e1, -⟩ | ⟨e1, -⟩ | ⟨e1, -⟩ | ⟨e1, -⟩ | ⟨e1, -⟩ | ⟨e1, -⟩
    all_goals omega
theorem y_pos_no {a k : Nat} (ha : a < 59 ∨ 99 ≤ a) : x_pos a k = none := by
  cases z : x_pos a k with
  | none => rfl
  | some q =>
    have := y_pos_lt (a := a) (k := k) (fun e => by rw [z] at e; cases e)
    omega
theorem y_R.cf (F : y_F E S) (f : x_cf M h h2) (b1 : Nat.testBit M (ck_lc 59 69) = false) (b2 : Nat.testBit M (ck_lca 99) = false) (b0 : Nat.testBit M 0 = false) (d : Nat.beq (Nat.land M S) 0 = true) (I : ck_Iv x_X h) (H : y_R E h) : y_R E h2 := by
  have h100 := I.2.2.1.1
  refine ⟨F _ _ _ _ (fun a k e _ _ _ => f.1 a k (by omega) (y_dis d e)) (fun a k e z => f.1 a k (by have := y_pos_lt z; omega) (y_dis d e)) H.1, H.2.of F (by rw [f.2.1]) (f.1 _ _ (by omega) b1) (fun q => f.1 99 q (by omega) b2) (fun a k ha hb => f.1 a k hb (by rw [ck_lc_dyn ha]; exact b0)) I⟩
def y_mi (x : Int32) (h : mq_H) (v : Int32) (h2 : mq_H) : Prop :=
  (x = 0 ∧ mq_I h 59 69 = 0 ∧ v = 0 ∧ h2 = mq_setI h 59 0 0) ∨
  (v = 1 ∧ ∃ tk : Bool, x = (if tk then 1 else 0) ∧ (tk = false → ¬ mq_I h 59 69 = 0) ∧ x_st h tk 10551 h2)
theorem y_mimage (I : ck_Iv x_X h) {x : Int32} (hx : x = 0 ∨ x = 1) (hq : ∀ (r : Int32) h2, ck_Iv x_X h2 → mq_N h2 = mq_N h → mq_Z h2 = mq_Z h → mq_I h2 0 = mq_I h 0 → y_mi x h r h2 → Q (some (.int r)) h2) : mq_Call mq_G (mq_tT lL) 226 [.retAddr 59, .int x] h Q := by
  refine x_image0 hx (fun e1 e2 => ?_) (fun tk h2 ex hh S => ?_)
  · have K := x_set (a := 59) (k := 0) (x := 0) I (ck_md.rf (302231454903657293676544) h) (by decide) (show ck_wl _ x_sup (ck_lc 59 0) = true by decide) (fun l u z => by cases z; exact ci_rng _) (fun n l u z _ => by cases z)
    exact hq _ _ K.1 rfl rfl rfl (Or.inl ⟨e1, e2, rfl, rfl⟩)
  · have e0 : mq_I h2 0 = mq_I h 0 := by
      obtain ⟨s1, s2, s3, s4, s5, s6, s7, s8, s9, s10⟩ := S
      funext j
      cases tk with
      | true => exact (s9 rfl).1 0 j (by decide) (fun z => by cases z.1)
      | false => exact ((s10 rfl).2 0 j (by decide) (fun z => by cases z.1)).2 (fun q z => by cases z)
    refine hq _ h2 (x_st_Iv I (fun z => ?_) S) S.1 S.2.1 e0 (Or.inr ⟨rfl, tk, ex, hh, S⟩)
    have h1 := hh z
    have h2 := I.1.1 59 69 0 1 rfl
    have : ¬ (mq_I h 59 69).toInt = 0 := fun e => h1 (x_toI e rfl)
    omega
theorem y_image (F : y_F E S) (s0 : Nat.testBit S (ck_lc 59 0) = false) (s1 : Nat.beq (Nat.land kc_45.2.2 S) 0 = true) {x v1 v2 : Int32} (R : y_R E h) (C : y_ci x h v1 h1) (D : y_mi x h1 v2 h2) : v1 = v2 ∧ y_R E h2 := by
  obtain ⟨R1, R2, R3⟩ := R
  rcases C with ⟨x0, sv, rfl, rfl⟩ | ⟨x0, rfl, b, sv, sv1, hb, c1, c2⟩ | ⟨x1, rfl, b, sv1, hb, c1, c2⟩
  · have i0 := R2 sv
    rcases D with ⟨-, d1, rfl, rfl⟩ | ⟨rfl, tk, ex, d1, d2⟩
    · refine ⟨rfl, F _ _ _ _ (fun a k _ a1 a2 _ => ?_) (fun a k e _ => ?_) R1, fun _ => i0, fun s e => ?_⟩
      · exact ck_setI_at (fun z => by have := z.1; omega)
      · exact ck_setI_at (fun z => by
          obtain ⟨z1, z2⟩ := z
          rw [z1, z2, s0] at e
          cases e)
      · have e : mq_R h1 4 5 = some s := e
        rw [sv] at e
        cases e
    · exfalso
      cases tk with
      | true => rw [x0] at ex; exact absurd ex (by decide)
      | false => exact d1 rfl i0
  · obtain ⟨i1, R3⟩ := R3 b sv
    have i2 : mq_I h1 59 69 = 1 := (c2 _ _ (by decide) (by decide)).trans i1
    rcases D with ⟨-, d1, rfl, rfl⟩ | ⟨rfl, tk, ex, d1, d2⟩
    · rw [i2] at d1
      exact absurd d1 (by decide)
    · cases tk with
      | true => rw [x0] at ex; exact absurd ex (by decide)
      | false =>
        obtain ⟨s1', s2', s3', s4', s5', s6', s7', s8', -, s10⟩ := d2
        obtain ⟨t1, t2⟩ := s10 rfl
        refine ⟨rfl, F _ _ _ _ (fun a k e a1 a2 dm => ?_) (fun a k e z => ?_) R3, fun e => ?_, fun s e => ?_⟩
        · exact ((t2 a k (by omega) (fun z => by have := z.1; omega)).2 (fun q z => by rw [y_pos_no (Or.inl (by omega))] at z; cases z)).trans (c1 a k (y_dis s1 e) a1 a2 dm)
        · cases zq : x_pos a k with
          | none => exact absurd zq z
          | some q =>
            obtain ⟨q1, q2, q3, q4⟩ := x_pos_c zq
            rw [x_vw_eq zq, (t2 a k q3 q4).1 q zq q2]
            exact c2 99 q (show Nat.testBit kc_45.2.2 (ck_lca 99) = false by decide) (by decide)
        · rw [s4', sv1] at e
          cases e
        · rw [s4', sv1] at e
          have e : b = s := Option.some.inj e
          refine ⟨s7', ?_⟩
          rw [← e]
          refine F _ _ _ _ (fun a k _ a1 a2 dm => ?_) (fun a k _ z => ?_) R3
          · show mq_I h2 (b + (a - 5)) k = mq_I h (b + (a - 5)) k
            exact ((t2 (b + (a - 5)) k (by omega) (fun z => by have := z.1; omega)).2 (fun q z => by rw [y_pos_no (Or.inr (by omega))] at z; cases z)).trans (c2 _ _ (by rw [ck_lc_dyn (by omega)]; decide) (by omega))
          · show mq_I h2 99 _ = mq_I h 99 _
            exact (t1 _).trans (c2 99 _ (show Nat.testBit kc_45.2.2 (ck_lca 99) = false by decide) (by decide))
  · rcases D with ⟨x0, -⟩ | ⟨rfl, tk, ex, d1, d2⟩
    · exact absurd x0 x1
    · cases tk with
      | false => exact absurd ex x1
      | true =>
        obtain ⟨s1', s2', s3', s4', s5', s6', s7', s8', s9, -⟩ := d2
        obtain ⟨t1, t2⟩ := s9 rfl
        refine ⟨rfl, F _ _ _ _ (fun a k e a1 a2 dm => ?_) (fun a k e z => ?_) R1, fun e => ?_, fun s e => ?_⟩
        · exact (t1 a k (by omega) (fun z => by have := z.1; omega)).trans (c2 a k (by omega))
        · cases zq : x_pos a k with
          | none => exact absurd zq z
          | some q =>
            obtain ⟨q1, q2, q3, q4⟩ := x_pos_c zq
            exact (t1 a k q3 q4).trans (c2 a k (by have := y_pos_lt z; omega))
        · rw [s4', sv1] at e
          cases e
        · rw [s4', sv1] at e
          have e : b = s := Option.some.inj e
          refine ⟨s7', ?_⟩
          rw [← e]
          refine F _ _ _ _ (fun a k _ a1 a2 dm => ?_) (fun a k _ z => ?_) R1
          · show mq_I h2 (b + (a - 5)) k = mq_I h a k
            exact (t1 _ _ (by omega) (fun z => by have := z.1; omega)).trans (c1 a k a1 a2 dm)
          · cases zq : x_pos a k with
            | none => exact absurd zq z
            | some q =>
              obtain ⟨q1, q2, q3, q4⟩ := x_pos_c zq
              rw [x_vw_eq zq, t2 a k q zq q2]
              exact c2 a k (by have := y_pos_lt z; omega)
end YR
