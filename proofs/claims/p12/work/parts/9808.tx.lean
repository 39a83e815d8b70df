/-! readLaw, text of the class -/
section XT
variable {lL : Nat} {h h' h2 : mq_H} {Q : Option Value → mq_H → Prop}
theorem x_rlaw (I : ck_Iv x_X h) (hq : ∀ (v : Value) h2, ck_Iv x_X h2 → x_cf x_RdM h h2 → mq_N h2 ≤ mq_N h + 40 → mq_Z h2 ≤ mq_Z h + 8000 → (v = .null ∨ ∃ q, v = .ref q ∧ ck_P1 h2 q ∧ x_lb h2 q) → mq_I h2 35 1 = 0 → Q (some v) h2) : mq_Call mq_G (mq_tT lL) 80 [.retAddr 35] h Q := by
  have k50 : ∀ (l1 : Option Value) (n : Nat) (h1 : mq_H), ck_Iv x_X h1 → x_cf x_RdM h h1 → mq_N h1 ≤ mq_N h + 34 → mq_Z h1 ≤ mq_Z h + 6902 → n ≤ 16 → mq_I h1 35 9 = nI n → x_lg h1 n → mq_At mq_G (mq_tT lL) 80 50 [some (.retAddr 35), l1] [] h1 Q := by
    intro l1 n h1 I1 f1 N1 Z1 hn en L
    have K := x_setRd (M := x_RdM) (k := 1) (x := 0) I1 (by decide) (by decide) rfl (by decide) (by decide)
    obtain ⟨g, eg⟩ : ∃ H, H = mq_setI h1 35 1 0 := ⟨_, rfl⟩
    rw [← eg] at K
    have f2 : x_cf x_RdM h g := f1.tr (x_cf.md K.2 (by decide))
    have gN : mq_N g = mq_N h1 := K.2.1
    have gZ : mq_Z g = mq_Z h1 := K.2.2.1
    have en2 : mq_I g 35 9 = nI n := by rw [eg]; exact en
    have L2 : x_lg g n := L.md K.2 (by decide)
    have g0 : mq_I g 35 1 = 0 := by rw [eg]; rfl
    have h100 : 100 ≤ mq_N g := K.1.2.2.1.1
    suffices H : mq_At mq_G (mq_tT lL) 80 55 [some (.retAddr 35), l1] [] g Q by
      apply mq_go 20 [55]
      rw [eg] at H
      exact H
    apply mq_go 60 []
    refine bn_c (fun _ => ?_) (fun _ => ?_)
    · exact hq _ g K.1 f2 (by omega) (by omega) (Or.inl rfl) g0
    · have na : ¬ 35 = mq_N g := by omega
      have en3 : mq_I (mq_new g (.inl 6) 2) 35 9 = nI n := by rw [mq_I_new, if_neg na]; exact en2
      have E3 : mq_mod 0 0 1 2 g (mq_new g (.inl 6) 2) := mq_mod.nw (mq_mod.rf 0 0 g) _ (by omega) (by omega)
      have L3 := L2.ext E3 h100
      have go : ∀ (Q' : Option Value → mq_H → Prop), (∀ h2, mq_mod (mq_N g) (mq_N g + 1) 1 16 (mq_new g (.inl 6) 2) h2 → mq_N h2 = mq_N g + 2 → mq_sh h2 (mq_N g) = .inl 6 → mq_sh h2 (mq_N g + 1) = .inr (5, n) → mq_R h2 (mq_N g) 0 = some (mq_N g + 1) → (∀ i, i < n → mq_R h2 (mq_N g + 1) i = mq_R (mq_new g (.inl 6) 2) 37 i) → (∀ i, n ≤ i → mq_R h2 (mq_N g + 1) i = none) → 0 ≤ (mq_I h2 (mq_N g) 1).toInt ∧ (mq_I h2 (mq_N g) 1).toInt ≤ 1 → Q' none h2) → mq_Call mq_G (mq_tT lL) 53 [.ref (mq_N g), .retAddr 37, .int (mq_I (mq_new g (.inl 6) 2) 35 9)] (mq_new g (.inl 6) 2) Q' := fun Q' H => by
        rw [en3]
        exact c_law (by rw [mq_sh_new, if_pos rfl]) h100 (by show mq_N g < mq_N g + 1; omega) hn (fun i hi => by
          obtain ⟨c, c1, c2, c3, -⟩ := L3 i hi
          exact ⟨c, c1, c2.2.1, c3⟩) H
      refine go _ (fun h2 m2 n2 s1 s2 r1 r2 r3 r4 => ?_)
      have E : mq_mod 0 0 2 18 g h2 := E3.tn m2 (Nat.le_refl _) (by omega) (by omega)
      have L4 := L2.ext E h100
      have hr : ∀ i, i < n → mq_R h2 (mq_N g + 1) i = mq_R h2 37 i := fun i hi => by
        rw [r2 i hi, mq_R_new, if_neg (by omega), (E.2.2.2.2 37 (by omega) (by omega)).2.2.2]
      refine hq _ h2 (x_Iv_ext E K.1) (f2.tr (x_cf.ext E h100)) (by omega) (by have := E.2.2.2.1; omega) (Or.inr ⟨mq_N g, rfl, ⟨fun k => ck_lc_dyn h100 k, s1, r4, mq_N g + 1, r1, fun k => ck_lc_dyn (by omega) k, n, hn, s2, fun i hi => ?_⟩, by omega, fun b e => ?_⟩) (by rw [(E.2.2.2.2 35 (by omega) (by omega)).2.1]; exact g0)
      · obtain ⟨c, c1, c2, c3, c4⟩ := L4 i hi
        exact ⟨c, by rw [hr i hi]; exact c1, c2⟩
      · rw [r1] at e
        have e0 : mq_N g + 1 = b := Option.some.inj e
        rw [← e0]
        refine ⟨by omega, by omega, fun i c _ e => ?_⟩
        rcases Nat.lt_or_ge i n with hi | hi
        · obtain ⟨c', c1, c2, c3, c4⟩ := L4 i hi
          rw [hr i hi, c1] at e
          have e1 : c' = c := Option.some.inj e
          rw [← e1]
          exact ⟨c3, c4⟩
        · rw [r3 i hi] at e
          cases e
  have key : ∀ (m i n : Nat) (y : Int32) (h1 : mq_H), i + m = 17 → ck_Iv x_X h1 → x_cf x_RdM h h1 → mq_N h1 ≤ mq_N h + 2 * i → mq_Z h1 ≤ mq_Z h + 406 * i → n ≤ 16 → mq_I h1 35 9 = nI n → x_lg h1 n → y = nI i → mq_At mq_G (mq_tT lL) 80 20 [some (.retAddr 35), some (.int y)] [] h1 Q := by
    intro m
    induction m with
    | zero =>
      intro i n y h1 hi I1 f1 N1 Z1 hn en L ey
      have hi : i = 17 := by omega
      subst ey hi
      apply mq_go 20 [50]
      refine bq_t (by decide) ?_
      exact k50 _ n h1 I1 f1 (by omega) (by omega) hn en L
    | succ m ih =>
      intro i n y h1 hi I1 f1 N1 Z1 hn en L ey
      subst ey
      apply mq_go 40 [50, 20]
      refine bq_c (fun _ => k50 _ n h1 I1 f1 (by omega) (by omega) hn en L) (fun _ => ?_)
      refine bq_c (fun _ => k50 _ n h1 I1 f1 (by omega) (by omega) hn en L) (fun _ => ?_)
      refine bn_c (fun _ => k50 _ n h1 I1 f1 (by omega) (by omega) hn en L) (fun _ => ?_)
      refine x_rl I1 hn en L (fun h2 n2 I2 f2 N2 Z2 hn2 en2 L2 => ?_)
      have zz : mq_Z h + 406 * (i + 1) = mq_Z h + 406 * i + 406 := by rw [Nat.mul_add, Nat.mul_one, Nat.add_assoc]
      exact ih (i + 1) n2 _ h2 (by omega) I2 (f1.tr f2) (by omega) (by rw [zz]; exact Nat.le_trans Z2 (Nat.add_le_add_right Z1 406)) hn2 en2 L2 (nI_1 _)
  have K1 := x_setRd (M := x_RdM) (k := 2) (x := 0) I (by decide) (by decide) rfl (by decide) (by decide)
  have K2 := x_setRd (M := x_RdM) (k := 3) (x := -1) K1.1 (by decide) (by decide) rfl (by decide) (by decide)
  have K3 := x_setRd (M := x_RdM) (k := 9) (x := 0) K2.1 (by decide) (by decide) rfl (by decide) (by decide)
  have K4 := x_setRd (M := x_RdM) (k := 7) (x := 0) K3.1 (by decide) (by decide) rfl (by decide) (by decide)
  have M4 := ((K1.2.tr K2.2).tr K3.2).tr K4.2
  apply mq_enter 40 [20]
  apply mq_enter 20 []
  refine mq_Call.mono (kv_95 _ _ K4.1 ⟨rfl, trivial⟩) (fun v h1 ⟨I1, m1, er⟩ => ?_)
  have er : v = none := er
  subst er
  have M1 : ck_md x_RdM h h1 := M4.tr (m1.wd (ck_sub_of (by decide)))
  exact key 17 0 0 _ h1 (by omega) I1 (x_cf.md M1 (by decide)) (by rw [M1.1]; omega) (by rw [M1.2.1]; omega) (by omega) (m1.2.2.2.2 35 9 (by decide)) (fun i hi => by omega) rfl
theorem x_pass0 (n : Nat) : mq_PC mq_G (mq_tT lL) n 78 [.retAddr 35] h (fun _ h2 => mq_I h2 35 1 = 0) := by
  refine mq_Call.pc ?_ n
  apply mq_enter 40 []
  apply mq_enter 40 []
  rfl
def x_CtM : Nat := 5312662302024309669888
theorem x_ctext (I : ck_Iv x_X h) {x : Int32} (hq : ∀ (v : Int32) h2, ck_Iv x_X h2 → x_cf x_CtM h h2 → mq_N h2 ≤ mq_N h + 40 → mq_Z h2 ≤ mq_Z h + 8000 → mq_I h2 35 1 = 0 → Q (some (.int v)) h2) : mq_Call mq_G (mq_tT lL) 109 [.retAddr 4, .int x] h Q := by
  apply mq_enter 60 []
  refine c_within (fun x0 x8 => ?_) (fun _ => ?_)
  · refine bn_t (by decide) ?_
    have x8 : x.toInt < 8 := x8
    refine x_rlaw I (fun v h1 I1 f1 N1 Z1 hv l1 => ?_)
    have f1' : x_cf x_CtM h h1 := ⟨fun a k ha e => f1.1 a k ha (ck_sub_of (Md := x_RdM) (M := x_CtM) (by decide) _ e), f1.2.1, f1.2.2⟩
    rcases hv with rfl | ⟨q, rfl, P, B⟩
    · exact hq _ h1 I1 f1' N1 Z1 l1
    · have hin : mq_inb x 8 = true := inb_of ⟨x0, x8⟩
      have sq : mq_sh h1 q = .inl 6 := P.2.1
      refine gq_i (by show (mq_isO (mq_sh h1 q) 6 && mq_inb x 8) = true; rw [sq, hin]; rfl) ?_
      have I2 := x_setRs (a := 13) (k := x.toNatClampNeg) (w := q) (Or.inr rfl) B.1 (fun _ _ => ⟨P, B⟩) I1
      refine mq_Call.mono (kv_45 _ _ I2 ⟨rfl, trivial⟩) (fun v h3 ⟨I3, m3, er⟩ => ?_)
      have er : v = none := er
      subst er
      obtain ⟨z1, z2, z3, b, z4, z5, m, z6, z7, z8⟩ := P
      have nq : ¬ q = 13 := fun e => by
        rw [e, I1.2.2.1.2 13 _ rfl] at sq
        cases sq
      have rb : mq_R h3 q 0 = some b := by
        rw [m3.2.2.2.1, mq_R_setR, if_neg nq]
        exact z4
      refine gq_i (by rw [m3.2.2.1]; show mq_isO (mq_sh h1 q) 6 = true; rw [sq]; rfl) ?_
      refine oq_s rb ?_
      refine gq_i (by rw [m3.2.2.1]; show mq_isA (mq_sh h1 b) = true; rw [z7]; rfl) ?_
      refine hq _ h3 I3 (f1'.tr ⟨fun a k ha e => ?_, ?_, ?_⟩) (by rw [m3.1]; exact N1) (by rw [m3.2.1]; exact Z1) ((m3.2.2.2.2 35 1 (by decide)).trans l1)
      · exact m3.2.2.2.2 a k (ck_sub_of (Md := kc_45.2.2) (M := x_CtM) (by decide) _ e)
      · rw [m3.2.2.2.1]
        funext j
        rw [mq_R_setR, if_neg (by decide)]
      · rw [m3.1]
        exact Nat.le_refl _
  · refine bn_f rfl ?_
    refine mq_Call.mono (mq_Call.and (kv_78 _ _ I ⟨rfl, trivial⟩) x_pass0) (fun v h3 ⟨⟨I3, m3, er⟩, l3⟩ => ?_)
    have er : v = none := er
    subst er
    exact hq _ h3 I3 (x_cf.md m3 (by decide)) (by rw [m3.1]; omega) (by rw [m3.2.1]; omega) l3
end XT
