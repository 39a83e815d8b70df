/-! THE CHECKER, 10: the writing steps are right -/
def ck_outW (X : mq_H → Prop) (M lL : Nat) (h0 h : mq_H) (r : List Value) (m pc nx : Nat) (L : mq_L) (st : List Value) (q : List ck_A × ck_Z) : Prop := ∃ (st' : List Value) (h' : mq_H), ck_g h0 r h' q.2 ∧ ck_Iv X h' ∧ ck_md M h0 h' ∧ ck_rS h0 r q.1 st' ∧ ∀ Q, mq_At mq_G (mq_tT lL) m nx L st' h' Q → mq_At mq_G (mq_tT lL) m pc L st h Q
section CK9
variable {X : mq_H → Prop} {M sup lL : Nat} {h0 h : mq_H} {r : List Value} {m pc nx a b c j : Nat} {kk : Int32} {S : List ck_A} {Z : ck_Z} {L : mq_L} {st : List Value} {q : List ck_A × ck_Z}
theorem ck_obS {k ci : Nat} (hT : (mq_tT lL).1 k = some (.inl ci)) : mq_ob (mq_tT lL) h (.retAddr k) ci = some (none, k) := by
  unfold mq_ob
  dsimp only
  rw [hT]
  dsimp only
  rw [Nat.beq_refl]
  rfl
theorem ck_arS {k t n : Nat} {y : Int32} (hT : (mq_tT lL).1 k = some (.inr (t, n))) (hb : mq_inb y n = true) : mq_ar (mq_tT lL) h (.retAddr k) t y = some (true, k) := by
  unfold mq_ar
  dsimp only
  rw [hT]
  dsimp only
  rw [Nat.beq_refl, hb]
  rfl
theorem ow_put {n : Nat} (hX : ck_Xf X sup) (H : ck_W M sup (.putfield n) a b c S Z = some q) (G : ck_g h0 r h Z) (RS : ck_rS h0 r S st) (I : ck_Iv X h) (md : ck_md M h0 h) (b0 : Nat.testBit M 0 = false) (hP : mq_cd m pc = some (.putfield n, nx, a, b, c, kk, j)) : ck_outW X M lL h0 h r m pc nx L st q := by
  match S, H, RS with
  | [], H, _ => cases H
  | [_], H, _ => cases H
  | x :: v :: R, H1, RS =>
    obtain ⟨w1, V1, rfl, e1, RS1⟩ := RS.cons
    obtain ⟨w2, V2, rfl, e2, RS2⟩ := RS1.cons
    unfold ck_W at H1
    dsimp only at H1
    cases t3 : Nat.beq v.1 3 with
    | false => rw [t3] at H1; cases H1
    | true =>
      rw [t3] at H1
      have := ck_rl3 t3 e2
      subst this
      simp only [cond_true] at H1
      cases hT : mq_tS1 v.2.1 with
      | none => rw [hT] at H1; cases H1
      | some s =>
        rw [hT] at H1
        cases s with
        | inr _ => cases H1
        | inl ci =>
          dsimp only at H1
          have hT' := ck_tS (lL := lL) hT
          cases hc : Nat.beq ci a with
          | false => rw [hc] at H1; cases H1
          | true =>
            rw [hc] at H1
            simp only [cond_true] at H1
            have hc := Nat.eq_of_beq_eq_true hc
            subst hc
            have hob := ck_obS (h := h) hT'
            have hs : ∀ kind, mq_step (mq_tT lL) (.putfield n) pc nx ci b kind kk L (w1 :: .retAddr v.2.1 :: V2) h = mq_pf (mq_tT lL) h w1 (.retAddr v.2.1) ci b kind nx L V2 := fun _ => rfl
            split at H1
            · cases t4 : Nat.beq x.1 4 with
              | false => rw [t4] at H1; cases H1
              | true =>
                rw [t4] at H1
                cases H1
                obtain ⟨y, rfl⟩ := ck_isJ_in t4 e1
                obtain ⟨g1, g2, g3⟩ := ck_setL hX G I md b0 (a := v.2.1) (k := b) (x := y)
                refine ⟨V2, _, g1, g2, g3, RS2, fun _ hA => at_nx (g := none) hP ?_ rfl hA⟩
                rw [hs]
                unfold mq_pf
                rw [hob]
                rfl
            · cases H1
            · rename_i n1 n2
              cases t : ck_isI x && (Nat.beq (ck_lca v.2.1) 0 && ((ck_iva v.2.1).isNone && ck_wl M sup (ck_lco v.2.1 b))) with
              | false => rw [t] at H1; cases H1
              | true =>
                rw [t] at H1
                simp only [Bool.and_eq_true] at t
                obtain ⟨t1, t2, t3, t4⟩ := t
                obtain ⟨y, rfl, e1⟩ := ck_isI_in t1 e1
                simp only [cond_true] at H1
                split at H1
                · rename_i l u hi
                  cases t5 : decide (l ≤ ck_l Z x) && (decide (ck_u Z x ≤ u) && (bif Nat.beq c 3 then decide (0 ≤ ck_l Z x) && decide (ck_u Z x ≤ 1) else true)) with
                  | false => rw [t5] at H1; cases H1
                  | true =>
                    rw [t5] at H1
                    simp only [Bool.and_eq_true, decide_eq_true_eq] at t5
                    obtain ⟨k1, k2, k3⟩ := t5
                    cases H1
                    obtain ⟨g1, g2, g3⟩ := ck_setF hX G I md b0 (x := y) t2 (Option.isNone_iff_eq_none.mp t3) hi k1 k2 t4 e1
                    have rg := ck_r_ok G e1
                    by_cases h3 : c = 3
                    · subst h3
                      have k3 : (decide (0 ≤ ck_l Z x) && decide (ck_u Z x ≤ 1)) = true := k3
                      simp only [Bool.and_eq_true, decide_eq_true_eq] at k3
                      refine ⟨V2, _, g1, g2, g3, RS2, fun _ hA => at_nx (g := mq_an none (mq_bit y)) hP ?_ (ci_bit (by omega) (by omega)) hA⟩
                      rw [hs]
                      unfold mq_pf
                      rw [hob]
                      rfl
                    · refine ⟨V2, _, g1, g2, g3, RS2, fun _ hA => at_nx (g := none) hP ?_ rfl hA⟩
                      rw [hs]
                      unfold mq_pf
                      rw [hob]
                      dsimp only
                      split
                      · exact absurd rfl n1
                      · exact absurd rfl n2
                      · exact absurd rfl h3
                      · rfl
                · cases H1
theorem ow_ias (hX : ck_Xf X sup) (H : ck_W M sup .iastore a b c S Z = some q) (G : ck_g h0 r h Z) (RS : ck_rS h0 r S st) (I : ck_Iv X h) (md : ck_md M h0 h) (b0 : Nat.testBit M 0 = false) (hP : mq_cd m pc = some (.iastore, nx, a, b, c, kk, j)) : ck_outW X M lL h0 h r m pc nx L st q := by
  match S, H, RS with
  | [], H, _ => cases H
  | [_], H, _ => cases H
  | [_, _], H, _ => cases H
  | x :: i :: v :: R, H, RS =>
    obtain ⟨w1, V1, rfl, e1, RS1⟩ := RS.cons
    obtain ⟨w2, V2, rfl, e2, RS2⟩ := RS1.cons
    obtain ⟨w3, V3, rfl, e3, RS3⟩ := RS2.cons
    unfold ck_W at H
    dsimp only at H
    cases t : Nat.beq v.1 3 && (ck_isI x && ck_isI i) with
    | false => rw [t] at H; cases H
    | true =>
      rw [t] at H
      simp only [Bool.and_eq_true] at t
      obtain ⟨t1, t2, t3⟩ := t
      have := ck_rl3 t1 e3
      subst this
      obtain ⟨y, rfl, e1⟩ := ck_isI_in t2 e1
      obtain ⟨z, rfl, e2⟩ := ck_isI_in t3 e2
      simp only [cond_true] at H
      split at H
      · rename_i n hT
        split at H
        · rename_i n' l u hi
          cases t5 : Nat.ble n n' && (ck_ix Z i n && (decide (l ≤ ck_l Z x) && (decide (ck_u Z x ≤ u) && ck_wl M sup (ck_lca v.2.1)))) with
          | false => rw [t5] at H; cases H
          | true =>
            rw [t5] at H
            simp only [Bool.and_eq_true, decide_eq_true_eq] at t5
            obtain ⟨k1, k2, k3, k4, k5⟩ := t5
            cases H
            have rg := ck_r_ok G e1
            have hb := ck_ix_ok k2 G e2
            obtain ⟨g1, g2, g3⟩ := ck_setE hX G I md b0 (k := z.toNatClampNeg) (x := y) hi (by omega) (by omega) k5
            refine ⟨V3, _, ck_hp_ok g1 ⟨z, e2, ?_⟩, g2, g3, RS3, fun _ hA => at_nx (g := some true) hP ?_ rfl hA⟩
            · rw [mq_I_setI, if_pos rfl, if_pos rfl]
              exact e1
            · show (match mq_ar (mq_tT lL) h (.retAddr v.2.1) 0 z with | some (g, q) => mq_gx (some g) nx L V3 (mq_setI h q z.toNatClampNeg y) | none => none) = _
              rw [ck_arS (ck_tS hT) hb]
        · cases H
      · cases H
theorem ow_bas (hX : ck_Xf X sup) (H : ck_W M sup .bastore a b c S Z = some q) (G : ck_g h0 r h Z) (RS : ck_rS h0 r S st) (I : ck_Iv X h) (md : ck_md M h0 h) (b0 : Nat.testBit M 0 = false) (hP : mq_cd m pc = some (.bastore, nx, a, b, c, kk, j)) : ck_outW X M lL h0 h r m pc nx L st q := by
  match S, H, RS with
  | [], H, _ => cases H
  | [_], H, _ => cases H
  | [_, _], H, _ => cases H
  | x :: i :: v :: R, H, RS =>
    obtain ⟨w1, V1, rfl, e1, RS1⟩ := RS.cons
    obtain ⟨w2, V2, rfl, e2, RS2⟩ := RS1.cons
    obtain ⟨w3, V3, rfl, e3, RS3⟩ := RS2.cons
    unfold ck_W at H
    dsimp only at H
    cases t : Nat.beq v.1 3 && (ck_isI x && ck_isI i) with
    | false => rw [t] at H; cases H
    | true =>
      rw [t] at H
      simp only [Bool.and_eq_true] at t
      obtain ⟨t1, t2, t3⟩ := t
      have := ck_rl3 t1 e3
      subst this
      obtain ⟨y, rfl, e1⟩ := ck_isI_in t2 e1
      obtain ⟨z, rfl, e2⟩ := ck_isI_in t3 e2
      simp only [cond_true] at H
      split at H
      · rename_i ty n hT
        split at H
        · rename_i n' l u hi
          cases t5 : Nat.ble n n' && (ck_ix Z i n && ck_wl M sup (ck_lca v.2.1)) with
          | false => rw [t5] at H; cases H
          | true =>
            rw [t5] at H
            simp only [Bool.and_eq_true] at t5
            obtain ⟨k1, k2, k3⟩ := t5
            simp only [cond_true] at H
            have rg := ck_r_ok G e1
            have hb := ck_ix_ok k2 G e2
            have hT' := ck_tS (lL := lL) hT
            have e3 : mq_ty (mq_tT lL) (.retAddr v.2.1) 1 = ty := by unfold mq_ty; dsimp only; rw [hT']
            have hs : mq_step (mq_tT lL) .bastore pc nx a b c kk L (.int y :: .int z :: .retAddr v.2.1 :: V3) h = (bif Nat.beq ty 1 then mq_gx (some true) nx L V3 (mq_setI h v.2.1 z.toNatClampNeg y.toInt8.toInt32) else (bif Nat.beq ty 2 then mq_gx (some (true && mq_bit y)) nx L V3 (mq_setI h v.2.1 z.toNatClampNeg y) else none)) := by
              show (match mq_ar (mq_tT lL) h (.retAddr v.2.1) (mq_ty (mq_tT lL) (.retAddr v.2.1) 1) z with | some (g, q) => bif Nat.beq (mq_ty (mq_tT lL) (.retAddr v.2.1) 1) 1 then mq_gx (some g) nx L V3 (mq_setI h q z.toNatClampNeg y.toInt8.toInt32) else (bif Nat.beq (mq_ty (mq_tT lL) (.retAddr v.2.1) 1) 2 then mq_gx (some (g && mq_bit y)) nx L V3 (mq_setI h q z.toNatClampNeg y) else none) | none => none) = _
              rw [e3, ck_arS hT' hb]
            cases t6 : Nat.beq ty 1 && (decide (l ≤ -128) && decide (127 ≤ u)) with
            | true =>
              rw [t6] at H
              simp only [Bool.and_eq_true, decide_eq_true_eq] at t6
              obtain ⟨m1, m2, m3⟩ := t6
              cases H
              have rb := ci_i2b y
              obtain ⟨g1, g2, g3⟩ := ck_setE hX G I md b0 (k := z.toNatClampNeg) (x := y.toInt8.toInt32) hi (by omega) (by omega) k3
              refine ⟨V3, _, g1, g2, g3, RS3, fun _ hA => at_nx (g := some true) hP ?_ rfl hA⟩
              rw [hs, m1]
              rfl
            | false =>
              rw [t6] at H
              simp only [cond_false] at H
              cases t7 : Nat.beq ty 2 && (decide (0 ≤ ck_l Z x) && (decide (ck_u Z x ≤ 1) && (decide (l ≤ ck_l Z x) && decide (ck_u Z x ≤ u)))) with
              | false => rw [t7] at H; cases H
              | true =>
                rw [t7] at H
                simp only [Bool.and_eq_true, decide_eq_true_eq] at t7
                obtain ⟨m1, m2, m3, m4, m5⟩ := t7
                cases H
                obtain ⟨g1, g2, g3⟩ := ck_setE hX G I md b0 (k := z.toNatClampNeg) (x := y) hi (by omega) (by omega) k3
                refine ⟨V3, _, ck_hp_ok g1 ⟨z, e2, ?_⟩, g2, g3, RS3, fun _ hA => at_nx (g := some (true && mq_bit y)) hP ?_ (by rw [ci_bit (x := y) (by omega) (by omega)]; rfl) hA⟩
                · rw [mq_I_setI, if_pos rfl, if_pos rfl]
                  exact e1
                · rw [hs, m1, show Nat.beq ty 1 = false from by rw [Nat.eq_of_beq_eq_true m1]; rfl]
                  rfl
        · cases H
      · cases H
theorem ow_las (hX : ck_Xf X sup) (H : ck_W M sup .lastore a b c S Z = some q) (G : ck_g h0 r h Z) (RS : ck_rS h0 r S st) (I : ck_Iv X h) (md : ck_md M h0 h) (b0 : Nat.testBit M 0 = false) (hP : mq_cd m pc = some (.lastore, nx, a, b, c, kk, j)) : ck_outW X M lL h0 h r m pc nx L st q := by
  match S, H, RS with
  | [], H, _ => cases H
  | [_], H, _ => cases H
  | [_, _], H, _ => cases H
  | x :: i :: v :: R, H, RS =>
    obtain ⟨w1, V1, rfl, e1, RS1⟩ := RS.cons
    obtain ⟨w2, V2, rfl, e2, RS2⟩ := RS1.cons
    obtain ⟨w3, V3, rfl, e3, RS3⟩ := RS2.cons
    unfold ck_W at H
    dsimp only at H
    cases t : Nat.beq v.1 3 && (Nat.beq x.1 4 && ck_isI i) with
    | false => rw [t] at H; cases H
    | true =>
      rw [t] at H
      simp only [Bool.and_eq_true] at t
      obtain ⟨t1, t2, t3⟩ := t
      have := ck_rl3 t1 e3
      subst this
      obtain ⟨y, rfl⟩ := ck_isJ_in t2 e1
      obtain ⟨z, rfl, e2⟩ := ck_isI_in t3 e2
      simp only [cond_true] at H
      split at H
      · rename_i ty n hT
        cases t5 : Nat.beq ty 3 && ck_ix Z i n with
        | false => rw [t5] at H; cases H
        | true =>
          rw [t5] at H
          rw [Bool.and_eq_true] at t5
          cases H
          have e := Nat.eq_of_beq_eq_true t5.1
          subst e
          have hb := ck_ix_ok t5.2 G e2
          obtain ⟨g1, g2, g3⟩ := ck_setL hX G I md b0 (a := v.2.1) (k := z.toNatClampNeg) (x := y)
          refine ⟨V3, _, g1, g2, g3, RS3, fun _ hA => at_nx (g := some true) hP ?_ rfl hA⟩
          show (match mq_ar (mq_tT lL) h (.retAddr v.2.1) 3 z with | some (g, q) => mq_gx (some g) nx L V3 (mq_setJ h q z.toNatClampNeg y) | none => none) = _
          rw [ck_arS (ck_tS hT) hb]
      · cases H
theorem ow_cp {n : Nat} (hX : ck_Xf X sup) (H : ck_W M sup (.invokestatic n) a b c S Z = some q) (G : ck_g h0 r h Z) (RS : ck_rS h0 r S st) (I : ck_Iv X h) (md : ck_md M h0 h) (b0 : Nat.testBit M 0 = false) (hP : mq_cd m pc = some (.invokestatic n, nx, a, b, c, kk, j)) : ck_outW X M lL h0 h r m pc nx L st q := by
  unfold ck_W at H
  dsimp only at H
  cases ta : Nat.beq a 1000 with
  | false => rw [ta] at H; cases H
  | true =>
    rw [ta] at H
    simp only [cond_true] at H
    match S, H, RS with
    | [], H, _ => cases H
    | [_], H, _ => cases H
    | [_, _], H, _ => cases H
    | [_, _, _], H, _ => cases H
    | [_, _, _, _], H, _ => cases H
    | xn :: xd :: d :: xs :: s :: R, H, RS =>
      obtain ⟨w1, V1, rfl, e1, RS1⟩ := RS.cons
      obtain ⟨w2, V2, rfl, e2, RS2⟩ := RS1.cons
      obtain ⟨w3, V3, rfl, e3, RS3⟩ := RS2.cons
      obtain ⟨w4, V4, rfl, e4, RS4⟩ := RS3.cons
      obtain ⟨w5, V5, rfl, e5, RS5⟩ := RS4.cons
      dsimp only at H
      cases t : Nat.beq d.1 3 && (Nat.beq s.1 3 && (ck_isI xn && (ck_isI xd && (ck_isI xs && (!(Nat.beq s.2.1 d.2.1) && (Nat.ble b 3 && Nat.ble (R.foldr (fun v n => ck_ct v + n) 0) 8)))))) with
      | false => rw [t] at H; cases H
      | true =>
        rw [t] at H
        simp only [Bool.and_eq_true, Bool.not_eq_true'] at t
        obtain ⟨t1, t2, t3, t4, t5, t6, t7, t8⟩ := t
        have := ck_rl3 t1 e3
        subst this
        have := ck_rl3 t2 e5
        subst this
        obtain ⟨yn, rfl, e1⟩ := ck_isI_in t3 e1
        obtain ⟨yd, rfl, e2⟩ := ck_isI_in t4 e2
        obtain ⟨ys, rfl, e4⟩ := ck_isI_in t5 e4
        simp only [cond_true] at H
        split at H
        · rename_i t0 n0 ty1 n1 hT0 hT1
          split at H
          · rename_i k0 l0 u0 k1 l1 u1 hi0 hi1
            cases t9 : Nat.beq t0 b && (Nat.beq ty1 b && (decide (0 ≤ ck_l Z xn) && (decide (0 ≤ ck_l Z xd) && (decide (0 ≤ ck_l Z xs) && (decide (ck_u Z xs + ck_u Z xn ≤ (n0 : Int)) && (decide (ck_u Z xd + ck_u Z xn ≤ (n1 : Int)) && (Nat.ble n0 k0 && (decide (l1 ≤ l0) && (decide (u0 ≤ u1) && ck_wl M sup (ck_lca d.2.1)))))))))) with
            | false => rw [t9] at H; cases H
            | true =>
              rw [t9] at H
              simp only [Bool.and_eq_true, decide_eq_true_eq] at t9
              obtain ⟨q1, q2, q3, q4, q5, q6, q7, q8, q9, q10, q11⟩ := t9
              cases H
              have r1 := ck_r_ok G e1
              have r2 := ck_r_ok G e2
              have r4 := ck_r_ok G e4
              have c1 := ci_cl (i := yn) (by omega)
              have c2 := ci_cl (i := yd) (by omega)
              have c4 := ci_cl (i := ys) (by omega)
              have q8 := Nat.le_of_ble_eq_true q8
              obtain ⟨g1, g2, g3⟩ := ck_cpE hX G I md b0 (sp := ys.toNatClampNeg) (dp := yd.toNatClampNeg) (c := yn.toNatClampNeg) hi1 hi0 q9 q10 (by omega) q11
              refine ⟨V5, _, g1, g2, g3, RS5, fun _ hA => at_nx (g := some true) hP ?_ rfl hA⟩
              show (bif Nat.beq a 1000 then mq_copy (mq_tT lL) h b nx L (.int yn :: .int yd :: .retAddr d.2.1 :: .int ys :: .retAddr s.2.1 :: V5) else (bif Nat.beq a 1002 then mq_mx nx L (.int yn :: .int yd :: .retAddr d.2.1 :: .int ys :: .retAddr s.2.1 :: V5) h else (bif Nat.beq a 1003 then mq_mi nx L (.int yn :: .int yd :: .retAddr d.2.1 :: .int ys :: .retAddr s.2.1 :: V5) h else mq_ivS a b nx (.int yn :: .int yd :: .retAddr d.2.1 :: .int ys :: .retAddr s.2.1 :: V5)))) = _
              rw [ta]
              have f0 : mq_rf (mq_tT lL) h (.retAddr s.2.1) = some (s.2.1, .inr (t0, n0)) := by unfold mq_rf; dsimp only; rw [ck_tS hT0]
              have f1 : mq_rf (mq_tT lL) h (.retAddr d.2.1) = some (d.2.1, .inr (ty1, n1)) := by unfold mq_rf; dsimp only; rw [ck_tS hT1]
              simp only [cond_true]
              unfold mq_copy
              dsimp only
              rw [f0]
              dsimp only
              rw [f1]
              dsimp only
              have hcat : Nat.ble (mq_cat V5) 8 = true := by rw [ck_rem2 RS5]; exact t8
              have h4 : Nat.ble 4 b = false := by
                cases z : Nat.ble 4 b with
                | false => rfl
                | true => have := Nat.le_of_ble_eq_true z; have := Nat.le_of_ble_eq_true t7; omega
              rw [hcat, h4]
              simp only [cond_true, cond_false]
              have hgC : mq_gC (.inr (t0, n0)) (.inr (ty1, n1)) b ys yd yn = true := by
                show (Nat.beq t0 b && (Nat.beq ty1 b && decide _)) = true
                rw [q1, q2]
                exact decide_eq_true ⟨by omega, by omega, by omega, by omega, by omega⟩
              rw [hgC, t6]
              rfl
          · cases H
        · cases H
theorem ck_W_ok {ins : Instr} (hX : ck_Xf X sup) (H : ck_W M sup ins a b c S Z = some q) (G : ck_g h0 r h Z) (RS : ck_rS h0 r S st) (I : ck_Iv X h) (md : ck_md M h0 h) (b0 : Nat.testBit M 0 = false) (hP : mq_cd m pc = some (ins, nx, a, b, c, kk, j)) : ck_outW X M lL h0 h r m pc nx L st q := by
  cases ins
  case putfield n => exact ow_put hX H G RS I md b0 hP
  case iastore => exact ow_ias hX H G RS I md b0 hP
  case bastore => exact ow_bas hX H G RS I md b0 hP
  case lastore => exact ow_las hX H G RS I md b0 hP
  case invokestatic n => exact ow_cp hX H G RS I md b0 hP
  all_goals (cases H)
end CK9
