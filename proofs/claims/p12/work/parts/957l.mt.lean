/-! text of the reference -/
section XL
variable {lL : Nat} {h h' h2 : mq_H} {Q : Option Value → mq_H → Prop}
theorem x_isLaw {x : Int32} (h1 : 0 ≤ x.toInt → x.toInt ≤ 7 → Q (some (.int 1)) h) (h0 : Q (some (.int 0)) h) : mq_Call mq_G (mq_tT lL) 140 [.retAddr 59, .int x] h Q := by
  apply mq_enter 40 []
  refine bq_c (fun c => ?_) (fun c => ?_)
  · exact gq_i rfl h0
  · rw [lt_i] at c
    have c : ¬ x.toInt < 0 := c
    refine bq_c (fun c2 => ?_) (fun c2 => ?_)
    · exact gq_i rfl h0
    · rw [le_i] at c2
      have c2 : ¬ (8 : Int) ≤ x.toInt := c2
      exact gq_i rfl (h1 (by omega) (by omega))
def x_XM : Nat := 42534961205359149911814734456618483712
/-- all but a law's row -/
def x_E (kk : Nat) (h : mq_H) : Prop := ck_IvI h ∧ ck_IvD h ∧ x_hd h ∧ x_wd h ∧ (∀ row, row < 8 → ¬ row = kk → ∀ i : Nat, (i : Int) < (mq_I h 82 row).toInt → x_ln (mq_I h) row (16 * row + i)) ∧ x_ct (mq_I h) ∧ x_img h ∧ x_lws h ∧ x_sv h
theorem x_setE {kk a k : Nat} {x : Int32} (hkk : kk < 8) (hak : ((a = 83 ∨ a = 84 ∨ a = 85 ∨ a = 86 ∨ a = 87) ∧ ∃ i, i < 16 ∧ k = 16 * kk + i) ∨ ((a = 88 ∨ a = 89) ∧ ∃ i, i < 400 ∧ k = 400 * kk + i)) (hx : ∀ n l u, ck_iva a = some (n, l, u) → l ≤ x.toInt ∧ x.toInt ≤ u) (E : x_E kk h') (md : ck_md x_XM h h') : x_E kk (mq_setI h' a k x) ∧ ck_md x_XM h (mq_setI h' a k x) := by
  obtain ⟨I1, I2, a1, a2, a3, a4, a5, a6, a7⟩ := E
  have hlc : ck_lc a k = ck_lca a ∧ ¬ ck_lca a = 0 ∧ Nat.testBit x_XM (ck_lca a) = true ∧ ck_ivo a k = none := by
    rcases hak with ⟨e | e | e | e | e, -⟩ | ⟨e | e, -⟩ <;> subst e <;> exact ⟨rfl, by decide, by decide, rfl⟩
  have ne : ∀ b, ¬ b = a → mq_I (mq_setI h' a k x) b = mq_I h' b := fun b hb => mq_setI_ne hb k x
  have na : ∀ b, b = 59 ∨ b = 81 ∨ b = 82 ∨ b = 71 ∨ b = 75 ∨ b = 99 → ¬ b = a := fun b hb e => by
    subst e
    rcases hak with ⟨e | e | e | e | e, -⟩ | ⟨e | e, -⟩ <;> subst e <;> revert hb <;> decide
  have lc0 : ∀ b j, ck_lc b j = 0 → mq_I (mq_setI h' a k x) b j = mq_I h' b j := fun b j z => ck_setI_at (fun e => by
    rw [e.1, e.2, hlc.1] at z
    exact hlc.2.1 z)
  obtain ⟨d1, d2, d3⟩ := x_dyn (h := h') (h' := mq_setI h' a k x) rfl rfl rfl lc0
  have hI : ck_IvI (mq_setI h' a k x) := I1.set (fun l u z => by rw [hlc.2.2.2] at z; cases z) (fun n l u z _ => hx n l u z)
  refine ⟨⟨hI, d3 I2, a1, fun j hj => ?_, fun row hr hrk i hi => ?_, ?_, fun hi => ?_, d1 a6, d2 a7⟩, md.1, md.2.1, md.2.2.1, md.2.2.2.1, fun b j e => ?_⟩
  · rw [ne _ (na _ (Or.inr (Or.inl rfl)))]
    exact a2 j hj
  · rw [ne _ (na _ (Or.inr (Or.inr (Or.inl rfl))))] at hi
    have hm := I1.2 82 9 0 16 rfl row (by omega)
    refine x_ln_cong (v := mq_I h') (ck_setI_at (fun e => ?_)) (ck_setI_at (fun e => ?_)) (I1.2 87 144 0 400 rfl _ (by omega)).2 (I1.2 86 144 0 400 rfl _ (by omega)).1 (fun j hj => ⟨ck_setI_at (fun e => ?_), ck_setI_at (fun e => ?_)⟩) (a3 row hr hrk i hi)
    · rcases hak with ⟨-, q, z1, z2⟩ | ⟨q | q, -⟩ <;> omega
    · rcases hak with ⟨-, q, z1, z2⟩ | ⟨q | q, -⟩ <;> omega
    · rcases hak with ⟨q | q | q | q | q, -⟩ | ⟨-, q, z1, z2⟩ <;> omega
    · rcases hak with ⟨q | q | q | q | q, -⟩ | ⟨-, q, z1, z2⟩ <;> omega
  · unfold x_ct
    rw [ne 59 (na _ (Or.inl rfl)), ne 71 (na _ (Or.inr (Or.inr (Or.inr (Or.inl rfl))))), ne 75 (na _ (Or.inr (Or.inr (Or.inr (Or.inr (Or.inl rfl))))))]
    exact a4
  · rw [ne 59 (na _ (Or.inl rfl))] at hi
    have vw : x_vw (mq_setI h' a k x) = x_vw h' := by
      funext b j
      unfold x_vw
      rw [ne 99 (na _ (Or.inr (Or.inr (Or.inr (Or.inr (Or.inr rfl))))))]
    rw [vw]
    exact a5 hi
  · rw [ck_setI_at (fun q => by rw [q.1, q.2, hlc.1, hlc.2.2.1] at e; cases e)]
    exact md.2.2.2.2 b j e
/-- a field of the reference set -/
theorem x_fld (I : ck_Iv x_X h') (md : ck_md x_XM h h') {k : Nat} {x : Int32} {l u : Int} (hw : ck_wl x_XM x_sup (ck_lc 59 k) = true) (hi : ck_ivo 59 k = some (l, u)) (h0 : l ≤ x.toInt) (h1 : x.toInt ≤ u) : ck_Iv x_X (mq_setI h' 59 k x) ∧ ck_md x_XM h (mq_setI h' 59 k x) := x_set I md (by decide) hw (fun l u z => by rw [hi] at z; cases z; exact ⟨h0, h1⟩) (fun n l u z _ => by cases z)
theorem x_mtext (I : ck_Iv x_X h) {x : Int32} (hq : ∀ (v : Int32) h2, ck_Iv x_X h2 → ck_md x_XM h h2 → Q (some (.int v)) h2) : mq_Call mq_G (mq_tT lL) 177 [.retAddr 59, .int x] h Q := by
  have T0 : ∀ y : Int32, (-2147483648 : Int) ≤ y.toInt ∧ y.toInt ≤ 2147483647 := ci_rng
  have K1 := x_fld (x := 0) (k := 0) I (ck_md.rf _ h) (by decide) rfl (T0 0).1 (T0 0).2
  have K2 := x_fld (x := 0) (k := 45) K1.1 K1.2 (by decide) rfl (T0 0).1 (T0 0).2
  have K3 := x_fld (x := -1) (k := 46) K2.1 K2.2 (by decide) rfl (T0 (-1)).1 (T0 (-1)).2
  have K4 := x_fld (x := 0) (k := 26) K3.1 K3.2 (by decide) rfl (by decide) (by decide)
  have K5 := x_fld (x := 0) (k := 39) K4.1 K4.2 (by decide) rfl (by decide) (by decide)
  have K6 := x_fld (x := 0) (k := 40) K5.1 K5.2 (by decide) rfl (T0 0).1 (T0 0).2
  obtain ⟨T, eT, hT, -⟩ := x_nat (n := 400) (I.1.1 59 25 0 400 rfl).1 (I.1.1 59 25 0 400 rfl).2
  -- the end: nothing read
  have none_ : ∀ (r : Int32) (l4 : Option Value) (h1 : mq_H), ck_Iv x_X h1 → ck_md x_XM h h1 → mq_At mq_G (mq_tT lL) 177 53 [some (.retAddr 59), some (.int x), some (.int r), some (.int (-1)), l4] [] h1 Q := by
    intro r l4 h1 I1 m1
    have J1 := x_fld (x := 0) (k := 25) I1 m1 (by decide) rfl (by decide) (by decide)
    have J2 := x_fld (x := mq_I h1 59 43) (k := 45) J1.1 J1.2 (by decide) rfl (T0 _).1 (T0 _).2
    have J3 := x_fld (x := mq_I h1 59 44) (k := 46) J2.1 J2.2 (by decide) rfl (T0 _).1 (T0 _).2
    apply mq_go 60 []
    refine bq_c (fun _ => ?_) (fun _ => ?_)
    · refine bn_f rfl ?_
      exact hq _ _ J1.1 J1.2
    · refine bn_f rfl ?_
      refine bn_f rfl ?_
      exact hq _ _ J3.1 J3.2
  -- a law read
  have some_ : ∀ (kk k c : Nat) (l4 : Option Value) (h1 : mq_H), x = nI kk → kk ≤ 7 → k ≤ 16 → c ≤ 400 → ck_Iv x_X h1 → ck_md x_XM h h1 → mq_I h1 59 39 = nI c → x_dl h1 k c → mq_At mq_G (mq_tT lL) 177 53 [some (.retAddr 59), some (.int x), some (.int 1), some (.int (nI k)), l4] [] h1 Q := by
    intro kk k c l4 h1 ex hkk hk hc I1 m1 ec DL
    subst ex
    have J1 := x_fld (x := 0) (k := 25) I1 m1 (by decide) rfl (by decide) (by decide)
    obtain ⟨g, eg⟩ : ∃ H, H = mq_setI h1 59 25 0 := ⟨_, rfl⟩
    rw [← eg] at J1
    have DL : x_dl g k c := by rw [eg]; exact DL
    have ec : mq_I g 59 39 = nI c := by rw [eg]; exact ec
    have E0 : x_E kk g := ⟨J1.1.1, J1.1.2.1, J1.1.2.2.1, J1.1.2.2.2.1, fun row hr _ i hi => J1.1.2.2.2.2.1 row hr i hi, J1.1.2.2.2.2.2.1, J1.1.2.2.2.2.2.2.1, J1.1.2.2.2.2.2.2.2.1, J1.1.2.2.2.2.2.2.2.2⟩
    have e16 : ∀ i : Nat, (16 : Int32) * nI kk + nI i = nI (16 * kk + i) := fun i => by rw [x_lit16, nI_add]
    have e128 : ∀ i : Nat, (128 : Int32) + nI i = nI (128 + i) := fun i => by rw [show (128 : Int32) = nI 128 from rfl, nI_add]
    have e400 : ∀ i : Nat, (400 : Int32) * nI kk + nI i = nI (400 * kk + i) := fun i => by rw [show (400 : Int32) = nI 400 from rfl, nI_mul, nI_add]
    have e3200 : ∀ i : Nat, (3200 : Int32) + nI i = nI (3200 + i) := fun i => by rw [show (3200 : Int32) = nI 3200 from rfl, nI_add]
    -- the codes
    have lp2 : ∀ (n i : Nat) (y : Int32) (h' : mq_H), i + n = c → x_E kk h' → ck_md x_XM h h' → mq_I h' 59 39 = nI c → (∀ j, j < k → mq_I h' 86 (16 * kk + j) = mq_I g 86 (128 + j) ∧ mq_I h' 87 (16 * kk + j) = mq_I g 87 (128 + j)) → (∀ j, j < i → mq_I h' 88 (400 * kk + j) = mq_I g 88 (3200 + j) ∧ mq_I h' 89 (400 * kk + j) = mq_I g 89 (3200 + j)) → (∀ j, 3200 ≤ j → mq_I h' 88 j = mq_I g 88 j ∧ mq_I h' 89 j = mq_I g 89 j) → y = nI i → mq_At mq_G (mq_tT lL) 177 223 [some (.retAddr 59), some (.int (nI kk)), some (.int 1), some (.int (nI k)), some (.int y)] [] h' Q := by
      intro n
      induction n with
      | zero =>
        intro i y h' hi E md ec' hl ho hd ey
        have hi : i = c := by omega
        subst ey hi
        apply mq_go 60 []
        refine bq_t (by rw [ec']; exact Int32.le_refl _) ?_
        refine gq_i (inb_nI (by omega) (by decide)) ?_
        rw [nI_clamp (by omega)]
        obtain ⟨I1', I2', b1, b2, b3, b4, b5, b6, b7⟩ := E
        have ne : ∀ b, ¬ b = 82 → mq_I (mq_setI h' 82 kk (nI k)) b = mq_I h' b := fun b hb => mq_setI_ne hb kk (nI k)
        have lc0 : ∀ b j, ck_lc b j = 0 → mq_I (mq_setI h' 82 kk (nI k)) b j = mq_I h' b j := fun b j z => ck_setI_at (fun e => by
          rw [e.1] at z
          exact absurd z (show ¬ ck_lca 82 = 0 by decide))
        obtain ⟨d1, d2, d3⟩ := x_dyn (h := h') (h' := mq_setI h' 82 kk (nI k)) rfl rfl rfl lc0
        refine hq _ _ ⟨I1'.set (fun l u z => by cases z) (fun n l u z _ => by cases z; rw [nI_toInt (by omega)]; omega), d3 I2', b1, fun j hj => by rw [ne _ (by decide)]; exact b2 j hj, fun row hr i' hi' => ?_, ?_, fun hi' => ?_, d1 b6, d2 b7⟩ ⟨md.1, md.2.1, md.2.2.1, md.2.2.2.1, fun b j e => ?_⟩
        · have cong : ∀ row l, x_ln (mq_I h') row l → x_ln (mq_I (mq_setI h' 82 kk (nI k))) row l := fun row l z => by
            unfold x_ln at z ⊢
            rw [ne 86 (by decide), ne 87 (by decide), ne 88 (by decide), ne 89 (by decide)]
            exact z
          by_cases er : row = kk
          · subst er
            rw [mq_I_setI, if_pos rfl, if_pos rfl, nI_toInt (by omega)] at hi'
            refine cong _ _ ?_
            obtain ⟨⟨z1, D, z2⟩, z3⟩ := DL i' (by omega)
            obtain ⟨y1, y2⟩ := hl i' (by omega)
            have g0 := J1.1.1.2 86 144 0 400 rfl (128 + i') (by omega)
            have hcl := ci_cl g0.1
            refine ⟨by rw [y1, y2]; exact z1, D, ?_⟩
            rw [y1, y2, ← z2]
            refine x_sc_cong _ (fun j hj => ?_)
            have := ho ((mq_I g 86 (128 + i')).toNatClampNeg + j) (by omega)
            rw [← Nat.add_assoc, ← Nat.add_assoc] at this
            exact this
          · rw [mq_I_setI, if_pos rfl, if_neg er] at hi'
            exact cong _ _ (b3 row hr er i' hi')
        · unfold x_ct
          rw [ne 59 (by decide), ne 71 (by decide), ne 75 (by decide)]
          exact b4
        · rw [ne 59 (by decide)] at hi'
          have vw : x_vw (mq_setI h' 82 kk (nI k)) = x_vw h' := by
            funext b j
            unfold x_vw
            rw [ne 99 (by decide)]
          rw [vw]
          exact b5 hi'
        · rw [ck_setI_at (fun q => by rw [q.1] at e; revert e; show Nat.testBit x_XM (ck_lca 82) = false → False; decide)]
          exact md.2.2.2.2 b j e
      | succ n ih =>
        intro i y h' hi E md ec' hl ho hd ey
        subst ey
        apply mq_go 60 [223]
        refine bq_f (by rw [ec']; exact nI_ge (by omega) (by omega)) ?_
        refine gq_i (x_inb (e3200 i) (by omega) (by decide)) ?_
        refine gq_i (x_inb (e400 i) (by omega) (by decide)) ?_
        refine gq_i (x_inb (e3200 i) (by omega) (by decide)) ?_
        refine gq_i (x_inb (e400 i) (by omega) (by decide)) ?_
        show mq_At mq_G (mq_tT lL) 177 223 [some (.retAddr 59), some (.int (nI kk)), some (.int 1), some (.int (nI k)), some (.int (nI i + 1))] [] (mq_setI (mq_setI h' 88 ((400 : Int32) * nI kk + nI i).toNatClampNeg (mq_I h' 88 ((3200 : Int32) + nI i).toNatClampNeg)) 89 ((400 : Int32) * nI kk + nI i).toNatClampNeg (mq_I h' 89 ((3200 : Int32) + nI i).toNatClampNeg)) Q
        rw [x_cl (e400 i) (by omega), x_cl (e3200 i) (by omega)]
        have S1 := x_setE (kk := kk) (a := 88) (k := 400 * kk + i) (x := mq_I h' 88 (3200 + i)) (by omega) (Or.inr ⟨Or.inl rfl, i, by omega, rfl⟩) (fun n l u z => by cases z; exact ci_rng _) E md
        have S2 := x_setE (kk := kk) (a := 89) (k := 400 * kk + i) (x := mq_I h' 89 (3200 + i)) (by omega) (Or.inr ⟨Or.inr rfl, i, by omega, rfl⟩) (fun n l u z => by cases z; exact ci_rng _) S1.1 S1.2
        refine ih (i + 1) _ _ (by omega) S2.1 S2.2 ec' hl (fun j hj => ⟨?_, ?_⟩) (fun j hj => ⟨?_, ?_⟩) (nI_1 _)
        · show (if 400 * kk + j = 400 * kk + i then mq_I h' 88 (3200 + i) else mq_I h' 88 (400 * kk + j)) = _
          by_cases e : j = i
          · subst e; rw [if_pos rfl]; exact (hd _ (by omega)).1
          · rw [if_neg (by omega)]; exact (ho j (by omega)).1
        · show (if 400 * kk + j = 400 * kk + i then mq_I h' 89 (3200 + i) else mq_I h' 89 (400 * kk + j)) = _
          by_cases e : j = i
          · subst e; rw [if_pos rfl]; exact (hd _ (by omega)).2
          · rw [if_neg (by omega)]; exact (ho j (by omega)).2
        · show (if j = 400 * kk + i then _ else mq_I h' 88 j) = _
          rw [if_neg (by omega)]; exact (hd j hj).1
        · show (if j = 400 * kk + i then _ else mq_I h' 89 j) = _
          rw [if_neg (by omega)]; exact (hd j hj).2
    -- the lines
    have lp1 : ∀ (n i : Nat) (y : Int32) (h' : mq_H), i + n = k → x_E kk h' → ck_md x_XM h h' → mq_I h' 59 39 = nI c → mq_I h' 88 = mq_I g 88 → mq_I h' 89 = mq_I g 89 → (∀ j, j < i → mq_I h' 86 (16 * kk + j) = mq_I g 86 (128 + j) ∧ mq_I h' 87 (16 * kk + j) = mq_I g 87 (128 + j)) → (∀ j, 128 ≤ j → mq_I h' 86 j = mq_I g 86 j ∧ mq_I h' 87 j = mq_I g 87 j) → y = nI i → mq_At mq_G (mq_tT lL) 177 93 [some (.retAddr 59), some (.int (nI kk)), some (.int 1), some (.int (nI k)), some (.int y)] [] h' Q := by
      intro n
      induction n with
      | zero =>
        intro i y h' hi E md ec' eo ea hl hd ey
        have hi : i = k := by omega
        subst ey hi
        apply mq_go 60 [223]
        refine bq_t (Int32.le_refl _) ?_
        exact lp2 c 0 _ h' (by omega) E md ec' hl (fun j hj => by omega) (fun j _ => ⟨by rw [eo], by rw [ea]⟩) rfl
      | succ n ih =>
        intro i y h' hi E md ec' eo ea hl hd ey
        subst ey
        have g1 := x_inb (n := 144) (e128 i) (by omega) (by decide)
        have g2 := x_inb (n := 144) (e16 i) (by omega) (by decide)
        have q1 := x_cl (e128 i) (by omega)
        have q2 := x_cl (e16 i) (by omega)
        apply mq_go 120 [93]
        refine bq_f (nI_ge (by omega) (by omega)) ?_
        refine gq_i g1 ?_
        refine gq_i g2 ?_
        refine gq_i g1 ?_
        refine gq_i g2 ?_
        refine gq_i g1 ?_
        refine gq_i g2 ?_
        refine gq_i g1 ?_
        refine gq_i g2 ?_
        refine gq_i g1 ?_
        refine gq_i g2 ?_
        show mq_At mq_G (mq_tT lL) 177 93 [some (.retAddr 59), some (.int (nI kk)), some (.int 1), some (.int (nI k)), some (.int (nI i + 1))] [] (mq_setI (mq_setI (mq_setI (mq_setI (mq_setI h' 83 ((16 : Int32) * nI kk + nI i).toNatClampNeg (mq_I h' 83 ((128 : Int32) + nI i).toNatClampNeg)) 84 ((16 : Int32) * nI kk + nI i).toNatClampNeg (mq_I h' 84 ((128 : Int32) + nI i).toNatClampNeg)) 85 ((16 : Int32) * nI kk + nI i).toNatClampNeg (mq_I h' 85 ((128 : Int32) + nI i).toNatClampNeg)) 86 ((16 : Int32) * nI kk + nI i).toNatClampNeg (mq_I h' 86 ((128 : Int32) + nI i).toNatClampNeg)) 87 ((16 : Int32) * nI kk + nI i).toNatClampNeg (mq_I h' 87 ((128 : Int32) + nI i).toNatClampNeg)) Q
        rw [q1, q2]
        have S1 := x_setE (kk := kk) (a := 83) (k := 16 * kk + i) (x := mq_I h' 83 (128 + i)) (by omega) (Or.inl ⟨Or.inl rfl, i, by omega, rfl⟩) (fun n l u z => by cases z; exact E.1.2 83 144 0 4 rfl _ (by omega)) E md
        have S2 := x_setE (kk := kk) (a := 84) (k := 16 * kk + i) (x := mq_I h' 84 (128 + i)) (by omega) (Or.inl ⟨Or.inr (Or.inl rfl), i, by omega, rfl⟩) (fun n l u z => by cases z; exact ci_rng _) S1.1 S1.2
        have S3 := x_setE (kk := kk) (a := 85) (k := 16 * kk + i) (x := mq_I h' 85 (128 + i)) (by omega) (Or.inl ⟨Or.inr (Or.inr (Or.inl rfl)), i, by omega, rfl⟩) (fun n l u z => by cases z; exact E.1.2 85 144 0 2 rfl _ (by omega)) S2.1 S2.2
        have S4 := x_setE (kk := kk) (a := 86) (k := 16 * kk + i) (x := mq_I h' 86 (128 + i)) (by omega) (Or.inl ⟨Or.inr (Or.inr (Or.inr (Or.inl rfl))), i, by omega, rfl⟩) (fun n l u z => by cases z; exact E.1.2 86 144 0 400 rfl _ (by omega)) S3.1 S3.2
        have S5 := x_setE (kk := kk) (a := 87) (k := 16 * kk + i) (x := mq_I h' 87 (128 + i)) (by omega) (Or.inl ⟨Or.inr (Or.inr (Or.inr (Or.inr rfl))), i, by omega, rfl⟩) (fun n l u z => by cases z; exact E.1.2 87 144 0 400 rfl _ (by omega)) S4.1 S4.2
        refine ih (i + 1) _ _ (by omega) S5.1 S5.2 ec' eo ea (fun j hj => ⟨?_, ?_⟩) (fun j hj => ⟨?_, ?_⟩) (nI_1 _)
        · show (if 16 * kk + j = 16 * kk + i then mq_I h' 86 (128 + i) else mq_I h' 86 (16 * kk + j)) = _
          by_cases e : j = i
          · subst e; rw [if_pos rfl]; exact (hd _ (by omega)).1
          · rw [if_neg (by omega)]; exact (hl j (by omega)).1
        · show (if 16 * kk + j = 16 * kk + i then mq_I h' 87 (128 + i) else mq_I h' 87 (16 * kk + j)) = _
          by_cases e : j = i
          · subst e; rw [if_pos rfl]; exact (hd _ (by omega)).2
          · rw [if_neg (by omega)]; exact (hl j (by omega)).2
        · show (if j = 16 * kk + i then _ else mq_I h' 86 j) = _
          rw [if_neg (by omega)]; exact (hd j hj).1
        · show (if j = 16 * kk + i then _ else mq_I h' 87 j) = _
          rw [if_neg (by omega)]; exact (hd j hj).2
    have nm1 : ¬ nI k = -1 := fun e => by
      have := congrArg Int32.toInt e
      rw [nI_toInt (by omega)] at this
      have : (k : Int) = -1 := this
      omega
    suffices H : mq_At mq_G (mq_tT lL) 177 58 [some (.retAddr 59), some (.int (nI kk)), some (.int 1), some (.int (nI k)), l4] [] g Q by
      apply mq_go 60 [58]
      rw [eg] at H
      exact H
    apply mq_go 60 [93]
    refine bq_f (by decide) ?_
    refine bn_t nm1 ?_
    refine bn_t nm1 ?_
    exact lp1 k 0 _ g (by omega) E0 J1.2 ec rfl rfl (fun j hj => by omega) (fun j _ => ⟨rfl, rfl⟩) rfl
  apply mq_enter 60 [53]
  refine x_isLaw (fun x0 x1 => ?_) ?_
  · refine x_reads K6.1 (s0 := 0) (T := T) rfl eT (by omega) hT (fun h1 I1 m1 ⟨f, s, e1, e2, e3, e4, e5, e6, e7⟩ => ?_)
    have M1 := K6.2.tr (m1.wd (ck_sub_of (M := x_XM) (by decide)))
    refine bq_f (by decide) ?_
    refine x_rtext I1 (T := T) (f0 := f) ⟨(m1.2.2.2.2 _ _ (by decide)), e1, ⟨s, e2, e4, e5, e6⟩, e7, Nat.le_refl _, rfl, (m1.2.2.2.2 _ _ (by decide)).trans eT, fun _ _ => ⟨rfl, rfl⟩⟩ hT (m1.2.2.2.2 59 40 (by decide)) (fun v h2 I2 m2 hv => ?_)
    have M2 := M1.tr (m2.wd (ck_sub_of (M := x_XM) (by decide)))
    obtain ⟨kk, ek, hkk, -⟩ := x_nat (n := 7) x0 x1
    rcases hv with rfl | ⟨k, c, rfl, hk, hc, ec, DL⟩
    · exact none_ 1 _ h2 I2 M2
    · exact some_ kk k c _ h2 ek hkk hk hc I2 M2 ec DL
  · refine x_reads K6.1 (s0 := 0) (T := T) rfl eT (by omega) hT (fun h1 I1 m1 _ => ?_)
    have M1 := K6.2.tr (m1.wd (ck_sub_of (M := x_XM) (by decide)))
    refine bq_t rfl ?_
    exact none_ 0 _ h1 I1 M1
end XL
