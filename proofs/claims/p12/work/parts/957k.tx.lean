/-! readDays, readSort, readText -/
section XK
variable {G : x_GT} {lL : Nat} {h h' h2 : mq_H} {Q : Option Value → mq_H → Prop}
def x_LM : Nat := 9086519502435948349928368576135168
def x_DM : Nat := 8275527354433936308026837733463818240
theorem x_RD {h h' : mq_H} (m : ck_md x_RM h h') : ck_md x_DM h h' := m.wd (ck_sub_of (by decide))
theorem x_LD {h h' : mq_H} (m : ck_md x_LM h h') : ck_md x_DM h h' := m.wd (ck_sub_of (by decide))
theorem x_ErD {h h' : mq_H} (m : ck_md x_ErM h h') : ck_md x_DM h h' := m.wd (ck_sub_of (by decide))
theorem x_setW (I : ck_Iv x_X h) (k : Nat) {x : Int32} (h0 : 0 ≤ x.toInt) (h1 : x.toInt ≤ 4) : ck_Iv x_X (mq_setI h 83 k x) ∧ ck_md x_LM h (mq_setI h 83 k x) := x_set I (ck_md.rf _ _) (by decide) (show ck_wl _ x_sup (ck_lca 83) = true by decide) (fun l u z => by cases z) (fun n l u z _ => by cases z; omega)
theorem x_setY (I : ck_Iv x_X h) (k : Nat) (x : Int32) : ck_Iv x_X (mq_setI h 84 k x) ∧ ck_md x_LM h (mq_setI h 84 k x) := x_set I (ck_md.rf _ _) (by decide) (show ck_wl _ x_sup (ck_lca 84) = true by decide) (fun l u z => by cases z) (fun n l u z _ => by cases z; exact ci_rng _)
theorem x_setZ (I : ck_Iv x_X h) (k : Nat) {x : Int32} (h0 : 0 ≤ x.toInt) (h1 : x.toInt ≤ 2) : ck_Iv x_X (mq_setI h 85 k x) ∧ ck_md x_LM h (mq_setI h 85 k x) := x_set I (ck_md.rf _ _) (by decide) (show ck_wl _ x_sup (ck_lca 85) = true by decide) (fun l u z => by cases z) (fun n l u z _ => by cases z; omega)
def x_pl (G : x_GT) (h h2 : mq_H) (T lf c d f : Nat) (v : Int32) : Prop := ck_Iv x_X h2 ∧ ck_md x_DM h h2 ∧ (v = -1 ∨ v = 0 ∧ ∃ f', x_ps G h2 T lf c d f' ∧ f ≤ f')
theorem x_days (I : ck_Iv x_X h) {T lf c d f l : Nat} (P : x_ps G h T lf c d f) (hT : T ≤ 400) (hl : l < 144) (hq : ∀ (v : Int32) h2, x_pl G h h2 T lf c d f v → Q (some (.int v)) h2) : mq_Call mq_G (mq_tT lL) 174 [.retAddr 59, .int (nI l)] h Q := by
  have err : ∀ (k : Int32) (h1 : mq_H) (Q' : Option Value → mq_H → Prop), 0 ≤ k.toInt ∧ k.toInt ≤ 3 → ck_Iv x_X h1 → ck_md x_DM h h1 → (∀ h2, Q (some (.int (-1))) h2 → Q' (some (.int (-1))) h2) → mq_Call mq_G (mq_tT lL) 163 [.retAddr 59, .int k] h1 Q' := fun k h1 Q' hk I1 m1 hQ' => x_errs I1 hk (fun h2 I2 m2 => hQ' h2 (hq _ h2 ⟨I2, m1.tr (x_ErD m2), Or.inl rfl⟩))
  have hin : mq_inb (nI l) 144 = true := inb_nI hl (by decide)
  -- behind the days
  have k101 : ∀ (l2 : Option Value) (f1 : Nat) (h1 : mq_H), ck_Iv x_X h1 → ck_md x_DM h h1 → x_ps G h1 T lf c d f1 → f ≤ f1 → ¬ mq_I h1 59 28 = 0 → mq_At mq_G (mq_tT lL) 174 101 [some (.retAddr 59), some (.int (nI l)), l2] [] h1 Q := by
    intro l2 f1 h1 I1 m1 P1 hf ht
    apply mq_go 60 []
    refine x_reads2 I1 P1 hT ht (fun h2 f2 I2 m2 P2 hf2 => ?_)
    have M2 := m1.tr (x_RD m2)
    refine x_isWord (fun t2 _ => ?_) (fun _ => ?_)
    · refine bn_t (by decide) ?_
      refine x_reads2 I2 P2 hT (by rw [t2]; decide) (fun h3 f3 I3 m3 P3 hf3 => ?_)
      have M3 := M2.tr (x_RD m3)
      refine bn_c (fun _ => ?_) (fun t3 => ?_)
      · exact err 1 h3 _ (by decide) I3 M3 (fun h4 z => z)
      · refine x_isIn (fun a b => ?_) (fun _ => ?_)
        · refine bn_t (by decide) ?_
          refine gq_i hin ?_
          have a : (9 : Int) ≤ (mq_I h3 59 29).toInt := a
          have b : (mq_I h3 59 29).toInt ≤ 11 := b
          have e9 : (mq_I h3 59 29 - 9).toInt = (mq_I h3 59 29).toInt - 9 := ci_sub (y := 9) ⟨by show (-2147483648 : Int) ≤ _ - 9; omega, by show _ - (9 : Int) ≤ _; omega⟩
          have K := x_setZ I3 (nI l).toNatClampNeg (x := mq_I h3 59 29 - 9) (by omega) (by omega)
          refine x_reads2 K.1 (P3.fr K.2 (by decide)) hT (show ¬ mq_I h3 59 28 = 0 by rw [t3]; decide) (fun h4 f4 I4 m4 P4 hf4 => ?_)
          exact hq 0 h4 ⟨I4, (M3.tr (x_LD K.2)).tr (x_RD m4), Or.inr ⟨rfl, f4, P4, by omega⟩⟩
        · refine bn_f rfl ?_
          exact err 1 h3 _ (by decide) I3 M3 (fun h4 z => z)
    · refine bn_f rfl ?_
      exact err 1 h2 _ (by decide) I2 M2 (fun h4 z => z)
  apply mq_enter 60 [101]
  refine bq_c (fun t3 => ?_) (fun _ => ?_)
  · refine bn_c (fun _ => ?_) (fun _ => ?_)
    · refine x_reads2 I P hT (by rw [t3]; decide) (fun h1 f1 I1 m1 P1 hf1 => ?_)
      have M1 := x_RD m1
      refine bn_c (fun _ => ?_) (fun t2 => ?_)
      · exact err 1 h1 _ (by decide) I1 M1 (fun h4 z => z)
      · refine x_isIn (fun _ _ => ?_) (fun _ => ?_)
        · refine bn_t (by decide) ?_
          have nx : ∀ x : Int32, mq_At mq_G (mq_tT lL) 174 101 [some (.retAddr 59), some (.int (nI l)), some (.int (mq_I h 59 29))] [] (mq_setI h1 84 (nI l).toNatClampNeg x) Q := fun x => by
            have K := x_setY I1 (nI l).toNatClampNeg x
            exact k101 _ f1 _ K.1 (M1.tr (x_LD K.2)) (P1.fr K.2 (by decide)) (by omega) (show ¬ mq_I h1 59 28 = 0 by rw [t2]; decide)
          refine bn_c (fun _ => ?_) (fun _ => ?_)
          · refine bn_c (fun _ => ?_) (fun _ => ?_)
            · exact gq_i hin (nx _)
            · exact gq_i hin (nx _)
          · exact gq_i hin (nx _)
        · refine bn_f rfl ?_
          exact err 1 h1 _ (by decide) I1 M1 (fun h4 z => z)
    · exact err 2 h _ (by decide) I (ck_md.rf _ _) (fun h4 z => z)
  · exact err 1 h _ (by decide) I (ck_md.rf _ _) (fun h4 z => z)
theorem x_sort (I : ck_Iv x_X h) {T lf c d f l : Nat} (P : x_ps G h T lf c d f) (hT : T ≤ 400) (hl : l < 144) (hq : ∀ (v : Int32) h2, x_pl G h h2 T lf c d f v → Q (some (.int v)) h2) : mq_Call mq_G (mq_tT lL) 175 [.retAddr 59, .int (nI l)] h Q := by
  have err : ∀ (Q' : Option Value → mq_H → Prop), (∀ h2, Q (some (.int (-1))) h2 → Q' (some (.int (-1))) h2) → mq_Call mq_G (mq_tT lL) 163 [.retAddr 59, .int 1] h Q' := fun Q' hQ' => x_errs I (by decide) (fun h2 I2 m2 => hQ' h2 (hq _ h2 ⟨I2, x_ErD m2, Or.inl rfl⟩))
  apply mq_enter 60 []
  refine bn_c (fun _ => ?_) (fun t2 => ?_)
  · exact err _ (fun h4 z => z)
  · refine x_isIn (fun _ _ => ?_) (fun _ => ?_)
    · refine bn_t (by decide) ?_
      refine gq_i (inb_nI hl (by decide)) ?_
      have K := x_setY I (nI l).toNatClampNeg (mq_I h 59 29 - 12)
      refine x_reads2 K.1 (P.fr K.2 (by decide)) hT (show ¬ mq_I h 59 28 = 0 by rw [t2]; decide) (fun h4 f4 I4 m4 P4 hf4 => ?_)
      exact hq 0 h4 ⟨I4, (x_LD K.2).tr (x_RD m4), Or.inr ⟨rfl, f4, P4, by omega⟩⟩
    · refine bn_f rfl ?_
      exact err _ (fun h4 z => z)
def x_TM : Nat := 10632830128208748051379683066929741824
theorem x_DT {h h' : mq_H} (m : ck_md x_DM h h') : ck_md x_TM h h' := m.wd (ck_sub_of (by decide))
theorem x_AT {h h' : mq_H} (m : ck_md x_AM h h') : ck_md x_TM h h' := m.wd (ck_sub_of (by decide))
def x_FM : Nat := 155768905756044828855914889876602880
theorem x_FT {h h' : mq_H} (m : ck_md x_FM h h') : ck_md x_TM h h' := m.wd (ck_sub_of (by decide))
/-- the draft's lines are good -/
def x_dl (h : mq_H) (k c : Nat) : Prop := ∀ i, i < k → x_ln (mq_I h) 8 (128 + i) ∧ (mq_I h 87 (128 + i)).toInt ≤ (c : Int)
/-- within a line of readText; h' as the line began -/
def x_it (h h' h1 : mq_H) (T c0 l f c1 d1 f1 : Nat) : Prop := ck_Iv x_X h1 ∧ ck_md x_TM h h1 ∧ x_ps (mq_I h' 88, mq_I h' 89) h1 T c0 c1 d1 f1 ∧ c1 ≤ f1 ∧ f + 1 ≤ f1 ∧ mq_I h1 59 40 = nI 0 ∧ ∀ j, ¬ j = l → mq_I h1 86 j = mq_I h' 86 j ∧ mq_I h1 87 j = mq_I h' 87 j
theorem x_it.md {h h' h1 h2 : mq_H} {T c0 l f c1 d1 f1 d2 c2 f2 M : Nat} (S : x_it h h' h1 T c0 l f c1 d1 f1) (I2 : ck_Iv x_X h2) (m2 : ck_md M h1 h2) (hM : Nat.beq (Nat.land M x_TM) M = true) (hM2 : Nat.testBit M (ck_lca 86) = false ∧ Nat.testBit M (ck_lca 87) = false) (ho : mq_I h2 59 40 = nI 0) (P2 : x_ps (mq_I h' 88, mq_I h' 89) h2 T c0 c2 d2 f2) (hc : c2 ≤ f2) (hf : f1 ≤ f2) : x_it h h' h2 T c0 l f c2 d2 f2 := by
  obtain ⟨s1, s2, s3, s4, s5, s6, s7⟩ := S
  exact ⟨I2, s2.tr (m2.wd (ck_sub_of hM)), P2, hc, by omega, ho, fun j hj => ⟨(m2.2.2.2.2 86 j hM2.1).trans (s7 j hj).1, (m2.2.2.2.2 87 j hM2.2).trans (s7 j hj).2⟩⟩
theorem x_rtext (I : ck_Iv x_X h) {T f0 : Nat} (P : x_ps (mq_I h 88, mq_I h 89) h T 0 0 0 f0) (hT : T ≤ 400) (eo : mq_I h 59 40 = nI 0) (hq : ∀ (v : Int32) h2, ck_Iv x_X h2 → ck_md x_TM h h2 → (v = -1 ∨ ∃ k c, v = nI k ∧ k ≤ 16 ∧ c ≤ 400 ∧ mq_I h2 59 39 = nI c ∧ x_dl h2 k c) → Q (some (.int v)) h2) : mq_Call mq_G (mq_tT lL) 176 [.retAddr 59] h Q := by
  have key : ∀ (n k f c0 : Nat) (l2 l3 : Option Value) (h' : mq_H), 401 ≤ f + n → ck_Iv x_X h' → ck_md x_TM h h' → x_ps (mq_I h' 88, mq_I h' 89) h' T c0 c0 0 f → c0 ≤ f → mq_I h' 59 40 = nI 0 → k ≤ 16 → x_dl h' k c0 → mq_At mq_G (mq_tT lL) 176 2 [some (.retAddr 59), some (.int (nI k)), l2, l3] [] h' Q := by
    intro n
    induction n with
    | zero =>
      intro k f c0 l2 l3 h' hn I' m P hc
      have := P.f5 hT
      omega
    | succ n ih =>
      intro k f c0 l2 l3 h' hn I' m P hc ho hk DL
      have f5 := P.f5 hT
      have fin : mq_At mq_G (mq_tT lL) 176 177 [some (.retAddr 59), some (.int (nI k)), l2, l3] [] h' Q := by
        apply mq_go 40 []
        refine bn_c (fun _ => ?_) (fun _ => ?_)
        · refine x_errs I' (by decide) (fun h2 I2 m2 => ?_)
          exact hq _ h2 I2 (m.tr (x_DT (x_ErD m2))) (Or.inl rfl)
        · exact hq _ h' I' m (Or.inr ⟨k, c0, rfl, hk, by omega, P.1, DL⟩)
      apply mq_go 100 [66, 177]
      refine bn_c (fun _ => fin) (fun t2 => ?_)
      refine bq_c (fun _ => fin) (fun v4 => ?_)
      refine bn_c (fun h16 => ?_) (fun _ => ?_)
      · have hk16 : k < 16 := by
          rcases Nat.lt_or_ge k 16 with q | q
          · exact q
          · exact absurd (show nI k = nI 16 by rw [show k = 16 by omega]) h16
        have el : (128 : Int32) + nI k = nI (128 + k) := by rw [show (128 : Int32) = nI 128 from rfl, nI_add]
        have hv := P.2.2.2.1 t2
        have v4 : ¬ (4 : Int) < (mq_I h' 59 29).toInt := by rw [lt_i] at v4; exact v4
        have hin : mq_inb ((128 : Int32) + nI k) 144 = true := x_inb el (by omega) (by decide)
        -- the line's end
        have c141 : ∀ (l3 : Option Value) (c1 d1 f1 : Nat) (h1 : mq_H), x_it h h' h1 T c0 (128 + k) f c1 d1 f1 → mq_I h1 86 (128 + k) = nI c0 → mq_At mq_G (mq_tT lL) 176 141 [some (.retAddr 59), some (.int (nI k)), some (.int ((128 : Int32) + nI k)), l3] [] h1 Q := by
          intro l3 c1 d1 f1 h1 S elf
          obtain ⟨I1, m1, P1, hc1, hf1, ho1, fr1⟩ := S
          have f51 := P1.f5 hT
          have hcc := P1.2.2.2.2.1
          apply mq_go 60 [2]
          refine gq_i hin ?_
          obtain ⟨h2, eh2⟩ : ∃ H, H = mq_setI h1 87 (128 + k) (mq_I h1 59 39) := ⟨_, rfl⟩
          have K := x_setD (M := x_FM) (a := 87) (k := 128 + k) (x := mq_I h1 59 39) (Or.inr ⟨Or.inr rfl, by omega, by rw [P1.1, nI_toInt (by omega)]; omega⟩) I1 (ck_md.rf _ h1) ⟨by decide, by decide, fun _ => ⟨by decide, by decide⟩⟩
          have mq : ck_md (20769187434139310514121985316880384) h1 h2 := by
            rw [eh2]
            exact ⟨rfl, rfl, rfl, rfl, fun b j e => ck_setI_at (fun q => by rw [q.1] at e; revert e; show Nat.testBit _ (ck_lca 87) = false → False; decide)⟩
          rw [← eh2] at K
          have P2 := P1.fr mq (by decide)
          have elt : mq_I h2 87 (128 + k) = nI c1 := by rw [eh2, mq_I_setI, if_pos rfl, if_pos rfl, P1.1]
          have elf2 : mq_I h2 86 (128 + k) = nI c0 := by rw [eh2]; exact elf
          have fr2 : ∀ j, ¬ j = 128 + k → mq_I h2 86 j = mq_I h' 86 j ∧ mq_I h2 87 j = mq_I h' 87 j := fun j hj => ⟨by rw [eh2]; exact (fr1 j hj).1, by rw [eh2, mq_I_setI, if_pos rfl, if_neg hj]; exact (fr1 j hj).2⟩
          have ho2 : mq_I h2 59 40 = nI 0 := by rw [eh2]; exact ho1
          have DL2 : x_dl h2 (k + 1) c1 := by
            intro i hi
            rcases Nat.lt_or_ge i k with q | q
            · obtain ⟨⟨d1, D, d2⟩, d3⟩ := DL i q
              obtain ⟨e1, e2⟩ := fr2 (128 + i) (by omega)
              have g0 := I'.1.2 86 144 0 400 rfl (128 + i) (by omega)
              have hcl := ci_cl g0.1
              refine ⟨⟨by rw [e1, e2]; exact d1, D, ?_⟩, by rw [e2]; omega⟩
              rw [e1, e2, ← d2]
              refine x_sc_cong _ (fun j hj => ?_)
              exact P2.2.2.2.2.2.2.2 (400 * 8 + (mq_I h' 86 (128 + i)).toNatClampNeg + j) (by omega)
            · have e : i = k := by omega
              subst e
              refine ⟨⟨by rw [elf2, elt, nI_toInt (by omega), nI_toInt (by omega)]; omega, d1, ?_⟩, by rw [elt, nI_toInt (by omega)]; omega⟩
              rw [elf2, elt, nI_toInt (by omega), nI_toInt (by omega), nI_clamp (by omega), show ((c1 : Int) - (c0 : Int)).toNat = c1 - c0 by omega]
              exact P2.2.2.2.2.2.1
          show mq_Call mq_G (mq_tT lL) 165 [.retAddr 59, .int 59] (mq_setI h1 87 ((128 : Int32) + nI k).toNatClampNeg (mq_I h1 59 39)) _
          rw [x_cl el (by omega), ← eh2]
          refine x_isSign (fun t4 _ => ?_) (fun _ => ?_)
          · refine bn_t (by decide) ?_
            refine x_reads2 K.1 P2 hT (by rw [t4]; decide) (fun h3 f3 I3 m3 P3 hf3 => ?_)
            have fl : ∀ j, mq_I h3 86 j = mq_I h2 86 j := fun j => m3.2.2.2.2 86 j (show Nat.testBit x_RM (ck_lca 86) = false by decide)
            have ft : ∀ j, mq_I h3 87 j = mq_I h2 87 j := fun j => m3.2.2.2.2 87 j (show Nat.testBit x_RM (ck_lca 87) = false by decide)
            have fo : ∀ j, mq_I h3 88 j = mq_I h2 88 j := fun j => m3.2.2.2.2 88 j (show Nat.testBit x_RM (ck_lca 88) = false by decide)
            have fa : ∀ j, mq_I h3 89 j = mq_I h2 89 j := fun j => m3.2.2.2.2 89 j (show Nat.testBit x_RM (ck_lca 89) = false by decide)
            have P4 : x_ps (mq_I h3 88, mq_I h3 89) h3 T c1 c1 0 f3 := ⟨P3.1, P3.2.1, P3.2.2.1, P3.2.2.2.1, Nat.le_refl _, by rw [Nat.sub_self]; rfl, P3.2.2.2.2.2.2.1, fun _ _ => ⟨rfl, rfl⟩⟩
            have Z := ih (k + 1) f3 c1 (some (.int ((128 : Int32) + nI k))) l3 h3 (by omega) I3 ((m1.tr (x_FT K.2)).tr (x_DT (x_RD m3))) P4 (by omega) ((m3.2.2.2.2 _ _ (by decide)).trans ho2) (by omega)
            rw [← nI_1] at Z
            refine Z (fun i hi => ?_)
            obtain ⟨⟨d1, D, d2⟩, d3⟩ := DL2 i hi
            refine ⟨⟨by rw [fl, ft]; exact d1, D, ?_⟩, by rw [ft]; exact d3⟩
            rw [fl, ft, ← d2]
            exact x_sc_cong _ (fun j hj => ⟨fo _, fa _⟩)
          · refine bn_f rfl ?_
            refine x_errs K.1 (by decide) (fun h3 I3 m3 => ?_)
            exact hq _ h3 I3 ((m1.tr (x_FT K.2)).tr (x_DT (x_ErD m3))) (Or.inl rfl)
        -- the condition
        have c103 : ∀ (w : Int32) (f1 : Nat) (h1 : mq_H), x_it h h' h1 T c0 (128 + k) f c0 0 f1 → mq_At mq_G (mq_tT lL) 176 103 [some (.retAddr 59), some (.int (nI k)), some (.int ((128 : Int32) + nI k)), some (.int w)] [] h1 Q := by
          intro w f1 h1 S
          obtain ⟨I1, m1, P1, hc1, hf1, ho1, fr1⟩ := S
          have f51 := P1.f5 hT
          apply mq_go 60 [118, 141]
          refine gq_i hin ?_
          obtain ⟨h2, eh2⟩ : ∃ H, H = mq_setI h1 86 (128 + k) (mq_I h1 59 39) := ⟨_, rfl⟩
          have K := x_setD (M := x_FM) (a := 86) (k := 128 + k) (x := mq_I h1 59 39) (Or.inr ⟨Or.inl rfl, by omega, by rw [P1.1, nI_toInt (by omega)]; omega⟩) I1 (ck_md.rf _ h1) ⟨by decide, by decide, fun _ => ⟨by decide, by decide⟩⟩
          have mq : ck_md (10384593717069655257060992658440192) h1 h2 := by
            rw [eh2]
            exact ⟨rfl, rfl, rfl, rfl, fun b j e => ck_setI_at (fun q => by rw [q.1] at e; revert e; show Nat.testBit _ (ck_lca 86) = false → False; decide)⟩
          rw [← eh2] at K
          have P2 := P1.fr mq (by decide)
          have elf2 : mq_I h2 86 (128 + k) = nI c0 := by rw [eh2, mq_I_setI, if_pos rfl, if_pos rfl, P1.1]
          have S2 : x_it h h' h2 T c0 (128 + k) f c0 0 f1 := ⟨K.1, m1.tr (x_FT K.2), P2, hc1, hf1, by rw [eh2]; exact ho1, fun j hj => ⟨by rw [eh2, mq_I_setI, if_pos rfl, if_neg hj]; exact (fr1 j hj).1, by rw [eh2]; exact (fr1 j hj).2⟩⟩
          suffices H : (w = 4 → mq_At mq_G (mq_tT lL) 176 141 [some (.retAddr 59), some (.int (nI k)), some (.int ((128 : Int32) + nI k)), some (.int w)] [] h2 Q) ∧ (¬ w = 4 → mq_At mq_G (mq_tT lL) 176 118 [some (.retAddr 59), some (.int (nI k)), some (.int ((128 : Int32) + nI k)), some (.int w)] [] h2 Q) by
            rw [eh2, ← x_cl el (by omega)] at H
            exact H
          refine ⟨fun _ => c141 _ c0 0 f1 h2 S2 elf2, fun _ => ?_⟩
          apply mq_go 60 [141]
          refine x_isWord (fun t2 _ => ?_) (fun _ => ?_)
          · refine bq_f (by decide) ?_
            refine x_reads2 K.1 P2 hT (by rw [t2]; decide) (fun h3 f3 I3 m3 P3 hf3 => ?_)
            have S3 := S2.md I3 m3 (by decide) ⟨by decide, by decide⟩ ((m3.2.2.2.2 59 40 (by decide)).trans S2.2.2.2.2.2.1) P3 (by omega) (by omega)
            refine x_any I3 P3 hT (by omega) S3.2.2.2.2.2.1 (fun v h4 I4 m4 hv => ?_)
            rcases hv with rfl | ⟨rfl, c4, d4, f4, P4, hc4, ho4, hf4⟩
            · refine bn_f rfl ?_
              exact hq _ h4 I4 (S3.2.1.tr (x_AT m4)) (Or.inl rfl)
            · refine bn_t (by decide) ?_
              refine c141 _ c4 d4 f4 h4 (S3.md I4 m4 (by decide) ⟨by decide, by decide⟩ ho4 P4 hc4 hf4) ?_
              rw [m4.2.2.2.2 86 (128 + k) (show Nat.testBit x_AM (ck_lca 86) = false by decide), m3.2.2.2.2 86 (128 + k) (show Nat.testBit x_RM (ck_lca 86) = false by decide)]
              exact elf2
          · refine bq_t rfl ?_
            exact c141 _ c0 0 f1 h2 S2 elf2
        -- its sort
        have c82 : ∀ (w : Int32) (f1 : Nat) (h1 : mq_H), x_it h h' h1 T c0 (128 + k) f c0 0 f1 → mq_At mq_G (mq_tT lL) 176 82 [some (.retAddr 59), some (.int (nI k)), some (.int ((128 : Int32) + nI k)), some (.int w)] [] h1 Q := by
          intro w f1 h1 S
          have srt : mq_Call mq_G (mq_tT lL) 175 [.retAddr 59, .int ((128 : Int32) + nI k)] h1 (fun v h2 => (v = some (.int (-1)) ∧ Q (some (.int (-1))) h2) ∨ (v = some (.int 0) ∧ mq_At mq_G (mq_tT lL) 176 103 [some (.retAddr 59), some (.int (nI k)), some (.int ((128 : Int32) + nI k)), some (.int w)] [] h2 Q)) := by
            rw [el]
            refine x_sort S.1 S.2.2.1 hT (by omega) (fun v h2 ⟨I2, m2, hv⟩ => ?_)
            rcases hv with rfl | ⟨rfl, f2, P2, hf2⟩
            · exact Or.inl ⟨rfl, hq _ h2 I2 (S.2.1.tr (x_DT m2)) (Or.inl rfl)⟩
            · refine Or.inr ⟨rfl, ?_⟩
              have := c103 w f2 h2 (S.md I2 m2 (by decide) ⟨by decide, by decide⟩ ((m2.2.2.2.2 59 40 (by decide)).trans S.2.2.2.2.2.1) P2 (by have := S.2.2.2.1; omega) hf2)
              rw [el] at this
              exact this
          apply mq_go 60 [103]
          refine bq_c (fun _ => ?_) (fun _ => ?_)
          · refine mq_Call.mono srt (fun v h2 hv => ?_)
            rcases hv with ⟨rfl, z⟩ | ⟨rfl, z⟩
            · exact bn_f rfl z
            · exact bn_t (by decide) z
          · refine bn_c (fun _ => ?_) (fun _ => ?_)
            · exact c103 w f1 h1 S
            · refine mq_Call.mono srt (fun v h2 hv => ?_)
              rcases hv with ⟨rfl, z⟩ | ⟨rfl, z⟩
              · exact bn_f rfl z
              · exact bn_t (by decide) z
        -- its days
        have c66 : ∀ (w : Int32) (f1 : Nat) (h1 : mq_H), x_it h h' h1 T c0 (128 + k) f c0 0 f1 → mq_At mq_G (mq_tT lL) 176 66 [some (.retAddr 59), some (.int (nI k)), some (.int ((128 : Int32) + nI k)), some (.int w)] [] h1 Q := by
          intro w f1 h1 S
          have dys : mq_Call mq_G (mq_tT lL) 174 [.retAddr 59, .int ((128 : Int32) + nI k)] h1 (fun v h2 => (v = some (.int (-1)) ∧ Q (some (.int (-1))) h2) ∨ (v = some (.int 0) ∧ mq_At mq_G (mq_tT lL) 176 82 [some (.retAddr 59), some (.int (nI k)), some (.int ((128 : Int32) + nI k)), some (.int w)] [] h2 Q)) := by
            rw [el]
            refine x_days S.1 S.2.2.1 hT (by omega) (fun v h2 ⟨I2, m2, hv⟩ => ?_)
            rcases hv with rfl | ⟨rfl, f2, P2, hf2⟩
            · exact Or.inl ⟨rfl, hq _ h2 I2 (S.2.1.tr (x_DT m2)) (Or.inl rfl)⟩
            · refine Or.inr ⟨rfl, ?_⟩
              have := c82 w f2 h2 (S.md I2 m2 (by decide) ⟨by decide, by decide⟩ ((m2.2.2.2.2 59 40 (by decide)).trans S.2.2.2.2.2.1) P2 (by have := S.2.2.2.1; omega) hf2)
              rw [el] at this
              exact this
          apply mq_go 60 [82]
          refine bq_c (fun _ => ?_) (fun _ => ?_)
          · exact c82 w f1 h1 S
          · refine mq_Call.mono dys (fun v h2 hv => ?_)
            rcases hv with ⟨rfl, z⟩ | ⟨rfl, z⟩
            · exact bn_f rfl z
            · exact bn_t (by decide) z
        refine gq_i hin ?_
        refine gq_i hin ?_
        refine gq_i hin ?_
        have K1 := x_setW I' ((128 : Int32) + nI k).toNatClampNeg (x := mq_I h' 59 29) hv.1 (by omega)
        have K2 := x_setY K1.1 ((128 : Int32) + nI k).toNatClampNeg 0
        have K3 := x_setZ K2.1 ((128 : Int32) + nI k).toNatClampNeg (x := 0) (by decide) (by decide)
        have M3 := (K1.2.tr K2.2).tr K3.2
        refine x_reads2 K3.1 (P.fr M3 (by decide)) hT (show ¬ mq_I h' 59 28 = 0 by rw [t2]; decide) (fun h2 f2 I2 m2 P2 hf2 => ?_)
        have M4 := (x_LD M3).tr (x_RD m2)
        refine c66 _ f2 h2 ⟨I2, m.tr (x_DT M4), P2, by omega, hf2, (M4.2.2.2.2 59 40 (by decide)).trans ho, fun j _ => ⟨M4.2.2.2.2 86 j (show Nat.testBit x_DM (ck_lca 86) = false by decide), M4.2.2.2.2 87 j (show Nat.testBit x_DM (ck_lca 87) = false by decide)⟩⟩
      · refine x_errs I' (by decide) (fun h2 I2 m2 => ?_)
        exact hq _ h2 I2 (m.tr (x_DT (x_ErD m2))) (Or.inl rfl)
  apply mq_enter 40 [2]
  exact key 401 0 f0 0 _ _ h (by omega) I (ck_md.rf _ _) P (by omega) eo (by omega) (fun i hi => by omega)
end XK
