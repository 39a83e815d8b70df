/-! readAny -/
section XJ
variable {G : x_GT} {lL : Nat} {h h' h2 : mq_H} {Q : Option Value → mq_H → Prop}
def x_OM : Nat := 332306998946228968225951765070086144
theorem x_setO (I : ck_Iv x_X h') (x : Int32) : ck_Iv x_X (mq_setI h' 59 40 x) ∧ ck_md x_OM h' (mq_setI h' 59 40 x) := x_set I (ck_md.rf _ _) (by decide) (show ck_wl _ x_sup (ck_lc 59 40) = true by decide) (fun l u z => by cases z; exact ci_rng _) (fun n l u z _ => by cases z)
theorem x_OA {h h' : mq_H} (m : ck_md x_OM h h') : ck_md x_AM h h' := m.wd (ck_sub_of (by decide))
/-- one more waits, and the next token -/
theorem x_push (I : ck_Iv x_X h) {T lf c d f p : Nat} (P : x_ps G h T lf c d f) (hT : T ≤ 400) (ht : ¬ mq_I h 59 28 = 0) (ep : mq_I h 59 42 = nI p) (hp : p < 40) {w : Int32} (hq : ∀ h2, ck_Iv x_X h2 → ck_md x_WM h h2 → mq_Call mq_G (mq_tT lL) 162 [.retAddr 59] h2 (fun v h3 => ∃ f3, v = none ∧ ck_Iv x_X h3 ∧ ck_md x_AM h h3 ∧ x_ps G h3 T lf c d f3 ∧ f + 1 ≤ f3 ∧ mq_I h3 59 42 = nI (p + 1) ∧ (∀ k, ¬ k = p → mq_I h3 90 k = mq_I h 90 k) ∧ mq_I h3 90 p = w ∧ mq_I h3 59 40 = mq_I h 59 40) → Q none h2) : mq_Call mq_G (mq_tT lL) 171 [.retAddr 59, .int w] h Q := by
  refine x_waits I ep hp (fun h2 I2 m2 e1 e2 e3 => hq h2 I2 m2 ?_)
  refine x_reads2 I2 (P.fr m2 (by decide)) hT (by rw [m2.2.2.2.2 59 28 (by decide)]; exact ht) (fun h3 f3 I3 m3 P3 hf3 => ?_)
  have fr : ∀ k, mq_I h3 90 k = mq_I h2 90 k := fun k => m3.2.2.2.2 _ _ (show Nat.testBit x_RM (ck_lca 90) = false by decide)
  exact ⟨f3, rfl, I3, (x_WA m2).tr (x_RA m3), P3, hf3, (m3.2.2.2.2 _ _ (by decide)).trans e1, fun k hk => (fr k).trans (e2 k hk), (fr p).trans e3, (m3.2.2.2.2 59 40 (by decide)).trans (m2.2.2.2.2 59 40 (by decide))⟩
theorem x_any (I : ck_Iv x_X h) {T lf c f0 : Nat} (P : x_ps G h T lf c 0 f0) (hT : T ≤ 400) (hc : c ≤ f0) (eo : mq_I h 59 40 = nI 0) (hq : ∀ (v : Int32) h2, ck_Iv x_X h2 → ck_md x_AM h h2 → (v = -1 ∨ v = 0 ∧ ∃ c' d' f', x_ps G h2 T lf c' d' f' ∧ c' ≤ f' ∧ mq_I h2 59 40 = nI 0 ∧ f0 ≤ f') → Q (some (.int v)) h2) : mq_Call mq_G (mq_tT lL) 173 [.retAddr 59] h Q := by
  have key : ∀ (n f u t br p : Nat) (due : Int32) (l3 : Option Value) (h' : mq_H), 401 ≤ f + n → ck_Iv x_X h' → ck_md x_AM h h' → x_as G h' T lf u f t br p → (u = 0 ∧ due = 1 ∨ u = 1 ∧ due = 0 ∧ ¬ t = 3) → f0 ≤ f → mq_At mq_G (mq_tT lL) 173 9 [some (.retAddr 59), some (.int (nI br)), some (.int due), l3] [] h' Q := by
    intro n
    induction n with
    | zero =>
      intro f u t br p due l3 h' hn I' m S hu hf
      obtain ⟨c, op, nb, P, -⟩ := S
      have := P.f5 hT
      omega
    | succ n ih =>
      intro f u t br p due l3 h' hn I' m S hu hf
      have S' := S
      obtain ⟨c, op, nb, P, ep, hpd, eo, ho, hc⟩ := S
      have hle := x_pd_le _ _ _ _ _ hpd
      rcases hu with ⟨rfl, rfl⟩ | ⟨rfl, rfl, ht3⟩
      · -- a condition is due
        have opn : ∀ (w : Int32) (br' : Nat), ((w = 9 ∧ br' = br) ∨ (w = 12 ∧ br' = br + 1)) → ¬ mq_I h' 59 28 = 0 → ¬ mq_I h' 59 40 = 8 → ∀ Q' : Option Value → mq_H → Prop, (∀ h2, mq_Call mq_G (mq_tT lL) 162 [.retAddr 59] h2 (fun v h3 => v = none ∧ ∀ l3, mq_At mq_G (mq_tT lL) 173 9 [some (.retAddr 59), some (.int (nI br')), some (.int 1), l3] [] h3 Q) → Q' none h2) → mq_Call mq_G (mq_tT lL) 171 [.retAddr 59, .int w] (mq_setI h' 59 40 (mq_I h' 59 40 + 1)) Q' := by
          intro w br' hw ht h8 Q' hQ'
          have K1 := x_setO I' (mq_I h' 59 40 + 1)
          have e8 : ¬ op = 8 := fun e => h8 (by rw [eo, e]; rfl)
          have eo1 : mq_I h' 59 40 + 1 = nI (op + 1) := by rw [eo]; exact nI_1 _
          refine x_push K1.1 (P.fr K1.2 (by decide)) hT ht ep (by omega) (fun h2 I2 m2 H => hQ' h2 ?_)
          refine mq_Call.mono H (fun v h3 ⟨f3, ev, I3, m3, P3, hf3, q1, q2, q3, q4⟩ => ⟨ev, fun l3 => ?_⟩)
          have hpd3 : x_pd (mq_I h3 90) p = some (t, op, nb, br) := by
            rw [← hpd]
            exact x_pd_cong p (fun i hi => q2 i (by omega))
          rcases hw with ⟨rfl, rfl⟩ | ⟨rfl, rfl⟩
          · refine ih f3 0 3 br' (p + 1) 1 l3 h3 (by omega) I3 (m.tr ((x_OA K1.2).tr m3)) ⟨c, op + 1, nb, P3, q1, ?_, q4.trans eo1, by omega, by omega⟩ (Or.inl ⟨rfl, rfl⟩) (by omega)
            unfold x_pd
            rw [hpd3]
            dsimp only
            rw [if_pos q3]
          · refine ih f3 0 0 (br + 1) (p + 1) 1 l3 h3 (by omega) I3 (m.tr ((x_OA K1.2).tr m3)) ⟨c, op + 1, nb, P3, q1, ?_, q4.trans eo1, by omega, by omega⟩ (Or.inl ⟨rfl, rfl⟩) (by omega)
            unfold x_pd
            rw [hpd3]
            dsimp only
            rw [q3, if_neg (by decide), if_pos rfl]
        have err : ∀ Q' : Option Value → mq_H → Prop, (∀ h2, Q (some (.int (-1))) h2 → Q' (some (.int (-1))) h2) → mq_Call mq_G (mq_tT lL) 163 [.retAddr 59, .int 3] h' Q' := fun Q' hQ' => x_errs I' (by decide) (fun h2 I2 m2 => hQ' h2 (hq _ h2 I2 (m.tr (x_QA (x_ErQ m2))) (Or.inl rfl)))
        apply mq_go 80 [9]
        refine bq_f (by decide) ?_
        refine x_isWord (fun t2 _ => ?_) (fun _ => ?_)
        · refine bn_t (by decide) ?_
          refine bn_c (fun h8 => ?_) (fun h8 => ?_)
          · refine bn_t (by decide) ?_
            refine bq_f (by decide) ?_
            refine opn 9 br (Or.inl ⟨rfl, rfl⟩) (by rw [t2]; decide) h8 _ (fun h2 H => ?_)
            refine mq_Call.mono H (fun v h3 ⟨ev, z⟩ => ?_)
            subst ev
            exact z _
          · exact err _ (fun h2 z => z)
        · refine bn_f rfl ?_
          refine x_isSign (fun t4 _ => ?_) (fun _ => ?_)
          · refine bq_f (by decide) ?_
            refine bn_c (fun h8 => ?_) (fun h8 => ?_)
            · refine bn_f rfl ?_
              refine bq_t rfl ?_
              refine opn 12 (br + 1) (Or.inr ⟨rfl, rfl⟩) (by rw [t4]; decide) h8 _ (fun h2 H => ?_)
              refine mq_Call.mono H (fun v h3 ⟨ev, z⟩ => ?_)
              subst ev
              have z := z (some (.int 0))
              rw [← nI_1] at z
              exact z
            · exact err _ (fun h2 z => z)
          · refine bq_t rfl ?_
            refine x_comp I' (e := p) P hT hc (fun v h1 ⟨I1, m1, hv⟩ => ?_)
            rcases hv with rfl | ⟨rfl, c1, f1, P1, he1, hf1⟩
            · refine bn_f rfl ?_
              exact hq _ h1 I1 (m.tr (x_QA m1)) (Or.inl rfl)
            · refine bn_t (by decide) ?_
              have fr : mq_I h1 90 = mq_I h' 90 := by funext k; exact m1.2.2.2.2 _ _ (show Nat.testBit x_QM (ck_lca 90) = false by decide)
              refine x_settles I1 (t := t) (br := br) (p := p) ⟨c1, op, nb, P1, (m1.2.2.2.2 _ _ (by decide)).trans ep, by rw [fr]; exact hpd, (m1.2.2.2.2 _ _ (by decide)).trans eo, ho, he1⟩ hT (Or.inl rfl) (fun h2 t2 p2 I2 m2 S2 r1 _ _ => ?_)
              exact ih f1 1 t2 br p2 0 _ h2 (by omega) I2 ((m.tr (x_QA m1)).tr (x_SA m2)) S2 (Or.inr ⟨rfl, rfl, r1 rfl⟩) (by omega)
      · -- behind a condition
        -- a joint
        have jn : ∀ (w : Int32) (t1 p1 : Nat) (h1 : mq_H), ck_Iv x_X h1 → ck_md x_SM h' h1 → x_as G h1 T lf 1 f t1 br p1 → ¬ mq_I h' 59 28 = 0 → ((w = 10 ∧ t1 ≤ 1) ∨ (w = 11 ∧ t1 = 0)) → ∀ Q' : Option Value → mq_H → Prop, (∀ h2, mq_Call mq_G (mq_tT lL) 162 [.retAddr 59] h2 (fun v h3 => v = none ∧ ∀ l3, mq_At mq_G (mq_tT lL) 173 9 [some (.retAddr 59), some (.int (nI br)), some (.int 1), l3] [] h3 Q) → Q' none h2) → mq_Call mq_G (mq_tT lL) 171 [.retAddr 59, .int w] h1 Q' := by
          intro w t1 p1 h1 I1 m1 S1 ht hw Q' hQ'
          obtain ⟨c1, op1, nb1, P1, ep1, hpd1, eo1, ho1, hc1⟩ := S1
          have hle1 := x_pd_le _ _ _ _ _ hpd1
          refine x_push I1 P1 hT (by rw [m1.2.2.2.2 59 28 (by decide)]; exact ht) ep1 (by omega) (fun h2 I2 m2 H => hQ' h2 ?_)
          refine mq_Call.mono H (fun v h3 ⟨f3, ev, I3, m3, P3, hf3, q1, q2, q3, q4⟩ => ⟨ev, fun l3 => ?_⟩)
          have hpd3 : x_pd (mq_I h3 90) p1 = some (t1, op1, nb1, br) := by
            rw [← hpd1]
            exact x_pd_cong p1 (fun i hi => q2 i (by omega))
          have M3 := m.tr ((x_SA m1).tr m3)
          rcases hw with ⟨rfl, hw⟩ | ⟨rfl, hw⟩
          · refine ih f3 0 2 br (p1 + 1) 1 l3 h3 (by omega) I3 M3 ⟨c1, op1, nb1 + 1, P3, q1, ?_, q4.trans eo1, ho1, by omega⟩ (Or.inl ⟨rfl, rfl⟩) (by omega)
            unfold x_pd
            rw [hpd3]
            dsimp only
            rw [q3, if_neg (by decide), if_neg (by decide), if_neg (by decide), if_pos rfl, if_pos hw]
          · refine ih f3 0 1 br (p1 + 1) 1 l3 h3 (by omega) I3 M3 ⟨c1, op1, nb1 + 1, P3, q1, ?_, q4.trans eo1, ho1, by omega⟩ (Or.inl ⟨rfl, rfl⟩) (by omega)
            unfold x_pd
            rw [hpd3]
            dsimp only
            rw [q3, if_neg (by decide), if_neg (by decide), if_pos rfl, if_pos hw]
        apply mq_go 100 [9]
        refine bq_t rfl ?_
        refine x_isWord (fun t2 _ => ?_) (fun _ => ?_)
        · refine bq_f (by decide) ?_
          refine x_settles I' S' hT (Or.inr (Or.inl rfl)) (fun h1 t1 p1 I1 m1 S1 _ r1 _ => ?_)
          obtain ⟨r1, r2⟩ := r1 rfl
          refine jn 10 t1 p1 h1 I1 m1 S1 (by rw [t2]; decide) (Or.inl ⟨rfl, by omega⟩) _ (fun h2 H => ?_)
          refine mq_Call.mono H (fun v h3 ⟨ev, z⟩ => ?_)
          subst ev
          exact z _
        · refine bq_t rfl ?_
          refine x_isWord (fun t2 _ => ?_) (fun _ => ?_)
          · refine bq_f (by decide) ?_
            refine x_settles I' S' hT (Or.inr (Or.inl rfl)) (fun h1 t1 p1 I1 m1 S1 _ r1 _ => ?_)
            obtain ⟨r1, r2⟩ := r1 rfl
            refine x_settles I1 S1 hT (Or.inr (Or.inr rfl)) (fun h2 t2' p2 I2 m2 S2 _ _ r3 => ?_)
            obtain ⟨r3, r4⟩ := r3 rfl
            refine jn 11 t2' p2 h2 I2 (m1.tr m2) S2 (by rw [t2]; decide) (Or.inr ⟨rfl, by omega⟩) _ (fun h2 H => ?_)
            refine mq_Call.mono H (fun v h3 ⟨ev, z⟩ => ?_)
            subst ev
            exact z _
          · refine bq_t rfl ?_
            refine x_settles I' S' hT (Or.inr (Or.inl rfl)) (fun h1 t1 p1 I1 m1 S1 _ r1 _ => ?_)
            obtain ⟨r1, r2⟩ := r1 rfl
            refine x_settles I1 S1 hT (Or.inr (Or.inr rfl)) (fun h2 t2 p2 I2 m2 S2 _ _ r3 => ?_)
            obtain ⟨r3, r4⟩ := r3 rfl
            have t20 : t2 = 0 := by omega
            subst t20
            have M2 := m.tr ((x_SA m1).tr (x_SA m2))
            obtain ⟨c2, op2, nb2, P2, ep2, hpd2, eo2, ho2, hc2⟩ := S2
            have hle2 := x_pd_le _ _ _ _ _ hpd2
            refine bn_c (fun hb => ?_) (fun hb => ?_)
            · have hb : ¬ br = 0 := fun e => hb (by rw [e]; rfl)
              refine x_isSign (fun t4 _ => ?_) (fun _ => ?_)
              · refine bn_t (by decide) ?_
                obtain ⟨p3, rfl⟩ : ∃ k, p2 = k + 1 := by
                  cases p2 with
                  | zero => unfold x_pd at hpd2; cases hpd2; exact absurd rfl hb
                  | succ k => exact ⟨k, rfl⟩
                rcases x_pd_top hpd2 with ⟨-, y, -⟩ | ⟨-, -, y1, y2, t3, y3⟩ | ⟨-, y, -⟩ | ⟨-, y, -⟩
                · omega
                · have e1 : mq_I h2 59 42 - 1 = nI p3 := by rw [ep2]; exact nI_pred _
                  have K1 := x_set (a := 59) (k := 42) (x := mq_I h2 59 42 - 1) I2 (ck_md.rf x_WM h2) (by decide) (show ck_wl _ x_sup (ck_lc 59 42) = true by decide) (fun l u z => by cases z; rw [e1, nI_toInt (by omega)]; omega) (fun n l u z _ => by cases z)
                  have K2 := x_setO K1.1 (mq_I h2 59 40 - 1)
                  have e2 : mq_I h2 59 40 - 1 = nI (op2 - 1) := by rw [eo2, show op2 = (op2 - 1) + 1 by omega, nI_pred]; rfl
                  have e3 : nI br - 1 = nI (br - 1) := by rw [show br = (br - 1) + 1 by omega, nI_pred]; rfl
                  have P3 := (P2.fr K1.2 (by decide)).fr K2.2 (by decide)
                  have M3 := (x_WA K1.2).tr (x_OA K2.2)
                  refine x_settles K2.1 (t := t3) (br := br - 1) (p := p3) ⟨c2, op2 - 1, nb2, P3, e1, y3, e2, by omega, by omega⟩ hT (Or.inl rfl) (fun h4 t4' p4 I4 m4 S4 r5 _ _ => ?_)
                  have S4' := S4
                  obtain ⟨c4, op4, nb4, P4, ep4, hpd4, eo4, ho4, hc4⟩ := S4
                  refine x_reads2 I4 P4 hT (by rw [m4.2.2.2.2 59 28 (by decide)]; show ¬ mq_I h2 59 28 = 0; rw [t4]; decide) (fun h5 f5 I5 m5 P5 hf5 => ?_)
                  have fr : mq_I h5 90 = mq_I h4 90 := by funext k; exact m5.2.2.2.2 _ _ (show Nat.testBit x_RM (ck_lca 90) = false by decide)
                  have := ih f5 1 t4' (br - 1) p4 0 l3 h5 (by omega) I5 (((M2.tr M3).tr (x_SA m4)).tr (x_RA m5)) ⟨c4, op4, nb4, P5, (m5.2.2.2.2 _ _ (by decide)).trans ep4, by rw [fr]; exact hpd4, (m5.2.2.2.2 _ _ (by decide)).trans eo4, ho4, by omega⟩ (Or.inr ⟨rfl, rfl, r5 rfl⟩) (by omega)
                  rw [← e3] at this
                  exact this
                · omega
                · omega
              · refine bn_f rfl ?_
                refine x_errs I2 (by decide) (fun h3 I3 m3 => ?_)
                exact hq _ h3 I3 (M2.tr (x_QA (x_ErQ m3))) (Or.inl rfl)
            · have hb : br = 0 := by
                have hb : nI br = nI 0 := hb
                rwa [nI_eq (by omega) (by omega)] at hb
              subst hb
              refine hq 0 h2 I2 M2 (Or.inr ⟨rfl, c2, _, f, P2, by omega, ?_, hf⟩)
              cases p2 with
              | zero => unfold x_pd at hpd2; cases hpd2; exact eo2
              | succ k =>
                rcases x_pd_top hpd2 with ⟨-, y, -⟩ | ⟨-, -, -, y, -⟩ | ⟨-, y, -⟩ | ⟨-, y, -⟩ <;> omega
  have K0 := x_set (a := 59) (k := 42) (x := 0) I (ck_md.rf x_WM h) (by decide) (show ck_wl _ x_sup (ck_lc 59 42) = true by decide) (fun l u z => by cases z; decide) (fun n l u z _ => by cases z)
  apply mq_enter 40 [9]
  exact key 401 f0 0 0 0 0 1 _ _ (by omega) K0.1 (x_WA K0.2) ⟨c, 0, 0, P.fr K0.2 (by decide), rfl, rfl, eo, by omega, hc⟩ (Or.inl ⟨rfl, rfl⟩) (Nat.le_refl _)
end XJ
