/-! reads: the next token of the tape -/
section XF
variable {lL : Nat} {h h' : mq_H} {Q : Option Value → mq_H → Prop}
def x_RM : Nat := 304236144054775056359208769290240
def x_rp (h2 : mq_H) (s T : Nat) : Prop := ∃ f s2 : Nat, mq_I h2 59 27 = nI f ∧ mq_I h2 59 26 = nI s2 ∧ s ≤ f ∧ f ≤ s2 ∧ s2 ≤ T ∧ (mq_I h2 59 28 = 0 ∨ f < s2) ∧ (mq_I h2 59 28 = 2 → 0 ≤ (mq_I h2 59 29).toInt ∧ (mq_I h2 59 29).toInt ≤ 28)
theorem x_reads (I : ck_Iv x_X h) {s0 T : Nat} (es0 : mq_I h 59 26 = nI s0) (eT : mq_I h 59 25 = nI T) (hs0 : s0 ≤ T) (hT : T ≤ 400) (hq : ∀ h2, ck_Iv x_X h2 → ck_md x_RM h h2 → x_rp h2 s0 T → Q none h2) : mq_Call mq_G (mq_tT lL) 162 [.retAddr 59] h Q := by
  have fT : ∀ h', ck_md x_RM h h' → mq_I h' 59 25 = nI T := fun h' m => (m.2.2.2.2 _ _ (by decide)).trans eT
  have fP : ∀ h', ck_md x_RM h h' → ∀ j, mq_I h' 80 j = mq_I h 80 j := fun h' m j => m.2.2.2.2 _ _ (show Nat.testBit x_RM (ck_lca 80) = false by decide)
  have tp : ∀ j, j < 400 → 0 ≤ (mq_I h 80 j).toInt := fun j hj => (I.1.2 80 400 0 255 rfl j hj).1
  have sS : ∀ h' (x : Int32) (k : Nat), ck_Iv x_X h' → ck_md x_RM h h' → x = nI k → k ≤ 400 → ck_Iv x_X (mq_setI h' 59 26 x) ∧ ck_md x_RM h (mq_setI h' 59 26 x) := fun h' x k I' m ex hk => x_set I' m (by decide) (show ck_wl _ x_sup (ck_lc 59 26) = true by decide) (fun l u z => by cases z; rw [ex, nI_toInt (by omega)]; omega) (fun n l u z _ => by cases z)
  have sF : ∀ h' (x : Int32) (k : Nat), ck_Iv x_X h' → ck_md x_RM h h' → x = nI k → k ≤ 400 → ck_Iv x_X (mq_setI h' 59 27 x) ∧ ck_md x_RM h (mq_setI h' 59 27 x) := fun h' x k I' m ex hk => x_set I' m (by decide) (show ck_wl _ x_sup (ck_lc 59 27) = true by decide) (fun l u z => by cases z; rw [ex, nI_toInt (by omega)]; omega) (fun n l u z _ => by cases z)
  have sT : ∀ h' (x : Int32), ck_Iv x_X h' → ck_md x_RM h h' → ck_Iv x_X (mq_setI h' 59 28 x) ∧ ck_md x_RM h (mq_setI h' 59 28 x) := fun h' x I' m => x_set I' m (by decide) (show ck_wl _ x_sup (ck_lc 59 28) = true by decide) (fun l u z => by cases z; exact ci_rng _) (fun n l u z _ => by cases z)
  have sV : ∀ h' (x : Int32), ck_Iv x_X h' → ck_md x_RM h h' → ck_Iv x_X (mq_setI h' 59 29 x) ∧ ck_md x_RM h (mq_setI h' 59 29 x) := fun h' x I' m => x_set I' m (by decide) (show ck_wl _ x_sup (ck_lc 59 29) = true by decide) (fun l u z => by cases z; exact ci_rng _) (fun n l u z _ => by cases z)
  -- the end of letters
  have k139 : ∀ (f s : Nat) (l1 : Option Value) (h' : mq_H), ck_Iv x_X h' → ck_md x_RM h h' → mq_I h' 59 27 = nI f → mq_I h' 59 26 = nI s → mq_I h' 59 28 = 1 → -1 ≤ (mq_I h' 59 29).toInt → (mq_I h' 59 29).toInt ≤ 28 → s0 ≤ f → f < s → s ≤ T → mq_At mq_G (mq_tT lL) 162 139 [some (.retAddr 59), l1] [] h' Q := by
    intro f s l1 h' I' m ef es et v0 v1 q1 q2 q3
    apply mq_go 40 []
    refine bq_c (fun c => ?_) (fun c => ?_)
    · exact hq _ I' m ⟨f, s, ef, es, q1, by omega, q3, Or.inr q2, fun z => by rw [et] at z; cases z⟩
    · have K := sT h' 2 I' m
      refine hq _ K.1 K.2 ⟨f, s, ef, es, q1, by omega, q3, Or.inr q2, fun _ => ?_⟩
      show 0 ≤ (mq_I h' 59 29).toInt ∧ (mq_I h' 59 29).toInt ≤ 28
      have : ¬ (mq_I h' 59 29).toInt = -1 := fun z => c (x_toI z rfl)
      omega
  -- letters
  have k95 : ∀ (n f s : Nat) (l1 : Option Value) (h' : mq_H), s + n = T → ck_Iv x_X h' → ck_md x_RM h h' → mq_I h' 59 27 = nI f → mq_I h' 59 26 = nI s → mq_I h' 59 28 = 1 → s0 ≤ f → f < s → (∀ j, f ≤ j → j < s → ¬ mq_I h 80 j = 32) → mq_At mq_G (mq_tT lL) 162 95 [some (.retAddr 59), l1] [] h' Q := by
    intro n
    induction n with
    | zero =>
      intro f s l1 h' hn I' m ef es et q1 q2 q3
      apply mq_go 40 [139]
      refine x_raw es (by omega) (fT h' m) hT (fun z => by omega) (fun _ => ?_)
      refine x_isLetter (fun r r0 r1 => ?_)
      have : r = 0 := by
        rcases r0 with z | z
        · exact z
        · have := r1 z; exfalso; revert this; decide
      subst this
      refine bq_t rfl ?_
      refine x_wordAt I'.2.2.2.1 (f := f) (s := s) (by omega) (by omega) (fun j j1 j2 => by rw [fP h' m]; exact q3 j j1 j2) (fun r r0 r1 => ?_) ef es
      have K := sV h' r I' m
      exact k139 f s _ _ K.1 K.2 ef es et r0 r1 q1 q2 (by omega)
    | succ n ih =>
      intro f s l1 h' hn I' m ef es et q1 q2 q3
      apply mq_go 40 [95, 139]
      refine x_raw es (by omega) (fT h' m) hT (fun _ => ?_) (fun z => by omega)
      refine x_isLetter (fun r r0 r1 => ?_)
      refine bq_c (fun _ => ?_) (fun c => ?_)
      · refine x_wordAt I'.2.2.2.1 (f := f) (s := s) (by omega) (by omega) (fun j j1 j2 => by rw [fP h' m]; exact q3 j j1 j2) (fun r r0 r1 => ?_) ef es
        have K := sV h' r I' m
        exact k139 f s _ _ K.1 K.2 ef es et r0 r1 q1 q2 (by omega)
      · have r1 := r1 (by rcases r0 with z | z; exact absurd z c; exact z)
        have e1 : mq_I h' 59 26 + 1 = nI (s + 1) := by rw [es]; exact nI_1 _
        have K := sS h' _ (s + 1) I' m e1 (by omega)
        refine ih f (s + 1) _ _ (by omega) K.1 K.2 ef e1 et q1 (by omega) (fun j j1 j2 => ?_)
        rcases Nat.lt_or_ge j s with z | z
        · exact q3 j j1 z
        · rw [show j = s by omega]
          rw [fP h' m] at r1
          intro e
          rw [e] at r1
          revert r1
          decide
  -- the end of digits
  have k239 : ∀ (f s : Nat) (l1 : Option Value) (h' : mq_H), ck_Iv x_X h' → ck_md x_RM h h' → mq_I h' 59 27 = nI f → mq_I h' 59 26 = nI s → mq_I h' 59 28 = 1 → s0 ≤ f → f < s → s ≤ T → mq_At mq_G (mq_tT lL) 162 239 [some (.retAddr 59), l1] [] h' Q := by
    intro f s l1 h' I' m ef es et q1 q2 q3
    apply mq_go 40 []
    refine bq_c (fun c => ?_) (fun c => ?_)
    · exact hq _ I' m ⟨f, s, ef, es, q1, by omega, q3, Or.inr q2, fun z => by rw [et] at z; cases z⟩
    · have K := sT h' 3 I' m
      exact hq _ K.1 K.2 ⟨f, s, ef, es, q1, by omega, q3, Or.inr q2, fun z => by cases z⟩
  -- digits
  have k171 : ∀ (n f s : Nat) (l1 : Option Value) (h' : mq_H), s + n = T → ck_Iv x_X h' → ck_md x_RM h h' → mq_I h' 59 27 = nI f → mq_I h' 59 26 = nI s → mq_I h' 59 28 = 1 → s0 ≤ f → f < s → mq_At mq_G (mq_tT lL) 162 171 [some (.retAddr 59), l1] [] h' Q := by
    intro n
    induction n with
    | zero =>
      intro f s l1 h' hn I' m ef es et q1 q2
      apply mq_go 40 [239]
      refine x_raw es (by omega) (fT h' m) hT (fun z => by omega) (fun _ => ?_)
      refine x_isDigit (fun r r0 r1 => ?_)
      have : r = 0 := by
        rcases r0 with z | z
        · exact z
        · have := r1 z; exfalso; revert this; decide
      subst this
      refine bq_t rfl ?_
      exact k239 f s _ _ I' m ef es et q1 q2 (by omega)
    | succ n ih =>
      intro f s l1 h' hn I' m ef es et q1 q2
      have nx : ∀ x : Int32, mq_At mq_G (mq_tT lL) 162 226 [some (.retAddr 59), l1] [] (mq_setI h' 59 29 x) Q := by
        intro x
        have K0 := sV h' x I' m
        have e1 : mq_I (mq_setI h' 59 29 x) 59 26 + 1 = nI (s + 1) := by show mq_I h' 59 26 + 1 = _; rw [es]; exact nI_1 _
        have K := sS _ _ (s + 1) K0.1 K0.2 e1 (by omega)
        apply mq_go 40 [171]
        exact ih f (s + 1) _ _ (by omega) K.1 K.2 ef e1 et q1 (by omega)
      apply mq_go 60 [226, 239]
      refine x_raw es (by omega) (fT h' m) hT (fun _ => ?_) (fun z => by omega)
      refine x_isDigit (fun r r0 r1 => ?_)
      refine bq_c (fun _ => ?_) (fun c => ?_)
      · exact k239 f s _ _ I' m ef es et q1 q2 (by omega)
      · refine bq_c (fun _ => ?_) (fun _ => ?_)
        · exact nx _
        · refine x_raw es (by omega) (fT h' m) hT (fun _ => ?_) (fun z => by omega)
          exact nx _
  -- behind the first sign
  have k87 : ∀ (s : Nat) (c : Int32) (h' : mq_H), s < T → ck_Iv x_X h' → ck_md x_RM h h' → mq_I h' 59 27 = nI s → mq_I h' 59 26 = nI (s + 1) → mq_I h' 59 28 = 1 → c = mq_I h 80 s → s0 ≤ s → mq_At mq_G (mq_tT lL) 162 87 [some (.retAddr 59), some (.int c)] [] h' Q := by
    intro s c h' hs I' m ef es et ec q1
    have fin : ∀ (x : Int32), ¬ x = 2 → Q none (mq_setI h' 59 28 x) := fun x hx => by
      have K := sT h' x I' m
      exact hq _ K.1 K.2 ⟨s, s + 1, ef, es, q1, by omega, by omega, Or.inr (by omega), fun z => absurd z hx⟩
    apply mq_go 60 [95, 171]
    refine x_isLetter (fun r r0 r1 => ?_)
    refine bq_c (fun _ => ?_) (fun c1 => ?_)
    · refine x_isDigit (fun r r0 r1 => ?_)
      refine bq_c (fun _ => ?_) (fun c1 => ?_)
      · refine x_isMark (fun r => ?_)
        refine bq_c (fun _ => ?_) (fun c1 => ?_)
        · exact hq _ I' m ⟨s, s + 1, ef, es, q1, by omega, by omega, Or.inr (by omega), fun z => by rw [et] at z; cases z⟩
        · exact fin 4 (by decide)
      · have K := sV h' (c - 48) I' m
        exact k171 (T - (s + 1)) s (s + 1) _ _ (by omega) K.1 K.2 ef es et q1 (by omega)
    · have r1 := r1 (by rcases r0 with z | z; exact absurd z c1; exact z)
      refine k95 (T - (s + 1)) s (s + 1) _ _ (by omega) I' m ef es et q1 (by omega) (fun j j1 j2 e => ?_)
      rw [show j = s by omega, ← ec] at e
      rw [e] at r1
      revert r1
      decide
  have k52 : ∀ (s : Nat) (l1 : Option Value) (h' : mq_H), s ≤ T → ck_Iv x_X h' → ck_md x_RM h h' → mq_I h' 59 27 = nI s → mq_I h' 59 26 = nI s → mq_I h' 59 28 = 1 → s0 ≤ s → mq_At mq_G (mq_tT lL) 162 52 [some (.retAddr 59), l1] [] h' Q := by
    intro s l1 h' hs I' m ef es et q1
    apply mq_go 60 [87]
    refine x_raw es (by omega) (fT h' m) hT (fun z => ?_) (fun z => ?_)
    · refine bn_t (fun e => ?_) ?_
      · have := tp s (by omega)
        rw [fP h' m] at e
        rw [e] at this
        revert this
        decide
      · have e1 : mq_I h' 59 26 + 1 = nI (s + 1) := by rw [es]; exact nI_1 _
        have K := sS h' _ (s + 1) I' m e1 (by omega)
        have K2 := sV _ (mq_I h' 80 s) K.1 K.2
        exact k87 s _ _ z K2.1 K2.2 ef e1 et (fP h' m s) q1
    · refine bn_f rfl ?_
      have K := sT h' 0 I' m
      exact hq _ K.1 K.2 ⟨s, s, ef, es, q1, by omega, hs, Or.inl rfl, fun z => by cases z⟩
  have k39 : ∀ (s : Nat) (l1 : Option Value) (h' : mq_H), s ≤ T → ck_Iv x_X h' → ck_md x_RM h h' → mq_I h' 59 26 = nI s → s0 ≤ s → mq_At mq_G (mq_tT lL) 162 39 [some (.retAddr 59), l1] [] h' Q := by
    intro s l1 h' hs I' m es q1
    have K := sF h' _ s I' m es (by omega)
    have K2 := sT _ 1 K.1 K.2
    apply mq_go 60 [52]
    exact k52 s _ _ hs K2.1 K2.2 es es rfl q1
  have k0 : ∀ (n s : Nat) (l1 : Option Value) (h' : mq_H), s + n = T → ck_Iv x_X h' → ck_md x_RM h h' → mq_I h' 59 26 = nI s → s0 ≤ s → mq_At mq_G (mq_tT lL) 162 0 [some (.retAddr 59), l1] [] h' Q := by
    intro n
    induction n with
    | zero =>
      intro s l1 h' hn I' m es q1
      apply mq_go 60 [39]
      refine x_raw es (by omega) (fT h' m) hT (fun z => by omega) (fun _ => ?_)
      refine bq_f (by decide) ?_
      refine x_raw es (by omega) (fT h' m) hT (fun z => by omega) (fun _ => ?_)
      refine bn_t (by decide) ?_
      exact k39 s _ _ (by omega) I' m es q1
    | succ n ih =>
      intro s l1 h' hn I' m es q1
      have e1 : mq_I h' 59 26 + 1 = nI (s + 1) := by rw [es]; exact nI_1 _
      have K := sS h' _ (s + 1) I' m e1 (by omega)
      apply mq_go 60 [39, 0]
      refine x_raw es (by omega) (fT h' m) hT (fun _ => ?_) (fun z => by omega)
      refine bq_c (fun _ => ?_) (fun _ => ?_)
      · exact ih (s + 1) _ _ (by omega) K.1 K.2 e1 (by omega)
      · refine x_raw es (by omega) (fT h' m) hT (fun _ => ?_) (fun z => by omega)
        refine bn_c (fun _ => ?_) (fun _ => ?_)
        · exact k39 s _ _ (by omega) I' m es q1
        · exact ih (s + 1) _ _ (by omega) K.1 K.2 e1 (by omega)
  exact ⟨_, rfl, k0 (T - s0) s0 _ h (by omega) I (ck_md.rf _ _) es0 (Nat.le_refl _)⟩
end XF
