/-! doubt of the reference -/
section XP
variable {lL : Nat} {h h' h2 : mq_H} {Q : Option Value → mq_H → Prop}
theorem x_c1_le {fd fd' : Nat → Int32} {c : Nat} : ∀ (n : Nat), (∀ k, k < n → (fd' (12 * c + k)).toInt = 6 → (fd (12 * c + k)).toInt = 6) → x_c1 fd' c n ≤ x_c1 fd c n
  | 0, _ => Nat.le_refl _
  | n + 1, H => by
    have h1 := x_c1_le (fd := fd) n (fun k hk => H k (by omega))
    show x_c1 fd' c n + (if (fd' (12 * c + n)).toInt = 6 then 1 else 0) ≤ x_c1 fd c n + (if (fd (12 * c + n)).toInt = 6 then 1 else 0)
    by_cases e : (fd' (12 * c + n)).toInt = 6
    · rw [if_pos e, if_pos (H n (by omega) e)]; omega
    · rw [if_neg e]; omega
theorem x_c2_le {fc fd fd' : Nat → Int32} : ∀ (n : Nat), (∀ i, (fd' i).toInt = 6 → (fd i).toInt = 6) → x_c2 fc fd' n ≤ x_c2 fc fd n
  | 0, _ => Nat.le_refl _
  | n + 1, H => by
    have h1 := x_c2_le (fc := fc) (fd := fd) n H
    have h2 := x_c1_le (fd := fd) (fd' := fd') (c := n) (fc n).toNatClampNeg (fun k _ => H _)
    show x_c2 fc fd' n + x_c1 fd' n (fc n).toNatClampNeg ≤ x_c2 fc fd n + x_c1 fd n (fc n).toNatClampNeg
    omega
/-- one place another: one more at most -/
theorem x_c1_up {g g' : Nat → Int32} {c p : Nat} : ∀ (n : Nat), (∀ i, ¬ i = p → g' i = g i) → x_c1 g' c n ≤ x_c1 g c n + (if 12 * c ≤ p ∧ p < 12 * c + n then 1 else 0)
  | 0, _ => Nat.zero_le _
  | n + 1, H => by
    have h1 := x_c1_up (c := c) n H
    show x_c1 g' c n + (if (g' (12 * c + n)).toInt = 6 then 1 else 0) ≤ x_c1 g c n + (if (g (12 * c + n)).toInt = 6 then 1 else 0) + _
    by_cases e : p = 12 * c + n
    · rw [if_neg (by omega)] at h1
      have h3 : (if 12 * c ≤ p ∧ p < 12 * c + (n + 1) then 1 else 0) = 1 := if_pos (by omega)
      have : (if (g' (12 * c + n)).toInt = 6 then 1 else 0) ≤ 1 := by split <;> omega
      omega
    · rw [H _ (fun z => e z.symm)]
      by_cases q : 12 * c ≤ p ∧ p < 12 * c + n
      · rw [if_pos q] at h1
        have h3 : (if 12 * c ≤ p ∧ p < 12 * c + (n + 1) then 1 else 0) = 1 := if_pos (by omega)
        omega
      · rw [if_neg q] at h1
        omega
theorem x_c2_up {fc g g' : Nat → Int32} {p : Nat} : ∀ (n : Nat), (∀ c, c < n → (fc c).toNatClampNeg ≤ 12) → (∀ i, ¬ i = p → g' i = g i) → x_c2 fc g' n ≤ x_c2 fc g n + (if p < 12 * n then 1 else 0)
  | 0, _, _ => Nat.zero_le _
  | n + 1, hf, H => by
    have h1 := x_c2_up (fc := fc) (g := g) (g' := g') (p := p) n (fun c hc => hf c (by omega)) H
    have h2 := x_c1_up (g := g) (g' := g') (c := n) (p := p) (fc n).toNatClampNeg H
    have h3 := hf n (by omega)
    show x_c2 fc g' n + x_c1 g' n (fc n).toNatClampNeg ≤ x_c2 fc g n + x_c1 g n (fc n).toNatClampNeg + _
    by_cases q : p < 12 * n
    · rw [if_pos q] at h1
      rw [if_neg (by omega)] at h2
      rw [if_pos (by omega)]
      omega
    · rw [if_neg q] at h1
      by_cases q2 : p < 12 * (n + 1)
      · rw [if_pos q2]
        have : (if 12 * n ≤ p ∧ p < 12 * n + (fc n).toNatClampNeg then 1 else 0) ≤ 1 := by split <;> omega
        omega
      · rw [if_neg (by omega)] at h2
        omega
/-- doubtful: contested ones of a claim but one -/
theorem x_dtf (I : ck_Iv x_X h) {c : Nat} (hc : c < 60) {b : Int32} {fd : Nat → Int32} (hg : ∀ k, k < 12 → ((fd (12 * c + k)).toInt = 6 ↔ (mq_I h 75 (12 * c + k)).toInt = 6 ∧ ¬ nI k = b)) (hq : Q (some (.int (nI (x_c1 fd c (mq_I h 71 c).toNatClampNeg)))) h) : mq_Call mq_G (mq_tT lL) 149 [.retAddr 59, .int (nI c), .int b, .int 1] h Q := by
  have hf0 := I.1.2 71 60 0 12 rfl c hc
  obtain ⟨fc, efc, hfc, hfi⟩ := x_nat (n := 12) hf0.1 hf0.2
  have key : ∀ (m k : Nat) (x y : Int32) (l6 : Option Value), k + m = fc → x = nI (x_c1 fd c k) → y = nI k → mq_At mq_G (mq_tT lL) 149 6 [some (.retAddr 59), some (.int (nI c)), some (.int b), some (.int 1), some (.int x), some (.int y), l6] [] h Q := by
    intro m
    induction m with
    | zero =>
      intro k x y l6 hk ex ey
      have hk : k = fc := by omega
      subst ey hk
      apply mq_go 40 []
      refine gq_i (inb_nI hc (by decide)) ?_
      refine bq_t (by rw [nI_clamp (by omega), efc]; exact Int32.le_refl _) ?_
      rw [efc, nI_clamp (by omega), ← ex] at hq
      exact hq
    | succ m ih =>
      intro k x y l6 hk ex ey
      subst ey
      have e12 : (12 : Int32) * nI c + nI k = nI (12 * c + k) := by rw [show (12 : Int32) = nI 12 from rfl, nI_mul, nI_add]
      have hcl := x_cl e12 (by omega)
      have hgk := hg k (by omega)
      have n64 : ∀ (x' : Int32) (l6 : Option Value), x' = nI (x_c1 fd c (k + 1)) → mq_At mq_G (mq_tT lL) 149 64 [some (.retAddr 59), some (.int (nI c)), some (.int b), some (.int 1), some (.int x'), some (.int (nI k)), l6] [] h Q := fun x' l6 e => by
        apply mq_go 20 [6]
        exact ih (k + 1) _ _ _ (by omega) e (nI_1 _)
      have no : ∀ l6, ¬ ((fd (12 * c + k)).toInt = 6) → mq_At mq_G (mq_tT lL) 149 64 [some (.retAddr 59), some (.int (nI c)), some (.int b), some (.int 1), some (.int x), some (.int (nI k)), l6] [] h Q := fun l6 hn => by
        refine n64 _ _ ?_
        show x = nI (x_c1 fd c k + (if (fd (12 * c + k)).toInt = 6 then 1 else 0))
        rw [if_neg hn, ex]
        rfl
      apply mq_go 60 [6, 64]
      refine gq_i (inb_nI hc (by decide)) ?_
      refine bq_f (by rw [nI_clamp (by omega), efc]; exact nI_ge (by omega) (by omega)) ?_
      refine gq_i (x_inb e12 (by omega) (by decide)) ?_
      refine bq_c (fun eb => ?_) (fun nb => ?_)
      · exact no _ (fun z => (hgk.mp z).2 eb)
      · refine bq_c (fun le => ?_) (fun gt => ?_)
        · rw [hcl, le_i] at le
          have le : (mq_I h 75 (12 * c + k)).toInt ≤ 0 := le
          exact no _ (fun z => by have := (hgk.mp z).1; omega)
        · refine bn_c (fun n6 => ?_) (fun e6 => ?_)
          · refine bn_t (by decide) ?_
            rw [hcl] at n6
            exact no _ (fun z => n6 (x_toI (hgk.mp z).1 rfl))
          · refine bn_f rfl ?_
            rw [hcl] at e6
            refine n64 _ _ ?_
            show x + 1 = nI (x_c1 fd c k + (if (fd (12 * c + k)).toInt = 6 then 1 else 0))
            rw [if_pos (hgk.mpr ⟨by rw [e6]; rfl, nb⟩), ex, nI_1]
  apply mq_enter 40 [6]
  exact key fc 0 _ _ _ (by omega) rfl rfl
theorem x_dtfA (I : ck_Iv x_X h) {c : Nat} (hc : c < 60) {b z : Int32} (hq : ∀ r : Int32, Q (some (.int r)) h) : mq_Call mq_G (mq_tT lL) 149 [.retAddr 59, .int (nI c), .int b, .int z] h Q := by
  have hf0 := I.1.2 71 60 0 12 rfl c hc
  obtain ⟨fc, efc, hfc, hfi⟩ := x_nat (n := 12) hf0.1 hf0.2
  have key : ∀ (m k : Nat) (x y : Int32) (l6 : Option Value), k + m = fc → y = nI k → mq_At mq_G (mq_tT lL) 149 6 [some (.retAddr 59), some (.int (nI c)), some (.int b), some (.int z), some (.int x), some (.int y), l6] [] h Q := by
    intro m
    induction m with
    | zero =>
      intro k x y l6 hk ey
      have hk : k = fc := by omega
      subst ey hk
      apply mq_go 40 []
      refine gq_i (inb_nI hc (by decide)) ?_
      refine bq_t (by rw [nI_clamp (by omega), efc]; exact Int32.le_refl _) ?_
      exact hq _
    | succ m ih =>
      intro k x y l6 hk ey
      subst ey
      have e12 : (12 : Int32) * nI c + nI k = nI (12 * c + k) := by rw [show (12 : Int32) = nI 12 from rfl, nI_mul, nI_add]
      apply mq_go 60 [6]
      refine gq_i (inb_nI hc (by decide)) ?_
      refine bq_f (by rw [nI_clamp (by omega), efc]; exact nI_ge (by omega) (by omega)) ?_
      refine gq_i (x_inb e12 (by omega) (by decide)) ?_
      refine bq_c (fun _ => ih (k + 1) _ _ _ (by omega) (nI_1 _)) (fun _ => ?_)
      refine bq_c (fun _ => ih (k + 1) _ _ _ (by omega) (nI_1 _)) (fun _ => ?_)
      refine bn_c (fun _ => ?_) (fun _ => ?_)
      · exact bn_c (fun _ => ih (k + 1) _ _ _ (by omega) (nI_1 _)) (fun _ => ih (k + 1) _ _ _ (by omega) (nI_1 _))
      · exact bn_c (fun _ => ih (k + 1) _ _ _ (by omega) (nI_1 _)) (fun _ => ih (k + 1) _ _ _ (by omega) (nI_1 _))
  apply mq_enter 40 [6]
  exact key fc 0 _ _ _ (by omega) rfl
theorem x_doubt_ct (I : ck_Iv x_X h) {x1 x2 x3 : Int32} (n : Nat) : mq_PC mq_G (mq_tT lL) n 150 [.retAddr 59, .int x1, .int x2, .int x3] h (fun _ h' => x_ct (mq_I h')) := by
  have ct : x_ct (mq_I h) := I.2.2.2.2.2.1
  obtain ⟨N, eN, hN, -⟩ := x_nat (n := 60) (I.1.1 59 9 0 60 rfl).1 (I.1.1 59 9 0 60 rfl).2
  have ct2 := ct
  unfold x_ct at ct2
  rw [x_cl eN (by omega)] at ct2
  have K := x_set (a := 59) (k := 0) (x := 0) I (ck_md.rf (302231454903657293676544) h) (by decide) (show ck_wl _ x_sup (ck_lc 59 0) = true by decide) (fun l u z => by cases z; exact ci_rng _) (fun n l u z _ => by cases z)
  have hfn : ∀ c, c < 60 → (mq_I h 71 c).toNatClampNeg ≤ 12 := fun c hc => by
    have := I.1.2 71 60 0 12 rfl c hc
    have := ci_cl this.1
    omega
  revert n
  refine mq_el_in 100 [70] (fun n => ?_)
  refine (x_isClm (fun x0 x1' => ?_) (bq_t rfl (fun _ => ct))).pc n
  refine bq_f (by decide) ?_
  have x1' : x1.toInt < (mq_I h 59 9).toInt := x1'
  rw [eN, nI_toInt (by omega)] at x1'
  obtain ⟨c, rfl, hc, hci⟩ := x_nat (n := 59) x0 (by omega)
  intro _
  refine (x_isIn (fun y0 y1 => ?_) (fun _ => bq_t rfl (fun _ => ct))).pc n
  refine bq_f (by decide) ?_
  have hf0 := I.1.2 71 60 0 12 rfl c (by omega)
  obtain ⟨fc, efc, hfc, hfi⟩ := x_nat (n := 12) hf0.1 hf0.2
  have y0 : (0 : Int) ≤ x2.toInt := y0
  have y1 : x2.toInt ≤ (mq_I h 71 (nI c).toNatClampNeg - 1).toInt := y1
  rw [nI_clamp (by omega), ci_sub (y := 1) ⟨by show (-2147483648 : Int) ≤ _ - 1; omega, by show _ - (1 : Int) ≤ _; omega⟩] at y1
  have y1 : x2.toInt ≤ (mq_I h 71 c).toInt - 1 := y1
  obtain ⟨k, rfl, hk, hki⟩ := x_nat (n := 11) y0 (by omega)
  refine (x_isIn (fun z0 z1 => ?_) (fun _ => bn_f rfl (fun _ => ct))).pc n
  refine bn_t (by decide) ?_
  have e12 : (12 : Int32) * nI c + nI k = nI (12 * c + k) := by rw [show (12 : Int32) = nI 12 from rfl, nI_mul, nI_add]
  -- the write
  have wr : (¬ x3.toInt = 6 ∨ x_c2 (mq_I h 71) (fun i => if i = 12 * c + k then 0 else mq_I h 75 i) N ≤ 5) → x_ct (mq_I (mq_setI (mq_setI h 59 0 0) 75 ((12 : Int32) * nI c + nI k).toNatClampNeg x3)) := fun hw => by
    show x_c2 (mq_I h 71) (fun i => if i = ((12 : Int32) * nI c + nI k).toNatClampNeg then x3 else mq_I h 75 i) (mq_I h 59 9).toNatClampNeg ≤ 6
    rw [x_cl e12 (by omega), x_cl eN (by omega)]
    rcases hw with hw | hw
    · refine Nat.le_trans (x_c2_le (fd := mq_I h 75) N (fun i z => ?_)) ct2
      by_cases e : i = 12 * c + k
      · rw [if_pos e] at z; exact absurd z hw
      · rw [if_neg e] at z; exact z
    · have := x_c2_up (fc := mq_I h 71) (g := fun i => if i = 12 * c + k then 0 else mq_I h 75 i) (g' := fun i => if i = 12 * c + k then x3 else mq_I h 75 i) (p := 12 * c + k) N (fun d hd => hfn d (by omega)) (fun i hi => by show (if i = 12 * c + k then x3 else mq_I h 75 i) = (if i = 12 * c + k then 0 else mq_I h 75 i); rw [if_neg hi, if_neg hi])
      have h1 : (if 12 * c + k < 12 * N then 1 else 0) ≤ 1 := by split <;> omega
      omega
  have end_ : ∀ (n : Nat) (l4 l5 : Option Value), (¬ x3.toInt = 6 ∨ x_c2 (mq_I h 71) (fun i => if i = 12 * c + k then 0 else mq_I h 75 i) N ≤ 5) → mq_Pn mq_G (mq_tT lL) (n + 1) 150 129 [some (.retAddr 59), some (.int (nI c)), some (.int (nI k)), some (.int x3), l4, l5] [] (mq_setI h 59 0 0) (fun _ h' => x_ct (mq_I h')) := fun n l4 l5 hw => by
    refine mq_gl 40 [] ?_
    intro _ _
    exact wr hw
  -- the loop over all claims
  have lp : ∀ (n d : Nat) (x y : Int32), d ≤ N → x3.toInt = 6 → x = nI (x_c2 (mq_I h 71) (fun i => if i = 12 * c + k then 0 else mq_I h 75 i) d) → y = nI d → mq_Pn mq_G (mq_tT lL) n 150 82 [some (.retAddr 59), some (.int (nI c)), some (.int (nI k)), some (.int x3), some (.int x), some (.int y)] [] (mq_setI h 59 0 0) (fun _ h' => x_ct (mq_I h')) := by
    intro n
    induction n with
    | zero => intro d x y _ _ _ _; exact mq_Pn.z
    | succ n ih =>
      intro d x y hd h6 ex ey
      subst ey
      have hle : x_c2 (mq_I h 71) (fun i => if i = 12 * c + k then 0 else mq_I h 75 i) d ≤ 6 := by
        refine Nat.le_trans (x_c2_mono _ _ d N hd) (Nat.le_trans (x_c2_le (fd := mq_I h 75) N (fun i z => ?_)) ct2)
        by_cases e : i = 12 * c + k
        · rw [if_pos e] at z; exact absurd z (by decide)
        · rw [if_neg e] at z; exact z
      refine mq_gl 60 [82, 129] ?_
      refine bq_c (fun ge => ?_) (fun lt => ?_)
      · have ge : mq_I h 59 9 ≤ nI d := ge
        rw [eN, nI_leI (by omega) (by omega)] at ge
        have hdN : d = N := by omega
        refine bn_c (fun n6 => ?_) (fun _ _ => ct)
        refine (end_ n _ _ (Or.inr ?_)).dn (by omega)
        subst hdN
        have : ¬ x_c2 (mq_I h 71) (fun i => if i = 12 * c + k then 0 else mq_I h 75 i) d = 6 := fun e => n6 (by rw [ex, e]; rfl)
        omega
      · have lt : ¬ mq_I h 59 9 ≤ nI d := lt
        rw [eN, nI_leI (by omega) (by omega)] at lt
        have nx : ∀ b : Int32, (∀ j, j < 12 → ((if 12 * d + j = 12 * c + k then (0 : Int32) else mq_I h 75 (12 * d + j)).toInt = 6 ↔ (mq_I h 75 (12 * d + j)).toInt = 6 ∧ ¬ nI j = b)) → ∀ Q' : Option Value → mq_H → Prop, (∀ r : Int32, r = nI (x_c1 (fun i => if i = 12 * c + k then 0 else mq_I h 75 i) d (mq_I h 71 d).toNatClampNeg) → Q' (some (.int r)) (mq_setI h 59 0 0)) → mq_PC mq_G (mq_tT lL) n 149 [.retAddr 59, .int (nI d), .int b, .int 1] (mq_setI h 59 0 0) Q' := fun b hb Q' hQ' => (x_dtf K.1 (by omega) hb (hQ' _ rfl)).pc n
        have st : ∀ r : Int32, r = nI (x_c1 (fun i => if i = 12 * c + k then 0 else mq_I h 75 i) d (mq_I h 71 d).toNatClampNeg) → x + r = nI (x_c2 (mq_I h 71) (fun i => if i = 12 * c + k then 0 else mq_I h 75 i) (d + 1)) := fun r er => by
          rw [ex, er, nI_add]
          rfl
        refine bn_c (fun ne => ?_) (fun eq => ?_)
        · have ne : ¬ d = c := fun e => ne (by rw [e])
          refine nx (-1) (fun j hj => ?_) _ (fun r er => ?_)
          · rw [if_neg (by omega)]
            refine ⟨fun z => ⟨z, fun e => ?_⟩, fun z => z.1⟩
            have := congrArg Int32.toInt e
            rw [nI_toInt (by omega)] at this
            have : (j : Int) = -1 := this
            omega
          · exact ih (d + 1) _ _ (by omega) h6 (st r er) (nI_1 _)
        · rw [nI_eq (by omega) (by omega)] at eq
          refine nx (nI k) (fun j hj => ?_) _ (fun r er => ?_)
          · by_cases e : j = k
            · rw [if_pos (by omega)]
              exact ⟨fun z => absurd z (by decide), fun z => absurd (by rw [e]) z.2⟩
            · rw [if_neg (by omega)]
              refine ⟨fun z => ⟨z, fun y => ?_⟩, fun z => z.1⟩
              rw [nI_eq (by omega) (by omega)] at y
              exact e y
          · exact ih (d + 1) _ _ (by omega) h6 (st r er) (nI_1 _)
  have k70 : ∀ n, mq_Pn mq_G (mq_tT lL) (n + 1) 150 70 [some (.retAddr 59), some (.int (nI c)), some (.int (nI k)), some (.int x3), none, none] [] (mq_setI h 59 0 0) (fun _ h' => x_ct (mq_I h')) := fun n => by
    refine mq_gl 40 [82, 129] ?_
    refine bn_c (fun n6 => ?_) (fun e6 => ?_)
    · exact (end_ n _ _ (Or.inl (fun z => n6 (x_toI z rfl)))).dn (by omega)
    · exact lp n 0 _ _ (by omega) (by rw [e6]; rfl) rfl rfl
  have k70n : mq_Pn mq_G (mq_tT lL) n 150 70 [some (.retAddr 59), some (.int (nI c)), some (.int (nI k)), some (.int x3), none, none] [] (mq_setI h 59 0 0) (fun _ h' => x_ct (mq_I h')) := (k70 n).dn (by omega)
  refine bq_c (fun _ => k70n) (fun _ => ?_)
  refine bn_c (fun _ => ?_) (fun _ => ?_)
  · refine (x_dtfA K.1 (by omega) (fun r => ?_)).pc n
    exact bn_c (fun _ => k70n) (fun _ _ => ct)
  · refine (x_dtfA K.1 (by omega) (fun r => ?_)).pc n
    exact bn_c (fun _ => k70n) (fun _ _ => ct)
end XP
