/-! isSo: the codes of a line, worked out -/
section XB
variable {lL : Nat} {h h' : mq_H} {Q : Option Value → mq_H → Prop}
theorem x_toI {x : Int32} {n : Int} (h : x.toInt = n) {y : Int32} (e : y.toInt = n) : x = y := Int32.toInt_inj.mp (h.trans e.symm)
theorem x_isSo (I : ck_Iv x_X h) {row i : Nat} (hr : row < 8) (hi : (i : Int) < (mq_I h 82 row).toInt) (hq : ∀ (r : Int32) h', x_f 92 h h' → 0 ≤ r.toInt → r.toInt ≤ 1 → Q (some (.int r)) h') : mq_Call mq_G (mq_tT lL) 180 [.retAddr 59, .int (nI row), .int (nI (16 * row + i))] h Q := by
  have hm := I.1.2 82 9 0 16 rfl row (by omega)
  have hl : 16 * row + i < 144 := by omega
  have hl2 : 16 * row + i < 2 ^ 31 := by omega
  obtain ⟨f, ef, hf, -⟩ := x_nat (n := 400) (I.1.2 86 144 0 400 rfl _ hl).1 (I.1.2 86 144 0 400 rfl _ hl).2
  obtain ⟨t, et, ht, -⟩ := x_nat (n := 400) (I.1.2 87 144 0 400 rfl _ hl).1 (I.1.2 87 144 0 400 rfl _ hl).2
  obtain ⟨hft, D, hD⟩ := I.2.2.2.2.1 row hr i hi
  rw [ef, et, nI_toInt (by omega), nI_toInt (by omega)] at hft
  rw [ef, et, nI_toInt (by omega), nI_toInt (by omega), nI_clamp (by omega), show ((t : Int) - (f : Int)).toNat = t - f by omega] at hD
  obtain ⟨o, eo⟩ : ∃ o : Nat → Int32, o = fun n => mq_I h 88 (400 * row + f + n) := ⟨_, rfl⟩
  obtain ⟨a, ea⟩ : ∃ a : Nat → Int32, a = fun n => mq_I h 89 (400 * row + f + n) := ⟨_, rfl⟩
  rw [← eo, ← ea] at hD
  have key : ∀ (m n top : Nat) (x y : Int32) (h' : mq_H), n + m = t - f → x_f 92 h h' → x_sc o a n = some top → (∀ p, n = p + 1 → (o p).toInt = 0 → mq_I h' 92 (top - 1) = a p) → x = nI top → y = nI (400 * row + f + n) → mq_At mq_G (mq_tT lL) 180 33 [some (.retAddr 59), some (.int (nI row)), some (.int (nI (16 * row + i))), some (.int x), some (.int y)] [] h' Q := by
    intro m
    induction m with
    | zero =>
      intro n top x y h' hn F hsc hpv ex ey
      apply mq_go 40 []
      refine gq_i (inb_nI hl (by decide)) ?_
      refine bq_t (by rw [F.2.2.2.2 _ (by decide), nI_clamp hl2, et, ey, show (400 : Int32) = nI 400 from rfl, nI_mul, nI_add, show 400 * row + f + n = 400 * row + t by omega]; exact Int32.le_refl _) ?_
      refine gq_i rfl ?_
      refine bq_c (fun _ => ?_) (fun _ => ?_)
      · exact gq_i rfl (hq _ _ F (by decide) (by decide))
      · exact gq_i rfl (hq _ _ F (by decide) (by decide))
    | succ m ih =>
      intro n top x y h' hn F hsc hpv ex ey
      have hyb : 400 * row + f + n < 3600 := by omega
      have hy : mq_inb y 3600 = true := x_inb ey hyb (by decide)
      have hyc : y.toNatClampNeg = 400 * row + f + n := x_cl ey (by omega)
      have hop : mq_I h' 88 y.toNatClampNeg = o n := by rw [hyc, F.2.2.2.2 _ (by decide), eo]
      have har : mq_I h' 89 y.toNatClampNeg = a n := by rw [hyc, F.2.2.2.2 _ (by decide), ea]
      have htop := x_sc_le _ _ hsc
      have hx : mq_inb x 420 = true := x_inb ex (by omega) (by decide)
      have hxc : x.toNatClampNeg = top := x_cl ex (by omega)
      obtain ⟨d, hd⟩ := x_sc_lt (o := o) (a := a) (d := D) (n + 1) m (by rw [show n + 1 + m = t - f by omega]; exact hD)
      have hd1 := hd
      unfold x_sc at hd1
      rw [hsc] at hd1
      dsimp only at hd1
      apply mq_go 80 [33]
      refine gq_i (inb_nI hl (by decide)) ?_
      refine bq_f (by rw [F.2.2.2.2 _ (by decide), nI_clamp hl2, et, ey, show (400 : Int32) = nI 400 from rfl, nI_mul, nI_add]; exact nI_ge (by omega) (by omega)) ?_
      refine gq_i hy ?_
      refine bq_c (fun c0 => ?_) (fun c0 => ?_)
      · rw [hop] at c0
        have z0 : (o n).toInt = 0 := by rw [c0]; rfl
        rw [if_pos z0] at hd1
        refine gq_i hy ?_
        refine bn_f (hop.trans c0) ?_
        refine gq_i hy ?_
        refine gq_i hx ?_
        cases hd1
        refine ih (n + 1) (top + 1) _ _ _ (by omega) (F.set _ _) hd (fun p hp _ => ?_) (by rw [ex]; exact nI_1 _) (by rw [ey]; exact nI_1 _)
        rw [mq_I_setI, if_pos rfl, if_pos (by rw [hxc]; omega), har, show p = n by omega]
      · rw [hop] at c0
        have z0 : ¬ (o n).toInt = 0 := fun z => c0 (x_toI z rfl)
        rw [if_neg z0] at hd1
        refine gq_i hy ?_
        refine bn_c (fun c1 => ?_) (fun c1 => ?_)
        · rw [hop] at c1
          have z1 : ¬ (o n).toInt = 1 := fun z => c1 (x_toI z rfl)
          rw [if_neg z1] at hd1
          refine gq_i hy ?_
          refine bn_c (fun c9 => ?_) (fun c9 => ?_)
          · rw [hop] at c9
            have z9 : ¬ (o n).toInt = 9 := fun z => c9 (x_toI z rfl)
            rw [if_neg z9] at hd1
            have h2 : 2 ≤ top ∧ d = top - 1 := by
              split at hd1
              · split at hd1
                · rename_i q
                  cases hd1
                  exact ⟨q.1, rfl⟩
                · cases hd1
              · split at hd1
                · rename_i q
                  cases hd1
                  exact ⟨q, rfl⟩
                · cases hd1
            obtain ⟨top', rfl⟩ : ∃ k, top = k + 2 := ⟨top - 2, by omega⟩
            have e1 : x - 1 = nI (top' + 1) := by rw [ex]; exact nI_pred _
            have e2 : x - 1 - 1 = nI top' := by rw [e1]; exact nI_pred _
            refine gq_i hy ?_
            refine gq_i (x_inb e2 (by omega) (by decide)) ?_
            refine gq_i (x_inb e1 (by omega) (by decide)) ?_
            refine x_twoOf (fun c5 => ?_) (fun r => ?_)
            · rw [hop] at c5
              have z5 : (o n).toInt = 5 := by rw [c5]; rfl
              rw [if_pos z5] at hd1
              split at hd1
              · rename_i q
                obtain ⟨-, q1, q2, q3⟩ := q
                obtain ⟨p, rfl⟩ : ∃ p, n = p + 1 := ⟨n - 1, by omega⟩
                have := hpv p rfl q2
                rw [x_cl e1 (by omega)]
                rw [show top' + 2 - 1 = top' + 1 by omega] at this
                rw [this]
                exact fun z => q3 (by rw [show p + 1 - 1 = p by omega, z]; rfl)
              · cases hd1
            · refine gq_i (x_inb e2 (by omega) (by decide)) ?_
              refine ih (n + 1) d _ _ _ (by omega) (F.set _ _) hd (fun p hp z => ?_) (by rw [e1, h2.2]; rfl) (by rw [ey]; exact nI_1 _)
              rw [show p = n by omega] at z
              exact absurd z z0
          · rw [hop] at c9
            have z9 : (o n).toInt = 9 := by rw [c9]; rfl
            rw [if_pos z9] at hd1
            split at hd1
            · rename_i q
              cases hd1
              obtain ⟨top', rfl⟩ : ∃ k, top = k + 1 := ⟨top - 1, by omega⟩
              have e1 : x - 1 = nI top' := by rw [ex]; exact nI_pred _
              refine gq_i (x_inb e1 (by omega) (by decide)) ?_
              refine gq_i (x_inb e1 (by omega) (by decide)) ?_
              refine ih (n + 1) _ _ _ _ (by omega) (F.set _ _) hd (fun p hp z => ?_) ex (by rw [ey]; exact nI_1 _)
              rw [show p = n by omega] at z
              exact absurd z z0
            · cases hd1
        · rw [hop] at c1
          have z1 : (o n).toInt = 1 := by rw [c1]; rfl
          rw [if_pos z1] at hd1
          split at hd1
          · rename_i q
            cases hd1
            refine gq_i hy ?_
            refine bn_t (fun z => c0 (hop.symm.trans z)) ?_
            refine gq_i hy ?_
            refine gq_i (inb_of (by rw [har]; exact ⟨q.1, by have := q.2; omega⟩)) ?_
            refine gq_i hx ?_
            refine ih (n + 1) (top + 1) _ _ _ (by omega) (F.set _ _) hd (fun p hp z => ?_) (by rw [ex]; exact nI_1 _) (by rw [ey]; exact nI_1 _)
            rw [show p = n by omega] at z
            exact absurd z z0
          · cases hd1
  apply mq_enter 60 [33]
  refine gq_i (inb_nI hl (by decide)) ?_
  refine gq_i (inb_nI hl (by decide)) ?_
  refine bn_c (fun c => ?_) (fun c => ?_)
  · refine gq_i (inb_nI hl (by decide)) ?_
    refine key (t - f) 0 0 _ _ h (by omega) (x_f.rf _ _) rfl (fun p hp => by omega) rfl ?_
    rw [nI_clamp hl2, ef, show (400 : Int32) = nI 400 from rfl, nI_mul, nI_add]
    rfl
  · exact gq_i rfl (hq _ _ (x_f.rf _ _) (by decide) (by decide))
end XB
