/-! Law; rows of references written; readLine, readLaw, text -/
section XR
variable {lL : Nat} {h h' h2 : mq_H} {Q : Option Value → mq_H → Prop}
theorem c_law {a n : Nat} (sa : mq_sh h a = .inl 6) (h100 : 100 ≤ a) (ha : a < mq_N h) (hn : n ≤ 16) (el : ∀ i, i < n → ∃ c, mq_R h 37 i = some c ∧ mq_sh h c = .inl 7 ∧ c < mq_N h) (hq : ∀ h2, mq_mod a (a + 1) 1 16 h h2 → mq_N h2 = mq_N h + 1 → mq_sh h2 a = .inl 6 → mq_sh h2 (mq_N h) = .inr (5, n) → mq_R h2 a 0 = some (mq_N h) → (∀ i, i < n → mq_R h2 (mq_N h) i = mq_R h 37 i) → (∀ i, n ≤ i → mq_R h2 (mq_N h) i = none) → 0 ≤ (mq_I h2 a 1).toInt ∧ (mq_I h2 a 1).toInt ≤ 1 → Q none h2) : mq_Call mq_G (mq_tT lL) 53 [.ref a, .retAddr 37, .int (nI n)] h Q := by
  have tn := tT_none (L := lL) h100
  have na : ¬ a = mq_N h := by omega
  have bq := beq_far (show 37 < mq_N h by omega)
  have cl : (nI n).toNatClampNeg = n := nI_clamp (by omega)
  obtain ⟨g, eg⟩ : ∃ H, H = mq_cpR (mq_setR (mq_new h (.inr (5, (nI n).toNatClampNeg)) (nI n).toNatClampNeg) a 0 (some (mq_N h))) 37 (mq_N h) 0 0 n := ⟨_, rfl⟩
  have E : mq_mod a (a + 1) 1 16 h g := by
    rw [eg]
    exact ((mq_mod.nw (mq_mod.rf 0 0 h) _ (by omega) (by omega)).sR (Or.inl ⟨by omega, by omega⟩) _ _).cR (Or.inr (Nat.le_refl _)) _ _ _ _
  have gN : mq_N g = mq_N h + 1 := by rw [eg]; rfl
  have gsa : mq_sh g a = .inl 6 := by rw [eg, mq_sh_cpR, mq_sh_setR, mq_sh_new, if_neg na]; exact sa
  have gsn : mq_sh g (mq_N h) = .inr (5, n) := by rw [eg, mq_sh_cpR, mq_sh_setR, mq_sh_new, if_pos rfl, cl]
  have gra : mq_R g a 0 = some (mq_N h) := by
    rw [eg, mq_R_cpR _ _ _ _ _ _ _ _ na, mq_R_setR, if_pos rfl, if_pos rfl]
  have r37 : ∀ i, mq_R g 37 i = mq_R h 37 i := fun i => by
    rw [eg, mq_R_cpR _ _ _ _ _ _ _ _ (by omega), mq_R_setR, if_neg (by omega), mq_R_new, if_neg (by omega)]
  have rn : ∀ i, mq_R g (mq_N h) i = if i < n then mq_R h 37 i else none := fun i => by
    have e1 : mq_R g (mq_N h) i = va_cpy (mq_R (mq_setR (mq_new h (.inr (5, (nI n).toNatClampNeg)) (nI n).toNatClampNeg) a 0 (some (mq_N h))) 37) (mq_R (mq_setR (mq_new h (.inr (5, (nI n).toNatClampNeg)) (nI n).toNatClampNeg) a 0 (some (mq_N h))) (mq_N h)) 0 0 n i := by
      rw [eg]
      exact if_pos rfl
    rw [e1]
    unfold va_cpy
    by_cases hi : i < n
    · rw [if_pos ⟨Nat.zero_le _, by omega⟩, if_pos hi]
      show mq_R (mq_setR (mq_new h _ _) a 0 _) 37 (0 + (i - 0)) = _
      rw [mq_R_setR, if_neg (by omega), mq_R_new, if_neg (by omega), Nat.zero_add, Nat.sub_zero]
    · rw [if_neg (by omega), if_neg hi, mq_R_setR, if_neg (by omega), mq_R_new, if_pos rfl]
  have key : ∀ (m i : Nat) (x y : Int32), i + m = n → (x = 0 ∨ x = 1) → y = nI i → mq_At mq_G (mq_tT lL) 53 28 [some (.ref a), some (.retAddr 37), some (.int (nI n)), some (.int x), some (.int y)] [] g Q := by
    intro m
    induction m with
    | zero =>
      intro i x y hi hx ey
      have hi : i = n := by omega
      subst ey hi
      have hb : mq_bit x = true := by rcases hx with rfl | rfl <;> rfl
      apply mq_go 40 []
      refine bq_t (Int32.le_refl _) ?_
      refine gq_i (by show (mq_isO (mq_sh g a) 6 && mq_bit x) = true; rw [gsa, hb]; rfl) ?_
      refine hq _ (E.sI (Or.inl ⟨by omega, by omega⟩) _ _) gN gsa gsn gra (fun j hj => ?_) (fun j hj => ?_) ?_
      · show mq_R g (mq_N h) j = _
        rw [rn, if_pos hj]
      · show mq_R g (mq_N h) j = _
        rw [rn, if_neg (by omega)]
      · rw [mq_I_setI, if_pos rfl, if_pos rfl]
        rcases hx with rfl | rfl <;> decide
    | succ m ih =>
      intro i x y hi hx ey
      subst ey
      obtain ⟨c, e1, e2, e3⟩ := el i (by omega)
      have e2 : mq_sh g c = .inl 7 := by
        by_cases e : c = a
        · rw [e, sa] at e2; cases e2
        · rw [(E.2.2.2.2 c e3 (by omega)).1]; exact e2
      apply mq_go 60 [28]
      refine bq_f (nI_ge (by omega) (by omega)) ?_
      refine bn_c (fun _ => ?_) (fun _ => ?_)
      · exact ih (i + 1) _ _ (by omega) (Or.inr rfl) (nI_1 _)
      · refine gq_i (inb_nI (by omega) (by decide)) ?_
        refine oq_s (q := c) (by rw [nI_clamp (by omega), r37]; exact e1) ?_
        refine gq_i (by rw [e2]; rfl) ?_
        refine bn_c (fun _ => ?_) (fun _ => ?_)
        · exact ih (i + 1) _ _ (by omega) (Or.inl rfl) (nI_1 _)
        · exact ih (i + 1) _ _ (by omega) (Or.inr rfl) (nI_1 _)
  apply mq_enter 60 [28]
  refine gq_i (inb_nI (by omega) (by decide)) ?_
  refine gq_i (by show (mq_isO (mq_sh (mq_new h (.inr (5, (nI n).toNatClampNeg)) (nI n).toNatClampNeg) a) 6 && ((mq_tT lL).1 a).isNone) = true; rw [mq_sh_new, if_neg na, sa, tn]; rfl) ?_
  refine gq_i (by show mq_isO (mq_sh (mq_new h (.inr (5, (nI n).toNatClampNeg)) (nI n).toNatClampNeg) a) 6 = true; rw [mq_sh_new, if_neg na, sa]; rfl) ?_
  refine oq_s (q := mq_N h) (by rw [mq_R_setR, if_pos rfl, if_pos rfl]) ?_
  refine gq_i ?_ ?_
  · show (mq_gC (.inr (5, 16)) (mq_sh (mq_new h (.inr (5, (nI n).toNatClampNeg)) (nI n).toNatClampNeg) (mq_N h)) 5 0 0 (nI n) && ((!(Nat.beq 37 (mq_N h))) && mq_gE (mq_setR (mq_new h (.inr (5, (nI n).toNatClampNeg)) (nI n).toNatClampNeg) a 0 (some (mq_N h))) 37 0 (nI n).toNatClampNeg 7)) = true
    have g1 : mq_gC (.inr (5, 16)) (mq_sh (mq_new h (.inr (5, (nI n).toNatClampNeg)) (nI n).toNatClampNeg) (mq_N h)) 5 0 0 (nI n) = true := by
      rw [mq_sh_new, if_pos rfl, cl]
      show (Nat.beq 5 5 && (Nat.beq 5 5 && decide (0 ≤ (0 : Int32).toInt ∧ 0 ≤ (0 : Int32).toInt ∧ 0 ≤ (nI n).toInt ∧ (0 : Int32).toInt + (nI n).toInt ≤ ((16 : Nat) : Int) ∧ (0 : Int32).toInt + (nI n).toInt ≤ ((n : Nat) : Int)))) = true
      rw [nI_toInt (by omega)]
      have z : (0 : Int32).toInt = 0 := rfl
      rw [z, decide_eq_true (by omega)]
      rfl
    have g2 : mq_gE (mq_setR (mq_new h (.inr (5, (nI n).toNatClampNeg)) (nI n).toNatClampNeg) a 0 (some (mq_N h))) 37 0 (nI n).toNatClampNeg 7 = true := by
      rw [cl]
      unfold mq_gE
      rw [List.all_eq_true]
      intro i hi
      have hi := List.mem_range.mp hi
      obtain ⟨c, e1, e2, e3⟩ := el i hi
      rw [mq_R_setR, if_neg (by omega), mq_R_new, if_neg (by omega), Nat.zero_add, e1]
      show mq_isO (mq_sh (mq_new h (.inr (5, n)) n) c) 7 = true
      rw [mq_sh_new, if_neg (by omega), e2]
      rfl
    rw [g1, g2, bq]
    rfl
  · show mq_At mq_G (mq_tT lL) 53 28 [some (.ref a), some (.retAddr 37), some (.int (nI n)), some (.int 0), some (.int 0)] [] (mq_cpR (mq_setR (mq_new h (.inr (5, (nI n).toNatClampNeg)) (nI n).toNatClampNeg) a 0 (some (mq_N h))) 37 (mq_N h) 0 0 (nI n).toNatClampNeg) Q
    rw [show mq_cpR (mq_setR (mq_new h (.inr (5, (nI n).toNatClampNeg)) (nI n).toNatClampNeg) a 0 (some (mq_N h))) 37 (mq_N h) 0 0 (nI n).toNatClampNeg = g by rw [eg, cl]]
    exact key n 0 _ _ (by omega) (Or.inl rfl) rfl
/-- a reference written into the row of lines, or of laws -/
theorem x_setRs {a k w : Nat} (ha : a = 37 ∨ a = 13) (hw : w < mq_N h) (h13 : a = 13 → k < 8 → ck_P1 h w ∧ x_lb h w) (I : ck_Iv x_X h) : ck_Iv x_X (mq_setR h a k (some w)) := by
  obtain ⟨I1, I2, a1, a2, a3, a4, a5, a6, a7⟩ := I
  have s37 : mq_sh h 37 = .inr (5, 16) := a1.2 37 _ rfl
  have s13 : mq_sh h 13 = .inr (4, 8) := a1.2 13 _ rfl
  have ne : ∀ c j, ¬ c = a → mq_R (mq_setR h a k (some w)) c j = mq_R h c j := fun c j hc => by rw [mq_R_setR, if_neg hc]
  have no : ∀ q ci, mq_sh h q = .inl ci → ¬ q = a := fun q ci e z => by
    rcases ha with y | y
    · rw [z, y, s37] at e; cases e
    · rw [z, y, s13] at e; cases e
  have nb : ∀ b m, mq_sh h b = .inr (5, m) → ¬ b = 37 → ¬ b = a := fun b m e z y => by
    rcases ha with x | x
    · exact z (y.trans x)
    · rw [y, x, s13] at e; cases e
  have P1 : ∀ q, ck_P1 h q → x_lb h q → ck_P1 (mq_setR h a k (some w)) q ∧ x_lb (mq_setR h a k (some w)) q := fun q P B => by
    obtain ⟨z1, z2, z3, b, z4, z5, m, z6, z7, z8⟩ := P
    obtain ⟨b1, b2⟩ := B
    obtain ⟨c1, c2, c3⟩ := b2 b z4
    have nq := no q 6 z2
    have nbb := nb b m z7 c2
    refine ⟨⟨z1, z2, z3, b, by rw [ne _ _ nq]; exact z4, z5, m, z6, z7, fun i hi => ?_⟩, b1, fun b' e => ?_⟩
    · obtain ⟨c, y1, y2, y3, y4, y5, d, y6, y7, k', y8, y9⟩ := z8 i hi
      exact ⟨c, by rw [ne _ _ nbb]; exact y1, y2, y3, y4, y5, d, by rw [ne _ _ (no c 7 y3)]; exact y6, y7, k', y8, y9⟩
    · rw [ne _ _ nq, z4] at e
      have e0 : b = b' := Option.some.inj e
      rw [← e0]
      clear e e0
      refine ⟨c1, c2, fun i c i16 e => ?_⟩
      rw [ne _ _ nbb] at e
      obtain ⟨d1, d2⟩ := c3 i c i16 e
      refine ⟨d1, fun d e2 => ?_⟩
      rw [mq_R_setR] at e2
      by_cases q1 : c = a
      · rw [if_pos q1] at e2
        by_cases q2 : 4 = k
        · rw [if_pos q2] at e2
          have e3 : w = d := Option.some.inj e2
          rw [← e3]
          exact hw
        · rw [if_neg q2] at e2; exact d2 d e2
      · rw [if_neg q1] at e2; exact d2 d e2
  have law : ∀ i, i < 8 → ∃ q, mq_R (mq_setR h a k (some w)) 13 i = some q ∧ ck_P1 h q ∧ x_lb h q := fun i hi => by
    obtain ⟨q, q1, q2⟩ := I2 i hi
    rw [mq_R_setR]
    by_cases e : 13 = a
    · rw [if_pos e]
      by_cases e2 : i = k
      · rw [if_pos e2]
        exact ⟨w, rfl, h13 e.symm (by omega)⟩
      · rw [if_neg e2]
        exact ⟨q, q1, q2, a6 i hi q q1⟩
    · rw [if_neg e]
      exact ⟨q, q1, q2, a6 i hi q q1⟩
  refine ⟨I1, fun i hi => ?_, a1, a2, a3, a4, a5, fun i hi q hq => ?_, fun b hb => ?_⟩
  · obtain ⟨q, q1, q2, q3⟩ := law i hi
    exact ⟨q, q1, (P1 q q2 q3).1⟩
  · obtain ⟨q', q1, q2, q3⟩ := law i hi
    rw [q1] at hq
    have e : q' = q := Option.some.inj hq
    rw [← e]
    exact (P1 q' q2 q3).2
  · rw [ne 4 5 (by omega)] at hb
    obtain ⟨b1, b2, b3, b4, b5⟩ := a7 b hb
    refine ⟨b1, b2, ?_, fun i hi => ?_, b5⟩
    · have hr : ∀ c, 100 ≤ c → mq_R (mq_setR h a k (some w)) c = mq_R h c := fun c hc => by funext j; exact ne c j (by omega)
      unfold ok_B ok_P ok_C ok_A at b3 ⊢
      rw [hr b b1, hr (b + 1) (by omega), hr (b + 12) (by omega), hr (b + 25) (by omega)]
      exact b3
    · obtain ⟨q, q1, q2, q3⟩ := b4 i hi
      exact ⟨q, by rw [ne _ _ (by omega)]; exact q1, P1 q q2 q3⟩
end XR
