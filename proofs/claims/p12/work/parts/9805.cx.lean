/-! THE CLASS makes laws: new cells; copyOf, Line, Law -/
section XQ
variable {lL : Nat} {h h' h2 : mq_H} {Q : Option Value → mq_H → Prop}
theorem x_ivo_lt {a k : Nat} {l u : Int} (e : ck_ivo a k = some (l, u)) : a < 100 := by
  rcases Nat.lt_or_ge a 100 with q | q
  · exact q
  · exfalso
    have e1 := Nat.ble_eq_true_of_le q
    unfold ck_ivo at e
    have e2 : ck_lca a = 0 := by unfold ck_lca; rw [e1]; rfl
    rw [e2] at e
    have e : ck_ivp a k = some (l, u) := e
    unfold ck_ivp at e
    rw [e1] at e
    cases e
theorem x_iva_lt {a n : Nat} {l u : Int} (e : ck_iva a = some (n, l, u)) : a < 100 := by
  rcases Nat.lt_or_ge a 100 with q | q
  · exact q
  · exfalso
    unfold ck_iva at e
    rw [Nat.ble_eq_true_of_le q] at e
    cases e
theorem x_tS_lt {a : Nat} {s : mq_S} (e : mq_tS1 a = some s) : a < 100 := by
  rcases Nat.lt_or_ge a 100 with q | q
  · exact q
  · exfalso
    unfold mq_tS1 at e
    rw [Nat.ble_eq_true_of_le q] at e
    cases e
/-- a law's cells, new ones beside them -/
theorem x_P1_ext {n z q : Nat} (E : mq_mod 0 0 n z h h2) (B : x_lb h q) (P : ck_P1 h q) : ck_P1 h2 q ∧ x_lb h2 q := by
  have ex : ∀ a, a < mq_N h → mq_sh h2 a = mq_sh h a ∧ mq_I h2 a = mq_I h a ∧ mq_R h2 a = mq_R h a := fun a ha => by
    obtain ⟨e1, e2, -, e3⟩ := E.2.2.2.2 a ha (by omega)
    exact ⟨e1, e2, e3⟩
  obtain ⟨z1, z2, z3, b, z4, z5, m, z6, z7, z8⟩ := P
  obtain ⟨b1, b2⟩ := B
  obtain ⟨c1, c2, c3⟩ := b2 b z4
  have hN := E.1
  obtain ⟨q1, q2, q3⟩ := ex q b1
  obtain ⟨p1, p2, p3⟩ := ex b c1
  refine ⟨⟨z1, by rw [q1]; exact z2, by rw [q2]; exact z3, b, by rw [q3]; exact z4, z5, m, z6, by rw [p1]; exact z7, fun i hi => ?_⟩, by omega, fun b' e => ?_⟩
  · obtain ⟨c, y1, y2, y3, y4, y5, d, y6, y7, k, y8, y9⟩ := z8 i hi
    obtain ⟨d1, d2⟩ := c3 i c (by omega) y1
    obtain ⟨r1, r2, r3⟩ := ex c d1
    obtain ⟨s1, -⟩ := ex d (d2 d y6)
    exact ⟨c, by rw [p3]; exact y1, y2, by rw [r1]; exact y3, by rw [r2]; exact y4, by rw [r2]; exact y5, d, by rw [r3]; exact y6, y7, k, y8, by rw [s1]; exact y9⟩
  · rw [q3, z4] at e
    have e0 : b = b' := Option.some.inj e
    rw [← e0]
    clear e e0
    refine ⟨by omega, c2, fun i c i16 e => ?_⟩
    rw [p3] at e
    obtain ⟨d1, d2⟩ := c3 i c i16 e
    refine ⟨by omega, fun d' e2 => ?_⟩
    rw [(ex c d1).2.2] at e2
    have := d2 d' e2
    omega
theorem x_Iv_ext {n z : Nat} (E : mq_mod 0 0 n z h h2) (I : ck_Iv x_X h) : ck_Iv x_X h2 := by
  obtain ⟨I1, I2, a1, a2, a3, a4, a5, a6, a7⟩ := I
  have h100 := a1.1
  have hN := E.1
  have ex : ∀ a, a < mq_N h → mq_sh h2 a = mq_sh h a ∧ mq_I h2 a = mq_I h a ∧ mq_R h2 a = mq_R h a := fun a ha => by
    obtain ⟨e1, e2, -, e3⟩ := E.2.2.2.2 a ha (by omega)
    exact ⟨e1, e2, e3⟩
  have eI : ∀ a, a < 100 → mq_I h2 a = mq_I h a := fun a ha => (ex a (by omega)).2.1
  refine ⟨⟨fun a k l u e => by rw [eI a (x_ivo_lt e)]; exact I1.1 a k l u e, fun a m l u e k hk => by rw [eI a (x_iva_lt e)]; exact I1.2 a m l u e k hk⟩, fun i hi => ?_, ⟨by omega, fun a s e => by rw [(ex a (by have := x_tS_lt e; omega)).1]; exact a1.2 a s e⟩, fun k hk => by rw [eI _ (by decide)]; exact a2 k hk, fun row hr i hi => ?_, ?_, fun hi => ?_, fun i hi q hq => ?_, fun b hb => ?_⟩
  · obtain ⟨q, q1, q2⟩ := I2 i hi
    exact ⟨q, by rw [(ex 13 (by omega)).2.2]; exact q1, (x_P1_ext E (a6 i hi q q1) q2).1⟩
  · rw [eI _ (by decide)] at hi
    have := a3 row hr i hi
    unfold x_ln at this ⊢
    rw [eI 86 (by decide), eI 87 (by decide), eI 88 (by decide), eI 89 (by decide)]
    exact this
  · unfold x_ct
    rw [eI 59 (by decide), eI 71 (by decide), eI 75 (by decide)]
    exact a4
  · rw [eI 59 (by decide)] at hi
    have vw : x_vw h2 = x_vw h := by
      funext b j
      unfold x_vw
      rw [eI 99 (by decide)]
    rw [vw]
    exact a5 hi
  · rw [(ex 13 (by omega)).2.2] at hq
    obtain ⟨q', q1, q2⟩ := I2 i hi
    rw [q1] at hq
    have e : q' = q := Option.some.inj hq
    rw [← e]
    exact (x_P1_ext E (a6 i hi q' q1) q2).2
  · rw [(ex 4 (by omega)).2.2] at hb
    obtain ⟨b1, b2, b3, b4, b5⟩ := a7 b hb
    obtain ⟨k1, k2, k3, k4, k5, k6, k7⟩ := b3
    refine ⟨b1, by omega, ⟨by rw [(ex b (by omega)).1]; exact k1, by rw [(ex b (by omega)).2.2]; exact k2, by rw [(ex b (by omega)).2.2]; exact k3, by rw [(ex b (by omega)).2.2]; exact k4, ok_P_fr E (by omega) (Or.inr (by omega)) k5, ok_C_fr E (by omega) (Or.inr (by omega)) k6, ok_A_fr E (by omega) (Or.inr (by omega)) k7⟩, fun i hi => ?_, fun a g1 g2 => ?_⟩
    · obtain ⟨q, q1, q2, q3⟩ := b4 i hi
      obtain ⟨e1, e2⟩ := x_P1_ext E q3 q2
      exact ⟨q, by rw [(ex (b + 8) (by omega)).2.2]; exact q1, e1, e2⟩
    · rw [(ex (b + (a - 5)) (by omega)).2.1]
      exact b5 a g1 g2
theorem c_copyOf {m : Nat} (hm : m ≤ 400) (hN : 100 ≤ mq_N h) (hq : ∀ h2, mq_mod 0 0 1 400 h h2 → mq_N h2 = mq_N h + 1 → mq_sh h2 (mq_N h) = .inr (0, m) → Q (some (.ref (mq_N h))) h2) : mq_Call mq_G (mq_tT lL) 231 [.retAddr 38, .int (nI m)] h Q := by
  have bq := beq_far (show 38 < mq_N h by omega)
  apply mq_enter 40 []
  refine gq_i rfl ?_
  refine bn_c (fun ne => ?_) (fun eq => ?_)
  · have ne : ¬ nI m = nI 400 := ne
    have hm2 : m < 400 := by
      rcases Nat.lt_or_ge m 400 with q | q
      · exact q
      · exact absurd (by rw [show m = 400 by omega]) ne
    have cl : (nI m).toNatClampNeg = m := nI_clamp (by omega)
    have mn : (if nI m < nI 400 then nI m else nI 400) = nI m := if_pos (nI_lt hm2 (by omega))
    refine gq_i (inb_nI (by omega) (by decide)) ?_
    refine gq_i rfl ?_
    have gd : mq_gC (.inr (0, 400)) (mq_sh (mq_new h (.inr (0, (nI m).toNatClampNeg)) (nI m).toNatClampNeg) (mq_N h)) 0 0 0 (if nI m < nI 400 then nI m else nI 400) = true := by
      rw [mq_sh_new, if_pos rfl, cl, mn]
      show (Nat.beq 0 0 && (Nat.beq 0 0 && decide (0 ≤ (0 : Int32).toInt ∧ 0 ≤ (0 : Int32).toInt ∧ 0 ≤ (nI m).toInt ∧ (0 : Int32).toInt + (nI m).toInt ≤ ((400 : Nat) : Int) ∧ (0 : Int32).toInt + (nI m).toInt ≤ ((m : Nat) : Int)))) = true
      rw [nI_toInt (by omega)]
      have z : (0 : Int32).toInt = 0 := rfl
      rw [z, decide_eq_true (by omega)]
      rfl
    refine gq_i (by show (mq_gC (.inr (0, 400)) (mq_sh (mq_new h (.inr (0, (nI m).toNatClampNeg)) (nI m).toNatClampNeg) (mq_N h)) 0 0 0 (if nI m < nI 400 then nI m else nI 400) && !(Nat.beq 38 (mq_N h))) = true; rw [gd, bq]; rfl) ?_
    refine hq _ ?_ rfl ?_
    · exact (mq_mod.nw (mq_mod.rf 0 0 h) _ (by omega) (by omega)).cI (Or.inr (Nat.le_refl _)) _ _ _ _
    · show mq_sh (mq_new h (.inr (0, (nI m).toNatClampNeg)) (nI m).toNatClampNeg) (mq_N h) = _
      rw [mq_sh_new, if_pos rfl, cl]
  · have eq : nI m = nI 400 := eq
    rw [nI_eq (by omega) (by omega)] at eq
    subst eq
    refine gq_i (by show mq_s0 (mq_sh (mq_new h (.inr (0, 400)) 400) (mq_N h)) = true; rw [mq_sh_new, if_pos rfl]; rfl) ?_
    refine hq _ ?_ rfl ?_
    · exact (mq_mod.nw (mq_mod.rf 0 0 h) _ (by omega) (by omega)).cI (Or.inr (Nat.le_refl _)) _ _ _ _
    · show mq_sh (mq_new h (.inr (0, 400)) 400) (mq_N h) = _
      rw [mq_sh_new, if_pos rfl]
theorem c_line {a b : Nat} (sa : mq_sh h a = .inl 7) (h100 : 100 ≤ a) {k d s so k5 : Int32} (hk5 : mq_bit k5 = true) (hq : ∀ h2, mq_mod a (a + 1) 0 0 h h2 → mq_sh h2 = mq_sh h → mq_N h2 = mq_N h → (∀ c, ¬ c = a → mq_R h2 c = mq_R h c) → mq_R h2 a 4 = some b → mq_I h2 a 2 = s → mq_I h2 a 5 = k5 → Q none h2) : mq_Call mq_G (mq_tT lL) 54 [.ref a, .int k, .int d, .int s, .int so, .ref b, .int k5] h Q := by
  have tn := tT_none (L := lL) h100
  have g1 : mq_isO (mq_sh h a) 7 = true := by rw [sa]; rfl
  have ar : a ≤ a ∧ a < a + 1 := ⟨Nat.le_refl _, by omega⟩
  apply mq_enter 60 []
  refine gq_i g1 ?_
  refine gq_i g1 ?_
  refine gq_i g1 ?_
  refine gq_i g1 ?_
  refine gq_i (by show (mq_isO (mq_sh h a) 7 && ((mq_tT lL).1 a).isNone) = true; rw [g1, tn]; rfl) ?_
  refine gq_i (by show (mq_isO (mq_sh h a) 7 && mq_bit k5) = true; rw [g1, hk5]; rfl) ?_
  refine hq _ ((((((mq_mod.rf 0 0 h).sI (Or.inl ar) 0 k).sI (Or.inl ar) 1 d).sI (Or.inl ar) 2 s).sI (Or.inl ar) 3 so).sR (Or.inl ar) 4 (some b) |>.sI (Or.inl ar) 5 k5) rfl rfl (fun c hc => ?_) ?_ ?_ ?_
  · funext j
    exact if_neg hc
  · show (if a = a then (if 4 = 4 then some b else _) else _) = _
    rw [if_pos rfl, if_pos rfl]
  · show (if a = a then (if 2 = 5 then _ else (if a = a then (if 2 = 3 then _ else (if a = a then (if 2 = 2 then s else _) else _)) else _)) else _) = _
    rw [if_pos rfl, if_neg (by decide), if_pos rfl, if_neg (by decide), if_pos rfl, if_pos rfl]
  · show (if a = a then (if 5 = 5 then k5 else _) else _) = _
    rw [if_pos rfl, if_pos rfl]
end XQ
