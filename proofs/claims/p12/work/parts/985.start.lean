section XZ2
theorem x_start {hb : mq_H} (kb : mq_okB hb = true) (K : x_okI hb = true) (L : Nat) (xs : Nat → Int32) : ck_Iv x_X (mq_h0 hb L xs) := by
  obtain ⟨hN, hZ, hS, hI, hR⟩ := okB_facts kb
  unfold x_okI at K
  simp only [Bool.and_eq_true] at K
  obtain ⟨k1, k2, k3, k4⟩ := K
  have e0 : ∀ a, ¬ a = 0 → mq_I (mq_h0 hb L xs) a = mq_I hb a := fun a ha => by
    funext j
    exact if_neg ha
  have r14 : mq_R (mq_h0 hb L xs) 14 0 = some 16 := hR (14, 0, some 16) (by decide +kernel)
  have s14 : mq_sh (mq_h0 hb L xs) 14 = .inl 6 := hS 14 (by decide) _ (by decide +kernel)
  have s16 : mq_sh (mq_h0 hb L xs) 16 = .inr (5, 0) := hS 16 (by decide) _ (by decide +kernel)
  have v14 : mq_I (mq_h0 hb L xs) 14 1 = 0 := hI (14, 1, 0) (by decide +kernel)
  have P14 : ck_P1 (mq_h0 hb L xs) 14 := ⟨fun _ => rfl, s14, by rw [v14]; decide, 16, r14, fun _ => rfl, 0, by decide, s16, fun i hi => absurd hi (Nat.not_lt_zero i)⟩
  have B14 : x_lb (mq_h0 hb L xs) 14 := by
    refine ⟨by show 14 < mq_N hb; rw [hN]; decide, fun b e => ?_⟩
    rw [r14] at e
    have e1 : 16 = b := Option.some.inj e
    rw [← e1]
    refine ⟨by show 16 < mq_N hb; rw [hN]; decide, by decide, fun i c hi e => ?_⟩
    have z : mq_R (mq_h0 hb L xs) 16 i = none := of_decide_eq_true (List.all_eq_true.mp k4 i (List.mem_range.mpr hi))
    rw [z] at e
    cases e
  have r13 : ∀ i, i < 8 → mq_R (mq_h0 hb L xs) 13 i = some 14 := fun i hi => hR (13, i, some 14) ((by decide +kernel : ∀ k, k < 8 → (13, k, some 14) ∈ mq_rT) i hi)
  refine ⟨⟨fun a k l u e => ?_, fun a n l u e k hk => ?_⟩, fun i hi => ⟨14, r13 i hi, P14⟩, ⟨by show 100 ≤ mq_N hb; rw [hN]; exact Nat.le_refl _, fun a s e => ?_⟩, fun k hk => ?_, fun row hr i hi => ?_, ?_, fun hi => ?_, fun i hi q hq => ?_, fun b hv => ?_⟩
  · have ha := x_ivo_lt e
    have hk := x_ivo_k e
    have a0 : ¬ a = 0 := fun z => by
      rw [z] at e
      have e : (none : Option (Int × Int)) = some (l, u) := e
      cases e
    rw [e0 a a0]
    have t := List.all_eq_true.mp k1 a (List.mem_range.mpr ha)
    have t := List.all_eq_true.mp t k (List.mem_range.mpr hk)
    rw [e] at t
    exact of_decide_eq_true t
  · have ha := x_iva_lt e
    have a0 : ¬ a = 0 := fun z => by
      rw [z] at e
      have e : (none : Option (Nat × Int × Int)) = some (n, l, u) := e
      cases e
    rw [e0 a a0]
    have t := List.all_eq_true.mp k2 a (List.mem_range.mpr ha)
    rw [e] at t
    have t : ((decide (l = -2147483648) && decide (u = 2147483647)) || (List.range n).all (fun k => decide (l ≤ (mq_I hb a k).toInt ∧ (mq_I hb a k).toInt ≤ u))) = true := t
    rw [Bool.or_eq_true] at t
    rcases t with t | t
    · rw [Bool.and_eq_true] at t
      rw [of_decide_eq_true t.1, of_decide_eq_true t.2]
      exact ci_rng _
    · exact of_decide_eq_true (List.all_eq_true.mp t k (List.mem_range.mpr hk))
  · have a0 : ¬ a = 0 := fun z => by
      rw [z, mq_tS1_0] at e
      cases e
    exact (if_neg a0).trans (hS a (x_tS_lt e) s e)
  · rw [e0 81 (by decide)]
    exact of_decide_eq_true (List.all_eq_true.mp k3 k (List.mem_range.mpr hk))
  · have z : mq_I (mq_h0 hb L xs) 82 row = 0 := hI (82, row, 0) ((by decide +kernel : ∀ k, k < 8 → (82, k, (0 : Int32)) ∈ mq_iT) row hr)
    rw [z] at hi
    have z0 : (0 : Int32).toInt = 0 := rfl
    rw [z0] at hi
    omega
  · have z : mq_I (mq_h0 hb L xs) 59 9 = 0 := hI (59, 9, 0) (by decide +kernel)
    unfold x_ct
    rw [z]
    exact Nat.zero_le 6
  · have z : mq_I (mq_h0 hb L xs) 59 69 = 0 := hI (59, 69, 0) (by decide +kernel)
    rw [z] at hi
    exact absurd hi (by decide)
  · rw [r13 i hi] at hq
    have e : 14 = q := Option.some.inj hq
    rw [← e]
    exact B14
  · have z : mq_R (mq_h0 hb L xs) 4 5 = none := hR (4, 5, none) (by decide +kernel)
    rw [z] at hv
    cases hv
end XZ2
