/-! behind an image: what ties places together holds -/
section XN
variable {lL : Nat} {h h' h2 : mq_H} {Q : Option Value → mq_H → Prop}
theorem x_vw_eq {a k q : Nat} (e : x_pos a k = some q) : x_vw h a k = mq_I h 99 q := by
  unfold x_vw
  rw [e]
  rfl
theorem x_p82 {k : Nat} (hk : k < 8) : x_pos 82 k = some (3503 + k) := by have := xp_82 hk; rwa [nI_clamp (by omega)] at this
theorem x_p86 {k : Nat} (hk : k < 128) : x_pos 86 k = some (3514 + 5 * k) := by have := xp_86 hk; rwa [nI_clamp (by omega)] at this
theorem x_p87 {k : Nat} (hk : k < 128) : x_pos 87 k = some (3515 + 5 * k) := by have := xp_87 hk; rwa [nI_clamp (by omega)] at this
theorem x_p88 {k : Nat} (hk : k < 3200) : x_pos 88 k = some (4151 + 2 * k) := by have := xp_88 hk; rwa [nI_clamp (by omega)] at this
theorem x_p89 {k : Nat} (hk : k < 3200) : x_pos 89 k = some (4152 + 2 * k) := by have := xp_89 hk; rwa [nI_clamp (by omega)] at this
theorem x_p71 {k : Nat} (hk : k < 60) : x_pos 71 k = some (111 + 5 * k) := by have := xp_71 hk; rwa [nI_clamp (by omega)] at this
theorem x_p75 {k : Nat} (hk : k < 720) : x_pos 75 k = some (590 + 4 * k) := by have := xp_75 hk; rwa [nI_clamp (by omega)] at this
/-- the intervals of the places that an image holds -/
def x_iv (v : Nat → Nat → Int32) : Prop := ∀ a k, ¬ x_pos a k = none → (∀ l u, ck_ivo a k = some (l, u) → l ≤ (v a k).toInt ∧ (v a k).toInt ≤ u) ∧ (∀ n l u, ck_iva a = some (n, l, u) → k < n → l ≤ (v a k).toInt ∧ (v a k).toInt ≤ u)
theorem x_iv_of (I : ck_IvI h) : x_iv (mq_I h) := fun a k _ => ⟨fun l u z => I.1 a k l u z, fun n l u z hk => I.2 a n l u z k hk⟩
theorem x_tr {v v' : Nat → Nat → Int32} (hv : ∀ a k q, x_pos a k = some q → v' a k = v a k) (iv : x_iv v) : (x_lw v → x_lw v') ∧ (x_ct v → x_ct v') ∧ x_iv v' := by
  have b82 : ∀ k, k < 8 → 0 ≤ (v 82 k).toInt ∧ (v 82 k).toInt ≤ 16 := fun k hk => (iv 82 k (by rw [x_p82 hk]; exact fun z => by cases z)).2 9 0 16 rfl (by omega)
  have b86 : ∀ k, k < 128 → 0 ≤ (v 86 k).toInt ∧ (v 86 k).toInt ≤ 400 := fun k hk => (iv 86 k (by rw [x_p86 hk]; exact fun z => by cases z)).2 144 0 400 rfl (by omega)
  have b87 : ∀ k, k < 128 → 0 ≤ (v 87 k).toInt ∧ (v 87 k).toInt ≤ 400 := fun k hk => (iv 87 k (by rw [x_p87 hk]; exact fun z => by cases z)).2 144 0 400 rfl (by omega)
  have b71 : ∀ k, k < 60 → 0 ≤ (v 71 k).toInt ∧ (v 71 k).toInt ≤ 12 := fun k hk => (iv 71 k (by rw [x_p71 hk]; exact fun z => by cases z)).2 60 0 12 rfl (by omega)
  have b9 : 0 ≤ (v 59 9).toInt ∧ (v 59 9).toInt ≤ 60 := (iv 59 9 (fun z => by cases z)).1 0 60 rfl
  refine ⟨fun H row hr i hi => ?_, fun H => ?_, fun a k hk => ?_⟩
  · rw [hv _ _ _ (x_p82 hr)] at hi
    have := b82 row hr
    have l1 : 16 * row + i < 128 := by omega
    exact x_ln_cong (hv _ _ _ (x_p86 l1)) (hv _ _ _ (x_p87 l1)) (b87 _ l1).2 (b86 _ l1).1 (fun j hj => ⟨hv _ _ _ (x_p88 (by omega)), hv _ _ _ (x_p89 (by omega))⟩) (H row hr i hi)
  · unfold x_ct at H ⊢
    rw [hv 59 9 106 rfl]
    have hn := ci_cl b9.1
    rw [x_c2_cong (fc := v 71) (fd := v 75)]
    · exact H
    · intro c hc
      have hf := b71 c (by omega)
      have hfn := ci_cl hf.1
      exact ⟨hv _ _ _ (x_p71 (by omega)), fun k hk => hv _ _ _ (x_p75 (by omega))⟩
  · cases e : x_pos a k with
    | none => exact absurd e hk
    | some q =>
      rw [hv a k q e]
      exact iv a k hk
theorem x_lca_ne {a : Nat} (e : Nat.beq (ck_lca a) 0 = false) (k : Nat) : ¬ ck_lc a k = 0 := by
  unfold ck_lc
  rw [e]
  exact fun z => by rw [show ck_lca a = 0 from z] at e; cases e
theorem x_pos_lc {a k q : Nat} (e : x_pos a k = some q) : ¬ ck_lc a k = 0 := by
  rcases x_pos_cs e with ⟨e1, e2, e3⟩ | ⟨e1, e2, e3⟩ | ⟨e1, e2, e3⟩ | ⟨e1, e2, e3⟩ | ⟨e1, e2, e3⟩ | ⟨e1, e2, e3⟩ | ⟨e1, e2, e3⟩ | ⟨e1, e2, e3⟩ | ⟨e1, e2, e3⟩ | ⟨e1, e2, e3⟩ | ⟨e1, e2, e3⟩ | ⟨e1, e2, e3⟩ | ⟨e1, e2, e3⟩ | ⟨e1, e2, e3⟩ | ⟨e1, e2, e3⟩ | ⟨e1, e2, e3⟩ | ⟨e1, e2, e3⟩ | ⟨e1, e2, e3⟩ | ⟨e1, e2, e3⟩ | ⟨e1, e2, e3⟩ | ⟨e1, e2, e3⟩ | ⟨e1, e2, e3⟩ | ⟨e1, e2, e3⟩ | ⟨e1, e2, e3⟩ | ⟨e1, e2, e3⟩ | ⟨e1, e2, e3⟩ | ⟨e1, e2, e3⟩ | ⟨e1, e2, e3⟩ | ⟨e1, e2, e3⟩ | ⟨e1, e2, e3⟩ | ⟨e1, e2, e3⟩
  all_goals first
    | (subst e1 e2; decide)
    | (subst e1; exact x_lca_ne rfl k)
theorem x_st_Iv {tk : Bool} (I : ck_Iv x_X h) (hh : tk = false → (mq_I h 59 69).toInt = 1) (S : x_st h tk 10551 h2) : ck_Iv x_X h2 := by
  obtain ⟨s1, s2, s3, s4, s5, s6, s7, s8, s9, s10⟩ := S
  obtain ⟨I1, I2, a1, a2, a3, a4, a5, a6, a7⟩ := I
  -- a place that no image holds
  have un : ∀ b j, ¬ b = 99 → ¬ x_sp b j → x_pos b j = none → mq_I h2 b j = mq_I h b j := fun b j hb hs hn => by
    cases tk with
    | true => exact (s9 rfl).1 b j hb hs
    | false => exact ((s10 rfl).2 b j hb hs).2 (fun q z => by rw [hn] at z; cases z)
  -- a place that one holds
  obtain ⟨v, iv, hv, lw, ct⟩ : ∃ v : Nat → Nat → Int32, x_iv v ∧ (∀ a k q, x_pos a k = some q → mq_I h2 a k = v a k ∧ x_vw h2 a k = v a k) ∧ x_lw v ∧ x_ct v := by
    cases tk with
    | true =>
      refine ⟨mq_I h, x_iv_of I1, fun a k q e => ?_, a3, a4⟩
      obtain ⟨c1, c2, c3, c4⟩ := x_pos_c e
      refine ⟨(s9 rfl).1 a k c3 c4, ?_⟩
      rw [x_vw_eq e]
      exact (s9 rfl).2 a k q e c2
    | false =>
      obtain ⟨z1, z2, z3⟩ := a5 (hh rfl)
      refine ⟨x_vw h, z1, fun a k q e => ?_, z2, z3⟩
      obtain ⟨c1, c2, c3, c4⟩ := x_pos_c e
      rw [x_vw_eq e, x_vw_eq e]
      exact ⟨((s10 rfl).2 a k c3 c4).1 q e c2, (s10 rfl).1 q⟩
  obtain ⟨t1, t2, t3⟩ := x_tr (v' := mq_I h2) (fun a k q e => (hv a k q e).1) iv
  obtain ⟨u1, u2, u3⟩ := x_tr (v' := x_vw h2) (fun a k q e => (hv a k q e).2) iv
  have lc0 : ∀ b j, ck_lc b j = 0 → mq_I h2 b j = mq_I h b j := fun b j z => by
    have h99 : ¬ b = 99 := fun e => by subst e; exact absurd z (show ¬ ck_lca 99 = 0 by decide)
    have hs : ¬ x_sp b j := fun ⟨e1, e2⟩ => by
      subst e1
      rcases e2 with e | e | e | e <;> (subst e; revert z; decide)
    refine un b j h99 hs ?_
    cases e : x_pos b j with
    | none => rfl
    | some q => exact absurd z (x_pos_lc e)
  obtain ⟨d1, d2, d3⟩ := x_dyn s1 s3 s4 lc0
  refine ⟨⟨fun b j l u z => ?_, fun b n l u z j hj => ?_⟩, d3 I2, a1.of s1 s3, fun j hj => ?_, t1 lw, t2 ct, fun _ => ⟨u3, u1 lw, u2 ct⟩, d1 a6, d2 a7⟩
  · by_cases h99 : b = 99
    · subst h99; cases z
    · by_cases hs : x_sp b j
      · obtain ⟨e1, e2⟩ := hs
        subst e1
        rcases e2 with e | e | e | e
        · subst e; cases z; exact ci_rng _
        · subst e
          have z : some ((0 : Int), (1 : Int)) = some (l, u) := z
          cases z
          rw [s6]
          cases tk <;> decide
        · subst e
          have z : some ((0 : Int), (1 : Int)) = some (l, u) := z
          cases z
          rw [s7]
          decide
        · subst e
          have z : some ((0 : Int), (13500 : Int)) = some (l, u) := z
          cases z
          rw [s5, nI_toInt (by omega)]
          omega
      · cases e : x_pos b j with
        | none => rw [un b j h99 hs e]; exact I1.1 b j l u z
        | some q => exact (t3 b j (by rw [e]; exact fun y => by cases y)).1 l u z
  · by_cases h99 : b = 99
    · subst h99; cases z; exact ci_rng _
    · have hs : ¬ x_sp b j := fun ⟨e1, _⟩ => by subst e1; cases z
      cases e : x_pos b j with
      | none => rw [un b j h99 hs e]; exact I1.2 b n l u z j hj
      | some q => exact (t3 b j (by rw [e]; exact fun y => by cases y)).2 n l u z hj
  · rw [un 81 j (by decide) (fun z => by cases z.1) rfl]
    exact a2 j hj
/-- image of the reference -/
theorem x_mimage (I : ck_Iv x_X h) {x : Int32} (hx : x = 0 ∨ x = 1) (hq : ∀ (r : Int32) h2, ck_Iv x_X h2 → mq_N h2 = mq_N h → mq_Z h2 = mq_Z h → mq_I h2 0 = mq_I h 0 → Q (some (.int r)) h2) : mq_Call mq_G (mq_tT lL) 226 [.retAddr 59, .int x] h Q := by
  refine x_image0 hx (fun _ _ => ?_) (fun tk h2 ex hh S => ?_)
  · have K := x_set (a := 59) (k := 0) (x := 0) I (ck_md.rf (302231454903657293676544) h) (by decide) (show ck_wl _ x_sup (ck_lc 59 0) = true by decide) (fun l u z => by cases z; exact ci_rng _) (fun n l u z _ => by cases z)
    exact hq _ _ K.1 rfl rfl rfl
  · have e0 : mq_I h2 0 = mq_I h 0 := by
      obtain ⟨s1, s2, s3, s4, s5, s6, s7, s8, s9, s10⟩ := S
      funext j
      cases tk with
      | true => exact (s9 rfl).1 0 j (by decide) (fun z => by cases z.1)
      | false => exact ((s10 rfl).2 0 j (by decide) (fun z => by cases z.1)).2 (fun q z => by cases z)
    refine hq _ h2 (x_st_Iv I (fun z => ?_) S) S.1 S.2.1 e0
    have h1 := hh z
    have h2 := I.1.1 59 69 0 1 rfl
    have : ¬ (mq_I h 59 69).toInt = 0 := fun e => h1 (x_toI e rfl)
    omega
end XN
