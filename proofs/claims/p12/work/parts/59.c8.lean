/-! A NEW BOOK: its tails -/
section PC11
variable {lL : Nat} {h : mq_H} {Q : Option Value → mq_H → Prop}
theorem ok_A_of {h h' : mq_H} {a : Nat} (hs : mq_sh h' = mq_sh h) (hr : mq_R h' a = mq_R h a) (k : ok_A h a) : ok_A h' a := by
  unfold ok_A
  rw [hs, hr]
  exact k
theorem c_mkActs {a : Nat} (sa : mq_sh h a = .inl 0) (h100 : 100 ≤ a) (hN : mq_N h = a + 1) (hq : ∀ h', mq_N h' = a + 5 → mq_mod a (a + 1) 4 36 h h' → ok_A h' a → Q none h') : mq_Call mq_G (mq_tT lL) 0 [.ref a] h Q := by
  refine c_mkA0 sa h100 hN (fun h1 n1 m1 i1 k1 => ?_)
  have k1' := k1
  obtain ⟨s0, r1, s1, _⟩ := k1
  apply mq_go 40 []
  refine gq_i (by rw [s0]; rfl) ?_
  refine oq_s r1 ?_
  refine c_fillR (n := 6) (by decide) (by omega) s1 (fun h2 m2 e1 e2 e3 e4 => ?_)
  refine hq h2 (e3.trans n1) ?_ (ok_A_of e1 (congrFun e2 a) k1')
  exact mq_mod.tn m1 m2 (by omega) (by decide) (by decide)
theorem c_mkLawR {a b : Nat} (s1 : mq_sh h a = .inl 6) (sb : mq_sh h b = .inr (5, 0)) (h100 : 100 ≤ a) (hb : 100 ≤ b) (ha : a < mq_N h) (hbN : b < mq_N h) (hq : ∀ h', mq_N h' = mq_N h + 1 → mq_sh h' a = .inl 6 → mq_R h' a 0 = some (mq_N h) → mq_sh h' (mq_N h) = .inr (5, 0) → mq_mod a (a + 1) 1 0 h h' → Q none h') : mq_Call mq_G (mq_tT lL) 53 [.ref a, .ref b, .int 0] h Q := by
  have na : ¬ a = mq_N h := by omega
  have nb : ¬ mq_N h = a := by omega
  have nc : ¬ b = mq_N h := by omega
  have tn := tT_none (L := lL) h100
  have tb := tT_none (L := lL) hb
  have bq : Nat.beq b (mq_N h) = false := by
    cases e : Nat.beq b (mq_N h) with
    | false => rfl
    | true => have := Nat.eq_of_beq_eq_true e; omega
  apply mq_enter 90 []
  refine gq_i rfl ?_
  refine gq_i (by simp [mq_sh_new, na, s1, tn]; rfl) ?_
  refine gq_i (by simp [mq_sh_new, mq_sh_setR, na, s1]; rfl) ?_
  refine oq_s (q := mq_N h) (by simp [mq_R_setR]) ?_
  refine gq_i (by simp [mq_sh_new, mq_sh_setR, na, nc, sb, s1, bq]; exact ⟨rfl, rfl⟩) ?_
  refine bq_t (by decide) ?_
  refine gq_i (by simp [mq_sh_new, mq_sh_setR, mq_sh_cpR, na, s1, tn]; exact ⟨rfl, rfl⟩) ?_
  refine hq _ ?_ ?_ ?_ ?_ ?_
  · rfl
  · simp [mq_sh_setI, mq_sh_cpR, mq_sh_setR, mq_sh_new, na, s1]
  · rw [mq_R_setI, mq_R_cpR _ _ _ _ _ _ _ _ na]
    simp [mq_R_setR]
  · simp [mq_sh_setI, mq_sh_cpR, mq_sh_setR, mq_sh_new]
  · refine mq_mod.sI ?_ (Or.inl ⟨by omega, by omega⟩) _ _
    refine mq_mod.cR ?_ (Or.inr (Nat.le_refl _)) _ _ _ _
    refine mq_mod.sR ?_ (Or.inl ⟨by omega, by omega⟩) _ _
    exact mq_mod.nw (mq_mod.rf 0 0 h) _ (by decide) (by decide)
theorem ok_P_of {h h' : mq_H} {a : Nat} (hs : ∀ b, a ≤ b → b < a + 8 → mq_sh h' b = mq_sh h b) (hr : mq_R h' a = mq_R h a) (k : ok_P h a) : ok_P h' a := by
  unfold ok_P
  rw [hs a (by omega) (by omega), hs (a + 1) (by omega) (by omega), hs (a + 2) (by omega) (by omega), hs (a + 3) (by omega) (by omega), hs (a + 4) (by omega) (by omega), hs (a + 5) (by omega) (by omega), hs (a + 6) (by omega) (by omega), hs (a + 7) (by omega) (by omega), hr]
  exact k
theorem c_mkPlaces {a : Nat} (sa : mq_sh h a = .inl 8) (h100 : 100 ≤ a) (hN : mq_N h = a + 1) (hq : ∀ h', mq_N h' = a + 11 → mq_mod a (a + 1) 10 200 h h' → ok_P h' a → (∀ j, j < 8 → mq_R h' (a + 7) j = some (a + 8)) → mq_sh h' (a + 8) = .inl 6 → mq_R h' (a + 8) 0 = some (a + 10) → mq_sh h' (a + 10) = .inr (5, 0) → Q none h') : mq_Call mq_G (mq_tT lL) 55 [.ref a] h Q := by
  refine c_mkP0 sa h100 hN (fun h1 n1 m1 i1 k1 => ?_)
  apply mq_go 40 [76]
  refine gq_i rfl ?_
  obtain ⟨h2, e2⟩ : ∃ H, H = mq_new (mq_new h1 (Sum.inl 6) 2) (Sum.inr (5, 0)) 0 := ⟨_, rfl⟩
  have t8 : mq_sh h2 (a + 8) = .inl 6 := by rw [e2, mq_sh_new, mq_N_new, n1, if_neg (by omega), mq_sh_new, n1, if_pos rfl]
  have t9 : mq_sh h2 (a + 9) = .inr (5, 0) := by rw [e2, mq_sh_new, mq_N_new, n1, if_pos rfl]
  have n2 : mq_N h2 = a + 10 := by rw [e2, mq_N_new, mq_N_new, n1]
  have m2 : mq_mod a (a + 1) 2 2 h1 h2 := by
    rw [e2]
    exact mq_mod.nw (n := 1) (z := 2) (mq_mod.nw (mq_mod.rf 0 0 h1) _ (by decide) (by decide)) _ (by decide) (by decide)
  have c2 : ∀ b, b < a + 8 → mq_sh h2 b = mq_sh h1 b := fun b hb => by rw [e2, mq_sh_new, mq_N_new, n1, if_neg (by omega), mq_sh_new, n1, if_neg (by omega)]
  have d2 : ∀ b, b < a + 8 → mq_R h2 b = mq_R h1 b := fun b hb => by funext j; rw [e2, mq_R_new, mq_N_new, n1, if_neg (by omega), mq_R_new, n1, if_neg (by omega)]
  show mq_Call mq_G (mq_tT lL) 53 [.ref (mq_N h1), .ref (mq_N h1 + 1), .int 0] (mq_new (mq_new h1 (Sum.inl 6) 2) (Sum.inr (5, 0)) 0) _
  rw [← e2, n1]
  refine c_mkLawR t8 t9 (by omega) (by omega) (by omega) (by omega) (fun h3 n3 t3 r3 u3 m3 => ?_)
  rw [n2] at n3 r3 u3
  have P3 : ok_P h3 a := ok_P_of (fun b h1 h2' => by rw [(m3.2.2.2.2 b (by omega) (by omega)).1, c2 b (by omega)]) (by rw [(m3.2.2.2.2 a (by omega) (by omega)).2.2.2, d2 a (by omega)]) k1
  have key : ∀ (n k : Nat) (h' : mq_H), k + n = 8 → mq_mod (a + 7) (a + 8) 0 0 h3 h' → mq_sh h' = mq_sh h3 → (∀ j, j < k → mq_R h' (a + 7) j = some (a + 8)) → mq_At mq_G (mq_tT lL) 55 76 [some (.ref a), some (.ref (a + 8)), some (.int (nI k))] [] h' Q := by
    intro n
    induction n with
    | zero =>
      intro k h' hk hm hs hj
      have ha := hm.2.2.2.2 a (by omega) (by omega)
      have hb := hm.2.2.2.2 (a + 8) (by omega) (by omega)
      apply mq_go 40 []
      refine bq_t (by rw [show k = 8 by omega]; decide) ?_
      refine hq h' (by have := hm.1; have := hm.2.1; omega) ?_ (ok_P_of (fun b _ _ => by rw [hs]) ha.2.2.2 P3) (fun j hj' => hj j (by omega)) (by rw [hs]; exact t3) (by rw [hb.2.2.2]; exact r3) (by rw [hs]; exact u3)
      refine mq_mod.tn (n1 := 10) (z1 := 200) (mq_mod.tn (n1 := 9) (z1 := 200) (mq_mod.tr (n := 9) (z := 200) m1 m2 (by decide) (by decide)) m3 (by omega) (by decide) (by decide)) hm (by omega) (by decide) (by decide)
    | succ n ih =>
      intro k h' hk hm hs hj
      have ha := hm.2.2.2.2 a (by omega) (by omega)
      have P4 : ok_P h' a := ok_P_of (fun b _ _ => by rw [hs]) ha.2.2.2 P3
      obtain ⟨p0, _, _, _, _, _, _, _, _, _, _, _, _, p1, p2⟩ := P4
      apply mq_go 40 [76]
      refine bq_f (nI_ge (b := 8) (by omega) (by decide)) ?_
      refine gq_i (by rw [p0]; rfl) ?_
      refine oq_s p1 ?_
      refine gq_i (by rw [p2, hs, t3]; simp [mq_gA]; exact ⟨rfl, inb_nI (by omega) (by decide)⟩) ?_
      rw [clamp_nI (by omega)]
      apply Eq.mp (congrArg (fun z => mq_At mq_G (mq_tT lL) 55 76 [some (.ref a), some (.ref (a + 8)), some (.int z)] [] (mq_setR h' (a + 7) k (some (a + 8))) Q) (nI_1 k).symm)
      refine ih (k + 1) _ (by omega) (hm.sR (Or.inl ⟨by omega, by omega⟩) _ _) hs (fun j hj' => ?_)
      rw [mq_R_setR, if_pos rfl]
      by_cases e : j = k
      · rw [if_pos e]
      · rw [if_neg e]; exact hj j (by omega)
  exact key 8 0 h3 (by decide) (mq_mod.rf 0 0 h3) rfl (fun j hj => by omega)
end PC11
