/-! THE REFERENCE's codes: emits, errs, isSign, isWord; what the parser keeps -/
section XG
variable {lL : Nat} {h h' h2 : mq_H} {Q : Option Value → mq_H → Prop}
/-- what hangs on references, under writes at named places -/
theorem x_dyn (hN : mq_N h' = mq_N h) (hs : mq_sh h' = mq_sh h) (hR : mq_R h' = mq_R h) (hI : ∀ b j, ck_lc b j = 0 → mq_I h' b j = mq_I h b j) : (x_lws h → x_lws h') ∧ (x_sv h → x_sv h') ∧ (ck_IvD h → ck_IvD h') := by
  have lb : ∀ q, x_lb h q → x_lb h' q := fun q z => by unfold x_lb; rw [hN, hR]; exact z
  have P1 : ∀ q, ck_P1 h q → ck_P1 h' q := fun q z => by
    obtain ⟨z1, z2, z3, b, z4, z5, n, z6, z7, z8⟩ := z
    have dI : ∀ q, (∀ k, ck_lc q k = 0) → ∀ k, mq_I h' q k = mq_I h q k := fun q hq k => hI q k (hq k)
    refine ⟨z1, by rw [hs]; exact z2, by rw [dI q z1]; exact z3, b, by rw [hR]; exact z4, z5, n, z6, by rw [hs]; exact z7, fun i hi => ?_⟩
    obtain ⟨c, y1, y2, y3, y4, y5, d, y6, y7, m, y8, y9⟩ := z8 i hi
    exact ⟨c, by rw [hR]; exact y1, y2, by rw [hs]; exact y3, by rw [dI c y2]; exact y4, by rw [dI c y2]; exact y5, d, by rw [hR]; exact y6, y7, m, y8, by rw [hs]; exact y9⟩
  refine ⟨fun a6 i hi q hq => ?_, fun a7 b hb => ?_, fun a8 i hi => ?_⟩
  · rw [hR] at hq
    exact lb q (a6 i hi q hq)
  · rw [hR] at hb
    obtain ⟨b1, b2, b3, b4, b5⟩ := a7 b hb
    refine ⟨b1, by rw [hN]; exact b2, ?_, fun i hi => ?_, fun a g1 g2 => ?_⟩
    · unfold ok_B ok_P ok_C ok_A at b3 ⊢
      rw [hs, hR]
      exact b3
    · obtain ⟨q, q1, q2, q3⟩ := b4 i hi
      exact ⟨q, by rw [hR]; exact q1, P1 q q2, lb q q3⟩
    · have e : ∀ k, mq_I h' (b + (a - 5)) k = mq_I h (b + (a - 5)) k := fun k => hI _ _ (ck_lc_dyn (by omega) k)
      refine ⟨fun k l u z => by rw [e]; exact (b5 a g1 g2).1 k l u z, fun n l u z k hk => by rw [e]; exact (b5 a g1 g2).2 n l u z k hk⟩
  · obtain ⟨q, q1, q2⟩ := a8 i hi
    exact ⟨q, by rw [hR]; exact q1, P1 q q2⟩
/-- a write into the draft of a law -/
theorem x_setD {a k M : Nat} {x : Int32} (hak : ((a = 88 ∨ a = 89) ∧ 3200 ≤ k) ∨ ((a = 86 ∨ a = 87) ∧ 128 ≤ k ∧ 0 ≤ x.toInt ∧ x.toInt ≤ 400)) (I : ck_Iv x_X h') (md : ck_md M h h') (hM : Nat.testBit M (ck_lca 88) = true ∧ Nat.testBit M (ck_lca 89) = true ∧ ((a = 86 ∨ a = 87) → Nat.testBit M (ck_lca 86) = true ∧ Nat.testBit M (ck_lca 87) = true)) : ck_Iv x_X (mq_setI h' a k x) ∧ ck_md M h (mq_setI h' a k x) := by
  obtain ⟨I1, I2, a1, a2, a3, a4, a5, a6, a7⟩ := I
  have hlc : ck_lc a k = ck_lca a ∧ ¬ ck_lca a = 0 ∧ Nat.testBit M (ck_lca a) = true := by
    rcases hak with ⟨e | e, -⟩ | ⟨e | e, -⟩
    · subst e; exact ⟨rfl, by decide, hM.1⟩
    · subst e; exact ⟨rfl, by decide, hM.2.1⟩
    · subst e; exact ⟨rfl, by decide, (hM.2.2 (Or.inl rfl)).1⟩
    · subst e; exact ⟨rfl, by decide, (hM.2.2 (Or.inr rfl)).2⟩
  have ne : ∀ b, ¬ b = a → mq_I (mq_setI h' a k x) b = mq_I h' b := fun b hb => mq_setI_ne hb k x
  have na : ∀ b, b = 59 ∨ b = 81 ∨ b = 82 ∨ b = 71 ∨ b = 75 ∨ b = 99 → ¬ b = a := fun b hb e => by
    subst e
    rcases hak with ⟨e | e, -⟩ | ⟨e | e, -⟩ <;> subst e <;> revert hb <;> decide
  have lc0 : ∀ b j, ck_lc b j = 0 → mq_I (mq_setI h' a k x) b j = mq_I h' b j := fun b j z => ck_setI_at (fun e => by
    rw [e.1, e.2, hlc.1] at z
    exact hlc.2.1 z)
  obtain ⟨d1, d2, d3⟩ := x_dyn (h := h') (h' := mq_setI h' a k x) rfl rfl rfl lc0
  have hI : ck_IvI (mq_setI h' a k x) := I1.set (fun l u z => by
    rcases hak with ⟨e | e, -⟩ | ⟨e | e, -⟩ <;> subst e <;> cases z) (fun n l u z _ => by
    rcases hak with ⟨e | e, -⟩ | ⟨e | e, -, q⟩
    · subst e; cases z; exact ci_rng x
    · subst e; cases z; exact ci_rng x
    · subst e; cases z; exact q
    · subst e; cases z; exact q)
  refine ⟨⟨hI, d3 I2, a1, fun j hj => ?_, fun row hr i hi => ?_, ?_, fun hi => ?_, d1 a6, d2 a7⟩, md.1, md.2.1, md.2.2.1, md.2.2.2.1, fun b j e => ?_⟩
  · rw [ne _ (na _ (Or.inr (Or.inl rfl)))]
    exact a2 j hj
  · rw [ne _ (na _ (Or.inr (Or.inr (Or.inl rfl))))] at hi
    have hm := I1.2 82 9 0 16 rfl row (by omega)
    refine x_ln_cong (v := mq_I h') (ck_setI_at (fun e => ?_)) (ck_setI_at (fun e => ?_)) (I1.2 87 144 0 400 rfl _ (by omega)).2 (I1.2 86 144 0 400 rfl _ (by omega)).1 (fun j hj => ⟨ck_setI_at (fun e => ?_), ck_setI_at (fun e => ?_)⟩) (a3 row hr i hi)
    · rcases hak with ⟨q | q, z⟩ | ⟨q | q, z, -⟩ <;> omega
    · rcases hak with ⟨q | q, z⟩ | ⟨q | q, z, -⟩ <;> omega
    · rcases hak with ⟨q | q, z⟩ | ⟨q | q, z, -⟩ <;> omega
    · rcases hak with ⟨q | q, z⟩ | ⟨q | q, z, -⟩ <;> omega
  · unfold x_ct
    rw [ne 59 (na _ (Or.inl rfl)), ne 71 (na _ (Or.inr (Or.inr (Or.inr (Or.inl rfl))))), ne 75 (na _ (Or.inr (Or.inr (Or.inr (Or.inr (Or.inl rfl))))))]
    exact a4
  · rw [ne 59 (na _ (Or.inl rfl))] at hi
    have vw : x_vw (mq_setI h' a k x) = x_vw h' := by
      funext b j
      unfold x_vw
      rw [ne 99 (na _ (Or.inr (Or.inr (Or.inr (Or.inr (Or.inr rfl))))))]
    rw [vw]
    exact a5 hi
  · rw [ck_setI_at (fun q => by rw [q.1, q.2, hlc.1, hlc.2.2] at e; cases e)]
    exact md.2.2.2.2 b j e
def x_EM : Nat := 290768624077950347197707794436325376
theorem x_emits (I : ck_Iv x_X h) {c : Nat} (ec : mq_I h 59 39 = nI c) (hc : c < 400) {w v : Int32} (hq : ∀ h2, ck_Iv x_X h2 → ck_md x_EM h h2 → mq_I h2 59 39 = nI (c + 1) → (∀ k, ¬ k = 3200 + c → mq_I h2 88 k = mq_I h 88 k ∧ mq_I h2 89 k = mq_I h 89 k) → mq_I h2 88 (3200 + c) = w → mq_I h2 89 (3200 + c) = v → Q none h2) : mq_Call mq_G (mq_tT lL) 166 [.retAddr 59, .int w, .int v] h Q := by
  have e1 : (3200 : Int32) + mq_I h 59 39 = nI (3200 + c) := by rw [ec, show (3200 : Int32) = nI 3200 from rfl, nI_add]
  have hcl : ((3200 : Int32) + mq_I h 59 39).toNatClampNeg = 3200 + c := x_cl e1 (by omega)
  have K1 := x_setD (a := 88) (k := 3200 + c) (x := w) (Or.inl ⟨Or.inl rfl, by omega⟩) I (ck_md.rf x_EM h) ⟨by decide, by decide, fun z => by rcases z with z | z <;> cases z⟩
  have K2 := x_setD (a := 89) (k := 3200 + c) (x := v) (Or.inl ⟨Or.inr rfl, by omega⟩) K1.1 K1.2 ⟨by decide, by decide, fun z => by rcases z with z | z <;> cases z⟩
  have e2 : mq_I h 59 39 + 1 = nI (c + 1) := by rw [ec]; exact nI_1 _
  have K3 := x_set (a := 59) (k := 39) (x := mq_I h 59 39 + 1) K2.1 K2.2 (by decide) (show ck_wl _ x_sup (ck_lc 59 39) = true by decide) (fun l u z => by cases z; rw [e2, nI_toInt (by omega)]; omega) (fun n l u z _ => by cases z)
  apply mq_enter 60 []
  refine gq_i (x_inb e1 (by omega) (by decide)) ?_
  refine gq_i (x_inb e1 (by omega) (by decide)) ?_
  show Q none (mq_setI (mq_setI (mq_setI h 88 ((3200 : Int32) + mq_I h 59 39).toNatClampNeg w) 89 ((3200 : Int32) + mq_I h 59 39).toNatClampNeg v) 59 39 (mq_I h 59 39 + 1))
  rw [hcl]
  refine hq _ K3.1 K3.2 e2 (fun k hk => ⟨?_, ?_⟩) ?_ ?_
  · exact if_neg hk
  · exact if_neg hk
  · exact if_pos rfl
  · exact if_pos rfl
def x_ErM : Nat := 7975367974709495237422842361682067456
theorem x_errs (I : ck_Iv x_X h) {k : Int32} (hk : 0 ≤ k.toInt ∧ k.toInt ≤ 3) (hq : ∀ h2, ck_Iv x_X h2 → ck_md x_ErM h h2 → Q (some (.int (-1))) h2) : mq_Call mq_G (mq_tT lL) 163 [.retAddr 59, .int k] h Q := by
  have K1 := x_set (a := 59) (k := 43) (x := k) I (ck_md.rf x_ErM h) (by decide) (show ck_wl _ x_sup (ck_lc 59 43) = true by decide) (fun l u z => by cases z; exact ci_rng _) (fun n l u z _ => by cases z)
  have K2 := x_set (a := 59) (k := 44) (x := mq_I h 59 27) K1.1 K1.2 (by decide) (show ck_wl _ x_sup (ck_lc 59 44) = true by decide) (fun l u z => by cases z; exact ci_rng _) (fun n l u z _ => by cases z)
  apply mq_enter 60 []
  exact hq _ K2.1 K2.2
theorem x_isSign {k : Int32} (h1 : mq_I h 59 28 = 4 → mq_I h 59 29 = k → Q (some (.int 1)) h) (h0 : (mq_I h 59 28 = 4 → ¬ mq_I h 59 29 = k) → Q (some (.int 0)) h) : mq_Call mq_G (mq_tT lL) 165 [.retAddr 59, .int k] h Q := by
  apply mq_enter 60 []
  refine bn_c (fun c => ?_) (fun c => ?_)
  · exact gq_i rfl (h0 (fun z => absurd z c))
  · refine bn_c (fun c2 => ?_) (fun c2 => ?_)
    · exact gq_i rfl (h0 (fun _ => c2))
    · exact gq_i rfl (h1 c c2)
theorem x_isWord {k : Int32} (h1 : mq_I h 59 28 = 2 → mq_I h 59 29 = k → Q (some (.int 1)) h) (h0 : (mq_I h 59 28 = 2 → ¬ mq_I h 59 29 = k) → Q (some (.int 0)) h) : mq_Call mq_G (mq_tT lL) 164 [.retAddr 59, .int k] h Q := by
  apply mq_enter 60 []
  refine bn_c (fun c => ?_) (fun c => ?_)
  · exact gq_i rfl (h0 (fun z => absurd z c))
  · refine bn_c (fun c2 => ?_) (fun c2 => ?_)
    · exact gq_i rfl (h0 (fun _ => c2))
    · exact gq_i rfl (h1 c c2)
/-! what the parser keeps: codes' number c, their depth d since lf, the token's place f -/
def x_o (h : mq_H) (lf n : Nat) : Int32 := mq_I h 88 (3200 + lf + n)
def x_a (h : mq_H) (lf n : Nat) : Int32 := mq_I h 89 (3200 + lf + n)
abbrev x_GT : Type := (Nat → Int32) × (Nat → Int32)
def x_ps (G : x_GT) (h : mq_H) (T lf c d f : Nat) : Prop := mq_I h 59 39 = nI c ∧ mq_I h 59 27 = nI f ∧ (∃ s, mq_I h 59 26 = nI s ∧ f ≤ s ∧ s ≤ T ∧ (mq_I h 59 28 = 0 ∨ f < s)) ∧ (mq_I h 59 28 = 2 → 0 ≤ (mq_I h 59 29).toInt ∧ (mq_I h 59 29).toInt ≤ 28) ∧ lf ≤ c ∧ x_sc (x_o h lf) (x_a h lf) (c - lf) = some d ∧ mq_I h 59 25 = nI T ∧ ∀ k, k < 3200 + lf → mq_I h 88 k = G.1 k ∧ mq_I h 89 k = G.2 k
theorem x_ps.fr {G : x_GT} {T lf c d f : Nat} (P : x_ps G h T lf c d f) {M : Nat} (m : ck_md M h h2) (hM : Nat.beq (Nat.land M (291083001426806948089278976831258624)) 0 = true) : x_ps G h2 T lf c d f := by
  have e : ∀ i, Nat.testBit (291083001426806948089278976831258624) i = true → Nat.testBit M i = false := fun i hi => by
    have h0 : M &&& (291083001426806948089278976831258624) = 0 := Nat.eq_of_beq_eq_true hM
    have := congrArg (fun n => Nat.testBit n i) h0
    rw [Nat.testBit_and, hi, Bool.and_true, Nat.zero_testBit] at this
    exact this
  have fl : ∀ k, Nat.testBit (291083001426806948089278976831258624) (ck_lc 59 k) = true → mq_I h2 59 k = mq_I h 59 k := fun k hk => m.2.2.2.2 _ _ (e _ hk)
  have eo : x_o h2 lf = x_o h lf := by funext n; exact m.2.2.2.2 _ _ (e _ (show Nat.testBit _ (ck_lca 88) = true by decide))
  have ea : x_a h2 lf = x_a h lf := by funext n; exact m.2.2.2.2 _ _ (e _ (show Nat.testBit _ (ck_lca 89) = true by decide))
  obtain ⟨p1, p2, p3, p4, p5, p6, p7, p8⟩ := P
  unfold x_ps
  rw [fl 39 (by decide), fl 27 (by decide), fl 26 (by decide), fl 28 (by decide), fl 29 (by decide), fl 25 (by decide), eo, ea]
  exact ⟨p1, p2, p3, p4, p5, p6, p7, fun k hk => ⟨(m.2.2.2.2 88 k (e (ck_lca 88) (by decide))).trans (p8 k hk).1, (m.2.2.2.2 89 k (e (ck_lca 89) (by decide))).trans (p8 k hk).2⟩⟩
theorem x_ps.em {G : x_GT} {T lf c d d' f : Nat} (P : x_ps G h T lf c d f) (m : ck_md x_EM h h2) (ec : mq_I h2 59 39 = nI (c + 1)) (ho : ∀ k, ¬ k = 3200 + c → mq_I h2 88 k = mq_I h 88 k ∧ mq_I h2 89 k = mq_I h 89 k) (hd : x_sc (x_o h2 lf) (x_a h2 lf) (c - lf + 1) = some d') : x_ps G h2 T lf (c + 1) d' f := by
  obtain ⟨p1, p2, p3, p4, p5, p6, p7, p8⟩ := P
  have fl : ∀ k, Nat.testBit x_EM (ck_lc 59 k) = false → mq_I h2 59 k = mq_I h 59 k := fun k hk => m.2.2.2.2 _ _ hk
  unfold x_ps
  rw [fl 27 (by decide), fl 26 (by decide), fl 28 (by decide), fl 29 (by decide), fl 25 (by decide)]
  exact ⟨ec, p2, p3, p4, by omega, by rw [show c + 1 - lf = c - lf + 1 by omega]; exact hd, p7, fun k hk => ⟨(ho k (by omega)).1.trans (p8 k hk).1, (ho k (by omega)).2.trans (p8 k hk).2⟩⟩
theorem x_ps.lo {G : x_GT} {T lf c d f : Nat} (P : x_ps G h T lf c d f) (ho : ∀ k, ¬ k = 3200 + c → mq_I h2 88 k = mq_I h 88 k ∧ mq_I h2 89 k = mq_I h 89 k) : x_sc (x_o h2 lf) (x_a h2 lf) (c - lf) = some d := by
  rw [← P.2.2.2.2.2.1]
  have := P.2.2.2.2.1
  exact x_sc_cong _ (fun i hi => ⟨(ho _ (by omega)).1, (ho _ (by omega)).2⟩)
theorem x_reads2 {G : x_GT} (I : ck_Iv x_X h) {T lf c d f : Nat} (P : x_ps G h T lf c d f) (hT : T ≤ 400) (ht : ¬ mq_I h 59 28 = 0) (hq : ∀ h2 f', ck_Iv x_X h2 → ck_md x_RM h h2 → x_ps G h2 T lf c d f' → f + 1 ≤ f' → Q none h2) : mq_Call mq_G (mq_tT lL) 162 [.retAddr 59] h Q := by
  obtain ⟨p1, p2, ⟨s, p3, p4, p5, p6⟩, p7, p8, p9, p10, p11⟩ := P
  refine x_reads I p3 p10 p5 hT (fun h2 I2 m2 ⟨f', s', e1, e2, e3, e4, e5, e6, e7⟩ => ?_)
  have hfs : f < s := by rcases p6 with z | z; exact absurd z ht; exact z
  refine hq h2 f' I2 m2 ⟨(m2.2.2.2.2 _ _ (by decide)).trans p1, e1, ⟨s', e2, e4, e5, e6⟩, e7, p8, ?_, (m2.2.2.2.2 _ _ (by decide)).trans p10, fun k hk => ⟨(m2.2.2.2.2 88 k (show Nat.testBit x_RM (ck_lca 88) = false by decide)).trans (p11 k hk).1, (m2.2.2.2.2 89 k (show Nat.testBit x_RM (ck_lca 89) = false by decide)).trans (p11 k hk).2⟩⟩ (by omega)
  rw [← p9]
  exact x_sc_cong _ (fun i hi => ⟨m2.2.2.2.2 _ _ (show Nat.testBit x_RM (ck_lca 88) = false by decide), m2.2.2.2.2 _ _ (show Nat.testBit x_RM (ck_lca 89) = false by decide)⟩)
theorem x_sc_num {o a : Nat → Int32} {n d : Nat} (hs : x_sc o a n = some d) (h0 : o n = 0) : x_sc o a (n + 1) = some (d + 1) := by
  unfold x_sc
  rw [hs]
  dsimp only
  rw [if_pos (by rw [h0]; rfl)]
theorem x_sc_ask {o a : Nat → Int32} {n d : Nat} (hs : x_sc o a n = some d) (h0 : o n = 1) (ha : 0 ≤ (a n).toInt ∧ (a n).toInt ≤ 4) : x_sc o a (n + 1) = some (d + 1) := by
  unfold x_sc
  rw [hs]
  dsimp only
  rw [h0, if_neg (by decide), if_pos (by decide), if_pos ha]
theorem x_sc_not {o a : Nat → Int32} {n d : Nat} (hs : x_sc o a n = some d) (h0 : o n = 9) (hd : 1 ≤ d) : x_sc o a (n + 1) = some d := by
  unfold x_sc
  rw [hs]
  dsimp only
  rw [h0, if_neg (by decide), if_neg (by decide), if_pos (by decide), if_pos hd]
theorem x_sc_bin {o a : Nat → Int32} {n d : Nat} (hs : x_sc o a n = some d) {w : Int32} (h0 : o n = w) (hw : ¬ w.toInt = 0 ∧ ¬ w.toInt = 1 ∧ ¬ w.toInt = 9 ∧ ¬ w.toInt = 5) (hd : 2 ≤ d) : x_sc o a (n + 1) = some (d - 1) := by
  unfold x_sc
  rw [hs]
  dsimp only
  rw [h0, if_neg hw.1, if_neg hw.2.1, if_neg hw.2.2.1, if_neg hw.2.2.2, if_pos hd]
theorem x_sc_prt {o a : Nat → Int32} {n d : Nat} (hs : x_sc o a (n + 1) = some d) (h0 : o (n + 1) = 5) (h1 : o n = 0) (h2 : ¬ a n = 0) (hd : 2 ≤ d) : x_sc o a (n + 1 + 1) = some (d - 1) := by
  unfold x_sc
  rw [hs]
  dsimp only
  rw [h0, if_neg (by decide), if_neg (by decide), if_neg (by decide), if_pos (by decide), if_pos ⟨hd, by omega, by rw [show n + 1 - 1 = n by omega, h1]; rfl, fun z => h2 (by rw [show n + 1 - 1 = n by omega] at z; exact x_toI z rfl)⟩]
end XG
