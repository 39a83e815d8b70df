/-! readLine, readLaw, text of the class -/
section XS
variable {lL : Nat} {h h' h2 : mq_H} {Q : Option Value → mq_H → Prop}
/-- ints of static cells change at places of M alone; what is saved stays -/
def x_cf (M : Nat) (h h2 : mq_H) : Prop := (∀ a k, a < mq_N h → Nat.testBit M (ck_lc a k) = false → mq_I h2 a k = mq_I h a k) ∧ mq_R h2 4 = mq_R h 4 ∧ mq_N h ≤ mq_N h2
theorem x_cf.rf (M : Nat) (h : mq_H) : x_cf M h h := ⟨fun _ _ _ _ => rfl, rfl, Nat.le_refl _⟩
theorem x_cf.tr {M : Nat} {h h1 h2 : mq_H} (a : x_cf M h h1) (b : x_cf M h1 h2) : x_cf M h h2 := ⟨fun c k hc e => (b.1 c k (Nat.lt_of_lt_of_le hc a.2.2) e).trans (a.1 c k hc e), b.2.1.trans a.2.1, Nat.le_trans a.2.2 b.2.2⟩
theorem x_cf.md {M M' : Nat} {h h2 : mq_H} (m : ck_md M' h h2) (hM : Nat.beq (Nat.land M' M) M' = true) : x_cf M h h2 := ⟨fun a k _ e => m.2.2.2.2 a k (ck_sub_of hM _ e), by rw [m.2.2.2.1], by rw [m.1]; exact Nat.le_refl _⟩
theorem x_cf.ext {M n z : Nat} {h h2 : mq_H} (E : mq_mod 0 0 n z h h2) (h100 : 100 ≤ mq_N h) : x_cf M h h2 := ⟨fun a k ha _ => by rw [(E.2.2.2.2 a (by omega) (by omega)).2.1], (E.2.2.2.2 4 (by omega) (by omega)).2.2.2, E.1⟩
def x_RdM : Nat := 8795958804480
def x_R1M : Nat := 8778644717568
/-- lines that are read -/
def x_lg (h : mq_H) (n : Nat) : Prop := ∀ i, i < n → ∃ c, mq_R h 37 i = some c ∧ ck_P3 h c ∧ c < mq_N h ∧ ∀ d, mq_R h c 4 = some d → d < mq_N h
theorem x_lg.md {n M : Nat} (L : x_lg h n) (m : ck_md M h h2) (b0 : Nat.testBit M 0 = false) : x_lg h2 n := fun i hi => by
  obtain ⟨c, c1, c2, c3, c4⟩ := L i hi
  exact ⟨c, by rw [m.2.2.2.1]; exact c1, c2.md m b0, by rw [m.1]; exact c3, fun d e => by rw [m.2.2.2.1] at e; rw [m.1]; exact c4 d e⟩
theorem x_P3_ext {n z c : Nat} (E : mq_mod 0 0 n z h h2) (hc : c < mq_N h) (hd : ∀ d, mq_R h c 4 = some d → d < mq_N h) (P : ck_P3 h c) : ck_P3 h2 c ∧ (∀ d, mq_R h2 c 4 = some d → d < mq_N h2) := by
  obtain ⟨y2, y3, y4, y5, d, y6, y7, k, y8, y9⟩ := P
  obtain ⟨r1, r2, -, r3⟩ := E.2.2.2.2 c hc (by omega)
  obtain ⟨s1, -, -, -⟩ := E.2.2.2.2 d (hd d y6) (by omega)
  have := E.1
  exact ⟨⟨y2, by rw [r1]; exact y3, by rw [r2]; exact y4, by rw [r2]; exact y5, d, by rw [r3]; exact y6, y7, k, y8, by rw [s1]; exact y9⟩, fun d' e => by rw [r3] at e; have := hd d' e; omega⟩
theorem x_lg.ext {n m z : Nat} (L : x_lg h n) (E : mq_mod 0 0 m z h h2) (h100 : 100 ≤ mq_N h) : x_lg h2 n := fun i hi => by
  obtain ⟨c, c1, c2, c3, c4⟩ := L i hi
  obtain ⟨p1, p2⟩ := x_P3_ext E c3 c4 c2
  exact ⟨c, by rw [(E.2.2.2.2 37 (by omega) (by omega)).2.2.2]; exact c1, p1, by have := E.1; omega, p2⟩
def x_BlM : Nat := 805306368
theorem x_setRd {k M : Nat} {x : Int32} {l u : Int} (I : ck_Iv x_X h) (hw : ck_wl M x_sup (ck_lc 35 k) = true) (b0 : Nat.testBit M 0 = false) (hi : ck_ivo 35 k = some (l, u)) (h0 : l ≤ x.toInt) (h1 : x.toInt ≤ u) : ck_Iv x_X (mq_setI h 35 k x) ∧ ck_md M h (mq_setI h 35 k x) := x_set I (ck_md.rf _ _) b0 hw (fun l' u' z => by rw [hi] at z; cases z; exact ⟨h0, h1⟩) (fun n l' u' z _ => by cases z)
theorem x_blame (I : ck_Iv x_X h) {k : Int32} (h0 : 0 ≤ k.toInt) (h3 : k.toInt ≤ 3) (hq : ∀ h2, ck_Iv x_X h2 → ck_md x_BlM h h2 → Q none h2) : mq_Call mq_G (mq_tT lL) 84 [.retAddr 35, .int k] h Q := by
  have tp := I.1.1 35 6 0 400 rfl
  have K1 := x_setRd (M := x_BlM) (k := 2) (x := k) I (by decide) (by decide) rfl h0 h3
  have K2 := x_setRd (M := x_BlM) (k := 3) (x := mq_I h 35 6) K1.1 (by decide) (by decide) rfl (by omega) (by omega)
  apply mq_enter 40 []
  refine bn_c (fun _ => ?_) (fun _ => ?_)
  · exact hq h I (ck_md.rf _ _)
  · exact hq _ K2.1 (K1.2.tr K2.2)
theorem x_rl (I : ck_Iv x_X h) {n : Nat} (hn : n ≤ 16) (en : mq_I h 35 9 = nI n) (L : x_lg h n) (hq : ∀ h2 n2, ck_Iv x_X h2 → x_cf x_RdM h h2 → mq_N h2 ≤ mq_N h + 2 → mq_Z h2 ≤ mq_Z h + 406 → n2 ≤ 16 → mq_I h2 35 9 = nI n2 → x_lg h2 n2 → Q none h2) : mq_Call mq_G (mq_tT lL) 81 [.retAddr 35] h Q := by
  have h100 : 100 ≤ mq_N h := I.2.2.1.1
  -- nothing made
  have out : ∀ (M : Nat) (h1 : mq_H), ck_Iv x_X h1 → ck_md M h h1 → Nat.beq (Nat.land M x_R1M) M = true → Nat.testBit M 0 = false → Q none h1 := fun M h1 I1 m1 hM b0 => by
    have m1' : ck_md x_R1M h h1 := m1.wd (ck_sub_of hM)
    exact hq h1 n I1 (x_cf.md m1' (by decide)) (by rw [m1.1]; omega) (by rw [m1.2.1]; omega) hn ((m1'.2.2.2.2 _ _ (by decide)).trans en) (L.md m1' (by decide))
  have k165 : ∀ (h1 : mq_H) (kd dd st so : Int32) (l5 : Option Value), ck_Iv x_X h1 → ck_md x_R1M h h1 → 0 ≤ st.toInt → st.toInt ≤ 2 → n < 16 → mq_At mq_G (mq_tT lL) 81 165 [some (.retAddr 35), some (.int kd), some (.int dd), some (.int st), some (.int so), l5] [] h1 Q := by
    intro h1 kd dd st so l5 I1 m1 st0 st2 hn16
    have N1 : 100 ≤ mq_N h1 := by rw [m1.1]; exact h100
    obtain ⟨m, em, hm, -⟩ := x_nat (n := 400) (I1.1.1 35 11 0 400 rfl).1 (I1.1.1 35 11 0 400 rfl).2
    have en1 : mq_I h1 35 9 = nI n := (m1.2.2.2.2 _ _ (by decide)).trans en
    have ar := I1.1.1 35 12 0 1 rfl
    apply mq_go 60 []
    refine bn_c (fun _ => ?_) (fun _ => ?_)
    · exact out x_R1M h1 I1 m1 (by decide) (by decide)
    · have go : ∀ (Q' : Option Value → mq_H → Prop), (∀ h2, mq_mod 0 0 1 400 h1 h2 → mq_N h2 = mq_N h1 + 1 → mq_sh h2 (mq_N h1) = .inr (0, m) → Q' (some (.ref (mq_N h1))) h2) → mq_Call mq_G (mq_tT lL) 231 [.retAddr 38, .int (mq_I h1 35 11)] h1 Q' := fun Q' H => by
        rw [em]
        exact c_copyOf hm N1 H
      refine go _ (fun h2 E2 n2 s2 => ?_)
      have cc : ∀ c k, c < 100 → mq_I h2 c k = mq_I h1 c k := fun c k hc => by rw [(E2.2.2.2.2 c (by omega) (by omega)).2.1]
      have en2 : mq_I h2 35 9 = nI n := (cc 35 9 (by omega)).trans en1
      have n100 : ¬ 35 = mq_N h2 := by omega
      have ask : mq_I (mq_new h2 (.inl 7) 6) 35 12 = mq_I h1 35 12 := by rw [mq_I_new, if_neg n100]; exact cc 35 12 (by omega)
      refine c_line (a := mq_N h2) (b := mq_N h1) (by rw [mq_sh_new, if_pos rfl]) (by omega) (by rw [ask]; exact ci_bit ar.1 ar.2) (fun h4 m4 e1 e2 e3 e4 e5 e6 => ?_)
      have E4 : mq_mod 0 0 2 406 h1 h4 := (E2.nw (.inl 7) (n' := 2) (z' := 406) (w := 6) (by omega) (by omega)).tn m4 (by omega) (by omega) (by omega)
      have N4 : mq_N h4 = mq_N h1 + 2 := by rw [e2, mq_N_new, n2]
      have I4 := x_Iv_ext E4 I1
      have sh4 : mq_sh h4 (mq_N h2) = .inl 7 := by rw [e1, mq_sh_new, if_pos rfl]
      have I5 := x_setRs (a := 37) (k := (mq_I h2 35 9).toNatClampNeg) (w := mq_N h2) (Or.inl rfl) (by omega) (fun z => by cases z) I4
      have c4 : ∀ c k, c < 100 → mq_I h4 c k = mq_I h1 c k := fun c k hc => by rw [(E4.2.2.2.2 c (by omega) (by omega)).2.1]
      have en4 : mq_I h4 35 9 + 1 = nI (n + 1) := by rw [c4 35 9 (by omega), en1]; exact nI_1 _
      have K6 := x_setRd (M := x_RdM) (k := 9) (x := mq_I h4 35 9 + 1) I5 (by decide) (by decide) rfl (by rw [en4, nI_toInt (by omega)]; omega) (by rw [en4, nI_toInt (by omega)]; omega)
      refine gq_i (by show (mq_isO (mq_sh h4 (mq_N h2)) 7 && mq_inb (mq_I h2 35 9) 16) = true; rw [sh4, x_inb en2 hn16 (by decide)]; rfl) ?_
      have cl2 : (mq_I h2 35 9).toNatClampNeg = n := x_cl en2 (by omega)
      refine hq _ (n + 1) K6.1 ?_ (by show mq_N h4 ≤ _; have := m1.1; omega) (by show mq_Z h4 ≤ _; have := m1.2.1; have := E4.2.2.2.1; omega) (by omega) en4 (fun i hi => ?_)
      · refine (x_cf.md m1 (by decide)).tr ((x_cf.ext E4 N1).tr ⟨fun a k ha e => ?_, ?_, Nat.le_refl _⟩)
        · exact (K6.2.2.2.2.2 a k e).trans rfl
        · funext j
          show mq_R (mq_setR h4 37 ((mq_I h2 35 9).toNatClampNeg) (some (mq_N h2))) 4 j = mq_R h4 4 j
          rw [mq_R_setR, if_neg (by decide)]
      · rcases Nat.lt_or_ge i n with q | q
        · obtain ⟨c, c1, c2, c3, c5⟩ := (L.md m1 (by decide)).ext E4 N1 i q
          have hc37 : ¬ c = 37 := fun z => by
            have y3 := c2.2.1
            rw [z, I4.2.2.1.2 37 _ rfl] at y3
            cases y3
          refine ⟨c, ?_, ?_, c3, fun d e => ?_⟩
          · show mq_R (mq_setR h4 37 ((mq_I h2 35 9).toNatClampNeg) (some (mq_N h2))) 37 i = some c
            rw [mq_R_setR, if_pos rfl, if_neg (by omega)]
            exact c1
          · obtain ⟨y2, y3, y4, y5, d, y6, y7, k, y8, y9⟩ := c2
            have hc35 : ¬ c = 35 := fun z => by
              have := y2 9
              rw [z] at this
              revert this
              decide
            refine ⟨y2, y3, ?_, ?_, d, ?_, y7, k, y8, y9⟩
            · rw [mq_I_setI, if_neg hc35]; exact y4
            · rw [mq_I_setI, if_neg hc35]; exact y5
            · show mq_R (mq_setR h4 37 ((mq_I h2 35 9).toNatClampNeg) (some (mq_N h2))) c 4 = some d
              rw [mq_R_setR, if_neg hc37]
              exact y6
          · have e : mq_R (mq_setR h4 37 ((mq_I h2 35 9).toNatClampNeg) (some (mq_N h2))) c 4 = some d := e
            rw [mq_R_setR, if_neg hc37] at e
            exact c5 d e
        · have hi : i = n := by omega
          have ha : ¬ mq_N h2 = 35 := by omega
          have ha37 : ¬ mq_N h2 = 37 := by omega
          refine ⟨mq_N h2, ?_, ⟨fun k => ck_lc_dyn (by omega) k, sh4, ?_, ?_, mq_N h1, ?_, fun k => ck_lc_dyn (by omega) k, m, hm, ?_⟩, by show mq_N h2 < mq_N h4; omega, fun d e => ?_⟩
          · show mq_R (mq_setR h4 37 ((mq_I h2 35 9).toNatClampNeg) (some (mq_N h2))) 37 i = some (mq_N h2)
            rw [mq_R_setR, if_pos rfl, if_pos (by omega)]
          · rw [mq_I_setI, if_neg ha]
            show 0 ≤ (mq_I h4 (mq_N h2) 2).toInt ∧ (mq_I h4 (mq_N h2) 2).toInt ≤ 2
            rw [e5]
            exact ⟨st0, st2⟩
          · rw [mq_I_setI, if_neg ha]
            show 0 ≤ (mq_I h4 (mq_N h2) 5).toInt ∧ (mq_I h4 (mq_N h2) 5).toInt ≤ 1
            rw [e6, ask]
            exact ar
          · show mq_R (mq_setR h4 37 ((mq_I h2 35 9).toNatClampNeg) (some (mq_N h2))) (mq_N h2) 4 = some (mq_N h1)
            rw [mq_R_setR, if_neg ha37]
            exact e4
          · show mq_sh h4 (mq_N h1) = _
            rw [e1, mq_sh_new, if_neg (by omega)]
            exact s2
          · have e : mq_R (mq_setR h4 37 ((mq_I h2 35 9).toNatClampNeg) (some (mq_N h2))) (mq_N h2) 4 = some d := e
            rw [mq_R_setR, if_neg ha37, e4] at e
            have e0 : mq_N h1 = d := Option.some.inj e
            show d < mq_N h4
            omega
  have k156 : ∀ (h1 : mq_H) (kd dd st so : Int32) (l5 : Option Value), ck_Iv x_X h1 → ck_md x_R1M h h1 → 0 ≤ st.toInt → st.toInt ≤ 2 → n < 16 → mq_At mq_G (mq_tT lL) 81 156 [some (.retAddr 35), some (.int kd), some (.int dd), some (.int st), some (.int so), l5] [] h1 Q := by
    intro h1 kd dd st so l5 I1 m1 st0 st2 hn16
    apply mq_go 20 [165]
    refine mq_Call.mono (kv_83 h1 _ I1 ⟨rfl, ⟨_, rfl, by decide, by decide⟩, ⟨_, rfl, by decide, by decide⟩, trivial⟩) (fun v h2 ⟨I2, m2, r, er, _, _⟩ => ?_)
    subst er
    exact k165 h2 kd dd st so l5 I2 (m1.tr (m2.wd (ck_sub_of (by decide)))) st0 st2 hn16
  have k124 : ∀ (h1 : mq_H) (kd dd st so : Int32) (l5 : Option Value), ck_Iv x_X h1 → ck_md x_R1M h h1 → 0 ≤ st.toInt → st.toInt ≤ 2 → n < 16 → mq_At mq_G (mq_tT lL) 81 124 [some (.retAddr 35), some (.int kd), some (.int dd), some (.int st), some (.int so), l5] [] h1 Q := by
    intro h1 kd dd st so l5 I1 m1 st0 st2 hn16
    apply mq_go 40 [156]
    refine bq_c (fun _ => k156 h1 kd dd st so l5 I1 m1 st0 st2 hn16) (fun _ => ?_)
    refine bn_c (fun _ => k156 h1 kd dd st so l5 I1 m1 st0 st2 hn16) (fun _ => ?_)
    refine bn_c (fun _ => k156 h1 kd dd st so l5 I1 m1 st0 st2 hn16) (fun _ => ?_)
    refine mq_Call.mono (kv_95 h1 _ I1 ⟨rfl, trivial⟩) (fun v h2 ⟨I2, m2, er⟩ => ?_)
    have er : v = none := er
    subst er
    refine mq_Call.mono (kv_85 h2 _ I2 ⟨rfl, trivial⟩) (fun v h3 ⟨I3, m3, er⟩ => ?_)
    have er : v = none := er
    subst er
    exact k156 h3 kd dd st so l5 I3 ((m1.tr (m2.wd (ck_sub_of (by decide)))).tr (m3.wd (ck_sub_of (by decide)))) st0 st2 hn16
  have bl : ∀ k : Int32, 0 ≤ k.toInt → k.toInt ≤ 3 → ∀ Q' : Option Value → mq_H → Prop, (∀ h2, Q none h2 → Q' none h2) → mq_Call mq_G (mq_tT lL) 84 [.retAddr 35, .int k] h Q' := fun k k0 k3 Q' H => x_blame I k0 k3 (fun h2 I2 m2 => H h2 (out x_BlM h2 I2 m2 (by decide) (by decide)))
  have k40 : ∀ kd : Int32, n < 16 → mq_At mq_G (mq_tT lL) 81 40 [some (.retAddr 35), some (.int kd), none, none, none, none] [] h Q := by
    intro kd hn16
    apply mq_go 60 [124]
    refine mq_Call.mono (kv_95 h _ I ⟨rfl, trivial⟩) (fun v h1 ⟨I1, m1, er⟩ => ?_)
    have er : v = none := er
    subst er
    have M1 : ck_md x_R1M h h1 := m1.wd (ck_sub_of (by decide))
    have K1 := x_setRd (M := x_R1M) (k := 11) (x := 0) I1 (by decide) (by decide) rfl (by decide) (by decide)
    have K2 := x_setRd (M := x_R1M) (k := 12) (x := 0) K1.1 (by decide) (by decide) rfl (by decide) (by decide)
    have M2 := (M1.tr K1.2).tr K2.2
    refine gq_i rfl ?_
    have days : ∀ (Q' : Option Value → mq_H → Prop), (∀ (r : Int32) h2, ck_Iv x_X h2 → ck_md x_R1M h h2 → Q' (some (.int r)) h2) → mq_Call mq_G (mq_tT lL) 82 [.retAddr 35] (mq_setI (mq_setI h1 35 11 0) 35 12 0) Q' := fun Q' H => mq_Call.mono (kv_82 _ _ K2.1 ⟨rfl, trivial⟩) (fun v h2 ⟨I2, m2, r, er, _, _⟩ => by subst er; exact H r h2 I2 (M2.tr (m2.wd (ck_sub_of (by decide)))))
    have dd : ∀ (Q' : Option Value → mq_H → Prop), (∀ (r : Int32) h2, ck_Iv x_X h2 → ck_md x_R1M h h2 → Q' (some (.int r)) h2) → mq_Call mq_G (mq_tT lL) 82 [.retAddr 35] (mq_setI (mq_setI h1 35 11 0) 35 12 0) Q' := days
    refine bq_c (fun _ => ?_) (fun _ => ?_)
    · refine dd _ (fun r h2 I2 m2 => ?_)
      refine mq_Call.mono (kv_83 h2 _ I2 ⟨rfl, ⟨_, rfl, by decide, by decide⟩, ⟨_, rfl, by decide, by decide⟩, trivial⟩) (fun v h3 ⟨I3, m3, r3, er, _, _⟩ => ?_)
      subst er
      refine mq_Call.mono (kv_83s h3 _ I3 ⟨rfl, ⟨_, rfl, by decide, by decide⟩, ⟨_, rfl, by decide, by decide⟩, trivial⟩) (fun v h4 ⟨I4, m4, r4, er, g0, g1⟩ => ?_)
      subst er
      exact k124 h4 kd r r4 _ _ I4 ((m2.tr (m3.wd (ck_sub_of (by decide)))).tr (m4.wd (ck_sub_of (by decide)))) g0 g1 hn16
    · refine bn_c (fun _ => ?_) (fun _ => ?_)
      · refine bq_c (fun _ => ?_) (fun _ => ?_)
        · exact k124 _ kd 0 0 _ _ K2.1 M2 (by decide) (by decide) hn16
        · refine mq_Call.mono (kv_83 _ _ K2.1 ⟨rfl, ⟨_, rfl, by decide, by decide⟩, ⟨_, rfl, by decide, by decide⟩, trivial⟩) (fun v h3 ⟨I3, m3, r3, er, _, _⟩ => ?_)
          subst er
          exact k124 h3 kd 0 0 _ _ I3 (M2.tr (m3.wd (ck_sub_of (by decide)))) (by decide) (by decide) hn16
      · refine dd _ (fun r h2 I2 m2 => ?_)
        refine mq_Call.mono (kv_83 h2 _ I2 ⟨rfl, ⟨_, rfl, by decide, by decide⟩, ⟨_, rfl, by decide, by decide⟩, trivial⟩) (fun v h3 ⟨I3, m3, r3, er, _, _⟩ => ?_)
        subst er
        refine mq_Call.mono (kv_83s h3 _ I3 ⟨rfl, ⟨_, rfl, by decide, by decide⟩, ⟨_, rfl, by decide, by decide⟩, trivial⟩) (fun v h4 ⟨I4, m4, r4, er, g0, g1⟩ => ?_)
        subst er
        exact k124 h4 kd r r4 _ _ I4 ((m2.tr (m3.wd (ck_sub_of (by decide)))).tr (m4.wd (ck_sub_of (by decide)))) g0 g1 hn16
  apply mq_enter 60 [40]
  refine bq_c (fun _ => ?_) (fun _ => ?_)
  · exact bl 1 (by decide) (by decide) _ (fun h2 z => z)
  · refine bq_c (fun _ => ?_) (fun _ => ?_)
    · refine bq_c (fun c => ?_) (fun _ => ?_)
      · have c : mq_I h 35 9 < nI 16 := c
        rw [en, nI_ltI (by omega) (by omega)] at c
        exact k40 _ c
      · exact bl 3 (by decide) (by decide) _ (fun h2 z => z)
    · exact bl 1 (by decide) (by decide) _ (fun h2 z => z)
end XS
