/-! the class: readBehind, readCondition run the automaton -/
section ZH
variable {lL : Nat} {h h1 h2 : mq_H} {Q : Option Value → mq_H → Prop} {b : Nat → Int} {n : Nat}
section
variable {r z : Bool} {S : List Bool} {c : Nat} {k : Int}
theorem z_s0o (hk : k = 279 ∨ k = 40) (h8 : ¬ 8 ≤ S.length) : z_st (0, r, S, c) k z = .inr (.inr (.inl (0, r, decide (k = 40) :: S, c))) := by
  show (if k = 279 ∨ k = 40 then _ else _) = _
  rw [if_pos hk, if_neg h8]
theorem z_s0f (hk : k = 279 ∨ k = 40) (h8 : 8 ≤ S.length) : z_st (0, r, S, c) k z = .inl 3 := by
  show (if k = 279 ∨ k = 40 then _ else _) = _
  rw [if_pos hk, if_pos h8]
theorem z_s0q (hk : ¬ (k = 279 ∨ k = 40)) : z_st (0, r, S, c) k z = .inr (.inr (.inr (1, false, S, c))) := if_neg hk
theorem z_s1o (hk : k = 2 ∨ (280 ≤ k ∧ k ≤ 284)) : z_st (1, r, S, c) k z = .inr (.inr (.inl (bif r then 4 else 3, r, S, c))) := if_pos hk
theorem z_s1f (hk : ¬ (k = 2 ∨ (280 ≤ k ∧ k ≤ 284))) : z_st (1, r, S, c) k z = .inl 1 := if_neg hk
theorem z_s2o (hk : k = 2) (hz : z = false) : z_st (2, r, S, c) k z = .inr (.inr (.inl (bif r then 4 else 3, r, S, c))) := by
  subst hz
  exact if_pos hk
theorem z_s2z (hk : k = 2) (hz : z = true) : z_st (2, r, S, c) k z = .inl 2 := by
  subst hz
  exact if_pos hk
theorem z_s2f (hk : ¬ k = 2) : z_st (2, r, S, c) k z = .inl 1 := if_neg hk
theorem z_s3a (hk : k = 42 ∨ k = 47 ∨ k = 43 ∨ k = 45) : z_st (3, r, S, c) k z = .inr (.inr (.inl (if k = 47 then 2 else 1, r, S, c))) := if_pos hk
theorem z_s3c (hk : k = 60 ∨ k = 61 ∨ k = 62) : z_st (3, r, S, c) k z = .inr (.inr (.inl (1, true, S, c))) := by
  show (if k = 42 ∨ k = 47 ∨ k = 43 ∨ k = 45 then _ else _) = _
  rw [if_neg (by omega), if_pos hk]
theorem z_s3f (ha : ¬ (k = 42 ∨ k = 47 ∨ k = 43 ∨ k = 45)) (hk : ¬ (k = 60 ∨ k = 61 ∨ k = 62)) : z_st (3, r, S, c) k z = .inl 1 := by
  show (if k = 42 ∨ k = 47 ∨ k = 43 ∨ k = 45 then _ else _) = _
  rw [if_neg ha, if_neg hk]
theorem z_s4a (hk : k = 42 ∨ k = 47 ∨ k = 43 ∨ k = 45) : z_st (4, r, S, c) k z = .inr (.inr (.inl (if k = 47 then 2 else 1, r, S, c))) := if_pos hk
theorem z_s4n (hk : ¬ (k = 42 ∨ k = 47 ∨ k = 43 ∨ k = 45)) : z_st (4, r, S, c) k z = .inr (.inr (.inr (5, r, S, c))) := if_neg hk
theorem z_s5a (hk : k = 277 ∨ k = 278) : z_st (5, r, S, c) k z = .inr (.inr (.inl (0, false, z_dn S, c))) := if_pos hk
theorem z_s5c (hk : k = 41) (hb : 0 < z_br S) : z_st (5, r, S, c) k z = .inr (.inr (.inl (5, r, (z_dn S).tail, c))) := by
  show (if k = 277 ∨ k = 278 then _ else _) = _
  rw [if_neg (by omega), if_pos ⟨hk, hb⟩]
theorem z_s5f (ha : ¬ (k = 277 ∨ k = 278)) (hk : ¬ k = 41) (hb : 0 < z_br S) : z_st (5, r, S, c) k z = .inl 1 := by
  show (if k = 277 ∨ k = 278 then _ else _) = _
  rw [if_neg ha, if_neg (fun w => hk w.1), if_pos hb]
theorem z_s5e (ha : ¬ (k = 277 ∨ k = 278)) (hb : ¬ 0 < z_br S) : z_st (5, r, S, c) k z = .inr (.inr (.inr (27, false, [], c))) := by
  show (if k = 277 ∨ k = 278 then _ else _) = _
  rw [if_neg ha, if_neg (fun w => hb w.2), if_neg hb]
end
theorem z_lv5 (k : Int) : 5 ≤ z_lv k ↔ (k = 42 ∨ k = 47 ∨ k = 43 ∨ k = 45) := by
  unfold z_lv
  repeat' split
  all_goals omega
theorem z_lv4 (k : Int) : z_lv k = 4 ↔ (k = 60 ∨ k = 61 ∨ k = 62) := by
  unfold z_lv
  repeat' split
  all_goals omega
def z_PB (b : Nat → Int) (n : Nat) (h : mq_H) (t : z_T) (m : Nat) (r : Bool) (l : List Int) (c : Nat) (v : Option Value) (h2 : mq_H) : Prop := z_fw h h2 ∧ ((∃ m' r' l', v = some (.int (nI m')) ∧ m' ≤ 5 ∧ z_CT h2 t ∧ mq_I h2 35 17 = z_bt r' ∧ mq_I h2 35 2 = 0 ∧ z_CS h2 l' ∧ (m' = 0 → z_lvt l' ≤ 3 ∧ r' = false) ∧ ¬ t.1 = 0 ∧ ∀ t', z_LX b n t.2.2.2 t' → z_K b n (m, r, z_sb l, c) t (m', r', z_sb l', c) t') ∨ (v = some (.int 6) ∧ z_CT h2 t ∧ mq_I h2 35 2 = 0 ∧ z_K b n (m, r, z_sb l, c) t (27, false, [], c) t) ∨ (v = some (.int 6) ∧ ∃ e, mq_I h2 35 2 = nI e ∧ ¬ e = 0 ∧ e < 10 ∧ mq_I h2 35 3 = nI t.2.2.1 ∧ z_AR b n (m, r, z_sb l, c) t (.inl (e, t.2.2.1))))
theorem z_behind {t : z_T} {m : Nat} {r : Bool} {l : List Int} {c : Nat} (CT : z_CT h t) (C : z_CS h l) (f0 : mq_I h 35 2 = 0) (er : mq_I h 35 17 = z_bt r) (hm : m = 3 ∨ m = 4 ∨ m = 5) (N : Nat) : mq_PC mq_G (mq_tT lL) N 88 [.retAddr 35, .int (nI m)] h (z_PB b n h t m r l c) := by
  have ct := CT.1
  have br := z_br_le (z_sb l)
  have h8 := C.2.2.2.2.2
  have cb := C.2.2.2.2.1
  have kk : ∀ {a : Int32} {x : Int}, a.toInt = x → (mq_I h 35 4 = a ↔ t.1 = x) := fun {a x} ha => ⟨fun z => by rw [← ct, z]; exact ha, fun z => x_toI (ct.trans z) ha⟩
  -- a joint
  have jn : ∀ (v : Int32) (l' : List Int), v.toInt = z_lv t.1 → ¬ t.1 = 40 → ¬ t.1 = 279 → 1 ≤ z_lv t.1 → l' = t.1 :: z_sp (z_lv t.1) l → ∀ N (Q' : Option Value → mq_H → Prop), (∀ h2, z_fs h h2 → z_CS h2 l' → Q' none h2) → mq_PC mq_G (mq_tT lL) N 89 [.retAddr 35, .int (mq_I h 35 4), .int v] h Q' := fun v l' hv n4 n9 hl el N Q' hq => by
    refine mq_PC.mono (z_join (k := mq_I h 35 4) (by rw [ct]; exact hv) (by rw [ct]; exact n4) (by rw [ct]; exact n9) (by rw [ct]; exact hl) C N) (fun r h2 ⟨er, F, C2⟩ => ?_)
    subst er
    rw [ct] at C2
    exact hq h2 F (by rw [el]; exact C2)
  have fs0 : ∀ {h2}, z_fs h h2 → mq_I h2 35 2 = 0 ∧ mq_I h2 35 17 = z_bt r := fun F => ⟨(F _ _ (by decide) (by decide) (by omega)).trans f0, (F _ _ (by decide) (by decide) (by omega)).trans er⟩
  -- arithmetic
  have ar : ∀ (N : Nat) (v : Int32) (l4 : Option Value), (m = 3 ∨ m = 4) → v.toInt = z_lv t.1 → 5 ≤ z_lv t.1 → mq_Pn mq_G (mq_tT lL) N 88 32 [some (.retAddr 35), some (.int (nI m)), some (.int (mq_I h 35 4)), some (.int v), l4] [] h (z_PB b n h t m r l c) := by
    intro N v l4 hm hv h5
    have ha := (z_lv5 t.1).mp h5
    refine (mq_gl (n := N) 60 [] ?_).dn (by omega)
    refine jn v _ hv (by omega) (by omega) (by omega) rfl N _ (fun h2 F C2 => ?_)
    have sb : z_sb (t.1 :: z_sp (z_lv t.1) l) = z_sb l := by rw [z_sb_o (by omega) (by omega), z_sp_sb4 (by omega)]
    have go : ∀ m', m' = (if t.1 = 47 then 2 else 1) → z_PB b n h t m r l c (some (.int (nI m'))) h2 := fun m' em => by
      refine ⟨F.fw, Or.inl ⟨m', r, _, rfl, by rw [em]; split <;> omega, CT.fs F, (fs0 F).2, (fs0 F).1, C2, fun z => ?_, by omega, fun t' lx => ?_⟩⟩
      · rw [em] at z
        split at z <;> omega
      · rw [sb, em]
        rcases hm with e | e
        · rw [e]
          exact z_nx (z_s3a ha) lx
        · rw [e]
          exact z_nx (z_s4a ha) lx
    refine bn_c (fun ne => ?_) (fun eq => ?_)
    · have ne : ¬ t.1 = 47 := fun z => ne ((kk (a := 47) rfl).mpr z)
      exact go 1 (by rw [if_neg ne])
    · have eq : t.1 = 47 := (kk (a := 47) rfl).mp eq
      exact go 2 (by rw [if_pos eq])
  have bad : ∀ {h2 : mq_H}, h2 = mq_setI (mq_setI h 35 2 1) 35 3 (mq_I h 35 6) → z_AR b n (m, r, z_sb l, c) t (.inl (1, t.2.2.1)) → z_PB b n h t m r l c (some (.int 6)) h2 := fun {h2} eh A => by
    subst eh
    exact ⟨z_fw.bl (by decide) h, Or.inr (Or.inr ⟨rfl, 1, rfl, by decide, by decide, CT.2.1, A⟩)⟩
  -- behind a comparison that is complete, or a bracket
  have k73 : ∀ (N : Nat) (v : Int32), (m = 4 ∨ m = 5) → v.toInt = z_lv t.1 → z_K b n (m, r, z_sb l, c) t (5, r, z_sb l, c) t → mq_Pn mq_G (mq_tT lL) N 88 73 [some (.retAddr 35), some (.int (nI m)), some (.int (mq_I h 35 4)), some (.int v), some (.int 1)] [] h (z_PB b n h t m r l c) := by
    intro N v hm hv K5
    have k129 : ¬ (t.1 = 277 ∨ t.1 = 278) → (t.1 = 41 → ¬ 0 < z_br (z_sb l)) → mq_Pn mq_G (mq_tT lL) N 88 129 [some (.retAddr 35), some (.int (nI m)), some (.int (mq_I h 35 4)), some (.int v), some (.int 1)] [] h (z_PB b n h t m r l c) := by
      intro na nc
      refine (mq_gl (n := N) 60 [] ?_).dn (by omega)
      refine bq_f (by decide) ?_
      refine bq_c (fun g => ?_) (fun g => ?_)
      · have g : mq_I h 35 16 ≤ 0 := g
        rw [cb, le_i, nI_toInt (by omega)] at g
        have g : (z_br (z_sb l) : Int) ≤ 0 := g
        refine mq_PC.mono (z_settle (v := 1) (by decide) C N) (fun q h2 ⟨eq, F, C2⟩ => ?_)
        subst eq
        exact ⟨F.fw, Or.inr (Or.inl ⟨rfl, CT.fs F, (fs0 F).1, K5.tr (z_sy (z_s5e na (by omega)))⟩)⟩
      · have g : ¬ mq_I h 35 16 ≤ 0 := g
        rw [cb, le_i, nI_toInt (by omega)] at g
        have g : ¬ (z_br (z_sb l) : Int) ≤ 0 := g
        refine mq_PC.mono (z_blame f0 N) (fun q h2 ⟨eq, eh⟩ => ?_)
        subst eq
        exact bad eh (K5 _ (z_ft (z_s5f na (fun z => nc z (by omega)) (by omega))))
    have k105 : ¬ (t.1 = 277 ∨ t.1 = 278) → mq_Pn mq_G (mq_tT lL) N 88 105 [some (.retAddr 35), some (.int (nI m)), some (.int (mq_I h 35 4)), some (.int v), some (.int 1)] [] h (z_PB b n h t m r l c) := by
      intro na
      refine (mq_gl (n := N) 60 [129] ?_).dn (by omega)
      refine bn_c (fun ne => ?_) (fun eq => ?_)
      · exact k129 na (fun z => absurd ((kk (a := 41) rfl).mpr z) ne)
      · have eq : t.1 = 41 := (kk (a := 41) rfl).mp eq
        refine bq_f (by decide) ?_
        refine bq_c (fun g => ?_) (fun g => ?_)
        · have g : mq_I h 35 16 ≤ 0 := g
          rw [cb, le_i, nI_toInt (by omega)] at g
          have g : (z_br (z_sb l) : Int) ≤ 0 := g
          exact k129 na (fun _ => by omega)
        · have g : ¬ mq_I h 35 16 ≤ 0 := g
          rw [cb, le_i, nI_toInt (by omega)] at g
          have g : ¬ (z_br (z_sb l) : Int) ≤ 0 := g
          refine mq_PC.mono (z_close C (by omega) N) (fun q h2 ⟨eq2, F, l2, C2, s2⟩ => ?_)
          subst eq2
          refine ⟨F.fw, Or.inl ⟨5, r, l2, rfl, by decide, CT.fs F, (fs0 F).2, (fs0 F).1, C2, fun z => absurd z (by decide), by omega, fun t' lx => ?_⟩⟩
          rw [s2]
          exact K5.tr (z_nx (z_s5c eq (by omega)) lx)
    have k87 : (t.1 = 277 ∨ t.1 = 278) → mq_Pn mq_G (mq_tT lL) N 88 87 [some (.retAddr 35), some (.int (nI m)), some (.int (mq_I h 35 4)), some (.int v), some (.int 1)] [] h (z_PB b n h t m r l c) := by
      intro ha
      have lv : z_lv t.1 = 1 ∨ z_lv t.1 = 2 := by
        rcases ha with e | e
        · rw [e]; exact Or.inl (by decide)
        · rw [e]; exact Or.inr (by decide)
      refine (mq_gl (n := N) 60 [] ?_).dn (by omega)
      refine bq_f (by decide) ?_
      refine jn v _ hv (by omega) (by omega) (by omega) rfl N _ (fun h2 F C2 => ?_)
      have sb : z_sb (t.1 :: z_sp (z_lv t.1) l) = z_dn (z_sb l) := by rw [z_sb_o (by omega) (by omega), z_sp_dn lv l C.1]
      intro _
      refine ⟨F.fw.st (by decide), Or.inl ⟨0, false, _, rfl, by decide, (show z_CT h2 t from CT.fs F), rfl, (fs0 F).1, C2.em (h2 := mq_setI h2 35 17 0) (fun _ => rfl) rfl rfl rfl, fun _ => ⟨?_, rfl⟩, by omega, fun t' lx => ?_⟩⟩
      · show z_lv t.1 ≤ 3
        omega
      · rw [sb]
        exact K5.tr (z_nx (z_s5a ha) lx)
    refine (mq_gl (n := N) 60 [87, 105] ?_).dn (by omega)
    refine bq_c (fun e => ?_) (fun e => ?_)
    · exact k87 (Or.inr ((kk (a := 278) rfl).mp e))
    · refine bn_c (fun e2 => ?_) (fun e2 => ?_)
      · exact k105 (fun z => by
          rcases z with z | z
          · exact e2 ((kk (a := 277) rfl).mpr z)
          · exact e ((kk (a := 278) rfl).mpr z))
      · exact k87 (Or.inl ((kk (a := 277) rfl).mp e2))
  revert N
  rcases hm with rfl | rfl | rfl
  · refine mq_el_in 60 [32, 73, 129] (fun N => ?_)
    refine mq_Call.pc (z_lev (fun v hv => ?_)) N
    rw [ct] at hv
    refine bq_t rfl ?_
    have k129 : ¬ (t.1 = 42 ∨ t.1 = 47 ∨ t.1 = 43 ∨ t.1 = 45) → ¬ (t.1 = 60 ∨ t.1 = 61 ∨ t.1 = 62) → mq_Pn mq_G (mq_tT lL) N 88 129 [some (.retAddr 35), some (.int (nI 3)), some (.int (mq_I h 35 4)), some (.int v), some (.int 0)] [] h (z_PB b n h t 3 r l c) := by
      intro na nc
      refine (mq_gl (n := N) 60 [] ?_).dn (by omega)
      refine bq_t rfl ?_
      refine mq_PC.mono (z_blame f0 N) (fun q h2 ⟨eq, eh⟩ => ?_)
      subst eq
      exact bad eh (z_ft (z_s3f na nc))
    have k73' : ¬ (t.1 = 42 ∨ t.1 = 47 ∨ t.1 = 43 ∨ t.1 = 45) → ¬ (t.1 = 60 ∨ t.1 = 61 ∨ t.1 = 62) → mq_Pn mq_G (mq_tT lL) N 88 73 [some (.retAddr 35), some (.int (nI 3)), some (.int (mq_I h 35 4)), some (.int v), some (.int 0)] [] h (z_PB b n h t 3 r l c) := by
      intro na nc
      have k105 : mq_Pn mq_G (mq_tT lL) N 88 105 [some (.retAddr 35), some (.int (nI 3)), some (.int (mq_I h 35 4)), some (.int v), some (.int 0)] [] h (z_PB b n h t 3 r l c) := by
        refine (mq_gl (n := N) 60 [129] ?_).dn (by omega)
        exact bn_c (fun _ => k129 na nc) (fun _ => bq_t rfl (k129 na nc))
      refine (mq_gl (n := N) 60 [105] ?_).dn (by omega)
      exact bq_c (fun _ => bq_t rfl k105) (fun _ => bn_c (fun _ => k105) (fun _ => bq_t rfl k105))
    refine bq_c (fun g => ?_) (fun g => ?_)
    · rw [lt_i, hv] at g
      have g : z_lv t.1 < 5 := g
      have na : ¬ (t.1 = 42 ∨ t.1 = 47 ∨ t.1 = 43 ∨ t.1 = 45) := fun z => by have := (z_lv5 t.1).mpr z; omega
      refine bn_c (fun n4 => ?_) (fun e4 => ?_)
      · have n4 : ¬ z_lv t.1 = 4 := fun z => n4 (x_toI (hv.trans z) rfl)
        exact k73' na (fun z => n4 ((z_lv4 t.1).mpr z))
      · have e4 : z_lv t.1 = 4 := by rw [← hv]; exact y_eq e4 rfl
        have hc := (z_lv4 t.1).mp e4
        refine bn_f rfl ?_
        refine jn v _ hv (by omega) (by omega) (by omega) rfl N _ (fun h2 F C2 => ?_)
        have sb : z_sb (t.1 :: z_sp (z_lv t.1) l) = z_sb l := by rw [z_sb_o (by omega) (by omega), z_sp_sb4 (by omega)]
        intro _
        refine ⟨F.fw.st (by decide), Or.inl ⟨1, true, _, rfl, by decide, (show z_CT h2 t from CT.fs F), rfl, (fs0 F).1, C2.em (h2 := mq_setI h2 35 17 1) (fun _ => rfl) rfl rfl rfl, fun z => absurd z (by decide), by omega, fun t' lx => ?_⟩⟩
        rw [sb]
        exact z_nx (z_s3c hc) lx
    · rw [lt_i, hv] at g
      have g : ¬ z_lv t.1 < 5 := g
      refine bq_f (by decide) ?_
      exact ar N v _ (Or.inl rfl) hv (by omega)
  · refine mq_el_in 60 [32, 73, 129] (fun N => ?_)
    refine mq_Call.pc (z_lev (fun v hv => ?_)) N
    rw [ct] at hv
    refine bq_f (by decide) ?_
    refine bq_c (fun g => ?_) (fun g => ?_)
    · rw [lt_i, hv] at g
      have g : z_lv t.1 < 5 := g
      have na : ¬ (t.1 = 42 ∨ t.1 = 47 ∨ t.1 = 43 ∨ t.1 = 45) := fun z => by have := (z_lv5 t.1).mpr z; omega
      have K5 : z_K b n (4, r, z_sb l, c) t (5, r, z_sb l, c) t := z_sy (z_s4n na)
      exact bn_c (fun _ => k73 N v (Or.inl rfl) hv K5) (fun _ => bn_t (by decide) (k73 N v (Or.inl rfl) hv K5))
    · rw [lt_i, hv] at g
      have g : ¬ z_lv t.1 < 5 := g
      refine bq_f (by decide) ?_
      exact ar N v _ (Or.inr rfl) hv (by omega)
  · refine mq_el_in 60 [32, 73, 129] (fun N => ?_)
    refine mq_Call.pc (z_lev (fun v hv => ?_)) N
    rw [ct] at hv
    refine bq_f (by decide) ?_
    refine bq_c (fun g => ?_) (fun g => ?_)
    · exact bn_c (fun _ => k73 N v (Or.inr rfl) hv z_K.rf) (fun _ => bn_t (by decide) (k73 N v (Or.inr rfl) hv z_K.rf))
    · refine bq_t rfl ?_
      exact bn_c (fun _ => k73 N v (Or.inr rfl) hv z_K.rf) (fun _ => bn_t (by decide) (k73 N v (Or.inr rfl) hv z_K.rf))
/-- where a condition ends, or a fault -/
def z_PO (b : Nat → Int) (n : Nat) (h : mq_H) (s : z_S) (t : z_T) (c : Nat) (h2 : mq_H) : Prop := z_fw h h2 ∧ ((mq_I h2 35 2 = 0 ∧ ∃ t', z_CT h2 t' ∧ z_tk n t' ∧ z_K b n s t (27, false, [], c) t') ∨ ∃ e f, mq_I h2 35 2 = nI e ∧ ¬ e = 0 ∧ e < 10 ∧ mq_I h2 35 3 = nI f ∧ z_AR b n s t (.inl (e, f)))
theorem z_PO.k {s s2 : z_S} {t t2 : z_T} {c : Nat} (K : z_K b n s t s2 t2) (P : z_PO b n h s2 t2 c h2) : z_PO b n h s t c h2 := by
  obtain ⟨F, P⟩ := P
  rcases P with ⟨p1, t', p2, p3, p4⟩ | ⟨e, f, p1, p2, p3, p4, p5⟩
  · exact ⟨F, Or.inl ⟨p1, t', p2, p3, K.tr p4⟩⟩
  · exact ⟨F, Or.inr ⟨e, f, p1, p2, p3, p4, K _ p5⟩⟩
theorem z_cond (TC : z_TC h b n) {t : z_T} {c : Nat} (CT : z_CT h t) (tk : z_tk n t) (f0 : mq_I h 35 2 = 0) (N : Nat) : mq_PC mq_G (mq_tT lL) N 85 [.retAddr 35] h (fun v h2 => v = none ∧ z_PO b n h (0, false, [], c) t c h2) := by
  have n4 := TC.2.1
  -- the way out
  have kx : ∀ (N : Nat) (s y : Int32) (h1 : mq_H) (P : mq_H → Prop), (s = 6 ∨ ¬ mq_I h1 35 2 = 0) → P h1 → mq_Pn mq_G (mq_tT lL) N 85 24 [some (.retAddr 35), some (.int s), some (.int y)] [] h1 (fun v h2 => v = none ∧ P h2) := by
    intro N s y h1 P hs hP
    refine (mq_gl (n := N) 60 [] ?_).dn (by omega)
    refine bq_c (fun _ => ⟨rfl, hP⟩) (fun _ => ?_)
    refine bq_c (fun _ => ⟨rfl, hP⟩) (fun n6 => ?_)
    refine bn_t ?_ ⟨rfl, hP⟩
    rcases hs with e | e
    · exact absurd e n6
    · exact e
  have kx2 : ∀ (N : Nat) (s y : Int32) (h1 : mq_H) (P : mq_H → Prop), (s = 6 ∨ ¬ mq_I h1 35 2 = 0) → P h1 → mq_Pn mq_G (mq_tT lL) N 85 115 [some (.retAddr 35), some (.int s), some (.int y)] [] h1 (fun v h2 => v = none ∧ P h2) := by
    intro N s y h1 P hs hP
    refine (mq_gl (n := N) 60 [24] ?_).dn (by omega)
    refine bq_c (fun e => kx N s _ h1 P (Or.inl e) hP) (fun n6 => ?_)
    refine bn_t ?_ (kx N s _ h1 P hs hP)
    rcases hs with e | e
    · exact absurd e n6
    · exact e
  have lp : ∀ (N m : Nat) (r : Bool) (l : List Int) (y : Int32) (cc : Nat) (t : z_T) (h1 : mq_H), m ≤ 5 → (m = 0 → z_lvt l ≤ 3 ∧ r = false) → z_fw h h1 → z_CT h1 t → z_tk n t → y = nI cc → cc ≤ t.2.2.1 → mq_I h1 35 17 = z_bt r → mq_I h1 35 2 = 0 → z_CS h1 l → mq_Pn mq_G (mq_tT lL) N 85 24 [some (.retAddr 35), some (.int (nI m)), some (.int y)] [] h1 (fun v h2 => v = none ∧ z_PO b n h (m, r, z_sb l, c) t c h2) := by
    intro N
    induction N with
    | zero => intro m r l y cc t h1 _ _ _ _ _ _ _ _ _ _; exact mq_Pn.z
    | succ N ih =>
      intro m r l y cc t h1 hm h0 F CT tk ey hc er f0 C
      subst ey
      have tk1 := tk.1
      -- on to the next token
      have on : ∀ (m' : Nat) (r' : Bool) (l' : List Int) (h2 : mq_H), m' ≤ 5 → (m' = 0 → z_lvt l' ≤ 3 ∧ r' = false) → z_fw h h2 → z_CT h2 t → mq_I h2 35 17 = z_bt r' → mq_I h2 35 2 = 0 → z_CS h2 l' → ¬ t.1 = 0 → (∀ t', z_LX b n t.2.2.2 t' → z_K b n (m, r, z_sb l, c) t (m', r', z_sb l', c) t') → mq_Pn mq_G (mq_tT lL) N 85 115 [some (.retAddr 35), some (.int (nI m')), some (.int (nI cc))] [] h2 (fun v h2 => v = none ∧ z_PO b n h (m, r, z_sb l, c) t c h2) := by
        intro m' r' l' h2 hm' h0' F2 CT2 er2 f2 C2 k0 K
        refine (mq_gl (n := N) 60 [24] ?_).dn (by omega)
        refine bq_f (fun z => ?_) ?_
        · have := congrArg Int32.toInt z
          rw [nI_toInt (by omega)] at this
          have : (m' : Int) = 6 := this
          omega
        refine bn_f f2 ?_
        refine mq_PC.mono (z_adv (TC.fw F2) tk.2.1 CT2.2.2.1 N) (fun v h3 ⟨ev, t', lx, CT3, F3⟩ => ?_)
        subst ev
        obtain ⟨tk3, le3⟩ := z_LX_tk lx
        have lt : t.2.2.1 < t.2.2.2 := by
          rcases tk.2.2 with e | e
          · exact absurd e k0
          · exact e
        have I3 := ih m' r' l' _ (cc + 1) t' h3 hm' h0' (F2.tr F3.fw) CT3 tk3 (nI_1 _) (by omega) ((F3.2 _ _ (by omega)).trans er2) ((F3.2 _ _ (by omega)).trans f2) (C2.em (fun k => F3.2 _ _ (by omega)) (F3.2 _ _ (by omega)) (F3.2 _ _ (by omega)) (F3.2 _ _ (by omega)))
        exact fun f hf v h' hr => ⟨(I3 f hf v h' hr).1, (I3 f hf v h' hr).2.k (K t' lx)⟩
      -- a fault
      have ft : ∀ (e : Nat) (s : Int32) (h2 : mq_H), h2 = mq_setI (mq_setI h1 35 2 (nI e)) 35 3 (mq_I h1 35 6) → ¬ e = 0 → e < 10 → z_AR b n (m, r, z_sb l, c) t (.inl (e, t.2.2.1)) → mq_Pn mq_G (mq_tT lL) N 85 115 [some (.retAddr 35), some (.int s), some (.int (nI cc))] [] h2 (fun v h2 => v = none ∧ z_PO b n h (m, r, z_sb l, c) t c h2) := by
        intro e s h2 eh ne e10 A
        subst eh
        refine kx2 N s _ _ _ (Or.inr (fun z => ?_)) ⟨F.tr (z_fw.bl (z_nI0 ne e10) h1), Or.inr ⟨e, t.2.2.1, rfl, ne, e10, CT.2.1, A⟩⟩
        exact z_nI0 ne e10 z
      -- a quantity
      have k74 : (m = 0 → ¬ (t.1 = 279 ∨ t.1 = 40)) → m ≤ 2 → mq_Pn mq_G (mq_tT lL) N 85 74 [some (.retAddr 35), some (.int (nI m)), some (.int (nI cc))] [] h1 (fun v h2 => v = none ∧ z_PO b n h (m, r, z_sb l, c) t c h2) := by
        intro nq m2
        have qu : ∀ d : Bool, d = decide (m = 2) → ∀ N' , N' ≤ N → mq_PC mq_G (mq_tT lL) N' 87 [.retAddr 35, .int (z_bt d)] h1 (fun v h2 => v = none ∧ z_PQ h1 t l (if d = true ∧ t.1 = 2 then 2 else 1) ((t.1 = 2 ∧ (d = true → t.2.1 = false)) ∨ (d = false ∧ 280 ≤ t.1 ∧ t.1 ≤ 284)) h2) := fun d _ N' _ => z_quant CT C f0 N'
        have en : ∀ (d : Bool) (h2 : mq_H), d = decide (m = 2) → z_PQ h1 t l (if d = true ∧ t.1 = 2 then 2 else 1) ((t.1 = 2 ∧ (d = true → t.2.1 = false)) ∨ (d = false ∧ 280 ≤ t.1 ∧ t.1 ≤ 284)) h2 → mq_Pn mq_G (mq_tT lL) N 85 93 [some (.retAddr 35), some (.int (nI m)), some (.int (nI cc))] [] h2 (fun v h2 => v = none ∧ z_PO b n h (m, r, z_sb l, c) t c h2) := by
          intro d h2 ed pq
          have m012 : m = 0 ∨ m = 1 ∨ m = 2 := by omega
          refine (mq_gl (n := N) 60 [115] ?_).dn (by omega)
          rcases pq with ⟨ok, F2, C2⟩ | ⟨nk, eh⟩
          · have er2 : mq_I h2 35 17 = z_bt r := (F2 _ _ (by decide) (by decide) (by omega)).trans er
            have f2 : mq_I h2 35 2 = 0 := (F2 _ _ (by decide) (by decide) (by omega)).trans f0
            have K : ∀ t', z_LX b n t.2.2.2 t' → z_K b n (m, r, z_sb l, c) t (bif r then 4 else 3, r, z_sb l, c) t' := fun t' lx => by
              rcases m012 with e | e | e
              · subst e
                have ed : d = false := ed
                obtain ⟨_, r0⟩ := h0 rfl
                subst r0
                refine (z_sy (z_s0q (nq rfl))).tr (z_nx (z_s1o ?_) lx)
                rcases ok with o | o
                · exact Or.inl o.1
                · exact Or.inr o.2
              · subst e
                refine z_nx (z_s1o ?_) lx
                rcases ok with o | o
                · exact Or.inl o.1
                · exact Or.inr o.2
              · subst e
                have ed : d = true := ed
                rcases ok with o | o
                · exact z_nx (z_s2o o.1 (o.2 ed)) lx
                · rw [ed] at o
                  exact absurd o.1 (by decide)
            have k0 : ¬ t.1 = 0 := by
              rcases ok with o | o
              · omega
              · omega
            cases r with
            | true =>
              refine bq_f (by show ¬ mq_I h2 35 17 = 0; rw [er2]; decide) ?_
              exact on 4 true l h2 (by decide) (fun z => absurd z (by decide)) (F.tr F2.fw) (CT.fs F2) er2 f2 C2 k0 K
            | false =>
              refine bq_t (by show mq_I h2 35 17 = 0; rw [er2]; rfl) ?_
              exact on 3 false l h2 (by decide) (fun z => absurd z (by decide)) (F.tr F2.fw) (CT.fs F2) er2 f2 C2 k0 K
          · have A : z_AR b n (m, r, z_sb l, c) t (.inl ((if d = true ∧ t.1 = 2 then 2 else 1), t.2.2.1)) := by
              rcases m012 with e | e | e
              · subst e
                have ed : d = false := ed
                rw [if_neg (fun z => by rw [ed] at z; exact absurd z.1 (by decide))]
                obtain ⟨_, r0⟩ := h0 rfl
                exact (z_sy (z_s0q (nq rfl))) _ (z_ft (z_s1f (fun z => nk (by
                  rcases z with z | z
                  · exact Or.inl ⟨z, fun w => by rw [ed] at w; exact absurd w (by decide)⟩
                  · exact Or.inr ⟨ed, z⟩))))
              · subst e
                have ed : d = false := ed
                rw [if_neg (fun z => by rw [ed] at z; exact absurd z.1 (by decide))]
                exact z_ft (z_s1f (fun z => nk (by
                  rcases z with z | z
                  · exact Or.inl ⟨z, fun w => by rw [ed] at w; exact absurd w (by decide)⟩
                  · exact Or.inr ⟨ed, z⟩)))
              · subst e
                have ed : d = true := ed
                by_cases e2 : t.1 = 2
                · rw [if_pos ⟨ed, e2⟩]
                  refine z_ft (z_s2z e2 ?_)
                  cases ez : t.2.1 with
                  | true => rfl
                  | false => exact absurd (Or.inl ⟨e2, fun _ => ez⟩) nk
                · rw [if_neg (fun z => e2 z.2)]
                  exact z_ft (z_s2f e2)
            have e12 : ∀ x, x = (if d = true ∧ t.1 = 2 then 2 else 1) → ¬ x = 0 ∧ x < 10 := fun x ex => by rw [ex]; split <;> omega
            exact bq_c (fun _ => ft _ _ h2 eh (e12 _ rfl).1 (e12 _ rfl).2 A) (fun _ => ft _ _ h2 eh (e12 _ rfl).1 (e12 _ rfl).2 A)
        refine (mq_gl (n := N) 60 [93] ?_).dn (by omega)
        refine bq_f (by rw [lt_i, nI_toInt (by omega)]; show ¬ (2 : Int) < (m : Int); omega) ?_
        refine bn_c (fun ne => ?_) (fun eq => ?_)
        · have ne : ¬ m = 2 := fun z => ne (by rw [z]; rfl)
          refine mq_PC.mono (qu false (by rw [decide_eq_false ne]) N (Nat.le_refl _)) (fun v h2 ⟨ev, pq⟩ => ?_)
          subst ev
          exact en false h2 (by rw [decide_eq_false ne]) pq
        · have eq : m = 2 := by
            have := congrArg Int32.toInt eq
            rw [nI_toInt (by omega)] at this
            have : (m : Int) = 2 := this
            omega
          refine mq_PC.mono (qu true (by rw [decide_eq_true eq]) N (Nat.le_refl _)) (fun v h2 ⟨ev, pq⟩ => ?_)
          subst ev
          exact en true h2 (by rw [decide_eq_true eq]) pq
      have k67 : m = 0 → (t.1 = 279 ∨ t.1 = 40) → mq_Pn mq_G (mq_tT lL) N 85 67 [some (.retAddr 35), some (.int (nI m)), some (.int (nI cc))] [] h1 (fun v h2 => v = none ∧ z_PO b n h (m, r, z_sb l, c) t c h2) := by
        intro m0 hk
        subst m0
        obtain ⟨l3, r0⟩ := h0 rfl
        have sb : z_sb (t.1 :: l) = decide (t.1 = 40) :: z_sb l := by
          rcases hk with e | e
          · rw [e]; rfl
          · rw [e]; rfl
        have lv : z_lvt (t.1 :: l) ≤ 3 := by
          show z_lv t.1 ≤ 3
          rcases hk with e | e
          · rw [e, z_lv_279]; decide
          · rw [e, z_lv_40]; decide
        refine (mq_gl (n := N) 60 [115] ?_).dn (by omega)
        refine mq_PC.mono (z_opening CT C hk l3 f0 N) (fun v h2 ⟨ev, pq⟩ => ?_)
        subst ev
        rcases pq with ⟨ok, F2, C2⟩ | ⟨nk, eh⟩
        · exact on 0 r (t.1 :: l) h2 (by decide) (fun _ => ⟨lv, r0⟩) (F.tr F2.fw) (CT.fs F2) ((F2 _ _ (by decide) (by decide) (by omega)).trans er) ((F2 _ _ (by decide) (by decide) (by omega)).trans f0) C2 (by omega) (fun t' lx => by rw [sb]; exact z_nx (z_s0o hk ok) lx)
        · exact ft 3 _ h2 eh (by decide) (by decide) (z_ft (z_s0f hk (Classical.byContradiction nk)))
      refine mq_gl 60 [67, 74] ?_
      refine bq_f (by rw [lt_i, nI_toInt (by omega)]; show ¬ (400 : Int) < (cc : Int); omega) ?_
      refine bq_f (fun z => ?_) ?_
      · have := congrArg Int32.toInt z
        rw [nI_toInt (by omega)] at this
        have : (m : Int) = 6 := this
        omega
      refine bn_f f0 ?_
      -- behind a quantity or a bracket
      have k74b : 3 ≤ m → mq_Pn mq_G (mq_tT lL) N 85 74 [some (.retAddr 35), some (.int (nI m)), some (.int (nI cc))] [] h1 (fun v h2 => v = none ∧ z_PO b n h (m, r, z_sb l, c) t c h2) := by
        intro m3
        refine (mq_gl (n := N) 60 [115] ?_).dn (by omega)
        refine bq_t (by rw [lt_i, nI_toInt (by omega)]; show (2 : Int) < (m : Int); omega) ?_
        refine mq_PC.mono (z_behind (b := b) (n := n) (c := c) CT C f0 er (by omega) N) (fun v h2 ⟨F2, hv⟩ => ?_)
        rcases hv with ⟨m', r', l', ev, hm', CT2, er2, f2, C2, h02, k0, K⟩ | ⟨ev, CT2, f2, K⟩ | ⟨ev, e, f2, ne, e10, p2, A⟩
        · subst ev
          exact on m' r' l' h2 hm' h02 (F.tr F2) CT2 er2 f2 C2 k0 K
        · subst ev
          exact kx2 N _ _ _ _ (Or.inl rfl) ⟨F.tr F2, Or.inl ⟨f2, t, CT2, tk, K⟩⟩
        · subst ev
          exact kx2 N _ _ _ _ (Or.inl rfl) ⟨F.tr F2, Or.inr ⟨e, t.2.2.1, f2, ne, e10, p2, A⟩⟩
      refine bn_c (fun n0 => ?_) (fun e0 => ?_)
      · have n0 : ¬ m = 0 := fun z => n0 (by rw [z]; rfl)
        rcases Nat.lt_or_ge m 3 with e | e
        · exact k74 (fun z => absurd z n0) (by omega)
        · exact k74b e
      · have e0 : m = 0 := by
          have := congrArg Int32.toInt e0
          rw [nI_toInt (by omega)] at this
          have : (m : Int) = 0 := this
          omega
        refine bq_c (fun e => ?_) (fun e => ?_)
        · exact k67 e0 (Or.inl (by rw [← CT.1]; exact y_eq e rfl))
        · refine bn_c (fun e2 => ?_) (fun e2 => ?_)
          · exact k74 (fun _ z => by
              rcases z with z | z
              · exact e (x_toI (CT.1.trans z) rfl)
              · exact e2 (x_toI (CT.1.trans z) rfl)) (by omega)
          · exact k67 e0 (Or.inr (by rw [← CT.1]; exact y_eq e2 rfl))
  revert N
  refine mq_el_in 40 [24] (fun N => ?_)
  intro _
  exact lp N 0 false [] _ 0 t _ (by decide) (fun _ => ⟨by decide, rfl⟩) (((((z_fw.rf h).st (by decide)).st (by decide)).st (by decide)).st (by decide)) CT tk rfl (by omega) rfl f0 ⟨trivial, trivial, rfl, rfl, rfl, by decide⟩
end ZH
