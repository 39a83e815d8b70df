/-! the class: a condition -/
section ZG
variable {lL : Nat} {h h1 h2 : mq_H} {Q : Option Value → mq_H → Prop} {b : Nat → Int} {n : Nat}
def z_bt (r : Bool) : Int32 := bif r then 1 else 0
def z_tk (n : Nat) (t : z_T) : Prop := t.2.2.1 ≤ n ∧ t.2.2.2 ≤ n ∧ (t.1 = 0 ∨ t.2.2.1 < t.2.2.2)
theorem z_LX_tk {p : Nat} {t : z_T} (l : z_LX b n p t) : z_tk n t ∧ p ≤ t.2.2.1 := by
  obtain ⟨a1, a2, a3, a4⟩ := l
  rcases a4 with ⟨z1, z2, z3, z4⟩ | ⟨z1, z2, z3, z4, -⟩
  · exact ⟨⟨a2, by omega, Or.inl z3⟩, a1⟩
  · exact ⟨⟨a2, z4, Or.inr z3⟩, a1⟩
def z_fw (h h2 : mq_H) : Prop := (∀ a k, ¬ a = 38 → ¬ a = 39 → ¬ (a = 35 ∧ ¬ k = 1 ∧ ¬ k = 9) → mq_I h2 a k = mq_I h a k) ∧ (mq_I h2 35 2 = 0 → mq_I h 35 2 = 0 ∧ mq_I h2 35 3 = mq_I h 35 3)
theorem z_fw.rf (h : mq_H) : z_fw h h := ⟨fun _ _ _ _ _ => rfl, fun z => ⟨z, rfl⟩⟩
theorem z_fw.tr (a : z_fw h h1) (c : z_fw h1 h2) : z_fw h h2 := ⟨fun x k p q r => (c.1 x k p q r).trans (a.1 x k p q r), fun z => ⟨(a.2 (c.2 z).1).1, (c.2 z).2.trans (a.2 (c.2 z).1).2⟩⟩
theorem z_fs.fw (a : z_fs h h2) : z_fw h h2 := ⟨fun x k p q r => a x k p q (fun z => r ⟨z.1, by omega, by omega⟩), fun z => ⟨(a _ _ (by decide) (by decide) (by omega)).symm.trans z, a _ _ (by decide) (by decide) (by omega)⟩⟩
theorem z_fr.fw (a : z_fr h h2) : z_fw h h2 := ⟨fun x k p q r => a.2 x k (fun z => r ⟨z.1, by omega, by omega⟩), fun z => ⟨(a.2 _ _ (by omega)).symm.trans z, a.2 _ _ (by omega)⟩⟩
theorem z_fw.st {k : Nat} {x : Int32} (F : z_fw h h1) (hk : k = 11 ∨ k = 12 ∨ k = 14 ∨ k = 15 ∨ k = 16 ∨ k = 17) : z_fw h (mq_setI h1 35 k x) := by
  have g : ∀ a j, ¬ (a = 35 ∧ j = k) → mq_I (mq_setI h1 35 k x) a j = mq_I h1 a j := fun a j w => ck_setI_at w
  refine ⟨fun a j p q r => (g a j (fun w => r ⟨w.1, by omega, by omega⟩)).trans (F.1 a j p q r), fun z => ?_⟩
  rw [g 35 2 (by omega)] at z
  exact ⟨(F.2 z).1, (g 35 3 (by omega)).trans (F.2 z).2⟩
theorem z_nI0 {e : Nat} (h0 : ¬ e = 0) (h1 : e < 10) : ¬ nI e = 0 := fun z => by
  have := congrArg Int32.toInt z
  rw [nI_toInt (by omega)] at this
  have : (e : Int) = 0 := this
  omega
theorem z_fw.bl {e : Int32} (he : ¬ e = 0) (h : mq_H) : z_fw h (mq_setI (mq_setI h 35 2 e) 35 3 (mq_I h 35 6)) := ⟨fun a j p q r => (ck_setI_at (fun w => r ⟨w.1, by omega, by omega⟩)).trans (ck_setI_at (fun w => r ⟨w.1, by omega, by omega⟩)), fun z => absurd z he⟩
theorem z_TC.fw (F : z_fw h h1) (T : z_TC h b n) : z_TC h1 b n := ⟨(F.1 _ _ (by decide) (by decide) (by omega)).trans T.1, T.2.1, fun i hi => by rw [F.1 _ _ (by decide) (by decide) (by omega)]; exact T.2.2 i hi⟩
theorem z_CT.fs {t : z_T} (F : z_fs h h1) (C : z_CT h t) : z_CT h1 t := by
  obtain ⟨c1, c2, c3, c4⟩ := C
  exact ⟨by rw [F _ _ (by decide) (by decide) (by omega)]; exact c1, (F _ _ (by decide) (by decide) (by omega)).trans c2, (F _ _ (by decide) (by decide) (by omega)).trans c3, by rw [F _ _ (by decide) (by decide) (by omega)]; exact c4⟩
theorem z_blame {e : Int32} (f0 : mq_I h 35 2 = 0) (N : Nat) : mq_PC mq_G (mq_tT lL) N 84 [.retAddr 35, .int e] h (fun v h2 => v = none ∧ h2 = mq_setI (mq_setI h 35 2 e) 35 3 (mq_I h 35 6)) := by
  refine mq_Call.pc ?_ N
  apply mq_enter 40 []
  refine bn_f f0 ?_
  exact ⟨rfl, rfl⟩
theorem z_ok1_of {x v : Int} (h4 : ¬ x = 40) (h9 : ¬ x = 279) (h1 : 1 ≤ z_lv x) (hv : v < z_lv x) : z_ok1 x v := by
  unfold z_lv at h1 hv
  unfold z_ok1
  repeat' split at hv
  all_goals (repeat' split at h1)
  all_goals omega
theorem z_join {k v : Int32} (hv : v.toInt = z_lv k.toInt) (h4 : ¬ k.toInt = 40) (h9 : ¬ k.toInt = 279) (hl1 : 1 ≤ z_lv k.toInt) {l : List Int} (C : z_CS h l) (N : Nat) : mq_PC mq_G (mq_tT lL) N 89 [.retAddr 35, .int k, .int v] h (fun r h2 => r = none ∧ z_fs h h2 ∧ z_CS h2 (k.toInt :: z_sp (z_lv k.toInt) l)) := by
  revert N
  refine mq_el_in 40 [] (fun N => ?_)
  refine mq_PC.mono (z_settle (v := v) (by omega) C N) (fun r h1 ⟨er, F, C1⟩ => ?_)
  subst er
  rw [hv] at C1
  obtain ⟨c1, c2, c3, c4, c5, c6⟩ := C1
  have l29 := z_wl_64 c1 c6
  refine mq_PC.mono (z_hold (by omega) c3 N) (fun r h2 ⟨er, f1, f2, f3, f4, f5, f6⟩ => ?_)
  subst er
  refine ⟨rfl, F.tr f1, ⟨c1, z_ok1_of h4 h9 hl1 (z_sp_lv (by omega) l)⟩, ⟨by rw [f2], z_ar_up f3 _ (Nat.le_refl _) c2⟩, f4, ?_, ?_, ?_⟩
  · rw [z_sb_o h4 h9]
    exact f5.trans c4
  · rw [z_sb_o h4 h9]
    exact f6.trans c5
  · rw [z_sb_o h4 h9]
    exact c6
theorem z_top {l : List Int} (h : z_wl l) (h0 : z_lvt l < 1) (hb : 0 < z_br (z_sb l)) : ∃ l2, l = 40 :: l2 := by
  cases l with
  | nil => exact absurd hb (by decide)
  | cons x l =>
    refine ⟨l, ?_⟩
    have h0 : z_lv x < 1 := h0
    by_cases e : x = 40
    · rw [e]
    · exfalso
      have hx := h.2
      by_cases e9 : x = 279
      · rw [e9, z_lv_279] at h0
        omega
      · unfold z_ok1 at hx
        unfold z_lv at h0
        repeat' split at h0
        all_goals omega
theorem z_close {l : List Int} (C : z_CS h l) (hb : 0 < z_br (z_sb l)) (N : Nat) : mq_PC mq_G (mq_tT lL) N 90 [.retAddr 35] h (fun r h2 => r = none ∧ z_fs h h2 ∧ ∃ l2, z_CS h2 l2 ∧ z_sb l2 = (z_dn (z_sb l)).tail) := by
  revert N
  refine mq_el_in 40 [] (fun N => ?_)
  refine mq_PC.mono (z_settle (v := 1) (by decide) C N) (fun r h1 ⟨er, F, C1⟩ => ?_)
  subst er
  have e1 : (1 : Int32).toInt = 1 := rfl
  rw [e1] at C1
  have sd := z_sp_dn (v := 1) (Or.inl rfl) l C.1
  obtain ⟨l2, el⟩ := z_top C1.1 (z_sp_lv (by decide) l) (by rw [sd, z_br_dn]; exact hb)
  rw [el] at C1 sd
  obtain ⟨c1, c2, c3, c4, c5, c6⟩ := C1
  rw [z_sb_b] at c4 c5 c6 sd
  have l29 := z_wl_64 (l := 40 :: l2) c1 (by rw [z_sb_b]; exact c6)
  have l29 : l2.length + 1 ≤ 29 := l29
  have c6 : (z_sb l2).length + 1 ≤ 8 := c6
  refine bq_f (by show ¬ mq_I h1 35 14 ≤ 0; rw [c3, le_i, nI_toInt (by show l2.length + 1 < _; omega)]; show ¬ ((l2.length + 1 : Nat) : Int) ≤ 0; omega) ?_
  refine ⟨rfl, ((F.st (by omega)).st (by omega)).st (by omega), l2, ⟨c1.1, z_ar_fr (h := h1) (h2 := mq_setI (mq_setI (mq_setI h1 35 14 (mq_I h1 35 14 - 1)) 35 15 (mq_I h1 35 15 - 1)) 35 16 (mq_I h1 35 16 - 1)) (fun _ => rfl) l2 c2.2, ?_, ?_, ?_, by omega⟩, by rw [← sd]; rfl⟩
  · show mq_I h1 35 14 - 1 = _
    rw [c3]
    exact y_nI1 _
  · show mq_I h1 35 15 - 1 = _
    rw [c4]
    exact y_nI1 _
  · show mq_I h1 35 16 - 1 = _
    rw [c5]
    exact y_nI1 _
theorem z_CS.em {l : List Int} (C : z_CS h l) (f2 : ∀ k, mq_I h2 39 k = mq_I h 39 k) (f3 : mq_I h2 35 14 = mq_I h 35 14) (f4 : mq_I h2 35 15 = mq_I h 35 15) (f5 : mq_I h2 35 16 = mq_I h 35 16) : z_CS h2 l := ⟨C.1, z_ar_fr f2 l C.2.1, f3.trans C.2.2.1, f4.trans C.2.2.2.1, f5.trans C.2.2.2.2.1, C.2.2.2.2.2⟩
/-- what an operation on the stack leaves: on, or a fault -/
def z_PQ (h : mq_H) (t : z_T) (l : List Int) (e : Nat) (ok : Prop) (h2 : mq_H) : Prop := (ok ∧ z_fs h h2 ∧ z_CS h2 l) ∨ (¬ ok ∧ h2 = mq_setI (mq_setI h 35 2 (nI e)) 35 3 (mq_I h 35 6))
theorem z_opening {t : z_T} {l : List Int} (CT : z_CT h t) (C : z_CS h l) (hk : t.1 = 279 ∨ t.1 = 40) (hl : z_lvt l ≤ 3) (f0 : mq_I h 35 2 = 0) (N : Nat) : mq_PC mq_G (mq_tT lL) N 86 [.retAddr 35] h (fun v h2 => v = none ∧ z_PQ h t (t.1 :: l) 3 (¬ 8 ≤ (z_sb l).length) h2) := by
  obtain ⟨c1, c2, c3, c4, c5, c6⟩ := C
  have l29 := z_wl_64 c1 c6
  have br := z_br_le (z_sb l)
  revert N
  refine mq_el_in 60 [44] (fun N => ?_)
  refine bq_c (fun g => ?_) (fun g => ?_)
  · have g : mq_I h 35 15 < 8 := g
    rw [c4, lt_i, nI_toInt (by omega)] at g
    have g : ((z_sb l).length : Int) < 8 := g
    have k44 : ∀ (h1 : mq_H), z_fs h h1 → z_ar h1 l → mq_I h1 35 14 = nI l.length → mq_I h1 35 15 = nI ((z_sb l).length + 1) → mq_I h1 35 16 = nI (z_br (z_sb (t.1 :: l))) → mq_I h1 35 4 = mq_I h 35 4 → mq_Pn mq_G (mq_tT lL) N 86 44 [some (.retAddr 35)] [] h1 (fun v h2 => v = none ∧ z_PQ h t (t.1 :: l) 3 (¬ 8 ≤ (z_sb l).length) h2) := by
      intro h1 F a1 a2 a3 a4 a5
      refine (mq_gl (n := N) 40 [] ?_).dn (by omega)
      refine mq_PC.mono (z_hold (h := h1) (m := l.length) (by omega) a2 N) (fun r h2 ⟨er, f1, f2, f3, f4, f5, f6⟩ => ?_)
      subst er
      have ls : (z_sb (t.1 :: l)).length = (z_sb l).length + 1 := by
        rcases hk with e | e <;> rw [e] <;> rfl
      refine ⟨rfl, Or.inl ⟨by omega, F.tr f1, ⟨c1, ?_⟩, ⟨by rw [f2, a5]; exact CT.1, z_ar_up f3 l (Nat.le_refl _) a1⟩, f4, by rw [f5, a3, ls], f6.trans a4, by omega⟩⟩
      unfold z_ok1
      rcases hk with e | e
      · exact Or.inr (Or.inl ⟨e, hl⟩)
      · exact Or.inl ⟨e, hl⟩
    refine bn_c (fun ne => ?_) (fun eq => ?_)
    · have ne : ¬ t.1 = 40 := fun z => ne (x_toI (CT.1.trans z) rfl)
      have e9 : t.1 = 279 := by omega
      exact k44 _ ((z_fs.rf h).st (by omega)) (z_ar_fr (h := h) (h2 := mq_setI h 35 15 (mq_I h 35 15 + 1)) (fun _ => rfl) l c2) c3 (by show mq_I h 35 15 + 1 = _; rw [c4, nI_1]) (by rw [e9, z_sb_n]; exact c5) rfl
    · have eq : t.1 = 40 := by rw [← CT.1]; exact y_eq eq rfl
      exact k44 _ (((z_fs.rf h).st (by omega)).st (by omega)) (z_ar_fr (h := h) (h2 := mq_setI (mq_setI h 35 15 (mq_I h 35 15 + 1)) 35 16 (mq_I h 35 16 + 1)) (fun _ => rfl) l c2) c3 (by show mq_I h 35 15 + 1 = _; rw [c4, nI_1]) (by rw [eq, z_sb_b]; show mq_I h 35 16 + 1 = _; rw [c5, nI_1]; rfl) rfl
  · have g : ¬ mq_I h 35 15 < 8 := g
    rw [c4, lt_i, nI_toInt (by omega)] at g
    have g : ¬ ((z_sb l).length : Int) < 8 := g
    refine mq_PC.mono (z_blame f0 N) (fun r h2 ⟨er, eh⟩ => ?_)
    subst er
    exact ⟨rfl, Or.inr ⟨by omega, eh⟩⟩
theorem z_quant {t : z_T} {l : List Int} {d : Bool} (CT : z_CT h t) (C : z_CS h l) (f0 : mq_I h 35 2 = 0) (N : Nat) : mq_PC mq_G (mq_tT lL) N 87 [.retAddr 35, .int (z_bt d)] h (fun v h2 => v = none ∧ z_PQ h t l (if d = true ∧ t.1 = 2 then 2 else 1) ((t.1 = 2 ∧ (d = true → t.2.1 = false)) ∨ (d = false ∧ 280 ≤ t.1 ∧ t.1 ≤ 284)) h2) := by
  have em : ∀ {h1 : mq_H} {x : Int32}, z_fs h h1 → z_CS h1 l → ((t.1 = 2 ∧ (d = true → t.2.1 = false)) ∨ (d = false ∧ 280 ≤ t.1 ∧ t.1 ≤ 284)) → ∀ N (Q' : Option Value → mq_H → Prop), (∀ h2, z_PQ h t l (if d = true ∧ t.1 = 2 then 2 else 1) ((t.1 = 2 ∧ (d = true → t.2.1 = false)) ∨ (d = false ∧ 280 ≤ t.1 ∧ t.1 ≤ 284)) h2 → Q' none h2) → mq_PC mq_G (mq_tT lL) N 93 [.retAddr 35, .int x] h1 Q' := fun {h1 x} F C1 ok N Q' hq => mq_PC.mono (z_emit N) (fun r h2 ⟨er, f1, f2, f3, f4, f5⟩ => by
    subst er
    exact hq h2 (Or.inl ⟨ok, F.tr f1, C1.em f2 f3 f4 f5⟩))
  revert N
  refine mq_el_in 90 [25, 98] (fun N => ?_)
  have k98 : ¬ ((t.1 = 2 ∧ (d = true → t.2.1 = false)) ∨ (d = false ∧ 280 ≤ t.1 ∧ t.1 ≤ 284)) → ¬ (d = true ∧ t.1 = 2) → mq_Pn mq_G (mq_tT lL) N 87 98 [some (.retAddr 35), some (.int (z_bt d))] [] h (fun v h2 => v = none ∧ z_PQ h t l (if d = true ∧ t.1 = 2 then 2 else 1) ((t.1 = 2 ∧ (d = true → t.2.1 = false)) ∨ (d = false ∧ 280 ≤ t.1 ∧ t.1 ≤ 284)) h2) := by
    intro nk nd
    refine (mq_gl (n := N) 40 [] ?_).dn (by omega)
    refine mq_PC.mono (z_blame f0 N) (fun r h2 ⟨er, eh⟩ => ?_)
    subst er
    rw [if_neg nd]
    exact ⟨rfl, Or.inr ⟨nk, eh⟩⟩
  have k25 : (t.1 = 2 ∧ (d = true → t.2.1 = false)) → mq_Pn mq_G (mq_tT lL) N 87 25 [some (.retAddr 35), some (.int (z_bt d))] [] h (fun v h2 => v = none ∧ z_PQ h t l (if d = true ∧ t.1 = 2 then 2 else 1) ((t.1 = 2 ∧ (d = true → t.2.1 = false)) ∨ (d = false ∧ 280 ≤ t.1 ∧ t.1 ≤ 284)) h2) := by
    intro ok
    refine (mq_gl (n := N) 40 [] ?_).dn (by omega)
    exact em (z_fs.rf h) C (Or.inl ok) N _ (fun h2 z => ⟨rfl, z⟩)
  refine bn_c (fun n2 => ?_) (fun e2 => ?_)
  · have n2 : ¬ t.1 = 2 := fun z => n2 (x_toI (CT.1.trans z) rfl)
    cases d with
    | true =>
      refine bn_t (by decide) ?_
      exact k98 (fun z => by rcases z with z | z; exact n2 z.1; exact absurd z.1 (by decide)) (fun z => n2 z.2)
    | false =>
      refine bn_f rfl ?_
      refine bq_c (fun g => ?_) (fun g => ?_)
      · have g : mq_I h 35 4 < 280 := g
        rw [lt_i, CT.1] at g
        have g : t.1 < 280 := g
        exact k98 (fun z => by rcases z with z | z; exact n2 z.1; omega) (fun z => n2 z.2)
      · have g : ¬ mq_I h 35 4 < 280 := g
        rw [lt_i, CT.1] at g
        have g : ¬ t.1 < 280 := g
        refine bq_c (fun g2 => ?_) (fun g2 => ?_)
        · have g2 : (284 : Int32) < mq_I h 35 4 := g2
          rw [lt_i, CT.1] at g2
          have g2 : 284 < t.1 := g2
          exact k98 (fun z => by rcases z with z | z; exact n2 z.1; omega) (fun z => n2 z.2)
        · have g2 : ¬ (284 : Int32) < mq_I h 35 4 := g2
          rw [lt_i, CT.1] at g2
          have g2 : ¬ 284 < t.1 := g2
          refine bn_c (fun _ => ?_) (fun _ => ?_)
          · intro _
            exact em ((z_fs.rf h).st (by omega)) (C.em (h2 := mq_setI h 35 12 1) (fun _ => rfl) rfl rfl rfl) (Or.inr ⟨rfl, by omega, by omega⟩) N _ (fun h2 z => ⟨rfl, z⟩)
          · refine bn_c (fun _ => ?_) (fun _ => ?_)
            · intro _
              exact em ((z_fs.rf h).st (by omega)) (C.em (h2 := mq_setI h 35 12 0) (fun _ => rfl) rfl rfl rfl) (Or.inr ⟨rfl, by omega, by omega⟩) N _ (fun h2 z => ⟨rfl, z⟩)
            · intro _
              exact em ((z_fs.rf h).st (by omega)) (C.em (h2 := mq_setI h 35 12 1) (fun _ => rfl) rfl rfl rfl) (Or.inr ⟨rfl, by omega, by omega⟩) N _ (fun h2 z => ⟨rfl, z⟩)
  · have e2 : t.1 = 2 := by rw [← CT.1]; exact y_eq e2 rfl
    cases d with
    | false =>
      refine bq_t rfl ?_
      exact k25 ⟨e2, fun z => absurd z (by decide)⟩
    | true =>
      refine bq_f (by decide) ?_
      have nz := CT.2.2.2 e2
      refine bn_c (fun n0 => ?_) (fun n0 => ?_)
      · have n0 : ¬ (mq_I h 35 5).toInt = 0 := y_ne n0 rfl
        exact k25 ⟨e2, fun _ => by
          cases e : t.2.1 with
          | false => rfl
          | true => exact absurd (nz.mpr e) n0⟩
      · have n0 : (mq_I h 35 5).toInt = 0 := y_eq n0 rfl
        refine mq_PC.mono (z_blame f0 N) (fun r h2 ⟨er, eh⟩ => ?_)
        subst er
        rw [if_pos ⟨rfl, e2⟩]
        refine ⟨rfl, Or.inr ⟨fun z => ?_, eh⟩⟩
        rcases z with z | z
        · have := z.2 rfl
          rw [nz.mp n0] at this
          exact absurd this (by decide)
        · exact absurd z.1 (by decide)
end ZG
