/-! the reference: a condition -/
section ZL
variable {lL : Nat} {h h1 h2 : mq_H} {Q : Option Value → mq_H → Prop} {b : Nat → Int} {n : Nat}
def z_hd : List Int → Int
  | [] => 12
  | x :: _ => x
def z_ok2 (x y : Int) : Prop := (x = 9 ∧ (y = 9 ∨ y = 10 ∨ y = 11 ∨ y = 12)) ∨ (x = 12 ∧ (y = 9 ∨ y = 10 ∨ y = 11 ∨ y = 12)) ∨ (x = 10 ∧ (y = 11 ∨ y = 12)) ∨ (x = 11 ∧ y = 12)
def z_wm : List Int → Prop
  | [] => True
  | x :: l => z_wm l ∧ z_ok2 x (z_hd l)
def z_sm : List Int → List Bool
  | [] => []
  | x :: l => if x = 12 then true :: z_sm l else if x = 9 then false :: z_sm l else z_sm l
theorem z_sm_b (l : List Int) : z_sm (12 :: l) = true :: z_sm l := rfl
theorem z_sm_n (l : List Int) : z_sm (9 :: l) = false :: z_sm l := rfl
theorem z_sm_o {x : Int} (h1 : ¬ x = 12) (h2 : ¬ x = 9) (l : List Int) : z_sm (x :: l) = z_sm l := by
  show (if x = 12 then true :: z_sm l else if x = 9 then false :: z_sm l else z_sm l) = _
  rw [if_neg h1, if_neg h2]
def z_pp (w : Int) : List Int → List Int
  | [] => []
  | x :: l => if x = w then z_pp w l else x :: l
theorem z_pp_p {w x : Int} (h : x = w) (l : List Int) : z_pp w (x :: l) = z_pp w l := if_pos h
theorem z_pp_s {w x : Int} (h : ¬ x = w) (l : List Int) : z_pp w (x :: l) = x :: l := if_neg h
theorem z_pp_wm {w : Int} : ∀ l, z_wm l → z_wm (z_pp w l)
  | [], _ => trivial
  | x :: l, h => by
    by_cases e : x = w
    · rw [z_pp_p e]
      exact z_pp_wm l h.1
    · rw [z_pp_s e]
      exact h
theorem z_wm_hd {l : List Int} (h : z_wm l) : z_hd l = 9 ∨ z_hd l = 10 ∨ z_hd l = 11 ∨ z_hd l = 12 := by
  cases l with
  | nil => exact Or.inr (Or.inr (Or.inr rfl))
  | cons x l =>
    show x = 9 ∨ x = 10 ∨ x = 11 ∨ x = 12
    have := h.2
    unfold z_ok2 at this
    omega
theorem z_pp_hd {w : Int} (hw : ¬ w = 12) : ∀ l, ¬ z_hd (z_pp w l) = w
  | [] => fun z => hw z.symm
  | x :: l => by
    by_cases e : x = w
    · rw [z_pp_p e]
      exact z_pp_hd hw l
    · rw [z_pp_s e]
      exact e
/-- no not on top: none before the next bracket -/
theorem z_wm_dn {l : List Int} (h : z_wm l) (h9 : ¬ z_hd l = 9) : z_dn (z_sm l) = z_sm l := by
  cases l with
  | nil => rfl
  | cons x l =>
    have h9 : ¬ x = 9 := h9
    by_cases e : x = 12
    · rw [e, z_sm_b]
      rfl
    · rw [z_sm_o e h9]
      have hx := h.2
      cases l with
      | nil => rfl
      | cons y l =>
        have hx : z_ok2 x y := hx
        have hy := h.1.2
        unfold z_ok2 at hx
        by_cases e2 : y = 12
        · rw [e2, z_sm_b]
          rfl
        · rw [z_sm_o e2 (by omega)]
          unfold z_ok2 at hy
          cases l with
          | nil => rfl
          | cons z l =>
            have hy : (y = 9 ∧ (z = 9 ∨ z = 10 ∨ z = 11 ∨ z = 12)) ∨ (y = 12 ∧ (z = 9 ∨ z = 10 ∨ z = 11 ∨ z = 12)) ∨ (y = 10 ∧ (z = 11 ∨ z = 12)) ∨ (y = 11 ∧ z = 12) := hy
            have : z = 12 := by omega
            rw [this, z_sm_b]
            rfl
theorem z_pp_sm9 : ∀ l, z_wm l → z_sm (z_pp 9 l) = z_dn (z_sm l)
  | [], _ => rfl
  | x :: l, h => by
    by_cases e : x = 9
    · rw [z_pp_p e, e, z_sm_n]
      exact z_pp_sm9 l h.1
    · rw [z_pp_s e]
      exact (z_wm_dn (l := x :: l) h e).symm
theorem z_pp_smo {w : Int} (h1 : ¬ w = 12) (h2 : ¬ w = 9) : ∀ l, z_sm (z_pp w l) = z_sm l
  | [] => rfl
  | x :: l => by
    by_cases e : x = w
    · rw [z_pp_p e, z_sm_o (by omega) (by omega)]
      exact z_pp_smo h1 h2 l
    · rw [z_pp_s e]
theorem z_pp_n9 {w : Int} (hw : w = 10 ∨ w = 11) : ∀ l, z_wm l → ¬ z_hd l = 9 → ¬ z_hd (z_pp w l) = 9
  | [], _, _ => fun z => absurd (show (12 : Int) = 9 from z) (by decide)
  | x :: l, h, h9 => by
    by_cases e : x = w
    · rw [z_pp_p e]
      refine z_pp_n9 hw l h.1 ?_
      have := h.2
      unfold z_ok2 at this
      omega
    · rw [z_pp_s e]
      exact h9
def z_t2 (x : Int) : Nat := if x = 12 then 0 else if x = 11 then 1 else 2
theorem z_t2_le (x : Int) : z_t2 x ≤ 2 := by
  unfold z_t2
  repeat' split
  all_goals omega
theorem z_wm_len : ∀ l, z_wm l → l.length ≤ (z_sm l).length + 2 * z_br (z_sm l) + z_t2 (z_hd l)
  | [], _ => Nat.zero_le _
  | x :: l, h => by
    have ih := z_wm_len l h.1
    have hx := h.2
    unfold z_ok2 at hx
    have t2 : z_t2 (z_hd l) ≤ 2 := z_t2_le _
    show l.length + 1 ≤ _ + _ + z_t2 x
    rcases hx with ⟨e, q⟩ | ⟨e, q⟩ | ⟨e, q⟩ | ⟨e, q⟩
    · rw [e, z_sm_n]
      show _ ≤ ((z_sm l).length + 1) + 2 * z_br (z_sm l) + z_t2 9
      have : z_t2 9 = 2 := by decide
      omega
    · rw [e, z_sm_b]
      show _ ≤ ((z_sm l).length + 1) + 2 * (z_br (z_sm l) + 1) + z_t2 12
      have : z_t2 12 = 0 := by decide
      omega
    · rw [e, z_sm_o (by decide) (by decide)]
      have : z_t2 10 = 2 := by decide
      have : z_t2 (z_hd l) ≤ 1 := by
        rcases q with q | q <;> rw [q] <;> decide
      omega
    · rw [e, z_sm_o (by decide) (by decide)]
      have : z_t2 11 = 1 := by decide
      have : z_t2 (z_hd l) = 0 := by rw [q]; decide
      omega
theorem z_top11 {l : List Int} (h : z_wm l) (h9 : ¬ z_hd l = 9) : z_hd (z_pp 11 (z_pp 10 l)) = 12 := by
  have a1 := z_pp_n9 (Or.inl rfl) l h h9
  have w1 := z_pp_wm (w := 10) l h
  have a2 := z_pp_hd (w := 10) (by decide) l
  have a3 := z_pp_n9 (Or.inr rfl) (z_pp 10 l) w1 a1
  have a4 := z_pp_hd (w := 11) (by decide) (z_pp 10 l)
  have w2 := z_pp_wm (w := 11) (z_pp 10 l) w1
  have hd := z_wm_hd w2
  have a5 : ¬ z_hd (z_pp 11 (z_pp 10 l)) = 10 := by
    generalize z_pp 10 l = m at w1 a2
    revert w1 a2
    cases m with
    | nil => intro _ _ z; exact absurd (show (12 : Int) = 10 from z) (by decide)
    | cons x m =>
      intro w1 a2
      have a2 : ¬ x = 10 := a2
      by_cases e : x = 11
      · rw [z_pp_p e]
        have q := w1.2
        unfold z_ok2 at q
        have q : z_hd m = 12 := by omega
        cases m with
        | nil => exact fun z => absurd (show (12 : Int) = 10 from z) (by decide)
        | cons y m =>
          have q : y = 12 := q
          rw [z_pp_s (by omega)]
          show ¬ y = 10
          omega
      · rw [z_pp_s e]
        exact a2
  omega
def z_ap (h : mq_H) : List Int → Prop
  | [] => True
  | x :: l => (mq_I h 90 l.length).toInt = x ∧ z_ap h l
theorem z_ap_fr (f : ∀ k, mq_I h2 90 k = mq_I h 90 k) : ∀ l, z_ap h l → z_ap h2 l
  | [], _ => trivial
  | x :: l, H => ⟨by rw [f]; exact H.1, z_ap_fr f l H.2⟩
theorem z_ap_up {m : Nat} (f : ∀ k, ¬ k = m → mq_I h2 90 k = mq_I h 90 k) : ∀ l, l.length ≤ m → z_ap h l → z_ap h2 l
  | [], _, _ => trivial
  | x :: l, hm, H => by
    have hm : l.length + 1 ≤ m := hm
    exact ⟨by rw [f _ (by omega)]; exact H.1, z_ap_up f l (by omega) H.2⟩
def z_MS (h : mq_H) (l : List Int) : Prop := z_wm l ∧ z_ap h l ∧ mq_I h 59 42 = nI l.length ∧ mq_I h 59 40 = nI (z_sm l).length ∧ (z_sm l).length ≤ 8
theorem z_wm_26 {l : List Int} (h : z_wm l) (h8 : (z_sm l).length ≤ 8) : l.length ≤ 26 := by
  have h1 := z_wm_len l h
  have h2 := z_br_le (z_sm l)
  have t2 : z_t2 (z_hd l) ≤ 2 := z_t2_le _
  omega
theorem z_MS.fr {l : List Int} (P : z_MS h l) (f : ∀ k, mq_I h2 90 k = mq_I h 90 k) (f1 : mq_I h2 59 42 = mq_I h 59 42) (f2 : mq_I h2 59 40 = mq_I h 59 40) : z_MS h2 l := ⟨P.1, z_ap_fr f l P.2.1, f1.trans P.2.2.1, f2.trans P.2.2.2.1, P.2.2.2.2⟩
def z_gs (h h2 : mq_H) : Prop := ∀ a k, ¬ a = 88 → ¬ a = 89 → ¬ a = 90 → ¬ (a = 59 ∧ (k = 39 ∨ k = 40 ∨ k = 42)) → mq_I h2 a k = mq_I h a k
theorem z_gs.tr (a : z_gs h h1) (c : z_gs h1 h2) : z_gs h h2 := fun x k p q r s => (c x k p q r s).trans (a x k p q r s)
theorem z_MT.gs {t : z_T} (MT : z_MT h t) (f : z_gs h h2) : z_MT h2 t := by
  obtain ⟨m1, m2, m3⟩ := MT
  have e1 := f 59 28 (by decide) (by decide) (by decide) (by omega)
  have e2 := f 59 29 (by decide) (by decide) (by decide) (by omega)
  exact ⟨(f _ _ (by decide) (by decide) (by decide) (by omega)).trans m1, (f _ _ (by decide) (by decide) (by decide) (by omega)).trans m2, by rw [e1, e2]; exact m3⟩
theorem z_mset {w : Int32} {wi : Int} (hw : w.toInt = wi) (hwi : wi = 9 ∨ wi = 10 ∨ wi = 11) {l : List Int} (P : z_MS h l) (N : Nat) : mq_PC mq_G (mq_tT lL) N 172 [.retAddr 59, .int w] h (fun v h2 => v = none ∧ z_gs h h2 ∧ z_MS h2 (z_pp wi l)) := by
  have lp : ∀ (N : Nat) (l : List Int) (h1 : mq_H), z_gs h h1 → z_MS h1 l → mq_Pn mq_G (mq_tT lL) N 172 0 [some (.retAddr 59), some (.int w)] [] h1 (fun v h2 => v = none ∧ z_gs h h2 ∧ z_MS h2 (z_pp wi l)) := by
    intro N
    induction N with
    | zero => intro l h1 _ _; exact mq_Pn.z
    | succ N ih =>
      intro l h1 F P
      have l26 := z_wm_26 P.1 P.2.2.2.2
      obtain ⟨p1, p2, p3, p4, p5⟩ := P
      refine mq_gl 60 [0] ?_
      cases l with
      | nil =>
        refine bq_t (by show mq_I h1 59 42 ≤ 0; rw [p3]; decide) ?_
        exact ⟨rfl, F, p1, p2, p3, p4, p5⟩
      | cons x l =>
        have l26 : l.length + 1 ≤ 26 := l26
        have p3 : mq_I h1 59 42 = nI (l.length + 1) := p3
        refine bq_f (by show ¬ mq_I h1 59 42 ≤ 0; rw [p3, le_i, nI_toInt (by omega)]; show ¬ ((l.length + 1 : Nat) : Int) ≤ 0; omega) ?_
        intro _
        have cl : (mq_I h1 59 42 - 1).toNatClampNeg = l.length := by rw [p3, y_nI1, nI_clamp (by omega)]
        rw [cl]
        refine bn_c (fun ne => ?_) (fun eq => ?_)
        · have ne : ¬ x = wi := fun z => ne (x_toI (p2.1.trans z) hw)
          rw [z_pp_s ne]
          exact ⟨rfl, F, p1, p2, p3, p4, p5⟩
        · have eq : x = wi := by rw [← p2.1, ← hw]; exact congrArg Int32.toInt eq
          rw [z_pp_p eq]
          refine mq_PC.mono (z_emits N) (fun v h2 ⟨ev, f⟩ => ?_)
          subst ev
          have gs2 : z_gs h h2 := F.tr (fun a k p q r s => (f a k p q (fun z => s ⟨z.1, by omega⟩)).trans (ck_setI_at (fun z => s ⟨z.1, by omega⟩)))
          have ap2 : z_ap h2 l := z_ap_fr (fun k => f _ _ (by decide) (by decide) (by omega)) l (z_ap_fr (h := h1) (h2 := mq_setI h1 59 42 (mq_I h1 59 42 - 1)) (fun _ => rfl) l p2.2)
          have pe2 : mq_I h2 59 42 = nI l.length := (f _ _ (by decide) (by decide) (by omega)).trans (by show mq_I h1 59 42 - 1 = _; rw [p3, y_nI1])
          have op2 : mq_I h2 59 40 = nI (z_sm (x :: l)).length := (f _ _ (by decide) (by decide) (by omega)).trans p4
          refine bn_c (fun n9 => ?_) (fun e9 => ?_)
          · have n9 : ¬ wi = 9 := fun z => n9 (x_toI (hw.trans z) rfl)
            rw [z_sm_o (by omega) (by omega)] at op2 p5
            exact ih l h2 gs2 ⟨p1.1, ap2, pe2, op2, p5⟩
          · have e9 : wi = 9 := by rw [← hw]; exact y_eq e9 rfl
            have ex : x = 9 := by omega
            rw [ex, z_sm_n] at op2 p5
            have p5 : (z_sm l).length + 1 ≤ 8 := p5
            refine ih l _ (gs2.tr (fun a k p q r s => ck_setI_at (fun z => s ⟨z.1, by omega⟩))) ⟨p1.1, z_ap_fr (h := h2) (h2 := mq_setI h2 59 40 (mq_I h2 59 40 - 1)) (fun _ => rfl) l ap2, pe2, ?_, by omega⟩
            show mq_I h2 59 40 - 1 = _
            rw [op2]
            exact y_nI1 _
  intro L hL
  have e : L = [some (.retAddr 59), some (.int w)] := by
    have : mq_args mq_G 172 [.retAddr 59, .int w] = some [some (.retAddr 59), some (.int w)] := rfl
    rw [this] at hL
    exact (Option.some.inj hL).symm
  rw [e]
  exact lp N l h (fun _ _ _ _ _ _ => rfl) P
theorem z_waits {x : Int32} {xi : Int} (hx : x.toInt = xi) {l : List Int} (P : z_MS h l) (ok : z_ok2 xi (z_hd l)) (op : mq_I h1 59 40 = nI (z_sm (xi :: l)).length) (o8 : (z_sm (xi :: l)).length ≤ 8) (f : ∀ a k, ¬ (a = 59 ∧ k = 40) → mq_I h1 a k = mq_I h a k) (N : Nat) : mq_PC mq_G (mq_tT lL) N 171 [.retAddr 59, .int x] h1 (fun v h2 => v = none ∧ z_gs h h2 ∧ z_MS h2 (xi :: l)) := by
  have l26 := z_wm_26 P.1 P.2.2.2.2
  have ep : mq_I h1 59 42 = nI l.length := (f _ _ (by omega)).trans P.2.2.1
  have cl : (mq_I h1 59 42).toNatClampNeg = l.length := x_cl ep (by omega)
  revert N
  refine mq_el_in 40 [] (fun N => ?_)
  intro _
  refine ⟨rfl, fun a k p q r s => (ck_setI_at (fun z => s ⟨z.1, by omega⟩)).trans ((ck_setI_at (fun z => r z.1)).trans (f a k (fun z => s ⟨z.1, by omega⟩))), ⟨P.1, ok⟩, ⟨?_, z_ap_up (h := h) (m := l.length) (fun k hk => ?_) l (Nat.le_refl _) P.2.1⟩, ?_, op, o8⟩
  · show (if l.length = (mq_I h1 59 42).toNatClampNeg then x else mq_I h1 90 l.length).toInt = xi
    rw [if_pos cl.symm, hx]
  · show (if k = (mq_I h1 59 42).toNatClampNeg then x else mq_I h1 90 k) = _
    rw [cl, if_neg hk]
    exact f _ _ (by omega)
  · show mq_I h1 59 42 + 1 = _
    rw [ep, nI_1]
    rfl
/-- the places that the text is read from -/
def z_ga (h h2 : mq_H) : Prop := ∀ a k, (a = 80 ∨ a = 81 ∨ (a = 59 ∧ (k = 25 ∨ k = 45 ∨ k = 46))) → mq_I h2 a k = mq_I h a k
theorem z_ga.rf (h : mq_H) : z_ga h h := fun _ _ _ => rfl
theorem z_ga.tr (a : z_ga h h1) (c : z_ga h1 h2) : z_ga h h2 := fun x k p => (c x k p).trans (a x k p)
theorem z_gu.ga (a : z_gu h h2) : z_ga h h2 := fun x k p => a x k (by omega) (by omega) (by omega)
theorem z_gs.ga (a : z_gs h h2) : z_ga h h2 := fun x k p => a x k (by omega) (by omega) (by omega) (by omega)
theorem z_TM.ga (F : z_ga h h1) (T : z_TM h b n) : z_TM h1 b n := ⟨(F _ _ (by omega)).trans T.1, T.2.1, fun i hi => by rw [F _ _ (by omega)]; exact T.2.2.1 i hi, fun k hk => (F _ _ (by omega)).trans (T.2.2.2 k hk)⟩
theorem z_MS.gu {l : List Int} (P : z_MS h l) (F : z_gu h h2) : z_MS h2 l := P.fr (fun k => F _ _ (by decide) (by decide) (by omega)) (F _ _ (by decide) (by decide) (by omega)) (F _ _ (by decide) (by decide) (by omega))
def z_PA (b : Nat → Int) (n : Nat) (h : mq_H) (s : z_S) (t : z_T) (c : Nat) (v : Option Value) (h2 : mq_H) : Prop := z_ga h h2 ∧ ((v = some (.int (-1)) ∧ ∃ e f, mq_I h2 59 43 = nI e ∧ ¬ e = 0 ∧ e < 10 ∧ mq_I h2 59 44 = nI f ∧ z_AR b n s t (.inl (e, f))) ∨ (v = some (.int 0) ∧ mq_I h2 59 40 = 0 ∧ ∃ t', z_MT h2 t' ∧ z_tk n t' ∧ z_K b n s t (27, false, [], c) t'))
theorem z_dn_0 : ∀ s, z_br s = 0 → z_dn s = []
  | [], _ => rfl
  | false :: s, h => z_dn_0 s h
  | true :: s, h => by
    have h : z_br s + 1 = 0 := h
    omega
theorem z_dn_hd : ∀ s, 0 < z_br s → ∃ s2, z_dn s = true :: s2
  | [], h => absurd h (by decide)
  | false :: s, h => z_dn_hd s h
  | true :: s, _ => ⟨s, rfl⟩
theorem z_any (TM : z_TM h b n) {t : z_T} {c : Nat} (MT : z_MT h t) (tk : z_tk n t) (o0 : mq_I h 59 40 = 0) (N : Nat) : mq_PC mq_G (mq_tT lL) N 173 [.retAddr 59] h (z_PA b n h (0, false, [], c) t c) := by
  have er : ∀ {h1 : mq_H} {t1 : z_T} {e : Nat}, z_ga h h1 → z_MT h1 t1 → ¬ e = 0 → e < 10 → z_AR b n (0, false, [], c) t (.inl (e, t1.2.2.1)) → z_PA b n h (0, false, [], c) t c (some (.int (-1))) (mq_setI (mq_setI h1 59 43 (nI e)) 59 44 (mq_I h1 59 27)) := fun {h1 t1 e} F MT e0 e1 A => ⟨fun a k p => (ck_setI_at (fun z => by omega)).trans ((ck_setI_at (fun z => by omega)).trans (F a k p)), Or.inl ⟨rfl, e, t1.2.2.1, rfl, e0, e1, MT.1, A⟩⟩
  have lp : ∀ (N : Nat), (∀ (l : List Int) (br : Int32) (l3 : Option Value) (t1 : z_T) (h1 : mq_H), z_ga h h1 → z_MT h1 t1 → z_tk n t1 → z_MS h1 l → br = nI (z_br (z_sm l)) → z_K b n (0, false, [], c) t (0, false, z_sm l, c) t1 → mq_Pn mq_G (mq_tT lL) N 173 9 [some (.retAddr 59), some (.int br), some (.int 1), l3] [] h1 (z_PA b n h (0, false, [], c) t c)) ∧ (∀ (l : List Int) (S : List Bool) (r : Bool) (br : Int32) (l3 : Option Value) (t1 : z_T) (h1 : mq_H), z_ga h h1 → z_MT h1 t1 → z_tk n t1 → z_MS h1 l → ¬ z_hd l = 9 → z_sm l = z_dn S → br = nI (z_br S) → z_K b n (0, false, [], c) t (5, r, S, c) t1 → mq_Pn mq_G (mq_tT lL) N 173 9 [some (.retAddr 59), some (.int br), some (.int 0), l3] [] h1 (z_PA b n h (0, false, [], c) t c)) := by
    intro N
    induction N with
    | zero => exact ⟨fun l br l3 t1 h1 _ _ _ _ _ _ => mq_Pn.z, fun l S r br l3 t1 h1 _ _ _ _ _ _ _ _ => mq_Pn.z⟩
    | succ N ih =>
      obtain ⟨ih1, ih0⟩ := ih
      refine ⟨fun l br l3 t1 h1 F MT1 tk1 P eb K => ?_, fun l S r br l3 t1 h1 F MT1 tk1 P n9 es eb K => ?_⟩
      · -- due
        have p8 := P.2.2.2.2
        have po := P.2.2.2.1
        have k33 : ∀ y : Int32, (y = 0 ∧ t1.1 = 40) ∨ (y = 1 ∧ t1.1 = 279) → mq_Pn mq_G (mq_tT lL) N 173 33 [some (.retAddr 59), some (.int br), some (.int 1), some (.int y)] [] h1 (z_PA b n h (0, false, [], c) t c) := by
          intro y hy
          have hk : t1.1 = 279 ∨ t1.1 = 40 := by omega
          refine (mq_gl (n := N) 60 [66] ?_).dn (by omega)
          refine bn_c (fun no8 => ?_) (fun o8 => ?_)
          · have no8 : ¬ (z_sm l).length = 8 := fun z => no8 (by show mq_I h1 59 40 = 8; rw [po, z]; rfl)
            have wt : ∀ (br2 x : Int32) (xi : Int), x.toInt = xi → (xi = 9 ∧ t1.1 = 279) ∨ (xi = 12 ∧ t1.1 = 40) → br2 = nI (z_br (z_sm (xi :: l))) → mq_Pn mq_G (mq_tT lL) N 173 78 [some (.retAddr 59), some (.int br2), some (.int 1), some (.int y)] [.int x, .retAddr 59] (mq_setI h1 59 40 (mq_I h1 59 40 + 1)) (z_PA b n h (0, false, [], c) t c) := by
              intro br2 x xi hx hxi eb2
              have sl : z_sm (xi :: l) = decide (t1.1 = 40) :: z_sm l := by
                rcases hxi with ⟨e, e2⟩ | ⟨e, e2⟩
                · rw [e, e2, z_sm_n]; rfl
                · rw [e, e2, z_sm_b]; rfl
              refine (mq_gl (n := N) 60 [9] ?_).dn (by omega)
              refine mq_PC.mono (z_waits (h := h1) hx P (by
                have := z_wm_hd P.1
                unfold z_ok2
                omega) (by show mq_I h1 59 40 + 1 = _; rw [po, nI_1, sl]; rfl) (by rw [sl]; show (z_sm l).length + 1 ≤ 8; omega) (fun a k z => ck_setI_at z) N) (fun v h2 ⟨ev, G2, P2⟩ => ?_)
              subst ev
              refine mq_PC.mono (z_rdS ((TM.ga F).ga G2.ga) (MT1.gs G2) tk1 N) (fun v h3 ⟨ev, t2, lx, MT3, tk3, F3⟩ => ?_)
              subst ev
              refine ih1 (xi :: l) _ _ t2 h3 ((F.tr G2.ga).tr F3.ga) MT3 tk3 (P2.gu F3) eb2 ?_
              rw [sl]
              exact K.tr (z_nx (z_s0o hk (by omega)) lx)
            rcases hy with ⟨rfl, e⟩ | ⟨rfl, e⟩
            · refine bn_f rfl ?_
              have k66 : mq_Pn mq_G (mq_tT lL) N 173 66 [some (.retAddr 59), some (.int (br + 1)), some (.int 1), some (.int 0)] [] (mq_setI h1 59 40 (mq_I h1 59 40 + 1)) (z_PA b n h (0, false, [], c) t c) := by
                refine (mq_gl (n := N) 60 [78] ?_).dn (by omega)
                refine bq_t rfl ?_
                exact wt _ _ 12 rfl (Or.inr ⟨rfl, e⟩) (by rw [eb, nI_1]; rfl)
              exact k66
            · refine bn_t (by decide) ?_
              have k66 : mq_Pn mq_G (mq_tT lL) N 173 66 [some (.retAddr 59), some (.int br), some (.int 1), some (.int 1)] [] (mq_setI h1 59 40 (mq_I h1 59 40 + 1)) (z_PA b n h (0, false, [], c) t c) := by
                refine (mq_gl (n := N) 60 [78] ?_).dn (by omega)
                refine bq_f (by decide) ?_
                exact wt _ _ 9 rfl (Or.inl ⟨rfl, e⟩) eb
              exact k66
          · have o8 : (z_sm l).length = 8 := by
              have o8 : mq_I h1 59 40 = 8 := o8
              rw [po] at o8
              have := congrArg Int32.toInt o8
              rw [nI_toInt (by omega)] at this
              have : ((z_sm l).length : Int) = 8 := this
              omega
            have E := er (e := 3) F MT1 (by decide) (by decide) (K _ (z_ft (z_s0f hk (by omega))))
            exact z_errs E
        have k88 : ¬ (t1.1 = 279 ∨ t1.1 = 40) → ∀ l3, mq_Pn mq_G (mq_tT lL) N 173 88 [some (.retAddr 59), some (.int br), some (.int 1), l3] [] h1 (z_PA b n h (0, false, [], c) t c) := by
          intro nk l3
          have K1 := K.tr (z_sy (z_s0q nk))
          refine (mq_gl (n := N) 60 [9] ?_).dn (by omega)
          refine mq_PC.mono (z_comp (TM.ga F) MT1 tk1 (S := z_sm l) (c := c) N) (fun v h2 ⟨F2, hv⟩ => ?_)
          rcases hv with ⟨ev, e, f, p1, p2, p3, p4, p5⟩ | ⟨ev, t2, MT2, tk2, nc, K2⟩
          · subst ev
            refine bn_f rfl ?_
            exact ⟨F.tr F2.ga, Or.inl ⟨rfl, e, f, p1, p2, p3, p4, K1 _ p5⟩⟩
          · subst ev
            refine bn_t (by decide) ?_
            refine mq_PC.mono (z_mset (wi := 9) rfl (Or.inl rfl) (P.gu F2) N) (fun v h3 ⟨ev, G3, P3⟩ => ?_)
            subst ev
            exact ih0 (z_pp 9 l) (z_sm l) true _ _ t2 h3 ((F.tr F2.ga).tr G3.ga) (MT2.gs G3) tk2 P3 (z_pp_hd (by decide) l) (z_pp_sm9 l P.1) eb ((K1.tr K2).tr (z_sy (z_s4n nc)))
        refine mq_gl 60 [33, 88] ?_
        refine bq_f (by decide) ?_
        refine z_isW MT1 (w := 23) (by decide) rfl (fun e => ?_) (fun e => ?_)
        · have e : t1.1 = 279 := e
          refine bn_t (by decide) ?_
          exact k33 1 (Or.inr ⟨rfl, e⟩)
        · have e : ¬ t1.1 = 279 := e
          refine bn_f rfl ?_
          refine z_isS MT1 (k := 40) rfl (by unfold z_sg; omega) (fun e2 => ?_) (fun e2 => ?_)
          · refine bq_f (by decide) ?_
            exact k33 0 (Or.inl ⟨rfl, e2⟩)
          · refine bq_t rfl ?_
            exact k88 (by omega) _
      · -- behind a comparison or a bracket
        have p8 := P.2.2.2.2
        have bS := z_br_dn S
        have bl := z_br_le (z_dn S)
        rw [es] at p8
        have hd := z_wm_hd P.1
        refine mq_gl 90 [9, 175] ?_
        refine bq_t rfl ?_
        refine z_isW MT1 (w := 22) (by decide) rfl (fun e => ?_) (fun e => ?_)
        · have e : t1.1 = 278 := e
          refine bq_f (by decide) ?_
          refine mq_PC.mono (z_mset (wi := 10) rfl (Or.inr (Or.inl rfl)) P N) (fun v h2 ⟨ev, G2, P2⟩ => ?_)
          subst ev
          have h10 := z_pp_hd (w := 10) (by decide) l
          have h9 := z_pp_n9 (Or.inl rfl) l P.1 n9
          have hd2 := z_wm_hd P2.1
          have sm2 : z_sm (10 :: z_pp 10 l) = z_dn S := by rw [z_sm_o (by decide) (by decide), z_pp_smo (by decide) (by decide), es]
          refine mq_PC.mono (z_waits (h := h2) (xi := 10) rfl P2 (by unfold z_ok2; omega) (by rw [z_sm_o (by decide) (by decide)]; exact P2.2.2.2.1) (by rw [sm2]; exact p8) (fun _ _ _ => rfl) N) (fun v h3 ⟨ev, G3, P3⟩ => ?_)
          subst ev
          refine mq_PC.mono (z_rdS ((TM.ga F).ga (G2.tr G3).ga) (MT1.gs (G2.tr G3)) tk1 N) (fun v h4 ⟨ev, t2, lx, MT4, tk4, F4⟩ => ?_)
          subst ev
          refine ih1 (10 :: z_pp 10 l) br _ t2 h4 ((F.tr (G2.tr G3).ga).tr F4.ga) MT4 tk4 (P3.gu F4) (by rw [sm2, bS]; exact eb) ?_
          rw [sm2]
          exact K.tr (z_nx (z_s5a (Or.inr e)) lx)
        · have e : ¬ t1.1 = 278 := e
          refine bq_t rfl ?_
          refine z_isW MT1 (w := 21) (by decide) rfl (fun e2 => ?_) (fun e2 => ?_)
          · have e2 : t1.1 = 277 := e2
            refine bq_f (by decide) ?_
            refine mq_PC.mono (z_mset (wi := 10) rfl (Or.inr (Or.inl rfl)) P N) (fun v h2 ⟨ev, G2, P2⟩ => ?_)
            subst ev
            refine mq_PC.mono (z_mset (wi := 11) rfl (Or.inr (Or.inr rfl)) P2 N) (fun v h2' ⟨ev, G2', P2'⟩ => ?_)
            subst ev
            have h12 := z_top11 P.1 n9
            have sm2 : z_sm (11 :: z_pp 11 (z_pp 10 l)) = z_dn S := by rw [z_sm_o (by decide) (by decide), z_pp_smo (by decide) (by decide), z_pp_smo (by decide) (by decide), es]
            refine mq_PC.mono (z_waits (h := h2') (xi := 11) rfl P2' (by unfold z_ok2; omega) (by rw [z_sm_o (by decide) (by decide)]; exact P2'.2.2.2.1) (by rw [sm2]; exact p8) (fun _ _ _ => rfl) N) (fun v h3 ⟨ev, G3, P3⟩ => ?_)
            subst ev
            refine mq_PC.mono (z_rdS ((TM.ga F).ga ((G2.tr G2').tr G3).ga) (MT1.gs ((G2.tr G2').tr G3)) tk1 N) (fun v h4 ⟨ev, t2, lx, MT4, tk4, F4⟩ => ?_)
            subst ev
            refine ih1 (11 :: z_pp 11 (z_pp 10 l)) br _ t2 h4 ((F.tr ((G2.tr G2').tr G3).ga).tr F4.ga) MT4 tk4 (P3.gu F4) (by rw [sm2, bS]; exact eb) ?_
            rw [sm2]
            exact K.tr (z_nx (z_s5a (Or.inl e2)) lx)
          · have e2 : ¬ t1.1 = 277 := e2
            refine bq_t rfl ?_
            have nao : ¬ (t1.1 = 277 ∨ t1.1 = 278) := by omega
            have k175 : mq_Pn mq_G (mq_tT lL) N 173 175 [some (.retAddr 59), some (.int br), some (.int 0), l3] [] h1 (z_PA b n h (0, false, [], c) t c) := by
              refine (mq_gl (n := N) 90 [9] ?_).dn (by omega)
              refine mq_PC.mono (z_mset (wi := 10) rfl (Or.inr (Or.inl rfl)) P N) (fun v h2 ⟨ev, G2, P2⟩ => ?_)
              subst ev
              refine mq_PC.mono (z_mset (wi := 11) rfl (Or.inr (Or.inr rfl)) P2 N) (fun v h3 ⟨ev, G3, P3⟩ => ?_)
              subst ev
              have h12 := z_top11 P.1 n9
              have sm3 : z_sm (z_pp 11 (z_pp 10 l)) = z_dn S := by rw [z_pp_smo (by decide) (by decide), z_pp_smo (by decide) (by decide), es]
              have MT3 := MT1.gs (G2.tr G3)
              have F3 := F.tr (G2.tr G3).ga
              refine bn_c (fun nb => ?_) (fun b0 => ?_)
              · have nb : 0 < z_br S := by
                  rcases Nat.eq_zero_or_pos (z_br S) with z | z
                  · exact absurd (by rw [eb, z]; rfl) nb
                  · exact z
                obtain ⟨S2, eS2⟩ := z_dn_hd S nb
                refine z_isS MT3 (k := 41) rfl (by unfold z_sg; omega) (fun e3 => ?_) (fun e3 => ?_)
                · refine bn_t (by decide) ?_
                  obtain ⟨l4, el4⟩ : ∃ l4, z_pp 11 (z_pp 10 l) = 12 :: l4 := by
                    cases el : z_pp 11 (z_pp 10 l) with
                    | nil =>
                      rw [el, eS2] at sm3
                      cases sm3
                    | cons x l4 =>
                      rw [el] at h12
                      have h12 : x = 12 := h12
                      exact ⟨l4, by rw [h12]⟩
                  rw [el4] at P3 sm3
                  rw [z_sm_b, eS2] at sm3
                  have sm4 : z_sm l4 = S2 := List.tail_eq_of_cons_eq sm3
                  obtain ⟨p1, p2, p3, p4, p5⟩ := P3
                  rw [z_sm_b] at p4 p5
                  have p5 : (z_sm l4).length + 1 ≤ 8 := p5
                  have P4 : z_MS (mq_setI (mq_setI h3 59 42 (mq_I h3 59 42 - 1)) 59 40 (mq_I h3 59 40 - 1)) l4 := ⟨p1.1, z_ap_fr (h := h3) (h2 := mq_setI (mq_setI h3 59 42 (mq_I h3 59 42 - 1)) 59 40 (mq_I h3 59 40 - 1)) (fun _ => rfl) l4 p2.2, by show mq_I h3 59 42 - 1 = _; rw [p3]; exact y_nI1 _, by show mq_I h3 59 40 - 1 = _; rw [p4]; exact y_nI1 _, by omega⟩
                  have G4 : z_gs h3 (mq_setI (mq_setI h3 59 42 (mq_I h3 59 42 - 1)) 59 40 (mq_I h3 59 40 - 1)) := fun a k p q r s => (ck_setI_at (fun z => s ⟨z.1, by omega⟩)).trans (ck_setI_at (fun z => s ⟨z.1, by omega⟩))
                  refine mq_PC.mono (z_mset (wi := 9) rfl (Or.inl rfl) P4 N) (fun v h5 ⟨ev, G5, P5⟩ => ?_)
                  subst ev
                  have G45 := G4.tr G5
                  refine mq_PC.mono (z_rdS ((TM.ga F3).ga G45.ga) (MT3.gs G45) tk1 N) (fun v h6 ⟨ev, t2, lx, MT6, tk6, F6⟩ => ?_)
                  subst ev
                  have bd : z_br S = z_br S2 + 1 := by rw [← bS, eS2]; rfl
                  refine ih0 (z_pp 9 l4) S2 r _ _ t2 h6 ((F3.tr G45.ga).tr F6.ga) MT6 tk6 (P5.gu F6) (z_pp_hd (by decide) l4) (by rw [z_pp_sm9 l4 p1.1, sm4]) (by rw [eb, bd]; exact y_nI1 _) ?_
                  have st := z_s5c (r := r) (S := S) (c := c) (z := t1.2.1) e3 nb
                  rw [eS2] at st
                  exact K.tr (z_nx st lx)
                · refine bn_f rfl ?_
                  have E := er (e := 1) F3 MT3 (by decide) (by decide) (K _ (z_ft (z_s5f nao e3 nb)))
                  exact z_errs E
              · have b0 : z_br S = 0 := by
                  have b0 : br = 0 := b0
                  rw [eb] at b0
                  have := congrArg Int32.toInt b0
                  rw [nI_toInt (by omega)] at this
                  have : (z_br S : Int) = 0 := this
                  omega
                refine ⟨F3, Or.inr ⟨rfl, ?_, t1, MT3, tk1, K.tr (z_sy (z_s5e nao (by omega)))⟩⟩
                rw [P3.2.2.2.1, sm3, z_dn_0 S b0]
                rfl
            exact k175
  revert N
  refine mq_el_in 40 [9] (fun N => ?_)
  exact (lp N).1 [] _ _ t _ (fun a k p => ck_setI_at (fun z => by omega)) MT tk ⟨trivial, trivial, rfl, o0, by decide⟩ rfl z_K.rf
end ZL
