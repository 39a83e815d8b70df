/-! the class: what waits -/
section ZF
variable {lL : Nat} {h h1 h2 : mq_H} {Q : Option Value → mq_H → Prop} {b : Nat → Int} {n : Nat}
def z_lvt : List Int → Int
  | [] => 0
  | x :: _ => z_lv x
def z_ok1 (x : Int) (v : Int) : Prop := (x = 40 ∧ v ≤ 3) ∨ (x = 279 ∧ v ≤ 3) ∨ (x = 277 ∧ v < 1) ∨ (x = 278 ∧ v < 2) ∨ ((x = 60 ∨ x = 61 ∨ x = 62) ∧ v < 4) ∨ ((x = 43 ∨ x = 45) ∧ v < 5) ∨ ((x = 42 ∨ x = 47) ∧ v < 6)
def z_wl : List Int → Prop
  | [] => True
  | x :: l => z_wl l ∧ z_ok1 x (z_lvt l)
def z_sb : List Int → List Bool
  | [] => []
  | x :: l => if x = 40 then true :: z_sb l else if x = 279 then false :: z_sb l else z_sb l
theorem z_sb_b (l : List Int) : z_sb (40 :: l) = true :: z_sb l := rfl
theorem z_sb_n (l : List Int) : z_sb (279 :: l) = false :: z_sb l := rfl
theorem z_sb_o {x : Int} (h1 : ¬ x = 40) (h2 : ¬ x = 279) (l : List Int) : z_sb (x :: l) = z_sb l := by
  show (if x = 40 then true :: z_sb l else if x = 279 then false :: z_sb l else z_sb l) = _
  rw [if_neg h1, if_neg h2]
/-- what stays when all that binds so strongly is put down -/
def z_sp (v : Int) : List Int → List Int
  | [] => []
  | x :: l => if v ≤ z_lv x then z_sp v l else x :: l
theorem z_sp_p {v x : Int} (h : v ≤ z_lv x) (l : List Int) : z_sp v (x :: l) = z_sp v l := if_pos h
theorem z_sp_s {v x : Int} (h : ¬ v ≤ z_lv x) (l : List Int) : z_sp v (x :: l) = x :: l := if_neg h
theorem z_sp_wl {v : Int} : ∀ l, z_wl l → z_wl (z_sp v l)
  | [], _ => trivial
  | x :: l, h => by
    by_cases e : v ≤ z_lv x
    · rw [z_sp_p e]
      exact z_sp_wl l h.1
    · rw [z_sp_s e]
      exact h
theorem z_sp_lv {v : Int} (hv : 0 < v) : ∀ l, z_lvt (z_sp v l) < v
  | [] => hv
  | x :: l => by
    by_cases e : v ≤ z_lv x
    · rw [z_sp_p e]
      exact z_sp_lv hv l
    · rw [z_sp_s e]
      show z_lv x < v
      omega
theorem z_lv_40 : z_lv 40 = 0 := by decide
theorem z_lv_279 : z_lv 279 = 3 := by decide
theorem z_sp_sb4 {v : Int} (hv : 4 ≤ v) : ∀ l, z_sb (z_sp v l) = z_sb l
  | [] => rfl
  | x :: l => by
    by_cases e : v ≤ z_lv x
    · rw [z_sp_p e, z_sp_sb4 hv l, z_sb_o (fun z => by rw [z, z_lv_40] at e; omega) (fun z => by rw [z, z_lv_279] at e; omega)]
    · rw [z_sp_s e]
theorem z_wl_0 {l : List Int} (h : z_wl l) (h0 : z_lvt l < 1) : z_dn (z_sb l) = z_sb l := by
  cases l with
  | nil => rfl
  | cons x l =>
    have h0 : z_lv x < 1 := h0
    have hx : x = 40 := by
      have := h.2
      unfold z_ok1 at this
      unfold z_lv at h0
      rcases this with e | e | e | e | e | e | e
      · exact e.1
      · exfalso; rw [e.1] at h0; revert h0; decide
      · exfalso; rw [e.1] at h0; revert h0; decide
      · exfalso; rw [e.1] at h0; revert h0; decide
      · exfalso
        rcases e.1 with e | e | e <;> (rw [e] at h0; revert h0; decide)
      · exfalso
        rcases e.1 with e | e <;> (rw [e] at h0; revert h0; decide)
      · exfalso
        rcases e.1 with e | e <;> (rw [e] at h0; revert h0; decide)
    rw [hx, z_sb_b]
    rfl
theorem z_sp_dn {v : Int} (hv : v = 1 ∨ v = 2) : ∀ l, z_wl l → z_sb (z_sp v l) = z_dn (z_sb l)
  | [], _ => rfl
  | x :: l, h => by
    by_cases e : v ≤ z_lv x
    · rw [z_sp_p e, z_sp_dn hv l h.1]
      by_cases e9 : x = 279
      · rw [e9, z_sb_n]
        rfl
      · rw [z_sb_o (fun z => by rw [z, z_lv_40] at e; omega) e9]
    · rw [z_sp_s e]
      by_cases e4 : x = 40
      · rw [e4, z_sb_b]
        rfl
      · by_cases e9 : x = 279
        · rw [e9, z_lv_279] at e
          omega
        · rw [z_sb_o e4 e9]
          have hl : z_lvt l < 1 := by
            have := h.2
            unfold z_ok1 at this
            rcases this with q | q | q | q | q | q | q
            · exact absurd q.1 e4
            · exact absurd q.1 e9
            · exact q.2
            · exfalso
              rw [q.1, show z_lv 278 = 2 by decide] at e
              omega
            · exfalso
              rcases q.1 with q | q | q <;> rw [q] at e <;> revert e <;> rcases hv with e2 | e2 <;> rw [e2] <;> decide
            · exfalso
              rcases q.1 with q | q <;> rw [q] at e <;> revert e <;> rcases hv with e2 | e2 <;> rw [e2] <;> decide
            · exfalso
              rcases q.1 with q | q <;> rw [q] at e <;> revert e <;> rcases hv with e2 | e2 <;> rw [e2] <;> decide
          exact (z_wl_0 h.1 hl).symm
/-- how much can wait -/
def z_tt (v : Int) : Nat := if v ≤ 0 then 0 else if v ≤ 1 then 1 else if v ≤ 3 then 2 else (v - 1).toNat
theorem z_wl_len : ∀ l, z_wl l → l.length ≤ (z_sb l).length + 2 * z_br (z_sb l) + z_tt (z_lvt l)
  | [], _ => Nat.zero_le _
  | x :: l, h => by
    have ih := z_wl_len l h.1
    have hx := h.2
    unfold z_ok1 at hx
    have tt : ∀ w, z_lvt l ≤ w → z_tt (z_lvt l) ≤ z_tt w := fun w hw => by
      unfold z_tt
      repeat' split
      all_goals omega
    show l.length + 1 ≤ _ + _ + z_tt (z_lv x)
    rcases hx with ⟨e, q⟩ | ⟨e, q⟩ | ⟨e, q⟩ | ⟨e, q⟩ | ⟨e, q⟩ | ⟨e, q⟩ | ⟨e, q⟩
    · have := tt 3 q
      rw [e, z_sb_b, z_lv_40]
      show _ ≤ ((z_sb l).length + 1) + 2 * (z_br (z_sb l) + 1) + z_tt 0
      have t3 : z_tt 3 = 2 := by decide
      omega
    · have := tt 3 q
      rw [e, z_sb_n, z_lv_279]
      show _ ≤ ((z_sb l).length + 1) + 2 * z_br (z_sb l) + z_tt 3
      have t3 : z_tt 3 = 2 := by decide
      omega
    · have := tt 0 (by omega)
      rw [e, z_sb_o (by decide) (by decide), show z_lv 277 = 1 by decide]
      have t3 : z_tt 0 = 0 := by decide
      have t4 : z_tt 1 = 1 := by decide
      omega
    · have := tt 1 (by omega)
      rw [e, z_sb_o (by decide) (by decide), show z_lv 278 = 2 by decide]
      have t3 : z_tt 1 = 1 := by decide
      have t4 : z_tt 2 = 2 := by decide
      omega
    · have := tt 3 (by omega)
      have lv : z_lv x = 4 := by rcases e with e | e | e <;> rw [e] <;> decide
      rw [z_sb_o (by omega) (by omega), lv]
      have t3 : z_tt 3 = 2 := by decide
      have t4 : z_tt 4 = 3 := by decide
      omega
    · have := tt 4 (by omega)
      have lv : z_lv x = 5 := by rcases e with e | e <;> rw [e] <;> decide
      rw [z_sb_o (by omega) (by omega), lv]
      have t3 : z_tt 4 = 3 := by decide
      have t4 : z_tt 5 = 4 := by decide
      omega
    · have := tt 5 (by omega)
      have lv : z_lv x = 6 := by rcases e with e | e <;> rw [e] <;> decide
      rw [z_sb_o (by omega) (by omega), lv]
      have t3 : z_tt 5 = 4 := by decide
      have t4 : z_tt 6 = 5 := by decide
      omega
theorem z_br_le : ∀ s, z_br s ≤ s.length
  | [] => Nat.le_refl _
  | false :: s => by have := z_br_le s; show z_br s ≤ s.length + 1; omega
  | true :: s => by have := z_br_le s; show z_br s + 1 ≤ s.length + 1; omega
theorem z_lv_6 (x : Int) : 0 ≤ z_lv x ∧ z_lv x ≤ 6 := by
  unfold z_lv
  repeat' split
  all_goals omega
theorem z_wl_64 {l : List Int} (h : z_wl l) (h8 : (z_sb l).length ≤ 8) : l.length ≤ 29 := by
  have h1 := z_wl_len l h
  have h2 := z_br_le (z_sb l)
  have h3 : z_tt (z_lvt l) ≤ 5 := by
    have : 0 ≤ z_lvt l ∧ z_lvt l ≤ 6 := by
      cases l with
      | nil => exact ⟨by decide, by decide⟩
      | cons x l => exact z_lv_6 x
    unfold z_tt
    repeat' split
    all_goals omega
  omega
/-- the row that waits -/
def z_ar (h : mq_H) : List Int → Prop
  | [] => True
  | x :: l => (mq_I h 39 l.length).toInt = x ∧ z_ar h l
theorem z_ar_fr (f : ∀ k, mq_I h2 39 k = mq_I h 39 k) : ∀ l, z_ar h l → z_ar h2 l
  | [], _ => trivial
  | x :: l, H => ⟨by rw [f]; exact H.1, z_ar_fr f l H.2⟩
theorem z_ar_up {m : Nat} (f : ∀ k, ¬ k = m → mq_I h2 39 k = mq_I h 39 k) : ∀ l, l.length ≤ m → z_ar h l → z_ar h2 l
  | [], _, _ => trivial
  | x :: l, hm, H => by
    have hm : l.length + 1 ≤ m := hm
    exact ⟨by rw [f _ (by omega)]; exact H.1, z_ar_up f l (by omega) H.2⟩
def z_CS (h : mq_H) (l : List Int) : Prop := z_wl l ∧ z_ar h l ∧ mq_I h 35 14 = nI l.length ∧ mq_I h 35 15 = nI (z_sb l).length ∧ mq_I h 35 16 = nI (z_br (z_sb l)) ∧ (z_sb l).length ≤ 8
/-- all else as it was -/
def z_fs (h h2 : mq_H) : Prop := ∀ a k, ¬ a = 38 → ¬ a = 39 → ¬ (a = 35 ∧ (k = 11 ∨ k = 12 ∨ k = 14 ∨ k = 15 ∨ k = 16)) → mq_I h2 a k = mq_I h a k
theorem z_fs.rf (h : mq_H) : z_fs h h := fun _ _ _ _ _ => rfl
theorem z_fs.tr (a : z_fs h h1) (c : z_fs h1 h2) : z_fs h h2 := fun x k p q r => (c x k p q r).trans (a x k p q r)
theorem z_fs.st {k : Nat} {x : Int32} (F : z_fs h h1) (hk : k = 11 ∨ k = 12 ∨ k = 14 ∨ k = 15 ∨ k = 16) : z_fs h (mq_setI h1 35 k x) := fun a j p q r => (ck_setI_at (fun w => r ⟨w.1, by omega⟩)).trans (F a j p q r)
/-- emit: nothing that matters here -/
theorem z_emit {x : Int32} (N : Nat) : mq_PC mq_G (mq_tT lL) N 93 [.retAddr 35, .int x] h (fun v h2 => v = none ∧ z_fs h h2 ∧ (∀ k, mq_I h2 39 k = mq_I h 39 k) ∧ mq_I h2 35 14 = mq_I h 35 14 ∧ mq_I h2 35 15 = mq_I h 35 15 ∧ mq_I h2 35 16 = mq_I h 35 16) := by
  revert N
  refine mq_el_in 40 [] (fun N => ?_)
  intro _
  refine bq_c (fun _ => ?_) (fun _ => ?_)
  · exact ⟨rfl, z_fs.rf h, fun _ => rfl, rfl, rfl, rfl⟩
  · intro _
    refine ⟨rfl, fun a j p q r => (ck_setI_at (fun w => r ⟨w.1, by omega⟩)).trans (ck_setI_at (fun w => p w.1)), fun _ => rfl, rfl, rfl, rfl⟩
theorem z_hold {x : Int32} {m : Nat} (hm : m < 64) (em : mq_I h 35 14 = nI m) (N : Nat) : mq_PC mq_G (mq_tT lL) N 92 [.retAddr 35, .int x] h (fun v h2 => v = none ∧ z_fs h h2 ∧ mq_I h2 39 m = x ∧ (∀ k, ¬ k = m → mq_I h2 39 k = mq_I h 39 k) ∧ mq_I h2 35 14 = nI (m + 1) ∧ mq_I h2 35 15 = mq_I h 35 15 ∧ mq_I h2 35 16 = mq_I h 35 16) := by
  revert N
  refine mq_el_in 40 [] (fun N => ?_)
  intro _
  refine bq_f (by show ¬ nI 64 ≤ mq_I h 35 14; rw [em, nI_leI (by omega) (by omega)]; omega) ?_
  intro _
  have cl : (mq_I h 35 14).toNatClampNeg = m := x_cl em (by omega)
  refine ⟨rfl, fun a j p q r => (ck_setI_at (fun w => r ⟨w.1, by omega⟩)).trans (ck_setI_at (fun w => q w.1)), ?_, fun k hk => ?_, by show mq_I h 35 14 + 1 = _; rw [em, nI_1], rfl, rfl⟩
  · show (if m = (mq_I h 35 14).toNatClampNeg then x else mq_I h 39 m) = x
    rw [if_pos cl.symm]
  · show (if k = (mq_I h 35 14).toNatClampNeg then x else mq_I h 39 k) = _
    rw [cl, if_neg hk]
theorem z_settle {v : Int32} (hv : 1 ≤ v.toInt) {l : List Int} (C : z_CS h l) (N : Nat) : mq_PC mq_G (mq_tT lL) N 91 [.retAddr 35, .int v] h (fun r h2 => r = none ∧ z_fs h h2 ∧ z_CS h2 (z_sp v.toInt l)) := by
  have lp : ∀ (N : Nat) (l : List Int) (y : Int32) (h1 : mq_H), z_CS h1 l → z_fs h h1 → y + 1 = nI l.length → mq_Pn mq_G (mq_tT lL) N 91 7 [some (.retAddr 35), some (.int v), some (.int y)] [] h1 (fun r h2 => r = none ∧ z_fs h h2 ∧ z_CS h2 (z_sp v.toInt l)) := by
    intro N
    induction N with
    | zero => intro l y h1 _ _ _; exact mq_Pn.z
    | succ N ih =>
      intro l y h1 C F ey
      have l29 := z_wl_64 C.1 C.2.2.2.2.2
      cases l with
      | nil =>
        have ey : y + 1 = nI 0 := ey
        have e : y = -1 := by
          have := congrArg (fun z => z - 1) ey
          rw [Int32.add_sub_cancel] at this
          rw [this]
          rfl
        subst e
        refine mq_gl 60 [7] ?_
        refine bq_t (by decide) ?_
        exact ⟨rfl, F, C⟩
      | cons x l =>
        have l29 : l.length + 1 ≤ 29 := l29
        have ey : y + 1 = nI (l.length + 1) := ey
        have e : y = nI l.length := by
          have := congrArg (fun z => z - 1) ey
          rw [Int32.add_sub_cancel, y_nI1] at this
          exact this
        subst e
        obtain ⟨c1, c2, c3, c4, c5, c6⟩ := C
        have cl : (nI l.length).toNatClampNeg = l.length := nI_clamp (by omega)
        have ex : (mq_I h1 39 (nI l.length).toNatClampNeg).toInt = x := by rw [cl]; exact c2.1
        refine mq_gl 90 [7] ?_
        refine bq_f (by rw [lt_i, nI_toInt (by omega)]; show ¬ (l.length : Int) < 0; omega) ?_
        intro _
        refine mq_Call.pc (z_lev (fun r er => ?_)) N
        rw [ex] at er
        refine bq_c (fun g => ?_) (fun g => ?_)
        · rw [lt_i, er] at g
          rw [z_sp_s (by omega)]
          exact ⟨rfl, F, c1, c2, c3, c4, c5, c6⟩
        · rw [lt_i, er] at g
          rw [z_sp_p (by omega)]
          intro _
          have sz : ¬ x = 40 := fun z => by rw [z, z_lv_40] at g; omega
          refine bn_c (fun n9 => ?_) (fun e9 => ?_)
          · have n9 : ¬ x = 279 := fun z => n9 (x_toI (by rw [ex]; exact z) rfl)
            intro _
            refine mq_PC.mono (z_emit N) (fun r h2 ⟨er, f1, f2, f3, f4, f5⟩ => ?_)
            subst er
            rw [z_sb_o sz n9] at c4 c5 c6
            exact ih l _ _ ⟨c1.1, z_ar_fr (h := h2) (h2 := mq_setI h2 35 14 (nI l.length)) (fun _ => rfl) l (z_ar_fr f2 l c2.2), rfl, f4.trans c4, f5.trans c5, c6⟩ ((F.tr f1).st (by omega)) (by show nI l.length + -1 + 1 = _; rw [Int32.add_assoc]; exact Int32.add_zero _)
          · have e9 : x = 279 := by rw [← ex]; exact y_eq e9 rfl
            intro _
            refine mq_PC.mono (z_emit N) (fun r h2 ⟨er, f1, f2, f3, f4, f5⟩ => ?_)
            subst er
            rw [e9, z_sb_n] at c4 c5 c6
            have c6 : (z_sb l).length + 1 ≤ 8 := c6
            refine ih l _ _ ⟨c1.1, z_ar_fr (h := h2) (h2 := mq_setI h2 35 14 (nI l.length)) (fun _ => rfl) l (z_ar_fr f2 l (z_ar_fr (h := h1) (h2 := mq_setI h1 35 15 (mq_I h1 35 15 - 1)) (fun _ => rfl) l c2.2)), rfl, f4.trans ?_, f5.trans c5, by omega⟩ (((F.st (by omega)).tr f1).st (by omega)) (by show nI l.length + -1 + 1 = _; rw [Int32.add_assoc]; exact Int32.add_zero _)
            show mq_I h1 35 15 - 1 = _
            rw [c4]
            exact y_nI1 _
  revert N
  refine mq_el_in 40 [7] (fun N => ?_)
  refine lp N l _ h C (z_fs.rf h) ?_
  show mq_I h 35 14 - 1 + 1 = _
  rw [C.2.2.1, Int32.sub_add_cancel]
end ZF
