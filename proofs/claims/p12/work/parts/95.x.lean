/-! X: WHAT TIES PLACES TOGETHER: the reference's words; its laws' codes; contested facts; images; laws lie below the heap's end -/
def x_wL : List Int32 := [32, 116, 101, 114, 109, 32, 108, 111, 110, 103, 32, 115, 116, 111, 112, 32, 114, 101, 110, 101, 119, 32, 114, 111, 108, 108, 32, 100, 97, 121, 115, 32, 109, 111, 110, 116, 104, 115, 32, 121, 101, 97, 114, 115, 32, 102, 114, 111, 109, 32, 100, 111, 110, 101, 32, 107, 110, 111, 119, 110, 32, 100, 117, 101, 32, 99, 104, 105, 108, 100, 32, 97, 98, 114, 111, 97, 100, 32, 119, 97, 114, 32, 116, 97, 108, 107, 115, 32, 97, 115, 107, 32, 112, 97, 121, 32, 108, 101, 116, 116, 101, 114, 32, 115, 117, 105, 116, 32, 119, 104, 101, 110, 32, 111, 114, 32, 97, 110, 100, 32, 110, 111, 116, 32, 107, 105, 110, 100, 32, 115, 117, 109, 32, 112, 108, 97, 99, 101, 32, 121, 101, 97, 114, 32, 114, 97, 110, 32]
def x_w (k : Nat) : Int32 := x_wL.getD k 0
def x_wd (h : mq_H) : Prop := ∀ k, k < 148 → mq_I h 81 k = x_w k
/-- how deep the stack is behind n codes -/
def x_sc (o a : Nat → Int32) : Nat → Option Nat
  | 0 => some 0
  | n + 1 => match x_sc o a n with
    | none => none
    | some d => if (o n).toInt = 0 then some (d + 1) else if (o n).toInt = 1 then (if 0 ≤ (a n).toInt ∧ (a n).toInt ≤ 4 then some (d + 1) else none) else if (o n).toInt = 9 then (if 1 ≤ d then some d else none) else if (o n).toInt = 5 then (if 2 ≤ d ∧ 1 ≤ n ∧ (o (n - 1)).toInt = 0 ∧ ¬ (a (n - 1)).toInt = 0 then some (d - 1) else none) else (if 2 ≤ d then some (d - 1) else none)
theorem x_sc_cong {o a o' a' : Nat → Int32} : ∀ (n : Nat), (∀ i, i < n → o' i = o i ∧ a' i = a i) → x_sc o' a' n = x_sc o a n
  | 0, _ => rfl
  | n + 1, h => by
    have e := x_sc_cong n (fun i hi => h i (by omega))
    unfold x_sc
    rw [e, (h n (by omega)).1, (h n (by omega)).2]
    cases x_sc o a n with
    | none => rfl
    | some d =>
      dsimp only
      cases n with
      | zero => simp
      | succ n => rw [show n + 1 - 1 = n by omega, (h n (by omega)).1, (h n (by omega)).2]
theorem x_sc_le {o a : Nat → Int32} : ∀ (n d : Nat), x_sc o a n = some d → d ≤ n
  | 0, d, h => by cases h; exact Nat.le_refl _
  | n + 1, d, h => by
    unfold x_sc at h
    cases e : x_sc o a n with
    | none => rw [e] at h; cases h
    | some d' =>
      have := x_sc_le n d' e
      rw [e] at h
      dsimp only at h
      repeat' split at h
      all_goals first | (cases h; done) | (cases h; omega)
theorem x_sc_dn {o a : Nat → Int32} {n d : Nat} (h : x_sc o a (n + 1) = some d) : ∃ d', x_sc o a n = some d' := by
  unfold x_sc at h
  cases e : x_sc o a n with
  | none => rw [e] at h; cases h
  | some d' => exact ⟨d', rfl⟩
theorem x_sc_lt {o a : Nat → Int32} {d : Nat} : ∀ (n k : Nat), x_sc o a (n + k) = some d → ∃ d', x_sc o a n = some d'
  | n, 0, h => ⟨d, h⟩
  | n, k + 1, h => by
    obtain ⟨d', h'⟩ := x_sc_dn (n := n + k) h
    have : ∀ e, x_sc o a (n + k) = some e → ∃ d', x_sc o a n = some d' := fun e he => by
      clear h h'
      induction k generalizing e with
      | zero => exact ⟨e, he⟩
      | succ k ih =>
        obtain ⟨d2, h2⟩ := x_sc_dn (n := n + k) he
        exact ih d2 h2
    exact this d' h'
/-- a line's codes are good; v: what the places hold -/
def x_ln (v : Nat → Nat → Int32) (row l : Nat) : Prop := (v 86 l).toInt ≤ (v 87 l).toInt ∧ ∃ d, x_sc (fun n => v 88 (400 * row + (v 86 l).toNatClampNeg + n)) (fun n => v 89 (400 * row + (v 86 l).toNatClampNeg + n)) ((v 87 l).toInt - (v 86 l).toInt).toNat = some d
def x_lw (v : Nat → Nat → Int32) : Prop := ∀ row, row < 8 → ∀ i : Nat, (i : Int) < (v 82 row).toInt → x_ln v row (16 * row + i)
def x_c1 (fd : Nat → Int32) (c : Nat) : Nat → Nat
  | 0 => 0
  | k + 1 => x_c1 fd c k + (if (fd (12 * c + k)).toInt = 6 then 1 else 0)
def x_c2 (fc fd : Nat → Int32) : Nat → Nat
  | 0 => 0
  | c + 1 => x_c2 fc fd c + x_c1 fd c (fc c).toNatClampNeg
/-- contested facts: no more than six -/
def x_ct (v : Nat → Nat → Int32) : Prop := x_c2 (v 71) (v 75) (v 59 9).toNatClampNeg ≤ 6
/-- where the reference's image holds a place -/
def x_pos (a k : Nat) : Option Nat := if a = 59 then (if k = 1 then some 0 else if k = 2 then some 1 else if k = 9 then some 106 else none)
  else if a = 60 then (if k < 20 then some (2 + k) else none)
  else if a = 61 then (if k < 6 then some (22 + 2 * k) else none)
  else if a = 62 then (if k < 6 then some (23 + 2 * k) else none)
  else if a = 63 then (if k < 24 then some (34 + 3 * k) else none)
  else if a = 64 then (if k < 24 then some (35 + 3 * k) else none)
  else if a = 65 then (if k < 24 then some (36 + 3 * k) else none)
  else if a = 66 then (if k < 60 then some (107 + 5 * k) else none)
  else if a = 67 then (if k < 60 then some (108 + 5 * k) else none)
  else if a = 68 then (if k < 60 then some (109 + 5 * k) else none)
  else if a = 70 then (if k < 60 then some (110 + 5 * k) else none)
  else if a = 71 then (if k < 60 then some (111 + 5 * k) else none)
  else if a = 69 then (if k < 180 then some (407 + k) else none)
  else if a = 72 then (if k < 720 then some (587 + 4 * k) else none)
  else if a = 73 then (if k < 720 then some (588 + 4 * k) else none)
  else if a = 74 then (if k < 720 then some (589 + 4 * k) else none)
  else if a = 75 then (if k < 720 then some (590 + 4 * k) else none)
  else if a = 76 then (if k < 6 then some (3467 + 3 * k) else none)
  else if a = 77 then (if k < 6 then some (3468 + 3 * k) else none)
  else if a = 78 then (if k < 6 then some (3469 + 3 * k) else none)
  else if a = 79 then (if k < 18 then some (3485 + k) else none)
  else if a = 82 then (if k < 8 then some (3503 + k) else none)
  else if a = 83 then (if k < 128 then some (3511 + 5 * k) else none)
  else if a = 84 then (if k < 128 then some (3512 + 5 * k) else none)
  else if a = 85 then (if k < 128 then some (3513 + 5 * k) else none)
  else if a = 86 then (if k < 128 then some (3514 + 5 * k) else none)
  else if a = 87 then (if k < 128 then some (3515 + 5 * k) else none)
  else if a = 88 then (if k < 3200 then some (4151 + 2 * k) else none)
  else if a = 89 then (if k < 3200 then some (4152 + 2 * k) else none)
  else none
/-- what the image holds for a place -/
def x_vw (h : mq_H) (a k : Nat) : Int32 := mq_I h 99 ((x_pos a k).getD 0)
def x_img (h : mq_H) : Prop := (mq_I h 59 69).toInt = 1 → (∀ a k, ¬ x_pos a k = none → (∀ l u, ck_ivo a k = some (l, u) → l ≤ (x_vw h a k).toInt ∧ (x_vw h a k).toInt ≤ u) ∧ (∀ n l u, ck_iva a = some (n, l, u) → k < n → l ≤ (x_vw h a k).toInt ∧ (x_vw h a k).toInt ≤ u)) ∧ x_lw (x_vw h) ∧ x_ct (x_vw h)
/-- a law's cells lie below the heap's end -/
def x_lb (h : mq_H) (q : Nat) : Prop := q < mq_N h ∧ ∀ b, mq_R h q 0 = some b → b < mq_N h ∧ ¬ b = 37 ∧ ∀ i c, i < 16 → mq_R h b i = some c → c < mq_N h ∧ ∀ d, mq_R h c 4 = some d → d < mq_N h
def x_lws (h : mq_H) : Prop := ∀ i, i < 8 → ∀ q, mq_R h 13 i = some q → x_lb h q
/-- a book outside the static cells -/
def x_bk (h : mq_H) (b : Nat) : Prop := 100 ≤ b ∧ b + 30 ≤ mq_N h ∧ ok_B h b ∧ (∀ i, i < 8 → ∃ q, mq_R h (b + 8) i = some q ∧ ck_P1 h q ∧ x_lb h q) ∧ ∀ a, 5 ≤ a → a < 35 → (∀ k l u, ck_ivo a k = some (l, u) → l ≤ (mq_I h (b + (a - 5)) k).toInt ∧ (mq_I h (b + (a - 5)) k).toInt ≤ u) ∧ (∀ n l u, ck_iva a = some (n, l, u) → ∀ k, k < n → l ≤ (mq_I h (b + (a - 5)) k).toInt ∧ (mq_I h (b + (a - 5)) k).toInt ≤ u)
def x_sv (h : mq_H) : Prop := ∀ b, mq_R h 4 5 = some b → x_bk h b
/-- the static cells are what they are -/
def x_hd (h : mq_H) : Prop := 100 ≤ mq_N h ∧ ∀ a s, mq_tS1 a = some s → mq_sh h a = s
theorem x_hd.of {h h' : mq_H} (hN : mq_N h' = mq_N h) (hs : mq_sh h' = mq_sh h) (H : x_hd h) : x_hd h' := ⟨by rw [hN]; exact H.1, fun a s z => by rw [hs]; exact H.2 a s z⟩
def x_X (h : mq_H) : Prop := x_hd h ∧ x_wd h ∧ x_lw (mq_I h) ∧ x_ct (mq_I h) ∧ x_img h ∧ x_lws h ∧ x_sv h
theorem ck_lc_dyn {a : Nat} (h : 100 ≤ a) (k : Nat) : ck_lc a k = 0 := by
  have e := Nat.ble_eq_true_of_le h
  have e1 : ck_lca a = 0 := by unfold ck_lca; rw [e]; rfl
  unfold ck_lc
  rw [e1]
  show ck_lco a k = 0
  unfold ck_lco
  rw [e]
  rfl
theorem x_ln_cong {v v' : Nat → Nat → Int32} {row l : Nat} (hl1 : v' 86 l = v 86 l) (hl2 : v' 87 l = v 87 l) (hb : (v 87 l).toInt ≤ 400) (h0 : 0 ≤ (v 86 l).toInt) (ho : ∀ i, i < 400 → v' 88 (400 * row + i) = v 88 (400 * row + i) ∧ v' 89 (400 * row + i) = v 89 (400 * row + i)) (H : x_ln v row l) : x_ln v' row l := by
  obtain ⟨h1, d, h2⟩ := H
  refine ⟨by rw [hl1, hl2]; exact h1, d, ?_⟩
  rw [hl1, hl2, ← h2]
  have hc := ci_cl h0
  refine x_sc_cong _ (fun i hi => ?_)
  have := ho ((v 86 l).toNatClampNeg + i) (by omega)
  rw [← Nat.add_assoc] at this
  exact this
theorem x_c1_cong {fd fd' : Nat → Int32} {c : Nat} : ∀ (n : Nat), (∀ k, k < n → fd' (12 * c + k) = fd (12 * c + k)) → x_c1 fd' c n = x_c1 fd c n
  | 0, _ => rfl
  | n + 1, h => by
    unfold x_c1
    rw [x_c1_cong n (fun k hk => h k (by omega)), h n (by omega)]
theorem x_c2_cong {fc fc' fd fd' : Nat → Int32} : ∀ (n : Nat), (∀ c, c < n → fc' c = fc c ∧ ∀ k, k < (fc c).toNatClampNeg → fd' (12 * c + k) = fd (12 * c + k)) → x_c2 fc' fd' n = x_c2 fc fd n
  | 0, _ => rfl
  | n + 1, h => by
    unfold x_c2
    rw [x_c2_cong n (fun c hc => h c (by omega)), (h n (by omega)).1, x_c1_cong _ (h n (by omega)).2]
/-- places that X looks at -/
def x_sup : Nat := 892029808097967555593036687664588738820833281
theorem x_Xf : ck_Xf x_X x_sup := by
  intro h h' hN hZ hs hR hI ⟨a1, a2, a3, a4, a5, a6, a7⟩
  have cell : ∀ a, ck_lca a ≠ 0 → Nat.testBit x_sup (ck_lca a) = true → ∀ k, mq_I h' a k = mq_I h a k := fun a h1 h2 k => hI a k (by
    unfold ck_lc
    cases e : Nat.beq (ck_lca a) 0 with
    | true => exact absurd (Nat.eq_of_beq_eq_true e) h1
    | false => exact h2)
  have dyn : ∀ a, 100 ≤ a → ∀ k, mq_I h' a k = mq_I h a k := fun a ha k => hI a k (by rw [ck_lc_dyn ha]; decide)
  have c1 := fun k => cell 81 (by decide) (by decide) k
  have c2 := fun k => cell 82 (by decide) (by decide) k
  have c3 := fun k => cell 86 (by decide) (by decide) k
  have c4 := fun k => cell 87 (by decide) (by decide) k
  have c5 := fun k => cell 88 (by decide) (by decide) k
  have c6 := fun k => cell 89 (by decide) (by decide) k
  have c7 := fun k => cell 71 (by decide) (by decide) k
  have c8 := fun k => cell 75 (by decide) (by decide) k
  have c9 := fun k => cell 99 (by decide) (by decide) k
  have c10 : mq_I h' 59 9 = mq_I h 59 9 := hI _ _ (by decide)
  have c11 : mq_I h' 59 69 = mq_I h 59 69 := hI _ _ (by decide)
  have vw : x_vw h' = x_vw h := by funext a k; exact c9 _
  have lb : ∀ q, x_lb h q → x_lb h' q := fun q z => by unfold x_lb; rw [hN, hR]; exact z
  have P1 : ∀ q, ck_P1 h q → ck_P1 h' q := fun q z => by
    obtain ⟨z1, z2, z3, b, z4, z5, n, z6, z7, z8⟩ := z
    have dI : ∀ q, (∀ k, ck_lc q k = 0) → ∀ k, mq_I h' q k = mq_I h q k := fun q hq k => hI q k (by rw [hq k]; decide)
    refine ⟨z1, by rw [hs]; exact z2, by rw [dI q z1]; exact z3, b, by rw [hR]; exact z4, z5, n, z6, by rw [hs]; exact z7, fun i hi => ?_⟩
    obtain ⟨c, y1, y2, y3, y4, y5, d, y6, y7, m, y8, y9⟩ := z8 i hi
    exact ⟨c, by rw [hR]; exact y1, y2, by rw [hs]; exact y3, by rw [dI c y2]; exact y4, by rw [dI c y2]; exact y5, d, by rw [hR]; exact y6, y7, m, y8, by rw [hs]; exact y9⟩
  refine ⟨a1.of hN hs, fun k hk => (c1 k).trans (a2 k hk), fun row hr i hi => ?_, ?_, fun hi => ?_, fun i hi q hq => ?_, fun b hb => ?_⟩
  · rw [c2] at hi
    have := a3 row hr i hi
    unfold x_ln at this ⊢
    simp only [c3, c4, c5, c6]
    exact this
  · have e1 : mq_I h' 71 = mq_I h 71 := by funext k; exact c7 k
    have e2 : mq_I h' 75 = mq_I h 75 := by funext k; exact c8 k
    unfold x_ct
    rw [e1, e2, c10]
    exact a4
  · rw [c11] at hi
    rw [vw]
    exact a5 hi
  · rw [hR] at hq
    exact lb q (a6 i hi q hq)
  · rw [hR] at hb
    obtain ⟨b1, b2, b3, b4, b5⟩ := a7 b hb
    refine ⟨b1, by rw [hN]; exact b2, ?_, fun i hi => ?_, fun a g1 g2 => ?_⟩
    · unfold ok_B ok_P ok_C ok_A at b3 ⊢
      rw [hs, hR]
      exact b3
    · obtain ⟨q, q1, q2, q3⟩ := b4 i hi
      exact ⟨q, by rw [hR]; exact q1, P1 q q2, lb q q3⟩
    · have e : ∀ k, mq_I h' (b + (a - 5)) k = mq_I h (b + (a - 5)) k := dyn _ (by omega)
      refine ⟨fun k l u z => by rw [e]; exact (b5 a g1 g2).1 k l u z, fun n l u z k hk => by rw [e]; exact (b5 a g1 g2).2 n l u z k hk⟩
