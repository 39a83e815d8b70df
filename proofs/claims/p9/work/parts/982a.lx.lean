/-! TEXTS: tokens of a tape, and an automaton over them that says what a text comes to -/
section ZA
/-- signs -/
def z_bl (c : Int) : Prop := c = 32 ∨ c = 10
def z_le (c : Int) : Prop := (97 ≤ c ∧ c ≤ 122) ∨ (65 ≤ c ∧ c ≤ 90)
def z_di (c : Int) : Prop := 48 ≤ c ∧ c ≤ 57
def z_sg (c : Int) : Prop := c = 59 ∨ c = 40 ∨ c = 41 ∨ c = 42 ∨ c = 47 ∨ c = 43 ∨ c = 45 ∨ c = 60 ∨ c = 61 ∨ c = 62
def z_W (w i : Nat) : Int := (jk_w (6 * w + i)).toInt
theorem z_W_inj : ∀ w, w < 29 → ∀ v, v < 29 → (∀ i, i < 6 → z_W w i = z_W v i) → w = v := by decide +kernel
def z_mt (b : Nat → Int) (f q w : Nat) : Prop := q - f ≤ 6 ∧ ∀ i, i < 6 → (if f + i < q then b (f + i) else 32) = z_W w i
def z_wk (b : Nat → Int) (f q : Nat) (k : Int) : Prop := (∃ w : Nat, w < 29 ∧ z_mt b f q w ∧ k = 256 + (w : Int)) ∨ ((∀ w, w < 29 → ¬ z_mt b f q w) ∧ k = 1)
/-- a token: its number, whether it is the number 0, where it stands, what comes behind it -/
abbrev z_T := Int × Bool × Nat × Nat
def z_LX (b : Nat → Int) (n p : Nat) (t : z_T) : Prop := p ≤ t.2.2.1 ∧ t.2.2.1 ≤ n ∧ (∀ i, p ≤ i → i < t.2.2.1 → z_bl (b i)) ∧ ((t.2.2.1 = n ∧ t.2.2.2 = n ∧ t.1 = 0 ∧ t.2.1 = false) ∨ (t.2.2.1 < n ∧ ¬ z_bl (b t.2.2.1) ∧ t.2.2.1 < t.2.2.2 ∧ t.2.2.2 ≤ n ∧ ((z_le (b t.2.2.1) ∧ (∀ i, t.2.2.1 ≤ i → i < t.2.2.2 → z_le (b i)) ∧ (t.2.2.2 = n ∨ ¬ z_le (b t.2.2.2)) ∧ z_wk b t.2.2.1 t.2.2.2 t.1 ∧ t.2.1 = false) ∨ (z_di (b t.2.2.1) ∧ (∀ i, t.2.2.1 ≤ i → i < t.2.2.2 → z_di (b i)) ∧ (t.2.2.2 = n ∨ ¬ z_di (b t.2.2.2)) ∧ ((t.2.2.2 - t.2.2.1 ≤ 4 ∧ t.1 = 2 ∧ (t.2.1 = true ↔ ∀ i, t.2.2.1 ≤ i → i < t.2.2.2 → b i = 48)) ∨ (¬ t.2.2.2 - t.2.2.1 ≤ 4 ∧ t.1 = 1 ∧ t.2.1 = false))) ∨ (¬ z_le (b t.2.2.1) ∧ ¬ z_di (b t.2.2.1) ∧ t.2.2.2 = t.2.2.1 + 1 ∧ ((z_sg (b t.2.2.1) ∧ t.1 = b t.2.2.1) ∨ (¬ z_sg (b t.2.2.1) ∧ t.1 = 1)) ∧ t.2.1 = false))))
theorem z_mt_fn {b : Nat → Int} {f q w v : Nat} (hw : w < 29) (hv : v < 29) (a : z_mt b f q w) (c : z_mt b f q v) : w = v := z_W_inj w hw v hv (fun i hi => (a.2 i hi).symm.trans (c.2 i hi))
theorem z_wk_fn {b : Nat → Int} {f q : Nat} {k l : Int} (a : z_wk b f q k) (c : z_wk b f q l) : k = l := by
  rcases a with ⟨w, w1, w2, w3⟩ | ⟨w1, w2⟩ <;> rcases c with ⟨v, v1, v2, v3⟩ | ⟨v1, v2⟩
  · have := z_mt_fn w1 v1 w2 v2
    subst this
    rw [w3, v3]
  · exact absurd w2 (v1 w w1)
  · exact absurd v2 (w1 v v1)
  · rw [w2, v2]
theorem z_run {P : Int → Prop} {b : Nat → Int} {n f q r : Nat} (hq : q ≤ n) (hr : r ≤ n) (hfq : f < q) (hfr : f < r) (a : ∀ i, f ≤ i → i < q → P (b i)) (a2 : q = n ∨ ¬ P (b q)) (c : ∀ i, f ≤ i → i < r → P (b i)) (c2 : r = n ∨ ¬ P (b r)) : q = r := by
  rcases Nat.lt_trichotomy q r with g | g | g
  · rcases a2 with e | e
    · omega
    · exact absurd (c q (by omega) g) e
  · exact g
  · rcases c2 with e | e
    · omega
    · exact absurd (a r (by omega) g) e
theorem z_LX_fn {b : Nat → Int} {n p : Nat} {s t : z_T} (a : z_LX b n p s) (c : z_LX b n p t) : s = t := by
  obtain ⟨k, z, f, q⟩ := s
  obtain ⟨l, y, g, r⟩ := t
  obtain ⟨a1, a2, a3, a4⟩ := a
  obtain ⟨c1, c2, c3, c4⟩ := c
  dsimp only at a1 a2 a3 a4 c1 c2 c3 c4
  have ef : f = g := by
    rcases Nat.lt_trichotomy f g with e | e | e
    · rcases a4 with ⟨z1, -⟩ | ⟨z1, z2, -⟩
      · omega
      · exact absurd (c3 f a1 e) z2
    · exact e
    · rcases c4 with ⟨z1, -⟩ | ⟨z1, z2, -⟩
      · omega
      · exact absurd (a3 g c1 e) z2
  subst ef
  rcases a4 with ⟨z1, z2, z3, z4⟩ | ⟨z1, z2, z3, z4, z5⟩ <;> rcases c4 with ⟨y1, y2, y3, y4⟩ | ⟨y1, y2, y3, y4, y5⟩
  · rw [z2, z3, z4, y2, y3, y4]
  · omega
  · omega
  · rcases z5 with ⟨u1, u2, u3, u4, u5⟩ | ⟨u1, u2, u3, u4⟩ | ⟨u1, u2, u3, u4, u5⟩ <;> rcases y5 with ⟨v1, v2, v3, v4, v5⟩ | ⟨v1, v2, v3, v4⟩ | ⟨v1, v2, v3, v4, v5⟩
    · have e := z_run z4 y4 z3 y3 u2 u3 v2 v3
      subst e
      rw [z_wk_fn u4 v4, u5, v5]
    · unfold z_le at u1; unfold z_di at v1; omega
    · exact absurd u1 v1
    · unfold z_le at v1; unfold z_di at u1; omega
    · have e := z_run z4 y4 z3 y3 u2 u3 v2 v3
      subst e
      rcases u4 with ⟨w1, w2, w3⟩ | ⟨w1, w2, w3⟩ <;> rcases v4 with ⟨x1, x2, x3⟩ | ⟨x1, x2, x3⟩
      · have : z = y := by
          cases z <;> cases y
          · rfl
          · exact absurd (w3.mpr (x3.mp rfl)) (by decide)
          · exact absurd (x3.mpr (w3.mp rfl)) (by decide)
          · rfl
        rw [w2, x2, this]
      · exact absurd w1 x1
      · exact absurd x1 w1
      · rw [w2, w3, x2, x3]
    · exact absurd u1 v2
    · exact absurd v1 u1
    · exact absurd v1 u2
    · subst u3 v3
      rw [u5, v5]
      rcases u4 with ⟨w1, w2⟩ | ⟨w1, w2⟩ <;> rcases v4 with ⟨x1, x2⟩ | ⟨x1, x2⟩
      · rw [w2, x2]
      · exact absurd w1 x1
      · exact absurd x1 w1
      · rw [w2, x2]
/-- the stack: open brackets (true) and nots (false), the last on top -/
def z_dn : List Bool → List Bool
  | [] => []
  | false :: s => z_dn s
  | true :: s => true :: s
def z_br : List Bool → Nat
  | [] => 0
  | false :: s => z_br s
  | true :: s => z_br s + 1
theorem z_br_dn : ∀ s, z_br (z_dn s) = z_br s
  | [] => rfl
  | false :: s => z_br_dn s
  | true :: _ => rfl
theorem z_dn_len : ∀ s, (z_dn s).length ≤ s.length
  | [] => Nat.le_refl _
  | false :: s => by have := z_dn_len s; show (z_dn s).length ≤ s.length + 1; omega
  | true :: _ => Nat.le_refl _
/-- where the text is: mode, right of a comparison, stack, lines read -/
abbrev z_S := Nat × Bool × List Bool × Nat
/-- a fault | lines | on behind the token | on at the token -/
abbrev z_O := Nat ⊕ (Nat ⊕ (z_S ⊕ z_S))
def z_st (s : z_S) (k : Int) (z : Bool) : z_O := match s with
  | (0, r, S, c) => if k = 279 ∨ k = 40 then (if 8 ≤ S.length then .inl 3 else .inr (.inr (.inl (0, r, decide (k = 40) :: S, c)))) else .inr (.inr (.inr (1, false, S, c)))
  | (1, r, S, c) => if k = 2 ∨ (280 ≤ k ∧ k ≤ 284) then .inr (.inr (.inl (bif r then 4 else 3, r, S, c))) else .inl 1
  | (2, r, S, c) => if k = 2 then (bif z then .inl 2 else .inr (.inr (.inl (bif r then 4 else 3, r, S, c)))) else .inl 1
  | (3, r, S, c) => if k = 42 ∨ k = 47 ∨ k = 43 ∨ k = 45 then .inr (.inr (.inl (if k = 47 then 2 else 1, r, S, c))) else if k = 60 ∨ k = 61 ∨ k = 62 then .inr (.inr (.inl (1, true, S, c))) else .inl 1
  | (4, r, S, c) => if k = 42 ∨ k = 47 ∨ k = 43 ∨ k = 45 then .inr (.inr (.inl (if k = 47 then 2 else 1, r, S, c))) else .inr (.inr (.inr (5, r, S, c)))
  | (5, r, S, c) => if k = 277 ∨ k = 278 then .inr (.inr (.inl (0, false, z_dn S, c))) else if k = 41 ∧ 0 < z_br S then .inr (.inr (.inl (5, r, (z_dn S).tail, c))) else if 0 < z_br S then .inl 1 else .inr (.inr (.inr (27, false, [], c)))
  | (20, _, _, c) => if k = 0 then .inr (.inl c) else if k < 256 ∨ 260 < k then .inl 1 else if 16 ≤ c then .inl 3 else .inr (.inr (.inl (if k ≤ 257 then 21 else if k ≤ 259 then 25 else 27, false, [], c)))
  | (21, _, _, c) => if k = 2 then (bif z then .inl 2 else .inr (.inr (.inl (22, false, [], c)))) else .inl 1
  | (22, _, _, c) => if 263 ≤ k ∧ k ≤ 265 then .inr (.inr (.inl (23, false, [], c))) else .inl 1
  | (23, _, _, c) => if k = 261 then .inr (.inr (.inl (24, false, [], c))) else .inl 1
  | (24, _, _, c) => if 266 ≤ k ∧ k ≤ 268 then .inr (.inr (.inl (26, false, [], c))) else .inl 1
  | (25, _, _, c) => if 269 ≤ k ∧ k ≤ 276 then .inr (.inr (.inl (26, false, [], c))) else .inl 1
  | (26, _, _, c) => if k = 262 then .inr (.inr (.inl (0, false, [], c))) else .inr (.inr (.inr (27, false, [], c)))
  | (_, _, _, c) => if k = 59 then .inr (.inr (.inl (20, false, [], c + 1))) else .inl 1
/-- what a text comes to: a fault and its place, or lines -/
abbrev z_E := (Nat × Nat) ⊕ Nat
def z_A (b : Nat → Int) (n : Nat) : Nat → z_S → z_T → z_E → Prop
  | 0, _, _, _ => False
  | f + 1, s, t, o => match z_st s t.1 t.2.1 with
    | .inl e => o = .inl (e, t.2.2.1)
    | .inr (.inl c) => o = .inr c
    | .inr (.inr (.inl s')) => ∃ t', z_LX b n t.2.2.2 t' ∧ z_A b n f s' t' o
    | .inr (.inr (.inr s')) => z_A b n f s' t o
theorem z_A_fn {b : Nat → Int} {n : Nat} : ∀ (f g : Nat) (s : z_S) (t : z_T) (o p : z_E), z_A b n f s t o → z_A b n g s t p → o = p
  | 0, _, _, _, _, _, a, _ => a.elim
  | _ + 1, 0, _, _, _, _, _, c => c.elim
  | f + 1, g + 1, s, t, o, p, a, c => by
    unfold z_A at a c
    revert a c
    cases z_st s t.1 t.2.1 with
    | inl e => intro a c; exact a.trans c.symm
    | inr x =>
      cases x with
      | inl e => intro a c; exact a.trans c.symm
      | inr y =>
        cases y with
        | inl s' =>
          rintro ⟨t1, l1, a⟩ ⟨t2, l2, c⟩
          have := z_LX_fn l1 l2
          subst this
          exact z_A_fn f g s' t1 o p a c
        | inr s' => intro a c; exact z_A_fn f g s' t o p a c
def z_AR (b : Nat → Int) (n : Nat) (s : z_S) (t : z_T) (o : z_E) : Prop := ∃ f, z_A b n f s t o
theorem z_AR_fn {b : Nat → Int} {n : Nat} {s : z_S} {t : z_T} {o p : z_E} (a : z_AR b n s t o) (c : z_AR b n s t p) : o = p := by
  obtain ⟨f, a⟩ := a
  obtain ⟨g, c⟩ := c
  exact z_A_fn f g s t o p a c
/-- from here one comes there -/
def z_K (b : Nat → Int) (n : Nat) (s : z_S) (t : z_T) (s' : z_S) (t' : z_T) : Prop := ∀ o, z_AR b n s' t' o → z_AR b n s t o
section
variable {b : Nat → Int} {n : Nat} {s s1 s2 : z_S} {t t1 t2 : z_T}
theorem z_K.rf : z_K b n s t s t := fun _ a => a
theorem z_K.tr (a : z_K b n s t s1 t1) (c : z_K b n s1 t1 s2 t2) : z_K b n s t s2 t2 := fun o z => a o (c o z)
theorem z_ft {e : Nat} (h : z_st s t.1 t.2.1 = .inl e) : z_AR b n s t (.inl (e, t.2.2.1)) := ⟨1, by unfold z_A; rw [h]⟩
theorem z_ok {c : Nat} (h : z_st s t.1 t.2.1 = .inr (.inl c)) : z_AR b n s t (.inr c) := ⟨1, by unfold z_A; rw [h]⟩
theorem z_nx (h : z_st s t.1 t.2.1 = .inr (.inr (.inl s1))) (l : z_LX b n t.2.2.2 t1) : z_K b n s t s1 t1 := fun o ⟨f, a⟩ => ⟨f + 1, by unfold z_A; rw [h]; exact ⟨t1, l, a⟩⟩
theorem z_sy (h : z_st s t.1 t.2.1 = .inr (.inr (.inr s1))) : z_K b n s t s1 t := fun o ⟨f, a⟩ => ⟨f + 1, by unfold z_A; rw [h]; exact a⟩
end
end ZA
