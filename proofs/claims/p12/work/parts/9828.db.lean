/-! doubt: what it answers, what it leaves -/
section YD
variable {lL : Nat} {h h1 h2 : mq_H} {Q : Option Value → mq_H → Prop}
/-- facts in doubt by days -/
def y_d1 (fd : Nat → Int32) (c : Nat) : Nat → Nat
  | 0 => 0
  | k + 1 => y_d1 fd c k + (if (fd (12 * c + k)).toInt = 0 ∨ (fd (12 * c + k)).toInt = 6 then 0 else 1)
/-- but one -/
def y_wo (D : Nat → Int32) (p : Nat) : Nat → Int32 := fun i => if i = p then 0 else D i
theorem y_wo_1 {D : Nat → Int32} {p : Nat} : y_wo D p p = 0 := if_pos rfl
theorem y_wo_0 {D : Nat → Int32} {p i : Nat} (hi : ¬ i = p) : y_wo D p i = D i := if_neg hi
theorem y_d1_cong {fd fd2 : Nat → Int32} {c : Nat} : ∀ (n : Nat), (∀ k, k < n → fd2 (12 * c + k) = fd (12 * c + k)) → y_d1 fd2 c n = y_d1 fd c n
  | 0, _ => rfl
  | n + 1, H => by
    unfold y_d1
    rw [y_d1_cong n (fun k hk => H k (by omega)), H n (by omega)]
/-- one place set: what is counted -/
def y_g (v : Int32) : Nat := if v.toInt = 0 ∨ v.toInt = 6 then 0 else 1
def y_h (v : Int32) : Nat := if v.toInt = 6 then 1 else 0
theorem y_d1_s {fd : Nat → Int32} {c n : Nat} : y_d1 fd c (n + 1) = y_d1 fd c n + y_g (fd (12 * c + n)) := rfl
theorem y_c1_s {fd : Nat → Int32} {c n : Nat} : x_c1 fd c (n + 1) = x_c1 fd c n + y_h (fd (12 * c + n)) := rfl
theorem y_d1_set {D D2 : Nat → Int32} {x : Int32} {c f : Nat} (hD : ∀ j, D2 j = if j = 12 * c + f then x else D j) : ∀ (n : Nat), f < n → y_d1 D2 c n = y_d1 (y_wo D (12 * c + f)) c n + y_g x
  | 0, hf => by omega
  | n + 1, hf => by
    rw [y_d1_s, y_d1_s]
    rcases Nat.lt_or_ge f n with q | q
    · rw [y_d1_set hD n q, y_wo_0 (by omega), hD, if_neg (by omega)]
      omega
    · have e : f = n := by omega
      subst e
      rw [y_d1_cong (fd := y_wo D (12 * c + f)) (fd2 := D2) f (fun k hk => by rw [y_wo_0 (by omega), hD, if_neg (by omega)]), y_wo_1, hD, if_pos rfl]
      rfl
theorem y_c1_set {D D2 : Nat → Int32} {x : Int32} {c f : Nat} (hD : ∀ j, D2 j = if j = 12 * c + f then x else D j) : ∀ (n : Nat), f < n → x_c1 D2 c n = x_c1 (y_wo D (12 * c + f)) c n + y_h x
  | 0, hf => by omega
  | n + 1, hf => by
    rw [y_c1_s, y_c1_s]
    rcases Nat.lt_or_ge f n with q | q
    · rw [y_c1_set hD n q, y_wo_0 (by omega), hD, if_neg (by omega)]
      omega
    · have e : f = n := by omega
      subst e
      rw [x_c1_cong (fd := y_wo D (12 * c + f)) (fd' := D2) f (fun k hk => by rw [y_wo_0 (by omega), hD, if_neg (by omega)]), y_wo_1, hD, if_pos rfl]
      rfl
theorem y_set_id {D : Nat → Int32} {p : Nat} (j : Nat) : D j = if j = p then D p else D j := by
  by_cases e : j = p
  · rw [if_pos e, e]
  · rw [if_neg e]
theorem y_d1_wo {D : Nat → Int32} {c f n : Nat} (hf : f < n) : y_d1 (y_wo D (12 * c + f)) c n ≤ y_d1 D c n := by
  have := y_d1_set (D := D) (D2 := D) (c := c) (f := f) y_set_id n hf
  omega
theorem y_c1_wo {D : Nat → Int32} {c f n : Nat} (hf : f < n) : x_c1 D c n = x_c1 (y_wo D (12 * c + f)) c n + y_h (D (12 * c + f)) := y_c1_set y_set_id n hf
theorem y_c2_wo {F D : Nat → Int32} {c f : Nat} (hf : f < (F c).toNatClampNeg) (hF : ∀ d, (F d).toNatClampNeg ≤ 12 ∨ 60 ≤ d) : ∀ (N : Nat), N ≤ 60 → c < N → x_c2 F D N = x_c2 F (y_wo D (12 * c + f)) N + y_h (D (12 * c + f))
  | 0, _, hc => by omega
  | N + 1, hN, hc => by
    unfold x_c2
    rcases Nat.lt_or_ge c N with q | q
    · have hc12 := hF c
      have hN12 := hF N
      rw [y_c2_wo hf hF N (by omega) q, x_c1_cong (fd := D) (fd' := y_wo D (12 * c + f)) (F N).toNatClampNeg (fun k hk => y_wo_0 (by omega))]
      omega
    · have e : c = N := by omega
      subst e
      have hc12 := hF c
      rw [x_c2_cong (fc := F) (fc' := F) (fd := D) (fd' := y_wo D (12 * c + f)) c (fun d hd => ⟨rfl, fun k hk => y_wo_0 (by have := hF d; omega)⟩), y_c1_wo hf]
      omega
def y_dh (c f x n : Int32) (F : Nat → Int32) (cn fn mn : Nat) : Prop := c = nI cn ∧ (cn : Int) < n.toInt ∧ f = nI fn ∧ F cn = nI mn ∧ fn < mn ∧ mn ≤ 12 ∧ 0 ≤ x.toInt ∧ x.toInt ≤ 6
def y_dC (x n : Int32) (F D : Nat → Int32) (cn fn mn : Nat) : Prop := x.toInt = 0 ∨ (¬ x.toInt = 0 ∧ ¬ x.toInt = 6 ∧ y_d1 (y_wo D (12 * cn + fn)) cn mn < 2) ∨ (x.toInt = 6 ∧ x_c1 (y_wo D (12 * cn + fn)) cn mn < 2 ∧ ((D (12 * cn + fn)).toInt = 6 ∨ x_c2 F D n.toNatClampNeg < 6))
def y_dM (x n : Int32) (F D : Nat → Int32) (cn fn mn : Nat) : Prop := x.toInt = 0 ∨ (¬ x.toInt = 0 ∧ ¬ x.toInt = 6 ∧ ¬ y_d1 (y_wo D (12 * cn + fn)) cn mn = 2) ∨ (x.toInt = 6 ∧ ¬ x_c1 (y_wo D (12 * cn + fn)) cn mn = 2 ∧ ¬ x_c2 F (y_wo D (12 * cn + fn)) n.toNatClampNeg = 6)
def y_sp_dbt (c f x n : Int32) (F D D2 : Nat → Int32) (ok : Nat → Nat → Nat → Prop) (v : Option Value) : Prop := (∃ cn fn mn, y_dh c f x n F cn fn mn ∧ ok cn fn mn ∧ v = some (.int 1) ∧ ∀ j, D2 j = if j = 12 * cn + fn then x else D j) ∨ ((∀ cn fn mn, y_dh c f x n F cn fn mn → ¬ ok cn fn mn) ∧ v = some (.int 0) ∧ ∀ j, D2 j = D j)
def y_pc_doubt (c f x : Int32) (h : mq_H) (v : Option Value) (h2 : mq_H) : Prop := y_sp_dbt c f x (mq_I h 17 0) (mq_I h 25) (mq_I h 29) (mq_I h2 29) (y_dC x (mq_I h 17 0) (mq_I h 25) (mq_I h 29)) v
def y_pm_doubt (c f x : Int32) (h : mq_H) (v : Option Value) (h2 : mq_H) : Prop := y_sp_dbt c f x (mq_I h 59 9) (mq_I h 71) (mq_I h 75) (mq_I h2 75) (y_dM x (mq_I h 59 9) (mq_I h 71) (mq_I h 75)) v
theorem y_dh_fn {c f x n : Int32} {F : Nat → Int32} {cn fn mn cn' fn' mn' : Nat} (hn : n.toInt ≤ 60) (a : y_dh c f x n F cn fn mn) (b : y_dh c f x n F cn' fn' mn') : cn' = cn ∧ fn' = fn ∧ mn' = mn := by
  obtain ⟨a1, a2, a3, a4, a5, a6, a7, a8⟩ := a
  obtain ⟨b1, b2, b3, b4, b5, b6, b7, b8⟩ := b
  rw [a1, nI_eq (by omega) (by omega)] at b1
  subst b1
  rw [a3, nI_eq (by omega) (by omega)] at b3
  rw [a4, nI_eq (by omega) (by omega)] at b4
  exact ⟨rfl, b3.symm, b4.symm⟩
/-- contestedInAll -/
theorem y_all (I : ck_Iv x_X h) (n : Nat) : mq_PC mq_G (mq_tT lL) n 24 [.retAddr 17] h (fun v h2 => h2 = h ∧ v = some (.int (nI (x_c2 (mq_I h 25) (mq_I h 29) (mq_I h 17 0).toNatClampNeg)))) := by
  have n0 := I.1.1 17 0 0 60 rfl
  obtain ⟨N, eN, hN, hNi⟩ := x_nat (n := 60) n0.1 n0.2
  rw [x_cl eN (by omega)]
  have lp : ∀ (n c k : Nat) (x y z : Int32), c < N → (k : Int) ≤ (mq_I h 25 c).toInt → x = nI (x_c2 (mq_I h 25) (mq_I h 29) c + x_c1 (mq_I h 29) c k) → y = nI c → z = nI k → (∀ (c : Nat) (x y : Int32) (l3 : Option Value), c ≤ N → x = nI (x_c2 (mq_I h 25) (mq_I h 29) c) → y = nI c → ∀ j, j < n → mq_Pn mq_G (mq_tT lL) j 24 4 [some (.retAddr 17), some (.int x), some (.int y), l3] [] h (fun v h2 => h2 = h ∧ v = some (.int (nI (x_c2 (mq_I h 25) (mq_I h 29) N))))) → mq_Pn mq_G (mq_tT lL) n 24 14 [some (.retAddr 17), some (.int x), some (.int y), some (.int z)] [] h (fun v h2 => h2 = h ∧ v = some (.int (nI (x_c2 (mq_I h 25) (mq_I h 29) N)))) := by
    intro n
    induction n with
    | zero => intro c k x y z _ _ _ _ _ _; exact mq_Pn.z
    | succ n ih =>
      intro c k x y z hc hk ex ey ez H
      subst ey ez
      have f0 := I.1.2 25 60 0 12 rfl c (by omega)
      have e12 : nI c * 12 + nI k = nI (12 * c + k) := by rw [show (12 : Int32) = nI 12 from rfl, nI_mul, nI_add, Nat.mul_comm]
      refine mq_gl 60 [14, 4] ?_
      intro _
      refine bq_c (fun g => ?_) (fun g => ?_)
      · have g : mq_I h 25 (nI c).toNatClampNeg ≤ nI k := g
        rw [nI_clamp (by omega), le_i, nI_toInt (by omega)] at g
        refine H (c + 1) _ _ _ (by omega) ?_ (nI_1 _) n (by omega)
        rw [ex]
        have : k = (mq_I h 25 c).toNatClampNeg := by
          have := ci_cl f0.1
          omega
        rw [this]
        rfl
      · have g : ¬ mq_I h 25 (nI c).toNatClampNeg ≤ nI k := g
        rw [nI_clamp (by omega), le_i, nI_toInt (by omega)] at g
        intro _
        refine bn_c (fun e => ?_) (fun e => ?_)
        · have e : ¬ mq_I h 29 (nI c * 12 + nI k).toNatClampNeg = 6 := e
          rw [x_cl e12 (by omega)] at e
          refine ih c (k + 1) _ _ _ hc (by omega) ?_ rfl (nI_1 _) (fun c x y l3 a b d j hj => H c x y l3 a b d j (by omega))
          show x + 0 = nI (x_c2 _ _ c + (x_c1 _ c k + (if (mq_I h 29 (12 * c + k)).toInt = 6 then 1 else 0)))
          rw [if_neg (fun z : (mq_I h 29 (12 * c + k)).toInt = 6 => e (x_toI z rfl)), ex]
          show nI _ + nI 0 = _
          rw [nI_add]
          rfl
        · have e : mq_I h 29 (nI c * 12 + nI k).toNatClampNeg = 6 := e
          rw [x_cl e12 (by omega)] at e
          refine ih c (k + 1) _ _ _ hc (by omega) ?_ rfl (nI_1 _) (fun c x y l3 a b d j hj => H c x y l3 a b d j (by omega))
          show x + 1 = nI (x_c2 _ _ c + (x_c1 _ c k + (if (mq_I h 29 (12 * c + k)).toInt = 6 then 1 else 0)))
          rw [if_pos (show (mq_I h 29 (12 * c + k)).toInt = 6 by rw [e]; rfl), ex, nI_1]
          rfl
  have lo : ∀ (n c : Nat) (x y : Int32) (l3 : Option Value), c ≤ N → x = nI (x_c2 (mq_I h 25) (mq_I h 29) c) → y = nI c → ∀ j, j < n → mq_Pn mq_G (mq_tT lL) j 24 4 [some (.retAddr 17), some (.int x), some (.int y), l3] [] h (fun v h2 => h2 = h ∧ v = some (.int (nI (x_c2 (mq_I h 25) (mq_I h 29) N)))) := by
    intro n
    induction n with
    | zero => intro c x y l3 _ _ _ j hj; omega
    | succ n ih =>
      intro c x y l3 hc ex ey j hj
      subst ey
      refine (mq_gl (n := j - 1) 60 [14] ?_).dn (by omega)
      refine bq_c (fun g => ?_) (fun g => ?_)
      · have g : mq_I h 17 0 ≤ nI c := g
        rw [eN, nI_leI (by omega) (by omega)] at g
        have : c = N := by omega
        subst this
        exact ⟨rfl, by rw [ex]⟩
      · have g : ¬ mq_I h 17 0 ≤ nI c := g
        rw [eN, nI_leI (by omega) (by omega)] at g
        have f0 := I.1.2 25 60 0 12 rfl c (by omega)
        exact lp (j - 1) c 0 _ _ _ (by omega) (by omega) ex rfl rfl (fun c x y l3 a b d j2 hj2 => ih c x y l3 a b d j2 (by omega))
  revert n
  refine mq_el_in 40 [4] (fun n => ?_)
  exact lo (n + 1) 0 _ _ _ (by omega) rfl rfl n (by omega)
theorem y_c1_le {fd : Nat → Int32} {c : Nat} : ∀ m, x_c1 fd c m ≤ m
  | 0 => Nat.le_refl _
  | m + 1 => by
    have := y_c1_le (fd := fd) (c := c) m
    rw [y_c1_s]
    have : y_h (fd (12 * c + m)) ≤ 1 := by unfold y_h; split <;> omega
    omega
theorem y_d1_le {fd : Nat → Int32} {c : Nat} : ∀ m, y_d1 fd c m ≤ m
  | 0 => Nat.le_refl _
  | m + 1 => by
    have := y_d1_le (fd := fd) (c := c) m
    rw [y_d1_s]
    have : y_g (fd (12 * c + m)) ≤ 1 := by unfold y_g; split <;> omega
    omega
theorem y_c2_le {F D : Nat → Int32} (hF : ∀ d, d < 60 → (F d).toNatClampNeg ≤ 12) : ∀ N, N ≤ 60 → x_c2 F D N ≤ 12 * N
  | 0, _ => Nat.le_refl _
  | N + 1, hN => by
    have h1 := y_c2_le (D := D) hF N (by omega)
    have h2 := y_c1_le (fd := D) (c := N) (F N).toNatClampNeg
    have h3 := hF N (by omega)
    show x_c2 F D N + x_c1 D N (F N).toNatClampNeg ≤ _
    omega
theorem y_c2_720 (I : ck_Iv x_X h) : x_c2 (mq_I h 25) (mq_I h 29) (mq_I h 17 0).toNatClampNeg ≤ 720 := by
  have n0 := I.1.1 17 0 0 60 rfl
  have := ci_cl n0.1
  refine Nat.le_trans (y_c2_le (fun d hd => ?_) _ (by omega)) (by omega)
  have m0 := I.1.2 25 60 0 12 rfl d hd
  have := ci_cl m0.1
  omega
/-- mayBe -/
theorem y_may (I : ck_Iv x_X h) {cn fn mn : Nat} {x : Int32} (hc : cn < 60) (em : mq_I h 25 cn = nI mn) (hf : fn < mn) (hm : mn ≤ 12) (n : Nat) : mq_PC mq_G (mq_tT lL) n 23 [.retAddr 17, .int (nI cn), .int (nI fn), .int x] h (fun v h2 => h2 = h ∧ ((y_dC x (mq_I h 17 0) (mq_I h 25) (mq_I h 29) cn fn mn ∧ v = some (.int 1)) ∨ (¬ y_dC x (mq_I h 17 0) (mq_I h 25) (mq_I h 29) cn fn mn ∧ v = some (.int 0)))) := by
  have cl : (nI cn).toNatClampNeg = cn := nI_clamp (by omega)
  have e12 : ∀ k : Nat, nI cn * 12 + nI k = nI (12 * cn + k) := fun k => by rw [show (12 : Int32) = nI 12 from rfl, nI_mul, nI_add, Nat.mul_comm]
  have no : ¬ y_dC x (mq_I h 17 0) (mq_I h 25) (mq_I h 29) cn fn mn → h = h ∧ ((y_dC x (mq_I h 17 0) (mq_I h 25) (mq_I h 29) cn fn mn ∧ some (Value.int 0) = some (.int 1)) ∨ (¬ y_dC x (mq_I h 17 0) (mq_I h 25) (mq_I h 29) cn fn mn ∧ some (Value.int 0) = some (.int 0))) := fun z => ⟨rfl, Or.inr ⟨z, rfl⟩⟩
  have ye : y_dC x (mq_I h 17 0) (mq_I h 25) (mq_I h 29) cn fn mn → h = h ∧ ((y_dC x (mq_I h 17 0) (mq_I h 25) (mq_I h 29) cn fn mn ∧ some (Value.int 1) = some (.int 1)) ∨ (¬ y_dC x (mq_I h 17 0) (mq_I h 25) (mq_I h 29) cn fn mn ∧ some (Value.int 1) = some (.int 0))) := fun z => ⟨rfl, Or.inl ⟨z, rfl⟩⟩
  have d12 : ∀ m, y_d1 (y_wo (mq_I h 29) (12 * cn + fn)) cn m ≤ m := fun m => by
    induction m with
    | zero => exact Nat.le_refl _
    | succ m ih =>
      rw [y_d1_s]
      have : y_g (y_wo (mq_I h 29) (12 * cn + fn) (12 * cn + m)) ≤ 1 := by unfold y_g; split <;> omega
      omega
  have c12 : ∀ m, x_c1 (y_wo (mq_I h 29) (12 * cn + fn)) cn m ≤ m := fun m => by
    induction m with
    | zero => exact Nat.le_refl _
    | succ m ih =>
      rw [y_c1_s]
      have : y_h (y_wo (mq_I h 29) (12 * cn + fn) (12 * cn + m)) ≤ 1 := by unfold y_h; split <;> omega
      omega
  have lp : ∀ (n k : Nat) (a b y : Int32) (l7 : Option Value), ¬ x.toInt = 0 → k ≤ mn → a = nI (y_d1 (y_wo (mq_I h 29) (12 * cn + fn)) cn k) → b = nI (x_c1 (y_wo (mq_I h 29) (12 * cn + fn)) cn k) → y = nI k → mq_Pn mq_G (mq_tT lL) n 23 15 [some (.retAddr 17), some (.int (nI cn)), some (.int (nI fn)), some (.int x), some (.int a), some (.int b), some (.int y), l7] [] h (fun v h2 => h2 = h ∧ ((y_dC x (mq_I h 17 0) (mq_I h 25) (mq_I h 29) cn fn mn ∧ v = some (.int 1)) ∨ (¬ y_dC x (mq_I h 17 0) (mq_I h 25) (mq_I h 29) cn fn mn ∧ v = some (.int 0)))) := by
    intro n
    induction n with
    | zero => intro k a b y l7 _ _ _ _ _; exact mq_Pn.z
    | succ n ih =>
      intro k a b y l7 x0 hk ea eb ey
      subst ey
      refine mq_gl 90 [50] ?_
      intro _
      refine bq_c (fun g => ?_) (fun g => ?_)
      · have g : mq_I h 25 (nI cn).toNatClampNeg ≤ nI k := g
        rw [cl, em, nI_leI (by omega) (by omega)] at g
        have hk : k = mn := by omega
        subst hk
        have hd := d12 k
        have hcc := c12 k
        refine bq_c (fun e6 => ?_) (fun e6 => ?_)
        · have e6 : x.toInt = 6 := y_eq e6 rfl
          refine bq_c (fun g2 => ?_) (fun g2 => ?_)
          · rw [eb, lt_i, nI_toInt (by omega)] at g2
            have g2 : (x_c1 (y_wo (mq_I h 29) (12 * cn + fn)) cn k : Int) < 2 := g2
            intro _
            refine bq_c (fun g3 => ?_) (fun g3 => ?_)
            · have g3 : mq_I h 29 (nI cn * 12 + nI fn).toNatClampNeg = 6 := g3
              rw [x_cl (e12 fn) (by omega)] at g3
              intro _
              exact ye (Or.inr (Or.inr ⟨e6, by omega, Or.inl (by rw [g3]; rfl)⟩))
            · have g3 : ¬ mq_I h 29 (nI cn * 12 + nI fn).toNatClampNeg = 6 := g3
              rw [x_cl (e12 fn) (by omega)] at g3
              refine mq_PC.mono (y_all I n) (fun v h2 ⟨eh, ev⟩ => ?_)
              subst eh ev
              have al : x_c2 (mq_I h2 25) (mq_I h2 29) (mq_I h2 17 0).toNatClampNeg ≤ 720 := y_c2_720 I
              refine bq_c (fun g4 => ?_) (fun g4 => ?_)
              · rw [le_i, nI_toInt (by omega)] at g4
                have g4 : (6 : Int) ≤ (x_c2 (mq_I h2 25) (mq_I h2 29) (mq_I h2 17 0).toNatClampNeg : Int) := g4
                intro _
                refine no (fun z => ?_)
                rcases z with z | ⟨_, z, _⟩ | ⟨_, _, z | z⟩
                · omega
                · exact z e6
                · exact g3 (x_toI z rfl)
                · omega
              · rw [le_i, nI_toInt (by omega)] at g4
                have g4 : ¬ (6 : Int) ≤ (x_c2 (mq_I h2 25) (mq_I h2 29) (mq_I h2 17 0).toNatClampNeg : Int) := g4
                intro _
                exact ye (Or.inr (Or.inr ⟨e6, by omega, Or.inr (by omega)⟩))
          · rw [eb, lt_i, nI_toInt (by omega)] at g2
            have g2 : ¬ (x_c1 (y_wo (mq_I h 29) (12 * cn + fn)) cn k : Int) < 2 := g2
            intro _
            refine no (fun z => ?_)
            rcases z with z | ⟨_, z, _⟩ | ⟨_, z, _⟩
            · exact x0 z
            · exact z e6
            · omega
        · have e6 : ¬ x.toInt = 6 := y_ne e6 rfl
          refine bq_c (fun g2 => ?_) (fun g2 => ?_)
          · rw [ea, le_i, nI_toInt (by omega)] at g2
            have g2 : (2 : Int) ≤ (y_d1 (y_wo (mq_I h 29) (12 * cn + fn)) cn k : Int) := g2
            intro _
            refine no (fun z => ?_)
            rcases z with z | ⟨_, _, z⟩ | ⟨z, _⟩
            · exact x0 z
            · omega
            · exact e6 z
          · rw [ea, le_i, nI_toInt (by omega)] at g2
            have g2 : ¬ (2 : Int) ≤ (y_d1 (y_wo (mq_I h 29) (12 * cn + fn)) cn k : Int) := g2
            intro _
            exact ye (Or.inr (Or.inl ⟨x0, e6, by omega⟩))
      · have g : ¬ mq_I h 25 (nI cn).toNatClampNeg ≤ nI k := g
        rw [cl, em, nI_leI (by omega) (by omega)] at g
        have nx : ∀ v : Int32, v = y_wo (mq_I h 29) (12 * cn + fn) (12 * cn + k) → mq_Pn mq_G (mq_tT lL) n 23 50 [some (.retAddr 17), some (.int (nI cn)), some (.int (nI fn)), some (.int x), some (.int a), some (.int b), some (.int (nI k)), some (.int v)] [] h (fun v h2 => h2 = h ∧ ((y_dC x (mq_I h 17 0) (mq_I h 25) (mq_I h 29) cn fn mn ∧ v = some (.int 1)) ∨ (¬ y_dC x (mq_I h 17 0) (mq_I h 25) (mq_I h 29) cn fn mn ∧ v = some (.int 0)))) := by
          intro v ev
          have sa : ∀ z : Nat, y_g v = z → a + nI z = nI (y_d1 (y_wo (mq_I h 29) (12 * cn + fn)) cn (k + 1)) := fun z hz => by rw [y_d1_s, ← ev, hz, ea, nI_add]
          have sb : ∀ z : Nat, y_h v = z → b + nI z = nI (x_c1 (y_wo (mq_I h 29) (12 * cn + fn)) cn (k + 1)) := fun z hz => by rw [y_c1_s, ← ev, hz, eb, nI_add]
          refine (mq_gl (n := n) 60 [15] ?_).dn (by omega)
          refine bq_c (fun e0 => ?_) (fun e0 => ?_)
          · have e0 : v = 0 := e0
            refine bn_t (by rw [e0]; decide) ?_
            exact ih (k + 1) _ _ _ _ x0 (by omega) (sa 0 (by rw [e0]; rfl)) (sb 0 (by rw [e0]; rfl)) (nI_1 _)
          · have e0 : ¬ v.toInt = 0 := y_ne e0 rfl
            refine bq_c (fun e6 => ?_) (fun e6 => ?_)
            · have e6 : v = 6 := e6
              refine bn_f e6 ?_
              exact ih (k + 1) _ _ _ _ x0 (by omega) (sa 0 (by rw [e6]; rfl)) (sb 1 (by rw [e6]; rfl)) (nI_1 _)
            · refine bn_t e6 ?_
              have e6 : ¬ v.toInt = 6 := y_ne e6 rfl
              exact ih (k + 1) _ _ _ _ x0 (by omega) (sa 1 (if_neg (by omega))) (sb 0 (if_neg e6)) (nI_1 _)
        refine bn_c (fun e => ?_) (fun e => ?_)
        · rw [nI_eq (by omega) (by omega)] at e
          intro _
          refine nx _ ?_
          show mq_I h 29 (nI cn * 12 + nI k).toNatClampNeg = _
          rw [x_cl (e12 k) (by omega), y_wo_0 (by omega)]
        · rw [nI_eq (by omega) (by omega)] at e
          refine nx _ ?_
          rw [e]
          exact y_wo_1.symm
  revert n
  refine mq_el_in 60 [15] (fun n => ?_)
  refine bn_c (fun e => ?_) (fun e => ?_)
  · have e : ¬ x.toInt = 0 := y_ne e rfl
    exact lp n 0 _ _ _ _ e (by omega) rfl rfl rfl
  · have e : x.toInt = 0 := y_eq e rfl
    intro _
    exact ye (Or.inl e)
theorem y_c_doubt (I : ck_Iv x_X h) {c f x : Int32} (n : Nat) : mq_PC mq_G (mq_tT lL) n 113 [.retAddr 4, .int c, .int f, .int x] h (y_pc_doubt c f x h) := by
  have n0 := I.1.1 17 0 0 60 rfl
  revert n
  unfold y_pc_doubt
  have no : (∀ cn fn mn, y_dh c f x (mq_I h 17 0) (mq_I h 25) cn fn mn → ¬ y_dC x (mq_I h 17 0) (mq_I h 25) (mq_I h 29) cn fn mn) → y_sp_dbt c f x (mq_I h 17 0) (mq_I h 25) (mq_I h 29) (mq_I h 29) (y_dC x (mq_I h 17 0) (mq_I h 25) (mq_I h 29)) (some (.int 0)) := fun z => Or.inr ⟨z, rfl, fun _ => rfl⟩
  refine mq_el_in 90 [] (fun n => ?_)
  refine y_isCp (fun a1 a2 => ?_) (fun z => bq_t rfl (fun _ => no (fun cn fn mn y _ => z (y_ncl n0.2 y.1 y.2.1))))
  refine bq_f (by decide) ?_
  refine bq_c (fun q => ?_) (fun q => ?_)
  · rw [lt_i] at q
    have q : x.toInt < 0 := q
    exact fun _ => no (fun cn fn mn y _ => by have := y.2.2.2.2.2.2.1; omega)
  rw [lt_i] at q
  have q : ¬ x.toInt < 0 := q
  refine bq_c (fun q2 => ?_) (fun q2 => ?_)
  · rw [le_i] at q2
    have q2 : x.toInt ≤ 6 := q2
    obtain ⟨cn, rfl, hc, hci⟩ := x_nat (n := 59) a1 (by omega)
    have m0 := I.1.2 25 60 0 12 rfl cn (by omega)
    obtain ⟨mn, em, hm, hmi⟩ := x_nat (n := 12) m0.1 m0.2
    have cl : (nI cn).toNatClampNeg = cn := nI_clamp (by omega)
    intro _
    refine y_wi (k := (mn : Int)) (by show (mq_I h 25 (nI cn).toNatClampNeg).toInt = _; rw [cl, hmi]) (fun b1 b2 => ?_) (fun z => bq_t rfl (fun _ => no (fun cn' fn' mn' y _ => ?_)))
    · refine bq_f (by decide) ?_
      obtain ⟨fn, rfl, hf, hfi⟩ := x_nat (n := 11) b1 (by omega)
      have hd : y_dh (nI cn) (nI fn) x (mq_I h 17 0) (mq_I h 25) cn fn mn := ⟨rfl, by omega, rfl, em, by omega, hm, by omega, q2⟩
      have e12 : nI cn * 12 + nI fn = nI (12 * cn + fn) := by rw [show (12 : Int32) = nI 12 from rfl, nI_mul, nI_add, Nat.mul_comm]
      refine mq_PC.mono (y_may I (by omega) em (by omega) hm n) (fun v h1 ⟨eh, hv⟩ => ?_)
      subst eh
      rcases hv with ⟨hv, rfl⟩ | ⟨hv, rfl⟩
      · refine bn_t (by decide) ?_
        intro _
        refine mq_PC.mono (y_f1 n) (fun v h2 ⟨ev, fr⟩ => ?_)
        subst ev
        intro _
        refine Or.inl ⟨cn, fn, mn, hd, hv, rfl, fun j => (fr _ _ (by omega)).trans ?_⟩
        show (if j = (nI cn * 12 + nI fn).toNatClampNeg then x else mq_I h1 29 j) = _
        rw [x_cl e12 (by omega)]
      · refine bn_f rfl ?_
        intro _
        refine no (fun cn' fn' mn' y => ?_)
        obtain ⟨z1, z2, z3⟩ := y_dh_fn n0.2 hd y
        subst z1 z2 z3
        exact hv
    · have y1 := y.1
      rw [nI_eq (by omega) (by have := y.2.1; omega)] at y1
      subst y1
      have y3 := y.2.2.2.1
      rw [em, nI_eq (by omega) (by have := y.2.2.2.2.2.1; omega)] at y3
      subst y3
      refine z ?_
      have := y.2.2.2.2.1
      rw [y.2.2.1, nI_toInt (by omega)]
      omega
  · rw [le_i] at q2
    have q2 : ¬ x.toInt ≤ 6 := q2
    exact fun _ => no (fun cn fn mn y _ => by have := y.2.2.2.2.2.2.2; omega)
/-- the reference's doubtful: by days -/
theorem y_dtf0 (I : ck_Iv x_X h) {c : Nat} (hc : c < 60) {b : Int32} {fd : Nat → Int32} (hg : ∀ k, k < 12 → (y_g (fd (12 * c + k)) = 1 ↔ 0 < (mq_I h 75 (12 * c + k)).toInt ∧ ¬ (mq_I h 75 (12 * c + k)).toInt = 6 ∧ ¬ nI k = b)) (hq : Q (some (.int (nI (y_d1 fd c (mq_I h 71 c).toNatClampNeg)))) h) : mq_Call mq_G (mq_tT lL) 149 [.retAddr 59, .int (nI c), .int b, .int 0] h Q := by
  have hf0 := I.1.2 71 60 0 12 rfl c hc
  obtain ⟨fc, efc, hfc, hfi⟩ := x_nat (n := 12) hf0.1 hf0.2
  have g01 : ∀ v : Int32, y_g v = 0 ∨ y_g v = 1 := fun v => by unfold y_g; split <;> omega
  have key : ∀ (m k : Nat) (x y : Int32) (l6 : Option Value), k + m = fc → x = nI (y_d1 fd c k) → y = nI k → mq_At mq_G (mq_tT lL) 149 6 [some (.retAddr 59), some (.int (nI c)), some (.int b), some (.int 0), some (.int x), some (.int y), l6] [] h Q := by
    intro m
    induction m with
    | zero =>
      intro k x y l6 hk ex ey
      have hk : k = fc := by omega
      subst ey hk
      apply mq_go 40 []
      refine gq_i (inb_nI hc (by decide)) ?_
      refine bq_t (by rw [nI_clamp (by omega), efc]; exact Int32.le_refl _) ?_
      rw [efc, nI_clamp (by omega), ← ex] at hq
      exact hq
    | succ m ih =>
      intro k x y l6 hk ex ey
      subst ey
      have e12 : (12 : Int32) * nI c + nI k = nI (12 * c + k) := by rw [show (12 : Int32) = nI 12 from rfl, nI_mul, nI_add]
      have hcl := x_cl e12 (by omega)
      have hgk := hg k (by omega)
      have n64 : ∀ (x' : Int32) (l6 : Option Value), x' = nI (y_d1 fd c (k + 1)) → mq_At mq_G (mq_tT lL) 149 64 [some (.retAddr 59), some (.int (nI c)), some (.int b), some (.int 0), some (.int x'), some (.int (nI k)), l6] [] h Q := fun x' l6 e => by
        apply mq_go 20 [6]
        exact ih (k + 1) _ _ _ (by omega) e (nI_1 _)
      have no : ∀ l6, ¬ y_g (fd (12 * c + k)) = 1 → mq_At mq_G (mq_tT lL) 149 64 [some (.retAddr 59), some (.int (nI c)), some (.int b), some (.int 0), some (.int x), some (.int (nI k)), l6] [] h Q := fun l6 hn => by
        refine n64 _ _ ?_
        rw [y_d1_s, ex]
        rcases g01 (fd (12 * c + k)) with z | z
        · rw [z]
          rfl
        · exact absurd z hn
      apply mq_go 60 [6, 64]
      refine gq_i (inb_nI hc (by decide)) ?_
      refine bq_f (by rw [nI_clamp (by omega), efc]; exact nI_ge (by omega) (by omega)) ?_
      refine gq_i (x_inb e12 (by omega) (by decide)) ?_
      refine bq_c (fun eb => ?_) (fun nb => ?_)
      · exact no _ (fun z => (hgk.mp z).2.2 eb)
      · refine bq_c (fun le => ?_) (fun gt => ?_)
        · rw [hcl, le_i] at le
          have le : (mq_I h 75 (12 * c + k)).toInt ≤ 0 := le
          exact no _ (fun z => by have := (hgk.mp z).1; omega)
        · rw [hcl, le_i] at gt
          have gt : ¬ (mq_I h 75 (12 * c + k)).toInt ≤ 0 := gt
          refine bn_c (fun n6 => ?_) (fun e6 => ?_)
          · refine bn_f rfl ?_
            rw [hcl] at n6
            refine n64 _ _ ?_
            rw [y_d1_s, hgk.mpr ⟨by omega, y_ne n6 rfl, nb⟩, ex]
            exact nI_1 _
          · refine bn_t (by decide) ?_
            rw [hcl] at e6
            exact no _ (fun z => (hgk.mp z).2.1 (y_eq e6 rfl))
  apply mq_enter 40 [6]
  exact key fc 0 _ _ _ (by omega) rfl rfl
theorem y_m_doubt (I : ck_Iv x_X h) {c f x : Int32} (n : Nat) : mq_PC mq_G (mq_tT lL) n 150 [.retAddr 59, .int c, .int f, .int x] h (y_pm_doubt c f x h) := by
  have n0 := I.1.1 59 9 0 60 rfl
  obtain ⟨N, eN, hN, hNi⟩ := x_nat (n := 60) n0.1 n0.2
  have K := x_set (a := 59) (k := 0) (x := 0) I (ck_md.rf (302231454903657293676544) h) (by decide) (show ck_wl _ x_sup (ck_lc 59 0) = true by decide) (fun l u z => by cases z; exact ci_rng _) (fun n l u z _ => by cases z)
  revert n
  unfold y_pm_doubt
  have no : (∀ cn fn mn, y_dh c f x (mq_I h 59 9) (mq_I h 71) cn fn mn → ¬ y_dM x (mq_I h 59 9) (mq_I h 71) (mq_I h 75) cn fn mn) → y_sp_dbt c f x (mq_I h 59 9) (mq_I h 71) (mq_I h 75) (mq_I h 75) (y_dM x (mq_I h 59 9) (mq_I h 71) (mq_I h 75)) (some (.int 0)) := fun z => Or.inr ⟨z, rfl, fun _ => rfl⟩
  refine mq_el_in 100 [70] (fun n => ?_)
  refine y_isMp (fun a1 a2 => ?_) (fun z => bq_t rfl (fun _ => no (fun cn fn mn y _ => z (y_ncl n0.2 y.1 y.2.1))))
  have a2 : c.toInt < (mq_I h 59 9).toInt := a2
  refine bq_f (by decide) ?_
  obtain ⟨cn, rfl, hc, hci⟩ := x_nat (n := 59) a1 (by omega)
  have m0 := I.1.2 71 60 0 12 rfl cn (by omega)
  obtain ⟨mn, em, hm, hmi⟩ := x_nat (n := 12) m0.1 m0.2
  have cl : (nI cn).toNatClampNeg = cn := nI_clamp (by omega)
  intro _
  refine y_ii (a := 0) (b := (mn : Int) - 1) rfl (by show (mq_I h 71 (nI cn).toNatClampNeg - 1).toInt = _; rw [cl, ci_sub (y := 1) ⟨by show (-2147483648 : Int) ≤ _ - 1; omega, by show _ - (1 : Int) ≤ _; omega⟩, hmi]; rfl) (fun b1 b2 => ?_) (fun z => bq_t rfl (fun _ => no (fun cn' fn' mn' y _ => ?_)))
  rotate_left
  · have y1 := y.1
    rw [nI_eq (by omega) (by have := y.2.1; omega)] at y1
    subst y1
    have y3 := y.2.2.2.1
    rw [em, nI_eq (by omega) (by have := y.2.2.2.2.2.1; omega)] at y3
    subst y3
    refine z ?_
    have := y.2.2.2.2.1
    rw [y.2.2.1, nI_toInt (by omega)]
    omega
  refine bq_f (by decide) ?_
  refine y_ii (a := 0) (b := 6) rfl rfl (fun b3 b4 => ?_) (fun z => bn_f rfl (fun _ => no (fun cn' fn' mn' y _ => z ⟨y.2.2.2.2.2.2.1, y.2.2.2.2.2.2.2⟩)))
  refine bn_t (by decide) ?_
  obtain ⟨fn, rfl, hf, hfi⟩ := x_nat (n := 11) b1 (by omega)
  have hd : y_dh (nI cn) (nI fn) x (mq_I h 59 9) (mq_I h 71) cn fn mn := ⟨rfl, by omega, rfl, em, by omega, hm, by omega, b4⟩
  have e12 : (12 : Int32) * nI cn + nI fn = nI (12 * cn + fn) := by rw [show (12 : Int32) = nI 12 from rfl, nI_mul, nI_add]
  have no2 : ¬ y_dM x (mq_I h 59 9) (mq_I h 71) (mq_I h 75) cn fn mn → y_sp_dbt (nI cn) (nI fn) x (mq_I h 59 9) (mq_I h 71) (mq_I h 75) (mq_I h 75) (y_dM x (mq_I h 59 9) (mq_I h 71) (mq_I h 75)) (some (.int 0)) := fun hv => no (fun cn' fn' mn' y => by
    obtain ⟨z1, z2, z3⟩ := y_dh_fn n0.2 hd y
    subst z1 z2 z3
    exact hv)
  have eNc : (mq_I h 59 9).toNatClampNeg = N := x_cl eN (by omega)
  have emc : (mq_I h 71 cn).toNatClampNeg = mn := x_cl em (by omega)
  have end_ : ∀ (n : Nat) (l4 l5 : Option Value), y_dM x (mq_I h 59 9) (mq_I h 71) (mq_I h 75) cn fn mn → mq_Pn mq_G (mq_tT lL) n 150 129 [some (.retAddr 59), some (.int (nI cn)), some (.int (nI fn)), some (.int x), l4, l5] [] (mq_setI h 59 0 0) (fun v h2 => y_sp_dbt (nI cn) (nI fn) x (mq_I h 59 9) (mq_I h 71) (mq_I h 75) (mq_I h2 75) (y_dM x (mq_I h 59 9) (mq_I h 71) (mq_I h 75)) v) := fun n l4 l5 hv => by
    refine (mq_gl (n := n) 40 [] ?_).dn (by omega)
    intro _ _
    refine Or.inl ⟨cn, fn, mn, hd, hv, rfl, fun j => ?_⟩
    show (if j = ((12 : Int32) * nI cn + nI fn).toNatClampNeg then x else mq_I h 75 j) = _
    rw [x_cl e12 (by omega)]
  have w6 : ∀ i, (y_wo (mq_I h 75) (12 * cn + fn) i).toInt = 6 ↔ (mq_I h 75 i).toInt = 6 ∧ ¬ i = 12 * cn + fn := fun i => by
    by_cases e : i = 12 * cn + fn
    · rw [e, y_wo_1]
      exact ⟨fun z => absurd z (by decide), fun z => absurd rfl z.2⟩
    · rw [y_wo_0 e]
      exact ⟨fun z => ⟨z, e⟩, fun z => z.1⟩
  have lp : ∀ (n d : Nat) (a y : Int32), d ≤ N → x.toInt = 6 → ¬ x_c1 (y_wo (mq_I h 75) (12 * cn + fn)) cn mn = 2 → a = nI (x_c2 (mq_I h 71) (y_wo (mq_I h 75) (12 * cn + fn)) d) → y = nI d → mq_Pn mq_G (mq_tT lL) n 150 82 [some (.retAddr 59), some (.int (nI cn)), some (.int (nI fn)), some (.int x), some (.int a), some (.int y)] [] (mq_setI h 59 0 0) (fun v h2 => y_sp_dbt (nI cn) (nI fn) x (mq_I h 59 9) (mq_I h 71) (mq_I h 75) (mq_I h2 75) (y_dM x (mq_I h 59 9) (mq_I h 71) (mq_I h 75)) v) := by
    intro n
    induction n with
    | zero => intro d a y _ _ _ _ _; exact mq_Pn.z
    | succ n ih =>
      intro d a y hdN h6 hc1 ea ey
      subst ey
      have hle : x_c2 (mq_I h 71) (y_wo (mq_I h 75) (12 * cn + fn)) d ≤ 720 := Nat.le_trans (y_c2_le (fun e he => by
        have q := I.1.2 71 60 0 12 rfl e he
        have := ci_cl q.1
        omega) d (by omega)) (by omega)
      refine mq_gl 60 [82, 129] ?_
      refine bq_c (fun ge => ?_) (fun lt => ?_)
      · have ge : mq_I h 59 9 ≤ nI d := ge
        rw [eN, nI_leI (by omega) (by omega)] at ge
        have hdN : d = N := by omega
        refine bn_c (fun n6 => ?_) (fun e6 => ?_)
        · refine end_ n _ _ (Or.inr (Or.inr ⟨h6, hc1, fun z => n6 ?_⟩))
          rw [eNc, ← hdN] at z
          rw [ea, z]
          rfl
        · have e6 : a = 6 := e6
          intro _
          refine no2 (fun z => ?_)
          have e6 := congrArg Int32.toInt e6
          rw [ea, nI_toInt (by omega)] at e6
          have e6 : (x_c2 (mq_I h 71) (y_wo (mq_I h 75) (12 * cn + fn)) d : Int) = 6 := e6
          rcases z with z | ⟨_, z, _⟩ | ⟨_, _, z⟩
          · omega
          · exact z h6
          · rw [eNc, ← hdN] at z
            omega
      · have lt : ¬ mq_I h 59 9 ≤ nI d := lt
        rw [eN, nI_leI (by omega) (by omega)] at lt
        have nx : ∀ b : Int32, (∀ j, j < 12 → ((y_wo (mq_I h 75) (12 * cn + fn) (12 * d + j)).toInt = 6 ↔ (mq_I h 75 (12 * d + j)).toInt = 6 ∧ ¬ nI j = b)) → ∀ Q' : Option Value → mq_H → Prop, (∀ r : Int32, r = nI (x_c1 (y_wo (mq_I h 75) (12 * cn + fn)) d (mq_I h 71 d).toNatClampNeg) → Q' (some (.int r)) (mq_setI h 59 0 0)) → mq_PC mq_G (mq_tT lL) n 149 [.retAddr 59, .int (nI d), .int b, .int 1] (mq_setI h 59 0 0) Q' := fun b hb Q' hQ' => (x_dtf K.1 (by omega) hb (hQ' _ rfl)).pc n
        have st : ∀ r : Int32, r = nI (x_c1 (y_wo (mq_I h 75) (12 * cn + fn)) d (mq_I h 71 d).toNatClampNeg) → a + r = nI (x_c2 (mq_I h 71) (y_wo (mq_I h 75) (12 * cn + fn)) (d + 1)) := fun r er => by
          rw [ea, er, nI_add]
          rfl
        refine bn_c (fun ne => ?_) (fun eq => ?_)
        · have ne : ¬ d = cn := fun e => ne (by rw [e])
          refine nx (-1) (fun j hj => ?_) _ (fun r er => ?_)
          · rw [w6]
            refine ⟨fun z => ⟨z.1, fun e => ?_⟩, fun z => ⟨z.1, by omega⟩⟩
            have := congrArg Int32.toInt e
            rw [nI_toInt (by omega)] at this
            have : (j : Int) = -1 := this
            omega
          · exact ih (d + 1) _ _ (by omega) h6 hc1 (st r er) (nI_1 _)
        · rw [nI_eq (by omega) (by omega)] at eq
          refine nx (nI fn) (fun j hj => ?_) _ (fun r er => ?_)
          · rw [w6, nI_eq (by omega) (by omega)]
            exact ⟨fun z => ⟨z.1, by omega⟩, fun z => ⟨z.1, by omega⟩⟩
          · exact ih (d + 1) _ _ (by omega) h6 hc1 (st r er) (nI_1 _)
  have k70 : ∀ n, (x.toInt = 0 ∨ (¬ x.toInt = 0 ∧ ¬ x.toInt = 6 ∧ ¬ y_d1 (y_wo (mq_I h 75) (12 * cn + fn)) cn mn = 2) ∨ (x.toInt = 6 ∧ ¬ x_c1 (y_wo (mq_I h 75) (12 * cn + fn)) cn mn = 2)) → mq_Pn mq_G (mq_tT lL) n 150 70 [some (.retAddr 59), some (.int (nI cn)), some (.int (nI fn)), some (.int x), none, none] [] (mq_setI h 59 0 0) (fun v h2 => y_sp_dbt (nI cn) (nI fn) x (mq_I h 59 9) (mq_I h 71) (mq_I h 75) (mq_I h2 75) (y_dM x (mq_I h 59 9) (mq_I h 71) (mq_I h 75)) v) := fun n hx => by
    refine (mq_gl (n := n) 40 [82, 129] ?_).dn (by omega)
    refine bn_c (fun n6 => ?_) (fun e6 => ?_)
    · have n6 : ¬ x.toInt = 6 := y_ne n6 rfl
      refine end_ n _ _ ?_
      rcases hx with z | z | z
      · exact Or.inl z
      · exact Or.inr (Or.inl z)
      · exact absurd z.1 n6
    · have e6 : x.toInt = 6 := y_eq e6 rfl
      refine lp n 0 _ _ (by omega) e6 ?_ rfl rfl
      rcases hx with z | z | z
      · omega
      · exact absurd e6 z.2.1
      · exact z.2
  refine bq_c (fun le => ?_) (fun gt => ?_)
  · rw [le_i] at le
    have le : x.toInt ≤ 0 := le
    exact k70 n (Or.inl (by omega))
  rw [le_i] at gt
  have gt : ¬ x.toInt ≤ 0 := gt
  have hdd : ∀ k, k < 12 → 0 ≤ (mq_I h 75 (12 * cn + k)).toInt := fun k hk => (I.1.2 75 720 0 6 rfl _ (by omega)).1
  refine bn_c (fun n6 => ?_) (fun e6 => ?_)
  · have n6 : ¬ x.toInt = 6 := y_ne n6 rfl
    refine mq_Call.pc (y_dtf0 K.1 (by omega) (fd := y_wo (mq_I h 75) (12 * cn + fn)) (fun k hk => ?_) ?_) n
    · show _ ↔ 0 < (mq_I h 75 (12 * cn + k)).toInt ∧ ¬ (mq_I h 75 (12 * cn + k)).toInt = 6 ∧ ¬ nI k = nI fn
      have q := hdd k hk
      rw [nI_eq (by omega) (by omega)]
      by_cases e : k = fn
      · subst e
        rw [y_wo_1]
        exact ⟨fun z => absurd z (by decide), fun z => absurd rfl z.2.2⟩
      · rw [y_wo_0 (by omega)]
        unfold y_g
        by_cases e2 : (mq_I h 75 (12 * cn + k)).toInt = 0 ∨ (mq_I h 75 (12 * cn + k)).toInt = 6
        · rw [if_pos e2]
          exact ⟨fun z => absurd z (by decide), fun z => by omega⟩
        · rw [if_neg e2]
          exact ⟨fun _ => ⟨by omega, by omega, e⟩, fun _ => rfl⟩
    · show mq_fS _ _
      have hl : y_d1 (y_wo (mq_I h 75) (12 * cn + fn)) cn mn ≤ 12 := Nat.le_trans (y_d1_le mn) hm
      refine bn_c (fun n2 => ?_) (fun e2 => ?_)
      · have n2 : ¬ nI (y_d1 (y_wo (mq_I h 75) (12 * cn + fn)) cn (mq_I h 71 cn).toNatClampNeg) = 2 := n2
        rw [emc] at n2
        exact k70 n (Or.inr (Or.inl ⟨by omega, n6, fun z => n2 (by rw [z]; rfl)⟩))
      · have e2 : nI (y_d1 (y_wo (mq_I h 75) (12 * cn + fn)) cn (mq_I h 71 cn).toNatClampNeg) = 2 := e2
        rw [emc] at e2
        have e2 := congrArg Int32.toInt e2
        rw [nI_toInt (by omega)] at e2
        have e2 : (y_d1 (y_wo (mq_I h 75) (12 * cn + fn)) cn mn : Int) = 2 := e2
        intro _
        refine no2 (fun z => ?_)
        rcases z with z | ⟨_, _, z⟩ | ⟨z, _⟩
        · omega
        · omega
        · exact n6 z
  · have e6 : x.toInt = 6 := y_eq e6 rfl
    refine mq_Call.pc (x_dtf K.1 (by omega) (fd := y_wo (mq_I h 75) (12 * cn + fn)) (fun k hk => ?_) ?_) n
    · show _ ↔ (mq_I h 75 (12 * cn + k)).toInt = 6 ∧ ¬ nI k = nI fn
      rw [w6, nI_eq (by omega) (by omega)]
      exact ⟨fun z => ⟨z.1, by omega⟩, fun z => ⟨z.1, by omega⟩⟩
    · show mq_fS _ _
      have hl : x_c1 (y_wo (mq_I h 75) (12 * cn + fn)) cn mn ≤ 12 := Nat.le_trans (y_c1_le mn) hm
      refine bn_c (fun n2 => ?_) (fun e2 => ?_)
      · have n2 : ¬ nI (x_c1 (y_wo (mq_I h 75) (12 * cn + fn)) cn (mq_I h 71 cn).toNatClampNeg) = 2 := n2
        rw [emc] at n2
        exact k70 n (Or.inr (Or.inr ⟨e6, fun z => n2 (by rw [z]; rfl)⟩))
      · have e2 : nI (x_c1 (y_wo (mq_I h 75) (12 * cn + fn)) cn (mq_I h 71 cn).toNatClampNeg) = 2 := e2
        rw [emc] at e2
        have e2 := congrArg Int32.toInt e2
        rw [nI_toInt (by omega)] at e2
        have e2 : (x_c1 (y_wo (mq_I h 75) (12 * cn + fn)) cn mn : Int) = 2 := e2
        intro _
        refine no2 (fun z => ?_)
        rcases z with z | ⟨_, z, _⟩ | ⟨_, z, _⟩
        · omega
        · exact z e6
        · omega
end YD
