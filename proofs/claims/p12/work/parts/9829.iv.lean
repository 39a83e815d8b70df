/-! doubt: class and reference; no more than two in doubt, two contested of a claim -/
section YV
variable {lL : Nat} {h h1 h2 : mq_H} {Q : Option Value → mq_H → Prop}
def y_iv (n : Int32) (F D : Nat → Int32) : Prop := ∀ c : Nat, c < 60 → (c : Int) < n.toInt → (F c).toInt ≤ 12 → x_c1 D c (F c).toNatClampNeg ≤ 2 ∧ y_d1 D c (F c).toNatClampNeg ≤ 2
theorem y_cl12 {x : Int32} (hx : x.toInt ≤ 12) : x.toNatClampNeg ≤ 12 := by
  show x.toInt.toNat ≤ 12
  omega
theorem y_iv_cong {n : Int32} {F D F2 D2 : Nat → Int32} (hF : ∀ k, k < 60 → F2 k = F k) (hD : ∀ k, k < 720 → D2 k = D k) (V : y_iv n F D) : y_iv n F2 D2 := by
  intro c hc hn h12
  rw [hF c hc] at h12 ⊢
  have := y_cl12 h12
  obtain ⟨v1, v2⟩ := V c hc hn h12
  rw [x_c1_cong (fd := D) (fd' := D2) _ (fun k hk => hD _ (by omega)), y_d1_cong (fd := D) (fd2 := D2) _ (fun k hk => hD _ (by omega))]
  exact ⟨v1, v2⟩
def y_e_iv : y_T := fun _ w => y_iv (w 59 9) (w 71) (w 75)
def y_k_iv : Nat := 168514587847722389920643284992
theorem y_f_iv : y_F y_e_iv y_k_iv := fun v v2 w w2 hv hw e => by
  have q1 : w2 59 9 = w 59 9 := hw _ _ (by decide) (by decide)
  show y_iv (w2 59 9) (w2 71) (w2 75)
  rw [q1]
  exact y_iv_cong (fun k hk => hw _ k (show Nat.testBit y_k_iv (ck_lca 71) = true by decide) (y_xp_71 hk)) (fun k hk => hw _ k (show Nat.testBit y_k_iv (ck_lca 75) = true by decide) (y_xp_75 hk)) e
theorem y_v_claim {p k s d e u : Int32} {v : Option Value} (iv : y_e_iv (mq_I h) (mq_I h)) (I : ck_Iv x_X h) (m1 : ck_md kc_111.2.2 h h1) (m2 : ck_md kc_147.2.2 h1 h2) (s2 : y_pm_claim p k s d e u h1 v h2) : y_e_iv (mq_I h2) (mq_I h2) := by
  have iv : y_iv (mq_I h 59 9) (mq_I h 71) (mq_I h 75) := iv
  have n0 := I.1.1 59 9 0 60 rfl
  have q1 : mq_I h1 59 9 = mq_I h 59 9 := m1.2.2.2.2 _ _ (by decide)
  have q3 : ∀ j, mq_I h1 71 j = mq_I h 71 j := fun j => m1.2.2.2.2 _ _ (show Nat.testBit _ (ck_lca 71) = false by decide)
  have q4 : ∀ j, mq_I h2 75 j = mq_I h 75 j := fun j => (m2.2.2.2.2 _ _ (show Nat.testBit _ (ck_lca 75) = false by decide)).trans (m1.2.2.2.2 _ _ (show Nat.testBit _ (ck_lca 75) = false by decide))
  unfold y_pm_claim y_sp_claim at s2
  rw [q1] at s2
  show y_iv (mq_I h2 59 9) (mq_I h2 71) (mq_I h2 75)
  rcases s2 with ⟨o2, v2, n2, f2⟩ | ⟨o2, v2, n2, f2⟩
  · have n60 := o2.2.2.2.2.2.2.2.2.2.2.2.2
    intro c hc hn h12
    have e1 : (mq_I h 59 9 + 1).toInt = (mq_I h 59 9).toInt + 1 := ci_add (y := 1) ⟨by show (-2147483648 : Int) ≤ _ + 1; omega, by show _ + (1 : Int) ≤ _; omega⟩
    have ec := ci_cl n0.1
    rw [n2, e1] at hn
    by_cases e : c = (mq_I h 59 9).toNatClampNeg
    · rw [f2, if_pos e]
      exact ⟨Nat.zero_le _, Nat.zero_le _⟩
    · rw [f2, if_neg e, q3] at h12 ⊢
      have := y_cl12 h12
      obtain ⟨v1, v2⟩ := iv c hc (by omega) h12
      rw [x_c1_cong (fd := mq_I h 75) (fd' := mq_I h2 75) _ (fun k hk => q4 _), y_d1_cong (fd := mq_I h 75) (fd2 := mq_I h2 75) _ (fun k hk => q4 _)]
      exact ⟨v1, v2⟩
  · rw [n2]
    exact y_iv_cong (fun k _ => (f2 k).trans (q3 k)) (fun k _ => q4 k) iv
theorem y_v_fact {c s f t : Int32} {v : Option Value} (iv : y_e_iv (mq_I h) (mq_I h)) (I : ck_Iv x_X h) (m1 : ck_md kc_112.2.2 h h1) (m2 : ck_md kc_148.2.2 h1 h2) (s2 : y_pm_fact c s f t h1 v h2) : y_e_iv (mq_I h2) (mq_I h2) := by
  have iv : y_iv (mq_I h 59 9) (mq_I h 71) (mq_I h 75) := iv
  have n0 := I.1.1 59 9 0 60 rfl
  have q1 : mq_I h1 59 9 = mq_I h 59 9 := m1.2.2.2.2 _ _ (by decide)
  have q2 : mq_I h2 59 9 = mq_I h1 59 9 := m2.2.2.2.2 _ _ (by decide)
  have q3 : ∀ j, mq_I h1 71 j = mq_I h 71 j := fun j => m1.2.2.2.2 _ _ (show Nat.testBit _ (ck_lca 71) = false by decide)
  have q4 : ∀ j, mq_I h1 75 j = mq_I h 75 j := fun j => m1.2.2.2.2 _ _ (show Nat.testBit _ (ck_lca 75) = false by decide)
  unfold y_pm_fact y_sp_fact at s2
  show y_iv (mq_I h2 59 9) (mq_I h2 71) (mq_I h2 75)
  rw [q2, q1]
  rcases s2 with ⟨cn, mn, g, v2, t1, t2⟩ | ⟨g, v2, t1, t2⟩
  · obtain ⟨y1, y2, y3, y4, y5, y6, y7, y8, y9, y10⟩ := g
    rw [q3] at y9
    intro d hd hn h12
    by_cases e : d = cn
    · subst e
      have e1 : mq_I h2 71 d = nI (mn + 1) := by rw [t1, if_pos rfl]
      rw [e1, nI_clamp (by omega), y_c1_s, y_d1_s]
      obtain ⟨v1, v2⟩ := iv d hd hn (by rw [y9, nI_toInt (by omega)]; omega)
      rw [y9, nI_clamp (by omega)] at v1 v2
      rw [x_c1_cong (fd := mq_I h 75) (fd' := mq_I h2 75) mn (fun k hk => by rw [t2, if_neg (by omega), q4]), y_d1_cong (fd := mq_I h 75) (fd2 := mq_I h2 75) mn (fun k hk => by rw [t2, if_neg (by omega), q4]), t2, if_pos rfl]
      have z1 : y_h 0 = 0 := rfl
      have z2 : y_g 0 = 0 := rfl
      rw [z1, z2]
      exact ⟨by omega, by omega⟩
    · rw [t1, if_neg e, q3] at h12 ⊢
      have := y_cl12 h12
      obtain ⟨v1, v2⟩ := iv d hd hn h12
      rw [x_c1_cong (fd := mq_I h 75) (fd' := mq_I h2 75) _ (fun k hk => by rw [t2, if_neg (by omega), q4]), y_d1_cong (fd := mq_I h 75) (fd2 := mq_I h2 75) _ (fun k hk => by rw [t2, if_neg (by omega), q4])]
      exact ⟨v1, v2⟩
  · exact y_iv_cong (fun k _ => (t1 k).trans (q3 k)) (fun k _ => (t2 k).trans (q4 k)) iv
/-- what class and reference ask is the same -/
theorem y_dCM {x n : Int32} {F D F' D' : Nat → Int32} {c f : Int32} {cn fn mn : Nat} (hn0 : 0 ≤ n.toInt) (hn : n.toInt ≤ 60) (hF : ∀ k, k < 60 → F k = F' k) (hD : ∀ k, k < 720 → D k = D' k) (h12 : ∀ d, d < 60 → 0 ≤ (F' d).toInt ∧ (F' d).toInt ≤ 12) (iv : y_iv n F' D') (ct : x_c2 F' D' n.toNatClampNeg ≤ 6) (hd : y_dh c f x n F' cn fn mn) : y_dC x n F D cn fn mn ↔ y_dM x n F' D' cn fn mn := by
  obtain ⟨y1, y2, y3, y4, y5, y6, y7, y8⟩ := hd
  have ec := ci_cl hn0
  have fcl : (F' cn).toNatClampNeg = mn := by rw [y4]; exact nI_clamp (by omega)
  have wo : ∀ i, i < 720 → y_wo D (12 * cn + fn) i = y_wo D' (12 * cn + fn) i := fun i hi => by
    unfold y_wo
    rw [hD i hi]
  have e1 : y_d1 (y_wo D (12 * cn + fn)) cn mn = y_d1 (y_wo D' (12 * cn + fn)) cn mn := y_d1_cong mn (fun k hk => wo _ (by omega))
  have e2 : x_c1 (y_wo D (12 * cn + fn)) cn mn = x_c1 (y_wo D' (12 * cn + fn)) cn mn := x_c1_cong mn (fun k hk => wo _ (by omega))
  have e3 : x_c2 F D n.toNatClampNeg = x_c2 F' D' n.toNatClampNeg := x_c2_cong _ (fun d hd => ⟨hF d (by omega), fun k hk => hD _ (by have := ci_cl (h12 d (by omega)).1; have := (h12 d (by omega)).2; omega)⟩)
  have e4 : D (12 * cn + fn) = D' (12 * cn + fn) := hD _ (by omega)
  obtain ⟨v1, v2⟩ := iv cn (by omega) y2 (h12 cn (by omega)).2
  rw [fcl] at v1 v2
  have w1 := y_d1_wo (D := D') (c := cn) y5
  have w2 := y_c1_wo (D := D') (c := cn) y5
  have w3 := y_c2_wo (F := F') (D := D') (c := cn) (f := fn) (by rw [fcl]; exact y5) (fun d => by
    rcases Nat.lt_or_ge d 60 with q | q
    · exact Or.inl (y_cl12 (h12 d q).2)
    · exact Or.inr q) n.toNatClampNeg (by omega) (by omega)
  unfold y_dC y_dM
  rw [e1, e2, e3, e4]
  have h6 : y_h (D' (12 * cn + fn)) = 1 ∧ (D' (12 * cn + fn)).toInt = 6 ∨ y_h (D' (12 * cn + fn)) = 0 ∧ ¬ (D' (12 * cn + fn)).toInt = 6 := by
    unfold y_h
    by_cases e : (D' (12 * cn + fn)).toInt = 6
    · exact Or.inl ⟨if_pos e, e⟩
    · exact Or.inr ⟨if_neg e, e⟩
  refine ⟨fun z => ?_, fun z => ?_⟩
  · rcases z with z | ⟨z1, z2, z3⟩ | ⟨z1, z2, z3⟩
    · exact Or.inl z
    · exact Or.inr (Or.inl ⟨z1, z2, by omega⟩)
    · refine Or.inr (Or.inr ⟨z1, by omega, ?_⟩)
      rcases h6 with ⟨q1, q2⟩ | ⟨q1, q2⟩ <;> rcases z3 with z3 | z3 <;> omega
  · rcases z with z | ⟨z1, z2, z3⟩ | ⟨z1, z2, z3⟩
    · exact Or.inl z
    · exact Or.inr (Or.inl ⟨z1, z2, by omega⟩)
    · refine Or.inr (Or.inr ⟨z1, by omega, ?_⟩)
      rcases h6 with ⟨q1, q2⟩ | ⟨q1, q2⟩
      · exact Or.inl q2
      · exact Or.inr (by omega)
theorem y_j_doubt {c f x r1 r2 : Int32} (ct : y_e_ct (mq_I h) (mq_I h)) (fc : y_e_fc (mq_I h) (mq_I h)) (fd : y_e_fd (mq_I h) (mq_I h)) (iv : y_e_iv (mq_I h) (mq_I h)) (I : ck_Iv x_X h) (m1 : ck_md kc_113.2.2 h h1) (s1 : y_pc_doubt c f x h (some (.int r1)) h1) (m2 : ck_md kc_150.2.2 h1 h2) (s2 : y_pm_doubt c f x h1 (some (.int r2)) h2) : r1 = r2 ∧ y_e_fd (mq_I h2) (mq_I h2) ∧ y_e_iv (mq_I h2) (mq_I h2) := by
  have n0 := I.1.1 59 9 0 60 rfl
  have ct : mq_I h 17 0 = mq_I h 59 9 := ct
  have fc : ∀ k, k < 60 → mq_I h 25 k = mq_I h 71 k := fc
  have fd : ∀ k, k < 720 → mq_I h 29 k = mq_I h 75 k := fd
  have iv : y_iv (mq_I h 59 9) (mq_I h 71) (mq_I h 75) := iv
  have xc : x_ct (mq_I h) := I.2.2.2.2.2.1
  have q0 : mq_I h1 59 9 = mq_I h 59 9 := m1.2.2.2.2 _ _ (by decide)
  have q1 : mq_I h1 71 = mq_I h 71 := by funext j; exact m1.2.2.2.2 _ _ (show Nat.testBit _ (ck_lca 71) = false by decide)
  have q2 : mq_I h1 75 = mq_I h 75 := by funext j; exact m1.2.2.2.2 _ _ (show Nat.testBit _ (ck_lca 75) = false by decide)
  have q4 : ∀ j, mq_I h2 29 j = mq_I h1 29 j := fun j => m2.2.2.2.2 _ _ (show Nat.testBit _ (ck_lca 29) = false by decide)
  have q5 : mq_I h2 59 9 = mq_I h 59 9 := (m2.2.2.2.2 _ _ (by decide)).trans q0
  have q6 : ∀ j, mq_I h2 71 j = mq_I h 71 j := fun j => (m2.2.2.2.2 _ _ (show Nat.testBit _ (ck_lca 71) = false by decide)).trans (congrFun q1 j)
  have f12 : ∀ d, d < 60 → 0 ≤ (mq_I h 71 d).toInt ∧ (mq_I h 71 d).toInt ≤ 12 := fun d hd => I.1.2 71 60 0 12 rfl d hd
  unfold y_pc_doubt at s1
  unfold y_pm_doubt at s2
  rw [q0, q1, q2] at s2
  rw [ct] at s1
  have dt : ∀ {cn fn mn}, y_dh c f x (mq_I h 59 9) (mq_I h 25) cn fn mn → y_dh c f x (mq_I h 59 9) (mq_I h 71) cn fn mn := fun {cn fn mn} ⟨y1, y2, y3, y4, y5⟩ => ⟨y1, y2, y3, by rw [← fc cn (by omega)]; exact y4, y5⟩
  have td : ∀ {cn fn mn}, y_dh c f x (mq_I h 59 9) (mq_I h 71) cn fn mn → y_dh c f x (mq_I h 59 9) (mq_I h 25) cn fn mn := fun {cn fn mn} ⟨y1, y2, y3, y4, y5⟩ => ⟨y1, y2, y3, by rw [fc cn (by omega)]; exact y4, y5⟩
  have same : ∀ {cn fn mn}, y_dh c f x (mq_I h 59 9) (mq_I h 71) cn fn mn → (y_dC x (mq_I h 59 9) (mq_I h 25) (mq_I h 29) cn fn mn ↔ y_dM x (mq_I h 59 9) (mq_I h 71) (mq_I h 75) cn fn mn) := fun hd => y_dCM n0.1 n0.2 fc fd f12 iv xc hd
  rcases s1 with ⟨cn, fn, mn, g1, o1, v1, f1⟩ | ⟨g1, v1, f1⟩ <;> rcases s2 with ⟨cn', fn', mn', g2, o2, v2, f2⟩ | ⟨g2, v2, f2⟩
  · obtain ⟨z1, z2, z3⟩ := y_dh_fn n0.2 (dt g1) g2
    subst z1 z2 z3
    refine ⟨(y_vi v1).trans (y_vi v2).symm, fun k hk => by rw [q4, f1, f2, fd k hk], ?_⟩
    show y_iv (mq_I h2 59 9) (mq_I h2 71) (mq_I h2 75)
    rw [q5]
    obtain ⟨y1, y2, y3, y4, y5, y6, y7, y8⟩ := g2
    intro d hd hn h12
    rw [q6] at h12 ⊢
    have h12' := y_cl12 h12
    obtain ⟨v1, v2⟩ := iv d hd hn h12
    by_cases e : d = cn'
    · subst e
      have ec : (mq_I h 71 d).toNatClampNeg = mn' := by rw [y4]; exact nI_clamp (by omega)
      rw [ec] at v1 v2 ⊢
      rw [y_c1_set f2 mn' y5, y_d1_set f2 mn' y5]
      have w1 := y_d1_wo (D := mq_I h 75) (c := d) y5
      have w2 := y_c1_wo (D := mq_I h 75) (c := d) y5
      unfold y_h y_g
      rcases o2 with z | ⟨z1, z2, z3⟩ | ⟨z1, z2, z3⟩
      · rw [if_neg (by omega), if_pos (Or.inl z)]
        exact ⟨by omega, by omega⟩
      · rw [if_neg z2, if_neg (by omega)]
        exact ⟨by omega, by omega⟩
      · rw [if_pos z1, if_pos (Or.inr z1)]
        exact ⟨by omega, by omega⟩
    · rw [x_c1_cong (fd := mq_I h 75) (fd' := mq_I h2 75) _ (fun k hk => by rw [f2, if_neg (by omega)]), y_d1_cong (fd := mq_I h 75) (fd2 := mq_I h2 75) _ (fun k hk => by rw [f2, if_neg (by omega)])]
      exact ⟨v1, v2⟩
  · exact absurd ((same (dt g1)).mp o1) (g2 cn fn mn (dt g1))
  · exact absurd ((same g2).mpr o2) (g1 cn' fn' mn' (td g2))
  · refine ⟨(y_vi v1).trans (y_vi v2).symm, fun k hk => by rw [q4, f1, f2, fd k hk], ?_⟩
    show y_iv (mq_I h2 59 9) (mq_I h2 71) (mq_I h2 75)
    rw [q5]
    exact y_iv_cong (fun k _ => q6 k) (fun k _ => f2 k) iv
end YV
