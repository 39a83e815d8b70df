/-! THE REFERENCE's tokens: raw, isIn, isLetter, isDigit, isMarkSign, wordAt -/
section XE
variable {lL : Nat} {h h' : mq_H} {Q : Option Value → mq_H → Prop}
theorem x_raw {k : Int32} {j T : Nat} (ek : k = nI j) (hj : j ≤ 400) (eT : mq_I h 59 25 = nI T) (hT : T ≤ 400) (h1 : j < T → Q (some (.int (mq_I h 80 j))) h) (h0 : T ≤ j → Q (some (.int (-1))) h) : mq_Call mq_G (mq_tT lL) 157 [.retAddr 59, .int k] h Q := by
  subst ek
  apply mq_enter 40 []
  refine bq_c (fun c => ?_) (fun c => ?_)
  · rw [eT, nI_leI (by omega) (by omega)] at c
    exact h0 c
  · rw [eT, nI_leI (by omega) (by omega)] at c
    refine gq_i (inb_nI (by omega) (by decide)) ?_
    have := h1 (by omega)
    rw [← nI_clamp (n := j) (by omega)] at this
    exact this
theorem x_isIn {x l u : Int32} (h1 : l.toInt ≤ x.toInt → x.toInt ≤ u.toInt → Q (some (.int 1)) h) (h0 : (l.toInt ≤ x.toInt → ¬ x.toInt ≤ u.toInt) → Q (some (.int 0)) h) : mq_Call mq_G (mq_tT lL) 137 [.retAddr 59, .int x, .int l, .int u] h Q := by
  apply mq_enter 40 []
  refine bq_c (fun c => ?_) (fun c => ?_)
  · rw [lt_i] at c
    exact gq_i rfl (h0 (fun z => by omega))
  · rw [lt_i] at c
    refine bq_c (fun c2 => ?_) (fun c2 => ?_)
    · rw [lt_i] at c2
      exact gq_i rfl (h0 (fun _ z => by omega))
    · rw [lt_i] at c2
      exact gq_i rfl (h1 (by omega) (by omega))
theorem x_isLetter {c : Int32} (hq : ∀ r : Int32, (r = 0 ∨ r = 1) → (r = 1 → 65 ≤ c.toInt) → Q (some (.int r)) h) : mq_Call mq_G (mq_tT lL) 158 [.retAddr 59, .int c] h Q := by
  apply mq_enter 40 []
  refine x_isIn (fun a b => ?_) (fun a => ?_)
  · refine bn_t (by decide) ?_
    refine gq_i rfl ?_
    exact hq 1 (Or.inr rfl) (fun _ => by have a : (97 : Int) ≤ c.toInt := a; omega)
  · refine bn_f rfl ?_
    refine x_isIn (fun a b => ?_) (fun a => ?_)
    · refine bq_f (by decide) ?_
      refine gq_i rfl ?_
      exact hq 1 (Or.inr rfl) (fun _ => a)
    · refine bq_t rfl ?_
      refine gq_i rfl ?_
      exact hq 0 (Or.inl rfl) (fun z => by cases z)
theorem x_isDigit {c : Int32} (hq : ∀ r : Int32, (r = 0 ∨ r = 1) → (r = 1 → 48 ≤ c.toInt) → Q (some (.int r)) h) : mq_Call mq_G (mq_tT lL) 159 [.retAddr 59, .int c] h Q := by
  apply mq_enter 40 []
  refine x_isIn (fun a b => ?_) (fun a => ?_)
  · refine gq_i rfl ?_
    exact hq 1 (Or.inr rfl) (fun _ => a)
  · refine gq_i rfl ?_
    exact hq 0 (Or.inl rfl) (fun z => by cases z)
theorem x_isMark {c : Int32} (hq : ∀ r : Int32, Q (some (.int r)) h) : mq_Call mq_G (mq_tT lL) 160 [.retAddr 59, .int c] h Q := by
  apply mq_enter 80 []
  refine bq_c (fun _ => gq_i rfl (hq _)) (fun _ => ?_)
  refine bq_c (fun _ => gq_i rfl (hq _)) (fun _ => ?_)
  refine bq_c (fun _ => gq_i rfl (hq _)) (fun _ => ?_)
  refine bq_c (fun _ => gq_i rfl (hq _)) (fun _ => ?_)
  refine bq_c (fun _ => gq_i rfl (hq _)) (fun _ => ?_)
  refine bq_c (fun _ => gq_i rfl (hq _)) (fun _ => ?_)
  refine bq_c (fun _ => gq_i rfl (hq _)) (fun _ => ?_)
  refine bq_c (fun _ => gq_i rfl (hq _)) (fun _ => ?_)
  refine bq_c (fun _ => gq_i rfl (hq _)) (fun _ => ?_)
  refine bn_c (fun _ => gq_i rfl (hq _)) (fun _ => gq_i rfl (hq _))
/-- the place of the next blank among the words, and how many words stand before -/
def x_ns (k : Nat) : Nat := ((List.range 148).find? (fun j => Nat.blt k j && decide (x_w j = 32))).getD 0
def x_nb (k : Nat) : Nat := ((List.range k).filter (fun j => decide (x_w j = 32))).length
def x_nsB (k : Nat) : Bool := !(decide (x_w k = 32)) || (decide (k < x_ns k) && (decide (x_ns k ≤ 147) && (decide (x_w (x_ns k) = 32) && ((List.range 148).all (fun j => !(decide (k < j) && decide (j < x_ns k)) || !(decide (x_w j = 32))) && (decide (x_nb k ≤ 28) && decide (x_nb (x_ns k) = x_nb k + 1))))))
theorem x_nsA : (List.range 147).all x_nsB = true := by decide +kernel
theorem x_ns_ok (k : Nat) (hk : k < 147) (hw : x_w k = 32) : k < x_ns k ∧ x_ns k ≤ 147 ∧ x_w (x_ns k) = 32 ∧ (∀ j, j < 148 → k < j → j < x_ns k → ¬ x_w j = 32) ∧ x_nb k ≤ 28 ∧ x_nb (x_ns k) = x_nb k + 1 := by
  have := List.all_eq_true.mp x_nsA k (List.mem_range.mpr hk)
  unfold x_nsB at this
  rw [Bool.or_eq_true] at this
  rcases this with z | z
  · rw [decide_eq_true hw] at z
    cases z
  · simp only [Bool.and_eq_true, decide_eq_true_eq] at z
    obtain ⟨z1, z2, z3, z4, z5, z6⟩ := z
    refine ⟨z1, z2, z3, fun j hj h1 h2 e => ?_, z5, z6⟩
    have := List.all_eq_true.mp z4 j (List.mem_range.mpr hj)
    rw [decide_eq_true h1, decide_eq_true h2, decide_eq_true e] at this
    cases this
theorem x_wordAt {f s : Nat} (hw : x_wd h) (hfs : f ≤ s) (hs : s ≤ 400) (ht : ∀ j, f ≤ j → j < s → ¬ mq_I h 80 j = 32) (hq : ∀ r : Int32, -1 ≤ r.toInt → r.toInt ≤ 28 → Q (some (.int r)) h) {x y : Int32} (ex : x = nI f) (ey : y = nI s) : mq_Call mq_G (mq_tT lL) 161 [.retAddr 59, .int x, .int y] h Q := by
  subst ex ey
  have key : ∀ (m k : Nat) (n z : Int32) (l5 : Option Value), 148 ≤ k + m → k ≤ 147 → x_w k = 32 → n + 1 = nI (x_nb k) → z = nI k → mq_At mq_G (mq_tT lL) 161 5 [some (.retAddr 59), some (.int (nI f)), some (.int (nI s)), some (.int n), some (.int z), l5] [] h Q := by
    intro m
    induction m with
    | zero => intro k n z l5 h1 h2; omega
    | succ m ih =>
      intro k n z l5 h1 h2 hk en ez
      subst ez
      rcases Nat.lt_or_ge k 147 with q | q
      · obtain ⟨n1, n2, n3, n4, n5, n6⟩ := x_ns_ok k q hk
        -- to the next blank
        have key3 : ∀ (m j : Nat) (z : Int32) (l5 : Option Value), j + m = x_ns k → k < j → z = nI j → mq_At mq_G (mq_tT lL) 161 94 [some (.retAddr 59), some (.int (nI f)), some (.int (nI s)), some (.int (nI (x_nb k))), some (.int z), l5] [] h Q := by
          intro m'
          induction m' with
          | zero =>
            intro j z l5 hj hkj ez
            have hj : j = x_ns k := by omega
            subst ez hj
            apply mq_go 40 [5]
            refine gq_i (inb_nI (by omega) (by decide)) ?_
            refine bq_t (by rw [nI_clamp (by omega), hw _ (by omega)]; exact n3) ?_
            exact ih (x_ns k) _ _ _ (by omega) n2 n3 (by rw [nI_1, n6]) rfl
          | succ m' ih3 =>
            intro j z l5 hj hkj ez
            subst ez
            apply mq_go 40 [94]
            refine gq_i (inb_nI (by omega) (by decide)) ?_
            refine bq_f (by rw [nI_clamp (by omega), hw _ (by omega)]; exact n4 j (by omega) hkj (by omega)) ?_
            exact ih3 (j + 1) _ _ (by omega) (by omega) (nI_1 _)
        have key2 : ∀ (m i : Nat) (z : Int32), s ≤ f + i + m → f + i ≤ s → k + 1 + i ≤ x_ns k → z = nI i → mq_At mq_G (mq_tT lL) 161 20 [some (.retAddr 59), some (.int (nI f)), some (.int (nI s)), some (.int (nI (x_nb k))), some (.int (nI k)), some (.int z)] [] h Q := by
          intro m'
          induction m' with
          | zero =>
            intro i z h3 h4 h5 ez
            subst ez
            have e1 : nI k + 1 + nI i = nI (k + 1 + i) := by rw [nI_1, nI_add]
            apply mq_go 60 [94]
            refine bq_t (by rw [nI_add, show f + i = s by omega]; exact Int32.le_refl _) ?_
            refine bn_f (by rw [nI_add, show f + i = s by omega]) ?_
            refine gq_i (x_inb e1 (by omega) (by decide)) ?_
            refine bn_c (fun _ => ?_) (fun _ => ?_)
            · exact key3 (x_ns k - (k + 1)) (k + 1) _ _ (by omega) (by omega) (nI_1 _)
            · exact hq _ (by rw [nI_toInt (by omega)]; omega) (by rw [nI_toInt (by omega)]; omega)
          | succ m' ih2 =>
            intro i z h3 h4 h5 ez
            subst ez
            have e1 : nI k + 1 + nI i = nI (k + 1 + i) := by rw [nI_1, nI_add]
            have tail : f + i < s → mq_At mq_G (mq_tT lL) 161 61 [some (.retAddr 59), some (.int (nI f)), some (.int (nI s)), some (.int (nI (x_nb k))), some (.int (nI k)), some (.int (nI i))] [] h Q := fun hlt => by
              apply mq_go 60 [94]
              refine bn_t (by rw [nI_add, nI_eq (by omega) (by omega)]; omega) ?_
              exact key3 (x_ns k - (k + 1)) (k + 1) _ _ (by omega) (by omega) (nI_1 _)
            rcases Nat.lt_or_ge (f + i) s with q2 | q2
            · apply mq_go 60 [20, 61]
              refine bq_f (by rw [nI_add]; exact nI_ge (by omega) (by omega)) ?_
              refine gq_i (x_inb e1 (by omega) (by decide)) ?_
              refine gq_i (x_inb (nI_add f i) (by omega) (by decide)) ?_
              refine bn_c (fun _ => tail q2) (fun c => ?_)
              rw [x_cl e1 (by omega), hw _ (by omega), nI_add, nI_clamp (by omega)] at c
              refine ih2 (i + 1) _ (by omega) (by omega) ?_ (nI_1 _)
              rcases Nat.lt_or_ge (k + 1 + i) (x_ns k) with q3 | q3
              · omega
              · exfalso
                rw [show k + 1 + i = x_ns k by omega, n3] at c
                exact ht (f + i) (by omega) q2 c.symm
            · apply mq_go 60 [94]
              refine bq_t (by rw [nI_add, show f + i = s by omega]; exact Int32.le_refl _) ?_
              refine bn_f (by rw [nI_add, show f + i = s by omega]) ?_
              refine gq_i (x_inb e1 (by omega) (by decide)) ?_
              refine bn_c (fun _ => ?_) (fun _ => ?_)
              · exact key3 (x_ns k - (k + 1)) (k + 1) _ _ (by omega) (by omega) (nI_1 _)
              · exact hq _ (by rw [nI_toInt (by omega)]; omega) (by rw [nI_toInt (by omega)]; omega)
        apply mq_go 40 [20]
        refine bq_f (show ¬ nI 147 ≤ nI k from nI_ge (by omega) (by omega)) ?_
        show mq_At mq_G (mq_tT lL) 161 20 [some (.retAddr 59), some (.int (nI f)), some (.int (nI s)), some (.int (n + 1)), some (.int (nI k)), some (.int 0)] [] h Q
        rw [en]
        exact key2 (s - f) 0 _ (by omega) (by omega) (by omega) rfl
      · apply mq_go 40 []
        refine bq_t (show nI 147 ≤ nI k from nI_le (by omega) (by omega)) ?_
        exact hq _ (by decide) (by decide)
  apply mq_enter 40 [5]
  exact key 148 0 _ _ _ (by omega) (by omega) (by decide) (by decide) rfl
end XE
