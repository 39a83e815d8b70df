/-! THE REFERENCE on a fresh object: image -/
section PM8
variable {lL : Nat} {h : mq_H} {Q : Option Value → mq_H → Prop}
theorem c_kept {x : Int32} {n : Nat} (hn : mq_I h 59 70 = nI n) (hn4 : n < 13500) (hq : ∀ r h', mq_mod 59 100 0 0 h h' → mq_I h' 59 70 = nI (n + 1) → Q (some (.int r)) h') : mq_Call mq_G (mq_tT lL) 223 [.retAddr 59, .int x] h Q := by
  have e : nI n + 1 - 1 = nI n := by rw [Int32.add_sub_cancel]
  apply mq_enter 60 []
  refine bn_c (fun c => ?_) (fun c => ?_)
  · refine gq_i (by rw [mq_I_setI, if_pos rfl, if_pos rfl, hn, e]; exact inb_nI hn4 (by decide)) ?_
    refine hq _ _ ?_ ?_
    · exact ((mq_mod.rf 0 0 h).sI (Or.inl ⟨by decide, by decide⟩) _ _).sI (Or.inl ⟨by decide, by decide⟩) _ _
    · rw [mq_I_setI, if_neg (by decide), mq_I_setI, if_pos rfl, if_pos rfl, hn, nI_1]
  · refine gq_i (by rw [mq_I_setI, if_pos rfl, if_pos rfl, hn, e]; exact inb_nI hn4 (by decide)) ?_
    refine hq _ _ ?_ ?_
    · exact (mq_mod.rf 0 0 h).sI (Or.inl ⟨by decide, by decide⟩) _ _
    · rw [mq_I_setI, if_pos rfl, if_pos rfl, hn, nI_1]
theorem l_i1 {x : Int32} {n0 : Nat} (hn : mq_I h 59 70 = nI n0) (hb : n0 + 20 ≤ 13500) (K : ∀ h', mq_mod 59 100 0 0 h h' → mq_I h' 59 70 = nI (n0 + 20) → mq_At mq_G (mq_tT lL) 226 87 [some (.retAddr 59), some (.int x), some (.int (nI 20))] [] h' Q) : mq_At mq_G (mq_tT lL) 226 59 [some (.retAddr 59), some (.int x), some (.int 0)] [] h Q := by
  have key : ∀ (n k : Nat) (h' : mq_H), k + n = 20 → mq_mod 59 100 0 0 h h' → mq_I h' 59 70 = nI (n0 + 1 * k) → mq_At mq_G (mq_tT lL) 226 59 [some (.retAddr 59), some (.int x), some (.int (nI k))] [] h' Q := by
    intro n
    induction n with
    | zero =>
      intro k h' hk hm hj
      obtain rfl : k = 20 := by omega
      apply mq_go 60 [87]
      refine bq_t (by decide) ?_
      exact K h' hm (by rw [hj])
    | succ n ih =>
      intro k h' hk hm hj
      apply mq_go 120 [59]
      refine bq_f (nI_ge (b := 20) (by omega) (by decide)) ?_
      refine gq_i (inb_nI (by omega) (by decide)) ?_
      refine c_kept (n := n0 + 1 * k + 0) hj (by omega) (fun r1 g1 m1 e1 => ?_)
      refine gq_i (inb_nI (by omega) (by decide)) ?_
      show mq_At mq_G (mq_tT lL) 226 59 [some (.retAddr 59), some (.int x), some (.int (nI k + 1))] [] (mq_setI g1 60 (nI k).toNatClampNeg r1) Q
      rw [nI_1]
      refine ih (k + 1) _ (by omega) (mr2 hm (m1.sI (Or.inl ⟨by decide, by decide⟩) _ _)) ?_
      rw [mq_I_setI, if_neg (by decide), e1]
      exact congrArg nI (by omega)
  exact key 20 0 h (by decide) (mq_mod.rf 0 0 h) (by rw [hn]; exact congrArg nI (by omega))
theorem l_i2 {x : Int32} {n0 : Nat} (hn : mq_I h 59 70 = nI n0) (hb : n0 + 12 ≤ 13500) (K : ∀ h', mq_mod 59 100 0 0 h h' → mq_I h' 59 70 = nI (n0 + 12) → mq_At mq_G (mq_tT lL) 226 133 [some (.retAddr 59), some (.int x), some (.int (nI 6))] [] h' Q) : mq_At mq_G (mq_tT lL) 226 89 [some (.retAddr 59), some (.int x), some (.int 0)] [] h Q := by
  have key : ∀ (n k : Nat) (h' : mq_H), k + n = 6 → mq_mod 59 100 0 0 h h' → mq_I h' 59 70 = nI (n0 + 2 * k) → mq_At mq_G (mq_tT lL) 226 89 [some (.retAddr 59), some (.int x), some (.int (nI k))] [] h' Q := by
    intro n
    induction n with
    | zero =>
      intro k h' hk hm hj
      obtain rfl : k = 6 := by omega
      apply mq_go 60 [133]
      refine bq_t (by decide) ?_
      exact K h' hm (by rw [hj])
    | succ n ih =>
      intro k h' hk hm hj
      apply mq_go 120 [89]
      refine bq_f (nI_ge (b := 6) (by omega) (by decide)) ?_
      refine gq_i (inb_nI (by omega) (by decide)) ?_
      refine c_kept (n := n0 + 2 * k + 0) hj (by omega) (fun r1 g1 m1 e1 => ?_)
      refine gq_i (inb_nI (by omega) (by decide)) ?_
      refine gq_i (inb_nI (by omega) (by decide)) ?_
      refine c_kept (n := n0 + 2 * k + 1) (by rw [mq_I_setI, if_neg (by decide)]; exact e1) (by omega) (fun r2 g2 m2 e2 => ?_)
      refine gq_i (inb_nI (by omega) (by decide)) ?_
      show mq_At mq_G (mq_tT lL) 226 89 [some (.retAddr 59), some (.int x), some (.int (nI k + 1))] [] (mq_setI g2 62 (nI k).toNatClampNeg r2) Q
      rw [nI_1]
      refine ih (k + 1) _ (by omega) (mr2 (mr2 hm (m1.sI (Or.inl ⟨by decide, by decide⟩) _ _)) (m2.sI (Or.inl ⟨by decide, by decide⟩) _ _)) ?_
      rw [mq_I_setI, if_neg (by decide), e2]
      exact congrArg nI (by omega)
  exact key 6 0 h (by decide) (mq_mod.rf 0 0 h) (by rw [hn]; exact congrArg nI (by omega))
theorem l_i3 {x : Int32} {n0 : Nat} (hn : mq_I h 59 70 = nI n0) (hb : n0 + 72 ≤ 13500) (K : ∀ h', mq_mod 59 100 0 0 h h' → mq_I h' 59 70 = nI (n0 + 72) → mq_At mq_G (mq_tT lL) 226 195 [some (.retAddr 59), some (.int x), some (.int (nI 24))] [] h' Q) : mq_At mq_G (mq_tT lL) 226 135 [some (.retAddr 59), some (.int x), some (.int 0)] [] h Q := by
  have key : ∀ (n k : Nat) (h' : mq_H), k + n = 24 → mq_mod 59 100 0 0 h h' → mq_I h' 59 70 = nI (n0 + 3 * k) → mq_At mq_G (mq_tT lL) 226 135 [some (.retAddr 59), some (.int x), some (.int (nI k))] [] h' Q := by
    intro n
    induction n with
    | zero =>
      intro k h' hk hm hj
      obtain rfl : k = 24 := by omega
      apply mq_go 60 [195]
      refine bq_t (by decide) ?_
      exact K h' hm (by rw [hj])
    | succ n ih =>
      intro k h' hk hm hj
      apply mq_go 120 [135]
      refine bq_f (nI_ge (b := 24) (by omega) (by decide)) ?_
      refine gq_i (inb_nI (by omega) (by decide)) ?_
      refine c_kept (n := n0 + 3 * k + 0) hj (by omega) (fun r1 g1 m1 e1 => ?_)
      refine gq_i (inb_nI (by omega) (by decide)) ?_
      refine gq_i (inb_nI (by omega) (by decide)) ?_
      refine c_kept (n := n0 + 3 * k + 1) (by rw [mq_I_setI, if_neg (by decide)]; exact e1) (by omega) (fun r2 g2 m2 e2 => ?_)
      refine gq_i (inb_nI (by omega) (by decide)) ?_
      refine gq_i (inb_nI (by omega) (by decide)) ?_
      refine c_kept (n := n0 + 3 * k + 2) (by rw [mq_I_setI, if_neg (by decide)]; exact e2) (by omega) (fun r3 g3 m3 e3 => ?_)
      refine gq_i (inb_nI (by omega) (by decide)) ?_
      show mq_At mq_G (mq_tT lL) 226 135 [some (.retAddr 59), some (.int x), some (.int (nI k + 1))] [] (mq_setI g3 65 (nI k).toNatClampNeg r3) Q
      rw [nI_1]
      refine ih (k + 1) _ (by omega) (mr2 (mr2 (mr2 hm (m1.sI (Or.inl ⟨by decide, by decide⟩) _ _)) (m2.sI (Or.inl ⟨by decide, by decide⟩) _ _)) (m3.sI (Or.inl ⟨by decide, by decide⟩) _ _)) ?_
      rw [mq_I_setI, if_neg (by decide), e3]
      exact congrArg nI (by omega)
  exact key 24 0 h (by decide) (mq_mod.rf 0 0 h) (by rw [hn]; exact congrArg nI (by omega))
theorem l_c1 {n0 : Nat} (hn : mq_I h 59 70 = nI n0) (hb : n0 + 300 ≤ 13500) (K : ∀ h', mq_mod 59 100 0 0 h h' → mq_I h' 59 70 = nI (n0 + 300) → mq_At mq_G (mq_tT lL) 224 106 [some (.retAddr 59), some (.int (nI 60))] [] h' Q) : mq_At mq_G (mq_tT lL) 224 14 [some (.retAddr 59), some (.int 0)] [] h Q := by
  have key : ∀ (n k : Nat) (h' : mq_H), k + n = 60 → mq_mod 59 100 0 0 h h' → mq_I h' 59 70 = nI (n0 + 5 * k) → mq_At mq_G (mq_tT lL) 224 14 [some (.retAddr 59), some (.int (nI k))] [] h' Q := by
    intro n
    induction n with
    | zero =>
      intro k h' hk hm hj
      obtain rfl : k = 60 := by omega
      apply mq_go 60 [106]
      refine bq_t (by decide) ?_
      exact K h' hm (by rw [hj])
    | succ n ih =>
      intro k h' hk hm hj
      apply mq_go 120 [14]
      refine bq_f (nI_ge (b := 60) (by omega) (by decide)) ?_
      refine gq_i (inb_nI (by omega) (by decide)) ?_
      refine c_kept (n := n0 + 5 * k + 0) hj (by omega) (fun r1 g1 m1 e1 => ?_)
      refine gq_i (inb_nI (by omega) (by decide)) ?_
      refine gq_i (inb_nI (by omega) (by decide)) ?_
      refine c_kept (n := n0 + 5 * k + 1) (by rw [mq_I_setI, if_neg (by decide)]; exact e1) (by omega) (fun r2 g2 m2 e2 => ?_)
      refine gq_i (inb_nI (by omega) (by decide)) ?_
      refine gq_i (inb_nI (by omega) (by decide)) ?_
      refine c_kept (n := n0 + 5 * k + 2) (by rw [mq_I_setI, if_neg (by decide)]; exact e2) (by omega) (fun r3 g3 m3 e3 => ?_)
      refine gq_i (inb_nI (by omega) (by decide)) ?_
      refine gq_i (inb_nI (by omega) (by decide)) ?_
      refine c_kept (n := n0 + 5 * k + 3) (by rw [mq_I_setI, if_neg (by decide)]; exact e3) (by omega) (fun r4 g4 m4 e4 => ?_)
      refine gq_i (inb_nI (by omega) (by decide)) ?_
      refine gq_i (inb_nI (by omega) (by decide)) ?_
      refine c_kept (n := n0 + 5 * k + 4) (by rw [mq_I_setI, if_neg (by decide)]; exact e4) (by omega) (fun r5 g5 m5 e5 => ?_)
      refine gq_i (inb_nI (by omega) (by decide)) ?_
      show mq_At mq_G (mq_tT lL) 224 14 [some (.retAddr 59), some (.int (nI k + 1))] [] (mq_setI g5 71 (nI k).toNatClampNeg r5) Q
      rw [nI_1]
      refine ih (k + 1) _ (by omega) (mr2 (mr2 (mr2 (mr2 (mr2 hm (m1.sI (Or.inl ⟨by decide, by decide⟩) _ _)) (m2.sI (Or.inl ⟨by decide, by decide⟩) _ _)) (m3.sI (Or.inl ⟨by decide, by decide⟩) _ _)) (m4.sI (Or.inl ⟨by decide, by decide⟩) _ _)) (m5.sI (Or.inl ⟨by decide, by decide⟩) _ _)) ?_
      rw [mq_I_setI, if_neg (by decide), e5]
      exact congrArg nI (by omega)
  exact key 60 0 h (by decide) (mq_mod.rf 0 0 h) (by rw [hn]; exact congrArg nI (by omega))
theorem l_c2 {n0 : Nat} (hn : mq_I h 59 70 = nI n0) (hb : n0 + 180 ≤ 13500) (K : ∀ h', mq_mod 59 100 0 0 h h' → mq_I h' 59 70 = nI (n0 + 180) → mq_At mq_G (mq_tT lL) 224 137 [some (.retAddr 59), some (.int (nI 180))] [] h' Q) : mq_At mq_G (mq_tT lL) 224 108 [some (.retAddr 59), some (.int 0)] [] h Q := by
  have key : ∀ (n k : Nat) (h' : mq_H), k + n = 180 → mq_mod 59 100 0 0 h h' → mq_I h' 59 70 = nI (n0 + 1 * k) → mq_At mq_G (mq_tT lL) 224 108 [some (.retAddr 59), some (.int (nI k))] [] h' Q := by
    intro n
    induction n with
    | zero =>
      intro k h' hk hm hj
      obtain rfl : k = 180 := by omega
      apply mq_go 60 [137]
      refine bq_t (by decide) ?_
      exact K h' hm (by rw [hj])
    | succ n ih =>
      intro k h' hk hm hj
      apply mq_go 120 [108]
      refine bq_f (nI_ge (b := 180) (by omega) (by decide)) ?_
      refine gq_i (inb_nI (by omega) (by decide)) ?_
      refine c_kept (n := n0 + 1 * k + 0) hj (by omega) (fun r1 g1 m1 e1 => ?_)
      refine gq_i (inb_nI (by omega) (by decide)) ?_
      show mq_At mq_G (mq_tT lL) 224 108 [some (.retAddr 59), some (.int (nI k + 1))] [] (mq_setI g1 69 (nI k).toNatClampNeg r1) Q
      rw [nI_1]
      refine ih (k + 1) _ (by omega) (mr2 hm (m1.sI (Or.inl ⟨by decide, by decide⟩) _ _)) ?_
      rw [mq_I_setI, if_neg (by decide), e1]
      exact congrArg nI (by omega)
  exact key 180 0 h (by decide) (mq_mod.rf 0 0 h) (by rw [hn]; exact congrArg nI (by omega))
theorem l_c3 {n0 : Nat} (hn : mq_I h 59 70 = nI n0) (hb : n0 + 2880 ≤ 13500) (K : ∀ h', mq_mod 59 100 0 0 h h' → mq_I h' 59 70 = nI (n0 + 2880) → mq_At mq_G (mq_tT lL) 224 216 [some (.retAddr 59), some (.int (nI 720))] [] h' Q) : mq_At mq_G (mq_tT lL) 224 139 [some (.retAddr 59), some (.int 0)] [] h Q := by
  have key : ∀ (n k : Nat) (h' : mq_H), k + n = 720 → mq_mod 59 100 0 0 h h' → mq_I h' 59 70 = nI (n0 + 4 * k) → mq_At mq_G (mq_tT lL) 224 139 [some (.retAddr 59), some (.int (nI k))] [] h' Q := by
    intro n
    induction n with
    | zero =>
      intro k h' hk hm hj
      obtain rfl : k = 720 := by omega
      apply mq_go 60 [216]
      refine bq_t (by decide) ?_
      exact K h' hm (by rw [hj])
    | succ n ih =>
      intro k h' hk hm hj
      apply mq_go 120 [139]
      refine bq_f (nI_ge (b := 720) (by omega) (by decide)) ?_
      refine gq_i (inb_nI (by omega) (by decide)) ?_
      refine c_kept (n := n0 + 4 * k + 0) hj (by omega) (fun r1 g1 m1 e1 => ?_)
      refine gq_i (inb_nI (by omega) (by decide)) ?_
      refine gq_i (inb_nI (by omega) (by decide)) ?_
      refine c_kept (n := n0 + 4 * k + 1) (by rw [mq_I_setI, if_neg (by decide)]; exact e1) (by omega) (fun r2 g2 m2 e2 => ?_)
      refine gq_i (inb_nI (by omega) (by decide)) ?_
      refine gq_i (inb_nI (by omega) (by decide)) ?_
      refine c_kept (n := n0 + 4 * k + 2) (by rw [mq_I_setI, if_neg (by decide)]; exact e2) (by omega) (fun r3 g3 m3 e3 => ?_)
      refine gq_i (inb_nI (by omega) (by decide)) ?_
      refine gq_i (inb_nI (by omega) (by decide)) ?_
      refine c_kept (n := n0 + 4 * k + 3) (by rw [mq_I_setI, if_neg (by decide)]; exact e3) (by omega) (fun r4 g4 m4 e4 => ?_)
      refine gq_i (inb_nI (by omega) (by decide)) ?_
      show mq_At mq_G (mq_tT lL) 224 139 [some (.retAddr 59), some (.int (nI k + 1))] [] (mq_setI g4 75 (nI k).toNatClampNeg r4) Q
      rw [nI_1]
      refine ih (k + 1) _ (by omega) (mr2 (mr2 (mr2 (mr2 hm (m1.sI (Or.inl ⟨by decide, by decide⟩) _ _)) (m2.sI (Or.inl ⟨by decide, by decide⟩) _ _)) (m3.sI (Or.inl ⟨by decide, by decide⟩) _ _)) (m4.sI (Or.inl ⟨by decide, by decide⟩) _ _)) ?_
      rw [mq_I_setI, if_neg (by decide), e4]
      exact congrArg nI (by omega)
  exact key 720 0 h (by decide) (mq_mod.rf 0 0 h) (by rw [hn]; exact congrArg nI (by omega))
theorem l_c4 {n0 : Nat} (hn : mq_I h 59 70 = nI n0) (hb : n0 + 18 ≤ 13500) (K : ∀ h', mq_mod 59 100 0 0 h h' → mq_I h' 59 70 = nI (n0 + 18) → mq_At mq_G (mq_tT lL) 224 278 [some (.retAddr 59), some (.int (nI 6))] [] h' Q) : mq_At mq_G (mq_tT lL) 224 218 [some (.retAddr 59), some (.int 0)] [] h Q := by
  have key : ∀ (n k : Nat) (h' : mq_H), k + n = 6 → mq_mod 59 100 0 0 h h' → mq_I h' 59 70 = nI (n0 + 3 * k) → mq_At mq_G (mq_tT lL) 224 218 [some (.retAddr 59), some (.int (nI k))] [] h' Q := by
    intro n
    induction n with
    | zero =>
      intro k h' hk hm hj
      obtain rfl : k = 6 := by omega
      apply mq_go 60 [278]
      refine bq_t (by decide) ?_
      exact K h' hm (by rw [hj])
    | succ n ih =>
      intro k h' hk hm hj
      apply mq_go 120 [218]
      refine bq_f (nI_ge (b := 6) (by omega) (by decide)) ?_
      refine gq_i (inb_nI (by omega) (by decide)) ?_
      refine c_kept (n := n0 + 3 * k + 0) hj (by omega) (fun r1 g1 m1 e1 => ?_)
      refine gq_i (inb_nI (by omega) (by decide)) ?_
      refine gq_i (inb_nI (by omega) (by decide)) ?_
      refine c_kept (n := n0 + 3 * k + 1) (by rw [mq_I_setI, if_neg (by decide)]; exact e1) (by omega) (fun r2 g2 m2 e2 => ?_)
      refine gq_i (inb_nI (by omega) (by decide)) ?_
      refine gq_i (inb_nI (by omega) (by decide)) ?_
      refine c_kept (n := n0 + 3 * k + 2) (by rw [mq_I_setI, if_neg (by decide)]; exact e2) (by omega) (fun r3 g3 m3 e3 => ?_)
      refine gq_i (inb_nI (by omega) (by decide)) ?_
      show mq_At mq_G (mq_tT lL) 224 218 [some (.retAddr 59), some (.int (nI k + 1))] [] (mq_setI g3 78 (nI k).toNatClampNeg r3) Q
      rw [nI_1]
      refine ih (k + 1) _ (by omega) (mr2 (mr2 (mr2 hm (m1.sI (Or.inl ⟨by decide, by decide⟩) _ _)) (m2.sI (Or.inl ⟨by decide, by decide⟩) _ _)) (m3.sI (Or.inl ⟨by decide, by decide⟩) _ _)) ?_
      rw [mq_I_setI, if_neg (by decide), e3]
      exact congrArg nI (by omega)
  exact key 6 0 h (by decide) (mq_mod.rf 0 0 h) (by rw [hn]; exact congrArg nI (by omega))
theorem l_c5 {n0 : Nat} (hn : mq_I h 59 70 = nI n0) (hb : n0 + 18 ≤ 13500) (K : ∀ h', mq_mod 59 100 0 0 h h' → mq_I h' 59 70 = nI (n0 + 18) → mq_At mq_G (mq_tT lL) 224 308 [some (.retAddr 59), some (.int (nI 18))] [] h' Q) : mq_At mq_G (mq_tT lL) 224 280 [some (.retAddr 59), some (.int 0)] [] h Q := by
  have key : ∀ (n k : Nat) (h' : mq_H), k + n = 18 → mq_mod 59 100 0 0 h h' → mq_I h' 59 70 = nI (n0 + 1 * k) → mq_At mq_G (mq_tT lL) 224 280 [some (.retAddr 59), some (.int (nI k))] [] h' Q := by
    intro n
    induction n with
    | zero =>
      intro k h' hk hm hj
      obtain rfl : k = 18 := by omega
      apply mq_go 60 [308]
      refine bq_t (by decide) ?_
      exact K h' hm (by rw [hj])
    | succ n ih =>
      intro k h' hk hm hj
      apply mq_go 120 [280]
      refine bq_f (nI_ge (b := 18) (by omega) (by decide)) ?_
      refine gq_i (inb_nI (by omega) (by decide)) ?_
      refine c_kept (n := n0 + 1 * k + 0) hj (by omega) (fun r1 g1 m1 e1 => ?_)
      refine gq_i (inb_nI (by omega) (by decide)) ?_
      show mq_At mq_G (mq_tT lL) 224 280 [some (.retAddr 59), some (.int (nI k + 1))] [] (mq_setI g1 79 (nI k).toNatClampNeg r1) Q
      rw [nI_1]
      refine ih (k + 1) _ (by omega) (mr2 hm (m1.sI (Or.inl ⟨by decide, by decide⟩) _ _)) ?_
      rw [mq_I_setI, if_neg (by decide), e1]
      exact congrArg nI (by omega)
  exact key 18 0 h (by decide) (mq_mod.rf 0 0 h) (by rw [hn]; exact congrArg nI (by omega))
theorem l_l1 {n0 : Nat} (hn : mq_I h 59 70 = nI n0) (hb : n0 + 8 ≤ 13500) (K : ∀ h', mq_mod 59 100 0 0 h h' → mq_I h' 59 70 = nI (n0 + 8) → mq_At mq_G (mq_tT lL) 225 30 [some (.retAddr 59), some (.int (nI 8))] [] h' Q) : mq_At mq_G (mq_tT lL) 225 2 [some (.retAddr 59), some (.int 0)] [] h Q := by
  have key : ∀ (n k : Nat) (h' : mq_H), k + n = 8 → mq_mod 59 100 0 0 h h' → mq_I h' 59 70 = nI (n0 + 1 * k) → mq_At mq_G (mq_tT lL) 225 2 [some (.retAddr 59), some (.int (nI k))] [] h' Q := by
    intro n
    induction n with
    | zero =>
      intro k h' hk hm hj
      obtain rfl : k = 8 := by omega
      apply mq_go 60 [30]
      refine bq_t (by decide) ?_
      exact K h' hm (by rw [hj])
    | succ n ih =>
      intro k h' hk hm hj
      apply mq_go 120 [2]
      refine bq_f (nI_ge (b := 8) (by omega) (by decide)) ?_
      refine gq_i (inb_nI (by omega) (by decide)) ?_
      refine c_kept (n := n0 + 1 * k + 0) hj (by omega) (fun r1 g1 m1 e1 => ?_)
      refine gq_i (inb_nI (by omega) (by decide)) ?_
      show mq_At mq_G (mq_tT lL) 225 2 [some (.retAddr 59), some (.int (nI k + 1))] [] (mq_setI g1 82 (nI k).toNatClampNeg r1) Q
      rw [nI_1]
      refine ih (k + 1) _ (by omega) (mr2 hm (m1.sI (Or.inl ⟨by decide, by decide⟩) _ _)) ?_
      rw [mq_I_setI, if_neg (by decide), e1]
      exact congrArg nI (by omega)
  exact key 8 0 h (by decide) (mq_mod.rf 0 0 h) (by rw [hn]; exact congrArg nI (by omega))
theorem l_l2 {n0 : Nat} (hn : mq_I h 59 70 = nI n0) (hb : n0 + 640 ≤ 13500) (K : ∀ h', mq_mod 59 100 0 0 h h' → mq_I h' 59 70 = nI (n0 + 640) → mq_At mq_G (mq_tT lL) 225 125 [some (.retAddr 59), some (.int (nI 128))] [] h' Q) : mq_At mq_G (mq_tT lL) 225 32 [some (.retAddr 59), some (.int 0)] [] h Q := by
  have key : ∀ (n k : Nat) (h' : mq_H), k + n = 128 → mq_mod 59 100 0 0 h h' → mq_I h' 59 70 = nI (n0 + 5 * k) → mq_At mq_G (mq_tT lL) 225 32 [some (.retAddr 59), some (.int (nI k))] [] h' Q := by
    intro n
    induction n with
    | zero =>
      intro k h' hk hm hj
      obtain rfl : k = 128 := by omega
      apply mq_go 60 [125]
      refine bq_t (by decide) ?_
      exact K h' hm (by rw [hj])
    | succ n ih =>
      intro k h' hk hm hj
      apply mq_go 120 [32]
      refine bq_f (nI_ge (b := 128) (by omega) (by decide)) ?_
      refine gq_i (inb_nI (by omega) (by decide)) ?_
      refine c_kept (n := n0 + 5 * k + 0) hj (by omega) (fun r1 g1 m1 e1 => ?_)
      refine gq_i (inb_nI (by omega) (by decide)) ?_
      refine gq_i (inb_nI (by omega) (by decide)) ?_
      refine c_kept (n := n0 + 5 * k + 1) (by rw [mq_I_setI, if_neg (by decide)]; exact e1) (by omega) (fun r2 g2 m2 e2 => ?_)
      refine gq_i (inb_nI (by omega) (by decide)) ?_
      refine gq_i (inb_nI (by omega) (by decide)) ?_
      refine c_kept (n := n0 + 5 * k + 2) (by rw [mq_I_setI, if_neg (by decide)]; exact e2) (by omega) (fun r3 g3 m3 e3 => ?_)
      refine gq_i (inb_nI (by omega) (by decide)) ?_
      refine gq_i (inb_nI (by omega) (by decide)) ?_
      refine c_kept (n := n0 + 5 * k + 3) (by rw [mq_I_setI, if_neg (by decide)]; exact e3) (by omega) (fun r4 g4 m4 e4 => ?_)
      refine gq_i (inb_nI (by omega) (by decide)) ?_
      refine gq_i (inb_nI (by omega) (by decide)) ?_
      refine c_kept (n := n0 + 5 * k + 4) (by rw [mq_I_setI, if_neg (by decide)]; exact e4) (by omega) (fun r5 g5 m5 e5 => ?_)
      refine gq_i (inb_nI (by omega) (by decide)) ?_
      show mq_At mq_G (mq_tT lL) 225 32 [some (.retAddr 59), some (.int (nI k + 1))] [] (mq_setI g5 87 (nI k).toNatClampNeg r5) Q
      rw [nI_1]
      refine ih (k + 1) _ (by omega) (mr2 (mr2 (mr2 (mr2 (mr2 hm (m1.sI (Or.inl ⟨by decide, by decide⟩) _ _)) (m2.sI (Or.inl ⟨by decide, by decide⟩) _ _)) (m3.sI (Or.inl ⟨by decide, by decide⟩) _ _)) (m4.sI (Or.inl ⟨by decide, by decide⟩) _ _)) (m5.sI (Or.inl ⟨by decide, by decide⟩) _ _)) ?_
      rw [mq_I_setI, if_neg (by decide), e5]
      exact congrArg nI (by omega)
  exact key 128 0 h (by decide) (mq_mod.rf 0 0 h) (by rw [hn]; exact congrArg nI (by omega))
theorem l_l3 {n0 : Nat} (hn : mq_I h 59 70 = nI n0) (hb : n0 + 6400 ≤ 13500) (K : ∀ h', mq_mod 59 100 0 0 h h' → mq_I h' 59 70 = nI (n0 + 6400) → mq_At mq_G (mq_tT lL) 225 172 [some (.retAddr 59), some (.int (nI 3200))] [] h' Q) : mq_At mq_G (mq_tT lL) 225 127 [some (.retAddr 59), some (.int 0)] [] h Q := by
  have key : ∀ (n k : Nat) (h' : mq_H), k + n = 3200 → mq_mod 59 100 0 0 h h' → mq_I h' 59 70 = nI (n0 + 2 * k) → mq_At mq_G (mq_tT lL) 225 127 [some (.retAddr 59), some (.int (nI k))] [] h' Q := by
    intro n
    induction n with
    | zero =>
      intro k h' hk hm hj
      obtain rfl : k = 3200 := by omega
      apply mq_go 60 [172]
      refine bq_t (by decide) ?_
      exact K h' hm (by rw [hj])
    | succ n ih =>
      intro k h' hk hm hj
      apply mq_go 120 [127]
      refine bq_f (nI_ge (b := 3200) (by omega) (by decide)) ?_
      refine gq_i (inb_nI (by omega) (by decide)) ?_
      refine c_kept (n := n0 + 2 * k + 0) hj (by omega) (fun r1 g1 m1 e1 => ?_)
      refine gq_i (inb_nI (by omega) (by decide)) ?_
      refine gq_i (inb_nI (by omega) (by decide)) ?_
      refine c_kept (n := n0 + 2 * k + 1) (by rw [mq_I_setI, if_neg (by decide)]; exact e1) (by omega) (fun r2 g2 m2 e2 => ?_)
      refine gq_i (inb_nI (by omega) (by decide)) ?_
      show mq_At mq_G (mq_tT lL) 225 127 [some (.retAddr 59), some (.int (nI k + 1))] [] (mq_setI g2 89 (nI k).toNatClampNeg r2) Q
      rw [nI_1]
      refine ih (k + 1) _ (by omega) (mr2 (mr2 hm (m1.sI (Or.inl ⟨by decide, by decide⟩) _ _)) (m2.sI (Or.inl ⟨by decide, by decide⟩) _ _)) ?_
      rw [mq_I_setI, if_neg (by decide), e2]
      exact congrArg nI (by omega)
  exact key 3200 0 h (by decide) (mq_mod.rf 0 0 h) (by rw [hn]; exact congrArg nI (by omega))
end PM8
