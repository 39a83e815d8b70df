/-! A NEW BOOK, whole; and the image of it -/
section PC12
variable {lL : Nat} {h : mq_H} {Q : Option Value → mq_H → Prop}
theorem c_mkClaims {a : Nat} (sa : mq_sh h a = .inl 3) (h100 : 100 ≤ a) (hN : mq_N h = a + 1) (hq : ∀ h', mq_N h' = a + 13 → mq_mod a (a + 1) 12 3360 h h' → ok_C h' a → mq_I h' a = mq_I h a → Q none h') : mq_Call mq_G (mq_tT lL) 21 [.ref a] h Q := by
  refine c_mkC0 sa h100 hN (fun h1 n1 m1 i1 k1 => ?_)
  apply mq_go 40 []
  exact hq h1 n1 m1 k1 i1
theorem ok_A_fr {lo hi n z : Nat} {h h' : mq_H} {a : Nat} (m : mq_mod lo hi n z h h') (hN : a + 5 ≤ mq_N h) (hd : a + 5 ≤ lo ∨ hi ≤ a) (k : ok_A h a) : ok_A h' a := by
  have q : ∀ b, a ≤ b → b < a + 5 → mq_sh h' b = mq_sh h b ∧ mq_R h' b = mq_R h b := fun b h1 h2 => by
    have := m.2.2.2.2 b (by omega) (by omega)
    exact ⟨this.1, this.2.2.2⟩
  unfold ok_A
  rw [(q a (by omega) (by omega)).1, (q a (by omega) (by omega)).2, (q (a + 1) (by omega) (by omega)).1, (q (a + 2) (by omega) (by omega)).1, (q (a + 3) (by omega) (by omega)).1, (q (a + 4) (by omega) (by omega)).1]
  exact k
theorem ok_P_fr {lo hi n z : Nat} {h h' : mq_H} {a : Nat} (m : mq_mod lo hi n z h h') (hN : a + 8 ≤ mq_N h) (hd : a + 8 ≤ lo ∨ hi ≤ a) (k : ok_P h a) : ok_P h' a :=
  ok_P_of (fun b h1 h2 => (m.2.2.2.2 b (by omega) (by omega)).1) (m.2.2.2.2 a (by omega) (by omega)).2.2.2 k
theorem ok_C_fr {lo hi n z : Nat} {h h' : mq_H} {a : Nat} (m : mq_mod lo hi n z h h') (hN : a + 13 ≤ mq_N h) (hd : a + 13 ≤ lo ∨ hi ≤ a) (k : ok_C h a) : ok_C h' a := by
  have q : ∀ b, a ≤ b → b < a + 13 → mq_sh h' b = mq_sh h b ∧ mq_R h' b = mq_R h b := fun b h1 h2 => by
    have := m.2.2.2.2 b (by omega) (by omega)
    exact ⟨this.1, this.2.2.2⟩
  unfold ok_C
  rw [(q a (by omega) (by omega)).1, (q a (by omega) (by omega)).2, (q (a + 1) (by omega) (by omega)).1, (q (a + 2) (by omega) (by omega)).1, (q (a + 3) (by omega) (by omega)).1, (q (a + 4) (by omega) (by omega)).1, (q (a + 5) (by omega) (by omega)).1, (q (a + 6) (by omega) (by omega)).1, (q (a + 7) (by omega) (by omega)).1, (q (a + 8) (by omega) (by omega)).1, (q (a + 9) (by omega) (by omega)).1, (q (a + 10) (by omega) (by omega)).1, (q (a + 11) (by omega) (by omega)).1, (q (a + 12) (by omega) (by omega)).1]
  exact k
/-- a book at b, with its cells behind it -/
def ok_B (h : mq_H) (b : Nat) : Prop := mq_sh h b = .inl 1 ∧ mq_R h b 1 = some (b + 1) ∧ mq_R h b 2 = some (b + 12) ∧ mq_R h b 3 = some (b + 25) ∧ ok_P h (b + 1) ∧ ok_C h (b + 12) ∧ ok_A h (b + 25)
theorem c_mkBook {b : Nat} (sb : mq_sh h b = .inl 1) (h100 : 100 ≤ b) (hN : mq_N h = b + 1) (hq : ∀ h', mq_N h' = b + 30 → mq_mod b (b + 1) 29 4000 h h' → ok_B h' b → (∀ j, j < 8 → mq_R h' (b + 8) j = some (b + 9)) → mq_sh h' (b + 9) = .inl 6 → mq_R h' (b + 9) 0 = some (b + 11) → mq_sh h' (b + 11) = .inr (5, 0) → Q none h') : mq_Call mq_G (mq_tT lL) 6 [.ref b] h Q := by
  have tn := tT_none (L := lL) h100
  apply mq_enter 60 [15]
  refine c_mkPlaces (a := mq_N h) (by rw [mq_sh_new, if_pos rfl]) (by omega) (by rw [mq_N_new]) (fun h1 n1 m1 k1 l1 t1 r1 u1 => ?_)
  rw [hN] at n1 m1 k1 l1 t1 r1 u1
  have M1 : mq_mod b (b + 1) 11 208 h h1 := mq_mod.tn (n1 := 1) (z1 := 8) (mq_mod.nw (mq_mod.rf 0 0 h) _ (by decide) (by decide)) m1 (by omega) (by decide) (by decide)
  have s1 : mq_sh h1 b = .inl 1 := by rw [(m1.2.2.2.2 b (by rw [mq_N_new]; omega) (by omega)).1, mq_sh_new, if_neg (by omega), sb]
  refine gq_i (by rw [s1, tn]; rfl) ?_
  show mq_At mq_G (mq_tT lL) 6 15 [some (.ref b)] [] (mq_setR h1 b 1 (some (mq_N h))) Q
  rw [hN]
  have M1b : mq_mod b (b + 1) 0 0 h1 (mq_setR h1 b 1 (some (b + 1))) := (mq_mod.rf 0 0 h1).sR (Or.inl ⟨by omega, by omega⟩) _ _
  obtain ⟨h2, e2⟩ : ∃ H, H = mq_setR h1 b 1 (some (b + 1)) := ⟨_, rfl⟩
  have n2 : mq_N h2 = b + 12 := by rw [e2, mq_N_setR, n1]
  have s2 : mq_sh h2 b = .inl 1 := by rw [e2, mq_sh_setR, s1]
  have R2 : mq_R h2 b 1 = some (b + 1) := by rw [e2, mq_R_setR, if_pos rfl, if_pos rfl]
  rw [← e2] at M1b ⊢
  apply mq_go 60 [26]
  refine c_mkClaims (a := mq_N h2) (by rw [mq_sh_new, if_pos rfl]) (by omega) (by rw [mq_N_new]) (fun h3 n3 m3 k3 _ => ?_)
  rw [n2] at n3 m3 k3
  have M3 : mq_mod b (b + 1) 13 3373 h2 h3 := mq_mod.tn (n1 := 1) (z1 := 13) (mq_mod.nw (mq_mod.rf 0 0 h2) _ (by decide) (by decide)) m3 (by omega) (by decide) (by decide)
  have s3 : mq_sh h3 b = .inl 1 := by rw [(m3.2.2.2.2 b (by rw [mq_N_new]; omega) (by omega)).1, mq_sh_new, if_neg (by omega), s2]
  have R3 : mq_R h3 b 1 = some (b + 1) := by rw [(m3.2.2.2.2 b (by rw [mq_N_new]; omega) (by omega)).2.2.2, mq_R_new, if_neg (by omega), R2]
  refine gq_i (by rw [s3, tn]; rfl) ?_
  show mq_At mq_G (mq_tT lL) 6 26 [some (.ref b)] [] (mq_setR h3 b 2 (some (mq_N h2))) Q
  rw [n2]
  have M3b : mq_mod b (b + 1) 0 0 h3 (mq_setR h3 b 2 (some (b + 12))) := (mq_mod.rf 0 0 h3).sR (Or.inl ⟨by omega, by omega⟩) _ _
  obtain ⟨h4, e4⟩ : ∃ H, H = mq_setR h3 b 2 (some (b + 12)) := ⟨_, rfl⟩
  have n4 : mq_N h4 = b + 25 := by rw [e4, mq_N_setR, n3]
  have s4 : mq_sh h4 b = .inl 1 := by rw [e4, mq_sh_setR, s3]
  have R4 : mq_R h4 b 1 = some (b + 1) ∧ mq_R h4 b 2 = some (b + 12) := by
    rw [e4, mq_R_setR, if_pos rfl, if_neg (by decide), mq_R_setR, if_pos rfl, if_pos rfl]
    exact ⟨R3, rfl⟩
  rw [← e4] at M3b ⊢
  apply mq_go 60 [37]
  refine c_mkActs (a := mq_N h4) (by rw [mq_sh_new, if_pos rfl]) (by omega) (by rw [mq_N_new]) (fun h5 n5 m5 k5 => ?_)
  rw [n4] at n5 m5 k5
  have M5 : mq_mod b (b + 1) 5 40 h4 h5 := mq_mod.tn (n1 := 1) (z1 := 4) (mq_mod.nw (mq_mod.rf 0 0 h4) _ (by decide) (by decide)) m5 (by omega) (by decide) (by decide)
  have s5 : mq_sh h5 b = .inl 1 := by rw [(m5.2.2.2.2 b (by rw [mq_N_new]; omega) (by omega)).1, mq_sh_new, if_neg (by omega), s4]
  have R5 : mq_R h5 b 1 = some (b + 1) ∧ mq_R h5 b 2 = some (b + 12) := by
    rw [(m5.2.2.2.2 b (by rw [mq_N_new]; omega) (by omega)).2.2.2, mq_R_new, if_neg (by omega), mq_R_new, if_neg (by omega)]
    exact R4
  refine gq_i (by rw [s5, tn]; rfl) ?_
  show mq_At mq_G (mq_tT lL) 6 37 [some (.ref b)] [] (mq_setR h5 b 3 (some (mq_N h4))) Q
  rw [n4]
  have M5b : mq_mod b (b + 1) 0 0 h5 (mq_setR h5 b 3 (some (b + 25))) := (mq_mod.rf 0 0 h5).sR (Or.inl ⟨by omega, by omega⟩) _ _
  obtain ⟨h6, e6⟩ : ∃ H, H = mq_setR h5 b 3 (some (b + 25)) := ⟨_, rfl⟩
  have n6 : mq_N h6 = b + 30 := by rw [e6, mq_N_setR, n5]
  have s6 : mq_sh h6 b = .inl 1 := by rw [e6, mq_sh_setR, s5]
  have R6 : mq_R h6 b 1 = some (b + 1) ∧ mq_R h6 b 2 = some (b + 12) ∧ mq_R h6 b 3 = some (b + 25) := by
    rw [e6, mq_R_setR, if_pos rfl, if_neg (by decide), mq_R_setR, if_pos rfl, if_neg (by decide), mq_R_setR, if_pos rfl, if_pos rfl]
    exact ⟨R5.1, R5.2, rfl⟩
  rw [← e6] at M5b ⊢
  apply mq_go 60 []
  have M16 : mq_mod b (b + 1) 18 3413 h1 h6 := mq_mod.tr (n1 := 0) (z1 := 0) M1b (mq_mod.tr (n := 18) (z := 3413) M3 (mq_mod.tr (n := 5) (z := 40) M3b (mq_mod.tr (n := 5) (z := 40) M5 M5b (by decide) (by decide)) (by decide) (by decide)) (by decide) (by decide)) (by decide) (by decide)
  have M36 : mq_mod b (b + 1) 5 40 h3 h6 := mq_mod.tr M3b (mq_mod.tr (n := 5) (z := 40) M5 M5b (by decide) (by decide)) (by decide) (by decide)
  have g8 := M16.2.2.2.2 (b + 8) (by omega) (by omega)
  have g9 := M16.2.2.2.2 (b + 9) (by omega) (by omega)
  have g11 := M16.2.2.2.2 (b + 11) (by omega) (by omega)
  refine hq h6 n6 (mq_mod.tr (n1 := 11) (z1 := 208) M1 M16 (by decide) (by decide)) ⟨s6, R6.1, R6.2.1, R6.2.2, ok_P_fr M16 (by omega) (by omega) k1, ok_C_fr M36 (by omega) (by omega) k3, ok_A_fr M5b (by omega) (by omega) k5⟩ ?_ ?_ ?_ ?_
  · intro j hj
    rw [g8.2.2.2]
    exact l1 j hj
  · rw [g9.1]; exact t1
  · rw [g9.2.2.2]; exact r1
  · rw [g11.1]; exact u1
end PC12
