/-! WHAT IS TIED: pieces -/
section YP
variable {h h1 h2 : mq_H} {E : y_T} {S M M2 : Nat}
theorem y_xp_60 {k : Nat} (hk : k < 20) : ¬ x_pos 60 k = none := fun z => by have t := xp_60 hk; rw [nI_clamp (by omega), z] at t; cases t
theorem y_xp_62 {k : Nat} (hk : k < 6) : ¬ x_pos 62 k = none := fun z => by have t := xp_62 hk; rw [nI_clamp (by omega), z] at t; cases t
theorem y_xp_63 {k : Nat} (hk : k < 24) : ¬ x_pos 63 k = none := fun z => by have t := xp_63 hk; rw [nI_clamp (by omega), z] at t; cases t
theorem y_xp_71 {k : Nat} (hk : k < 60) : ¬ x_pos 71 k = none := fun z => by have t := xp_71 hk; rw [nI_clamp (by omega), z] at t; cases t
theorem y_xp_75 {k : Nat} (hk : k < 720) : ¬ x_pos 75 k = none := fun z => by have t := xp_75 hk; rw [nI_clamp (by omega), z] at t; cases t
def y_e_td : y_T := fun v w => v 5 0 = w 59 1
def y_k_td : Nat := 604462909807314587353090
theorem y_f_td : y_F y_e_td y_k_td := fun v v2 w w2 hv hw e => (hv 5 0 (by decide) (by decide) (by decide) (Or.inl ⟨_, _, rfl⟩)).trans (Eq.trans e (hw 59 1 (by decide) (by decide)).symm)
def y_e_ct : y_T := fun v w => v 17 0 = w 59 9
def y_k_ct : Nat := 154742504910672534362391040
theorem y_f_ct : y_F y_e_ct y_k_ct := fun v v2 w w2 hv hw e => (hv 17 0 (by decide) (by decide) (by decide) (Or.inl ⟨_, _, rfl⟩)).trans (Eq.trans e (hw 59 9 (by decide) (by decide)).symm)
def y_e_hd : y_T := fun v w => v 6 1 = w 59 2 ∧ ∀ k, k < 20 → v 7 k = w 60 k
def y_k_hd : Nat := 3626777458843887524118540
theorem y_f_hd : y_F y_e_hd y_k_hd := fun v v2 w w2 hv hw e => ⟨(hv 6 1 (by decide) (by decide) (by decide) (Or.inl ⟨_, _, rfl⟩)).trans (Eq.trans e.1 (hw 59 2 (by decide) (by decide)).symm), fun k hk => by rw [hv 7 k (show Nat.testBit y_k_hd (ck_lca 7) = true by decide) (by decide) (by decide) (Or.inr ⟨_, _, _, rfl, hk⟩), hw 60 k (show Nat.testBit y_k_hd (ck_lca 60) = true by decide) (y_xp_60 hk)]; exact e.2 k hk⟩
def y_e_cg : y_T := fun v w => (∀ k, k < 6 → v 9 k = w 62 k) ∧ ∀ k, k < 24 → v 10 k = w 63 k
def y_k_cg : Nat := 29014219670751100192948320
theorem y_f_cg : y_F y_e_cg y_k_cg := fun v v2 w w2 hv hw e => ⟨fun k hk => by rw [hv 9 k (show Nat.testBit y_k_cg (ck_lca 9) = true by decide) (by decide) (by decide) (Or.inr ⟨_, _, _, rfl, hk⟩), hw 62 k (show Nat.testBit y_k_cg (ck_lca 62) = true by decide) (y_xp_62 hk)]; exact e.1 k hk, fun k hk => by rw [hv 10 k (show Nat.testBit y_k_cg (ck_lca 10) = true by decide) (by decide) (by decide) (Or.inr ⟨_, _, _, rfl, hk⟩), hw 63 k (show Nat.testBit y_k_cg (ck_lca 63) = true by decide) (y_xp_63 hk)]; exact e.2 k hk⟩
def y_e_fc : y_T := fun v w => ∀ k, k < 60 → v 25 k = w 71 k
def y_k_fc : Nat := 9903520314283042199193124864
theorem y_f_fc : y_F y_e_fc y_k_fc := fun v v2 w w2 hv hw e => fun k hk => by rw [hv 25 k (show Nat.testBit y_k_fc (ck_lca 25) = true by decide) (by decide) (by decide) (Or.inr ⟨_, _, _, rfl, hk⟩), hw 71 k (show Nat.testBit y_k_fc (ck_lca 71) = true by decide) (y_xp_71 hk)]; exact e k hk
def y_e_fd : y_T := fun v w => ∀ k, k < 720 → v 29 k = w 75 k
def y_k_fd : Nat := 158456325028528675187089997824
theorem y_f_fd : y_F y_e_fd y_k_fd := fun v v2 w w2 hv hw e => fun k hk => by rw [hv 29 k (show Nat.testBit y_k_fd (ck_lca 29) = true by decide) (by decide) (by decide) (Or.inr ⟨_, _, _, rfl, hk⟩), hw 75 k (show Nat.testBit y_k_fd (ck_lca 75) = true by decide) (y_xp_75 hk)]; exact e k hk
theorem y_sub {i : Nat} (d : Nat.beq (Nat.land S M) S = true) (t : Nat.testBit S i = true) : Nat.testBit M i = true := by
  have e : S &&& M = S := Nat.eq_of_beq_eq_true d
  rw [← e, Nat.testBit_and, Bool.and_eq_true] at t
  exact t.2
theorem y_F.up (F : y_F E S) (d : Nat.beq (Nat.land S M) S = true) : y_F E M := fun v v2 w w2 hv hw e => F v v2 w w2 (fun a k t => hv a k (y_sub d t)) (fun a k t => hw a k (y_sub d t)) e
theorem y_F.m2 (F : y_F E S) (m1 : ck_md M h h1) (m2 : ck_md M2 h1 h2) (d1 : Nat.beq (Nat.land M S) 0 = true) (d2 : Nat.beq (Nat.land M2 S) 0 = true) (e : E (mq_I h) (mq_I h)) : E (mq_I h2) (mq_I h2) := F _ _ _ _ (fun a k t _ _ _ => (m2.2.2.2.2 a k (y_dis d2 t)).trans (m1.2.2.2.2 a k (y_dis d1 t))) (fun a k t _ => (m2.2.2.2.2 a k (y_dis d2 t)).trans (m1.2.2.2.2 a k (y_dis d1 t))) e
theorem y_vi {a b : Int32} (e : some (Value.int a) = some (Value.int b)) : a = b := by cases e; rfl
end YP
