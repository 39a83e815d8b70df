/-! THE CLASS'S IMAGE: a book copied, and copied back -/
section XV
variable {lL : Nat} {h g h' : mq_H} {Q : Option Value → mq_H → Prop}
def x_dm (a k : Nat) : Prop := (∃ l u, ck_ivo a k = some (l, u)) ∨ ∃ n l u, ck_iva a = some (n, l, u) ∧ k < n
theorem x_dmA {a N k : Nat} {L U : Int} (e0 : ck_ivo a k = none) (e1 : ck_iva a = some (N, L, U)) (H : x_dm a k) : k < N := by
  rcases H with ⟨l, u, e⟩ | ⟨n, l, u, e, hk⟩
  · rw [e0] at e
    cases e
  · rw [e1] at e
    cases e
    exact hk
theorem x_dmF {a j k : Nat} {L U : Int} (e0 : ck_ivo a k = bif Nat.beq k j then some (L, U) else none) (e1 : ck_iva a = none) (H : x_dm a k) : k = j := by
  rcases H with ⟨l, u, e⟩ | ⟨n, l, u, e, hk⟩
  · rw [e0] at e
    cases q : Nat.beq k j with
    | true => exact Nat.eq_of_beq_eq_true q
    | false => rw [q] at e; cases e
  · rw [e1] at e
    cases e
theorem x_dmN {a k : Nat} (e0 : ck_ivo a k = none) (e1 : ck_iva a = none) (H : x_dm a k) : False := by
  rcases H with ⟨l, u, e⟩ | ⟨n, l, u, e, hk⟩
  · rw [e0] at e
    cases e
  · rw [e1] at e
    cases e
def x_L1 (b : Nat) : List (Nat × Nat × Nat × Nat) := [(34, b + 25 + 4, 0, 18), (33, b + 25 + 3, 0, 6), (32, b + 25 + 2, 0, 6), (31, b + 25 + 1, 0, 6)] ++ ([(29, b + 12 + 12, 0, 720), (28, b + 12 + 11, 0, 720), (27, b + 12 + 10, 0, 720), (26, b + 12 + 9, 0, 720), (25, b + 12 + 8, 0, 60), (24, b + 12 + 7, 0, 60), (23, b + 12 + 6, 0, 60), (22, b + 12 + 5, 0, 60), (21, b + 12 + 4, 0, 60), (20, b + 12 + 3, 0, 60), (19, b + 12 + 2, 0, 60), (18, b + 12 + 1, 0, 60), (17, b + 12, 0, 0 + 1)] ++ ([(12, b + 1 + 6, 0, 24), (11, b + 1 + 5, 0, 24), (10, b + 1 + 4, 0, 24), (9, b + 1 + 3, 0, 6), (8, b + 1 + 2, 0, 6), (6, b + 1, 1, 1 + 1), (7, b + 1 + 1, 0, 20)] ++ [(5, b, 0, 0 + 1)]))
theorem x_vs1 {b a k : Nat} (V : x_vs h g (x_L1 b)) (h1 : 5 ≤ a) (h2 : a < 35) (D : x_dm a k) : mq_I g (b + (a - 5)) k = mq_I h a k := by
  obtain ⟨v34, v33, v32, v31, v29, v28, v27, v26, v25, v24, v23, v22, v21, v20, v19, v18, v17, v12, v11, v10, v9, v8, v6, v7, v5, -⟩ := V
  have q : a = 5 ∨ a = 6 ∨ a = 7 ∨ a = 8 ∨ a = 9 ∨ a = 10 ∨ a = 11 ∨ a = 12 ∨ a = 13 ∨ a = 14 ∨ a = 15 ∨ a = 16 ∨ a = 17 ∨ a = 18 ∨ a = 19 ∨ a = 20 ∨ a = 21 ∨ a = 22 ∨ a = 23 ∨ a = 24 ∨ a = 25 ∨ a = 26 ∨ a = 27 ∨ a = 28 ∨ a = 29 ∨ a = 30 ∨ a = 31 ∨ a = 32 ∨ a = 33 ∨ a = 34 := by omega
  rcases q with rfl | rfl | rfl | rfl | rfl | rfl | rfl | rfl | rfl | rfl | rfl | rfl | rfl | rfl | rfl | rfl | rfl | rfl | rfl | rfl | rfl | rfl | rfl | rfl | rfl | rfl | rfl | rfl | rfl | rfl
  · have e := x_dmF (a := 5) (j := 0) (k := k) (L := 0) (U := 2999) rfl rfl D
    subst e
    exact v5 0 (Nat.le_refl _) (Nat.lt_succ_self _)
  · have e := x_dmF (a := 6) (j := 1) (k := k) (L := 0) (U := 20) rfl rfl D
    subst e
    exact v6 1 (Nat.le_refl _) (Nat.lt_succ_self _)
  · have e := x_dmA (a := 7) (N := 20) rfl rfl D
    exact v7 k (Nat.zero_le _) e
  · have e := x_dmA (a := 8) (N := 6) rfl rfl D
    exact v8 k (Nat.zero_le _) e
  · have e := x_dmA (a := 9) (N := 6) rfl rfl D
    exact v9 k (Nat.zero_le _) e
  · have e := x_dmA (a := 10) (N := 24) rfl rfl D
    exact v10 k (Nat.zero_le _) e
  · have e := x_dmA (a := 11) (N := 24) rfl rfl D
    exact v11 k (Nat.zero_le _) e
  · have e := x_dmA (a := 12) (N := 24) rfl rfl D
    exact v12 k (Nat.zero_le _) e
  · exact absurd (x_dmN (a := 13) rfl rfl D) id
  · exact absurd (x_dmN (a := 14) rfl rfl D) id
  · exact absurd (x_dmN (a := 15) rfl rfl D) id
  · exact absurd (x_dmN (a := 16) rfl rfl D) id
  · have e := x_dmF (a := 17) (j := 0) (k := k) (L := 0) (U := 60) rfl rfl D
    subst e
    exact v17 0 (Nat.le_refl _) (Nat.lt_succ_self _)
  · have e := x_dmA (a := 18) (N := 60) rfl rfl D
    exact v18 k (Nat.zero_le _) e
  · have e := x_dmA (a := 19) (N := 60) rfl rfl D
    exact v19 k (Nat.zero_le _) e
  · have e := x_dmA (a := 20) (N := 60) rfl rfl D
    exact v20 k (Nat.zero_le _) e
  · have e := x_dmA (a := 21) (N := 60) rfl rfl D
    exact v21 k (Nat.zero_le _) e
  · have e := x_dmA (a := 22) (N := 60) rfl rfl D
    exact v22 k (Nat.zero_le _) e
  · have e := x_dmA (a := 23) (N := 60) rfl rfl D
    exact v23 k (Nat.zero_le _) e
  · have e := x_dmA (a := 24) (N := 60) rfl rfl D
    exact v24 k (Nat.zero_le _) e
  · have e := x_dmA (a := 25) (N := 60) rfl rfl D
    exact v25 k (Nat.zero_le _) e
  · have e := x_dmA (a := 26) (N := 720) rfl rfl D
    exact v26 k (Nat.zero_le _) e
  · have e := x_dmA (a := 27) (N := 720) rfl rfl D
    exact v27 k (Nat.zero_le _) e
  · have e := x_dmA (a := 28) (N := 720) rfl rfl D
    exact v28 k (Nat.zero_le _) e
  · have e := x_dmA (a := 29) (N := 720) rfl rfl D
    exact v29 k (Nat.zero_le _) e
  · exact absurd (x_dmN (a := 30) rfl rfl D) id
  · have e := x_dmA (a := 31) (N := 6) rfl rfl D
    exact v31 k (Nat.zero_le _) e
  · have e := x_dmA (a := 32) (N := 6) rfl rfl D
    exact v32 k (Nat.zero_le _) e
  · have e := x_dmA (a := 33) (N := 6) rfl rfl D
    exact v33 k (Nat.zero_le _) e
  · have e := x_dmA (a := 34) (N := 18) rfl rfl D
    exact v34 k (Nat.zero_le _) e
theorem x_nd1 {b c : Nat} (hc : c < b) : x_nd c (x_L1 b) := x_nd_c (by omega) (x_nd_c (by omega) (x_nd_c (by omega) (x_nd_c (by omega) (x_nd_c (by omega) (x_nd_c (by omega) (x_nd_c (by omega) (x_nd_c (by omega) (x_nd_c (by omega) (x_nd_c (by omega) (x_nd_c (by omega) (x_nd_c (by omega) (x_nd_c (by omega) (x_nd_c (by omega) (x_nd_c (by omega) (x_nd_c (by omega) (x_nd_c (by omega) (x_nd_c (by omega) (x_nd_c (by omega) (x_nd_c (by omega) (x_nd_c (by omega) (x_nd_c (by omega) (x_nd_c (by omega) (x_nd_c (by omega) (x_nd_c (by omega) (trivial)))))))))))))))))))))))))
def x_L2 (b : Nat) : List (Nat × Nat × Nat × Nat) := [(b + 25 + 4, 34, 0, 18), (b + 25 + 3, 33, 0, 6), (b + 25 + 2, 32, 0, 6), (b + 25 + 1, 31, 0, 6)] ++ ([(b + 12 + 12, 29, 0, 720), (b + 12 + 11, 28, 0, 720), (b + 12 + 10, 27, 0, 720), (b + 12 + 9, 26, 0, 720), (b + 12 + 8, 25, 0, 60), (b + 12 + 7, 24, 0, 60), (b + 12 + 6, 23, 0, 60), (b + 12 + 5, 22, 0, 60), (b + 12 + 4, 21, 0, 60), (b + 12 + 3, 20, 0, 60), (b + 12 + 2, 19, 0, 60), (b + 12 + 1, 18, 0, 60), (b + 12, 17, 0, 0 + 1)] ++ ([(b + 1 + 6, 12, 0, 24), (b + 1 + 5, 11, 0, 24), (b + 1 + 4, 10, 0, 24), (b + 1 + 3, 9, 0, 6), (b + 1 + 2, 8, 0, 6), (b + 1, 6, 1, 1 + 1), (b + 1 + 1, 7, 0, 20)] ++ [(b, 5, 0, 0 + 1)]))
theorem x_vs2 {b a k : Nat} (V : x_vs h g (x_L2 b)) (h1 : 5 ≤ a) (h2 : a < 35) (D : x_dm a k) : mq_I g a k = mq_I h (b + (a - 5)) k := by
  obtain ⟨v34, v33, v32, v31, v29, v28, v27, v26, v25, v24, v23, v22, v21, v20, v19, v18, v17, v12, v11, v10, v9, v8, v6, v7, v5, -⟩ := V
  have q : a = 5 ∨ a = 6 ∨ a = 7 ∨ a = 8 ∨ a = 9 ∨ a = 10 ∨ a = 11 ∨ a = 12 ∨ a = 13 ∨ a = 14 ∨ a = 15 ∨ a = 16 ∨ a = 17 ∨ a = 18 ∨ a = 19 ∨ a = 20 ∨ a = 21 ∨ a = 22 ∨ a = 23 ∨ a = 24 ∨ a = 25 ∨ a = 26 ∨ a = 27 ∨ a = 28 ∨ a = 29 ∨ a = 30 ∨ a = 31 ∨ a = 32 ∨ a = 33 ∨ a = 34 := by omega
  rcases q with rfl | rfl | rfl | rfl | rfl | rfl | rfl | rfl | rfl | rfl | rfl | rfl | rfl | rfl | rfl | rfl | rfl | rfl | rfl | rfl | rfl | rfl | rfl | rfl | rfl | rfl | rfl | rfl | rfl | rfl
  · have e := x_dmF (a := 5) (j := 0) (k := k) (L := 0) (U := 2999) rfl rfl D
    subst e
    exact v5 0 (Nat.le_refl _) (Nat.lt_succ_self _)
  · have e := x_dmF (a := 6) (j := 1) (k := k) (L := 0) (U := 20) rfl rfl D
    subst e
    exact v6 1 (Nat.le_refl _) (Nat.lt_succ_self _)
  · have e := x_dmA (a := 7) (N := 20) rfl rfl D
    exact v7 k (Nat.zero_le _) e
  · have e := x_dmA (a := 8) (N := 6) rfl rfl D
    exact v8 k (Nat.zero_le _) e
  · have e := x_dmA (a := 9) (N := 6) rfl rfl D
    exact v9 k (Nat.zero_le _) e
  · have e := x_dmA (a := 10) (N := 24) rfl rfl D
    exact v10 k (Nat.zero_le _) e
  · have e := x_dmA (a := 11) (N := 24) rfl rfl D
    exact v11 k (Nat.zero_le _) e
  · have e := x_dmA (a := 12) (N := 24) rfl rfl D
    exact v12 k (Nat.zero_le _) e
  · exact absurd (x_dmN (a := 13) rfl rfl D) id
  · exact absurd (x_dmN (a := 14) rfl rfl D) id
  · exact absurd (x_dmN (a := 15) rfl rfl D) id
  · exact absurd (x_dmN (a := 16) rfl rfl D) id
  · have e := x_dmF (a := 17) (j := 0) (k := k) (L := 0) (U := 60) rfl rfl D
    subst e
    exact v17 0 (Nat.le_refl _) (Nat.lt_succ_self _)
  · have e := x_dmA (a := 18) (N := 60) rfl rfl D
    exact v18 k (Nat.zero_le _) e
  · have e := x_dmA (a := 19) (N := 60) rfl rfl D
    exact v19 k (Nat.zero_le _) e
  · have e := x_dmA (a := 20) (N := 60) rfl rfl D
    exact v20 k (Nat.zero_le _) e
  · have e := x_dmA (a := 21) (N := 60) rfl rfl D
    exact v21 k (Nat.zero_le _) e
  · have e := x_dmA (a := 22) (N := 60) rfl rfl D
    exact v22 k (Nat.zero_le _) e
  · have e := x_dmA (a := 23) (N := 60) rfl rfl D
    exact v23 k (Nat.zero_le _) e
  · have e := x_dmA (a := 24) (N := 60) rfl rfl D
    exact v24 k (Nat.zero_le _) e
  · have e := x_dmA (a := 25) (N := 60) rfl rfl D
    exact v25 k (Nat.zero_le _) e
  · have e := x_dmA (a := 26) (N := 720) rfl rfl D
    exact v26 k (Nat.zero_le _) e
  · have e := x_dmA (a := 27) (N := 720) rfl rfl D
    exact v27 k (Nat.zero_le _) e
  · have e := x_dmA (a := 28) (N := 720) rfl rfl D
    exact v28 k (Nat.zero_le _) e
  · have e := x_dmA (a := 29) (N := 720) rfl rfl D
    exact v29 k (Nat.zero_le _) e
  · exact absurd (x_dmN (a := 30) rfl rfl D) id
  · have e := x_dmA (a := 31) (N := 6) rfl rfl D
    exact v31 k (Nat.zero_le _) e
  · have e := x_dmA (a := 32) (N := 6) rfl rfl D
    exact v32 k (Nat.zero_le _) e
  · have e := x_dmA (a := 33) (N := 6) rfl rfl D
    exact v33 k (Nat.zero_le _) e
  · have e := x_dmA (a := 34) (N := 18) rfl rfl D
    exact v34 k (Nat.zero_le _) e
theorem x_nd2 {b c : Nat} (hc : c < 5 ∨ 35 ≤ c) : x_nd c (x_L2 b) := x_nd_c (by omega) (x_nd_c (by omega) (x_nd_c (by omega) (x_nd_c (by omega) (x_nd_c (by omega) (x_nd_c (by omega) (x_nd_c (by omega) (x_nd_c (by omega) (x_nd_c (by omega) (x_nd_c (by omega) (x_nd_c (by omega) (x_nd_c (by omega) (x_nd_c (by omega) (x_nd_c (by omega) (x_nd_c (by omega) (x_nd_c (by omega) (x_nd_c (by omega) (x_nd_c (by omega) (x_nd_c (by omega) (x_nd_c (by omega) (x_nd_c (by omega) (x_nd_c (by omega) (x_nd_c (by omega) (x_nd_c (by omega) (x_nd_c (by omega) (trivial)))))))))))))))))))))))))
theorem x_n61 {b c : Nat} (k : ok_B h b) (hc : mq_sh h c = .inl 6 ∨ mq_sh h c = .inl 7) : x_nd c (x_L1 b) := by
  obtain ⟨s0, t1, t2, t3, ⟨p0, pr1, p1, pr2, p2, pr3, p3, pr4, p4, pr5, p5, pr6, p6, pr7, p7⟩, ⟨c0, cr1, c1, cr2, c2, cr3, c3, cr4, c4, cr5, c5, cr6, c6, cr7, c7, cr8, c8, cr9, c9, cr10, c10, cr11, c11, cr12, c12⟩, ⟨a0, ar1, a1, ar2, a2, ar3, a3, ar4, a4⟩⟩ := k
  exact x_nd_c (fun e => by rw [e, a4] at hc; rcases hc with z | z <;> cases z) (x_nd_c (fun e => by rw [e, a3] at hc; rcases hc with z | z <;> cases z) (x_nd_c (fun e => by rw [e, a2] at hc; rcases hc with z | z <;> cases z) (x_nd_c (fun e => by rw [e, a1] at hc; rcases hc with z | z <;> cases z) (x_nd_c (fun e => by rw [e, c12] at hc; rcases hc with z | z <;> cases z) (x_nd_c (fun e => by rw [e, c11] at hc; rcases hc with z | z <;> cases z) (x_nd_c (fun e => by rw [e, c10] at hc; rcases hc with z | z <;> cases z) (x_nd_c (fun e => by rw [e, c9] at hc; rcases hc with z | z <;> cases z) (x_nd_c (fun e => by rw [e, c8] at hc; rcases hc with z | z <;> cases z) (x_nd_c (fun e => by rw [e, c7] at hc; rcases hc with z | z <;> cases z) (x_nd_c (fun e => by rw [e, c6] at hc; rcases hc with z | z <;> cases z) (x_nd_c (fun e => by rw [e, c5] at hc; rcases hc with z | z <;> cases z) (x_nd_c (fun e => by rw [e, c4] at hc; rcases hc with z | z <;> cases z) (x_nd_c (fun e => by rw [e, c3] at hc; rcases hc with z | z <;> cases z) (x_nd_c (fun e => by rw [e, c2] at hc; rcases hc with z | z <;> cases z) (x_nd_c (fun e => by rw [e, c1] at hc; rcases hc with z | z <;> cases z) (x_nd_c (fun e => by rw [e, c0] at hc; rcases hc with z | z <;> cases z) (x_nd_c (fun e => by rw [e, p6] at hc; rcases hc with z | z <;> cases z) (x_nd_c (fun e => by rw [e, p5] at hc; rcases hc with z | z <;> cases z) (x_nd_c (fun e => by rw [e, p4] at hc; rcases hc with z | z <;> cases z) (x_nd_c (fun e => by rw [e, p3] at hc; rcases hc with z | z <;> cases z) (x_nd_c (fun e => by rw [e, p2] at hc; rcases hc with z | z <;> cases z) (x_nd_c (fun e => by rw [e, p0] at hc; rcases hc with z | z <;> cases z) (x_nd_c (fun e => by rw [e, p1] at hc; rcases hc with z | z <;> cases z) (x_nd_c (fun e => by rw [e, s0] at hc; rcases hc with z | z <;> cases z) trivial))))))))))))))))))))))))
theorem x_n62 {b c : Nat} (k : x_hd h) (hc : mq_sh h c = .inl 6 ∨ mq_sh h c = .inl 7) : x_nd c (x_L2 b) := by
  exact x_nd_c (fun e => by rw [e, k.2 34 _ rfl] at hc; rcases hc with z | z <;> cases z) (x_nd_c (fun e => by rw [e, k.2 33 _ rfl] at hc; rcases hc with z | z <;> cases z) (x_nd_c (fun e => by rw [e, k.2 32 _ rfl] at hc; rcases hc with z | z <;> cases z) (x_nd_c (fun e => by rw [e, k.2 31 _ rfl] at hc; rcases hc with z | z <;> cases z) (x_nd_c (fun e => by rw [e, k.2 29 _ rfl] at hc; rcases hc with z | z <;> cases z) (x_nd_c (fun e => by rw [e, k.2 28 _ rfl] at hc; rcases hc with z | z <;> cases z) (x_nd_c (fun e => by rw [e, k.2 27 _ rfl] at hc; rcases hc with z | z <;> cases z) (x_nd_c (fun e => by rw [e, k.2 26 _ rfl] at hc; rcases hc with z | z <;> cases z) (x_nd_c (fun e => by rw [e, k.2 25 _ rfl] at hc; rcases hc with z | z <;> cases z) (x_nd_c (fun e => by rw [e, k.2 24 _ rfl] at hc; rcases hc with z | z <;> cases z) (x_nd_c (fun e => by rw [e, k.2 23 _ rfl] at hc; rcases hc with z | z <;> cases z) (x_nd_c (fun e => by rw [e, k.2 22 _ rfl] at hc; rcases hc with z | z <;> cases z) (x_nd_c (fun e => by rw [e, k.2 21 _ rfl] at hc; rcases hc with z | z <;> cases z) (x_nd_c (fun e => by rw [e, k.2 20 _ rfl] at hc; rcases hc with z | z <;> cases z) (x_nd_c (fun e => by rw [e, k.2 19 _ rfl] at hc; rcases hc with z | z <;> cases z) (x_nd_c (fun e => by rw [e, k.2 18 _ rfl] at hc; rcases hc with z | z <;> cases z) (x_nd_c (fun e => by rw [e, k.2 17 _ rfl] at hc; rcases hc with z | z <;> cases z) (x_nd_c (fun e => by rw [e, k.2 12 _ rfl] at hc; rcases hc with z | z <;> cases z) (x_nd_c (fun e => by rw [e, k.2 11 _ rfl] at hc; rcases hc with z | z <;> cases z) (x_nd_c (fun e => by rw [e, k.2 10 _ rfl] at hc; rcases hc with z | z <;> cases z) (x_nd_c (fun e => by rw [e, k.2 9 _ rfl] at hc; rcases hc with z | z <;> cases z) (x_nd_c (fun e => by rw [e, k.2 8 _ rfl] at hc; rcases hc with z | z <;> cases z) (x_nd_c (fun e => by rw [e, k.2 6 _ rfl] at hc; rcases hc with z | z <;> cases z) (x_nd_c (fun e => by rw [e, k.2 7 _ rfl] at hc; rcases hc with z | z <;> cases z) (x_nd_c (fun e => by rw [e, k.2 5 _ rfl] at hc; rcases hc with z | z <;> cases z) trivial))))))))))))))))))))))))
theorem d_cpB1 {b : Nat} (k : ok_B h b) (h100 : 100 ≤ b) (hg : mq_gE h 13 0 8 6 = true) (hq : ∀ h', x_cv (b + 1 + 7) (x_L1 b) h h' → (∀ i, i < 8 → mq_R h' (b + 1 + 7) i = mq_R h 13 i) → Q none h') : mq_Call mq_G (mq_tT lL) 7 [.ref b, .retAddr 5] h Q := by
  obtain ⟨s0, r1, r2, r3, kP, kC, kA⟩ := k
  apply mq_enter 60 [8]
  refine gq_i (by rw [s0]; rfl) ?_
  obtain ⟨h1, e1⟩ : ∃ H, H = mq_setI h b 0 (mq_I h 5 0) := ⟨_, rfl⟩
  show mq_At mq_G (mq_tT lL) 7 8 [some (.ref b), some (.retAddr 5)] [] (mq_setI h b 0 (mq_I h 5 0)) Q
  rw [← e1]
  have V1 := (x_cv.rf (b + 1 + 7) h).fl (s := 5) (d := b) (j := 0) trivial trivial
  rw [← e1] at V1
  clear e1
  apply mq_go 60 []
  refine gq_i (by rw [V1.2.2.1, s0]; rfl) ?_
  refine oq_s (by rw [V1.2.2.2.1 b (by omega)]; exact r1) ?_
  refine gq_i (by rw [V1.2.2.1, kP.1]; rfl) ?_
  refine d_cpP1 V1 kP (by omega) (fun c _ _ => x_nd_c (by omega) (trivial)) (fun c _ _ => x_nd_c (by omega) (trivial)) (fun g V => by unfold mq_gE; rw [V.2.2.1, V.2.2.2.1 13 (by omega)]; exact hg) (fun h2 V2 R2 => ?_)
  refine gq_i (by rw [V2.2.2.1, s0]; rfl) ?_
  refine oq_s (by rw [V2.2.2.2.1 b (by omega)]; exact r2) ?_
  refine gq_i (by rw [V2.2.2.1, kC.1]; rfl) ?_
  refine d_cpC1 (by omega) V2 kC (by omega) (fun c _ _ => x_nd_c (by omega) (x_nd_c (by omega) (x_nd_c (by omega) (x_nd_c (by omega) (x_nd_c (by omega) (x_nd_c (by omega) (x_nd_c (by omega) (x_nd_c (by omega) (trivial))))))))) (fun c _ _ => x_nd_c (by omega) (x_nd_c (by omega) (x_nd_c (by omega) (x_nd_c (by omega) (x_nd_c (by omega) (x_nd_c (by omega) (x_nd_c (by omega) (x_nd_c (by omega) (trivial))))))))) (fun h3 V3 R3 => ?_)
  refine gq_i (by rw [V3.2.2.1, s0]; rfl) ?_
  refine oq_s (by rw [V3.2.2.2.1 b (by omega)]; exact r3) ?_
  refine gq_i (by rw [V3.2.2.1, kA.1]; rfl) ?_
  refine d_cpA1 (by omega) V3 kA (by omega) (fun c _ _ => x_nd_c (by omega) (x_nd_c (by omega) (x_nd_c (by omega) (x_nd_c (by omega) (x_nd_c (by omega) (x_nd_c (by omega) (x_nd_c (by omega) (x_nd_c (by omega) (x_nd_c (by omega) (x_nd_c (by omega) (x_nd_c (by omega) (x_nd_c (by omega) (x_nd_c (by omega) (x_nd_c (by omega) (x_nd_c (by omega) (x_nd_c (by omega) (x_nd_c (by omega) (x_nd_c (by omega) (x_nd_c (by omega) (x_nd_c (by omega) (x_nd_c (by omega) (trivial)))))))))))))))))))))) (fun c _ _ => x_nd_c (by omega) (x_nd_c (by omega) (x_nd_c (by omega) (x_nd_c (by omega) (x_nd_c (by omega) (x_nd_c (by omega) (x_nd_c (by omega) (x_nd_c (by omega) (x_nd_c (by omega) (x_nd_c (by omega) (x_nd_c (by omega) (x_nd_c (by omega) (x_nd_c (by omega) (x_nd_c (by omega) (x_nd_c (by omega) (x_nd_c (by omega) (x_nd_c (by omega) (x_nd_c (by omega) (x_nd_c (by omega) (x_nd_c (by omega) (x_nd_c (by omega) (trivial)))))))))))))))))))))) (fun h4 V4 R4 => ?_)
  exact hq h4 V4 (fun i hi => by rw [R4, R3]; exact R2 i hi)
theorem d_cpB2 {b : Nat} (k : ok_B h b) (h100 : 100 ≤ b) (hg : mq_gE h (b + 1 + 7) 0 8 6 = true) (hq : ∀ h', x_cv 13 (x_L2 b) h h' → (∀ i, i < 8 → mq_R h' 13 i = mq_R h (b + 1 + 7) i) → Q none h') : mq_Call mq_G (mq_tT lL) 7 [.retAddr 5, .ref b] h Q := by
  obtain ⟨s0, r1, r2, r3, kP, kC, kA⟩ := k
  apply mq_enter 60 [8]
  refine gq_i (by rw [s0]; rfl) ?_
  obtain ⟨h1, e1⟩ : ∃ H, H = mq_setI h 5 0 (mq_I h b 0) := ⟨_, rfl⟩
  show mq_At mq_G (mq_tT lL) 7 8 [some (.retAddr 5), some (.ref b)] [] (mq_setI h 5 0 (mq_I h b 0)) Q
  rw [← e1]
  have V1 := (x_cv.rf 13 h).fl (s := b) (d := 5) (j := 0) trivial trivial
  rw [← e1] at V1
  clear e1
  apply mq_go 60 []
  refine gq_i (by rw [V1.2.2.1, s0]; rfl) ?_
  refine oq_s (by rw [V1.2.2.2.1 b (by omega)]; exact r1) ?_
  refine d_cpP2 V1 kP (by omega) (fun c _ _ => x_nd_c (by omega) (trivial)) (fun c _ _ => x_nd_c (by omega) (trivial)) (fun g V => by unfold mq_gE; rw [V.2.2.1, V.2.2.2.1 (b + 1 + 7) (by omega)]; exact hg) (fun h2 V2 R2 => ?_)
  refine gq_i (by rw [V2.2.2.1, s0]; rfl) ?_
  refine oq_s (by rw [V2.2.2.2.1 b (by omega)]; exact r2) ?_
  refine d_cpC2 (by omega) V2 kC (by omega) (fun c _ _ => x_nd_c (by omega) (x_nd_c (by omega) (x_nd_c (by omega) (x_nd_c (by omega) (x_nd_c (by omega) (x_nd_c (by omega) (x_nd_c (by omega) (x_nd_c (by omega) (trivial))))))))) (fun c _ _ => x_nd_c (by omega) (x_nd_c (by omega) (x_nd_c (by omega) (x_nd_c (by omega) (x_nd_c (by omega) (x_nd_c (by omega) (x_nd_c (by omega) (x_nd_c (by omega) (trivial))))))))) (fun h3 V3 R3 => ?_)
  refine gq_i (by rw [V3.2.2.1, s0]; rfl) ?_
  refine oq_s (by rw [V3.2.2.2.1 b (by omega)]; exact r3) ?_
  refine d_cpA2 (by omega) V3 kA (by omega) (fun c _ _ => x_nd_c (by omega) (x_nd_c (by omega) (x_nd_c (by omega) (x_nd_c (by omega) (x_nd_c (by omega) (x_nd_c (by omega) (x_nd_c (by omega) (x_nd_c (by omega) (x_nd_c (by omega) (x_nd_c (by omega) (x_nd_c (by omega) (x_nd_c (by omega) (x_nd_c (by omega) (x_nd_c (by omega) (x_nd_c (by omega) (x_nd_c (by omega) (x_nd_c (by omega) (x_nd_c (by omega) (x_nd_c (by omega) (x_nd_c (by omega) (x_nd_c (by omega) (trivial)))))))))))))))))))))) (fun c _ _ => x_nd_c (by omega) (x_nd_c (by omega) (x_nd_c (by omega) (x_nd_c (by omega) (x_nd_c (by omega) (x_nd_c (by omega) (x_nd_c (by omega) (x_nd_c (by omega) (x_nd_c (by omega) (x_nd_c (by omega) (x_nd_c (by omega) (x_nd_c (by omega) (x_nd_c (by omega) (x_nd_c (by omega) (x_nd_c (by omega) (x_nd_c (by omega) (x_nd_c (by omega) (x_nd_c (by omega) (x_nd_c (by omega) (x_nd_c (by omega) (x_nd_c (by omega) (trivial)))))))))))))))))))))) (fun h4 V4 R4 => ?_)
  exact hq h4 V4 (fun i hi => by rw [R4, R3]; exact R2 i hi)
theorem x_P1_cv {rr q : Nat} {l : List (Nat × Nat × Nat × Nat)} (V : x_cv rr l h h') (H6 : ∀ c, (mq_sh h c = .inl 6 ∨ mq_sh h c = .inl 7) → x_nd c l) {s : mq_S} (sr : mq_sh h rr = s) (r6 : ¬ s = .inl 6) (r7 : ¬ s = .inl 7) (r5 : ∀ n, ¬ s = .inr (5, n)) (hrr : (∀ d, mq_R h rr 4 = some d → d < mq_N h) → ∀ d, mq_R h' rr 4 = some d → d < mq_N h) (P : ck_P1 h q) (B : x_lb h q) : ck_P1 h' q ∧ x_lb h' q := by
  obtain ⟨v1, v2, v3, v4, v5, v6⟩ := V
  obtain ⟨z1, z2, z3, bb, z4, z5, n, z6, z7, z8⟩ := P
  have eI : ∀ c, (mq_sh h c = .inl 6 ∨ mq_sh h c = .inl 7) → mq_I h' c = mq_I h c := fun c hc => v5 c (H6 c hc)
  have nq : ¬ q = rr := fun e => r6 (by rw [← sr, ← e]; exact z2)
  have nb : ¬ bb = rr := fun e => r5 n (by rw [← sr, ← e]; exact z7)
  refine ⟨⟨z1, by rw [v3]; exact z2, by rw [eI q (Or.inl z2)]; exact z3, bb, by rw [v4 q nq]; exact z4, z5, n, z6, by rw [v3]; exact z7, fun i hi => ?_⟩, by rw [v1]; exact B.1, fun b' e => ?_⟩
  · obtain ⟨c, y1, y2, y3, y4, y5, d, y6, y7, m, y8, y9⟩ := z8 i hi
    have nc : ¬ c = rr := fun e => r7 (by rw [← sr, ← e]; exact y3)
    exact ⟨c, by rw [v4 bb nb]; exact y1, y2, by rw [v3]; exact y3, by rw [eI c (Or.inr y3)]; exact y4, by rw [eI c (Or.inr y3)]; exact y5, d, by rw [v4 c nc]; exact y6, y7, m, y8, by rw [v3]; exact y9⟩
  · rw [v4 q nq, z4] at e
    have e0 : bb = b' := Option.some.inj e
    rw [← e0]
    clear e e0
    obtain ⟨c1, c2, c3⟩ := B.2 bb z4
    refine ⟨by rw [v1]; exact c1, c2, fun i c i16 e => ?_⟩
    rw [v4 bb nb] at e
    obtain ⟨d1, d2⟩ := c3 i c i16 e
    refine ⟨by rw [v1]; exact d1, fun d e2 => ?_⟩
    rw [v1]
    rcases Nat.decEq c rr with nc | ec
    · rw [v4 c nc] at e2
      exact d2 d e2
    · rw [ec] at e2 d2
      exact hrr d2 d e2
/-- all but the saved book -/
def x_Im (h : mq_H) : Prop := ck_IvI h ∧ ck_IvD h ∧ x_hd h ∧ x_wd h ∧ x_lw (mq_I h) ∧ x_ct (mq_I h) ∧ x_img h ∧ x_lws h
theorem x_xs {h h' : mq_H} (eI : ∀ c, 35 ≤ c → c < 100 → mq_I h' c = mq_I h c) (a2 : x_wd h) (a3 : x_lw (mq_I h)) (a4 : x_ct (mq_I h)) (a5 : x_img h) : x_wd h' ∧ x_lw (mq_I h') ∧ x_ct (mq_I h') ∧ x_img h' := by
  refine ⟨fun k hk => by rw [eI _ (by decide) (by decide)]; exact a2 k hk, fun row hr i hi => ?_, ?_, fun hi => ?_⟩
  · rw [eI _ (by decide) (by decide)] at hi
    have := a3 row hr i hi
    unfold x_ln at this ⊢
    rw [eI 86 (by decide) (by decide), eI 87 (by decide) (by decide), eI 88 (by decide) (by decide), eI 89 (by decide) (by decide)]
    exact this
  · unfold x_ct
    rw [eI 59 (by decide) (by decide), eI 71 (by decide) (by decide), eI 75 (by decide) (by decide)]
    exact a4
  · rw [eI 59 (by decide) (by decide)] at hi
    have vw : x_vw h' = x_vw h := by
      funext b j
      unfold x_vw
      rw [eI 99 (by decide) (by decide)]
    rw [vw]
    exact a5 hi
theorem x_cp1 (J : x_Im h) {b : Nat} (k : ok_B h b) (h100 : 100 ≤ b) (hN : b + 30 ≤ mq_N h) (sv : mq_R h 4 5 = some b) (V : x_cv (b + 1 + 7) (x_L1 b) h h') (Rl : ∀ i, i < 8 → mq_R h' (b + 1 + 7) i = mq_R h 13 i) : ck_Iv x_X h' := by
  obtain ⟨I1, I2, a1, a2, a3, a4, a5, a6⟩ := J
  have eI : ∀ c, c < 100 → mq_I h' c = mq_I h c := fun c hc => V.2.2.2.2.1 c (x_nd1 (by omega))
  have eR : ∀ c, ¬ c = b + 1 + 7 → mq_R h' c = mq_R h c := V.2.2.2.1
  have kp := k.2.2.2.2.1
  have s8 : mq_sh h (b + 1 + 7) = .inr (4, 8) := kp.2.2.2.2.2.2.2.2.2.2.2.2.2.2
  have P : ∀ q, ck_P1 h q → x_lb h q → ck_P1 h' q ∧ x_lb h' q := fun q => x_P1_cv V (fun c hc => x_n61 k hc) s8 (fun z => by cases z) (fun z => by cases z) (fun n z => by cases z) (fun _ d e => by
    rw [Rl 4 (by decide)] at e
    exact (a6 4 (by decide) d e).1)
  obtain ⟨x2, x3, x4, x5⟩ := x_xs (h' := h') (fun c _ hc => eI c hc) a2 a3 a4 a5
  refine ⟨⟨fun a k l u e => by rw [eI a (x_ivo_lt e)]; exact I1.1 a k l u e, fun a m l u e k hk => by rw [eI a (x_iva_lt e)]; exact I1.2 a m l u e k hk⟩, fun i hi => ?_, a1.of V.1 V.2.2.1, x2, x3, x4, x5, fun i hi q hq => ?_, fun b' hb => ?_⟩
  · obtain ⟨q, q1, q2⟩ := I2 i hi
    exact ⟨q, by rw [eR 13 (by omega)]; exact q1, (P q q2 (a6 i hi q q1)).1⟩
  · rw [eR 13 (by omega)] at hq
    obtain ⟨p, q1, q2⟩ := I2 i hi
    rw [q1] at hq
    have e : p = q := Option.some.inj hq
    rw [← e]
    exact (P p q2 (a6 i hi p q1)).2
  · rw [eR 4 (by omega), sv] at hb
    have e : b = b' := Option.some.inj hb
    rw [← e]
    clear hb e
    refine ⟨h100, by rw [V.1]; exact hN, ?_, fun i hi => ?_, fun a g1 g2 => ⟨fun k l u z => ?_, fun n l u z k hk => ?_⟩⟩
    · unfold ok_B ok_P ok_C ok_A
      rw [V.2.2.1, eR b (by omega), eR (b + 1) (by omega), eR (b + 12) (by omega), eR (b + 25) (by omega)]
      exact k
    · obtain ⟨q, q1, q2⟩ := I2 i hi
      have := P q q2 (a6 i hi q q1)
      exact ⟨q, (Rl i hi).trans q1, this.1, this.2⟩
    · rw [x_vs1 V.2.2.2.2.2 g1 g2 (Or.inl ⟨l, u, z⟩)]
      exact I1.1 a k l u z
    · rw [x_vs1 V.2.2.2.2.2 g1 g2 (Or.inr ⟨n, l, u, z, hk⟩)]
      exact I1.2 a n l u z k hk
theorem x_cp2 (I : ck_Iv x_X h) {b : Nat} (sv : mq_R h 4 5 = some b) (V : x_cv 13 (x_L2 b) h h') (Rl : ∀ i, i < 8 → mq_R h' 13 i = mq_R h (b + 1 + 7) i) : ck_Iv x_X h' := by
  obtain ⟨I1, I2, a1, a2, a3, a4, a5, a6, a7⟩ := I
  obtain ⟨b1, b2, b3, b4, b5⟩ := a7 b sv
  have eI : ∀ c, c < 5 ∨ 35 ≤ c → mq_I h' c = mq_I h c := fun c hc => V.2.2.2.2.1 c (x_nd2 hc)
  have eR : ∀ c, ¬ c = 13 → mq_R h' c = mq_R h c := V.2.2.2.1
  have P : ∀ q, ck_P1 h q → x_lb h q → ck_P1 h' q ∧ x_lb h' q := fun q => x_P1_cv V (fun c hc => x_n62 a1 hc) (a1.2 13 _ rfl) (fun z => by cases z) (fun z => by cases z) (fun n z => by cases z) (fun _ d e => by
    rw [Rl 4 (by decide)] at e
    obtain ⟨p, q1, q2, q3⟩ := b4 4 (by decide)
    have e2 : mq_R h (b + 8) 4 = some d := e
    rw [q1] at e2
    have e3 : p = d := Option.some.inj e2
    rw [← e3]
    exact q3.1)
  obtain ⟨x2, x3, x4, x5⟩ := x_xs (h' := h') (fun c hc _ => eI c (Or.inr hc)) a2 a3 a4 a5
  refine ⟨⟨fun a k l u e => ?_, fun a m l u e k hk => ?_⟩, fun i hi => ?_, a1.of V.1 V.2.2.1, x2, x3, x4, x5, fun i hi q hq => ?_, fun b' hb => ?_⟩
  · rcases Nat.lt_or_ge a 5 with q | q
    · rw [eI a (Or.inl q)]
      exact I1.1 a k l u e
    · rcases Nat.lt_or_ge a 35 with p | p
      · rw [x_vs2 V.2.2.2.2.2 q p (Or.inl ⟨l, u, e⟩)]
        exact (b5 a q p).1 k l u e
      · rw [eI a (Or.inr p)]
        exact I1.1 a k l u e
  · rcases Nat.lt_or_ge a 5 with q | q
    · rw [eI a (Or.inl q)]
      exact I1.2 a m l u e k hk
    · rcases Nat.lt_or_ge a 35 with p | p
      · rw [x_vs2 V.2.2.2.2.2 q p (Or.inr ⟨m, l, u, e, hk⟩)]
        exact (b5 a q p).2 m l u e k hk
      · rw [eI a (Or.inr p)]
        exact I1.2 a m l u e k hk
  · obtain ⟨q, q1, q2, q3⟩ := b4 i hi
    exact ⟨q, (Rl i hi).trans q1, (P q q2 q3).1⟩
  · obtain ⟨p, q1, q2, q3⟩ := b4 i hi
    rw [Rl i hi] at hq
    have hq : mq_R h (b + 8) i = some q := hq
    rw [q1] at hq
    have e : p = q := Option.some.inj hq
    rw [← e]
    exact (P p q2 q3).2
  · rw [eR 4 (by decide), sv] at hb
    have e : b = b' := Option.some.inj hb
    rw [← e]
    clear hb e
    refine ⟨b1, by rw [V.1]; exact b2, ?_, fun i hi => ?_, fun a g1 g2 => ?_⟩
    · unfold ok_B ok_P ok_C ok_A
      rw [V.2.2.1, eR b (by omega), eR (b + 1) (by omega), eR (b + 12) (by omega), eR (b + 25) (by omega)]
      exact b3
    · obtain ⟨q, q1, q2, q3⟩ := b4 i hi
      have := P q q2 q3
      exact ⟨q, by rw [eR (b + 8) (by omega)]; exact q1, this.1, this.2⟩
    · rw [eI (b + (a - 5)) (Or.inr (by omega))]
      exact b5 a g1 g2
theorem x_gE {c : Nat} (H : ∀ i, i < 8 → ∃ q, mq_R h c i = some q ∧ ck_P1 h q) : mq_gE h c 0 8 6 = true := by
  unfold mq_gE
  rw [List.all_eq_true]
  intro i hi
  have hi := List.mem_range.mp hi
  obtain ⟨q, q1, q2⟩ := H i hi
  rw [Nat.zero_add, q1]
  show mq_isO (mq_sh h q) 6 = true
  rw [q2.2.1]
  rfl
theorem x_Im_of (I : ck_Iv x_X h) : x_Im h := by
  obtain ⟨I1, I2, a1, a2, a3, a4, a5, a6, a7⟩ := I
  exact ⟨I1, I2, a1, a2, a3, a4, a5, a6⟩
/-- the saved book's place, written -/
theorem x_Im_sv (I : ck_Iv x_X h) (b : Nat) : x_Im (mq_setR h 4 5 (some b)) := by
  obtain ⟨I1, I2, a1, a2, a3, a4, a5, a6, a7⟩ := I
  have V : x_cv 4 [] h (mq_setR h 4 5 (some b)) := ⟨rfl, rfl, rfl, fun c hc => by funext j; rw [mq_R_setR, if_neg hc], fun _ _ => rfl, trivial⟩
  have P : ∀ q, ck_P1 h q → x_lb h q → ck_P1 (mq_setR h 4 5 (some b)) q ∧ x_lb (mq_setR h 4 5 (some b)) q := fun q => x_P1_cv V (fun c _ => trivial) (a1.2 4 _ rfl) (fun z => by cases z) (fun z => by cases z) (fun n z => by cases z) (fun H d e => by
    rw [mq_R_setR, if_pos rfl, if_neg (by decide)] at e
    exact H d e)
  obtain ⟨x2, x3, x4, x5⟩ := x_xs (h' := mq_setR h 4 5 (some b)) (fun c _ _ => rfl) a2 a3 a4 a5
  refine ⟨I1, fun i hi => ?_, a1.of rfl rfl, x2, x3, x4, x5, fun i hi q hq => ?_⟩
  · obtain ⟨q, q1, q2⟩ := I2 i hi
    exact ⟨q, by rw [mq_R_setR, if_neg (by decide)]; exact q1, (P q q2 (a6 i hi q q1)).1⟩
  · rw [mq_R_setR, if_neg (by decide)] at hq
    obtain ⟨p, q1, q2⟩ := I2 i hi
    rw [q1] at hq
    have e : p = q := Option.some.inj hq
    rw [← e]
    exact (P p q2 (a6 i hi p q1)).2
def y_ci (x : Int32) (h : mq_H) (v : Int32) (h2 : mq_H) : Prop :=
  (x = 0 ∧ mq_R h 4 5 = none ∧ v = 0 ∧ h2 = h) ∨
  (x = 0 ∧ v = 1 ∧ ∃ b, mq_R h 4 5 = some b ∧ mq_R h2 4 5 = some b ∧ 100 ≤ b ∧ (∀ a k, Nat.testBit kc_45.2.2 (ck_lc a k) = false → 5 ≤ a → a < 35 → x_dm a k → mq_I h2 a k = mq_I h (b + (a - 5)) k) ∧ ∀ a k, Nat.testBit kc_45.2.2 (ck_lc a k) = false → 35 ≤ a → mq_I h2 a k = mq_I h a k) ∨
  (¬ x = 0 ∧ v = 1 ∧ ∃ b, mq_R h2 4 5 = some b ∧ 100 ≤ b ∧ (∀ a k, 5 ≤ a → a < 35 → x_dm a k → mq_I h2 (b + (a - 5)) k = mq_I h a k) ∧ ∀ a k, a < 100 → mq_I h2 a k = mq_I h a k)
theorem x_cimage (I : ck_Iv x_X h) {x : Int32} (b1 : x = 0 ∨ x = 1) (hq : ∀ (v : Int32) h2, ck_Iv x_X h2 → mq_I h2 0 = mq_I h 0 → mq_N h2 ≤ mq_N h + 100 → mq_Z h2 ≤ mq_Z h + 20000 → y_ci x h v h2 → Q (some (.int v)) h2) : mq_Call mq_G (mq_tT lL) 128 [.retAddr 4, .int x] h Q := by
  have h100 := I.2.2.1.1
  have k22 : ∀ (h1 : mq_H) (b : Nat), ¬ x = 0 → x_Im h1 → ok_B h1 b → 100 ≤ b → b + 30 ≤ mq_N h1 → mq_R h1 4 5 = some b → (∀ a, a < 100 → mq_I h1 a = mq_I h a) → mq_N h1 ≤ mq_N h + 100 → mq_Z h1 ≤ mq_Z h + 20000 → mq_At mq_G (mq_tT lL) 128 22 [some (.retAddr 4), some (.int x)] [] h1 Q := by
    intro h1 b nx J k hb hN sv e0 N1 Z1
    apply mq_go 60 []
    refine oq_s sv ?_
    refine gq_i (by rw [k.1]; rfl) ?_
    refine d_cpB1 k hb (x_gE J.2.1) (fun h2 V R => ?_)
    refine gq_i rfl ?_
    refine hq _ h2 (x_cp1 J k hb hN sv V R) ?_ (by rw [V.1]; exact N1) (by rw [V.2.1]; exact Z1) (Or.inr (Or.inr ⟨nx, rfl, b, ?_, hb, fun a k a1 a2 dm => ?_, fun a k ha => ?_⟩))
    · rw [← e0 0 (by decide)]
      exact V.2.2.2.2.1 0 (x_nd1 (by omega))
    · rw [V.2.2.2.1 4 (by omega)]
      exact sv
    · rw [x_vs1 V.2.2.2.2.2 a1 a2 dm, e0 a (by omega)]
    · rw [V.2.2.2.2.1 a (x_nd1 (by omega)), e0 a ha]
  apply mq_enter 60 [22]
  refine bq_c (fun c => ?_) (fun c => ?_)
  · cases e : mq_R h 4 5 with
    | none =>
      refine oq_n e ?_
      refine gq_i rfl ?_
      exact hq _ h I rfl (by omega) (by omega) (Or.inl ⟨c, e, rfl, rfl⟩)
    | some b =>
      refine oq_s e ?_
      obtain ⟨g1, g2, g3, g4, g5⟩ := I.2.2.2.2.2.2.2.2 b e
      refine oq_s e ?_
      refine d_cpB2 g3 g1 (x_gE (c := b + 1 + 7) (fun i hi => by obtain ⟨q, q1, q2, q3⟩ := g4 i hi; exact ⟨q, q1, q2⟩)) (fun h2 V R => ?_)
      have I2 := x_cp2 I e V R
      refine mq_Call.mono (kv_45 _ _ I2 ⟨rfl, trivial⟩) (fun v h3 ⟨I3, m3, er⟩ => ?_)
      have er : v = none := er
      subst er
      refine gq_i rfl ?_
      refine hq _ h3 I3 ?_ (by rw [m3.1, V.1]; omega) (by rw [m3.2.1, V.2.1]; omega) (Or.inr (Or.inl ⟨c, rfl, b, e, ?_, g1, fun a k z a1 a2 dm => ?_, fun a k z a1 => ?_⟩))
      · funext j
        exact (m3.2.2.2.2 0 j (by rw [show ck_lc 0 j = 0 from rfl]; decide)).trans (congrFun (V.2.2.2.2.1 0 (x_nd2 (Or.inl (by decide)))) j)
      · rw [m3.2.2.2.1, V.2.2.2.1 4 (by decide)]
        exact e
      · exact (m3.2.2.2.2 a k z).trans (x_vs2 V.2.2.2.2.2 a1 a2 dm)
      · exact (m3.2.2.2.2 a k z).trans (congrFun (V.2.2.2.2.1 a (x_nd2 (Or.inr (by omega)))) k)
  · cases e : mq_R h 4 5 with
    | none =>
      refine oq_n e ?_
      refine c_mkBook (b := mq_N h) (by rw [mq_sh_new, if_pos rfl]) (by omega) (by rw [mq_N_new]) (fun h1 n1 m1 k1 l1 t1 r1 y1 => ?_)
      have E : mq_mod 0 0 30 4004 h h1 := mq_mod.tn (n1 := 1) (z1 := 4) (mq_mod.nw (mq_mod.rf 0 0 h) _ (by decide) (by decide)) m1 (by omega) (by decide) (by decide)
      have I1 := x_Iv_ext E I
      refine k22 (mq_setR h1 4 5 (some (mq_N h))) (mq_N h) c (x_Im_sv I1 _) ?_ (by omega) (by show mq_N h + 30 ≤ mq_N h1; omega) (by rw [mq_R_setR, if_pos rfl, if_pos rfl]) ?_ (by show mq_N h1 ≤ _; omega) (by show mq_Z h1 ≤ _; have := E.2.2.2.1; omega)
      · have v2 : ∀ c, ¬ c = 4 → mq_R (mq_setR h1 4 5 (some (mq_N h))) c = mq_R h1 c := fun c hc => by funext j; rw [mq_R_setR, if_neg hc]
        unfold ok_B ok_P ok_C ok_A
        rw [v2 _ (by omega), v2 _ (by omega), v2 _ (by omega), v2 _ (by omega)]
        exact k1
      · intro a ha
        exact (E.2.2.2.2 a (by omega) (by omega)).2.1
    | some b =>
      refine oq_s e ?_
      obtain ⟨g1, g2, g3, g4, g5⟩ := I.2.2.2.2.2.2.2.2 b e
      exact k22 h b c (x_Im_of I) g3 g1 g2 e (fun _ _ => rfl) (by omega) (by omega)
end XV
