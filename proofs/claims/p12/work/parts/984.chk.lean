/-! THE START: every place as it must be -/
section XZ
theorem okB_facts {h : mq_H} (hk : mq_okB h = true) : mq_N h = 100 ∧ mq_Z h = 34912 ∧ (∀ k, k < 100 → ∀ s, mq_tS1 k = some s → mq_sh h k = s) ∧ (∀ q ∈ mq_iT, mq_I h q.1 q.2.1 = q.2.2) ∧ (∀ q ∈ mq_rT, mq_R h q.1 q.2.1 = q.2.2) := by
  unfold mq_okB at hk
  simp only [Bool.and_eq_true] at hk
  obtain ⟨-, k1, k2, k3, -, k5, k6⟩ := hk
  refine ⟨Nat.eq_of_beq_eq_true k1, Nat.eq_of_beq_eq_true k2, fun k hk s hs => ?_, fun q hq => of_decide_eq_true (List.all_eq_true.mp k5 q hq), fun q hq => of_decide_eq_true (List.all_eq_true.mp k6 q hq)⟩
  have := List.all_eq_true.mp k3 k (List.mem_range.mpr hk)
  rw [hs] at this
  exact of_decide_eq_true this
theorem x_ivk_0 {a : Nat} (j : Nat) (h1 : 0 ≤ a) (h2 : a < 10) : ck_ivo a (j + 80) = none := by
  have q : a = 0 ∨ a = 1 ∨ a = 2 ∨ a = 3 ∨ a = 4 ∨ a = 5 ∨ a = 6 ∨ a = 7 ∨ a = 8 ∨ a = 9 := by omega
  rcases q with rfl | rfl | rfl | rfl | rfl | rfl | rfl | rfl | rfl | rfl
  · rfl
  · rfl
  · rfl
  · rfl
  · rfl
  · rfl
  · rfl
  · rfl
  · rfl
  · rfl
theorem x_ivk_1 {a : Nat} (j : Nat) (h1 : 10 ≤ a) (h2 : a < 20) : ck_ivo a (j + 80) = none := by
  have q : a = 10 ∨ a = 11 ∨ a = 12 ∨ a = 13 ∨ a = 14 ∨ a = 15 ∨ a = 16 ∨ a = 17 ∨ a = 18 ∨ a = 19 := by omega
  rcases q with rfl | rfl | rfl | rfl | rfl | rfl | rfl | rfl | rfl | rfl
  · rfl
  · rfl
  · rfl
  · rfl
  · rfl
  · rfl
  · rfl
  · rfl
  · rfl
  · rfl
theorem x_ivk_2 {a : Nat} (j : Nat) (h1 : 20 ≤ a) (h2 : a < 30) : ck_ivo a (j + 80) = none := by
  have q : a = 20 ∨ a = 21 ∨ a = 22 ∨ a = 23 ∨ a = 24 ∨ a = 25 ∨ a = 26 ∨ a = 27 ∨ a = 28 ∨ a = 29 := by omega
  rcases q with rfl | rfl | rfl | rfl | rfl | rfl | rfl | rfl | rfl | rfl
  · rfl
  · rfl
  · rfl
  · rfl
  · rfl
  · rfl
  · rfl
  · rfl
  · rfl
  · rfl
theorem x_ivk_3 {a : Nat} (j : Nat) (h1 : 30 ≤ a) (h2 : a < 40) : ck_ivo a (j + 80) = none := by
  have q : a = 30 ∨ a = 31 ∨ a = 32 ∨ a = 33 ∨ a = 34 ∨ a = 35 ∨ a = 36 ∨ a = 37 ∨ a = 38 ∨ a = 39 := by omega
  rcases q with rfl | rfl | rfl | rfl | rfl | rfl | rfl | rfl | rfl | rfl
  · rfl
  · rfl
  · rfl
  · rfl
  · rfl
  · rfl
  · rfl
  · rfl
  · rfl
  · rfl
theorem x_ivk_4 {a : Nat} (j : Nat) (h1 : 40 ≤ a) (h2 : a < 50) : ck_ivo a (j + 80) = none := by
  have q : a = 40 ∨ a = 41 ∨ a = 42 ∨ a = 43 ∨ a = 44 ∨ a = 45 ∨ a = 46 ∨ a = 47 ∨ a = 48 ∨ a = 49 := by omega
  rcases q with rfl | rfl | rfl | rfl | rfl | rfl | rfl | rfl | rfl | rfl
  · rfl
  · rfl
  · rfl
  · rfl
  · rfl
  · rfl
  · rfl
  · rfl
  · rfl
  · rfl
theorem x_ivk_5 {a : Nat} (j : Nat) (h1 : 50 ≤ a) (h2 : a < 60) : ck_ivo a (j + 80) = none := by
  have q : a = 50 ∨ a = 51 ∨ a = 52 ∨ a = 53 ∨ a = 54 ∨ a = 55 ∨ a = 56 ∨ a = 57 ∨ a = 58 ∨ a = 59 := by omega
  rcases q with rfl | rfl | rfl | rfl | rfl | rfl | rfl | rfl | rfl | rfl
  · rfl
  · rfl
  · rfl
  · rfl
  · rfl
  · rfl
  · rfl
  · rfl
  · rfl
  · rfl
theorem x_ivk_6 {a : Nat} (j : Nat) (h1 : 60 ≤ a) (h2 : a < 70) : ck_ivo a (j + 80) = none := by
  have q : a = 60 ∨ a = 61 ∨ a = 62 ∨ a = 63 ∨ a = 64 ∨ a = 65 ∨ a = 66 ∨ a = 67 ∨ a = 68 ∨ a = 69 := by omega
  rcases q with rfl | rfl | rfl | rfl | rfl | rfl | rfl | rfl | rfl | rfl
  · rfl
  · rfl
  · rfl
  · rfl
  · rfl
  · rfl
  · rfl
  · rfl
  · rfl
  · rfl
theorem x_ivk_7 {a : Nat} (j : Nat) (h1 : 70 ≤ a) (h2 : a < 80) : ck_ivo a (j + 80) = none := by
  have q : a = 70 ∨ a = 71 ∨ a = 72 ∨ a = 73 ∨ a = 74 ∨ a = 75 ∨ a = 76 ∨ a = 77 ∨ a = 78 ∨ a = 79 := by omega
  rcases q with rfl | rfl | rfl | rfl | rfl | rfl | rfl | rfl | rfl | rfl
  · rfl
  · rfl
  · rfl
  · rfl
  · rfl
  · rfl
  · rfl
  · rfl
  · rfl
  · rfl
theorem x_ivk_8 {a : Nat} (j : Nat) (h1 : 80 ≤ a) (h2 : a < 90) : ck_ivo a (j + 80) = none := by
  have q : a = 80 ∨ a = 81 ∨ a = 82 ∨ a = 83 ∨ a = 84 ∨ a = 85 ∨ a = 86 ∨ a = 87 ∨ a = 88 ∨ a = 89 := by omega
  rcases q with rfl | rfl | rfl | rfl | rfl | rfl | rfl | rfl | rfl | rfl
  · rfl
  · rfl
  · rfl
  · rfl
  · rfl
  · rfl
  · rfl
  · rfl
  · rfl
  · rfl
theorem x_ivk_9 {a : Nat} (j : Nat) (h1 : 90 ≤ a) (h2 : a < 100) : ck_ivo a (j + 80) = none := by
  have q : a = 90 ∨ a = 91 ∨ a = 92 ∨ a = 93 ∨ a = 94 ∨ a = 95 ∨ a = 96 ∨ a = 97 ∨ a = 98 ∨ a = 99 := by omega
  rcases q with rfl | rfl | rfl | rfl | rfl | rfl | rfl | rfl | rfl | rfl
  · rfl
  · rfl
  · rfl
  · rfl
  · rfl
  · rfl
  · rfl
  · rfl
  · rfl
  · rfl
theorem x_ivo_k {a k : Nat} {l u : Int} (e : ck_ivo a k = some (l, u)) : k < 80 := by
  rcases Nat.lt_or_ge k 80 with q | q
  · exact q
  · exfalso
    have ek : k = k - 80 + 80 := by omega
    have ha := x_ivo_lt e
    rw [ek] at e
    have z : ck_ivo a (k - 80 + 80) = none := by
      rcases Nat.lt_or_ge a 10 with g0 | g0
      · exact x_ivk_0 _ (by omega) (by omega)
      rcases Nat.lt_or_ge a 20 with g1 | g1
      · exact x_ivk_1 _ (by omega) (by omega)
      rcases Nat.lt_or_ge a 30 with g2 | g2
      · exact x_ivk_2 _ (by omega) (by omega)
      rcases Nat.lt_or_ge a 40 with g3 | g3
      · exact x_ivk_3 _ (by omega) (by omega)
      rcases Nat.lt_or_ge a 50 with g4 | g4
      · exact x_ivk_4 _ (by omega) (by omega)
      rcases Nat.lt_or_ge a 60 with g5 | g5
      · exact x_ivk_5 _ (by omega) (by omega)
      rcases Nat.lt_or_ge a 70 with g6 | g6
      · exact x_ivk_6 _ (by omega) (by omega)
      rcases Nat.lt_or_ge a 80 with g7 | g7
      · exact x_ivk_7 _ (by omega) (by omega)
      rcases Nat.lt_or_ge a 90 with g8 | g8
      · exact x_ivk_8 _ (by omega) (by omega)
      exact x_ivk_9 _ (by omega) (by omega)
    rw [z] at e
    cases e
def x_okI (h : mq_H) : Bool := (List.range 100).all (fun a => (List.range 80).all (fun k => match ck_ivo a k with
  | some (l, u) => decide (l ≤ (mq_I h a k).toInt ∧ (mq_I h a k).toInt ≤ u)
  | none => true)) && ((List.range 100).all (fun a => match ck_iva a with
  | some (n, l, u) => (decide (l = -2147483648) && decide (u = 2147483647)) || (List.range n).all (fun k => decide (l ≤ (mq_I h a k).toInt ∧ (mq_I h a k).toInt ≤ u))
  | none => true) && ((List.range 148).all (fun k => decide (mq_I h 81 k = x_w k)) && (List.range 16).all (fun i => decide (mq_R h 16 i = none))))
theorem x_chkI : (match mq_rB with
  | some (none, h) => x_okI h
  | _ => false) = true := by decide +kernel
theorem x_okIB : x_okI mq_hB = true := by
  have h := x_chkI
  rw [mq_rB_ok.1] at h
  exact h
end XZ
