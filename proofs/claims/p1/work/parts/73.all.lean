/-! THE LAW at p1, from its loop's head -/
section PL2
theorem okB_facts {h : mq_H} (hk : mq_okB h = true) : mq_N h = 100 ∧ mq_Z h = 34912 ∧ (∀ k, k < 100 → ∀ s, mq_tS1 k = some s → mq_sh h k = s) ∧ (∀ q ∈ mq_iT, mq_I h q.1 q.2.1 = q.2.2) ∧ (∀ q ∈ mq_rT, mq_R h q.1 q.2.1 = q.2.2) := by
  unfold mq_okB at hk
  simp only [Bool.and_eq_true] at hk
  obtain ⟨-, k1, k2, k3, -, k5, k6⟩ := hk
  refine ⟨Nat.eq_of_beq_eq_true k1, Nat.eq_of_beq_eq_true k2, fun k hk s hs => ?_, fun q hq => of_decide_eq_true (List.all_eq_true.mp k5 q hq), fun q hq => of_decide_eq_true (List.all_eq_true.mp k6 q hq)⟩
  have := List.all_eq_true.mp k3 k (List.mem_range.mpr hk)
  rw [hs] at this
  exact of_decide_eq_true this
theorem fr_C_0 {h : mq_H} (hk : mq_okB h = true) (L : Nat) (xs : Nat → Int32) : fr_C (mq_h0 h L xs) := by
  obtain ⟨hN, hZ, hS, hI, hR⟩ := okB_facts hk
  refine ⟨hI (5, 0, 0) (by decide +kernel), hI (17, 0, 0) (by decide +kernel), hI (6, 1, 0) (by decide +kernel), fun k hk => ?_, hI (35, 1, 0) (by decide +kernel), hI (35, 2, 0) (by decide +kernel), hI (35, 3, -1) (by decide +kernel), fun k hk => ?_, fun k hk => ?_, hR (4, 5, none) (by decide +kernel), hN, hS 14 (by decide) _ (by decide +kernel), hR (14, 0, some 16) (by decide +kernel), hS 16 (by decide) _ (by decide +kernel)⟩
  · exact hI (9, k, 0) ((by decide +kernel : ∀ k, k < 6 → (9, k, (0 : Int32)) ∈ mq_iT) k hk)
  · exact hI (31, k, -1) ((by decide +kernel : ∀ k, k < 6 → (31, k, (-1 : Int32)) ∈ mq_iT) k hk)
  · exact hR (13, k, some 14) ((by decide +kernel : ∀ k, k < 8 → (13, k, some 14) ∈ mq_rT) k hk)
theorem fr_M_0 {h : mq_H} (hk : mq_okB h = true) (L : Nat) (xs : Nat → Int32) : fr_M (mq_h0 h L xs) := by
  obtain ⟨hN, hZ, hS, hI, hR⟩ := okB_facts hk
  refine ⟨hI (59, 1, 0) (by decide +kernel), hI (59, 2, 0) (by decide +kernel), hI (59, 9, 0) (by decide +kernel), hI (59, 25, 0) (by decide +kernel), fun k hk => ?_, fun k hk => ?_, fun k hk => ?_, hI (59, 45, 0) (by decide +kernel), hI (59, 46, -1) (by decide +kernel), hI (59, 69, 0) (by decide +kernel), rfl⟩
  · exact hI (62, k, 0) ((by decide +kernel : ∀ k, k < 6 → (62, k, (0 : Int32)) ∈ mq_iT) k hk)
  · exact hI (82, k, 0) ((by decide +kernel : ∀ k, k < 9 → (82, k, (0 : Int32)) ∈ mq_iT) k hk)
  · exact hI (76, k, -1) ((by decide +kernel : ∀ k, k < 6 → (76, k, (-1 : Int32)) ∈ mq_iT) k hk)
theorem lw_all {h : mq_H} {L : Nat} (hL : L ≤ 8) (FC : fr_C h) (FM : fr_M h) (hN : mq_N h = 100) (hZ : mq_Z h ≤ 34912) : mq_At mq_G (mq_tT L) 231 18 [some (.retAddr 0), some (.retAddr 4), some (.retAddr 59), some (.int 0)] [] h mq_Q0 := by
  by_cases h8 : L = 8
  · subst h8
    apply mq_go 60 [33]
    refine gq_i rfl ?_
    refine bq_f (by decide) ?_
    refine gq_i rfl ?_
    apply mq_go 1 []
    refine bq_c (fun _ => lw_c0 FC FM hZ) (fun _ => ?_)
    refine bq_c (fun _ => lw_c1 FC FM hZ) (fun _ => ?_)
    refine bq_c (fun _ => lw_c2 FC FM hZ) (fun _ => ?_)
    refine bq_c (fun _ => lw_c3 FC FM hZ) (fun _ => ?_)
    refine bq_c (fun _ => lw_c4 FC FM hZ) (fun _ => ?_)
    refine bq_c (fun _ => lw_c5 FC FM hZ) (fun _ => ?_)
    refine bq_c (fun _ => lw_c6 FC FM hZ) (fun _ => ?_)
    refine bq_c (fun _ => lw_c7 FC FM hZ) (fun _ => ?_)
    refine bq_c (fun _ => lw_c8 FC FM hZ) (fun _ => ?_)
    refine bq_c (fun _ => lw_c9 FC FM hZ) (fun _ => ?_)
    refine bq_c (fun _ => lw_c10 FC FM hZ) (fun _ => ?_)
    refine bq_c (fun _ => lw_c11 FC FM hZ) (fun _ => ?_)
    refine bq_c (fun _ => lw_c12 FC FM hZ) (fun _ => ?_)
    refine bq_c (fun _ => lw_c13 FC FM hZ) (fun _ => ?_)
    refine bq_c (fun _ => lw_c14 FC FM hZ) (fun _ => ?_)
    refine bq_c (fun _ => lw_c15 FC FM hZ) (fun _ => ?_)
    refine bq_c (fun _ => lw_c16 FC FM hZ) (fun _ => ?_)
    refine bq_c (fun _ => lw_c17 FC FM hZ) (fun _ => ?_)
    refine bq_c (fun _ => lw_c18 FC FM hZ) (fun _ => ?_)
    refine bq_c (fun _ => lw_c19 FC FM hZ) (fun _ => ?_)
    refine bq_c (fun _ => lw_c20 FC FM hZ) (fun _ => ?_)
    refine bq_c (fun _ => lw_c21 FC FM hZ) (fun _ => ?_)
    refine bq_c (fun _ => lw_c22 FC FM hZ) (fun _ => ?_)
    refine bq_c (fun _ => lw_c23 FC FM hZ) (fun _ => ?_)
    refine bq_c (fun _ => lw_c24 FC FM hZ) (fun _ => ?_)
    exact lw_fin (by omega) (by omega)
  · apply mq_go 60 [27]
    refine gq_i rfl ?_
    refine bq_t ?_ ?_
    · show nI L - 8 < 0
      have : ∀ n, n < 8 → nI n - 8 < 0 := by decide +kernel
      exact this L (by omega)
    · refine gq_i rfl ?_
      exact ⟨rfl, by omega, by omega⟩
end PL2
