section YZ
def y_okE (h : mq_H) : Bool := (decide (mq_I h 17 0 = mq_I h 59 9) && ((List.range 60).all (fun k => decide (mq_I h 25 k = mq_I h 71 k)) && (List.range 720).all (fun k => decide (mq_I h 29 k = mq_I h 75 k))))
theorem y_chkE : (match mq_rB with
  | some (none, h) => y_okE h
  | _ => false) = true := by decide +kernel
theorem y_okEB : y_okE mq_hB = true := by
  have h := y_chkE
  rw [mq_rB_ok.1] at h
  exact h
theorem y_start {hb : mq_H} (kb : mq_okB hb = true) (K : y_okE hb = true) (L : Nat) (xs : Nat → Int32) : y_G (mq_h0 hb L xs) := by
  obtain ⟨hN, hZ, hS, hI, hR⟩ := okB_facts kb
  have z1 : mq_R (mq_h0 hb L xs) 4 5 = none := hR (4, 5, none) (by decide +kernel)
  have z2 : mq_I (mq_h0 hb L xs) 59 69 = 0 := hI (59, 69, 0) (by decide +kernel)
  have z3 : mq_I (mq_h0 hb L xs) 59 9 = 0 := hI (59, 9, 0) (by decide +kernel)
  unfold y_okE at K
  simp only [Bool.and_eq_true] at K
  obtain ⟨k0, k1, k2⟩ := K
  have q0 : mq_I hb 17 0 = mq_I hb 59 9 := of_decide_eq_true k0
  have q1 : ∀ k, k < 60 → mq_I hb 25 k = mq_I hb 71 k := fun k hk => of_decide_eq_true (List.all_eq_true.mp k1 k (List.mem_range.mpr hk))
  have q2 : ∀ k, k < 720 → mq_I hb 29 k = mq_I hb 75 k := fun k hk => of_decide_eq_true (List.all_eq_true.mp k2 k (List.mem_range.mpr hk))
  exact ⟨⟨q0, q1, q2, (fun c _ hc _ => absurd (show (c : Int) < (mq_I (mq_h0 hb L xs) 59 9).toInt from hc) (by rw [z3]; show ¬ (c : Int) < 0; omega))⟩, fun _ => z2, fun s e => by rw [z1] at e; cases e⟩
theorem st_all {hb : mq_H} (kb : mq_okB hb = true) (K : x_okI hb = true) (K2 : y_okE hb = true) {L : Nat} (hL : L ≤ 512) (xs : Nat → Int32) : mq_At mq_G (mq_tT L) 232 18 [some (.retAddr 0), some (.retAddr 4), some (.retAddr 59), some (.int 0)] [] (mq_h0 hb L xs) (fun v h => v = some (.int 1) ∧ mq_N h ≤ 600000 ∧ mq_Z h ≤ 7302250) := by
  obtain ⟨hN, hZ, -⟩ := okB_facts kb
  exact lw_loop 65 0 0 _ (by decide) hL (by decide) (by decide) (x_start kb K L xs) (y_start kb K2 L xs) (by show mq_N hb ≤ _; rw [hN]; decide) (by show mq_Z hb ≤ _; rw [hZ]; decide)
end YZ
