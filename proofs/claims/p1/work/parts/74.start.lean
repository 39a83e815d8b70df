theorem st_N {h : mq_H} (hk : mq_okB h = true) (L : Nat) (xs : Nat → Int32) : mq_N (mq_h0 h L xs) = 100 := (okB_facts hk).1
theorem st_Z {h : mq_H} (hk : mq_okB h = true) (L : Nat) (xs : Nat → Int32) : mq_Z (mq_h0 h L xs) ≤ 34912 := Nat.le_of_eq (okB_facts hk).2.1
theorem st_all {h : mq_H} (hk : mq_okB h = true) {L : Nat} (hL : L ≤ 8) (xs : Nat → Int32) : mq_At mq_G (mq_tT L) 231 18 [some (.retAddr 0), some (.retAddr 4), some (.retAddr 59), some (.int 0)] [] (mq_h0 h L xs) (fun v h => v = some (.int 1) ∧ mq_N h ≤ 600000 ∧ mq_Z h ≤ 7302249) := lw_all hL (fr_C_0 hk L xs) (fr_M_0 hk L xs) (st_N hk L xs) (st_Z hk L xs)
theorem whole_start {p : Program} {e : Env} {s : State} {m : MethodId} {below : List Frame} {meth : Method} {c : Code} (l : Launch) {b L : Nat} {xs : Nat → Int32} (hL : L ≤ 8) (C0 : lw_At p s m meth c b L xs) : W p l e room_1 s m #[Value.ref b] below meth c s.heap [] 0 0 (lw_Z below #[Value.ref b] s) (entryFrame m ([Value.ref b] : List Value).toArray 4) := by
  obtain ⟨a1, a2, a3⟩ := mq_rA_ok
  obtain ⟨b1, b2⟩ := mq_rB_ok
  exact mq_whole mq_okAll mq_okMs mq_codAll l C0 a1 a2 a3 b1 b2 (st_all b2 hL xs)
