theorem whole_start {p : Program} {e : Env} {s : State} {m : MethodId} {below : List Frame} {meth : Method} {c : Code} (l : Launch) {b L : Nat} {xs : Nat → Int32} (hL : L ≤ 512) (C0 : lw_At p s m meth c b L xs) : W p l e room_1 s m #[Value.ref b] below meth c s.heap [] 0 0 (lw_Z below #[Value.ref b] s) (entryFrame m ([Value.ref b] : List Value).toArray 4) := by
  obtain ⟨a1, a2, a3⟩ := mq_rA_ok
  obtain ⟨b1, b2⟩ := mq_rB_ok
  exact mq_whole mq_okAll mq_okMs mq_codAll l C0 a1 a2 a3 b1 b2 (st_all b2 x_okIB y_okEB hL xs)
