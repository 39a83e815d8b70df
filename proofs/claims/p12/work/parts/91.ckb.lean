/-! THE CHECKER, 12: calls and loops -/
section CKB
variable {X : mq_H → Prop} {M sup lL : Nat} {h0 h : mq_H} {r : List Value} {m pc nx a b c j : Nat} {kk : Int32} {A S : List ck_A} {Z : ck_Z} {L : mq_L} {st : List Value}
theorem ck_pop_ok : ∀ (n : Nat) {S acc P R : List ck_A} {st accV : List Value}, ck_rS h0 r S st → ck_rS h0 r acc accV → ck_pop n S acc = some (P, R) → ∃ as V, mq_pop n st accV = some (as, V) ∧ ck_rS h0 r P as ∧ ck_rS h0 r R V
  | 0, _, _, _, _, st, accV, h1, h2, e => by cases e; exact ⟨accV, st, rfl, h2, h1⟩
  | n + 1, [], _, _, _, _, _, _, _, e => by cases e
  | n + 1, v :: S, acc, P, R, st, accV, h1, h2, e => by
    obtain ⟨w, V, rfl, k1, k2⟩ := h1.cons
    exact ck_pop_ok n (acc := v :: acc) (accV := w :: accV) k2 ⟨k1, h2⟩ e
theorem ck_cl_ok {ins : Instr} {P R : List ck_A} (H : ck_cl ins a b c S = some (P, R)) (RS : ck_rS h0 r S st) : ∃ as V, mq_step (mq_tT lL) ins pc nx a b c kk L st h = mq_cx none a as V nx ∧ ck_rS h0 r P as ∧ ck_rS h0 r R V := by
  unfold ck_cl at H
  cases ta : Nat.ble 1000 a with
  | true => rw [ta] at H; cases H
  | false =>
    rw [ta] at H
    have hlt : a < 1000 := by
      rcases Nat.lt_or_ge a 1000 with q | q
      · exact q
      · rw [Nat.ble_eq_true_of_le q] at ta; cases ta
    have ne : ∀ k, 1000 ≤ k → Nat.beq a k = false := fun k hk => by
      cases t : Nat.beq a k with
      | false => rfl
      | true => have := Nat.eq_of_beq_eq_true t; omega
    simp only [cond_false] at H
    split at H
    · split at H
      · rename_i P' R' hp
        cases t : Nat.ble (ck_cat R') 8 with
        | false => rw [t] at H; cases H
        | true =>
          rw [t] at H
          cases H
          obtain ⟨as, V, e1, e2, e3⟩ := ck_pop_ok b (acc := []) (accV := []) RS trivial hp
          refine ⟨as, V, ?_, e2, e3⟩
          show (bif Nat.beq a 1000 then mq_copy (mq_tT lL) h b nx L st else (bif Nat.beq a 1002 then mq_mx nx L st h else (bif Nat.beq a 1003 then mq_mi nx L st h else mq_ivS a b nx st))) = _
          rw [ne 1000 (by omega), ne 1002 (by omega), ne 1003 (by omega)]
          simp only [cond_false]
          unfold mq_ivS
          rw [e1]
          dsimp only
          rw [ck_rem2 e3]
          have t : Nat.ble (R.foldr (fun v n => ck_ct v + n) 0) 8 = true := t
          rw [t]
          rfl
      · cases H
    · split at H
      · rename_i P' v R' hp
        cases t : Nat.beq v.1 3 && Nat.ble (ck_cat R') 8 with
        | false => rw [t] at H; cases H
        | true =>
          rw [t] at H
          rw [Bool.and_eq_true] at t
          cases H
          obtain ⟨as, V, e1, e2, e3⟩ := ck_pop_ok b (acc := []) (accV := []) RS trivial hp
          obtain ⟨w, V, rfl, e4, e5⟩ := e3.cons
          have := ck_rl3 t.1 e4
          subst this
          refine ⟨.retAddr v.2.1 :: as, V, ?_, ⟨e4, e2⟩, e5⟩
          show (bif Nat.beq a 1001 then _ else mq_ivI a b nx st) = _
          rw [ne 1001 (by omega)]
          simp only [cond_false]
          unfold mq_ivI
          rw [e1]
          dsimp only
          rw [ck_rem2 e5]
          have t : Nat.ble (R.foldr (fun v n => ck_ct v + n) 0) 8 = true := t.2
          rw [t]
          rfl
      · cases H
    · split at H
      · rename_i P' v R' hp
        cases t : Nat.beq v.1 3 && Nat.ble (ck_cat R') 8 with
        | false => rw [t] at H; cases H
        | true =>
          rw [t] at H
          rw [Bool.and_eq_true] at t
          simp only [cond_true] at H
          split at H
          · rename_i ci hT
            cases hc : Nat.beq ci c with
            | false => rw [hc] at H; cases H
            | true =>
              rw [hc] at H
              have hc := Nat.eq_of_beq_eq_true hc
              cases H
              obtain ⟨as, V, e1, e2, e3⟩ := ck_pop_ok b (acc := []) (accV := []) RS trivial hp
              obtain ⟨w, V, rfl, e4, e5⟩ := e3.cons
              have := ck_rl3 t.1 e4
              subst this
              refine ⟨.retAddr v.2.1 :: as, V, ?_, ⟨e4, e2⟩, e5⟩
              show (bif Nat.ble 1004 a then _ else mq_ivV (mq_tT lL) h a b c nx st) = _
              rw [show Nat.ble 1004 a = false by
                cases hz : Nat.ble 1004 a with
                | false => rfl
                | true => have := Nat.le_of_ble_eq_true hz; omega]
              simp only [cond_false]
              unfold mq_ivV
              rw [e1]
              dsimp only
              rw [← hc, ck_obS (ck_tS hT)]
              dsimp only
              rw [ck_rem2 e5]
              have t : Nat.ble (R.foldr (fun v n => ck_ct v + n) 0) 8 = true := t.2
              rw [t]
              rfl
          · cases H
      · cases H
    · cases H
theorem ck_en_ok : ∀ {P : List ck_A} {as : List Value} (n : Nat), ck_rS h0 r P as → ck_rL h0 r (ck_en P n) (mq_en as n)
  | [], [], n, _ => ⟨by unfold ck_en mq_en; simp, fun i v hv => by
      unfold ck_en at hv
      rw [List.getElem?_replicate] at hv
      split at hv
      · cases hv; exact Or.inl rfl
      · cases hv⟩
  | v :: P, w :: as, n, H => by
    have hc := ck_ct_ok H.1
    unfold ck_en mq_en
    rw [hc]
    unfold ck_ct
    cases t : Nat.beq v.1 4 with
    | true =>
      have ih := ck_en_ok (n - 2) H.2
      refine ⟨by simp only [cond_true]; show _ + 1 + 1 = _ + 1 + 1; rw [ih.1], fun i u hu => ?_⟩
      match i with
      | 0 => cases hu; exact Or.inr ⟨w, rfl, H.1⟩
      | 1 => cases hu; exact Or.inl rfl
      | i + 2 => exact ih.2 i u hu
    | false =>
      have ih := ck_en_ok (n - 1) H.2
      refine ⟨by simp only [cond_false]; show _ + 1 = _ + 1; rw [ih.1], fun i u hu => ?_⟩
      match i with
      | 0 => cases hu; exact Or.inr ⟨w, rfl, H.1⟩
      | i + 1 => exact ih.2 i u hu
theorem ck_fp_ok {v : ck_A} {p : ck_Ps} {w : Value} (H : ck_fp Z v p = true) (G : ck_g h0 r h Z) (md : ck_md M h0 h) (b0 : Nat.testBit M 0 = false) (e : ck_rl h0 r v w) : ck_pv h p w := by
  unfold ck_fp at H
  unfold ck_pv
  split at H
  · rename_i t
    try rw [t]
    simp only [Bool.and_eq_true, decide_eq_true_eq] at H
    obtain ⟨x, rfl, e⟩ := ck_isI_in H.1 e
    have := ck_r_ok G e
    exact ⟨x, rfl, by omega, by omega⟩
  · rename_i t
    try rw [t]
    rw [Bool.and_eq_true] at H
    rw [ck_rl3 H.1 e, Nat.eq_of_beq_eq_true H.2]
  · rename_i t
    try rw [t]
    exact ck_isJ_in H e
  · rename_i t
    try rw [t]
    rw [Bool.and_eq_true] at H
    obtain ⟨-, q, rfl, P⟩ := ck_rl5 H.1 e
    have e : v.2.2 = p.2.2.1 := of_decide_eq_true H.2
    rw [e] at P
    exact ⟨q, rfl, P.md md b0⟩
  · cases H
theorem ck_fps_ok (G : ck_g h0 r h Z) (md : ck_md M h0 h) (b0 : Nat.testBit M 0 = false) : ∀ {A : List ck_A} {P : List ck_Ps} {V : List Value}, ck_fps Z A P = true → ck_rS h0 r A V → ck_pvs h P V
  | [], [], [], _, _ => trivial
  | a :: A, p :: P, v :: V, H, K => by
    unfold ck_fps at H
    rw [Bool.and_eq_true] at H
    exact ⟨ck_fp_ok H.1 G md b0 K.1, ck_fps_ok G md b0 H.2 K.2⟩
  | [], _ :: _, _, H, _ => by cases H
  | _ :: _, [], _, H, _ => by cases H
theorem ck_sub_of {Md M : Nat} (H : Nat.beq (Nat.land Md M) Md = true) (i : Nat) (hi : Nat.testBit M i = false) : Nat.testBit Md i = false := by
  have e : Md &&& M = Md := Nat.eq_of_beq_eq_true H
  rw [← e, Nat.testBit_and, hi, Bool.and_false]
theorem ck_afc {h' : mq_H} {Md : Nat} (G : ck_g h0 r h Z) (md : ck_md Md h h') (b0 : Nat.testBit Md 0 = false) : ck_g h0 r h' (ck_kl (ck_km Md) Z) := by
  refine ck_kl_ok G (fun k v hp H => ?_)
  unfold ck_km at hp
  rw [Bool.or_eq_false_iff] at hp
  refine H.ch md.2.2.1 md.2.2.2.1 ?_ ?_ ?_
  · intro e
    have := hp.1
    rw [e] at this
    exact md.2.2.2.2 _ _ (by simpa using this)
  · intro e i
    have := hp.2
    rw [e] at this
    simp only [Nat.beq_refl, Bool.true_and, Bool.or_eq_false_iff] at this
    refine md.2.2.2.2 _ _ ?_
    unfold ck_lc
    rw [this.1]
    exact this.2
  · intro q hq i
    exact md.2.2.2.2 _ _ (by rw [hq i]; exact b0)
/-! loops -/
def ck_vs : List ck_It → mq_L → mq_H → List Value
  | [], _, _ => []
  | (0, i, _, _, _) :: r, L, h => ((L[i]?).getD none).getD .null :: ck_vs r L h
  | (1, i, _, _, _) :: r, L, h => ((L[i]?).getD none).getD .null :: ck_vs r L h
  | (2, _, _, _, _) :: r, L, h => ck_vs r L h
  | (_ + 3, a, k, _, _) :: r, L, h => .int (mq_I h a k) :: ck_vs r L h
def ck_oi (L : mq_L) (h : mq_H) (q : ck_It) : Prop := match q.1 with
  | 0 => ∃ x : Int32, L[q.2.1]? = some (some (.int x)) ∧ q.2.2.2.1 ≤ x.toInt ∧ x.toInt ≤ q.2.2.2.2
  | 1 => ∃ x : Int64, L[q.2.1]? = some (some (.long x))
  | 2 => True
  | _ => q.2.2.2.1 ≤ (mq_I h q.2.1 q.2.2.1).toInt ∧ (mq_I h q.2.1 q.2.2.1).toInt ≤ q.2.2.2.2
def ck_wA (h0 : mq_H) (rb : List Value) (its : List ck_It) (A : List ck_A) (L : mq_L) : Prop := A.length = L.length ∧ ∀ (i : Nat) (v : ck_A), A[i]? = some v → v.1 = 0 ∨ (∃ w : Value, L[i]? = some (some w) ∧ ck_rl h0 rb v w) ∨ ∃ q ∈ its, q.1 ≤ 2 ∧ q.2.1 = i
def ck_wH (h0 : mq_H) (rb : List Value) (h : mq_H) (its : List ck_It) (H : ck_Hs) : Prop := ∀ e ∈ H, ck_pl h0 rb h e.1 e.2 ∨ ∃ q ∈ its, 3 ≤ q.1 ∧ e.1 = (0, q.2.1, (0, q.2.2.1, 0))
theorem ck_wA.set {rb : List Value} {q : ck_It} {its : List ck_It} (W : ck_wA h0 rb (q :: its) A L) {v : ck_A} {t : List Value} (hq : q.1 ≤ 2) (hv : v.1 = 0 ∨ ∃ w : Value, L[q.2.1]? = some (some w) ∧ ck_rl h0 (rb ++ t) v w) : ck_wA h0 (rb ++ t) its (A.set q.2.1 v) L := by
  refine ⟨by simp [W.1], fun i u hu => ?_⟩
  rw [List.getElem?_set] at hu
  split at hu
  · rename_i e
    subst e
    split at hu
    · cases hu
      rcases hv with z | z
      · exact Or.inl z
      · exact Or.inr (Or.inl z)
    · cases hu
  · rename_i e
    rcases W.2 i u hu with z | ⟨w, z1, z2⟩ | ⟨q', z1, z2, z3⟩
    · exact Or.inl z
    · exact Or.inr (Or.inl ⟨w, z1, z2.ex ⟨t, rfl⟩⟩)
    · rcases List.mem_cons.mp z1 with rfl | z1
      · exact absurd z3 e
      · exact Or.inr (Or.inr ⟨q', z1, z2, z3⟩)
theorem ck_wA.skip {rb : List Value} {q : ck_It} {its : List ck_It} (W : ck_wA h0 rb (q :: its) A L) (t : List Value) (hq : ¬ q.1 ≤ 2) : ck_wA h0 (rb ++ t) its A L := ⟨W.1, fun i u hu => by
  rcases W.2 i u hu with z | ⟨w, z1, z2⟩ | ⟨q', z1, z2, z3⟩
  · exact Or.inl z
  · exact Or.inr (Or.inl ⟨w, z1, z2.ex ⟨t, rfl⟩⟩)
  · rcases List.mem_cons.mp z1 with rfl | z1
    · exact absurd z2 hq
    · exact Or.inr (Or.inr ⟨q', z1, z2, z3⟩)⟩
theorem ck_wH.skip {rb : List Value} {q : ck_It} {its : List ck_It} {H : ck_Hs} (W : ck_wH h0 rb h (q :: its) H) (t : List Value) (hq : ¬ 3 ≤ q.1) : ck_wH h0 (rb ++ t) h its H := fun e he => by
  rcases W e he with z | ⟨q', z1, z2, z3⟩
  · exact Or.inl (z.ex ⟨t, rfl⟩)
  · rcases List.mem_cons.mp z1 with rfl | z1
    · exact absurd z2 hq
    · exact Or.inr ⟨q', z1, z2, z3⟩
theorem ck_hv_ok : ∀ (its : List ck_It) (n : Nat) (A : List ck_A) (H : ck_Hs) (rb : List Value), rb.length = n → ck_wA h0 rb its A L → ck_wH h0 rb h its H → (∀ q ∈ its, ck_oi L h q) → (rb ++ ck_vs its L h).length = (ck_hv its n A H).1 ∧ ck_rL h0 (rb ++ ck_vs its L h) (ck_hv its n A H).2.1 L ∧ ck_fF (rb ++ ck_vs its L h) (ck_hv its n A H).2.2.1 ∧ ck_fH h0 (rb ++ ck_vs its L h) h (ck_hv its n A H).2.2.2
  | [], n, A, H, rb, hn, WA, WH, _ => by
    unfold ck_vs ck_hv
    rw [List.append_nil]
    refine ⟨hn, ⟨WA.1, fun i v hv => ?_⟩, (fun q hq => by cases hq), fun e he => ?_⟩
    · rcases WA.2 i v hv with z | z | ⟨q, z, -⟩
      · exact Or.inl z
      · exact Or.inr z
      · cases z
    · rcases WH e he with z | ⟨q, z, -⟩
      · exact z
      · cases z
  | (0, i, k, l, u) :: its, n, A, H, rb, hn, WA, WH, hi => by
    obtain ⟨x, hx, hl, hu⟩ := hi _ List.mem_cons_self
    dsimp only at hx hl hu
    have ev : ck_vs ((0, i, k, l, u) :: its) L h = .int x :: ck_vs its L h := by
      show ((L[i]?).getD none).getD .null :: _ = _
      rw [hx]; rfl
    have en := ck_at_n hn (.int x)
    obtain ⟨a1, a2, a3, a4⟩ := ck_hv_ok its (n + 1) (A.set i (1, n, 0)) H (rb ++ [.int x]) (by simp [hn]) (WA.set (q := (0, i, k, l, u)) (by simp) (Or.inr ⟨.int x, hx, x, x, en, rfl, by simp⟩)) (WH.skip _ (by simp)) (fun q hq => hi q (List.mem_cons_of_mem _ hq))
    rw [ev]
    have ea : rb ++ .int x :: ck_vs its L h = rb ++ [.int x] ++ ck_vs its L h := by simp
    rw [ea]
    refine ⟨a1, a2, ?_, a4⟩
    intro q hq
    rcases List.mem_cons.mp hq with rfl | hq
    · exact ⟨x, (ck_ex.get ⟨_, rfl⟩ en), hl, hu⟩
    · exact a3 q hq
  | (1, i, k, l, u) :: its, n, A, H, rb, hn, WA, WH, hi => by
    obtain ⟨x, hx⟩ := hi _ List.mem_cons_self
    dsimp only at hx
    have ev : ck_vs ((1, i, k, l, u) :: its) L h = .long x :: ck_vs its L h := by
      show ((L[i]?).getD none).getD .null :: _ = _
      rw [hx]; rfl
    have en := ck_at_n hn (.long x)
    obtain ⟨a1, a2, a3, a4⟩ := ck_hv_ok its (n + 1) (A.set i (4, n, 0)) H (rb ++ [.long x]) (by simp [hn]) (WA.set (q := (1, i, k, l, u)) (by simp) (Or.inr ⟨.long x, hx, en, x, rfl⟩)) (WH.skip _ (by simp)) (fun q hq => hi q (List.mem_cons_of_mem _ hq))
    rw [ev]
    have ea : rb ++ .long x :: ck_vs its L h = rb ++ [.long x] ++ ck_vs its L h := by simp
    rw [ea]
    exact ⟨a1, a2, a3, a4⟩
  | (2, i, k, l, u) :: its, n, A, H, rb, hn, WA, WH, hi => by
    have h1 := WA.set (q := (2, i, k, l, u)) (v := (0, 0, 0)) (t := []) (by simp) (Or.inl rfl)
    have h2 := WH.skip [] (by simp)
    rw [List.append_nil] at h1 h2
    exact ck_hv_ok its n (A.set i (0, 0, 0)) H rb hn h1 h2 (fun q hq => hi q (List.mem_cons_of_mem _ hq))
  | (t + 3, a, k, l, u) :: its, n, A, H, rb, hn, WA, WH, hi => by
    obtain ⟨hl, hu⟩ := hi _ List.mem_cons_self
    dsimp only at hl hu
    have en := ck_at_n hn (.int (mq_I h a k))
    obtain ⟨a1, a2, a3, a4⟩ := ck_hv_ok its (n + 1) A (((0, a, (0, k, 0)), (1, n, 0)) :: H.filter (fun q => !(ck_ke q.1 (0, a, (0, k, 0))))) (rb ++ [.int (mq_I h a k)]) (by simp [hn]) (WA.skip _ (by simp)) (by
      intro e he
      rcases List.mem_cons.mp he with rfl | he
      · exact Or.inl ⟨_, _, en, rfl, by simp⟩
      · obtain ⟨he, hne⟩ := List.mem_filter.mp he
        rcases WH e he with z | ⟨q', z1, z2, z3⟩
        · exact Or.inl (z.ex (ck_ex.one _ _))
        · rcases List.mem_cons.mp z1 with rfl | z1
          · exfalso
            rw [z3] at hne
            simp [ck_ke, ck_ae, ck_ie, Nat.beq_refl] at hne
          · exact Or.inr ⟨q', z1, z2, z3⟩) (fun q hq => hi q (List.mem_cons_of_mem _ hq))
    have ev : ck_vs ((t + 3, a, k, l, u) :: its) L h = .int (mq_I h a k) :: ck_vs its L h := rfl
    rw [ev]
    have ea : rb ++ .int (mq_I h a k) :: ck_vs its L h = rb ++ [.int (mq_I h a k)] ++ ck_vs its L h := by simp
    rw [ea]
    refine ⟨a1, a2, ?_, a4⟩
    intro q hq
    rcases List.mem_cons.mp hq with rfl | hq
    · exact ⟨_, (ck_ex.get ⟨_, rfl⟩ en), hl, hu⟩
    · exact a3 q hq
/-- a place of the heap's, told under fewer symbols -/
theorem ck_pl.back {ha : mq_H} {r0 : List Value} {k : ck_K} {v : ck_A} (H0 : ck_pl h0 r0 ha k v) (ex : ck_ex r0 r) (H : ck_pl h0 r h k v) : ck_pl h0 r0 h k v := by
  unfold ck_pl at H0 H ⊢
  split at H0
  · rename_i e; rw [e] at H
    have := ck_rl.fn (H0.ex ex) H
    rw [← this]; exact H0
  · rename_i e; rw [e] at H
    obtain ⟨i, a, b⟩ := H0
    obtain ⟨i', a', b'⟩ := H
    have := ck_rl.fn (a.ex ex) a'
    cases this
    have := ck_rl.fn (b.ex ex) b'
    exact ⟨i, a, by rw [← this]; exact b⟩
  · rename_i e; rw [e] at H
    obtain ⟨q, a, b, c⟩ := H0
    obtain ⟨q', a', b', c'⟩ := H
    have := ex.get a
    rw [this] at a'; cases a'
    have := ck_rl.fn (c.ex ex) c'
    exact ⟨q, a, b, by rw [← this]; exact c⟩
  · rename_i e; rw [e] at H
    obtain ⟨q, a, c⟩ := H0
    obtain ⟨q', a', c'⟩ := H
    have := ex.get a
    rw [this] at a'; cases a'
    have := ck_rl.fn (c.ex ex) c'
    exact ⟨q, a, by rw [← this]; exact c⟩
  · rename_i e; rw [e] at H
    obtain ⟨q, b, a, c, d⟩ := H0
    obtain ⟨q', b', a', c', d'⟩ := H
    have := ex.get a
    rw [this] at a'; cases a'
    have := ck_rl.fn (d.ex ex) d'
    cases this
    exact ⟨q, b, a, c', d⟩
  · exact H0.elim
theorem ck_ft_oi {B : ck_B} (H : B.1.all (ck_fi Z A) = true) (G : ck_g h0 r h Z) (RL : ck_rL h0 r A L) : ∀ q ∈ B.1, ck_oi L h q := by
  intro q hq
  have hf := List.all_eq_true.mp H q hq
  unfold ck_fi at hf
  unfold ck_oi
  split at hf
  · rename_i t
    rw [t]
    split at hf
    · rename_i v hv
      simp only [Bool.and_eq_true, decide_eq_true_eq] at hf
      rcases RL.2 _ _ hv with z | ⟨w, z1, z2⟩
      · exfalso
        have := hf.1
        unfold ck_isI at this
        rw [z] at this
        cases this
      · obtain ⟨x, rfl, e⟩ := ck_isI_in hf.1 z2
        have := ck_r_ok G e
        exact ⟨x, z1, by omega, by omega⟩
    · cases hf
  · rename_i t
    rw [t]
    split at hf
    · rename_i v hv
      rcases RL.2 _ _ hv with z | ⟨w, z1, z2⟩
      · rw [z] at hf; cases hf
      · obtain ⟨x, rfl⟩ := ck_isJ_in hf z2
        exact ⟨x, z1⟩
    · cases hf
  · rename_i t
    rw [t]
    trivial
  · rename_i t0 t1 t2
    split at hf
    · rename_i v hv
      simp only [Bool.and_eq_true, decide_eq_true_eq] at hf
      have e : ck_rl h0 r v (.int (mq_I h q.2.1 q.2.2.1)) := G.2.2.2.2 _ (ck_get_ok hv)
      have := ck_r_ok G e
      split
      · rename_i z; exact absurd z t0
      · rename_i z; exact absurd z t1
      · trivial
      · exact ⟨by omega, by omega⟩
    · cases hf
end CKB
