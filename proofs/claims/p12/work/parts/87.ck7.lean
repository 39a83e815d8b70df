/-! THE CHECKER, 8: every straight step -/
section CK7
variable {lL : Nat} {h0 h : mq_H} {r : List Value} {m pc nx a b c j : Nat} {kk : Int32} {A S : List ck_A} {Z : ck_Z} {L : mq_L} {st : List Value} {q : List ck_A × List ck_A × ck_Z} {M : Nat}
theorem ck_rem2 {A : List ck_A} {V : List Value} (H : ck_rS h0 r A V) : mq_cat V = A.foldr (fun v n => ck_ct v + n) 0 := by
  induction A generalizing V with
  | nil => rw [H.nil]; rfl
  | cons a A ih =>
    obtain ⟨v, W, rfl, e, H⟩ := H.cons
    show v.category + mq_cat W = ck_ct a + _
    rw [ih H, ck_ct_ok e]
theorem so_aa {n : Nat} {R : List ck_A} {x : Value} {y : Int32} {V : List Value} {p : Nat} {o : Option Nat} {g : Option Bool} (G : ck_g h0 r h Z) (RL : ck_rL h0 r A L) (RS : ck_rS h0 r R V) (hP : mq_cd m pc = some (.aaload, nx, a, b, c, kk, j)) (hs : mq_step (mq_tT lL) .aaload pc nx a b c kk L (.int y :: x :: V) h = mq_ox g o nx V) (ho : o = some p) (hg : mq_gB g = true) (hp : ck_P (n : Int) h0 p) : ck_out lL h0 h r m pc nx L (.int y :: x :: V) (A, (5, Z.1, (n : Int)) :: R, ck_nl Z) := so_ref (ck_ex.one r (.ref p)) (ck_nl_ok G _) RL RS hP hs ho hg ⟨ck_at_n G.1 _, p, rfl, hp⟩
theorem so_mm {n : Nat} (H : ck_mm a A S Z = some q) (G : ck_g h0 r h Z) (RL : ck_rL h0 r A L) (RS : ck_rS h0 r S st) (hP : mq_cd m pc = some (.invokestatic n, nx, a, b, c, kk, j)) : ck_out lL h0 h r m pc nx L st q := by
  unfold ck_mm at H
  split at H
  · rename_i x y R
    cases t : Nat.ble (R.foldr (fun v n => ck_ct v + n) 0) 8 with
    | false => rw [t] at H; cases H
    | true =>
      rw [t] at H
      simp only [cond_true] at H
      have hcat : ∀ {V : List Value}, ck_rS h0 r R V → Nat.ble (mq_cat V) 8 = true := fun RS2 => by rw [ck_rem2 RS2]; exact t
      cases t2 : Nat.beq a 1002 with
      | true =>
        rw [t2] at H
        have t0 : Nat.beq a 1000 = false := by rw [Nat.eq_of_beq_eq_true t2]; decide
        obtain ⟨w1, V1, rfl, e1, RS1⟩ := RS.cons
        obtain ⟨w2, V2, rfl, e2, RS2⟩ := RS1.cons
        unfold ck_b2 at H
        simp only [cond_true] at H
        cases t : ck_isI y && ck_isI x with
        | false => rw [t] at H; cases H
        | true =>
          rw [t] at H
          rw [Bool.and_eq_true] at t
          obtain ⟨y', rfl, e1⟩ := ck_isI_in t.2 e1
          obtain ⟨x', rfl, e2⟩ := ck_isI_in t.1 e2
          cases H
          refine so_ro (ck_max_ok G e2 e1) RL RS2 hP (g := none) ?_ rfl
          show (bif Nat.beq a 1000 then mq_copy (mq_tT lL) h b nx L (.int y' :: .int x' :: V2) else (bif Nat.beq a 1002 then mq_mx nx L (.int y' :: .int x' :: V2) h else (bif Nat.beq a 1003 then mq_mi nx L (.int y' :: .int x' :: V2) h else mq_ivS a b nx (.int y' :: .int x' :: V2)))) = _
          rw [t0, t2]
          show (bif Nat.ble (mq_cat V2) 8 then mq_nx nx L (.int (if x' < y' then y' else x') :: V2) h else none) = _
          rw [hcat RS2]
          rfl
      | false =>
        rw [t2] at H
        simp only [cond_false] at H
        cases t3 : Nat.beq a 1003 with
        | false => rw [t3] at H; cases H
        | true =>
          rw [t3] at H
          have t0 : Nat.beq a 1000 = false := by rw [Nat.eq_of_beq_eq_true t3]; decide
          obtain ⟨w1, V1, rfl, e1, RS1⟩ := RS.cons
          obtain ⟨w2, V2, rfl, e2, RS2⟩ := RS1.cons
          unfold ck_b2 at H
          simp only [cond_true] at H
          cases t : ck_isI y && ck_isI x with
          | false => rw [t] at H; cases H
          | true =>
            rw [t] at H
            rw [Bool.and_eq_true] at t
            obtain ⟨y', rfl, e1⟩ := ck_isI_in t.2 e1
            obtain ⟨x', rfl, e2⟩ := ck_isI_in t.1 e2
            cases H
            refine so_ro (ck_min_ok G e2 e1) RL RS2 hP (g := none) ?_ rfl
            show (bif Nat.beq a 1000 then mq_copy (mq_tT lL) h b nx L (.int y' :: .int x' :: V2) else (bif Nat.beq a 1002 then mq_mx nx L (.int y' :: .int x' :: V2) h else (bif Nat.beq a 1003 then mq_mi nx L (.int y' :: .int x' :: V2) h else mq_ivS a b nx (.int y' :: .int x' :: V2)))) = _
            rw [t0, t2, t3]
            show (bif Nat.ble (mq_cat V2) 8 then mq_nx nx L (.int (if y' < x' then y' else x') :: V2) h else none) = _
            rw [hcat RS2]
            rfl
  · cases H
theorem ck_S_ok {ins : Instr} (H : ck_S ins a b c kk A S Z = some q) (G : ck_g h0 r h Z) (RL : ck_rL h0 r A L) (RS : ck_rS h0 r S st) (hI : ck_IvI h) (hD : ck_IvD h) (md : ck_md M h0 h) (b0 : Nat.testBit M 0 = false) (hP : mq_cd m pc = some (ins, nx, a, b, c, kk, j)) : ck_out lL h0 h r m pc nx L st q := by
  have isI0 : ∀ v : ck_A, ck_isI v = true → ¬ v.1 = 0 := fun v hv e => by unfold ck_isI at hv; rw [e] at hv; cases hv
  have isJ0 : ∀ v : ck_A, ck_isJ v = true → ¬ v.1 = 0 := fun v hv e => by unfold ck_isJ at hv; rw [e] at hv; cases hv
  have isR0 : ∀ v : ck_A, ck_isR v = true → ¬ v.1 = 0 := fun v hv e => by unfold ck_isR at hv; rw [e] at hv; cases hv
  have ldI : ∀ v w, ck_isI v = true → ck_rl h0 r v w → L[a]? = some (some w) → mq_ldI a nx L st h = mq_nx nx L (w :: st) h := fun v w hv e hw => by
    obtain ⟨x, rfl⟩ := ck_isI_ok hv e
    unfold mq_ldI; rw [mq_ld_some hw]
  have ldJ : ∀ v w, ck_isJ v = true → ck_rl h0 r v w → L[a]? = some (some w) → mq_ldJ a nx L st h = mq_nx nx L (w :: st) h := fun v w hv e hw => by
    obtain ⟨x, rfl⟩ := ck_isJ_in hv e
    unfold mq_ldJ; rw [mq_ld_some hw]
  have ldR : ∀ v w, ck_isR v = true → ck_rl h0 r v w → L[a]? = some (some w) → mq_ldA a nx L st h = mq_nx nx L (w :: st) h := fun v w hv e hw => by
    rcases ck_isR_in hv e with ⟨-, rfl⟩ | ⟨-, -, p, rfl, -⟩ <;> (unfold mq_ldA; rw [mq_ld_some hw])
  have stI : ∀ v w V, ck_isI v = true → ck_rl h0 r v w → mq_stI a nx L (w :: V) h = mq_nx nx (mq_sv L a w) V h := fun v w V hv e => by
    obtain ⟨x, rfl⟩ := ck_isI_ok hv e
    rfl
  have stR : ∀ v w V, ck_isR v = true → ck_rl h0 r v w → mq_stA a nx L (w :: V) h = mq_nx nx (mq_sv L a w) V h := fun v w V hv e => by
    rcases ck_isR_in hv e with ⟨-, rfl⟩ | ⟨-, -, p, rfl, -⟩ <;> rfl
  cases ins
  case iconst => cases H; exact so_con G RL RS hP rfl
  case bipush => cases H; exact so_con G RL RS hP rfl
  case sipush => cases H; exact so_con G RL RS hP rfl
  case ldc n =>
    replace H : (bif Nat.beq b 1 then some (A, ((3, 2, 0) : ck_A) :: S, Z) else some (A, ((2, 0, kk.toInt) : ck_A) :: S, Z)) = some q := H
    cases t : Nat.beq b 1 with
    | true =>
      rw [t] at H
      cases H
      refine so_push (g := none) (ck_ex.rf r) G RL RS hP (w := .retAddr 2) ?_ rfl rfl
      show (bif Nat.beq b 1 then mq_nx nx L (.retAddr 2 :: st) h else mq_nx nx L (.int kk :: st) h) = _
      rw [t]
      rfl
    | false =>
      rw [t] at H
      cases H
      refine so_con G RL RS hP ?_
      show (bif Nat.beq b 1 then mq_nx nx L (.retAddr 2 :: st) h else mq_nx nx L (.int kk :: st) h) = _
      rw [t]
      rfl
  case getstatic n => cases H; exact so_push (g := none) (ck_ex.rf r) G RL RS hP (w := .retAddr 1) rfl rfl rfl
  case invokevirtual n =>
    match S, H, RS with
    | [], H, _ => cases H
    | [_], H, _ => cases H
    | i :: v :: R, H, RS =>
      replace H : (bif Nat.beq a 1004 && (ck_isI i && (Nat.beq v.1 3 && (Nat.beq v.2.1 2 && (Nat.ble (R.foldr (fun v n => ck_ct v + n) 0) 8 && ck_ix Z i 174)))) then some (A, ((1, Z.1, 0) : ck_A) :: R, ck_nw Z (-2147483648) 2147483647) else none) = some q := H
      obtain ⟨w1, V1, rfl, e1, RS1⟩ := RS.cons
      obtain ⟨w2, V2, rfl, e2, RS2⟩ := RS1.cons
      cases t : Nat.beq a 1004 && (ck_isI i && (Nat.beq v.1 3 && (Nat.beq v.2.1 2 && (Nat.ble (R.foldr (fun v n => ck_ct v + n) 0) 8 && ck_ix Z i 174)))) with
      | false => rw [t] at H; cases H
      | true =>
        rw [t] at H
        cases H
        simp only [Bool.and_eq_true] at t
        obtain ⟨k1, k2, k3, k4, k5, k6⟩ := t
        obtain ⟨y, rfl, e1⟩ := ck_isI_in k2 e1
        have := ck_rl3 k3 e2
        subst this
        have k4 := Nat.eq_of_beq_eq_true k4
        have k7 : Nat.ble 1004 a = true := Nat.ble_eq_true_of_le (by rw [Nat.eq_of_beq_eq_true k1]; exact Nat.le_refl _)
        rw [k4]
        have hb := ck_ix_ok k6 G e1
        refine so_ro (ck_ro.top G (jk_w y.toNatClampNeg)) RL RS2 hP (g := some true) ?_ rfl
        show (bif Nat.ble 1004 a then (bif Nat.beq a 1004 then (bif Nat.beq 2 2 && Nat.ble (mq_cat V2) 8 then mq_gx (some (mq_inb y jk_wn)) nx L (.int (jk_w y.toNatClampNeg) :: V2) h else none) else _) else _) = _
        rw [k7, k1, ck_rem2 RS2, k5, show mq_inb y jk_wn = true from hb]
        rfl
  case ldc_w => cases H; exact so_con G RL RS hP rfl
  case ldc2_w => cases H; exact so_lng G RL RS hP (x := kk.toInt64) rfl rfl
  case lconst => cases H; exact so_lng G RL RS hP (x := kk.toInt64) rfl rfl
  case iload_n => exact so_ld H G RL RS hP isI0 ldI
  case iload => exact so_ld H G RL RS hP isI0 ldI
  case lload_n => exact so_ld H G RL RS hP isJ0 ldJ
  case lload => exact so_ld H G RL RS hP isJ0 ldJ
  case aload_n => exact so_ld H G RL RS hP isR0 ldR
  case aload => exact so_ld H G RL RS hP isR0 ldR
  case istore_n => exact so_st H G RL RS hP stI
  case istore => exact so_st H G RL RS hP stI
  case astore_n => exact so_st H G RL RS hP stR
  case astore => exact so_st H G RL RS hP stR
  case lstore_n =>
    replace H : (match ck_st ck_isJ a A S Z with | some (L', r, Z') => some (L'.set (a + 1) (0, 0, 0), r, Z') | none => none) = some q := H
    cases hq : ck_st ck_isJ a A S Z with
    | none => rw [hq] at H; cases H
    | some q' =>
      rw [hq] at H
      obtain ⟨v, R, w, V, rfl, t, rfl, e, RS1, rfl⟩ := ck_st_inv hq RS
      cases H
      obtain ⟨x, rfl⟩ := ck_isJ_in t e
      exact ⟨_, V, r, ck_ex.rf r, G, ck_set (o := none) (ck_sv_ok RL e) (a + 1) (Or.inl rfl), RS1, fun _ hA => at_nx hP rfl rfl hA⟩
  case lstore =>
    replace H : (match ck_st ck_isJ a A S Z with | some (L', r, Z') => some (L'.set (a + 1) (0, 0, 0), r, Z') | none => none) = some q := H
    cases hq : ck_st ck_isJ a A S Z with
    | none => rw [hq] at H; cases H
    | some q' =>
      rw [hq] at H
      obtain ⟨v, R, w, V, rfl, t, rfl, e, RS1, rfl⟩ := ck_st_inv hq RS
      cases H
      obtain ⟨x, rfl⟩ := ck_isJ_in t e
      exact ⟨_, V, r, ck_ex.rf r, G, ck_set (o := none) (ck_sv_ok RL e) (a + 1) (Or.inl rfl), RS1, fun _ hA => at_nx hP rfl rfl hA⟩
  case iinc n1 n2 =>
    replace H : (match A[a]? with | some v => bif ck_isI v then (match ck_ac Z v kk.toInt with | (w, Z') => some (ck_sv A a w, S, Z')) else none | none => none) = some q := H
    split at H
    · rename_i v hv
      cases t : ck_isI v with
      | false => rw [t] at H; cases H
      | true =>
        rw [t] at H
        rcases RL.2 _ _ hv with z | ⟨w, hw, e⟩
        · exact absurd z (isI0 v t)
        · obtain ⟨x, rfl, e⟩ := ck_isI_in t e
          obtain ⟨r', ex, G', hz⟩ := ck_ac_ok G e (z := x + kk) (c := kk.toInt) (fun q => ci_add q)
          cases H
          refine ⟨mq_sv L a (.int (x + kk)), st, r', ex, G', ck_sv_ok (RL.ex ex) hz, RS.ex ex, fun _ hA => at_nx (g := none) hP ?_ rfl hA⟩
          show (match mq_ld L a with | some (.int x) => mq_nx nx (mq_sv L a (.int (x + kk))) st h | _ => none) = _
          rw [mq_ld_some hw]
    · cases H
  case iadd => exact so_b2 (f := ck_add) (op := fun x y => x + y) H RL RS hP (fun _ _ _ _ e1 e2 => ck_add_ok G e1 e2) (fun _ _ _ _ _ _ _ => ⟨none, rfl, rfl⟩)
  case isub => exact so_b2 (f := ck_sub) (op := fun x y => x - y) H RL RS hP (fun _ _ _ _ e1 e2 => ck_sub_ok G e1 e2) (fun _ _ _ _ _ _ _ => ⟨none, rfl, rfl⟩)
  case imul => exact so_b2 (f := ck_mul) (op := fun x y => x * y) H RL RS hP (fun _ _ _ _ e1 e2 => ck_mul_ok G e1 e2) (fun _ _ _ _ _ _ _ => ⟨none, rfl, rfl⟩)
  case iand => exact so_b2 (f := ck_and) (op := fun x y => x &&& y) H RL RS hP (fun _ _ _ _ e1 e2 => ck_and_ok G e1 e2) (fun _ _ _ _ _ _ _ => ⟨none, rfl, rfl⟩)
  case ior => exact so_b2 (f := ck_top) (op := fun x y => x ||| y) H RL RS hP (fun _ _ _ _ _ _ => ck_ro.top G _) (fun _ _ _ _ _ _ _ => ⟨none, rfl, rfl⟩)
  case ixor => exact so_b2 (f := ck_top) (op := fun x y => x ^^^ y) H RL RS hP (fun _ _ _ _ _ _ => ck_ro.top G _) (fun _ _ _ _ _ _ _ => ⟨none, rfl, rfl⟩)
  case ishl => exact so_b2 (f := ck_shl) (op := fun x y => x <<< (y &&& 31)) H RL RS hP (fun _ _ _ _ e1 e2 => ck_shl_ok G e1 e2) (fun _ _ _ _ _ _ _ => ⟨none, rfl, rfl⟩)
  case ishr => exact so_b2 (f := (fun Z x _ => ck_shr Z x)) (op := fun x y => x >>> (y &&& 31)) H RL RS hP (fun _ _ _ _ e1 _ => ck_shr_ok G _ e1) (fun _ _ _ _ _ _ _ => ⟨none, rfl, rfl⟩)
  case iushr => exact so_b2 (f := ck_top) (op := fun x y => (x.toUInt32 >>> (y.toUInt32 &&& Int32.toUInt32 31)).toInt32) H RL RS hP (fun _ _ _ _ _ _ => ck_ro.top G _) (fun _ _ _ _ _ _ _ => ⟨none, rfl, rfl⟩)
  case idiv =>
    cases S with
    | nil => cases H
    | cons y R =>
      replace H : (bif ck_nz Z y then ck_b2 ck_div A (y :: R) Z else none) = some q := H
      cases t : ck_nz Z y with
      | false => rw [t] at H; cases H
      | true =>
        rw [t] at H
        exact so_b2 (f := ck_div) (op := fun x y => x / y) H RL RS hP (fun _ _ _ _ e1 e2 => ck_div_ok G e1 e2) (fun x y' V v R' hv e => ⟨_, rfl, decide_eq_true (by cases hv; exact ck_nz_ok G e t)⟩)
  case irem =>
    cases S with
    | nil => cases H
    | cons y R =>
      replace H : (bif ck_nz Z y then ck_b2 ck_rem A (y :: R) Z else none) = some q := H
      cases t : ck_nz Z y with
      | false => rw [t] at H; cases H
      | true =>
        rw [t] at H
        exact so_b2 (f := ck_rem) (op := fun x y => x - x / y * y) H RL RS hP (fun _ _ _ _ e1 e2 => ck_rem_ok G e1 e2) (fun x y' V v R' hv e => ⟨_, rfl, decide_eq_true (by cases hv; exact ck_nz_ok G e t)⟩)
  case ineg => exact so_u1 (op := fun x => -x) H G RL RS hP (fun x => ci_rng _) (fun _ _ => rfl)
  case i2b => exact so_u1 (op := fun x => x.toInt8.toInt32) H G RL RS hP (fun x => ci_i2b _) (fun _ _ => rfl)
  case i2c => exact so_u1 (op := fun x => (x.toUInt32 % 65536).toInt32) H G RL RS hP (fun x => ci_i2c _) (fun _ _ => rfl)
  case l2i =>
    cases S with
    | nil => cases H
    | cons x R =>
      replace H : (bif Nat.beq x.1 4 then some (A, ((1, Z.1, 0) : ck_A) :: R, ck_nw Z (-2147483648) 2147483647) else none) = some q := H
      obtain ⟨w1, V1, rfl, e1, RS1⟩ := RS.cons
      cases t : Nat.beq x.1 4 with
      | false => rw [t] at H; cases H
      | true =>
        rw [t] at H
        cases H
        obtain ⟨x, rfl⟩ := ck_isJ_in t e1
        exact so_ro (ck_ro.top G x.toInt32) RL RS1 hP rfl rfl
  case land => exact so_j2 (opJ := fun x y => match y with | .long y => x &&& y | _ => 0) (opI := fun _ _ => 0) H G RL RS hP (fun x y V hy => by
      rcases hy with ⟨z, rfl⟩ | ⟨-, z, rfl⟩ <;> rfl)
  case lor => exact so_j2 (opJ := fun x y => match y with | .long y => x ||| y | _ => 0) (opI := fun _ _ => 0) H G RL RS hP (fun x y V hy => by
      rcases hy with ⟨z, rfl⟩ | ⟨-, z, rfl⟩ <;> rfl)
  case lushr => exact so_j2 (opJ := fun x y => match y with | .int y => (x.toUInt64 >>> (y.toInt64.toUInt64 &&& Int64.toUInt64 63)).toInt64 | _ => 0) (opI := fun _ _ => 0) H G RL RS hP (fun x y V hy => by
      rcases hy with ⟨z, rfl⟩ | ⟨hn, -⟩
      · rfl
      · cases hn)
  case lshl => exact so_j2 (opJ := fun x y => match y with | .int y => x <<< (y.toInt64 &&& 63) | _ => 0) (opI := fun _ _ => 0) H G RL RS hP (fun x y V hy => by
      rcases hy with ⟨z, rfl⟩ | ⟨hn, -⟩
      · rfl
      · cases hn)
  case lcmp => exact so_j2 (opJ := fun _ _ => 0) (opI := fun x y => match y with | .long y => lg_cmp x y | _ => 0) H G RL RS hP (fun x y V hy => by
      rcases hy with ⟨z, rfl⟩ | ⟨-, z, rfl⟩ <;> rfl)
  case dup =>
    cases S with
    | nil => cases H
    | cons x R =>
      replace H : (bif Nat.beq x.1 4 then none else some (A, x :: x :: R, Z)) = some q := H
      obtain ⟨w1, V1, rfl, e1, RS1⟩ := RS.cons
      cases t : Nat.beq x.1 4 with
      | true => rw [t] at H; cases H
      | false =>
        rw [t] at H
        cases H
        refine so_push (g := none) (ck_ex.rf r) G RL (V := w1 :: V1) ⟨e1, RS1⟩ hP ?_ rfl e1
        show (bif Nat.beq w1.category 1 then mq_nx nx L (w1 :: w1 :: V1) h else none) = _
        rw [ck_ct_ok e1]
        unfold ck_ct
        rw [t]
        rfl
  case dup2 =>
    match S, H, RS with
    | [], H, _ => cases H
    | [_], H, _ => cases H
    | x :: y :: R, H, RS =>
      replace H : (bif Nat.beq x.1 4 || Nat.beq y.1 4 then none else some (A, x :: y :: x :: y :: R, Z)) = some q := H
      obtain ⟨w1, V1, rfl, e1, RS1⟩ := RS.cons
      obtain ⟨w2, V2, rfl, e2, RS2⟩ := RS1.cons
      cases t : Nat.beq x.1 4 || Nat.beq y.1 4 with
      | true => rw [t] at H; cases H
      | false =>
        rw [t] at H
        cases H
        rw [Bool.or_eq_false_iff] at t
        refine so_push (g := none) (ck_ex.rf r) G RL (V := w2 :: w1 :: w2 :: V2) ⟨e2, e1, e2, RS2⟩ hP ?_ rfl e1
        show (bif Nat.beq w1.category 1 then (bif Nat.beq w2.category 1 then mq_nx nx L (w1 :: w2 :: w1 :: w2 :: V2) h else none) else none) = _
        rw [ck_ct_ok e1, ck_ct_ok e2]
        unfold ck_ct
        rw [t.1, t.2]
        rfl
  case pop =>
    cases S with
    | nil => cases H
    | cons x R =>
      replace H : (bif Nat.beq x.1 4 then none else some (A, R, Z)) = some q := H
      obtain ⟨w1, V1, rfl, e1, RS1⟩ := RS.cons
      cases t : Nat.beq x.1 4 with
      | true => rw [t] at H; cases H
      | false =>
        rw [t] at H
        cases H
        refine ⟨L, V1, r, ck_ex.rf r, G, RL, RS1, fun _ hA => at_nx (g := none) hP ?_ rfl hA⟩
        show (bif Nat.beq w1.category 1 then mq_nx nx L V1 h else none) = _
        rw [ck_ct_ok e1]
        unfold ck_ct
        rw [t]
        rfl
  case getfield n =>
    cases S with
    | nil => cases H
    | cons x R =>
      replace H : (match ck_gf Z x a b c with | some (w, Z') => some (A, w :: R, Z') | none => none) = some q := H
      obtain ⟨w1, V1, rfl, e1, RS1⟩ := RS.cons
      cases hq : ck_gf Z x a b c with
      | none => rw [hq] at H; cases H
      | some wz =>
        obtain ⟨w, Z'⟩ := wz
        rw [hq] at H
        cases H
        exact so_gf hq G RL RS1 e1 hI md b0 hP
  case iaload =>
    match S, H, RS with
    | [], H, _ => cases H
    | [_], H, _ => cases H
    | i :: v :: R, H, RS =>
      replace H : (bif ck_isI i then (bif Nat.beq v.1 3 && (Nat.beq v.2.1 1 && ck_ix Z i 3) then some (A, ((1, Z.1, 0) : ck_A) :: R, ck_nw Z (-2147483648) 2147483647) else (match ck_ia Z v i (fun t => Nat.beq t 0) true with | some (w, Z') => some (A, w :: R, Z') | none => none)) else none) = some q := H
      obtain ⟨w1, V1, rfl, e1, RS1⟩ := RS.cons
      obtain ⟨w2, V2, rfl, e2, RS2⟩ := RS1.cons
      cases t : ck_isI i with
      | false => rw [t] at H; cases H
      | true =>
       rw [t] at H
       obtain ⟨y, rfl, e1⟩ := ck_isI_in t e1
       simp only [cond_true] at H
       cases tu : Nat.beq v.1 3 && (Nat.beq v.2.1 1 && ck_ix Z i 3) with
       | true =>
        rw [tu] at H
        cases H
        simp only [Bool.and_eq_true] at tu
        obtain ⟨k1, k2, k3⟩ := tu
        have := ck_rl3 k1 e2
        subst this
        have k2 := Nat.eq_of_beq_eq_true k2
        rw [k2]
        have hb := ck_ix_ok k3 G e1
        refine so_ro (ck_ro.top G (jk_ud y.toNatClampNeg)) RL RS2 hP (g := some true) ?_ rfl
        show mq_gx (some (mq_inb y 3)) nx L (.int (jk_ud y.toNatClampNeg) :: V2) h = _
        rw [hb]
       | false =>
        rw [tu] at H
        simp only [cond_false] at H
        cases hq : ck_ia Z v i (fun t => Nat.beq t 0) true with
        | none => rw [hq] at H; cases H
        | some wz =>
          obtain ⟨w, Z'⟩ := wz
          rw [hq] at H
          cases H
          obtain ⟨K, hx⟩ := so_ia (lL := lL) hq G e2 e1 hI md b0 (z := match w2 with | .retAddr k => mq_I h k y.toNatClampNeg | .ref k => mq_I h k y.toNatClampNeg | _ => 0) (fun k hk => by rcases hk with rfl | rfl <;> rfl)
          rcases hx with ⟨ty, n, rfl, hT, hp, hb⟩ | ⟨-, k, rfl, hg⟩
          · refine so_ro K RL RS2 hP (g := some true) ?_ rfl
            have hp := Nat.eq_of_beq_eq_true hp
            subst hp
            have hu : mq_isU (.retAddr v.2.1) = false := by
              show Nat.beq v.2.1 1 = false
              cases hz : Nat.beq v.2.1 1 with
              | false => rfl
              | true =>
                have hz := Nat.eq_of_beq_eq_true hz
                rw [hz] at hT
                cases hT
            show (bif mq_isU (.retAddr v.2.1) then mq_gx (some (mq_inb y 3)) nx L (.int (jk_ud y.toNatClampNeg) :: V2) h else (match mq_ar (mq_tT lL) h (.retAddr v.2.1) (mq_ty (mq_tT lL) (.retAddr v.2.1) 0) y with | some (g, q) => bif (Nat.beq (mq_ty (mq_tT lL) (.retAddr v.2.1) 0) 0 || Nat.beq (mq_ty (mq_tT lL) (.retAddr v.2.1) 0) 9) then mq_gx (some g) nx L (.int (mq_I h q y.toNatClampNeg) :: V2) h else none | none => none)) = _
            rw [hu]
            dsimp only [cond_false]
            have e3 : mq_ty (mq_tT lL) (.retAddr v.2.1) 0 = 0 := by unfold mq_ty; dsimp only; rw [hT]
            rw [e3]
            have e4 : mq_ar (mq_tT lL) h (.retAddr v.2.1) 0 y = some (true, v.2.1) := by unfold mq_ar; dsimp only; rw [hT]; dsimp only; rw [hb]; rfl
            rw [e4]
            rfl
          · refine so_ro K RL RS2 hP (g := some true) ?_ rfl
            show (match mq_ar (mq_tT lL) h (.ref k) 0 y with | some (g, q) => mq_gx (some g) nx L (.int (mq_I h q y.toNatClampNeg) :: V2) h | none => none) = _
            have e4 : mq_ar (mq_tT lL) h (.ref k) 0 y = some (true, k) := by show some (mq_gA (mq_sh h k) 0 y, k) = _; rw [hg]
            rw [e4]
  case baload =>
    match S, H, RS with
    | [], H, _ => cases H
    | [_], H, _ => cases H
    | i :: v :: R, H, RS =>
      replace H : (bif ck_isI i then (match ck_ia Z v i (fun t => Nat.beq t 1 || Nat.beq t 2) false with | some (w, Z') => some (A, w :: R, Z') | none => none) else none) = some q := H
      obtain ⟨w1, V1, rfl, e1, RS1⟩ := RS.cons
      obtain ⟨w2, V2, rfl, e2, RS2⟩ := RS1.cons
      cases t : ck_isI i with
      | false => rw [t] at H; cases H
      | true =>
        rw [t] at H
        obtain ⟨y, rfl, e1⟩ := ck_isI_in t e1
        cases hq : ck_ia Z v i (fun t => Nat.beq t 1 || Nat.beq t 2) false with
        | none => rw [hq] at H; cases H
        | some wz =>
          obtain ⟨w, Z'⟩ := wz
          rw [hq] at H
          cases H
          obtain ⟨K, hx⟩ := so_ia (lL := lL) hq G e2 e1 hI md b0 (z := match w2 with | .retAddr k => mq_I h k y.toNatClampNeg | .ref k => mq_I h k y.toNatClampNeg | _ => 0) (fun k hk => by rcases hk with rfl | rfl <;> rfl)
          rcases hx with ⟨ty, n, rfl, hT, hp, hb⟩ | ⟨hn, -⟩
          · refine so_ro K RL RS2 hP (g := some true) ?_ rfl
            show (match mq_ar (mq_tT lL) h (.retAddr v.2.1) (mq_ty (mq_tT lL) (.retAddr v.2.1) 1) y with | some (g, q) => bif (Nat.beq (mq_ty (mq_tT lL) (.retAddr v.2.1) 1) 1 || Nat.beq (mq_ty (mq_tT lL) (.retAddr v.2.1) 1) 2) then mq_gx (some g) nx L (.int (mq_I h q y.toNatClampNeg) :: V2) h else none | none => none) = _
            have e3 : mq_ty (mq_tT lL) (.retAddr v.2.1) 1 = ty := by unfold mq_ty; dsimp only; rw [hT]
            rw [e3]
            have e4 : mq_ar (mq_tT lL) h (.retAddr v.2.1) ty y = some (true, v.2.1) := by unfold mq_ar; dsimp only; rw [hT]; dsimp only; rw [hb, Nat.beq_refl]; rfl
            rw [e4]
            dsimp only at hp ⊢
            rw [hp]
            rfl
          · cases hn
  case laload =>
    match S, H, RS with
    | [], H, _ => cases H
    | [_], H, _ => cases H
    | i :: v :: R, H, RS =>
      replace H : (bif ck_isI i && Nat.beq v.1 3 then (match mq_tS1 v.2.1 with | some (.inr (t, n)) => bif Nat.beq t 3 && ck_ix Z i n then some (A, ((4, Z.1, 0) : ck_A) :: R, ck_nl Z) else none | _ => none) else none) = some q := H
      obtain ⟨w1, V1, rfl, e1, RS1⟩ := RS.cons
      obtain ⟨w2, V2, rfl, e2, RS2⟩ := RS1.cons
      cases t : ck_isI i && Nat.beq v.1 3 with
      | false => rw [t] at H; cases H
      | true =>
        rw [t] at H
        rw [Bool.and_eq_true] at t
        obtain ⟨y, rfl, e1⟩ := ck_isI_in t.1 e1
        have := ck_rl3 t.2 e2
        subst this
        simp only [cond_true] at H
        split at H
        · rename_i ty n hT
          cases t' : Nat.beq ty 3 && ck_ix Z i n with
          | false => rw [t'] at H; cases H
          | true =>
            rw [t'] at H
            cases H
            rw [Bool.and_eq_true] at t'
            have hb := ck_ix_ok t'.2 G e1
            have hT := ck_tS (lL := lL) hT
            have hp := Nat.eq_of_beq_eq_true t'.1
            subst hp
            refine so_lng G RL RS2 hP (g := some true) (x := mq_J h v.2.1 y.toNatClampNeg) ?_ rfl
            show (match mq_ar (mq_tT lL) h (.retAddr v.2.1) 3 y with | some (g, q) => mq_gx (some g) nx L (.long (mq_J h q y.toNatClampNeg) :: V2) h | none => none) = _
            have e4 : mq_ar (mq_tT lL) h (.retAddr v.2.1) 3 y = some (true, v.2.1) := by unfold mq_ar; dsimp only; rw [hT]; dsimp only; rw [hb]; rfl
            rw [e4]
        · cases H
  case aaload =>
    match S, H, RS with
    | [], H, _ => cases H
    | [_], H, _ => cases H
    | i :: v :: R, H, RS =>
      replace H : (bif ck_isI i then (bif Nat.beq v.1 3 then (bif Nat.beq v.2.1 13 && (Nat.beq a 4 && ck_ix Z i 8) then some (A, ((5, Z.1, 1) : ck_A) :: R, ck_nl Z) else none) else (bif Nat.beq v.1 5 && (ck_ie v.2.2 2 && (Nat.beq a 5 && ck_ixD Z v.2.1 i)) then some (A, ((5, Z.1, 3) : ck_A) :: R, ck_nl Z) else none)) else none) = some q := H
      obtain ⟨w1, V1, rfl, e1, RS1⟩ := RS.cons
      obtain ⟨w2, V2, rfl, e2, RS2⟩ := RS1.cons
      cases t : ck_isI i with
      | false => rw [t] at H; cases H
      | true =>
        rw [t] at H
        obtain ⟨y, rfl, e1⟩ := ck_isI_in t e1
        simp only [cond_true] at H
        cases t3 : Nat.beq v.1 3 with
        | true =>
          rw [t3] at H
          have := ck_rl3 t3 e2
          subst this
          simp only [cond_true] at H
          cases t' : Nat.beq v.2.1 13 && (Nat.beq a 4 && ck_ix Z i 8) with
          | false => rw [t'] at H; cases H
          | true =>
            rw [t'] at H
            cases H
            simp only [Bool.and_eq_true] at t'
            obtain ⟨k1, k2, k3⟩ := t'
            have k1 := Nat.eq_of_beq_eq_true k1
            have k2 := Nat.eq_of_beq_eq_true k2
            subst k2
            rw [k1]
            have hb := ck_ix_ok k3 G e1
            have hb' := ci_inb.mp hb
            have hcl := ci_cl hb'.1
            obtain ⟨p, p1, p2⟩ := hD y.toNatClampNeg (by omega)
            have hT : (mq_tT lL).1 13 = some (.inr (4, 8)) := ck_tS rfl
            refine so_aa (n := 1) G RL RS2 hP (g := some true) (o := mq_R h 13 y.toNatClampNeg) ?_ p1 rfl (Or.inl ⟨rfl, ck_P1i (ck_P.bk (Or.inl ⟨rfl, p2⟩) md b0) rfl⟩)
            · show (match mq_ar (mq_tT lL) h (.retAddr 13) 4 y with | some (g, q) => mq_ox (some g) (mq_R h q y.toNatClampNeg) nx V2 | none => none) = _
              have e4 : mq_ar (mq_tT lL) h (.retAddr 13) 4 y = some (true, 13) := by unfold mq_ar; dsimp only; rw [hT]; dsimp only; rw [hb]; rfl
              rw [e4]
        | false =>
          rw [t3] at H
          simp only [cond_false] at H
          cases t' : Nat.beq v.1 5 && (ck_ie v.2.2 2 && (Nat.beq a 5 && ck_ixD Z v.2.1 i)) with
          | false => rw [t'] at H; cases H
          | true =>
            rw [t'] at H
            cases H
            simp only [Bool.and_eq_true] at t'
            obtain ⟨k1, k2, k3, k4⟩ := t'
            have k3 := Nat.eq_of_beq_eq_true k3
            subst k3
            obtain ⟨e3, k, rfl, e4⟩ := ck_rl5 k1 e2
            obtain ⟨-, n, hn, hsh, hel⟩ := ck_P2i (e4.md md b0) k2
            have hb := ck_ixD_ok k4 G e1 e3 hsh (by omega)
            have hb' := ci_inb.mp hb
            have hcl := ci_cl hb'.1
            obtain ⟨p, p1, p2⟩ := hel y.toNatClampNeg (by omega)
            refine so_aa (n := 3) G RL RS2 hP (g := some true) (o := mq_R h k y.toNatClampNeg) ?_ p1 rfl (Or.inr (Or.inr (Or.inl ⟨rfl, ck_P3i (ck_P.bk (Or.inr (Or.inr (Or.inl ⟨rfl, p2⟩))) md b0) rfl⟩)))
            · show (match mq_ar (mq_tT lL) h (.ref k) 5 y with | some (g, q) => mq_ox (some g) (mq_R h q y.toNatClampNeg) nx V2 | none => none) = _
              have e5 : mq_ar (mq_tT lL) h (.ref k) 5 y = some (true, k) := by
                show some (mq_gA (mq_sh h k) 5 y, k) = _
                rw [hsh]
                show some ((Nat.beq 5 5 && mq_inb y n), k) = _
                rw [hb]
                rfl
              rw [e5]
  case arraylength =>
    cases S with
    | nil => cases H
    | cons v R =>
      replace H : (bif Nat.beq v.1 3 then (match mq_tS1 v.2.1 with | some (.inr (t, n)) => bif Nat.ble t 9 && Nat.ble n 100000 then some (A, ((2, 0, (n : Int)) : ck_A) :: R, Z) else none | _ => none)
        else (bif Nat.beq v.1 5 && (ck_ie v.2.2 2 || ck_ie v.2.2 4) then (match ck_rd (3, v.2.1, (0, 0, 0)) (bif ck_ie v.2.2 2 then some (0, 16) else some (0, 400)) Z with | some (w, Z') => some (A, w :: R, Z') | none => none) else none)) = some q := H
      obtain ⟨w1, V1, rfl, e1, RS1⟩ := RS.cons
      cases t3 : Nat.beq v.1 3 with
      | true =>
        rw [t3] at H
        have := ck_rl3 t3 e1
        subst this
        simp only [cond_true] at H
        split at H
        · rename_i ty n hT
          cases t' : Nat.ble ty 9 && Nat.ble n 100000 with
          | false => rw [t'] at H; cases H
          | true =>
            rw [t'] at H
            cases H
            rw [Bool.and_eq_true] at t'
            have hT := ck_tS (lL := lL) hT
            have hn := Nat.le_of_ble_eq_true t'.2
            refine so_push (ck_ex.rf r) G RL RS1 hP (g := some true) (w := .int (nI n)) ?_ rfl ⟨nI n, rfl, nI_toInt (by omega)⟩
            show (match mq_rf (mq_tT lL) h (.retAddr v.2.1) with | some (_, s) => mq_gx (some (mq_isA s)) nx L (.int (mq_al s) :: V1) h | none => none) = _
            have e4 : mq_rf (mq_tT lL) h (.retAddr v.2.1) = some (v.2.1, .inr (ty, n)) := by unfold mq_rf; dsimp only; rw [hT]
            rw [e4]
            show mq_gx (some (Nat.ble ty 9)) nx L (.int (nI n) :: V1) h = _
            rw [t'.1]
        · cases H
      | false =>
        rw [t3] at H
        simp only [cond_false] at H
        cases t' : Nat.beq v.1 5 && (ck_ie v.2.2 2 || ck_ie v.2.2 4) with
        | false => rw [t'] at H; cases H
        | true =>
          rw [t'] at H
          rw [Bool.and_eq_true, Bool.or_eq_true] at t'
          obtain ⟨k1, k2⟩ := t'
          obtain ⟨e3, k, rfl, e4⟩ := ck_rl5 k1 e1
          have P := e4.md md b0
          simp only [cond_true] at H
          have hsh : ∃ ty n, mq_sh h k = .inr (ty, n) ∧ ty ≤ 9 ∧ (n : Int) ≤ (bif ck_ie v.2.2 2 then 16 else 400) := by
            rcases k2 with k2 | k2
            · obtain ⟨-, n, hn, hs, -⟩ := ck_P2i P k2
              exact ⟨5, n, hs, by omega, by rw [k2]; simp only [cond_true]; omega⟩
            · obtain ⟨-, n, hn, hs⟩ := ck_P4i P k2
              have e : v.2.2 = 4 := of_decide_eq_true k2
              exact ⟨0, n, hs, by omega, by rw [show ck_ie v.2.2 2 = false from decide_eq_false (by omega)]; simp only [cond_false]; omega⟩
          obtain ⟨ty, n, hs, hty, hn⟩ := hsh
          have hn2 : n < 2 ^ 31 := by cases hc : ck_ie v.2.2 2 <;> rw [hc] at hn <;> simp only [cond_true, cond_false] at hn <;> omega
          have hal : mq_al (mq_sh h k) = nI n := by rw [hs]; rfl
          have hst : mq_step (mq_tT lL) .arraylength pc nx a b c kk L (.ref k :: V1) h = mq_gx (some true) nx L (.int (mq_al (mq_sh h k)) :: V1) h := by
            show mq_gx (some (mq_isA (mq_sh h k))) nx L (.int (mq_al (mq_sh h k)) :: V1) h = _
            have : mq_isA (mq_sh h k) = true := by rw [hs]; exact Nat.ble_eq_true_of_le hty
            rw [this]
          cases hq : ck_rd (3, v.2.1, (0, 0, 0)) (bif ck_ie v.2.2 2 then some (0, 16) else some (0, 400)) Z with
          | none => rw [hq] at H; cases H
          | some wz =>
            obtain ⟨w, Z'⟩ := wz
            rw [hq] at H
            cases H
            refine so_ro (ck_rd_ok hq G (x := mq_al (mq_sh h k)) ?_ ?_ ?_) RL RS1 hP hst rfl
            · intro w' ⟨k', q1, q2⟩
              dsimp only at q1
              rw [e3] at q1; cases q1
              exact q2
            · intro l u q
              rw [hal, nI_toInt hn2]
              cases hc : ck_ie v.2.2 2 with
              | true => rw [hc] at q hn; cases q; simp only [cond_true] at hn; omega
              | false => rw [hc] at q hn; cases q; simp only [cond_false] at hn; omega
            · intro r' w' ex q
              exact ⟨k, ex.get e3, q⟩
  case invokestatic n => exact so_mm H G RL RS hP
  all_goals (cases H)
end CK7
