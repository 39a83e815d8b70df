/-! THE CHECKER, 7: reading fields and rows -/
section CK6
variable {lL : Nat} {h0 h : mq_H} {r : List Value} {m pc nx a b c j : Nat} {kk : Int32} {ins : Instr} {A S : List ck_A} {Z : ck_Z} {L : mq_L} {st : List Value} {q : List ck_A × List ck_A × ck_Z} {M : Nat}
theorem ck_P1i {h : mq_H} {p : Nat} {t : Int} (H : ck_P t h p) (e : ck_ie t 1 = true) : ck_P1 h p := by
  have e : t = 1 := of_decide_eq_true e
  rcases H with ⟨z, H⟩ | ⟨z, H⟩ | ⟨z, H⟩ | ⟨z, H⟩
  · exact H
  all_goals omega
theorem ck_P2i {h : mq_H} {p : Nat} {t : Int} (H : ck_P t h p) (e : ck_ie t 2 = true) : ck_P2 h p := by
  have e : t = 2 := of_decide_eq_true e
  rcases H with ⟨z, H⟩ | ⟨z, H⟩ | ⟨z, H⟩ | ⟨z, H⟩
  · omega
  · exact H
  all_goals omega
theorem ck_P3i {h : mq_H} {p : Nat} {t : Int} (H : ck_P t h p) (e : ck_ie t 3 = true) : ck_P3 h p := by
  have e : t = 3 := of_decide_eq_true e
  rcases H with ⟨z, H⟩ | ⟨z, H⟩ | ⟨z, H⟩ | ⟨z, H⟩
  · omega
  · omega
  · exact H
  · omega
theorem ck_P4i {h : mq_H} {p : Nat} {t : Int} (H : ck_P t h p) (e : ck_ie t 4 = true) : ck_P4 h p := by
  have e : t = 4 := of_decide_eq_true e
  rcases H with ⟨z, H⟩ | ⟨z, H⟩ | ⟨z, H⟩ | ⟨z, H⟩
  · omega
  · omega
  · omega
  · exact H
theorem ck_P.bk {h h' : mq_H} {p : Nat} {t : Int} (H : ck_P t h' p) (md : ck_md M h h') (b0 : Nat.testBit M 0 = false) : ck_P t h p := by
  have md' : ck_md M h' h := ⟨md.1.symm, md.2.1.symm, md.2.2.1.symm, md.2.2.2.1.symm, fun x k e => (md.2.2.2.2 x k e).symm⟩
  exact H.md md' b0
theorem ck_tag {v : ck_A} {n : Nat} (e : Nat.beq v.1 n = true) : v.1 = n := Nat.eq_of_beq_eq_true e
theorem ck_rl3 {v : ck_A} {w : Value} (t : Nat.beq v.1 3 = true) (e : ck_rl h0 r v w) : w = .retAddr v.2.1 := by
  unfold ck_rl at e
  rw [ck_tag t] at e
  exact e
theorem ck_rl5 {v : ck_A} {w : Value} (t : Nat.beq v.1 5 = true) (e : ck_rl h0 r v w) : r[v.2.1]? = some w ∧ ∃ p, w = .ref p ∧ ck_P v.2.2 h0 p := by
  unfold ck_rl at e
  rw [ck_tag t] at e
  exact e
theorem ck_pl0 {v : ck_A} {x k : Nat} {n : Int} {i : Nat} (e : ck_pl h0 r h (0, x, (i, k, n)) v) : ck_rl h0 r v (.int (mq_I h x k)) := e
theorem so_gf {v w : ck_A} {Z' : ck_Z} {R : List ck_A} {x : Value} {V : List Value} (H : ck_gf Z v a b c = some (w, Z')) (G : ck_g h0 r h Z) (RL : ck_rL h0 r A L) (RS : ck_rS h0 r R V) (e : ck_rl h0 r v x) (hI : ck_IvI h) (md : ck_md M h0 h) (b0 : Nat.testBit M 0 = false) {n : Nat} (hP : mq_cd m pc = some (.getfield n, nx, a, b, c, kk, j)) : ck_out lL h0 h r m pc nx L (x :: V) (A, w :: R, Z') := by
  unfold ck_gf at H
  cases t3 : Nat.beq v.1 3 with
  | true =>
    rw [t3] at H
    have := ck_rl3 t3 e
    subst this
    simp only [cond_true] at H
    cases hT : mq_tS1 v.2.1 with
    | none => rw [hT] at H; cases H
    | some s =>
      rw [hT] at H
      cases s with
      | inr _ => cases H
      | inl ci =>
        dsimp only at H
        have hT' := ck_tS (lL := lL) hT
        cases hc : Nat.beq ci a with
        | false => rw [hc] at H; cases H
        | true =>
          rw [hc] at H
          simp only [cond_true] at H
          have hs : ∀ kind, mq_step (mq_tT lL) (.getfield n) pc nx a b kind kk L (.retAddr v.2.1 :: V) h = (match kind with
              | 1 => mq_nx nx L (.long (mq_J h v.2.1 b) :: V) h
              | 2 => match (mq_tT lL).2 v.2.1 b with
                | some b' => mq_nx nx L (.retAddr b' :: V) h
                | none => mq_ox none (mq_R h v.2.1 b) nx V
              | _ => mq_nx nx L (.int (mq_I h v.2.1 b) :: V) h) := by
            intro kind
            show mq_gf (mq_tT lL) h (.retAddr v.2.1) a b kind nx L V = _
            unfold mq_gf
            dsimp only
            rw [hT']
            dsimp only
            rw [hc]
            rfl
          have hs := hs c
          split at H
          · cases H
            exact so_lng G RL RS hP hs rfl
          · split at H
            · rename_i b' hb
              cases H
              have hb' : (mq_tT lL).2 v.2.1 b = some b' := hb
              have hs : mq_step (mq_tT lL) (.getfield n) pc nx a b 2 kk L (.retAddr v.2.1 :: V) h = mq_nx nx L (.retAddr b' :: V) h := by
                rw [hs]
                show (match (mq_tT lL).2 v.2.1 b with | some b' => mq_nx nx L (.retAddr b' :: V) h | none => mq_ox none (mq_R h v.2.1 b) nx V) = _
                rw [hb']
              exact so_push (ck_ex.rf r) G RL RS hP hs rfl rfl
            · cases H
          · rename_i n1 n2
            have hs : mq_step (mq_tT lL) (.getfield n) pc nx a b c kk L (.retAddr v.2.1 :: V) h = mq_nx nx L (.int (mq_I h v.2.1 b) :: V) h := by
              rw [hs]
              split
              · exact absurd rfl n1
              · exact absurd rfl n2
              · rfl
            exact so_ro (ck_rd_ok H G (x := mq_I h v.2.1 b) (fun _ z => z) (fun l u z => hI.1 _ _ l u z) (fun _ _ _ z => z)) RL RS hP hs rfl
  | false =>
    rw [t3] at H
    simp only [cond_false] at H
    cases t5 : Nat.beq v.1 5 with
    | false => rw [t5] at H; cases H
    | true =>
      rw [t5] at H
      obtain ⟨e1, p, rfl, e2⟩ := ck_rl5 t5 e
      have P := e2.md md b0
      simp only [cond_true] at H
      cases t : (ck_ie v.2.2 1 && Nat.beq a 6) || (ck_ie v.2.2 3 && Nat.beq a 7) with
      | false => rw [t] at H; cases H
      | true =>
        rw [t] at H
        simp only [cond_true] at H
        have sh : mq_isO (mq_sh h p) a = true := by
          simp only [Bool.or_eq_true, Bool.and_eq_true] at t
          rcases t with ⟨t1, t2⟩ | ⟨t1, t2⟩
          · rw [(ck_P1i P t1).2.1, Nat.eq_of_beq_eq_true t2]; rfl
          · rw [(ck_P3i P t1).2.1, Nat.eq_of_beq_eq_true t2]; rfl
        split at H
        · cases H
        · cases t' : (ck_ie v.2.2 1 && Nat.beq b 0) || (ck_ie v.2.2 3 && Nat.beq b 4) with
          | false => rw [t'] at H; cases H
          | true =>
            rw [t'] at H
            simp only [cond_true] at H
            have hR : ∃ b', mq_R h p b = some b' ∧ ck_P (v.2.2 + 1) h b' := by
              simp only [Bool.or_eq_true, Bool.and_eq_true] at t'
              rcases t' with ⟨t1, t2⟩ | ⟨t1, t2⟩
              · obtain ⟨b', q1, q2⟩ := (ck_P1i P t1).2.2.2
                rw [Nat.eq_of_beq_eq_true t2]
                have e : v.2.2 = 1 := of_decide_eq_true t1
                exact ⟨b', q1, Or.inr (Or.inl ⟨by omega, q2⟩)⟩
              · obtain ⟨b', q1, q2⟩ := (ck_P3i P t1).2.2.2.2
                rw [Nat.eq_of_beq_eq_true t2]
                have e : v.2.2 = 3 := of_decide_eq_true t1
                exact ⟨b', q1, Or.inr (Or.inr (Or.inr ⟨by omega, q2⟩))⟩
            obtain ⟨b', q1, q2⟩ := hR
            have hs : mq_step (mq_tT lL) (.getfield n) pc nx a b 2 kk L (.ref p :: V) h = mq_ox (some (mq_isO (mq_sh h p) a)) (mq_R h p b) nx V := rfl
            cases hg : ck_get Z.2.2.2.2 (4, v.2.1, (0, b, 0)) with
            | some w' =>
              rw [hg] at H
              cases H
              obtain ⟨p', b2, k1, k2, k3⟩ := G.2.2.2.2 _ (ck_get_ok hg)
              dsimp only at k1 k2
              rw [e1] at k1; cases k1
              rw [q1] at k2; cases k2
              exact so_ref (ck_ex.rf r) G RL RS hP hs q1 sh k3
            | none =>
              rw [hg] at H
              cases H
              have G' := ck_nl_ok G (.ref b')
              have ex := ck_ex.one r (.ref b')
              have k3 : ck_rl h0 (r ++ [.ref b']) (5, Z.1, v.2.2 + 1) (.ref b') := ⟨ck_at_n G.1 _, b', rfl, q2.bk md b0⟩
              exact so_ref ex (ck_hp_ok G' ⟨p, b', ex.get e1, q1, k3⟩) RL RS hP hs q1 sh k3
        · rename_i n1 n2
          have hs : mq_step (mq_tT lL) (.getfield n) pc nx a b c kk L (.ref p :: V) h = mq_gx (some (mq_isO (mq_sh h p) a)) nx L (.int (mq_I h p b) :: V) h := by
            show mq_gf (mq_tT lL) h (.ref p) a b c nx L V = _
            unfold mq_gf
            dsimp only
            split
            · exact absurd rfl n1
            · exact absurd rfl n2
            · rfl
          cases t2 : ck_ie v.2.2 3 || Nat.beq b 1 with
          | false => rw [t2] at H; cases H
          | true =>
            rw [t2] at H
            simp only [cond_true] at H
            refine so_ro (ck_rd_ok H G (x := mq_I h p b) ?_ ?_ ?_) RL RS hP hs sh
            · intro w' z
              obtain ⟨p', k1, k2, k3⟩ := z
              dsimp only at k1
              rw [e1] at k1; cases k1
              exact k3
            · intro l u z
              simp only [Bool.or_eq_true, Bool.and_eq_true] at t
              have rg := ci_rng (mq_I h p b)
              unfold ck_dI at z
              rcases t with ⟨t1, -⟩ | ⟨t1, -⟩
              · rw [t1] at z
                cases z
                have e : v.2.2 = 1 := of_decide_eq_true t1
                have : Nat.beq b 1 = true := by
                  rw [Bool.or_eq_true] at t2
                  rcases t2 with t2 | t2
                  · have : v.2.2 = 3 := of_decide_eq_true t2
                    omega
                  · exact t2
                rw [Nat.eq_of_beq_eq_true this]
                exact (ck_P1i P t1).2.2.1
              · have e : v.2.2 = 3 := of_decide_eq_true t1
                rw [show ck_ie v.2.2 1 = false from decide_eq_false (by omega)] at z
                simp only [cond_false] at z
                cases k2 : Nat.beq b 2 with
                | true =>
                  rw [k2] at z
                  cases z
                  rw [Nat.eq_of_beq_eq_true k2]
                  exact (ck_P3i P t1).2.2.1
                | false =>
                  rw [k2] at z
                  simp only [cond_false] at z
                  cases k5 : Nat.beq b 5 with
                  | true =>
                    rw [k5] at z
                    cases z
                    rw [Nat.eq_of_beq_eq_true k5]
                    exact (ck_P3i P t1).2.2.2.1
                  | false =>
                    rw [k5] at z
                    cases z
                    exact rg
            · intro r' w' ex k
              exact ⟨p, ex.get e1, fun k => P.lc k, k⟩
theorem ck_ix_ok {i : ck_A} {x : Int32} {n : Nat} (H : ck_ix Z i n = true) (G : ck_g h0 r h Z) (e : ck_rl h0 r i (.int x)) : mq_inb x n = true := by
  unfold ck_ix at H
  rw [Bool.and_eq_true, decide_eq_true_eq, decide_eq_true_eq] at H
  have := ck_r_ok G e
  exact ci_inb.mpr ⟨by omega, by omega⟩
theorem ck_ixD_ok {s p n : Nat} {i : ck_A} {x : Int32} (H : ck_ixD Z s i = true) (G : ck_g h0 r h Z) (e : ck_rl h0 r i (.int x)) (hs : r[s]? = some (.ref p)) {ty : Nat} (hn : mq_sh h p = .inr (ty, n)) (hn2 : n < 2 ^ 31) : mq_inb x n = true := by
  unfold ck_ixD at H
  rw [Bool.and_eq_true, decide_eq_true_eq] at H
  obtain ⟨h1, h2⟩ := H
  split at h2
  · rename_i w hw
    rw [Bool.and_eq_true] at h2
    obtain ⟨p', k1, k2⟩ := G.2.2.2.2 _ (ck_get_ok hw)
    dsimp only at k1
    rw [hs] at k1; cases k1
    have le := ck_le_ok G e k2 h2.2
    have := ck_r_ok G e
    rw [hn] at le
    have e2 : (mq_al (.inr (ty, n))).toInt = (n : Int) := nI_toInt hn2
    exact ci_inb.mpr ⟨by omega, by omega⟩
  · cases h2
theorem so_ia {v i w : ck_A} {Z' : ck_Z} {x : Value} {y z : Int32} {p : Nat → Bool} {d : Bool} (H : ck_ia Z v i p d = some (w, Z')) (G : ck_g h0 r h Z) (e : ck_rl h0 r v x) (ei : ck_rl h0 r i (.int y)) (hI : ck_IvI h) (md : ck_md M h0 h) (b0 : Nat.testBit M 0 = false) (hz : ∀ k, x = .retAddr k ∨ x = .ref k → z = mq_I h k y.toNatClampNeg) : ck_ro h0 h r (w, Z') z ∧ ((∃ t n, x = .retAddr v.2.1 ∧ (mq_tT lL).1 v.2.1 = some (.inr (t, n)) ∧ p t = true ∧ mq_inb y n = true) ∨ (d = true ∧ ∃ k, x = .ref k ∧ mq_gA (mq_sh h k) 0 y = true)) := by
  unfold ck_ia at H
  cases t3 : Nat.beq v.1 3 with
  | true =>
    rw [t3] at H
    have := ck_rl3 t3 e
    subst this
    simp only [cond_true] at H
    cases hT : mq_tS1 v.2.1 with
    | none => rw [hT] at H; cases H
    | some s =>
      rw [hT] at H
      cases s with
      | inl _ => cases H
      | inr tn =>
        obtain ⟨t, n⟩ := tn
        dsimp only at H
        cases hc : p t && ck_ix Z i n with
        | false => rw [hc] at H; cases H
        | true =>
          rw [hc] at H
          rw [Bool.and_eq_true] at hc
          have hb := ck_ix_ok hc.2 G ei
          have hb' := ci_inb.mp hb
          have hcl := ci_cl hb'.1
          simp only [cond_true] at H
          refine ⟨?_, Or.inl ⟨t, n, rfl, ck_tS hT, hc.1, hb⟩⟩
          have hz := hz _ (Or.inl rfl)
          subst hz
          split at H
          · rename_i n' l u hv
            cases hn : Nat.ble n n' with
            | false => rw [hn] at H; cases H
            | true =>
              rw [hn] at H
              have hn := Nat.le_of_ble_eq_true hn
              simp only [cond_true] at H
              refine ck_rd_ok H G ?_ ?_ ?_
              · intro w' ⟨i', k1, k2⟩
                have := ck_rl.fn ei k1
                cases this
                exact k2
              · intro l' u' q
                cases q
                exact hI.2 _ _ _ _ hv _ (by omega)
              · intro r' w' ex k
                exact ⟨y, ei.ex ex, k⟩
          · cases H
  | false =>
    rw [t3] at H
    simp only [cond_false] at H
    cases t : d && (Nat.beq v.1 5 && (ck_ie v.2.2 4 && ck_ixD Z v.2.1 i)) with
    | false => rw [t] at H; cases H
    | true =>
      rw [t] at H
      simp only [Bool.and_eq_true] at t
      obtain ⟨td, t5, t4, tx⟩ := t
      cases H
      obtain ⟨e1, k, rfl, e2⟩ := ck_rl5 t5 e
      have P := ck_P4i (e2.md md b0) t4
      obtain ⟨-, n, hn, hsh⟩ := P
      have hb := ck_ixD_ok tx G ei e1 hsh (by omega)
      exact ⟨ck_ro.top G _, Or.inr ⟨td, k, rfl, by rw [hsh]; show (Nat.beq 0 0 && mq_inb y n) = true; rw [hb]; rfl⟩⟩
end CK6
