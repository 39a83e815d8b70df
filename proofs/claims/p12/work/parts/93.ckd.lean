/-! THE CHECKER, 14: instructions, heads, methods -/
section CKD
variable {X : mq_H → Prop} {M sup lL : Nat} {h0 : mq_H} {rt : Nat × Int × Int} {cs : List (Nat × ck_T)} {inl : List Nat} {k : ck_Kt}
theorem ck_br_ok (hk : ck_Sn X M lL h0 rt k) {m t e : Nat} {o : Jvm.ClassFile.Cond} {x y : ck_A} {A R : List ck_A} {Z : ck_Z} {lp : List ck_C} {fr : ck_F} (H : ck_br k m o x y t e A R Z lp fr = true) {r : List Value} {h : mq_H} {L : mq_L} {st : List Value} {Kp : Option Value → mq_H → Prop} {xv yv : Int32} (G : ck_g h0 r h Z) (RL : ck_rL h0 r A L) (RS : ck_rS h0 r R st) (ex : ck_rl h0 r x (.int xv)) (ey : ck_rl h0 r y (.int yv)) (I : ck_Iv X h) (md : ck_md M h0 h) (ih : ∀ c ∈ lp, ck_IH X M lL h0 m Kp r c) (cp : ck_CP X M lL h0 rt r fr Kp) : (mq_cmp o xv yv = true → mq_At mq_G (mq_tT lL) m t L st h Kp) ∧ (mq_cmp o xv yv = false → mq_At mq_G (mq_tT lL) m e L st h Kp) := by
  unfold ck_br at H
  rw [Bool.and_eq_true] at H
  constructor
  · intro hc
    obtain ⟨Z', e1, G'⟩ := ck_as_ok G ex ey hc
    have := H.1
    rw [e1] at this
    exact hk _ _ _ _ _ _ _ this r h L st Kp G' RL RS I md ih cp
  · intro hc
    obtain ⟨Z', e1, G'⟩ := ck_as_ok G ex ey (ck_ng_ok hc)
    have := H.2
    rw [e1] at this
    exact hk _ _ _ _ _ _ _ this r h L st Kp G' RL RS I md ih cp
theorem ck_sw_ok (hk : ck_Sn X M lL h0 rt k) {m d : Nat} {x : ck_A} {A R : List ck_A} {lp : List ck_C} {fr : ck_F} {r : List Value} {h : mq_H} {L : mq_L} {st : List Value} {Kp : Option Value → mq_H → Prop} {xv : Int32} (RL : ck_rL h0 r A L) (RS : ck_rS h0 r R st) (ex : ck_rl h0 r x (.int xv)) (I : ck_Iv X h) (md : ck_md M h0 h) (ih : ∀ c ∈ lp, ck_IH X M lL h0 m Kp r c) (cp : ck_CP X M lL h0 rt r fr Kp) : ∀ {l : List (Int32 × Nat)} {Z : ck_Z}, ck_g h0 r h Z → ck_sw k m x d A R lp fr l Z = true → mq_At mq_G (mq_tT lL) m (mq_find xv l d) L st h Kp
  | [], Z, G, H => hk _ _ _ _ _ _ _ H r h L st Kp G RL RS I md ih cp
  | (v, t) :: l, Z, G, H => by
    unfold ck_sw at H
    rw [Bool.and_eq_true] at H
    have ev : ck_rl h0 r (2, 0, v.toInt) (.int v) := ⟨v, rfl, rfl⟩
    by_cases e : xv = v
    · have : mq_find xv ((v, t) :: l) d = t := by simp [mq_find, e]
      rw [this]
      obtain ⟨Z', e1, G'⟩ := ck_as_ok G ex ev (o := .eq) (decide_eq_true e)
      have := H.1
      rw [e1] at this
      exact hk _ _ _ _ _ _ _ this r h L st Kp G' RL RS I md ih cp
    · have : mq_find xv ((v, t) :: l) d = mq_find xv l d := by simp [mq_find, e]
      rw [this]
      obtain ⟨Z', e1, G'⟩ := ck_as_ok G ex ev (o := .ne) (decide_eq_true e)
      have := H.2
      rw [e1] at this
      exact ck_sw_ok hk RL RS ex I md ih cp G' this
theorem ck_rt_ok (hk : ck_Sn X M lL h0 rt k) {v : Option ck_A} {Z : ck_Z} {fr : ck_F} (H : ck_rt rt k v Z fr = true) {r : List Value} {h : mq_H} {Kp : Option Value → mq_H → Prop} {w : Option Value} (G : ck_g h0 r h Z) (hv : (v = none ∧ w = none) ∨ ∃ a b, v = some a ∧ w = some b ∧ ck_rl h0 r a b) (I : ck_Iv X h) (md : ck_md M h0 h) (cp : ck_CP X M lL h0 rt r fr Kp) : Kp w h := by
  unfold ck_rt at H
  split at H
  · refine cp w h I md ?_
    unfold ck_rv
    rcases hv with ⟨rfl, rfl⟩ | ⟨a, b, rfl, rfl, e⟩
    · have H : Nat.beq rt.1 0 = true := H
      rw [Nat.eq_of_beq_eq_true H]
      rfl
    · simp only [Bool.or_eq_true, Bool.and_eq_true, decide_eq_true_eq] at H
      rcases H with ⟨t1, t2, t3, t4⟩ | ⟨t1, t2⟩
      · rw [Nat.eq_of_beq_eq_true t2]
        obtain ⟨x, rfl, e⟩ := ck_isI_in t1 e
        have := ck_r_ok G e
        exact ⟨x, rfl, by omega, by omega⟩
      · rw [Nat.eq_of_beq_eq_true t2]
        obtain ⟨x, rfl⟩ := ck_isJ_in t1 e
        exact ⟨x, rfl⟩
  · rename_i m pc A S lp fs
    obtain ⟨L, st, Kq, a1, a2, a3, a4, a5⟩ := cp
    refine a3 w h ?_
    rcases hv with ⟨rfl, rfl⟩ | ⟨a, b, rfl, rfl, e⟩
    · exact hk _ _ _ _ _ _ _ H r h L st Kq G a1 a2 I md a4 a5
    · exact hk _ _ _ _ _ _ _ H r h L (b :: st) Kq G a1 ⟨e, a2⟩ I md a4 a5
theorem ck_ca_ok (hk : ck_Sn X M lL h0 rt k) (hcs : ∀ q ∈ cs, ck_V X lL q.1 q.2) (b0 : Nat.testBit M 0 = false) {m nx a : Nat} {P R A : List ck_A} {Z : ck_Z} {lp : List ck_C} {fr : ck_F} (H : ck_ca M cs inl k m nx a P R A Z lp fr = true) {r : List Value} {h : mq_H} {L : mq_L} {as V : List Value} {Kp : Option Value → mq_H → Prop} (G : ck_g h0 r h Z) (RL : ck_rL h0 r A L) (RP : ck_rS h0 r P as) (RR : ck_rS h0 r R V) (I : ck_Iv X h) (md : ck_md M h0 h) (ih : ∀ c ∈ lp, ck_IH X M lL h0 m Kp r c) (cp : ck_CP X M lL h0 rt r fr Kp) : mq_Call mq_G (mq_tT lL) a as h (fun v h' => mq_At mq_G (mq_tT lL) m nx L (mq_tl v V) h' Kp) := by
  unfold ck_ca at H
  cases ti : inl.any (fun i => Nat.beq i a) with
  | true =>
    rw [ti] at H
    simp only [cond_true] at H
    split at H
    · rename_i y1 y2 n y3 hm
      cases t : Nat.ble (ck_cat P) n with
      | false => rw [t] at H; cases H
      | true =>
        rw [t] at H
        refine ⟨mq_en as n, ?_, ?_⟩
        · unfold mq_args
          rw [show mq_G.1 a = some (y1, y2, n, y3) from hm]
          dsimp only
          rw [ck_rem2 RP]
          have t : Nat.ble (P.foldr (fun v n => ck_ct v + n) 0) n = true := t
          rw [t]
          rfl
        · exact hk _ _ _ _ _ _ _ H r h _ [] _ G (ck_en_ok n RP) trivial I md (fun c hc => by cases hc) ⟨L, V, Kp, RL, RR, fun v h' z => z, ih, cp⟩
    · cases H
  | false =>
    rw [ti] at H
    simp only [cond_false] at H
    split at H
    · rename_i q pre ret mo hf
      have hq := List.mem_of_find?_eq_some hf
      have hqa := List.find?_some hf
      have hqa : q = a := Nat.eq_of_beq_eq_true hqa
      subst hqa
      rw [Bool.and_eq_true, Bool.and_eq_true] at H
      obtain ⟨h1, h2, h3⟩ := H
      have V0 := hcs _ hq h as I (ck_fps_ok G md b0 h1 RP)
      refine V0.mono (fun v h' ⟨I', md', hv⟩ => ?_)
      have hsub := ck_sub_of h2
      have md2 : ck_md M h0 h' := md.tr (md'.wd hsub)
      have b1 : Nat.testBit mo 0 = false := hsub 0 b0
      dsimp only at hv md'
      unfold ck_rv at hv
      split at h3
      · rename_i e
        rw [e] at hv
        subst hv
        exact hk _ _ _ _ _ _ _ h3 r h' L V Kp (ck_afc G md' b1) RL RR I' md2 ih cp
      · rename_i e
        rw [e] at hv
        obtain ⟨x, rfl, k1, k2⟩ := hv
        obtain ⟨g1, g2⟩ := ck_nw_ok G k1 k2
        have ex := ck_ex.one r (.int x)
        exact hk _ _ _ _ _ _ _ h3 _ h' L (.int x :: V) Kp (ck_afc g1 md' b1) (RL.ex ex) ⟨g2, RR.ex ex⟩ I' md2 (fun c hc => (ih c hc).ex ex) (cp.ex ex)
      · rename_i e
        rw [e] at hv
        obtain ⟨x, rfl⟩ := hv
        have ex := ck_ex.one r (.long x)
        exact hk _ _ _ _ _ _ _ h3 _ h' L (.long x :: V) Kp (ck_afc (ck_nl_ok G (.long x)) md' b1) (RL.ex ex) ⟨⟨ck_at_n G.1 _, x, rfl⟩, RR.ex ex⟩ I' md2 (fun c hc => (ih c hc).ex ex) (cp.ex ex)
      · cases h3
    · cases H
/-- one instruction -/
theorem ck_I_ok (hk : ck_Sn X M lL h0 rt k) (hcs : ∀ q ∈ cs, ck_V X lL q.1 q.2) (hX : ck_Xf X sup) (b0 : Nat.testBit M 0 = false) : ck_Sn X M lL h0 rt (ck_I M sup rt cs inl k) := by
  intro m pc A S Z lp fr H r h L st Kp G RL RS I md ih cp
  unfold ck_I at H
  cases hP : mq_cd m pc with
  | none => rw [hP] at H; cases H
  | some e =>
    obtain ⟨ins, nx, a, b, c, kk, j⟩ := e
    rw [hP] at H
    dsimp only at H
    split at H
    · exact at_nx (g := none) hP rfl rfl (hk _ _ _ _ _ _ _ H r h L st Kp G RL RS I md ih cp)
    · split at H
      · rename_i x R
        obtain ⟨w, V, rfl, e1, RS1⟩ := RS.cons
        cases t : ck_isI x with
        | false => rw [t] at H; cases H
        | true =>
          rw [t] at H
          obtain ⟨xv, rfl, e1⟩ := ck_isI_in t e1
          obtain ⟨k1, k2⟩ := ck_br_ok hk H G RL RS1 e1 (yv := 0) ⟨0, rfl, rfl⟩ I md ih cp
          exact at_bx hP rfl k1 k2
      · cases H
    · split at H
      · rename_i y x R
        obtain ⟨w, V, rfl, e1, RS1⟩ := RS.cons
        obtain ⟨w2, V2, rfl, e2, RS2⟩ := RS1.cons
        cases t : ck_isI x && ck_isI y with
        | false => rw [t] at H; cases H
        | true =>
          rw [t] at H
          rw [Bool.and_eq_true] at t
          obtain ⟨yv, rfl, e1⟩ := ck_isI_in t.2 e1
          obtain ⟨xv, rfl, e2⟩ := ck_isI_in t.1 e2
          obtain ⟨k1, k2⟩ := ck_br_ok hk H G RL RS2 e2 e1 I md ih cp
          exact at_bx hP rfl k1 k2
      · cases H
    · split at H
      · rename_i x R
        obtain ⟨w, V, rfl, e1, RS1⟩ := RS.cons
        cases t : ck_isI x with
        | false => rw [t] at H; cases H
        | true =>
          rw [t] at H
          obtain ⟨xv, rfl, e1⟩ := ck_isI_in t e1
          exact at_sx hP rfl (ck_sw_ok hk RL RS1 e1 I md ih cp G H)
      · cases H
    · split at H
      · rename_i x R
        obtain ⟨w, V, rfl, e1, RS1⟩ := RS.cons
        cases t : ck_isI x with
        | false => rw [t] at H; cases H
        | true =>
          rw [t] at H
          obtain ⟨xv, rfl, e1⟩ := ck_isI_in t e1
          exact at_sx hP rfl (ck_sw_ok hk RL RS1 e1 I md ih cp G H)
      · cases H
    · split at H
      · rename_i v
        obtain ⟨w, V, rfl, e1, RS1⟩ := RS.cons
        have := RS1.nil
        subst this
        rw [Bool.and_eq_true, Bool.and_eq_true] at H
        obtain ⟨t, t2, H⟩ := H
        obtain ⟨x, rfl, e1⟩ := ck_isI_in t e1
        have hK := ck_rt_ok hk H (w := some (.int x)) G (Or.inr ⟨v, _, rfl, rfl, e1⟩) I md cp
        cases tc : Nat.beq c 1 with
        | true =>
          rw [tc] at t2
          simp only [cond_true, Bool.and_eq_true, decide_eq_true_eq] at t2
          have := ck_r_ok G e1
          refine at_rx (g := some (mq_bit x)) (v := some (.int x)) hP ?_ (ci_bit (by omega) (by omega)) hK
          show (bif Nat.beq c 1 then mq_rx (some (mq_bit x)) (some (.int x)) else mq_rx none (some (.int x))) = _
          rw [tc]
          rfl
        | false =>
          refine at_rx (g := none) (v := some (.int x)) hP ?_ rfl hK
          show (bif Nat.beq c 1 then mq_rx (some (mq_bit x)) (some (.int x)) else mq_rx none (some (.int x))) = _
          rw [tc]
          rfl
      · cases H
    · split at H
      · rename_i v
        obtain ⟨w, V, rfl, e1, RS1⟩ := RS.cons
        have := RS1.nil
        subst this
        rw [Bool.and_eq_true] at H
        obtain ⟨x, rfl⟩ := ck_isJ_in H.1 e1
        exact at_rx (g := none) (v := some (.long x)) hP rfl rfl (ck_rt_ok hk H.2 G (Or.inr ⟨v, _, rfl, rfl, e1⟩) I md cp)
      · cases H
    · split at H
      · have := RS.nil
        subst this
        exact at_rx (g := none) (v := none) hP rfl rfl (ck_rt_ok hk H G (Or.inl ⟨rfl, rfl⟩) I md cp)
      · cases H
    · cases hW : ck_W M sup ins a b c S Z with
      | some q =>
        rw [hW] at H
        obtain ⟨st', h', g1, g2, g3, g4, g5⟩ := ck_W_ok (lL := lL) (L := L) hX hW G RS I md b0 hP
        exact g5 _ (hk _ _ _ _ _ _ _ H r h' L st' Kp g1 RL g4 g2 g3 ih cp)
      | none =>
        rw [hW] at H
        dsimp only at H
        cases hS : ck_S ins a b c kk A S Z with
        | some q =>
          rw [hS] at H
          obtain ⟨L', st', r', ex, g1, g2, g3, g4⟩ := ck_S_ok (lL := lL) hS G RL RS I.1 I.2.1 md b0 hP
          exact g4 _ (hk _ _ _ _ _ _ _ H r' h L' st' Kp g1 g2 g3 I md (fun c hc => (ih c hc).ex ex) (cp.ex ex))
        | none =>
          rw [hS] at H
          dsimp only at H
          cases hC : ck_cl ins a b c S with
          | none => rw [hC] at H; cases H
          | some q =>
            obtain ⟨P, R⟩ := q
            rw [hC] at H
            obtain ⟨as, V, e1, e2, e3⟩ := ck_cl_ok (lL := lL) (pc := pc) (nx := nx) (kk := kk) (L := L) (h := h) hC RS
            exact at_cx hP e1 rfl (ck_ca_ok hk hcs b0 H G RL e2 e3 I md ih cp)
theorem ck_mk_ok {h : mq_H} (hI : ck_IvI h) : ∀ {its : List ck_It} {Z Z1 : ck_Z} {r : List Value}, ck_g h0 r h Z → ck_mk its Z = some Z1 → ∃ r1, ck_ex r r1 ∧ ck_g h0 r1 h Z1
  | [], Z, Z1, r, G, e => by cases e; exact ⟨r, ck_ex.rf r, G⟩
  | (k0, a, k, l, u) :: its, Z, Z1, r, G, e => by
    unfold ck_mk at e
    cases t : Nat.ble k0 2 with
    | true => rw [t] at e; exact ck_mk_ok hI G e
    | false =>
      rw [t] at e
      simp only [cond_false] at e
      split at e
      · exact ck_mk_ok hI G e
      · split at e
        · rename_i l' u' hv
          obtain ⟨k1, k2⟩ := hI.1 _ _ _ _ hv
          obtain ⟨g1, g2⟩ := ck_nw_ok G k1 k2
          obtain ⟨r1, e1, G1⟩ := ck_mk_ok hI (ck_hp_ok (k := (0, a, (0, k, 0))) (v := (1, Z.1, 0)) g1 g2) e
          exact ⟨r1, (ck_ex.one r _).tr e1, G1⟩
        · cases e
theorem ck_fc_ok {pc : Nat} : ∀ {lp : List ck_C} {c : ck_C}, ck_fc pc lp = some c → c ∈ lp ∧ c.1 = pc
  | [], _, e => by cases e
  | d :: lp, c, e => by
    unfold ck_fc at e
    cases t : Nat.beq d.1 pc with
    | true =>
      rw [t] at e
      cases e
      exact ⟨List.mem_cons_self, Nat.eq_of_beq_eq_true t⟩
    | false =>
      rw [t] at e
      obtain ⟨h1, h2⟩ := ck_fc_ok e
      exact ⟨List.mem_cons_of_mem _ h1, h2⟩
theorem ck_go_ok (hcs : ∀ q ∈ cs, ck_V X lL q.1 q.2) (hX : ck_Xf X sup) (b0 : Nat.testBit M 0 = false) {an : List (Nat × Nat × ck_B)} : ∀ f, ck_Sn X M lL h0 rt (ck_go M sup rt cs inl an f)
  | 0 => fun _ _ _ _ _ _ _ H => by cases H
  | f + 1 => by
    have hk := ck_I_ok (inl := inl) (ck_go_ok hcs hX b0 (an := an) f) hcs hX b0
    intro m pc A S Z lp fr H r h L st Kp G RL RS I md ih cp
    unfold ck_go at H
    split at H
    · exact hk _ _ _ _ _ _ _ H r h L st Kp G RL RS I md ih cp
    · rename_i y1 y2 B hf
      split at H
      · rename_i c hc
        obtain ⟨c1, c2⟩ := ck_fc_ok hc
        have := ck_bk_ok H G RL RS I md (ih c c1)
        rw [c2] at this
        exact this
      · split at H
        · cases H
        · rename_i Z1 hm
          obtain ⟨r1, ex1, G1⟩ := ck_mk_ok I.1 G hm
          rw [Bool.and_eq_true] at H
          obtain ⟨hft, H⟩ := H
          unfold ck_ft at hft
          rw [Bool.and_eq_true] at hft
          have RL1 := RL.ex ex1
          have RS1 := RS.ex ex1
          have HF : ck_fH h0 r1 h (Z1.2.2.2.2.filter (fun q => !(ck_km B.2.1 q.1))) := fun q hq => G1.2.2.2.2 q (List.mem_filter.mp hq).1
          generalize Z1.2.2.2.2.filter (fun q => !(ck_km B.2.1 q.1)) = H0 at H HF
          have WA : ck_wA h0 r1 B.1 A L := ⟨RL1.1, fun i v hv => by
            rcases RL1.2 i v hv with z | z
            · exact Or.inl z
            · exact Or.inr (Or.inl z)⟩
          have WH : ck_wH h0 r1 h B.1 H0 := fun e he => Or.inl (HF e he)
          obtain ⟨a1, a2, a3, a4⟩ := ck_hv_ok B.1 Z1.1 A H0 r1 G1.1 WA WH (ck_ft_oi hft.1 G1 RL1)
          have ex0 : ck_ex r1 (r1 ++ ck_vs B.1 L h) := ⟨_, rfl⟩
          dsimp only at H
          split at H
          · rename_i D' s hD hs
            -- every state that fits the head
            have main : ∀ n r2 h2 L2 st2 x, ck_hd X M h0 B Z1.1 A S H0 r1 s r2 h2 L2 st2 x → ck_mes B.2.2.2.2 x = n → mq_At mq_G (mq_tT lL) m pc L2 st2 h2 Kp := by
              intro n
              induction n using Nat.strongRecOn with
              | _ n IH =>
                intro r2 h2 L2 st2 x hh hn
                obtain ⟨q1, q2, q3, q4, q5, q6, q7, q8, q9, q10⟩ := hh
                refine hk _ _ _ _ _ _ _ H r2 h2 L2 st2 Kp ⟨q2, ?_, ?_, G1.2.2.2.1.ex q1, q5⟩ q8 q9 q6 q7 ?_ (cp.ex (ex1.tr q1))
                · intro q hq
                  rcases List.mem_append.mp hq with hq | hq
                  · exact q3 q hq
                  · exact (G1.2.1.ex q1) q hq
                · intro q hq
                  rcases List.mem_append.mp hq with hq | hq
                  · exact q4 D' hD q hq
                  · exact (G1.2.2.1.ex q1) q hq
                · intro c hc
                  rcases List.mem_cons.mp hc with rfl | hc
                  · refine ⟨r1, L, st, h, s, x, q1, G1.1, RL1, RS1, HF, hs, q10, fun r3 h3 L3 st3 x3 hh3 hdir => ?_⟩
                    exact IH _ (by rw [← hn]; exact ck_mes_lt hdir) r3 h3 L3 st3 x3 hh3 rfl
                  · exact (ih c hc).ex (ex1.tr q1)
            have hx : ∃ x, (r1 ++ ck_vs B.1 L h)[s]? = some (.int x) := by
              have e := ck_sy_ok hs
              unfold ck_lv at e
              cases t : Nat.beq B.2.2.2.1.1 0 with
              | true =>
                rw [t] at e
                simp only [cond_true] at e
                rcases a2.2 _ _ e with z | ⟨w, -, y, y', k1, -, -⟩
                · cases z
                · exact ⟨y, k1⟩
              | false =>
                rw [t] at e
                simp only [cond_false] at e
                have k1 : ck_rl h0 (r1 ++ ck_vs B.1 L h) (1, s, 0) (.int (mq_I h B.2.2.2.1.2.1 B.2.2.2.1.2.2)) := a4 _ (ck_get_ok e)
                obtain ⟨y, y', k1, -, -⟩ := k1
                exact ⟨y, k1⟩
            obtain ⟨x, hx⟩ := hx
            exact main _ _ h L st x ⟨ex0, a1, a3, fun D'' hD'' => ck_dn_ok G1 RL1 a2 a4 hft.2 hD'', a4, I, md, a2, RS1.ex ex0, hx⟩ rfl
          · cases H
theorem ck_s0_ok {h : mq_H} : ∀ {P : List ck_Ps} {as : List Value} (n : Nat) (r : List Value), r.length = n → P.all (fun p => Nat.beq p.1 1 || (Nat.beq p.1 3 || (Nat.beq p.1 4 || Nat.beq p.1 5))) = true → ck_pvs h P as → ∃ r', ck_ex r r' ∧ r'.length = (ck_s0 P n).2.2 ∧ ck_fF r' (ck_s0 P n).2.1 ∧ ck_rS h r' (ck_s0 P n).1 as
  | [], [], n, r, hn, _, _ => ⟨r, ck_ex.rf r, hn, (fun q hq => by cases hq), trivial⟩
  | (p1, p2, p3, p4) :: P, v :: as, n, r, hn, ha, H => by
    rw [List.all_cons, Bool.and_eq_true] at ha
    obtain ⟨ha, hP⟩ := ha
    obtain ⟨hv, H⟩ := H
    have h1 : p1 = 1 ∨ p1 = 3 ∨ p1 = 4 ∨ p1 = 5 := by
      simp only [Bool.or_eq_true] at ha
      rcases ha with z | z | z | z
      · exact Or.inl (Nat.eq_of_beq_eq_true z)
      · exact Or.inr (Or.inl (Nat.eq_of_beq_eq_true z))
      · exact Or.inr (Or.inr (Or.inl (Nat.eq_of_beq_eq_true z)))
      · exact Or.inr (Or.inr (Or.inr (Nat.eq_of_beq_eq_true z)))
    have en := ck_at_n hn v
    rcases h1 with rfl | rfl | rfl | rfl
    · obtain ⟨x, rfl, k1, k2⟩ := hv
      obtain ⟨r', e1, e2, e3, e4⟩ := ck_s0_ok (n + 1) (r ++ [.int x]) (by simp [hn]) hP H
      refine ⟨r', (ck_ex.one r _).tr e1, e2, ?_, ⟨x, x, e1.get en, rfl, by simp⟩, e4⟩
      intro q hq
      rcases List.mem_cons.mp hq with rfl | hq
      · exact ⟨x, e1.get en, k1, k2⟩
      · exact e3 q hq
    · obtain ⟨r', e1, e2, e3, e4⟩ := ck_s0_ok n r hn hP H
      exact ⟨r', e1, e2, e3, hv, e4⟩
    · obtain ⟨r', e1, e2, e3, e4⟩ := ck_s0_ok (n + 1) (r ++ [v]) (by simp [hn]) hP H
      exact ⟨r', (ck_ex.one r _).tr e1, e2, e3, ⟨e1.get en, hv⟩, e4⟩
    · obtain ⟨r', e1, e2, e3, e4⟩ := ck_s0_ok (n + 1) (r ++ [v]) (by simp [hn]) hP H
      exact ⟨r', (ck_ex.one r _).tr e1, e2, e3, ⟨e1.get en, hv⟩, e4⟩
end CKD
/-- A METHOD THAT THE CHECKER PASSES KEEPS ITS CONTRACT -/
theorem ck_me_ok {X : mq_H → Prop} {sup lL : Nat} (hX : ck_Xf X sup) {cs : List (Nat × ck_T)} (hcs : ∀ q ∈ cs, ck_V X lL q.1 q.2) {inl : List Nat} {an : List (Nat × Nat × ck_B)} {f m : Nat} {C : ck_T} (H : ck_me sup cs inl an f m C = true) : ck_V X lL m C := by
  intro h as I hp
  unfold ck_me at H
  simp only [Bool.and_eq_true, Bool.not_eq_true'] at H
  obtain ⟨b0, hall, H⟩ := H
  split at H
  · rename_i y1 y2 n y3 P F n0 hm hs
    rw [Bool.and_eq_true] at H
    obtain ⟨r, e1, e2, e3, e4⟩ := ck_s0_ok (h := h) 0 [] rfl hall hp
    rw [hs] at e2 e3 e4
    refine ⟨mq_en as n, ?_, ?_⟩
    · unfold mq_args
      rw [show mq_G.1 m = some (y1, y2, n, y3) from hm]
      dsimp only
      rw [ck_rem2 e4]
      have t : Nat.ble (P.foldr (fun v n => ck_ct v + n) 0) n = true := H.1
      rw [t]
      rfl
    · exact ck_go_ok (h0 := h) hcs hX b0 f _ _ _ _ _ _ _ H.2 r h _ [] _ ⟨e2, e3, (fun q hq => by cases hq), (fun q hq => by cases hq), (fun q hq => by cases hq)⟩ (ck_en_ok n e4) trivial I (ck_md.rf _ _) (fun c hc => by cases hc) (fun v h' a b c => ⟨a, b, c⟩)
  · cases H
