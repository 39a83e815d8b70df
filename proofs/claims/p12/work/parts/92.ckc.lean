/-! THE CHECKER, 13: it is right -/
def ck_mes (dir : Bool) (x : Int32) : Nat := match dir with
  | true => (2147483647 - x.toInt).toNat
  | false => (x.toInt + 2147483648).toNat
def ck_dirP (dir : Bool) (xo x : Int32) : Prop := match dir with
  | true => xo.toInt < x.toInt
  | false => x.toInt < xo.toInt
theorem ck_mes_lt {dir : Bool} {xo x : Int32} (h : ck_dirP dir xo x) : ck_mes dir x < ck_mes dir xo := by
  have a := ci_rng x
  have b := ci_rng xo
  cases dir with
  | true => have h : xo.toInt < x.toInt := h; show (2147483647 - x.toInt).toNat < (2147483647 - xo.toInt).toNat; omega
  | false => have h : x.toInt < xo.toInt := h; show (x.toInt + 2147483648).toNat < (xo.toInt + 2147483648).toNat; omega
/-- what the head of a loop asks of a state -/
def ck_hd (X : mq_H → Prop) (M : Nat) (h0 : mq_H) (B : ck_B) (n0 : Nat) (A0 S0 : List ck_A) (H0 : ck_Hs) (r0 : List Value) (s : Nat) (r2 : List Value) (h2 : mq_H) (L2 : mq_L) (st2 : List Value) (x : Int32) : Prop := ck_ex r0 r2 ∧ r2.length = (ck_hv B.1 n0 A0 H0).1 ∧ ck_fF r2 (ck_hv B.1 n0 A0 H0).2.2.1 ∧ (∀ D', ck_dn B.2.2.1 (ck_hv B.1 n0 A0 H0).2.1 (ck_hv B.1 n0 A0 H0).2.2.2 = some D' → ck_fD r2 D') ∧ ck_fH h0 r2 h2 (ck_hv B.1 n0 A0 H0).2.2.2 ∧ ck_Iv X h2 ∧ ck_md M h0 h2 ∧ ck_rL h0 r2 (ck_hv B.1 n0 A0 H0).2.1 L2 ∧ ck_rS h0 r2 S0 st2 ∧ r2[s]? = some (.int x)
def ck_IH (X : mq_H → Prop) (M lL : Nat) (h0 : mq_H) (m : Nat) (Kp : Option Value → mq_H → Prop) (r : List Value) (c : ck_C) : Prop := ∃ (r0 : List Value) (L0 : mq_L) (st0 : List Value) (ha : mq_H) (s : Nat) (xo : Int32), ck_ex r0 r ∧ r0.length = c.2.1 ∧ ck_rL h0 r0 c.2.2.1 L0 ∧ ck_rS h0 r0 c.2.2.2.1 st0 ∧ ck_fH h0 r0 ha c.2.2.2.2.1 ∧ ck_sy (ck_lv c.2.2.2.2.2.2.2.2.1 (ck_hv c.2.2.2.2.2.1 c.2.1 c.2.2.1 c.2.2.2.2.1).2.1 (ck_hv c.2.2.2.2.2.1 c.2.1 c.2.2.1 c.2.2.2.2.1).2.2.2) = some s ∧ r[s]? = some (.int xo) ∧ ∀ r2 h2 L2 st2 x, ck_hd X M h0 c.2.2.2.2.2 c.2.1 c.2.2.1 c.2.2.2.1 c.2.2.2.2.1 r0 s r2 h2 L2 st2 x → ck_dirP c.2.2.2.2.2.2.2.2.2 xo x → mq_At mq_G (mq_tT lL) m c.1 L2 st2 h2 Kp
def ck_CP (X : mq_H → Prop) (M lL : Nat) (h0 : mq_H) (rt : Nat × Int × Int) (r : List Value) : ck_F → (Option Value → mq_H → Prop) → Prop
  | [], Kp => ∀ v h', ck_Iv X h' → ck_md M h0 h' → ck_rv rt v → Kp v h'
  | (m, pc, A, S, lp) :: fs, Kp => ∃ (L : mq_L) (st : List Value) (Kq : Option Value → mq_H → Prop), ck_rL h0 r A L ∧ ck_rS h0 r S st ∧ (∀ v h', mq_At mq_G (mq_tT lL) m pc L (mq_tl v st) h' Kq → Kp v h') ∧ (∀ c ∈ lp, ck_IH X M lL h0 m Kq r c) ∧ ck_CP X M lL h0 rt r fs Kq
section CKC
variable {X : mq_H → Prop} {M sup lL : Nat} {h0 : mq_H} {rt : Nat × Int × Int}
theorem ck_IH.ex {m : Nat} {Kp : Option Value → mq_H → Prop} {r r' : List Value} {c : ck_C} (H : ck_IH X M lL h0 m Kp r c) (e : ck_ex r r') : ck_IH X M lL h0 m Kp r' c := by
  obtain ⟨r0, L0, st0, ha, s, xo, a1, a2, a3, a4, a5, a6, a7, a8⟩ := H
  exact ⟨r0, L0, st0, ha, s, xo, a1.tr e, a2, a3, a4, a5, a6, e.get a7, a8⟩
theorem ck_CP.ex {r r' : List Value} (e : ck_ex r r') : ∀ {fr : ck_F} {Kp : Option Value → mq_H → Prop}, ck_CP X M lL h0 rt r fr Kp → ck_CP X M lL h0 rt r' fr Kp
  | [], _, H => H
  | (_, _, _, _, _) :: _, _, ⟨L, st, Kq, a1, a2, a3, a4, a5⟩ => ⟨L, st, Kq, a1.ex e, a2.ex e, a3, fun c hc => (a4 c hc).ex e, ck_CP.ex e a5⟩
/-- a checker's part is right -/
def ck_Sn (X : mq_H → Prop) (M lL : Nat) (h0 : mq_H) (rt : Nat × Int × Int) (k : ck_Kt) : Prop := ∀ m pc A S Z lp fr, k m pc A S Z lp fr = true → ∀ r h L st Kp, ck_g h0 r h Z → ck_rL h0 r A L → ck_rS h0 r S st → ck_Iv X h → ck_md M h0 h → (∀ c ∈ lp, ck_IH X M lL h0 m Kp r c) → ck_CP X M lL h0 rt r fr Kp → mq_At mq_G (mq_tT lL) m pc L st h Kp
theorem ck_sy_ok {o : Option ck_A} {s : Nat} (H : ck_sy o = some s) : o = some (1, s, 0) := by
  unfold ck_sy at H
  split at H
  · rename_i v
    cases t : Nat.beq v.1 1 && ck_ie v.2.2 0 with
    | false => rw [t] at H; cases H
    | true =>
      rw [t] at H
      rw [Bool.and_eq_true] at t
      cases H
      obtain ⟨v1, v2, v3⟩ := v
      have e1 : v1 = 1 := Nat.eq_of_beq_eq_true t.1
      have e2 : v3 = 0 := of_decide_eq_true t.2
      rw [e1, e2]
  · cases H
/-- a place at the head and now -/
theorem ck_lv_ok {q : ck_Lr} {A A' : List ck_A} {H' : ck_Hs} {Z : ck_Z} {r r2 : List Value} {h : mq_H} {L : mq_L} {s : Nat} {v : ck_A} (hs : ck_sy (ck_lv q A' H') = some s) (hv : ck_lv q A Z.2.2.2.2 = some v) (iv : ck_isI v = true) (G : ck_g h0 r h Z) (RL : ck_rL h0 r A L) (RL2 : ck_rL h0 r2 A' L) (FH2 : ck_fH h0 r2 h H') : ∃ x : Int32, r2[s]? = some (.int x) ∧ ck_rl h0 r v (.int x) := by
  have hs := ck_sy_ok hs
  unfold ck_lv at hs hv
  cases t : Nat.beq q.1 0 with
  | true =>
    rw [t] at hs hv
    simp only [cond_true] at hs hv
    rcases RL2.2 _ _ hs with z | ⟨w, z1, y, y', k1, k2, k3⟩
    · cases z
    rcases RL.2 _ _ hv with z | ⟨w', z2, z3⟩
    · unfold ck_isI at iv; rw [z] at iv; cases iv
    rw [z1] at z2
    cases z2
    dsimp only at k1 k3
    have : y' = y := Int32.toInt_inj.mp (by omega)
    subst this
    subst k2
    exact ⟨y', k1, z3⟩
  | false =>
    rw [t] at hs hv
    simp only [cond_false] at hs hv
    have k1 : ck_rl h0 r2 (1, s, 0) (.int (mq_I h q.2.1 q.2.2)) := FH2 _ (ck_get_ok hs)
    have k2 : ck_rl h0 r v (.int (mq_I h q.2.1 q.2.2)) := G.2.2.2.2 _ (ck_get_ok hv)
    obtain ⟨y, y', k1, k3, k4⟩ := k1
    cases k3
    dsimp only at k1 k4
    have : mq_I h q.2.1 q.2.2 = y := Int32.toInt_inj.mp (by omega)
    rw [← this] at k1
    exact ⟨_, k1, k2⟩
theorem ck_dn_ok {A A' : List ck_A} {H' : ck_Hs} {Z : ck_Z} {r r2 : List Value} {h : mq_H} {L : mq_L} (G : ck_g h0 r h Z) (RL : ck_rL h0 r A L) (RL2 : ck_rL h0 r2 A' L) (FH2 : ck_fH h0 r2 h H') : ∀ {ds : List (ck_Lr × ck_Lr × Int)} {D' : ck_Ds}, ds.all (ck_fd Z A) = true → ck_dn ds A' H' = some D' → ck_fD r2 D'
  | [], D', _, e => by cases e; intro q hq; cases hq
  | (x, y, c) :: ds, D', hd, e => by
    unfold ck_dn at e
    split at e
    · rename_i s t D hs ht hD
      cases e
      rw [List.all_cons, Bool.and_eq_true] at hd
      intro q hq
      rcases List.mem_cons.mp hq with rfl | hq
      · have hf := hd.1
        unfold ck_fd at hf
        split at hf
        · rename_i v w hv hw
          simp only [Bool.and_eq_true] at hf
          obtain ⟨x', k1, k2⟩ := ck_lv_ok hs hv hf.1 G RL RL2 FH2
          obtain ⟨y', k3, k4⟩ := ck_lv_ok ht hw hf.2.1 G RL RL2 FH2
          exact ⟨x', y', k1, k3, ck_le_ok G k2 k4 hf.2.2⟩
        · cases hf
      · exact ck_dn_ok G RL RL2 FH2 hd.2 hD q hq
    · cases e
theorem ck_smS_ok : ∀ {A B : List ck_A}, ck_smS A B = true → A = B
  | [], [], _ => rfl
  | a :: A, b :: B, H => by
    unfold ck_smS at H
    rw [Bool.and_eq_true] at H
    rw [ck_ae_eq H.1, ck_smS_ok H.2]
  | [], _ :: _, H => by cases H
  | _ :: _, [], H => by cases H
theorem ck_smL_ok {its : List ck_It} : ∀ {i : Nat} {A B : List ck_A}, ck_smL its i A B = true → A.length = B.length ∧ ∀ (j : Nat) (b : ck_A), B[j]? = some b → A[j]? = some b ∨ ∃ q ∈ its, q.1 ≤ 2 ∧ q.2.1 = i + j
  | _, [], [], _ => ⟨rfl, fun j b hb => by cases hb⟩
  | i, a :: A, b :: B, H => by
    unfold ck_smL at H
    rw [Bool.and_eq_true, Bool.or_eq_true] at H
    have ih := ck_smL_ok H.2
    refine ⟨by simp [ih.1], fun j w hw => ?_⟩
    match j with
    | 0 =>
      cases hw
      rcases H.1 with z | z
      · rw [ck_ae_eq z]; exact Or.inl rfl
      · obtain ⟨q, hq, hz⟩ := List.any_eq_true.mp z
        rw [Bool.and_eq_true] at hz
        exact Or.inr ⟨q, hq, Nat.le_of_ble_eq_true hz.1, Nat.eq_of_beq_eq_true hz.2⟩
    | j + 1 =>
      rcases ih.2 j w hw with z | ⟨q, hq, z1, z2⟩
      · exact Or.inl z
      · exact Or.inr ⟨q, hq, z1, by omega⟩
  | _, [], _ :: _, H => by cases H
  | _, _ :: _, [], H => by cases H
theorem ck_rS.fn {r : List Value} : ∀ {A : List ck_A} {V W : List Value}, ck_rS h0 r A V → ck_rS h0 r A W → V = W
  | [], [], [], _, _ => rfl
  | a :: A, v :: V, w :: W, H, K => by rw [ck_rl.fn H.1 K.1, ck_rS.fn H.2 K.2]
/-- BACK AT THE HEAD -/
theorem ck_bk_ok {m : Nat} {c : ck_C} {A S : List ck_A} {Z : ck_Z} (H : ck_bk c A S Z = true) {r : List Value} {h : mq_H} {L : mq_L} {st : List Value} {Kp : Option Value → mq_H → Prop} (G : ck_g h0 r h Z) (RL : ck_rL h0 r A L) (RS : ck_rS h0 r S st) (I : ck_Iv X h) (md : ck_md M h0 h) (ih : ck_IH X M lL h0 m Kp r c) : mq_At mq_G (mq_tT lL) m c.1 L st h Kp := by
  obtain ⟨pc, n0, A0, S0, H0, B⟩ := c
  obtain ⟨r0, L0, st0, ha, s, xo, e1, e2, e3, e4, e5, e6, e7, e8⟩ := ih
  unfold ck_bk at H
  dsimp only at H e1 e2 e3 e4 e5 e6 e7 e8 ⊢
  simp only [Bool.and_eq_true] at H
  obtain ⟨h1, h2, h3, h4, h5⟩ := H
  unfold ck_ft at h1
  rw [Bool.and_eq_true] at h1
  obtain ⟨l1, l2⟩ := ck_smL_ok h2
  have hS := ck_smS_ok h3
  subst hS
  have hst : st = st0 := ck_rS.fn RS (e4.ex e1)
  subst hst
  have WA : ck_wA h0 r0 B.1 A0 L := by
    refine ⟨l1.symm.trans RL.1, fun i v hv => ?_⟩
    rcases l2 i v hv with z | ⟨q, z1, z2, z3⟩
    · rcases RL.2 i v z with y | ⟨w, y1, y2⟩
      · exact Or.inl y
      · rcases e3.2 i v hv with y | ⟨w0, y3, y4⟩
        · exact Or.inl y
        · have := ck_rl.fn y2 (y4.ex e1)
          subst this
          exact Or.inr (Or.inl ⟨w, y1, y4⟩)
    · exact Or.inr (Or.inr ⟨q, z1, z2, by omega⟩)
  have WH : ck_wH h0 r0 h B.1 H0 := by
    intro e he
    have := List.all_eq_true.mp h4 e he
    rw [Bool.or_eq_true] at this
    rcases this with z | z
    · obtain ⟨q, hq, hz⟩ := List.any_eq_true.mp z
      rw [Bool.and_eq_true] at hz
      exact Or.inr ⟨q, hq, Nat.le_of_ble_eq_true hz.1, ck_ke_eq hz.2⟩
    · split at z
      · rename_i w hw
        have := ck_ae_eq z
        subst this
        exact Or.inl ((e5 e he).back e1 (G.2.2.2.2 _ (ck_get_ok hw)))
      · cases z
  obtain ⟨a1, a2, a3, a4⟩ := ck_hv_ok B.1 n0 A0 H0 r0 e2 WA WH (ck_ft_oi h1.1 G RL)
  have ex0 : ck_ex r0 (r0 ++ ck_vs B.1 L h) := ⟨_, rfl⟩
  rw [e6] at h5
  split at h5
  · rename_i s' v hs' hv
    cases hs'
    rw [Bool.and_eq_true] at h5
    obtain ⟨x, k1, k2⟩ := ck_lv_ok e6 hv h5.1 G RL a2 a4
    refine e8 _ h L st x ⟨ex0, a1, a3, fun D' hD => ck_dn_ok G RL a2 a4 h1.2 hD, a4, I, md, a2, e4.ex ex0, k1⟩ ?_
    have ko : ck_rl h0 r (1, s, 0) (.int xo) := ⟨xo, xo, e7, rfl, by simp⟩
    unfold ck_dirP
    cases hd : B.2.2.2.2 with
    | true =>
      rw [hd] at h5
      have := ck_le_ok G ko k2 h5.2
      show xo.toInt < x.toInt
      omega
    | false =>
      rw [hd] at h5
      have := ck_le_ok G k2 ko h5.2
      show x.toInt < xo.toInt
      omega
  · cases h5
end CKC
