/-! what waits; settles; readAny -/
section XI
variable {G : x_GT} {lL : Nat} {h h' h2 : mq_H} {Q : Option Value → mq_H → Prop}
/-- what waits: (how its top stands: 0 nothing or a bracket, 1 an or, 2 an and, 3 a not; open ones; joints; brackets) -/
def x_pd (v : Nat → Int32) : Nat → Option (Nat × Nat × Nat × Nat)
  | 0 => some (0, 0, 0, 0)
  | p + 1 => match x_pd v p with
    | none => none
    | some (t, op, nb, br) => if v p = 9 then some (3, op + 1, nb, br) else if v p = 12 then some (0, op + 1, nb, br + 1) else if v p = 11 then (if t = 0 then some (1, op, nb + 1, br) else none) else if v p = 10 then (if t ≤ 1 then some (2, op, nb + 1, br) else none) else none
theorem x_pd_cong {v v' : Nat → Int32} : ∀ (p : Nat), (∀ i, i < p → v' i = v i) → x_pd v' p = x_pd v p
  | 0, _ => rfl
  | p + 1, h => by
    unfold x_pd
    rw [x_pd_cong p (fun i hi => h i (by omega)), h p (by omega)]
theorem x_pd_top {v : Nat → Int32} {p t op nb br : Nat} (H : x_pd v (p + 1) = some (t, op, nb, br)) : (v p = 9 ∧ t = 3 ∧ 1 ≤ op ∧ ∃ t', x_pd v p = some (t', op - 1, nb, br)) ∨ (v p = 12 ∧ t = 0 ∧ 1 ≤ op ∧ 1 ≤ br ∧ ∃ t', x_pd v p = some (t', op - 1, nb, br - 1)) ∨ (v p = 11 ∧ t = 1 ∧ 1 ≤ nb ∧ x_pd v p = some (0, op, nb - 1, br)) ∨ (v p = 10 ∧ t = 2 ∧ 1 ≤ nb ∧ ∃ t', t' ≤ 1 ∧ x_pd v p = some (t', op, nb - 1, br)) := by
  unfold x_pd at H
  cases e : x_pd v p with
  | none => rw [e] at H; cases H
  | some q =>
    obtain ⟨t', op', nb', br'⟩ := q
    rw [e] at H
    dsimp only at H
    split at H
    · rename_i z; cases H; exact Or.inl ⟨z, rfl, by omega, t', rfl⟩
    · split at H
      · rename_i z; cases H; exact Or.inr (Or.inl ⟨z, rfl, by omega, by omega, t', rfl⟩)
      · split at H
        · rename_i z
          split at H
          · rename_i z2; cases H; subst z2; exact Or.inr (Or.inr (Or.inl ⟨z, rfl, by omega, rfl⟩))
          · cases H
        · split at H
          · rename_i z
            split at H
            · rename_i z2; cases H; exact Or.inr (Or.inr (Or.inr ⟨z, rfl, by omega, t', z2, rfl⟩))
            · cases H
          · cases H
theorem x_pd_le {v : Nat → Int32} : ∀ (p t op nb br : Nat), x_pd v p = some (t, op, nb, br) → p + (2 - t) ≤ 3 * op + 2 ∧ t ≤ 3 ∧ br ≤ op
  | 0, t, op, nb, br, h => by cases h; omega
  | p + 1, t, op, nb, br, h => by
    rcases x_pd_top h with ⟨-, e1, e2, t', e3⟩ | ⟨-, e1, e2, e3, t', e4⟩ | ⟨-, e1, e2, e3⟩ | ⟨-, e1, e2, t', e3, e4⟩
    · have := x_pd_le p _ _ _ _ e3; omega
    · have := x_pd_le p _ _ _ _ e4; omega
    · have := x_pd_le p _ _ _ _ e3; omega
    · have := x_pd_le p _ _ _ _ e4; omega
def x_WM : Nat := 1993841993677373809355710590420516864
def x_SM : Nat := 2616917616701553124779370149926928384
def x_AM : Nat := 10592589827555103137258571720378286080
theorem x_WA {h h' : mq_H} (m : ck_md x_WM h h') : ck_md x_AM h h' := m.wd (ck_sub_of (by decide))
theorem x_SA {h h' : mq_H} (m : ck_md x_SM h h') : ck_md x_AM h h' := m.wd (ck_sub_of (by decide))
theorem x_QA {h h' : mq_H} (m : ck_md x_QM h h') : ck_md x_AM h h' := m.wd (ck_sub_of (by decide))
theorem x_RA {h h' : mq_H} (m : ck_md x_RM h h') : ck_md x_AM h h' := m.wd (ck_sub_of (by decide))
theorem x_waits (I : ck_Iv x_X h) {p : Nat} (ep : mq_I h 59 42 = nI p) (hp : p < 40) {w : Int32} (hq : ∀ h2, ck_Iv x_X h2 → ck_md x_WM h h2 → mq_I h2 59 42 = nI (p + 1) → (∀ k, ¬ k = p → mq_I h2 90 k = mq_I h 90 k) → mq_I h2 90 p = w → Q none h2) : mq_Call mq_G (mq_tT lL) 171 [.retAddr 59, .int w] h Q := by
  have hcl := x_cl ep (by omega)
  have K1 := x_set (a := 90) (k := p) (x := w) I (ck_md.rf x_WM h) (by decide) (show ck_wl _ x_sup (ck_lca 90) = true by decide) (fun l u z => by cases z) (fun n l u z _ => by cases z; exact ci_rng _)
  have e2 : mq_I h 59 42 + 1 = nI (p + 1) := by rw [ep]; exact nI_1 _
  have K2 := x_set (a := 59) (k := 42) (x := mq_I h 59 42 + 1) K1.1 K1.2 (by decide) (show ck_wl _ x_sup (ck_lc 59 42) = true by decide) (fun l u z => by cases z; rw [e2, nI_toInt (by omega)]; omega) (fun n l u z _ => by cases z)
  apply mq_enter 60 []
  refine gq_i (x_inb ep hp (by decide)) ?_
  show Q none (mq_setI (mq_setI h 90 (mq_I h 59 42).toNatClampNeg w) 59 42 (mq_I h 59 42 + 1))
  rw [hcl]
  exact hq _ K2.1 K2.2 e2 (fun k hk => if_neg hk) (if_pos rfl)
/-- the state of readAny: u 1 behind a condition, 0 ahead of one -/
def x_as (G : x_GT) (h : mq_H) (T lf u f t br p : Nat) : Prop := ∃ c op nb, x_ps G h T lf c (nb + u) f ∧ mq_I h 59 42 = nI p ∧ x_pd (mq_I h 90) p = some (t, op, nb, br) ∧ mq_I h 59 40 = nI op ∧ op ≤ 8 ∧ c + p ≤ f
theorem x_settles (I : ck_Iv x_X h) {T lf f t br p : Nat} (S : x_as G h T lf 1 f t br p) (hT : T ≤ 400) {w : Int32} (hw : w = 9 ∨ w = 10 ∨ w = 11) (hq : ∀ h2 t2 p2, ck_Iv x_X h2 → ck_md x_SM h h2 → x_as G h2 T lf 1 f t2 br p2 → (w = 9 → ¬ t2 = 3) → (w = 10 → ¬ t2 = 2 ∧ (t2 = t ∨ t2 ≤ 1)) → (w = 11 → ¬ t2 = 1 ∧ (t2 = t ∨ t2 = 0)) → Q none h2) : mq_Call mq_G (mq_tT lL) 172 [.retAddr 59, .int w] h Q := by
  have key : ∀ (p t' : Nat) (h' : mq_H), ck_Iv x_X h' → ck_md x_SM h h' → x_as G h' T lf 1 f t' br p → (w = 10 → t' = t ∨ t' ≤ 1) → (w = 11 → t' = t ∨ t' = 0) → mq_At mq_G (mq_tT lL) 172 0 [some (.retAddr 59), some (.int w)] [] h' Q := by
    intro p
    induction p with
    | zero =>
      intro t' h' I' m S r1 r2
      have S' := S
      obtain ⟨c, op, nb, P, ep, hpd, eo, ho, hc⟩ := S
      apply mq_go 40 []
      refine bq_t (by rw [ep]; decide) ?_
      have e : t' = 0 := by
        unfold x_pd at hpd
        cases hpd
        rfl
      subst e
      exact hq h' 0 0 I' m S' (fun _ => by decide) (fun z => ⟨by decide, r1 z⟩) (fun z => ⟨by decide, r2 z⟩)
    | succ p ih =>
      intro t' h' I' m S r1 r2
      have S' := S
      obtain ⟨c, op, nb, P, ep, hpd, eo, ho, hc⟩ := S
      have hle := x_pd_le _ _ _ _ _ hpd
      have f5 := P.f5 hT
      have e1 : mq_I h' 59 42 - 1 = nI p := by rw [ep]; exact nI_pred _
      have tp : mq_I h' 90 (mq_I h' 59 42 - 1).toNatClampNeg = mq_I h' 90 p := by rw [x_cl e1 (by omega)]
      apply mq_go 40 [0]
      refine bq_f (by rw [ep]; exact nI_nle (by omega) (by omega)) ?_
      refine gq_i (x_inb e1 (by omega) (by decide)) ?_
      refine bn_c (fun ne => ?_) (fun eq => ?_)
      · rw [tp] at ne
        have tops := x_pd_top hpd
        refine hq h' t' (p + 1) I' m S' (fun z => ?_) (fun z => ⟨?_, r1 z⟩) (fun z => ⟨?_, r2 z⟩)
        · subst z
          rcases tops with ⟨y, -⟩ | ⟨-, y, -⟩ | ⟨-, y, -⟩ | ⟨-, y, -⟩
          · exact absurd y ne
          · omega
          · omega
          · omega
        · subst z
          rcases tops with ⟨-, y, -⟩ | ⟨-, y, -⟩ | ⟨-, y, -⟩ | ⟨y, -⟩
          · omega
          · omega
          · omega
          · exact absurd y ne
        · subst z
          rcases tops with ⟨-, y, -⟩ | ⟨-, y, -⟩ | ⟨y, -⟩ | ⟨-, y, -⟩
          · omega
          · omega
          · exact absurd y ne
          · omega
      · rw [tp] at eq
        have K1 := x_set (a := 59) (k := 42) (x := mq_I h' 59 42 - 1) I' m (by decide) (show ck_wl _ x_sup (ck_lc 59 42) = true by decide) (fun l u z => by cases z; rw [e1, nI_toInt (by omega)]; omega) (fun n l u z _ => by cases z)
        obtain ⟨h1, eh1⟩ : ∃ H, H = mq_setI h' 59 42 (mq_I h' 59 42 - 1) := ⟨_, rfl⟩
        have P1 : x_ps G h1 T lf c (nb + 1) f := by
          have : ck_md (1329227995784915872903807060280344576) h' h1 := by rw [eh1]; exact (x_set (a := 59) (k := 42) (x := mq_I h' 59 42 - 1) I' (ck_md.rf (1329227995784915872903807060280344576) h') (by decide) (show ck_wl _ x_sup (ck_lc 59 42) = true by decide) (fun l u z => by cases z; rw [e1, nI_toInt (by omega)]; omega) (fun n l u z _ => by cases z)).2
          exact P.fr this (by decide)
        have hp1 : mq_I h1 59 42 = nI p := by rw [eh1]; exact e1
        have ho1 : mq_I h1 59 40 = nI op := by rw [eh1]; exact eo
        have hv1 : mq_I h1 90 = mq_I h' 90 := by rw [eh1]; rfl
        rw [← eh1] at K1
        show mq_Call mq_G (mq_tT lL) 166 [.retAddr 59, .int w, .int 0] (mq_setI h' 59 42 (mq_I h' 59 42 - 1)) _
        rw [← eh1]
        have hlf := P1.2.2.2.2.1
        refine x_emits K1.1 P1.1 (by omega) (fun h2 I2 m2 c1 c2 c3 c4 => ?_)
        have m2' : ck_md x_SM h h2 := K1.2.tr (m2.wd (ck_sub_of (by decide)))
        have eo2 : x_o h2 lf (c - lf) = w := by unfold x_o; rw [show 3200 + lf + (c - lf) = 3200 + c by omega]; exact c3
        have hp2 : mq_I h2 59 42 = nI p := (m2.2.2.2.2 _ _ (by decide)).trans hp1
        have ho2 : mq_I h2 59 40 = nI op := (m2.2.2.2.2 _ _ (by decide)).trans ho1
        have hv2 : mq_I h2 90 = mq_I h' 90 := by rw [← hv1]; funext k; exact m2.2.2.2.2 _ _ (show Nat.testBit x_EM (ck_lca 90) = false by decide)
        rcases hw with hw | hw | hw
        · subst hw
          refine bn_f rfl ?_
          rcases x_pd_top hpd with ⟨-, y1, y2, t1, y3⟩ | ⟨y, -⟩ | ⟨y, -⟩ | ⟨y, -⟩
          · have e4 : mq_I h2 59 40 - 1 = nI (op - 1) := by rw [ho2, show op = (op - 1) + 1 by omega, nI_pred]; rfl
            have K3 := x_set (a := 59) (k := 40) (x := mq_I h2 59 40 - 1) I2 m2' (by decide) (show ck_wl _ x_sup (ck_lc 59 40) = true by decide) (fun l u z => by cases z; exact ci_rng _) (fun n l u z _ => by cases z)
            have K4 := x_set (a := 59) (k := 40) (x := mq_I h2 59 40 - 1) I2 (ck_md.rf (332306998946228968225951765070086144) h2) (by decide) (show ck_wl _ x_sup (ck_lc 59 40) = true by decide) (fun l u z => by cases z; exact ci_rng _) (fun n l u z _ => by cases z)
            refine ih t1 _ K3.1 K3.2 ⟨c + 1, op - 1, nb, (P1.em m2 c1 c2 (x_sc_not (P1.lo c2) eo2 (by omega))).fr K4.2 (by decide), hp2, ?_, e4, by omega, by omega⟩ (fun z => by cases z) (fun z => by cases z)
            show x_pd (mq_I h2 90) p = _
            rw [hv2]
            exact y3
          · rw [eq] at y; cases y
          · rw [eq] at y; cases y
          · rw [eq] at y; cases y
        · subst hw
          refine bn_t (by decide) ?_
          rcases x_pd_top hpd with ⟨y, -⟩ | ⟨y, -⟩ | ⟨y, -⟩ | ⟨-, y1, y2, t1, y3, y4⟩
          · rw [eq] at y; cases y
          · rw [eq] at y; cases y
          · rw [eq] at y; cases y
          · refine ih t1 _ I2 m2' ⟨c + 1, op, nb - 1, ?_, hp2, by rw [hv2]; exact y4, ho2, ho, by omega⟩ (fun _ => Or.inr y3) (fun z => by cases z)
            have := P1.em m2 c1 c2 (x_sc_bin (P1.lo c2) eo2 (by decide) (by omega))
            rw [show nb - 1 + 1 = nb + 1 - 1 by omega]
            exact this
        · subst hw
          refine bn_t (by decide) ?_
          rcases x_pd_top hpd with ⟨y, -⟩ | ⟨y, -⟩ | ⟨-, y1, y2, y3⟩ | ⟨y, -⟩
          · rw [eq] at y; cases y
          · rw [eq] at y; cases y
          · refine ih 0 _ I2 m2' ⟨c + 1, op, nb - 1, ?_, hp2, by rw [hv2]; exact y3, ho2, ho, by omega⟩ (fun z => by cases z) (fun _ => Or.inr rfl)
            have := P1.em m2 c1 c2 (x_sc_bin (P1.lo c2) eo2 (by decide) (by omega))
            rw [show nb - 1 + 1 = nb + 1 - 1 by omega]
            exact this
          · rw [eq] at y; cases y
  exact ⟨_, rfl, key p t h I (ck_md.rf _ _) S (fun _ => Or.inl rfl) (fun _ => Or.inl rfl)⟩
end XI
