/-! wordOf; findsDisputes -/
section XD
variable {lL : Nat} {h h' : mq_H} {Q : Option Value → mq_H → Prop}
theorem kv_96 : ck_V x_X lL 96 kc_96 := fun h as I pv => by
  match as, pv with
  | [a, b, c], pv =>
    obtain ⟨p1, ⟨x, p2, x0, x1⟩, ⟨z, p3, z0, z1⟩, -⟩ := pv
    have p1 : a = .retAddr 35 := p1
    subst p1 p2 p3
    obtain ⟨f, rfl, hf, -⟩ := x_nat (n := 400) x0 x1
    obtain ⟨t, rfl, ht, -⟩ := x_nat (n := 400) z0 z1
    have fin : ∀ r : Int32, ck_Iv x_X h ∧ ck_md kc_96.2.2 h h ∧ ck_rv kc_96.2.1 (some (.int r)) := fun r => ⟨I, ck_md.rf _ _, r, rfl, ci_rng r⟩
    have key : ∀ (m w : Nat) (y : Int32) (l4 l5 l6 : Option Value), w + m = 29 → y = nI w → mq_At mq_G (mq_tT lL) 96 12 [some (.retAddr 35), some (.int (nI f)), some (.int (nI t)), some (.int y), l4, l5, l6] [] h (fun v h' => ck_Iv x_X h' ∧ ck_md kc_96.2.2 h h' ∧ ck_rv kc_96.2.1 v) := by
      intro m
      induction m with
      | zero =>
        intro w y l4 l5 l6 hw ey
        have hw : w = 29 := by omega
        subst ey hw
        apply mq_go 40 []
        refine bq_t (by decide) ?_
        exact fin _
      | succ m ih =>
        intro w y l4 l5 l6 hw ey
        subst ey
        have key2 : ∀ (m i : Nat) (s z : Int32) (l6 : Option Value), i + m = 6 → z = nI i → mq_At mq_G (mq_tT lL) 96 24 [some (.retAddr 35), some (.int (nI f)), some (.int (nI t)), some (.int (nI w)), some (.int s), some (.int z), l6] [] h (fun v h' => ck_Iv x_X h' ∧ ck_md kc_96.2.2 h h' ∧ ck_rv kc_96.2.1 v) := by
          intro m
          induction m with
          | zero =>
            intro i s z l6 hi ez
            have hi : i = 6 := by omega
            subst ez hi
            apply mq_go 40 [12]
            refine bq_t (by decide) ?_
            refine bq_c (fun _ => ?_) (fun _ => fin _)
            exact ih (w + 1) _ _ _ _ (by omega) (nI_1 _)
          | succ m ih2 =>
            intro i s z l6 hi ez
            subst ez
            apply mq_go 60 [12, 24]
            refine bq_f (show ¬ nI 6 ≤ nI i from nI_ge (by omega) (by omega)) ?_
            refine bq_c (fun _ => ?_) (fun _ => ?_)
            · refine bq_c (fun _ => ?_) (fun _ => fin _)
              exact ih (w + 1) _ _ _ _ (by omega) (nI_1 _)
            · have hin : mq_inb (nI w * 6 + nI i) jk_wn = true := x_inb (k := w * 6 + i) (by rw [show (6 : Int32) = nI 6 from rfl, nI_mul, nI_add]) (show w * 6 + i < 174 by omega) (by decide)
              refine bq_c (fun _ => ?_) (fun c => ?_)
              · refine gq_i hin ?_
                refine bn_c (fun _ => ?_) (fun _ => ?_)
                · exact ih2 (i + 1) _ _ _ (by omega) (nI_1 _)
                · exact ih2 (i + 1) _ _ _ (by omega) (nI_1 _)
              · rw [nI_add, nI_leI (by omega) (by omega)] at c
                refine gq_i (x_inb (k := f + i) (nI_add _ _) (by omega) (by decide)) ?_
                refine gq_i hin ?_
                refine bn_c (fun _ => ?_) (fun _ => ?_)
                · exact ih2 (i + 1) _ _ _ (by omega) (nI_1 _)
                · exact ih2 (i + 1) _ _ _ (by omega) (nI_1 _)
        apply mq_go 40 [24]
        refine bq_f (show ¬ nI 29 ≤ nI w from nI_ge (by omega) (by omega)) ?_
        exact key2 6 0 _ _ _ (by omega) rfl
    apply mq_enter 40 [12]
    refine bq_c (fun _ => ?_) (fun _ => fin _)
    exact key 29 0 _ _ _ _ (by omega) rfl
/-- a place set -/
theorem x_set {a k M : Nat} {x : Int32} (I : ck_Iv x_X h') (md : ck_md M h h') (b0 : Nat.testBit M 0 = false) (hw : ck_wl M x_sup (ck_lc a k) = true) (h1 : ∀ l u, ck_ivo a k = some (l, u) → l ≤ x.toInt ∧ x.toInt ≤ u) (h2 : ∀ n l u, ck_iva a = some (n, l, u) → k < n → l ≤ x.toInt ∧ x.toInt ≤ u) : ck_Iv x_X (mq_setI h' a k x) ∧ ck_md M h (mq_setI h' a k x) :=
  ck_chg x_Xf I md b0 rfl rfl rfl rfl hw (fun b j hb => ck_setI_at (fun e => hb (by rw [e.1, e.2]))) (I.1.set h1 h2)
theorem x_c1_mono (fd : Nat → Int32) (c : Nat) : ∀ (k n : Nat), k ≤ n → x_c1 fd c k ≤ x_c1 fd c n := by
  intro k n hk
  induction hk with
  | refl => exact Nat.le_refl _
  | step _ ih =>
    refine Nat.le_trans ih ?_
    show x_c1 fd c _ ≤ x_c1 fd c _ + _
    exact Nat.le_add_right _ _
theorem x_c2_mono (fc fd : Nat → Int32) : ∀ (k n : Nat), k ≤ n → x_c2 fc fd k ≤ x_c2 fc fd n := by
  intro k n hk
  induction hk with
  | refl => exact Nat.le_refl _
  | step _ ih =>
    refine Nat.le_trans ih ?_
    show x_c2 fc fd _ ≤ x_c2 fc fd _ + _
    exact Nat.le_add_right _ _
theorem kv_215 : ck_V x_X lL 215 kc_215 := fun h as I pv => by
  match as, pv with
  | [a], pv =>
    obtain ⟨p1, -⟩ := pv
    have p1 : a = .retAddr 59 := p1
    subst p1
    obtain ⟨N, eN, hN, -⟩ := x_nat (n := 60) (I.1.1 59 9 0 60 rfl).1 (I.1.1 59 9 0 60 rfl).2
    have hct : x_c2 (mq_I h 71) (mq_I h 75) N ≤ 6 := by
      have := I.2.2.2.2.2.1
      unfold x_ct at this
      rw [eN, nI_clamp (by omega)] at this
      exact this
    have fr : ∀ h', ck_md kc_215.2.2 h h' → mq_I h' 59 9 = nI N ∧ (∀ k, mq_I h' 71 k = mq_I h 71 k) ∧ ∀ k, mq_I h' 75 k = mq_I h 75 k := fun h' m => ⟨(m.2.2.2.2 _ _ (by decide)).trans eN, fun k => m.2.2.2.2 _ _ (show Nat.testBit kc_215.2.2 (ck_lca 71) = false by decide), fun k => m.2.2.2.2 _ _ (show Nat.testBit kc_215.2.2 (ck_lca 75) = false by decide)⟩
    have key : ∀ (m c : Nat) (y : Int32) (l2 : Option Value) (h' : mq_H), c + m = N → ck_Iv x_X h' → ck_md kc_215.2.2 h h' → mq_I h' 59 64 = nI (x_c2 (mq_I h 71) (mq_I h 75) c) → y = nI c → mq_At mq_G (mq_tT lL) 215 7 [some (.retAddr 59), some (.int y), l2] [] h' (fun v h' => ck_Iv x_X h' ∧ ck_md kc_215.2.2 h h' ∧ ck_rv kc_215.2.1 v) := by
      intro m
      induction m with
      | zero =>
        intro c y l2 h' hc I' md ed ey
        subst ey
        apply mq_go 40 []
        refine bq_t (by rw [(fr h' md).1, show c = N by omega]; exact Int32.le_refl _) ?_
        exact ⟨I', md, rfl⟩
      | succ m ih =>
        intro c y l2 h' hc I' md ed ey
        subst ey
        obtain ⟨fc, efc, hfc, -⟩ := x_nat (n := 12) (I.1.2 71 60 0 12 rfl c (by omega)).1 (I.1.2 71 60 0 12 rfl c (by omega)).2
        have hb : x_c2 (mq_I h 71) (mq_I h 75) c + x_c1 (mq_I h 75) c fc = x_c2 (mq_I h 71) (mq_I h 75) (c + 1) := by
          show _ = x_c2 (mq_I h 71) (mq_I h 75) c + x_c1 (mq_I h 75) c (mq_I h 71 c).toNatClampNeg
          rw [efc, nI_clamp (by omega)]
        have hb2 := x_c2_mono (mq_I h 71) (mq_I h 75) (c + 1) N (by omega)
        have key2 : ∀ (m k : Nat) (y : Int32) (h' : mq_H), k + m = fc → ck_Iv x_X h' → ck_md kc_215.2.2 h h' → mq_I h' 59 64 = nI (x_c2 (mq_I h 71) (mq_I h 75) c + x_c1 (mq_I h 75) c k) → y = nI k → mq_At mq_G (mq_tT lL) 215 17 [some (.retAddr 59), some (.int (nI c)), some (.int y)] [] h' (fun v h' => ck_Iv x_X h' ∧ ck_md kc_215.2.2 h h' ∧ ck_rv kc_215.2.1 v) := by
          intro m
          induction m with
          | zero =>
            intro k y h' hk I' md ed ey
            have hk : k = fc := by omega
            subst ey hk
            apply mq_go 40 [7]
            refine gq_i (inb_nI (by omega) (by decide)) ?_
            refine bq_t (by rw [(fr h' md).2.1, nI_clamp (by omega), efc]; exact Int32.le_refl _) ?_
            exact ih (c + 1) _ _ h' (by omega) I' md (by rw [ed, hb]) (nI_1 _)
          | succ m ih2 =>
            intro k y h' hk I' md ed ey
            subst ey
            have e12 : (12 : Int32) * nI c + nI k = nI (12 * c + k) := by rw [show (12 : Int32) = nI 12 from rfl, nI_mul, nI_add]
            apply mq_go 60 [17]
            refine gq_i (inb_nI (by omega) (by decide)) ?_
            refine bq_f (by rw [(fr h' md).2.1, nI_clamp (by omega), efc]; exact nI_ge (by omega) (by omega)) ?_
            refine gq_i (x_inb e12 (by omega) (by decide)) ?_
            refine bq_c (fun c6 => ?_) (fun c6 => ?_)
            · rw [(fr h' md).2.2, x_cl e12 (by omega)] at c6
              have h1 : x_c1 (mq_I h 75) c (k + 1) = x_c1 (mq_I h 75) c k + 1 := by
                show x_c1 (mq_I h 75) c k + (if (mq_I h 75 (12 * c + k)).toInt = 6 then 1 else 0) = _
                rw [if_pos (by rw [c6]; rfl)]
              have h2 := x_c1_mono (mq_I h 75) c (k + 1) fc (by omega)
              have hd := x_inb (n := 6) ed (by omega) (by decide)
              refine gq_i hd ?_
              obtain ⟨g, eg⟩ : ∃ g, g = mq_setI h' 98 (mq_I h' 59 64).toNatClampNeg ((12 : Int32) * nI c + nI k) := ⟨_, rfl⟩
              have K1 : ck_Iv x_X g ∧ ck_md kc_215.2.2 h g := by
                rw [eg]
                exact x_set I' md (by decide) (show ck_wl _ x_sup (ck_lca 98) = true by decide) (fun l u z => by cases z) (fun n l u z _ => by cases z; rw [e12, nI_toInt (by omega)]; omega)
              have ed1 : mq_I g 59 64 = mq_I h' 59 64 := by rw [eg]; rfl
              have e1 : mq_I g 59 64 + 1 = nI (x_c2 (mq_I h 71) (mq_I h 75) c + x_c1 (mq_I h 75) c (k + 1)) := by rw [ed1, ed, nI_1, h1]; rfl
              have K2 := x_set (k := 64) (x := mq_I g 59 64 + 1) K1.1 K1.2 (by decide) (show ck_wl _ x_sup (ck_lc 59 64) = true by decide) (fun l u z => by cases z; rw [e1, nI_toInt (by omega)]; omega) (fun n l u z _ => by cases z)
              show mq_At mq_G (mq_tT lL) 215 17 [some (.retAddr 59), some (.int (nI c)), some (.int (nI k + 1))] [] (mq_setI (mq_setI h' 98 (mq_I h' 59 64).toNatClampNeg ((12 : Int32) * nI c + nI k)) 59 64 (mq_I (mq_setI h' 98 (mq_I h' 59 64).toNatClampNeg ((12 : Int32) * nI c + nI k)) 59 64 + 1)) _
              rw [← eg]
              exact ih2 (k + 1) _ _ (by omega) K2.1 K2.2 (by rw [mq_I_setI, if_pos rfl, if_pos rfl, e1]) (nI_1 _)
            · rw [(fr h' md).2.2, x_cl e12 (by omega)] at c6
              refine ih2 (k + 1) _ _ (by omega) I' md ?_ (nI_1 _)
              rw [ed]
              show _ = nI (_ + (x_c1 (mq_I h 75) c k + (if (mq_I h 75 (12 * c + k)).toInt = 6 then 1 else 0)))
              rw [if_neg (fun z : (mq_I h 75 (12 * c + k)).toInt = 6 => c6 (x_toI z rfl))]
              rfl
        apply mq_go 40 [17]
        refine bq_f (by rw [(fr h' md).1]; exact nI_ge (by omega) (by omega)) ?_
        exact key2 fc 0 _ h' (by omega) I' md (by rw [ed]; rfl) rfl
    have K0 := x_set (k := 64) (x := 0) I (ck_md.rf kc_215.2.2 h) (by decide) (show ck_wl _ x_sup (ck_lc 59 64) = true by decide) (fun l u z => by cases z; decide) (fun n l u z _ => by cases z)
    apply mq_enter 40 [7]
    exact key N 0 _ _ _ (by omega) K0.1 K0.2 (by rw [mq_I_setI, if_pos rfl, if_pos rfl]; rfl) rfl
end XD
