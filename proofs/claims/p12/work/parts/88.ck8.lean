/-! THE CHECKER, 9: writes -/
theorem ck_pl.ch {h0 h h' : mq_H} {r : List Value} {k : ck_K} {v : ck_A} (H : ck_pl h0 r h k v) (hs : mq_sh h' = mq_sh h) (hR : mq_R h' = mq_R h) (c0 : k.1 = 0 → mq_I h' k.2.1 k.2.2.2.1 = mq_I h k.2.1 k.2.2.2.1) (c1 : k.1 = 1 → ∀ i, mq_I h' k.2.1 i = mq_I h k.2.1 i) (c2 : ∀ q, (∀ j, ck_lc q j = 0) → ∀ i, mq_I h' q i = mq_I h q i) : ck_pl h0 r h' k v := by
  unfold ck_pl at H ⊢
  split at H
  · rename_i e; rw [c0 e]; exact H
  · rename_i e
    obtain ⟨i, a, b⟩ := H
    exact ⟨i, a, by rw [c1 e]; exact b⟩
  · obtain ⟨q, a, b, c⟩ := H
    exact ⟨q, a, b, by rw [c2 q b]; exact c⟩
  · obtain ⟨q, a, b⟩ := H
    exact ⟨q, a, by rw [hs]; exact b⟩
  · obtain ⟨q, b, a, c, d⟩ := H
    exact ⟨q, b, a, by rw [hR]; exact c, d⟩
  · exact H.elim
def ck_kl (p : ck_K → Bool) (Z : ck_Z) : ck_Z := (Z.1, Z.2.1, Z.2.2.1, Z.2.2.2.1, Z.2.2.2.2.filter (fun q => !(p q.1)))
theorem ck_kl_ok {h0 h h' : mq_H} {r : List Value} {Z : ck_Z} {p : ck_K → Bool} (G : ck_g h0 r h Z) (hp : ∀ k v, p k = false → ck_pl h0 r h k v → ck_pl h0 r h' k v) : ck_g h0 r h' (ck_kl p Z) := ⟨G.1, G.2.1, G.2.2.1, G.2.2.2.1, fun q hq => by
  obtain ⟨h1, h2⟩ := List.mem_filter.mp hq
  exact hp _ _ (by simpa using h2) (G.2.2.2.2 q h1)⟩
def ck_kf (a b : Nat) (k : ck_K) : Bool := (Nat.beq k.1 0 && (Nat.beq k.2.1 a && Nat.beq k.2.2.2.1 b)) || (Nat.beq k.1 1 && Nat.beq k.2.1 a)
def ck_ka (a : Nat) (k : ck_K) : Bool := (Nat.beq k.1 0 || Nat.beq k.1 1) && Nat.beq k.2.1 a
/-- a place that may be written: named by M, not one that X looks at -/
def ck_wl (M sup i : Nat) : Bool := !(Nat.beq i 0) && (Nat.testBit M i && !(Nat.testBit sup i))
/-- the whole invariant -/
def ck_Iv (X : mq_H → Prop) (h : mq_H) : Prop := ck_IvI h ∧ ck_IvD h ∧ X h
/-- X looks at the places sup names alone -/
def ck_Xf (X : mq_H → Prop) (sup : Nat) : Prop := ∀ h h', mq_N h' = mq_N h → mq_Z h' = mq_Z h → mq_sh h' = mq_sh h → mq_R h' = mq_R h → (∀ a k, Nat.testBit sup (ck_lc a k) = true → mq_I h' a k = mq_I h a k) → X h → X h'
theorem ck_beq_ne {a b : Nat} (h : Nat.beq a b = false) : ¬ a = b := fun e => by rw [e, Nat.beq_refl] at h; cases h
theorem ck_wl_ok {M sup i : Nat} (H : ck_wl M sup i = true) : ¬ i = 0 ∧ Nat.testBit M i = true ∧ Nat.testBit sup i = false := by
  unfold ck_wl at H
  simp only [Bool.and_eq_true, Bool.not_eq_true'] at H
  exact ⟨ck_beq_ne H.1, H.2.1, H.2.2⟩
section CK8
variable {X : mq_H → Prop} {M sup : Nat} {h0 h h' : mq_H} {r : List Value} {Z : ck_Z}
/-- a change of ints at places of one kind -/
theorem ck_chg (hX : ck_Xf X sup) (I : ck_Iv X h) (md : ck_md M h0 h) (b0 : Nat.testBit M 0 = false) (hN : mq_N h' = mq_N h) (hZ : mq_Z h' = mq_Z h) (hs : mq_sh h' = mq_sh h) (hR : mq_R h' = mq_R h) {i : Nat} (hw : ck_wl M sup i = true) (hI : ∀ a k, ¬ ck_lc a k = i → mq_I h' a k = mq_I h a k) (hv : ck_IvI h') : ck_Iv X h' ∧ ck_md M h0 h' := by
  obtain ⟨w1, w2, w3⟩ := ck_wl_ok hw
  have md1 : ck_md M h h' := ⟨hN, hZ, hs, hR, fun a k e => hI a k (fun q => by rw [q, w2] at e; cases e)⟩
  refine ⟨⟨hv, I.2.1.md md1 b0, hX h h' hN hZ hs hR (fun a k e => hI a k (fun q => by rw [q, w3] at e; cases e)) I.2.2⟩, md.tr md1⟩
theorem ck_IvI.set (I : ck_IvI h) {a k : Nat} {x : Int32} (h1 : ∀ l u, ck_ivo a k = some (l, u) → l ≤ x.toInt ∧ x.toInt ≤ u) (h2 : ∀ n l u, ck_iva a = some (n, l, u) → k < n → l ≤ x.toInt ∧ x.toInt ≤ u) : ck_IvI (mq_setI h a k x) := by
  refine ⟨fun b j l u e => ?_, fun b n l u e j hj => ?_⟩
  · rw [mq_I_setI]
    split
    · rename_i e1; subst e1
      split
      · rename_i e2; subst e2; exact h1 l u e
      · exact I.1 _ _ _ _ e
    · exact I.1 _ _ _ _ e
  · rw [mq_I_setI]
    split
    · rename_i e1; subst e1
      split
      · rename_i e2; subst e2; exact h2 n l u e hj
      · exact I.2 _ _ _ _ e _ hj
    · exact I.2 _ _ _ _ e _ hj
theorem ck_setI_at {a k : Nat} {x : Int32} {b j : Nat} (e : ¬ (b = a ∧ j = k)) : mq_I (mq_setI h a k x) b j = mq_I h b j := by
  rw [mq_I_setI]
  split
  · split
    · exact absurd ⟨by assumption, by assumption⟩ e
    · rfl
  · rfl
/-- a field set -/
theorem ck_setF (hX : ck_Xf X sup) (G : ck_g h0 r h Z) (I : ck_Iv X h) (md : ck_md M h0 h) (b0 : Nat.testBit M 0 = false) {a k : Nat} {v : ck_A} {x : Int32} (ha : Nat.beq (ck_lca a) 0 = true) (hn : ck_iva a = none) {l u : Int} (hi : ck_ivo a k = some (l, u)) (hl : l ≤ ck_l Z v) (hu : ck_u Z v ≤ u) (hw : ck_wl M sup (ck_lco a k) = true) (e : ck_rl h0 r v (.int x)) : ck_g h0 r (mq_setI h a k x) (ck_hp (0, a, (0, k, 0)) v (ck_kl (ck_kf a k) Z)) ∧ ck_Iv X (mq_setI h a k x) ∧ ck_md M h0 (mq_setI h a k x) := by
  have rg := ck_r_ok G e
  have hlc : ck_lc a k = ck_lco a k := by unfold ck_lc; rw [ha]; rfl
  have w1 := (ck_wl_ok hw).1
  refine ⟨ck_hp_ok (ck_kl_ok G ?_) ?_, ck_chg hX I md b0 rfl rfl rfl rfl hw ?_ (I.1.set ?_ ?_)⟩
  · intro q v' hp H
    unfold ck_kf at hp
    rw [Bool.or_eq_false_iff] at hp
    refine H.ch rfl rfl ?_ ?_ ?_
    · intro q0
      refine ck_setI_at (fun z => ?_)
      have := hp.1
      rw [q0, z.1, z.2] at this
      simp [Nat.beq_refl] at this
    · intro q1 i
      refine ck_setI_at (fun z => ?_)
      have := hp.2
      rw [q1, z.1] at this
      simp [Nat.beq_refl] at this
    · intro p hp i
      refine ck_setI_at (fun z => ?_)
      have := hp i
      rw [z.1, z.2, hlc] at this
      exact w1 this
  · show ck_rl h0 r v (.int (mq_I (mq_setI h a k x) a k))
    rw [mq_I_setI, if_pos rfl, if_pos rfl]
    exact e
  · intro a' k' hne
    refine ck_setI_at (fun z => hne ?_)
    rw [z.1, z.2]; exact hlc
  · intro l' u' e'
    rw [hi] at e'; cases e'
    omega
  · intro n l' u' e'
    rw [hn] at e'; cases e'
/-- an element set -/
theorem ck_setE (hX : ck_Xf X sup) (G : ck_g h0 r h Z) (I : ck_Iv X h) (md : ck_md M h0 h) (b0 : Nat.testBit M 0 = false) {a k n : Nat} {x : Int32} {l u : Int} (hi : ck_iva a = some (n, l, u)) (hl : l ≤ x.toInt) (hu : x.toInt ≤ u) (hw : ck_wl M sup (ck_lca a) = true) : ck_g h0 r (mq_setI h a k x) (ck_kl (ck_ka a) Z) ∧ ck_Iv X (mq_setI h a k x) ∧ ck_md M h0 (mq_setI h a k x) := by
  have w1 := (ck_wl_ok hw).1
  have hb : Nat.beq (ck_lca a) 0 = false := by
    cases t : Nat.beq (ck_lca a) 0 with
    | false => rfl
    | true => exact absurd (Nat.eq_of_beq_eq_true t) w1
  have hlc : ∀ j, ck_lc a j = ck_lca a := fun j => by unfold ck_lc; rw [hb]; rfl
  have hvo : ∀ j, ck_ivo a j = none := fun j => by unfold ck_ivo; rw [hb]; rfl
  refine ⟨ck_kl_ok G ?_, ck_chg hX I md b0 rfl rfl rfl rfl hw ?_ (I.1.set ?_ ?_)⟩
  · intro q v' hp H
    unfold ck_ka at hp
    refine H.ch rfl rfl ?_ ?_ ?_
    · intro q0
      refine ck_setI_at (fun z => ?_)
      rw [q0, z.1] at hp
      simp [Nat.beq_refl] at hp
    · intro q1 i
      refine ck_setI_at (fun z => ?_)
      rw [q1, z.1] at hp
      simp [Nat.beq_refl] at hp
    · intro p hp i
      refine ck_setI_at (fun z => ?_)
      have := hp i
      rw [z.1, hlc] at this
      exact w1 this
  · intro a' k' hne
    refine ck_setI_at (fun z => hne ?_)
    rw [z.1]; exact hlc _
  · intro l' u' e'
    rw [hvo] at e'; cases e'
  · intro n' l' u' e' _
    rw [hi] at e'; cases e'
    exact ⟨hl, hu⟩
/-- elements copied -/
theorem ck_cpE (hX : ck_Xf X sup) (G : ck_g h0 r h Z) (I : ck_Iv X h) (md : ck_md M h0 h) (b0 : Nat.testBit M 0 = false) {a s n n0 sp dp c : Nat} {l u l0 u0 : Int} (hi : ck_iva a = some (n, l, u)) (hi0 : ck_iva s = some (n0, l0, u0)) (hl : l ≤ l0) (hu : u0 ≤ u) (hc : sp + c ≤ n0) (hw : ck_wl M sup (ck_lca a) = true) : ck_g h0 r (mq_cpI h s a sp dp c) (ck_kl (ck_ka a) Z) ∧ ck_Iv X (mq_cpI h s a sp dp c) ∧ ck_md M h0 (mq_cpI h s a sp dp c) := by
  have w1 := (ck_wl_ok hw).1
  have hb : Nat.beq (ck_lca a) 0 = false := by
    cases t : Nat.beq (ck_lca a) 0 with
    | false => rfl
    | true => exact absurd (Nat.eq_of_beq_eq_true t) w1
  have hlc : ∀ j, ck_lc a j = ck_lca a := fun j => by unfold ck_lc; rw [hb]; rfl
  have hvo : ∀ j, ck_ivo a j = none := fun j => by unfold ck_ivo; rw [hb]; rfl
  have hat : ∀ b j, ¬ b = a → mq_I (mq_cpI h s a sp dp c) b j = mq_I h b j := fun b j e => if_neg e
  refine ⟨ck_kl_ok G ?_, ck_chg hX I md b0 rfl rfl rfl rfl hw ?_ ⟨?_, ?_⟩⟩
  · intro q v' hp H
    unfold ck_ka at hp
    refine H.ch rfl rfl ?_ ?_ ?_
    · intro q0
      refine hat _ _ (fun z => ?_)
      rw [q0, z] at hp
      simp [Nat.beq_refl] at hp
    · intro q1 i
      refine hat _ _ (fun z => ?_)
      rw [q1, z] at hp
      simp [Nat.beq_refl] at hp
    · intro p hp i
      refine hat _ _ (fun z => ?_)
      have := hp i
      rw [z, hlc] at this
      exact w1 this
  · intro a' k' hne
    refine hat _ _ (fun z => hne ?_)
    rw [z]; exact hlc _
  · intro b j l' u' e
    by_cases q : b = a
    · subst q; rw [hvo] at e; cases e
    · rw [hat b j q]; exact I.1.1 _ _ _ _ e
  · intro b n' l' u' e j hj
    by_cases q : b = a
    · subst q
      rw [hi] at e; cases e
      show l ≤ (if b = b then va_cpy (mq_I h s) (mq_I h b) sp dp c j else mq_I h b j).toInt ∧ _
      have : mq_I (mq_cpI h s b sp dp c) b j = va_cpy (mq_I h s) (mq_I h b) sp dp c j := if_pos rfl
      show l ≤ (mq_I (mq_cpI h s b sp dp c) b j).toInt ∧ (mq_I (mq_cpI h s b sp dp c) b j).toInt ≤ u
      rw [this]
      unfold va_cpy
      split
      · have := I.1.2 s n0 l0 u0 hi0 (sp + (j - dp)) (by omega)
        omega
      · exact I.1.2 _ _ _ _ hi _ hj
    · rw [hat b j q]; exact I.1.2 _ _ _ _ e _ hj
theorem ck_setL (hX : ck_Xf X sup) (G : ck_g h0 r h Z) (I : ck_Iv X h) (md : ck_md M h0 h) (b0 : Nat.testBit M 0 = false) {a k : Nat} {x : Int64} : ck_g h0 r (mq_setJ h a k x) Z ∧ ck_Iv X (mq_setJ h a k x) ∧ ck_md M h0 (mq_setJ h a k x) := by
  have md1 : ck_md M h (mq_setJ h a k x) := ⟨rfl, rfl, rfl, rfl, fun _ _ _ => rfl⟩
  exact ⟨⟨G.1, G.2.1, G.2.2.1, G.2.2.2.1, fun q hq => (G.2.2.2.2 q hq).ch rfl rfl (fun _ => rfl) (fun _ _ => rfl) (fun _ _ _ => rfl)⟩, ⟨I.1, I.2.1.md md1 b0, hX h _ rfl rfl rfl rfl (fun _ _ _ => rfl) I.2.2⟩, md.tr md1⟩
end CK8
/-- the writing steps: what is known behind them -/
def ck_W (M sup : Nat) (ins : Instr) (a b c : Nat) (st : List ck_A) (Z : ck_Z) : Option (List ck_A × ck_Z) := match ins with
  | .putfield _ => match st with
    | x :: v :: r => bif Nat.beq v.1 3 then (match mq_tS1 v.2.1 with
      | some (.inl ci) => bif Nat.beq ci a then (match c with
        | 1 => bif Nat.beq x.1 4 then some (r, Z) else none
        | 2 => none
        | c => bif ck_isI x && (Nat.beq (ck_lca v.2.1) 0 && ((ck_iva v.2.1).isNone && ck_wl M sup (ck_lco v.2.1 b))) then (match ck_ivo v.2.1 b with
          | some (l, u) => bif decide (l ≤ ck_l Z x) && (decide (ck_u Z x ≤ u) && (bif Nat.beq c 3 then decide (0 ≤ ck_l Z x) && decide (ck_u Z x ≤ 1) else true)) then some (r, ck_hp (0, v.2.1, (0, b, 0)) x (ck_kl (ck_kf v.2.1 b) Z)) else none
          | none => none) else none) else none
      | _ => none) else none
    | _ => none
  | .iastore => match st with
    | x :: i :: v :: r => bif Nat.beq v.1 3 && (ck_isI x && ck_isI i) then (match mq_tS1 v.2.1 with
      | some (.inr (0, n)) => match ck_iva v.2.1 with
        | some (n', l, u) => bif Nat.ble n n' && (ck_ix Z i n && (decide (l ≤ ck_l Z x) && (decide (ck_u Z x ≤ u) && ck_wl M sup (ck_lca v.2.1)))) then some (r, ck_hp (1, v.2.1, i) x (ck_kl (ck_ka v.2.1) Z)) else none
        | none => none
      | _ => none) else none
    | _ => none
  | .bastore => match st with
    | x :: i :: v :: r => bif Nat.beq v.1 3 && (ck_isI x && ck_isI i) then (match mq_tS1 v.2.1 with
      | some (.inr (t, n)) => match ck_iva v.2.1 with
        | some (n', l, u) => bif Nat.ble n n' && (ck_ix Z i n && ck_wl M sup (ck_lca v.2.1)) then
            (bif Nat.beq t 1 && (decide (l ≤ -128) && decide (127 ≤ u)) then some (r, ck_kl (ck_ka v.2.1) Z) else
              (bif Nat.beq t 2 && (decide (0 ≤ ck_l Z x) && (decide (ck_u Z x ≤ 1) && (decide (l ≤ ck_l Z x) && decide (ck_u Z x ≤ u)))) then some (r, ck_hp (1, v.2.1, i) x (ck_kl (ck_ka v.2.1) Z)) else none)) else none
        | none => none
      | _ => none) else none
    | _ => none
  | .lastore => match st with
    | x :: i :: v :: r => bif Nat.beq v.1 3 && (Nat.beq x.1 4 && ck_isI i) then (match mq_tS1 v.2.1 with
      | some (.inr (t, n)) => bif Nat.beq t 3 && ck_ix Z i n then some (r, Z) else none
      | _ => none) else none
    | _ => none
  | .invokestatic _ => bif Nat.beq a 1000 then (match st with
    | n :: dp :: d :: sp :: s :: r => bif Nat.beq d.1 3 && (Nat.beq s.1 3 && (ck_isI n && (ck_isI dp && (ck_isI sp && (!(Nat.beq s.2.1 d.2.1) && (Nat.ble b 3 && Nat.ble (r.foldr (fun v n => ck_ct v + n) 0) 8)))))) then (match mq_tS1 s.2.1, mq_tS1 d.2.1 with
      | some (.inr (t0, n0)), some (.inr (t1, n1)) => match ck_iva s.2.1, ck_iva d.2.1 with
        | some (k0, l0, u0), some (_, l1, u1) => bif Nat.beq t0 b && (Nat.beq t1 b && (decide (0 ≤ ck_l Z n) && (decide (0 ≤ ck_l Z dp) && (decide (0 ≤ ck_l Z sp) && (decide (ck_u Z sp + ck_u Z n ≤ (n0 : Int)) && (decide (ck_u Z dp + ck_u Z n ≤ (n1 : Int)) && (Nat.ble n0 k0 && (decide (l1 ≤ l0) && (decide (u0 ≤ u1) && ck_wl M sup (ck_lca d.2.1)))))))))) then some (r, ck_kl (ck_ka d.2.1) Z) else none
        | _, _ => none
      | _, _ => none) else none
    | _ => none) else none
  | _ => none
