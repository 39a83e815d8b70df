/-! ONE STEP, all instructions but calls and returns -/
section MQ5
variable {g : mq_GH} {T : mq_T} {p : Program} {l : Launch} {e : Env} {R : Room} {s : State} {mid : MethodId} {args : Array Value} {below : List Frame} {meth : Method} {c : Code} {Q : State → Prop} {n0 z0 nL : Nat}
variable {y : MethodName} {bs : ByteArray} {ret : Option FieldType} {fr lo : Nat} {pc pc' : Nat} {L : mq_L} {st st' r : List Value} {h h' : mq_H}
theorem mq_good.of (hw : mq_stc T h → mq_good g T p l e R s mid args below meth c Q n0 z0 nL pc L st h) : mq_good g T p l e R s mid args below meth c Q n0 z0 nL pc L st h := fun a b H ls locs h1 h2 h3 h4 => hw h1.2.2.2.2.2.2.2 a b H ls locs h1 h2 h3 h4
theorem mq_gB_an {o : Option Bool} {x : Bool} (h : mq_gB (mq_an o x) = true) : mq_gB o = true ∧ x = true := by
  cases o with
  | none => exact ⟨rfl, h⟩
  | some b => simp only [mq_an, mq_gB, Bool.and_eq_true] at h; exact h
theorem mq_isO_spec {sh : mq_S} {ci : Nat} (h : mq_isO sh ci = true) : sh = .inl ci := by
  unfold mq_isO at h
  split at h
  · rw [Nat.eq_of_beq_eq_true h]
  · cases h
theorem mq_inb_spec {i : Int32} {n : Nat} (h : mq_inb i n = true) : vp_in i n := vp_in_iff.mpr (of_decide_eq_true h)
theorem mq_gA_spec {sh : mq_S} {ty : Nat} {i : Int32} (h : mq_gA sh ty i = true) : ∃ n, sh = .inr (ty, n) ∧ vp_in i n := by
  unfold mq_gA at h
  split at h
  · rename_i t n
    rw [Bool.and_eq_true] at h
    rw [Nat.eq_of_beq_eq_true h.1]
    exact ⟨n, rfl, mq_inb_spec h.2⟩
  · cases h
theorem mq_bif_t {α : Type} {b : Bool} {x : α} {z : α} (h : (bif b then some x else none) = some z) : b = true ∧ x = z := by
  cases b with
  | true => exact ⟨rfl, Option.some.inj h⟩
  | false => cases h
theorem mq_ob_spec (hst : mq_stc T h) {v : Value} {ci a : Nat} {o : Option Bool} (ho : mq_ob T h v ci = some (o, a)) (hg : mq_gB o = true) : mq_sh h a = .inl ci ∧ mq_cv g v = .ref (mq_ad g a) ∧ (v = .retAddr a ∨ v = .ref a) := by
  unfold mq_ob at ho
  split at ho
  · split at ho
    · rename_i a' c' hT
      obtain ⟨h1, h2⟩ := mq_bif_t ho
      cases h2
      rw [← Nat.eq_of_beq_eq_true h1]
      exact ⟨(hst.1 _ _ hT).1, rfl, Or.inl rfl⟩
    · cases ho
  · cases ho
    exact ⟨mq_isO_spec hg, rfl, Or.inr rfl⟩
  · cases ho
theorem mq_ar_spec (hst : mq_stc T h) {v : Value} {ty a : Nat} {i : Int32} {b : Bool} (ho : mq_ar T h v ty i = some (b, a)) (hg : b = true) : ∃ n, mq_sh h a = .inr (ty, n) ∧ vp_in i n ∧ mq_cv g v = .ref (mq_ad g a) := by
  unfold mq_ar at ho
  split at ho
  · split at ho
    · rename_i a' t n hT
      obtain ⟨h1, h2⟩ := mq_bif_t ho
      cases h2
      rw [← Nat.eq_of_beq_eq_true h1]
      exact ⟨n, (hst.1 _ _ hT).1, mq_inb_spec hg, rfl⟩
    · cases ho
  · cases ho
    obtain ⟨n, h1, h2⟩ := mq_gA_spec hg
    exact ⟨n, h1, h2, rfl⟩
  · cases ho
theorem mq_rf_spec (hst : mq_stc T h) {v : Value} {a : Nat} {sh : mq_S} (ho : mq_rf T h v = some (a, sh)) : mq_sh h a = sh ∧ mq_cv g v = .ref (mq_ad g a) := by
  unfold mq_rf at ho
  split at ho
  · split at ho
    · rename_i s' hT
      cases ho
      exact ⟨(hst.1 _ _ hT).1, rfl⟩
    · cases ho
  · cases ho
    exact ⟨rfl, rfl⟩
  · cases ho
theorem mq_noT (hst : mq_stc T h) {a : Nat} {x : Nat × Nat} (hs : mq_sh h a = .inr x) (j : Nat) : T.2 a j = none := by
  cases hq : T.2 a j with
  | none => rfl
  | some b =>
    obtain ⟨-, ci, h2⟩ := hst.2 a j b hq
    rw [(hst.1 _ _ h2).1] at hs
    cases hs
theorem mq_gC_spec {s0 s1 : mq_S} {ty : Nat} {sp dp n : Int32} (h : mq_gC s0 s1 ty sp dp n = true) : ∃ m0 m1, s0 = .inr (ty, m0) ∧ s1 = .inr (ty, m1) ∧ 0 ≤ sp.toInt ∧ 0 ≤ dp.toInt ∧ 0 ≤ n.toInt ∧ sp.toInt + n.toInt ≤ (m0 : Int) ∧ dp.toInt + n.toInt ≤ (m1 : Int) := by
  unfold mq_gC at h
  split at h
  · rename_i t0 m0 t1 m1
    rw [Bool.and_eq_true, Bool.and_eq_true, decide_eq_true_eq] at h
    rw [Nat.eq_of_beq_eq_true h.1, Nat.eq_of_beq_eq_true h.2.1]
    exact ⟨m0, m1, rfl, rfl, h.2.2⟩
  · cases h
theorem mq_bit_spec {x : Int32} (h : mq_bit x = true) : x = 0 ∨ x = 1 := of_decide_eq_true h
/-- what may be stored in a field of a kind -/
theorem mq_fit0 {t : FieldType} (hk : mq_knd t = 0) (x : Int32) : narrow t (.int x) = .int x ∧ fits t (.int x) = true := by
  cases t <;> first | exact ⟨rfl, rfl⟩ | (simp [mq_knd] at hk)
theorem mq_fit1 {t : FieldType} (hk : mq_knd t = 1) (x : Int64) : narrow t (.long x) = .long x ∧ fits t (.long x) = true := by
  cases t <;> first | exact ⟨rfl, rfl⟩ | (simp [mq_knd] at hk)
theorem mq_fit3 {t : FieldType} (hk : mq_knd t = 3) {x : Int32} (hx : x = 0 ∨ x = 1) : narrow t (.int x) = .int x ∧ fits t (.int x) = true := by
  rcases hx with rfl | rfl <;> cases t <;> first | exact ⟨by decide, by decide⟩ | (simp [mq_knd] at hk)
theorem mq_fit2 {t : FieldType} (hk : mq_knd t = 2) (o : Option Nat) : narrow t (va_rf o) = va_rf o ∧ fits t (va_rf o) = true := by
  cases o <;> cases t <;> first | exact ⟨rfl, rfl⟩ | (simp [mq_knd] at hk)
theorem mq_rv_spec {x : Value} {o : Option Nat} (h : mq_rv x = some o) : mq_cv g x = va_rf (o.map (mq_ad g)) := by
  unfold mq_rv at h
  split at h <;> cases h <;> rfl
theorem sd_gfA {i ci k kd nx : Nat} {v : Value} {q : vw_C} {X : mq_X} (C : mq_ctx g p R s mid args meth c y bs nL ret fr lo) (hd : decode bs pc = .ok (.getfield i, 3)) (hnx : nx = pc + 3) (hq : mq_cl[ci]? = some q) (hk : k < q.2.2) (hlink : Cond.fieldLink y.cls i (q.2.1 k).1 (q.2.1 k).2.1 (q.2.1 k).2.2.1 ∈ mq_gw) (hkd : mq_knd (mq_fty ci k) = kd) (hX : mq_gf T h v ci k kd nx L r = some X) :
    (∃ o w, X = .inl (o, nx, L, w :: r, h) ∧ (mq_gB o = true → mq_good g T p l e R s mid args below meth c Q n0 z0 nL nx L (w :: r) h → mq_good g T p l e R s mid args below meth c Q n0 z0 nL pc L (v :: r) h)) ∨ (∃ o z, X = .inr (.inr (.inl (o, z, nx, r))) ∧ (mq_gB o = true → mq_good g T p l e R s mid args below meth c Q n0 z0 nL nx L (mq_pv z :: r) h → mq_good g T p l e R s mid args below meth c Q n0 z0 nL pc L (v :: r) h)) := by
  subst hnx
  have f1 : ∀ a, kd = 1 → mq_fv g h a ci k = .long (mq_J h a k) := fun a e => by unfold mq_fv; rw [hkd, e]; rfl
  have f2 : ∀ a, kd = 2 → mq_fv g h a ci k = va_rf ((mq_R h a k).map (mq_ad g)) := fun a e => by unfold mq_fv; rw [hkd, e]; rfl
  have f0 : ∀ a, kd ≠ 1 → kd ≠ 2 → mq_fv g h a ci k = .int (mq_I h a k) := fun a e1 e2 => by
    unfold mq_fv
    rw [hkd]
    split
    · exact absurd rfl e1
    · exact absurd rfl e2
    · rfl
  unfold mq_gf at hX
  split at hX
  · rename_i a
    split at hX
    · rename_i c' hT
      cases hb : Nat.beq c' ci with
      | false => rw [hb] at hX; cases hX
      | true =>
        rw [hb] at hX
        have hc := Nat.eq_of_beq_eq_true hb
        subst hc
        dsimp only [cond_true] at hX
        have hs : mq_stc T h → mq_sh h a = .inl c' := fun z => (z.1 _ _ hT).1
        split at hX
        · cases hX
          exact Or.inl ⟨_, _, rfl, fun _ K => mq_good.of (fun z => sd_gf (w := .long (mq_J h a k)) C hd hq hk hlink (hs z) rfl (f1 a rfl).symm K)⟩
        · split at hX
          · rename_i b hT2
            cases hX
            exact Or.inl ⟨_, _, rfl, fun _ K => mq_good.of (fun z => sd_gf (w := .retAddr b) C hd hq hk hlink (hs z) rfl (by rw [f2 a rfl, (z.2 a k b hT2).1]; rfl) K)⟩
          · cases hX
            exact Or.inr ⟨_, _, rfl, fun _ K => mq_good.of (fun z => sd_gf C hd hq hk hlink (hs z) rfl (by rw [mq_pv_cv, f2 a rfl]) K)⟩
        · rename_i n1 n2
          cases hX
          exact Or.inl ⟨_, _, rfl, fun _ K => mq_good.of (fun z => sd_gf (w := .int (mq_I h a k)) C hd hq hk hlink (hs z) rfl (f0 a (fun e => n1 e) (fun e => n2 e)).symm K)⟩
    · cases hX
  · rename_i a
    split at hX
    · cases hX
      exact Or.inl ⟨_, _, rfl, fun hg K => sd_gf (w := .long (mq_J h a k)) C hd hq hk hlink (mq_isO_spec hg) rfl (f1 a rfl).symm K⟩
    · cases hX
      exact Or.inr ⟨_, _, rfl, fun hg K => sd_gf C hd hq hk hlink (mq_isO_spec hg) rfl (by rw [mq_pv_cv, f2 a rfl]) K⟩
    · rename_i n1 n2
      cases hX
      exact Or.inl ⟨_, _, rfl, fun hg K => sd_gf (w := .int (mq_I h a k)) C hd hq hk hlink (mq_isO_spec hg) rfl (f0 a (fun e => n1 e) (fun e => n2 e)).symm K⟩
  · cases hX
/-- the picture of an object when one field is written -/
theorem mq_newI {a ci k : Nat} {x : Int32} (h1 : ¬ mq_knd (mq_fty ci k) = 1) (h2 : ¬ mq_knd (mq_fty ci k) = 2) (j : Nat) : mq_fv g (mq_setI h a k x) a ci j = updV (fun j => mq_fv g h a ci j) k (.int x) j := by
  unfold updV
  by_cases e : j = k
  · subst e
    rw [if_pos rfl]
    unfold mq_fv
    split
    · rename_i z; exact absurd z h1
    · rename_i z; exact absurd z h2
    · rw [mq_setI_self]; simp [upd]
  · rw [if_neg e]
    unfold mq_fv
    rw [mq_setI_self, show upd (mq_I h a) k x j = mq_I h a j by simp [upd, e]]
    rfl
theorem mq_newJ {a ci k : Nat} {x : Int64} (h1 : mq_knd (mq_fty ci k) = 1) (j : Nat) : mq_fv g (mq_setJ h a k x) a ci j = updV (fun j => mq_fv g h a ci j) k (.long x) j := by
  unfold updV
  by_cases e : j = k
  · subst e
    rw [if_pos rfl]
    unfold mq_fv
    rw [h1, mq_setJ_self]
    simp [vp_updL]
  · rw [if_neg e]
    unfold mq_fv
    rw [mq_setJ_self, show vp_updL (mq_J h a) k x j = mq_J h a j by simp [vp_updL, e]]
    rfl
theorem mq_newR {a ci k : Nat} {o : Option Nat} (h2 : mq_knd (mq_fty ci k) = 2) (j : Nat) : mq_fv g (mq_setR h a k o) a ci j = updV (fun j => mq_fv g h a ci j) k (va_rf (o.map (mq_ad g))) j := by
  unfold updV
  by_cases e : j = k
  · subst e
    rw [if_pos rfl]
    unfold mq_fv
    rw [h2, mq_setR_self, if_pos rfl]
    try rfl
  · rw [if_neg e]
    unfold mq_fv
    rw [mq_setR_self, if_neg e]
    rfl
theorem sd_pfA {i ci k kd nx : Nat} {v x : Value} {q : vw_C} {X : mq_X} (C : mq_ctx g p R s mid args meth c y bs nL ret fr lo) (hd : decode bs pc = .ok (.putfield i, 3)) (hnx : nx = pc + 3) (hq : mq_cl[ci]? = some q) (hk : k < q.2.2) (hlink : Cond.fieldLink y.cls i (q.2.1 k).1 (q.2.1 k).2.1 (q.2.1 k).2.2.1 ∈ mq_gw) (hfin : (q.2.1 k).2.2.2 = false ∨ (y.name = "<init>" ∧ (q.2.1 k).1 = y.cls)) (hkd : mq_knd (mq_fty ci k) = kd) (hX : mq_pf T h x v ci k kd nx L r = some X) :
    ∃ o h', X = .inl (o, nx, L, r, h') ∧ (mq_gB o = true → mq_good g T p l e R s mid args below meth c Q n0 z0 nL nx L r h' → mq_good g T p l e R s mid args below meth c Q n0 z0 nL pc L (x :: v :: r) h) := by
  subst hnx
  unfold mq_pf at hX
  split at hX
  · cases hX
  · rename_i o a hob
    split at hX
    · split at hX
      · rename_i z
        cases hX
        refine ⟨_, _, rfl, fun hg K => mq_good.of (fun w => ?_)⟩
        obtain ⟨q1, q2, -⟩ := mq_ob_spec (g := g) w hob hg
        exact sd_pf (h' := mq_setJ h a k z) C hd hq hk hlink hfin q1 q2 (mq_fit1 hkd z).1 (mq_fit1 hkd z).2 rfl rfl (fun _ => rfl) (fun j hj => ⟨rfl, mq_setJ_ne hj _ _, rfl⟩) (fun j => mq_newJ hkd j) (fun t => t) K
      · cases hX
    · split at hX
      · rename_i z hz
        split at hX
        · rename_i g2 hg2
          cases hX
          refine ⟨_, _, rfl, fun hg K => mq_good.of (fun w => ?_)⟩
          have hcx := mq_rv_spec (g := g) hz
          have ht : mq_gB o = true ∧ ((∀ j b, T.2 a j = some b → mq_R h a j = some b) → ∀ j b, T.2 a j = some b → mq_R (mq_setR h a k z) a j = some b) := by
            unfold mq_wg at hg2
            split at hg2
            · rename_i a'
              split at hg2
              · cases hg2
              · rename_i hT2
                cases hg2
                refine ⟨hg, fun t j b hj => ?_⟩
                have ha : a' = a := by
                  rcases (mq_ob_spec (g := g) w hob hg).2.2 with e | e
                  · cases e; rfl
                  · cases e
                subst ha
                rw [mq_setR_self]
                by_cases ejk : j = k
                · subst ejk; rw [hT2] at hj; cases hj
                · rw [if_neg ejk]; exact t j b hj
            · rename_i a'
              cases hg2
              obtain ⟨hg3, hn⟩ := mq_gB_an hg
              refine ⟨hg3, fun t j b hj => ?_⟩
              have ha : a' = a := by
                rcases (mq_ob_spec (g := g) w hob hg3).2.2 with e | e
                · cases e
                · cases e; rfl
              subst ha
              obtain ⟨-, ci', h3⟩ := w.2 a' j b hj
              rw [h3] at hn
              cases hn
            · cases hg2
          obtain ⟨q1, q2, -⟩ := mq_ob_spec (g := g) w hob ht.1
          exact sd_pf (h' := mq_setR h a k z) C hd hq hk hlink hfin q1 q2 (by rw [hcx]; exact (mq_fit2 hkd _).1) (by rw [hcx]; exact (mq_fit2 hkd _).2) rfl rfl (fun _ => rfl) (fun j hj => ⟨rfl, rfl, mq_setR_ne hj _ _⟩) (fun j => by rw [hcx]; exact mq_newR hkd j) ht.2 K
        · cases hX
      · cases hX
    · split at hX
      · rename_i z
        cases hX
        refine ⟨_, _, rfl, fun hg K => mq_good.of (fun w => ?_)⟩
        obtain ⟨hg1, hg2⟩ := mq_gB_an hg
        obtain ⟨q1, q2, -⟩ := mq_ob_spec (g := g) w hob hg1
        exact sd_pf (h' := mq_setI h a k z) C hd hq hk hlink hfin q1 q2 (mq_fit3 hkd (mq_bit_spec hg2)).1 (mq_fit3 hkd (mq_bit_spec hg2)).2 rfl rfl (fun _ => rfl) (fun j hj => ⟨mq_setI_ne hj _ _, rfl, rfl⟩) (fun j => mq_newI (by rw [hkd]; decide) (by rw [hkd]; decide) j) (fun t => t) K
      · cases hX
    · rename_i n1 n2 n3
      split at hX
      · rename_i z
        cases hX
        refine ⟨_, _, rfl, fun hg K => mq_good.of (fun w => ?_)⟩
        obtain ⟨q1, q2, -⟩ := mq_ob_spec (g := g) w hob hg
        have hk0 : mq_knd (mq_fty ci k) = 0 := by
          have h9 := (mq_cls hq).2.2.2.1 k hk
          generalize mq_fty ci k = t at hkd h9
          cases t <;> first | rfl | exact absurd hkd.symm n1 | exact absurd hkd.symm n2 | exact absurd hkd.symm n3 | exact absurd rfl h9
        exact sd_pf (h' := mq_setI h a k z) C hd hq hk hlink hfin q1 q2 (mq_fit0 hk0 z).1 (mq_fit0 hk0 z).2 rfl rfl (fun _ => rfl) (fun j hj => ⟨mq_setI_ne hj _ _, rfl, rfl⟩) (fun j => mq_newI (by rw [hk0]; decide) (by rw [hk0]; decide) j) (fun t => t) K
      · cases hX
end MQ5
