/-! FIELDS, ARRAYS, NEW CELLS -/
section MQ2
variable {g : mq_GH} {T : mq_T} {p : Program} {l : Launch} {e : Env} {R : Room} {s : State} {mid : MethodId} {args : Array Value} {below : List Frame} {meth : Method} {c : Code} {Q : State → Prop} {n0 z0 nL : Nat}
variable {y : MethodName} {bs : ByteArray} {ret : Option FieldType} {fr lo : Nat} {pc pc' : Nat} {L : mq_L} {st st' r : List Value} {h h' : mq_H}
theorem mq_P1 {D : va_G} {cl : List vw_C} {q : Nat × va_E} {H : Heap} (h : va_at D cl q H) : va_P D cl [q] H := by
  intro k x hk
  cases k with
  | zero => cases hk; exact h
  | succ k => simp at hk
theorem sd_gf {i ci k a : Nat} {v w : Value} {q : vw_C} (C : mq_ctx g p R s mid args meth c y bs nL ret fr lo) (hd : decode bs pc = .ok (.getfield i, 3)) (hq : mq_cl[ci]? = some q) (hk : k < q.2.2) (hlink : Cond.fieldLink y.cls i (q.2.1 k).1 (q.2.1 k).2.1 (q.2.1 k).2.2.1 ∈ mq_gw) (hs : mq_sh h a = .inl ci) (hv : mq_cv g v = .ref (mq_ad g a)) (hw : mq_cv g w = mq_fv g h a ci k) (K : mq_good g T p l e R s mid args below meth c Q n0 z0 nL (pc + 3) L (w :: r) h) : mq_good g T p l e R s mid args below meth c Q n0 z0 nL pc L (v :: r) h := by
  obtain ⟨hx, hb, hml, hr, hown, hnm, hlk, hfr, hlo, hts, hK, -⟩ := C
  refine mq_good.sk (fun H ls locs ce sl h1 _ _ _ kk => ?_) K
  obtain ⟨-, q', hq', cell, q1, q2, q3, q4⟩ := h1.obj hs
  cases hq.symm.trans hq'
  obtain ⟨hS, hfc, kC, hkC, hkind⟩ := hK.1 ci _ hq
  obtain ⟨cf, kf, fi, f, hi, hsl⟩ := hS k hk
  simp only [List.map_cons, hv] at *
  refine W.getf hx hb hown (hts _ hlink) hi (u_facts hfc hkC (u_lays hts (mq_cls hq).1 hk) hi).1 q1 (by rw [q3]; exact fun h => by cases h) (v := mq_cv g w) ?_ rfl rfl hd kk
  rw [hsl, q4 k hk, hw]
theorem sd_pf {i ci k a : Nat} {v x : Value} {q : vw_C} (C : mq_ctx g p R s mid args meth c y bs nL ret fr lo) (hd : decode bs pc = .ok (.putfield i, 3)) (hq : mq_cl[ci]? = some q) (hk : k < q.2.2) (hlink : Cond.fieldLink y.cls i (q.2.1 k).1 (q.2.1 k).2.1 (q.2.1 k).2.2.1 ∈ mq_gw) (hfin : (q.2.1 k).2.2.2 = false ∨ (y.name = "<init>" ∧ (q.2.1 k).1 = y.cls)) (hs : mq_sh h a = .inl ci) (hv : mq_cv g v = .ref (mq_ad g a)) (hn : narrow (mq_fty ci k) (mq_cv g x) = mq_cv g x) (hfit : fits (mq_fty ci k) (mq_cv g x) = true)
    (hN : mq_N h' = mq_N h) (hZ : mq_Z h' = mq_Z h) (hsh : ∀ j, mq_sh h' j = mq_sh h j) (ho : ∀ j, j ≠ a → mq_I h' j = mq_I h j ∧ mq_J h' j = mq_J h j ∧ mq_R h' j = mq_R h j) (hnew : ∀ j, mq_fv g h' a ci j = updV (fun j => mq_fv g h a ci j) k (mq_cv g x) j) (ht : (∀ j b, T.2 a j = some b → mq_R h a j = some b) → ∀ j b, T.2 a j = some b → mq_R h' a j = some b) (K : mq_good g T p l e R s mid args below meth c Q n0 z0 nL (pc + 3) L r h') : mq_good g T p l e R s mid args below meth c Q n0 z0 nL pc L (x :: v :: r) h := by
  obtain ⟨hx, hb, hml, hr, hown, hnm, hlk, hfr, hlo, hts, hK, -⟩ := C
  refine mq_good.pt (k := a) hN hZ hsh ho (fun n j _ e' => by rw [hs] at e'; cases e') ht (fun H ls locs ce sl h1 _ _ hSv kk => ?_) K
  obtain ⟨h4, q', hq', cell, q1, q2, q3, q4⟩ := h1.obj hs
  cases hq.symm.trans hq'
  obtain ⟨hin, hty, hnames, -⟩ := mq_cls hq
  have hap := va_apart (own := y.cls) hts hin (mq_fty ci) hty hnames hK hq
  obtain ⟨hS, hfc, kC, hkC, hkind⟩ := hK.1 ci _ hq
  obtain ⟨cf, kf, fi, f, hi, hsl⟩ := hS k hk
  have hlay := hts _ (hin _ (u_in_lay hk))
  have hst := (u_facts hfc hkC (u_lays hts hin hk) hi).1
  simp only [List.map_cons, hv]
  have fin : ∀ H1 : Heap, H1[mq_ad g a]? = some (cell.setSlot (g.2.2.1.2 ci k) (mq_cv g x)) → mq_cell g h' a H1 := by
    intro H1 e1
    unfold mq_cell
    rw [hsh, hs]
    exact ⟨_, hq, t_OB.to (V := updV (fun j => mq_fv g h a ci j) k (mq_cv g x)) ⟨_, e1, q2, q3, t_set q4 hap hk (mq_cv g x)⟩ (fun j _ => (hnew j).symm)⟩
  unfold u_lay at hlay
  by_cases hf : (q.2.1 k).2.2.2 = true
  · rw [if_pos hf] at hlay
    rcases hfin with hfin | hfin
    · rw [hfin] at hf; cases hf
    have hcf : mid.cls = cf := by
      obtain ⟨_, _, c', _, _, _, -, -, hf', -, -, -, hown2, -⟩ := Cond.laysFinal_spec hlay
      have e1 : c' = cf := by have := hi.symm.trans hf'; simp at this; exact this.1.symm
      rw [hfin.2] at hown2
      rw [← e1]; exact Option.some.inj (hown.symm.trans hown2)
    have h6 := u_fits hfc hkC hkind (Or.inr hlay) hi (hty k hk) hn hfit
    refine W.putFinK hx hb hown (hts _ hlink) hi hst hcf (hnm hfin.1) (by rw [q2]; exact h6) q1 q3 (by rw [hsl]; exact k2_hasslot (q4 k hk)) rfl rfl hd fun H' e1 e2 e3 => ?_
    rw [hsl] at e1 ⊢
    exact kk H' _ h4 e2 e3 (fin H' e1) (hSv.put e2 e3 (mq_ad_ge h4))
  · rw [if_neg hf] at hlay
    have h6 := u_store hfc hkC hkind hlay hi (hty k hk) hn hfit
    refine W.putK hx hb (f := f) ⟨hown, hts _ hlink, ⟨_, _, _, hi⟩, hst⟩ (by rw [q2]; exact h6) q1 q3 (by rw [hsl]; exact k2_hasslot (q4 k hk)) rfl rfl hd fun H' e1 e2 e3 => ?_
    rw [hsl] at e1 ⊢
    exact kk H' _ h4 e2 e3 (fin H' e1) (hSv.put e2 e3 (mq_ad_ge h4))
theorem sd_iald {a n : Nat} {i : Int32} {v : Value} (C : mq_ctx g p R s mid args meth c y bs nL ret fr lo) (hd : decode bs pc = .ok (.iaload, 1)) (hs : mq_sh h a = .inr (0, n)) (hv : mq_cv g v = .ref (mq_ad g a)) (hi : vp_in i n) (K : mq_good g T p l e R s mid args below meth c Q n0 z0 nL (pc + 1) L (.int (mq_I h a i.toNatClampNeg) :: r) h) : mq_good g T p l e R s mid args below meth c Q n0 z0 nL pc L (.int i :: v :: r) h := by
  obtain ⟨hx, hb, hml, hr, hown, hnm, hlk, hfr, hlo, hts, hK, -⟩ := C
  refine mq_good.sk (fun H ls locs ce sl h1 _ _ _ kk => ?_) K
  obtain ⟨-, -, hc⟩ := h1.arr hs (by decide)
  simp only [List.map_cons, hv] at *
  exact va_iald (D := g.2.2.1) (cl := mq_cl) hx hb hK (mq_P1 (q := (mq_ad g a, .inl (g.2.2.2 0, n, .inl (mq_I h a)))) hc) 0 0 rfl rfl hi hd kk
theorem sd_iaX {a n : Nat} {i : Int32} {v : Value} (C : mq_ctx g p R s mid args meth c y bs nL ret fr lo) (hd : decode bs pc = .ok (.iaload, 1)) (ha : a < 4) (hs : mq_sh h a = .inr (9, n)) (hv : mq_cv g v = .ref (mq_ad g a)) (hi : vp_in i n) (K : mq_good g T p l e R s mid args below meth c Q n0 z0 nL (pc + 1) L (.int (mq_I h a i.toNatClampNeg) :: r) h) : mq_good g T p l e R s mid args below meth c Q n0 z0 nL pc L (.int i :: v :: r) h := by
  obtain ⟨hx, hb, hml, hr, hown, hnm, hlk, hfr, hlo, hts, hK, -⟩ := C
  refine mq_good.sk (fun H ls locs ce sl h1 h2 _ _ kk => ?_) K
  obtain ⟨scr, q1, q2, q3, q4, q5⟩ := h2 a n ha hs
  have hlt : i.toNatClampNeg < n := Nat.not_le.mp fun q => hi (Or.inr q)
  have ead : mq_ad g a = g.2.1 a := by unfold mq_ad; rw [if_pos ha]
  simp only [List.map_cons, hv, ead] at *
  exact W.iald (v := .int (mq_I h a i.toNatClampNeg)) hx hb q1 q2 q3 (by rw [q4]; exact hi) (q5 _ hlt) rfl rfl hd kk
theorem sd_bald {a n ty : Nat} {i : Int32} {v : Value} (C : mq_ctx g p R s mid args meth c y bs nL ret fr lo) (hd : decode bs pc = .ok (.baload, 1)) (hty : ty = 1 ∨ ty = 2) (hs : mq_sh h a = .inr (ty, n)) (hv : mq_cv g v = .ref (mq_ad g a)) (hi : vp_in i n) (K : mq_good g T p l e R s mid args below meth c Q n0 z0 nL (pc + 1) L (.int (mq_I h a i.toNatClampNeg) :: r) h) : mq_good g T p l e R s mid args below meth c Q n0 z0 nL pc L (.int i :: v :: r) h := by
  obtain ⟨hx, hb, hml, hr, hown, hnm, hlk, hfr, hlo, hts, hK, -⟩ := C
  refine mq_good.sk (fun H ls locs ce sl h1 _ _ _ kk => ?_) K
  obtain ⟨-, -, hc⟩ := h1.arr hs (by rcases hty with rfl | rfl <;> decide)
  simp only [List.map_cons, hv] at *
  rcases hty with rfl | rfl
  · exact va_bald (D := g.2.2.1) (cl := mq_cl) hx hb hK (mq_P1 (q := (mq_ad g a, .inl (g.2.2.2 1, n, .inl (mq_I h a)))) hc) 0 1 rfl rfl hi hd kk
  · exact va_zald (D := g.2.2.1) (cl := mq_cl) hx hb hK (mq_P1 (q := (mq_ad g a, .inl (g.2.2.2 2, n, .inl (mq_I h a)))) hc) 0 2 rfl rfl hi hd kk
theorem sd_lald {a n : Nat} {i : Int32} {v : Value} (C : mq_ctx g p R s mid args meth c y bs nL ret fr lo) (hd : decode bs pc = .ok (.laload, 1)) (hs : mq_sh h a = .inr (3, n)) (hv : mq_cv g v = .ref (mq_ad g a)) (hi : vp_in i n) (K : mq_good g T p l e R s mid args below meth c Q n0 z0 nL (pc + 1) L (.long (mq_J h a i.toNatClampNeg) :: r) h) : mq_good g T p l e R s mid args below meth c Q n0 z0 nL pc L (.int i :: v :: r) h := by
  obtain ⟨hx, hb, hml, hr, hown, hnm, hlk, hfr, hlo, hts, hK, -⟩ := C
  refine mq_good.sk (fun H ls locs ce sl h1 _ _ _ kk => ?_) K
  obtain ⟨-, -, hc⟩ := h1.arr hs (by decide)
  simp only [List.map_cons, hv] at *
  exact va_lald (D := g.2.2.1) (cl := mq_cl) hx hb hK (mq_P1 (q := (mq_ad g a, .inl (g.2.2.2 3, n, .inr (.inl (mq_J h a))))) hc) 0 3 rfl rfl hi hd kk
theorem mq_pv_cv (o : Option Nat) : mq_cv g (mq_pv o) = va_rf (o.map (mq_ad g)) := by cases o <;> rfl
theorem sd_aald {a n ty : Nat} {i : Int32} {v : Value} (C : mq_ctx g p R s mid args meth c y bs nL ret fr lo) (hd : decode bs pc = .ok (.aaload, 1)) (hty : ty = 4 ∨ ty = 5) (hs : mq_sh h a = .inr (ty, n)) (hv : mq_cv g v = .ref (mq_ad g a)) (hi : vp_in i n) (K : mq_good g T p l e R s mid args below meth c Q n0 z0 nL (pc + 1) L (mq_pv (mq_R h a i.toNatClampNeg) :: r) h) : mq_good g T p l e R s mid args below meth c Q n0 z0 nL pc L (.int i :: v :: r) h := by
  obtain ⟨hx, hb, hml, hr, hown, hnm, hlk, hfr, hlo, hts, hK, -⟩ := C
  refine mq_good.sk (fun H ls locs ce sl h1 _ _ _ kk => ?_) K
  obtain ⟨-, -, hc⟩ := h1.arr hs (by rcases hty with rfl | rfl <;> decide)
  simp only [List.map_cons, hv, mq_pv_cv] at *
  rcases hty with rfl | rfl
  · exact va_aldq (D := g.2.2.1) (cl := mq_cl) hx hb hK (mq_P1 (q := (mq_ad g a, .inl (g.2.2.2 4, n, .inr (.inr (.inr (.inr (fun j => (mq_R h a j).map (mq_ad g)))))))) hc) 0 4 rfl rfl hi hd kk
  · exact va_aldq (D := g.2.2.1) (cl := mq_cl) hx hb hK (mq_P1 (q := (mq_ad g a, .inl (g.2.2.2 5, n, .inr (.inr (.inr (.inr (fun j => (mq_R h a j).map (mq_ad g)))))))) hc) 0 5 rfl rfl hi hd kk
/-! how the writers of the abstract heap change it -/
theorem mq_setI_self (h : mq_H) (a k : Nat) (v : Int32) : mq_I (mq_setI h a k v) a = upd (mq_I h a) k v := by
  funext j
  show (if a = a then (if j = k then v else mq_I h a j) else mq_I h a j) = if j = k then v else mq_I h a j
  rw [if_pos rfl]
theorem mq_setI_ne {h : mq_H} {a j : Nat} (hj : j ≠ a) (k : Nat) (v : Int32) : mq_I (mq_setI h a k v) j = mq_I h j := by
  funext i
  exact if_neg hj
theorem mq_setJ_self (h : mq_H) (a k : Nat) (v : Int64) : mq_J (mq_setJ h a k v) a = vp_updL (mq_J h a) k v := by
  funext j
  show (if a = a then (if j = k then v else mq_J h a j) else mq_J h a j) = if j = k then v else mq_J h a j
  rw [if_pos rfl]
theorem mq_setJ_ne {h : mq_H} {a j : Nat} (hj : j ≠ a) (k : Nat) (v : Int64) : mq_J (mq_setJ h a k v) j = mq_J h j := by
  funext i
  exact if_neg hj
theorem mq_setR_self (h : mq_H) (a k : Nat) (v : Option Nat) (j : Nat) : mq_R (mq_setR h a k v) a j = if j = k then v else mq_R h a j := by
  show (if a = a then (if j = k then v else mq_R h a j) else mq_R h a j) = if j = k then v else mq_R h a j
  rw [if_pos rfl]
theorem mq_setR_ne {h : mq_H} {a j : Nat} (hj : j ≠ a) (k : Nat) (v : Option Nat) : mq_R (mq_setR h a k v) j = mq_R h j := by
  funext i
  exact if_neg hj
theorem sd_iast {a n : Nat} {i x : Int32} {v : Value} (C : mq_ctx g p R s mid args meth c y bs nL ret fr lo) (hd : decode bs pc = .ok (.iastore, 1)) (hs : mq_sh h a = .inr (0, n)) (hv : mq_cv g v = .ref (mq_ad g a)) (hi : vp_in i n) (K : mq_good g T p l e R s mid args below meth c Q n0 z0 nL (pc + 1) L r (mq_setI h a i.toNatClampNeg x)) : mq_good g T p l e R s mid args below meth c Q n0 z0 nL pc L (.int x :: .int i :: v :: r) h := by
  obtain ⟨hx, hb, hml, hr, hown, hnm, hlk, hfr, hlo, hts, hK, -⟩ := C
  refine mq_good.pt (h' := mq_setI h a i.toNatClampNeg x) (k := a) rfl rfl (fun _ => rfl) (fun j hj => ⟨mq_setI_ne hj _ _, rfl, rfl⟩) (fun n' j _ e' => by rw [hs] at e'; cases e') (fun q => q) (fun H ls locs ce sl h1 _ _ hSv kk => ?_) K
  obtain ⟨h4, -, hc⟩ := h1.arr hs (by decide)
  simp only [List.map_cons, hv]
  refine W.iast hx hb hc ((hK.2 0 _ rfl).1 n (fun j => .int (mq_I h a j))) (fun q => by cases q) (by show ¬ (i < 0 ∨ (arrV _ _ _).slots.size ≤ _); rw [arrV_size]; exact hi) rfl rfl hd fun H1 e z oq => ?_
  refine kk H1 _ h4 z oq ?_ (hSv.put z oq (mq_ad_ge h4))
  unfold mq_cell
  rw [show mq_sh (mq_setI h a i.toNatClampNeg x) a = .inr (0, n) from hs]
  refine ⟨by decide, ?_⟩
  rw [e]
  show some ((arrV (g.2.2.2 0) n (fun j => .int (mq_I h a j))).setSlot _ _) = some (arrV (g.2.2.2 0) n (fun j => .int (mq_I (mq_setI h a i.toNatClampNeg x) a j)))
  rw [arrV_store, mq_setI_self]
  congr 2
  funext q
  by_cases hq : q = i.toNatClampNeg
  · subst hq
    simp [updV, upd]
  · simp [updV, upd, hq]
theorem sd_bast1 {a n : Nat} {i x : Int32} {v : Value} (C : mq_ctx g p R s mid args meth c y bs nL ret fr lo) (hd : decode bs pc = .ok (.bastore, 1)) (hs : mq_sh h a = .inr (1, n)) (hv : mq_cv g v = .ref (mq_ad g a)) (hi : vp_in i n) (K : mq_good g T p l e R s mid args below meth c Q n0 z0 nL (pc + 1) L r (mq_setI h a i.toNatClampNeg x.toInt8.toInt32)) : mq_good g T p l e R s mid args below meth c Q n0 z0 nL pc L (.int x :: .int i :: v :: r) h := by
  obtain ⟨hx, hb, hml, hr, hown, hnm, hlk, hfr, hlo, hts, hK, -⟩ := C
  refine mq_good.pt (h' := mq_setI h a i.toNatClampNeg x.toInt8.toInt32) (k := a) rfl rfl (fun _ => rfl) (fun j hj => ⟨mq_setI_ne hj _ _, rfl, rfl⟩) (fun n' j _ e' => by rw [hs] at e'; cases e') (fun q => q) (fun H ls locs ce sl h1 _ _ hSv kk => ?_) K
  obtain ⟨h4, -, hc⟩ := h1.arr hs (by decide)
  simp only [List.map_cons, hv]
  refine W.bast hx hb hc ((hK.2 1 _ rfl).1 n (fun j => .int (mq_I h a j))) (fun q => by cases q) (by show ¬ (i < 0 ∨ (arrV _ _ _).slots.size ≤ _); rw [arrV_size]; exact hi) rfl rfl hd fun H1 e z oq => ?_
  refine kk H1 _ h4 z oq ?_ (hSv.put z oq (mq_ad_ge h4))
  unfold mq_cell
  rw [show mq_sh (mq_setI h a i.toNatClampNeg x.toInt8.toInt32) a = .inr (1, n) from hs]
  refine ⟨by decide, ?_⟩
  rw [e]
  show some ((arrV (g.2.2.2 1) n (fun j => .int (mq_I h a j))).setSlot _ _) = some (arrV (g.2.2.2 1) n (fun j => .int (mq_I (mq_setI h a i.toNatClampNeg x.toInt8.toInt32) a j)))
  rw [arrV_store, mq_setI_self]
  congr 2
  funext q
  by_cases hq : q = i.toNatClampNeg
  · subst hq
    simp [updV, upd]
    try rfl
  · simp [updV, upd, hq]
theorem sd_bast2 {a n : Nat} {i x : Int32} {v : Value} (C : mq_ctx g p R s mid args meth c y bs nL ret fr lo) (hd : decode bs pc = .ok (.bastore, 1)) (hs : mq_sh h a = .inr (2, n)) (hv : mq_cv g v = .ref (mq_ad g a)) (hi : vp_in i n) (hx01 : x = 0 ∨ x = 1) (K : mq_good g T p l e R s mid args below meth c Q n0 z0 nL (pc + 1) L r (mq_setI h a i.toNatClampNeg x)) : mq_good g T p l e R s mid args below meth c Q n0 z0 nL pc L (.int x :: .int i :: v :: r) h := by
  obtain ⟨hx, hb, hml, hr, hown, hnm, hlk, hfr, hlo, hts, hK, -⟩ := C
  refine mq_good.pt (h' := mq_setI h a i.toNatClampNeg x) (k := a) rfl rfl (fun _ => rfl) (fun j hj => ⟨mq_setI_ne hj _ _, rfl, rfl⟩) (fun n' j hall _ => ?_) (fun q => q) (fun H ls locs ce sl h1 _ _ hSv kk => ?_) K
  · rw [mq_setI_self]
    unfold upd
    split
    · exact hx01
    · exact hall j
  obtain ⟨h4, -, hc⟩ := h1.arr hs (by decide)
  simp only [List.map_cons, hv]
  refine W.zast hx hb hc ((hK.2 2 _ rfl).1 n (fun j => .int (mq_I h a j))) (fun q => by cases q) (by show ¬ (i < 0 ∨ (arrV _ _ _).slots.size ≤ _); rw [arrV_size]; exact hi) rfl rfl hd fun H1 e z oq => ?_
  refine kk H1 _ h4 z oq ?_ (hSv.put z oq (mq_ad_ge h4))
  unfold mq_cell
  rw [show mq_sh (mq_setI h a i.toNatClampNeg x) a = .inr (2, n) from hs]
  refine ⟨by decide, ?_⟩
  rw [e]
  show some ((arrV (g.2.2.2 2) n (fun j => .int (mq_I h a j))).setSlot _ _) = some (arrV (g.2.2.2 2) n (fun j => .int (mq_I (mq_setI h a i.toNatClampNeg x) a j)))
  rw [arrV_store, mq_setI_self]
  congr 2
  funext q
  by_cases hq : q = i.toNatClampNeg
  · subst hq
    rcases hx01 with rfl | rfl <;> simp [updV, upd] <;> (try decide)
  · simp [updV, upd, hq]
theorem sd_last {a n : Nat} {i : Int32} {x : Int64} {v : Value} (C : mq_ctx g p R s mid args meth c y bs nL ret fr lo) (hd : decode bs pc = .ok (.lastore, 1)) (hs : mq_sh h a = .inr (3, n)) (hv : mq_cv g v = .ref (mq_ad g a)) (hi : vp_in i n) (K : mq_good g T p l e R s mid args below meth c Q n0 z0 nL (pc + 1) L r (mq_setJ h a i.toNatClampNeg x)) : mq_good g T p l e R s mid args below meth c Q n0 z0 nL pc L (.long x :: .int i :: v :: r) h := by
  obtain ⟨hx, hb, hml, hr, hown, hnm, hlk, hfr, hlo, hts, hK, -⟩ := C
  refine mq_good.pt (h' := mq_setJ h a i.toNatClampNeg x) (k := a) rfl rfl (fun _ => rfl) (fun j hj => ⟨rfl, mq_setJ_ne hj _ _, rfl⟩) (fun n' j _ e' => by rw [hs] at e'; cases e') (fun q => q) (fun H ls locs ce sl h1 _ _ hSv kk => ?_) K
  obtain ⟨h4, -, hc⟩ := h1.arr hs (by decide)
  simp only [List.map_cons, hv]
  refine W.last hx hb hc ((hK.2 3 _ rfl).1 n (fun j => .long (mq_J h a j))) (fun q => by cases q) (by show ¬ (i < 0 ∨ (arrV _ _ _).slots.size ≤ _); rw [arrV_size]; exact hi) rfl rfl hd fun H1 e z oq => ?_
  refine kk H1 _ h4 z oq ?_ (hSv.put z oq (mq_ad_ge h4))
  unfold mq_cell
  rw [show mq_sh (mq_setJ h a i.toNatClampNeg x) a = .inr (3, n) from hs]
  refine ⟨by decide, ?_⟩
  rw [e]
  show some ((arrV (g.2.2.2 3) n (fun j => .long (mq_J h a j))).setSlot _ _) = some (arrV (g.2.2.2 3) n (fun j => .long (mq_J (mq_setJ h a i.toNatClampNeg x) a j)))
  rw [arrV_store, mq_setJ_self]
  congr 2
  funext q
  by_cases hq : q = i.toNatClampNeg
  · subst hq
    simp [updV, vp_updL]
  · simp [updV, vp_updL, hq]
end MQ2
