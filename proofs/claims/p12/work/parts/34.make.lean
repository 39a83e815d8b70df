/-! ROWS OF REFERENCES, LENGTHS, NEW CELLS, COPIES -/
section MQ3
variable {g : mq_GH} {T : mq_T} {p : Program} {l : Launch} {e : Env} {R : Room} {s : State} {mid : MethodId} {args : Array Value} {below : List Frame} {meth : Method} {c : Code} {Q : State → Prop} {n0 z0 nL : Nat}
variable {y : MethodName} {bs : ByteArray} {ret : Option FieldType} {fr lo : Nat} {pc pc' : Nat} {L : mq_L} {st st' r : List Value} {h h' : mq_H}
theorem sd_aast {a n ty b : Nat} {i : Int32} {v x : Value} (C : mq_ctx g p R s mid args meth c y bs nL ret fr lo) (hd : decode bs pc = .ok (.aastore, 1)) (hty : ty = 4 ∨ ty = 5) (hs : mq_sh h a = .inr (ty, n)) (hv : mq_cv g v = .ref (mq_ad g a)) (hi : vp_in i n) (hsb : mq_sh h b = .inl (mq_el ty)) (hvb : mq_cv g x = .ref (mq_ad g b)) (hT : ∀ j, T.2 a j = none) (K : mq_good g T p l e R s mid args below meth c Q n0 z0 nL (pc + 1) L r (mq_setR h a i.toNatClampNeg (some b))) : mq_good g T p l e R s mid args below meth c Q n0 z0 nL pc L (x :: .int i :: v :: r) h := by
  obtain ⟨hx, hb, hml, hr, hown, hnm, hlk, hfr, hlo, hts, hK, -⟩ := C
  refine mq_good.pt (h' := mq_setR h a i.toNatClampNeg (some b)) (k := a) rfl rfl (fun _ => rfl) (fun j hj => ⟨rfl, rfl, mq_setR_ne hj _ _⟩) (fun n' j _ e' => by rw [hs] at e'; rcases hty with rfl | rfl <;> cases e') (fun _ j b' q => by rw [hT j] at q; cases q) (fun H ls locs ce sl h1 _ _ hSv kk => ?_) K
  obtain ⟨h4, -, hc⟩ := h1.arr hs (by rcases hty with rfl | rfl <;> decide)
  obtain ⟨-, q', hq', cellV, g1, g2, g3, -⟩ := h1.obj hsb
  have hlt : i.toNatClampNeg < n := Nat.not_le.mp fun q => hi (Or.inr q)
  have h0 : ¬ i < 0 := fun q => hi (Or.inl q)
  have hcls := (hK.1 (mq_el ty) q' hq').2
  have hRA : ∃ (kA : Class) (t : FieldType), s.vm.classes[g.2.2.2 ty]? = some kA ∧ kA.kind = .array (g.2.2.1.1 (mq_el ty)) (.object q'.1) := by
    rcases hty with rfl | rfl
    · obtain ⟨kA, comp, k1, k2, k3, -⟩ := (hK.2 4 _ rfl).2
      cases hq'
      have hcomp : comp = g.2.2.1.1 6 := Option.some.inj (k3.symm.trans hcls.1)
      subst hcomp
      exact ⟨kA, .int, k1, k2⟩
    · obtain ⟨kA, comp, k1, k2, k3, -⟩ := (hK.2 5 _ rfl).2
      cases hq'
      have hcomp : comp = g.2.2.1.1 7 := Option.some.inj (k3.symm.trans hcls.1)
      subst hcomp
      exact ⟨kA, .int, k1, k2⟩
  obtain ⟨kA, -, k1, k2⟩ := hRA
  obtain ⟨kC, hkC, -⟩ := hcls.2
  have hadt : mq_adt g h a ty = .inr (.inr (.inr (.inr (fun j => (mq_R h a j).map (mq_ad g))))) := by rcases hty with rfl | rfl <;> rfl
  rw [hadt] at hc
  simp only [List.map_cons, hv, hvb]
  refine W.aast hx hb hc (fun q h => by cases h) (fun h => by cases h) k1 k2 rfl hkC ⟨h0, by show _ < (arrV _ _ _).slots.size; rw [arrV_size]; exact hlt⟩ g1 (fun q h => by rw [g3] at h; cases h) (by rw [g2]; exact hkC) (by rw [g2]; exact va_assign hcls) rfl rfl hd fun H1 e z oq => ?_
  refine kk H1 _ h4 z oq ?_ (hSv.put z oq (mq_ad_ge h4))
  unfold mq_cell
  rw [show mq_sh (mq_setR h a i.toNatClampNeg (some b)) a = .inr (ty, n) from hs]
  refine ⟨by rcases hty with rfl | rfl <;> decide, ?_⟩
  have hadt' : mq_adt g (mq_setR h a i.toNatClampNeg (some b)) a ty = .inr (.inr (.inr (.inr (fun j => (mq_R (mq_setR h a i.toNatClampNeg (some b)) a j).map (mq_ad g))))) := by rcases hty with rfl | rfl <;> rfl
  rw [e, hadt']
  show some ((arrV (g.2.2.2 ty) n (fun j => va_rf ((mq_R h a j).map (mq_ad g)))).setSlot _ _) = some (arrV (g.2.2.2 ty) n (fun j => va_rf ((mq_R (mq_setR h a i.toNatClampNeg (some b)) a j).map (mq_ad g))))
  rw [arrV_store]
  congr 2
  funext q
  rw [mq_setR_self]
  by_cases hq : q = i.toNatClampNeg
  · subst hq
    simp [updV, va_rf]
  · simp [updV, hq]
theorem sd_alen {a n ty : Nat} {v : Value} (C : mq_ctx g p R s mid args meth c y bs nL ret fr lo) (hd : decode bs pc = .ok (.arraylength, 1)) (hs : mq_sh h a = .inr (ty, n)) (hty : ty ≤ 9) (hv : mq_cv g v = .ref (mq_ad g a)) (K : mq_good g T p l e R s mid args below meth c Q n0 z0 nL (pc + 1) L (.int (nI n) :: r) h) : mq_good g T p l e R s mid args below meth c Q n0 z0 nL pc L (v :: r) h := by
  obtain ⟨hx, hb, hml, hr, hown, hnm, hlk, hfr, hlo, hts, hK, -⟩ := C
  refine mq_good.sk (fun H ls locs ce sl h1 h2 _ _ kk => ?_) K
  simp only [List.map_cons, hv] at *
  by_cases h9 : ty = 9
  · subst h9
    have ha : a < 4 := by
      rcases Nat.lt_or_ge a 4 with q | q
      · exact q
      · rcases Nat.lt_or_ge a (mq_N h) with q2 | q2
        · have := h1.2.2.2.1 a q q2
          unfold mq_cell at this
          rw [hs] at this
          exact absurd this.1 (by decide)
        · have := h1.2.2.2.2.1 a q2
          rw [hs] at this
          cases this
    obtain ⟨scr, q1, q2, q3, q4, q5⟩ := h2 a n ha hs
    have ead : mq_ad g a = g.2.1 a := by unfold mq_ad; rw [if_pos ha]
    rw [ead] at *
    exact W.alen (n := nI n) hx hb q1 q2 (by rw [q4]; rfl) rfl rfl hd kk
  · obtain ⟨-, h6, hc⟩ := h1.arr hs (by omega)
    have ht : ∃ (t0 : Nat) (tyy : FieldType), (mq_tys g)[t0]? = some (g.2.2.2 ty, tyy) := by
      match ty, h6 with
      | 0, _ => exact ⟨0, _, rfl⟩
      | 1, _ => exact ⟨1, _, rfl⟩
      | 2, _ => exact ⟨2, _, rfl⟩
      | 3, _ => exact ⟨3, _, rfl⟩
      | 4, _ => exact ⟨4, _, rfl⟩
      | 5, _ => exact ⟨5, _, rfl⟩
    obtain ⟨t0, tyy, ht⟩ := ht
    exact va_alen (D := g.2.2.1) (cl := mq_cl) hx hb hK (mq_P1 (q := (mq_ad g a, .inl (g.2.2.2 ty, n, mq_adt g h a ty))) hc) 0 t0 rfl ht rfl hd kk
/-- a new cell -/
theorem mq_good.al {sh : mq_S} {z : Nat} (hg : g.1 ≤ s.heap.size) (hw : ∀ (H : Heap) (ls : Array Slot) (locs : List Loc) (ce sl : Nat), mq_rel g T h H → ce + 1 ≤ mq_N h + 1 - n0 → sl + z ≤ mq_Z h + z - z0 → (∀ (H1 : Heap), H1.size = H.size + 1 → (∀ q, q < H.size → H1[q]? = H[q]?) → mq_cell g (mq_new h sh z) (mq_N h) H1 → W p l e R s mid args below meth c H1 locs (ce + 1) (sl + z) Q (F0 mid pc' ls (Value.ref H.size :: r.map (mq_cv g)))) → W p l e R s mid args below meth c H locs ce sl Q (F0 mid pc ls (st.map (mq_cv g)))) (K : mq_good g T p l e R s mid args below meth c Q n0 z0 nL pc' L (.ref (mq_N h) :: r) (mq_new h sh z)) : mq_good g T p l e R s mid args below meth c Q n0 z0 nL pc L st h := by
  intro a b H ls locs h1 h2 h3 h4
  have ead : mq_ad g (mq_N h) = H.size := by
    unfold mq_ad
    rw [if_neg (by have := h1.1; omega), h1.2.1]
  refine hw H ls locs _ _ h1 (by omega) (by omega) (fun H1 hz oq hc => ?_)
  have eN : mq_N (mq_new h sh z) = mq_N h + 1 := rfl
  have eZ : mq_Z (mq_new h sh z) = mq_Z h + z := rfl
  have hx : ∀ k', k' < 4 → H1[g.2.1 k']? = H[g.2.1 k']? := fun k' hk' => oq _ (by have := h1.2.2.1 k' hk'; have := h1.2.1; omega)
  have hne : ∀ k', k' < 4 → k' ≠ mq_N h := fun k' hk' => by have := h1.1; omega
  have := K (by rw [eN]; omega) (by rw [eZ]; omega) H1 ls locs (h1.mk hc hz oq) (h2.kept (fun k' hk' => if_neg (hne k' hk')) (fun k' n hk' _ => by funext i; exact if_neg (hne k' hk')) hx) h3 ⟨Nat.le_trans h4.1 (by omega), fun q g1 g2 => (oq q (Nat.lt_of_lt_of_le g1 h4.1)).trans (h4.2.1 q g1 g2), h4.2.2⟩
  simp only [List.map_cons, mq_cv, ead] at this
  rw [eN, eZ] at this
  rw [show mq_N h + 1 - n0 = mq_N h - n0 + 1 by omega, show mq_Z h + z - z0 = mq_Z h - z0 + z by omega] at this
  exact this
theorem sd_newa {t : ArrayType} {a : Nat} {n : Int32} (C : mq_ctx g p R s mid args meth c y bs nL ret fr lo) (hd : decode bs pc = .ok (.newarray t, 2)) (ha : a < 4 ∧ newarray.typeOf t = mq_aty a) (hn : 0 ≤ n.toInt ∧ n.toInt < 100000) (hc1 : mq_N h + 1 - n0 ≤ R.cells) (hc2 : mq_Z h + n.toNatClampNeg - z0 ≤ R.slots) (K : mq_good g T p l e R s mid args below meth c Q n0 z0 nL (pc + 2) L (.ref (mq_N h) :: r) (mq_new h (.inr (a, n.toNatClampNeg)) n.toNatClampNeg)) : mq_good g T p l e R s mid args below meth c Q n0 z0 nL pc L (.int n :: r) h := by
  obtain ⟨hx, hb, hml, hr, hown, hnm, hlk, hfr, hlo, hts, hK, -, -, -, hg⟩ := C
  obtain ⟨ha4, hty⟩ := ha
  refine mq_good.al hg (fun H ls locs ce sl h1 e1 e2 kk => ?_) K
  have hn0 : ¬ n < 0 := by rw [Int32.lt_iff_toInt_lt]; simp; omega
  have hcl : n.toNatClampNeg < 100000 := by show n.toInt.toNat < 100000; omega
  have hby : n.toNatClampNeg * componentBytes (newarray.typeOf t) ≤ 536870912 := by
    rw [hty]
    have : componentBytes (mq_aty a) ≤ 8 := by
      match a, ha4 with
      | 0, _ => decide
      | 1, _ => decide
      | 2, _ => decide
      | 3, _ => decide
    exact Nat.le_trans (Nat.mul_le_mul (Nat.le_of_lt hcl) this) (by decide)
  refine va_newaK hx hb (by rw [hty]; exact hts _ (mq_ac ha4)) rfl hd rfl hn0 rfl hby (by omega) (by omega) rfl fun H1 cA q1 q2 q3 q4 q5 => ?_
  have hcA : cA = g.2.2.2 a := by
    rw [hty] at q5
    match a, ha4, q5 with
    | 0, _, q5 => exact Option.some.inj (q5.symm.trans (hK.2 0 _ rfl).2)
    | 1, _, q5 => exact Option.some.inj (q5.symm.trans (hK.2 1 _ rfl).2)
    | 2, _, q5 => exact Option.some.inj (q5.symm.trans (hK.2 2 _ rfl).2)
    | 3, _, q5 => exact Option.some.inj (q5.symm.trans (hK.2 3 _ rfl).2)
  refine kk H1 q2 q3 ?_
  have ead : mq_ad g (mq_N h) = H.size := by
    unfold mq_ad
    rw [if_neg (by have := h1.1; omega), h1.2.1]
  have eS : mq_sh (mq_new h (.inr (a, n.toNatClampNeg)) n.toNatClampNeg) (mq_N h) = .inr (a, n.toNatClampNeg) := if_pos rfl
  have eI : mq_I (mq_new h (.inr (a, n.toNatClampNeg)) n.toNatClampNeg) (mq_N h) = fun _ => 0 := by funext j; exact if_pos rfl
  have eJ : mq_J (mq_new h (.inr (a, n.toNatClampNeg)) n.toNatClampNeg) (mq_N h) = fun _ => 0 := by funext j; exact if_pos rfl
  unfold mq_cell
  rw [eS]
  refine ⟨by omega, ?_⟩
  rw [ead, q1, hty, hcA]
  unfold mq_adt
  rw [eI, eJ]
  match a, ha4 with
  | 0, _ => rfl
  | 1, _ => rfl
  | 2, _ => rfl
  | 3, _ => rfl
theorem sd_newq {a i : Nat} {n : Int32} (C : mq_ctx g p R s mid args meth c y bs nL ret fr lo) (hd : decode bs pc = .ok (.anewarray i, 3)) (ha : (a = 4 ∧ Cond.classLink y.cls i "RanOut$Law" ∈ mq_gw) ∨ (a = 5 ∧ Cond.classLink y.cls i "RanOut$Line" ∈ mq_gw)) (hn : 0 ≤ n.toInt ∧ n.toInt < 100000) (hc1 : mq_N h + 1 - n0 ≤ R.cells) (hc2 : mq_Z h + n.toNatClampNeg - z0 ≤ R.slots) (K : mq_good g T p l e R s mid args below meth c Q n0 z0 nL (pc + 3) L (.ref (mq_N h) :: r) (mq_new h (.inr (a, n.toNatClampNeg)) n.toNatClampNeg)) : mq_good g T p l e R s mid args below meth c Q n0 z0 nL pc L (.int n :: r) h := by
  obtain ⟨hx, hb, hml, hr, hown, hnm, hlk, hfr, hlo, hts, hK, -, hA1, ⟨hA2, -⟩, hg⟩ := C
  refine mq_good.al hg (fun H ls locs ce sl h1 e1 e2 kk => ?_) K
  have hn0 : ¬ n < 0 := by rw [Int32.lt_iff_toInt_lt]; simp; omega
  have hcl : n.toNatClampNeg < 100000 := by show n.toInt.toNat < 100000; omega
  have ead : mq_ad g (mq_N h) = H.size := by
    unfold mq_ad
    rw [if_neg (by have := h1.1; omega), h1.2.1]
  have eS : mq_sh (mq_new h (.inr (a, n.toNatClampNeg)) n.toNatClampNeg) (mq_N h) = .inr (a, n.toNatClampNeg) := if_pos rfl
  have eR : mq_R (mq_new h (.inr (a, n.toNatClampNeg)) n.toNatClampNeg) (mq_N h) = fun _ => none := by funext j; exact if_pos rfl
  have fin : ∀ (C' : String) (cA : ClassId), (a = 4 ∨ a = 5) → cA = g.2.2.2 a → mq_cell g (mq_new h (.inr (a, n.toNatClampNeg)) n.toNatClampNeg) (mq_N h) (H.push ({ cls := cA, slots := Array.replicate n.toNatClampNeg .null, vm := .none } : Cell)) := by
    intro C' cA hab hcA
    unfold mq_cell
    rw [eS]
    refine ⟨by omega, ?_⟩
    rw [ead, Array.getElem?_push_size, hcA]
    unfold mq_adt
    rw [eR]
    rcases hab with rfl | rfl
    · show some _ = some (arrV _ _ (fun _ => Value.null))
      rw [← arrV_new]
    · show some _ = some (arrV _ _ (fun _ => Value.null))
      rw [← arrV_new]
  rcases ha with ⟨rfl, hl⟩ | ⟨rfl, hl⟩
  · refine W.anew hx hb hown (hts _ hl) (va_AO.use hA1) rfl hd rfl hn0 (by omega) (by omega) (by omega) fun cA kA comp f1 f2 f3 f4 => ?_
    refine kk _ (by rw [Array.size_push]) (fun q hq => by rw [Array.getElem?_push, if_neg (Nat.ne_of_lt hq)]) (fin "RanOut$Law" cA (Or.inl rfl) ?_)
    obtain ⟨_, _, _, _, _, k5⟩ := (hK.2 4 _ rfl).2
    exact Option.some.inj (f1.symm.trans k5)
  · refine W.anew hx hb hown (hts _ hl) (va_AO.use hA2) rfl hd rfl hn0 (by omega) (by omega) (by omega) fun cA kA comp f1 f2 f3 f4 => ?_
    refine kk _ (by rw [Array.size_push]) (fun q hq => by rw [Array.getElem?_push, if_neg (Nat.ne_of_lt hq)]) (fin "RanOut$Line" cA (Or.inr rfl) ?_)
    obtain ⟨_, _, _, _, _, k5⟩ := (hK.2 5 _ rfl).2
    exact Option.some.inj (f1.symm.trans k5)
theorem sd_newc {a i : Nat} {q : vw_C} (C : mq_ctx g p R s mid args meth c y bs nL ret fr lo) (hd : decode bs pc = .ok (.new i, 3)) (hq : mq_cl[a]? = some q) (hlink : Cond.classLink y.cls i q.1 ∈ mq_gw) (hc1 : mq_N h + 1 - n0 ≤ R.cells) (hc2 : mq_Z h + q.2.2 - z0 ≤ R.slots) (K : mq_good g T p l e R s mid args below meth c Q n0 z0 nL (pc + 3) L (.ref (mq_N h) :: st) (mq_new h (.inl a) q.2.2)) : mq_good g T p l e R s mid args below meth c Q n0 z0 nL pc L st h := by
  obtain ⟨hx, hb, hml, hr, hown, hnm, hlk, hfr, hlo, hts, hK, -, -, -, hg⟩ := C
  refine mq_good.al hg (fun H ls locs ce sl h1 e1 e2 kk => ?_) K
  obtain ⟨hin, hty, -, hk9, hins, hini⟩ := mq_cls hq
  have hKn := hK.1 a _ hq
  refine W.newcK hx hb hown (hts _ hlink) (hts _ hins) (hts _ hini) rfl hd (by omega) (by omega) hKn.2.1 rfl fun H1 kC hkC q1 q2 q3 => ?_
  refine kk H1 q2 q3 ?_
  have ead : mq_ad g (mq_N h) = H.size := by
    unfold mq_ad
    rw [if_neg (by have := h1.1; omega), h1.2.1]
  have eS : mq_sh (mq_new h (.inl a) q.2.2) (mq_N h) = .inl a := if_pos rfl
  unfold mq_cell
  rw [eS]
  refine ⟨q, hq, ?_⟩
  rw [ead]
  refine (u_born (mq_fty a) hts hin hKn hkC q1 hty).to (fun j hj => ?_)
  have eI : mq_I (mq_new h (.inl a) q.2.2) (mq_N h) j = 0 := if_pos rfl
  have eJ : mq_J (mq_new h (.inl a) q.2.2) (mq_N h) j = 0 := if_pos rfl
  have eR : mq_R (mq_new h (.inl a) q.2.2) (mq_N h) j = none := if_pos rfl
  have h9 := hk9 j hj
  unfold mq_fv
  rw [eI, eJ, eR]
  generalize mq_fty a j = t at h9
  cases t <;> first | rfl | exact absurd rfl h9
theorem sd_obj {i b : Nat} (C : mq_ctx g p R s mid args meth c y bs nL ret fr lo) (hd : decode bs pc = .ok (.invokespecial i, 3)) (hlink : Cond.methodLink y.cls i Lib.objectInit ∈ mq_gw) (hf : 1 ≤ fr) (hl : 20 ≤ lo) (hcat : mq_cat r ≤ 8) (K : mq_good g T p l e R s mid args below meth c Q n0 z0 nL (pc + 3) L r h) : mq_good g T p l e R s mid args below meth c Q n0 z0 nL pc L (.ref b :: r) h := by
  obtain ⟨hx, hb, hml, hr, hown, hnm, hlk, hfr, hlo, hts, hK, -⟩ := C
  refine mq_good.sk (fun H ls locs ce sl h1 _ h3 _ kk => ?_) K
  have hsum := mq_cat_sum g r
  exact W.objInit hx hb hown (hts _ hlink) (hts _ mq_obI) (hts _ mq_obC) rfl (by rw [hml]; exact h3.1) rfl hd (by omega) (by show 2 * 0 + (List.map (fun v => v.category) (List.map (mq_cv g) r)).sum + 12 ≤ R.locals; omega) kk
end MQ3
