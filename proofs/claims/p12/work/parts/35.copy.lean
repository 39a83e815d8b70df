/-! System.arraycopy -/
section MQ4
variable {g : mq_GH} {T : mq_T} {p : Program} {l : Launch} {e : Env} {R : Room} {s : State} {mid : MethodId} {args : Array Value} {below : List Frame} {meth : Method} {c : Code} {Q : State → Prop} {n0 z0 nL : Nat}
variable {y : MethodName} {bs : ByteArray} {ret : Option FieldType} {fr lo : Nat} {pc pc' : Nat} {L : mq_L} {st st' r : List Value} {h h' : mq_H}
theorem mq_nn {z : Int32} (hz : 0 ≤ z.toInt) : z.toInt = (z.toNatClampNeg : Int) := by
  show z.toInt = ((z.toInt.toNat : Nat) : Int)
  omega
theorem mq_n0 {z : Int32} (hz : 0 ≤ z.toInt) : ¬ z < 0 := by
  rw [Int32.lt_iff_toInt_lt]
  simp
  exact hz
/-- a copy between two cells, as the machine does it -/
theorem mq_Wcopy {cc : ByteArray} {rest : List Value} {ls : Array Slot} {H : Heap} {locs : List Loc} {ce sl : Nat} (hexec : p.tables.exec = Jvm.exec) (hb : c.code = cc) (hml : c.maxLocals = ls.size) {own : String} {index : Nat} (hown : s.vm.findClass own = some mid.cls) (hlink : (Cond.methodLink own index arraycopyName).before args s = true) (hnat : (Cond.native arraycopyName).before args s = true) (hstat : (Cond.static arraycopyName).before args s = true) (hini : (Cond.initialized "java/lang/System").before args s = true)
    {a0 a : Nat} {c0 c1 : ClassId} {m0 m1 : Nat} {f0 f1 : Nat → Value} {ty : FieldType} (hc0 : H[a0]? = some (arrV c0 m0 f0)) (hc1 : H[a]? = some (arrV c1 m1 f1)) (hA0 : ArrOfT s c0 ty) (hA1 : ArrOfT s c1 ty)
    {sp dp n : Int32} (h1 : 0 ≤ sp.toInt) (h2 : 0 ≤ dp.toInt) (h3 : 0 ≤ n.toInt) (h4 : sp.toInt + n.toInt ≤ (m0 : Int)) (h5 : dp.toInt + n.toInt ≤ (m1 : Int))
    (hty : ((refKind ty != refKind ty) || (!refKind ty && ty != ty)) = false) (hel : ∀ (T0 : State) (vm₁ : Vm) (comp : ClassId) (k : Class), T0.heap = H → s.vm.Alike vm₁ → s.vm.classes[c1]? = some k → k.kind = .array comp ty → ∀ i, i < n.toNatClampNeg → fits ty (f0 (sp.toNatClampNeg + i)) = true ∧ (T0.setVm vm₁).takes comp (f0 (sp.toNatClampNeg + i)))
    (hframes : 1 ≤ R.frames) (hlocals : (rest.map fun v => v.category).sum + (nativeFrameWords "java/lang/System" "arraycopy" 5 + 11) ≤ R.locals) (hdg : decode cc pc = .ok (.invokestatic index, 3))
    (kk : ∀ (H1 : Heap) (locs1 : List Loc), H1[a]? = some ((arrV c1 m1 f1).storeRun dp.toNatClampNeg ((arrV c0 m0 f0).stretch sp.toNatClampNeg n.toNatClampNeg)) → H1.size = H.size → (∀ q, q ≠ a → H1[q]? = H[q]?) → (∀ x ∈ locs1, x ∈ locs ∨ x.base = a) → W p l e R s mid args below meth c H1 locs1 ce sl Q (F0 mid (pc + 3) ls rest)) : W p l e R s mid args below meth c H locs ce sl Q (F0 mid pc ls (.int n :: .int dp :: .ref a :: .int sp :: .ref a0 :: rest)) := by
  intro T0 hT X
  obtain ⟨-, k0, hk0, cm0, hkk0⟩ := hA0 m0 f0
  obtain ⟨-, k1, hk1, cm1, hkk1⟩ := hA1 m1 f1
  have e0 := mq_nn h1
  have e3 := mq_nn h3
  obtain ⟨vm', X', step⟩ := X.arraycopy hexec hown hlink hnat hstat hini (src := a0) (dst := a) (cs := arrV c0 m0 f0) (cd := arrV c1 m1 f1) (srcPos := sp) (destPos := dp) (n := n) (by rw [hT]; exact hc0) (by rw [hT]; exact hc1)
    (fun _ h => by cases h) (fun _ h => by cases h) (fun h => by cases h) (fun h => by cases h) hk0 hk1 hkk0 hkk1 hty (mq_n0 h1) (mq_n0 h2) (mq_n0 h3)
    (by rw [arrV_size]; omega) (by rw [arrV_size]; omega)
    (fun vm₁ hal i hi => by
      have e : (arrV c0 m0 f0).slots.getD (sp.toNatClampNeg + i) .null = f0 (sp.toNatClampNeg + i) := by
        rw [Array.getD_eq_getD_getElem?, arrV_read _ _ (by omega)]
        rfl
      rw [e]
      exact hel T0 vm₁ cm1 k1 hT hal hk1 hkk1 i hi)
    (g := F0 mid pc ls (.int n :: .int dp :: .ref a :: .int sp :: .ref a0 :: rest)) rfl (by rw [hml]) (rest := rest) rfl (by rw [hb]; exact hdg) hframes (by show 2 * 0 + _ + _ ≤ _; omega)
  have hl : a < H.size := (Array.getElem?_eq_some_iff.mp hc1).1
  have hheap : ((T0.setVm vm').setCell a (copied (arrV c0 m0 f0) (arrV c1 m1 f1) sp dp n)).heap = H.setIfInBounds a (copied (arrV c0 m0 f0) (arrV c1 m1 f1) sp dp n) := by rw [← hT]; rfl
  obtain ⟨t, a1, b1⟩ := kk _ _ (show (H.setIfInBounds a (copied (arrV c0 m0 f0) (arrV c1 m1 f1) sp dp n))[a]? = some _ by rw [Array.getElem?_setIfInBounds]; simp only [if_true, hl]; first | done | rfl) (by simp) (fun q hq => by simp [Array.getElem?_setIfInBounds, Ne.symm hq]) (fun x hx => by
      rcases List.mem_append.mp hx with h | h
      · exact Or.inl h
      · obtain ⟨z, -, hz⟩ := List.mem_map.mp h
        exact Or.inr (by rw [← hz])) _ hheap X'
  exact ⟨t, step t a1, b1⟩
theorem mq_cpI_self (h : mq_H) (a0 a1 sp dp n : Nat) : mq_I (mq_cpI h a0 a1 sp dp n) a1 = va_cpy (mq_I h a0) (mq_I h a1) sp dp n := by
  funext j
  exact if_pos rfl
theorem mq_cpI_ne {h : mq_H} {a0 a1 j : Nat} (hj : j ≠ a1) (sp dp n : Nat) : mq_I (mq_cpI h a0 a1 sp dp n) j = mq_I h j := by
  funext i
  exact if_neg hj
theorem mq_cpR_self (h : mq_H) (a0 a1 sp dp n : Nat) : mq_R (mq_cpR h a0 a1 sp dp n) a1 = va_cpy (mq_R h a0) (mq_R h a1) sp dp n := by
  funext j
  exact if_pos rfl
theorem mq_cpR_ne {h : mq_H} {a0 a1 j : Nat} (hj : j ≠ a1) (sp dp n : Nat) : mq_R (mq_cpR h a0 a1 sp dp n) j = mq_R h j := by
  funext i
  exact if_neg hj
theorem sd_cpI {i ty a0 a1 m0 m1 : Nat} {sp dp n : Int32} {v0 v1 : Value} (C : mq_ctx g p R s mid args meth c y bs nL ret fr lo) (hd : decode bs pc = .ok (.invokestatic i, 3)) (hlink : Cond.methodLink y.cls i arraycopyName ∈ mq_gw) (hf : 1 ≤ fr) (hl : 26 ≤ lo) (hty : ty = 0 ∨ ty = 2) (hs0 : mq_sh h a0 = .inr (ty, m0)) (hs1 : mq_sh h a1 = .inr (ty, m1)) (hv0 : mq_cv g v0 = .ref (mq_ad g a0)) (hv1 : mq_cv g v1 = .ref (mq_ad g a1))
    (h1 : 0 ≤ sp.toInt) (h2 : 0 ≤ dp.toInt) (h3 : 0 ≤ n.toInt) (h4 : sp.toInt + n.toInt ≤ (m0 : Int)) (h5 : dp.toInt + n.toInt ≤ (m1 : Int)) (hcat : mq_cat r ≤ 8) (K : mq_good g T p l e R s mid args below meth c Q n0 z0 nL (pc + 3) L r (mq_cpI h a0 a1 sp.toNatClampNeg dp.toNatClampNeg n.toNatClampNeg)) : mq_good g T p l e R s mid args below meth c Q n0 z0 nL pc L (.int n :: .int dp :: v1 :: .int sp :: v0 :: r) h := by
  obtain ⟨hx, hb, hml, hr, hown, hnm, hlk, hfr, hlo, hts, hK, -⟩ := C
  intro a' b' H ls locs r1 r2 r3 r4
  obtain ⟨q4, -, hc0⟩ := r1.arr hs0 (by rcases hty with rfl | rfl <;> decide)
  obtain ⟨q5, -, hc1⟩ := r1.arr hs1 (by rcases hty with rfl | rfl <;> decide)
  have hsum := mq_cat_sum g r
  have e0 := mq_nn h1
  have e2 := mq_nn h2
  have e3 := mq_nn h3
  have had : ∀ k, mq_adt g h k ty = .inl (mq_I h k) := fun k => by rcases hty with rfl | rfl <;> rfl
  rw [had] at hc0 hc1
  have hAr : ∃ t : FieldType, (t = .int ∨ t = .boolean ∧ ty = 2) ∧ ArrOfT s (g.2.2.2 ty) t := by
    rcases hty with rfl | rfl
    · exact ⟨.int, Or.inl rfl, (hK.2 0 _ rfl).1⟩
    · exact ⟨.boolean, Or.inr ⟨rfl, rfl⟩, (hK.2 2 _ rfl).1⟩
  obtain ⟨t, ht, hA⟩ := hAr
  simp only [List.map_cons, hv0, hv1]
  refine mq_Wcopy (f0 := fun j => .int (mq_I h a0 j)) (f1 := fun j => .int (mq_I h a1 j)) (ty := t) hx hb (by rw [hml]; exact r3.1.symm) hown (hts _ hlink) (hts _ mq_cpN) (hts _ mq_cpS) (hts _ mq_cpI0) hc0 hc1 hA hA h1 h2 h3 h4 h5 (by rcases ht with rfl | ⟨rfl, -⟩ <;> decide) (fun T0 vm₁ comp k _ _ _ _ i hi => ⟨?_, trivial⟩) (by omega) (by show _ + (7 + 11) ≤ _; omega) hd (fun H1 locs1 q1 q2 q3 q6 => ?_)
  · rcases ht with rfl | ⟨rfl, rfl⟩
    · rfl
    · rcases r1.2.2.2.2.2.2.1 a0 m0 (sp.toNatClampNeg + i) hs0 with e | e <;> rw [e] <;> decide
  · rw [va_copied (fun z => Value.int z) (g.2.2.2 ty) (g.2.2.2 ty) (mq_I h a0) (mq_I h a1) (by omega)] at q1
    have hcell : mq_cell g (mq_cpI h a0 a1 sp.toNatClampNeg dp.toNatClampNeg n.toNatClampNeg) a1 H1 := by
      unfold mq_cell
      rw [show mq_sh (mq_cpI h a0 a1 sp.toNatClampNeg dp.toNatClampNeg n.toNatClampNeg) a1 = .inr (ty, m1) from hs1]
      refine ⟨by rcases hty with rfl | rfl <;> decide, ?_⟩
      rw [q1]
      have had' : mq_adt g (mq_cpI h a0 a1 sp.toNatClampNeg dp.toNatClampNeg n.toNatClampNeg) a1 ty = .inl (mq_I (mq_cpI h a0 a1 sp.toNatClampNeg dp.toNatClampNeg n.toNatClampNeg) a1) := by rcases hty with rfl | rfl <;> rfl
      rw [had', mq_cpI_self]
      rfl
    have hxx : ∀ k', k' < 4 → H1[g.2.1 k']? = H[g.2.1 k']? := fun k' hk' => q3 _ (fun e => by have := r1.2.2.1 k' hk'; have := mq_ad_ge (g := g) q5; omega)
    refine K a' b' H1 ls locs1 (r1.put (k := a1) q5 rfl (fun _ => rfl) (fun j hj => ⟨mq_cpI_ne hj _ _ _, rfl, rfl⟩) hcell q2 q3 (fun m j e => ?_) (fun j b hb => (r1.2.2.2.2.2.2.2.2 a1 j b hb).1)) (r2.kept (fun _ _ => rfl) (fun k' _ hk' _ => mq_cpI_ne (by omega) _ _ _) hxx) r3 ⟨by rw [q2]; exact r4.1, fun q g1 g2 => by rw [q3 q (fun e => g2 (by rw [e]; exact mq_ad_ge q5))]; exact r4.2.1 q g1 g2, fun x hx => ?_⟩
    · rw [hs1] at e
      cases e
      rw [mq_cpI_self]
      unfold va_cpy
      split
      · exact r1.2.2.2.2.2.2.1 a0 m0 _ hs0
      · exact r1.2.2.2.2.2.2.1 a1 m1 _ hs1
    · rcases q6 x hx with q | q
      · exact r4.2.2 x q
      · show g.1 ≤ x.base
        rw [q]; exact mq_ad_ge q5
theorem sd_cpR {i ty a0 a1 m0 m1 : Nat} {sp dp n : Int32} {v0 v1 : Value} (C : mq_ctx g p R s mid args meth c y bs nL ret fr lo) (hd : decode bs pc = .ok (.invokestatic i, 3)) (hlink : Cond.methodLink y.cls i arraycopyName ∈ mq_gw) (hf : 1 ≤ fr) (hl : 26 ≤ lo) (hty : ty = 4 ∨ ty = 5) (hs0 : mq_sh h a0 = .inr (ty, m0)) (hs1 : mq_sh h a1 = .inr (ty, m1)) (hv0 : mq_cv g v0 = .ref (mq_ad g a0)) (hv1 : mq_cv g v1 = .ref (mq_ad g a1))
    (h1 : 0 ≤ sp.toInt) (h2 : 0 ≤ dp.toInt) (h3 : 0 ≤ n.toInt) (h4 : sp.toInt + n.toInt ≤ (m0 : Int)) (h5 : dp.toInt + n.toInt ≤ (m1 : Int)) (hcat : mq_cat r ≤ 8) (hE : mq_gE h a0 sp.toNatClampNeg n.toNatClampNeg (mq_el ty) = true) (hT : ∀ j, T.2 a1 j = none) (K : mq_good g T p l e R s mid args below meth c Q n0 z0 nL (pc + 3) L r (mq_cpR h a0 a1 sp.toNatClampNeg dp.toNatClampNeg n.toNatClampNeg)) : mq_good g T p l e R s mid args below meth c Q n0 z0 nL pc L (.int n :: .int dp :: v1 :: .int sp :: v0 :: r) h := by
  obtain ⟨hx, hb, hml, hr, hown, hnm, hlk, hfr, hlo, hts, hK, -⟩ := C
  intro a' b' H ls locs r1 r2 r3 r4
  obtain ⟨q4, -, hc0⟩ := r1.arr hs0 (by rcases hty with rfl | rfl <;> decide)
  obtain ⟨q5, -, hc1⟩ := r1.arr hs1 (by rcases hty with rfl | rfl <;> decide)
  have hsum := mq_cat_sum g r
  have e0 := mq_nn h1
  have e2 := mq_nn h2
  have e3 := mq_nn h3
  have had : ∀ k, mq_adt g h k ty = .inr (.inr (.inr (.inr (fun j => (mq_R h k j).map (mq_ad g))))) := fun k => by rcases hty with rfl | rfl <;> rfl
  rw [had] at hc0 hc1
  have hAr : ∃ t : String, ArrOfT s (g.2.2.2 ty) (.object t) ∧ va_RA s (g.2.2.2 ty) (.object t) ∧ ∃ q, mq_cl[mq_el ty]? = some q ∧ q.1 = t := by
    rcases hty with rfl | rfl
    · exact ⟨"RanOut$Law", (hK.2 4 _ rfl).1, (hK.2 4 _ rfl).2, _, rfl, rfl⟩
    · exact ⟨"RanOut$Line", (hK.2 5 _ rfl).1, (hK.2 5 _ rfl).2, _, rfl, rfl⟩
  obtain ⟨t, hA, hRA, q', hq', hqt⟩ := hAr
  have hcls := (hK.1 (mq_el ty) q' hq').2
  simp only [List.map_cons, hv0, hv1]
  refine mq_Wcopy (f0 := fun j => va_rf ((mq_R h a0 j).map (mq_ad g))) (f1 := fun j => va_rf ((mq_R h a1 j).map (mq_ad g))) (ty := .object t) hx hb (by rw [hml]; exact r3.1.symm) hown (hts _ hlink) (hts _ mq_cpN) (hts _ mq_cpS) (hts _ mq_cpI0) hc0 hc1 hA hA h1 h2 h3 h4 h5 rfl (fun T0 vm₁ comp k hT0 hal hk1 hk2 i hi => ?_) (by omega) (by show _ + (7 + 11) ≤ _; omega) hd (fun H1 locs1 q1 q2 q3 q6 => ?_)
  · have hEi := List.all_eq_true.mp hE i (List.mem_range.mpr hi)
    cases hy : mq_R h a0 (sp.toNatClampNeg + i) with
    | none => exact ⟨rfl, trivial⟩
    | some b =>
      rw [hy] at hEi
      have hsb : mq_sh h b = .inl (mq_el ty) := by
        simp only [mq_isO] at hEi
        split at hEi
        · rename_i c' hc'
          rw [hc', Nat.eq_of_beq_eq_true hEi]
        · cases hEi
      obtain ⟨-, q'', hq'', cellV, g1, g2, g3, -⟩ := r1.obj hsb
      obtain ⟨kA, comp', z1, z2, z3, -⟩ := hRA
      cases hk1.symm.trans z1
      cases hk2.symm.trans z2
      have hcomp : comp = g.2.2.1.1 (mq_el ty) := by
        rw [← hqt] at z3
        exact Option.some.inj (z3.symm.trans hcls.1)
      obtain ⟨kC, hkC, -⟩ := hcls.2
      obtain ⟨kC', hkC', -⟩ := hal.2.2 _ _ hkC
      refine ⟨rfl, cellV, (show T0.heap[mq_ad g b]? = some cellV by rw [hT0]; exact g1), (fun q h => by rw [g3] at h; cases h), ⟨kC', by rw [g2]; exact hkC'⟩, ?_, ?_⟩
      · exact ⟨kC', by rw [hcomp]; exact hkC'⟩
      · show vm₁.assignable _ _ = true
        rw [hal.assignable, g2, hcomp]
        exact va_assign hcls
  · have e1 := va_copied (fun z : Option Nat => va_rf (z.map (mq_ad g))) (g.2.2.2 ty) (g.2.2.2 ty) (n1 := m1) (dp := dp.toNatClampNeg) (mq_R h a0) (mq_R h a1) (show sp.toNatClampNeg + n.toNatClampNeg ≤ m0 by omega)
    rw [e1] at q1
    have hcell : mq_cell g (mq_cpR h a0 a1 sp.toNatClampNeg dp.toNatClampNeg n.toNatClampNeg) a1 H1 := by
      unfold mq_cell
      rw [show mq_sh (mq_cpR h a0 a1 sp.toNatClampNeg dp.toNatClampNeg n.toNatClampNeg) a1 = .inr (ty, m1) from hs1]
      refine ⟨by rcases hty with rfl | rfl <;> decide, ?_⟩
      rw [q1]
      have had' : mq_adt g (mq_cpR h a0 a1 sp.toNatClampNeg dp.toNatClampNeg n.toNatClampNeg) a1 ty = .inr (.inr (.inr (.inr (fun j => (mq_R (mq_cpR h a0 a1 sp.toNatClampNeg dp.toNatClampNeg n.toNatClampNeg) a1 j).map (mq_ad g))))) := by rcases hty with rfl | rfl <;> rfl
      rw [had', mq_cpR_self]
      rfl
    have hxx : ∀ k', k' < 4 → H1[g.2.1 k']? = H[g.2.1 k']? := fun k' hk' => q3 _ (fun e => by have := r1.2.2.1 k' hk'; have := mq_ad_ge (g := g) q5; omega)
    refine K a' b' H1 ls locs1 (r1.put (k := a1) q5 rfl (fun _ => rfl) (fun j hj => ⟨rfl, rfl, mq_cpR_ne hj _ _ _⟩) hcell q2 q3 (fun m j e => ?_) (fun j b hb => by rw [hT j] at hb; cases hb)) (r2.kept (fun _ _ => rfl) (fun k' _ hk' _ => rfl) hxx) r3 ⟨by rw [q2]; exact r4.1, fun q g1 g2 => by rw [q3 q (fun e => g2 (by rw [e]; exact mq_ad_ge q5))]; exact r4.2.1 q g1 g2, fun x hx => ?_⟩
    · rw [hs1] at e
      rcases hty with rfl | rfl <;> cases e
    · rcases q6 x hx with q | q
      · exact r4.2.2 x q
      · show g.1 ≤ x.base
        rw [q]; exact mq_ad_ge q5
theorem mq_arrV_cong {cI : ClassId} {n : Nat} {f f' : Nat → Value} (h : ∀ j, j < n → f j = f' j) : arrV cI n f = arrV cI n f' := by
  have : (fun j : Fin n => f j.val) = fun j : Fin n => f' j.val := funext fun j => h j.val j.isLt
  unfold arrV
  rw [this]
/-- a clone of a row of ints -/
theorem sd_clone {i a0 n : Nat} (C : mq_ctx g p R s mid args meth c y bs nL ret fr lo) (hOs : mq_os g s) (hd : decode bs pc = .ok (.invokevirtual i, 3)) (hl : Cond.methodLink y.cls i ⟨"[I", "clone", "()Ljava/lang/Object;"⟩ ∈ mq_gw) (hsh : ∀ H, mq_rel g T h H → mq_sh h a0 = .inr (0, n)) (h8 : mq_cat r ≤ 8) (hfr1 : 1 ≤ R.frames) (hlo1 : 22 ≤ R.locals) (hc1 : mq_N (mq_cpI (mq_new h (.inr (0, n)) n) a0 (mq_N h) 0 0 n) - n0 ≤ R.cells) (hc2 : mq_Z (mq_cpI (mq_new h (.inr (0, n)) n) a0 (mq_N h) 0 0 n) - z0 ≤ R.slots) (K : mq_good g T p l e R s mid args below meth c Q n0 z0 nL (pc + 3) L (.ref (mq_N h) :: r) (mq_cpI (mq_new h (.inr (0, n)) n) a0 (mq_N h) 0 0 n)) : mq_good g T p l e R s mid args below meth c Q n0 z0 nL pc L (.retAddr a0 :: r) h := by
  obtain ⟨hx, hb, hml, hr, hown, hnm, hlk, hfr, hlo, hts, hK, -, hA1, -, hgs⟩ := id C
  obtain ⟨aV, -, -, -, hca, hsm⟩ := hOs
  intro q1 q2 H ls locs r1 r2 r3 r4
  have hs0 := hsh H r1
  obtain ⟨h4, -, hc⟩ := r1.arr hs0 (by decide)
  have hadt : mq_adt g h a0 0 = .inl (mq_I h a0) := rfl
  rw [hadt] at hc
  have hnm : s.vm.findClass "[I" = some (g.2.2.2 0) := (hK.2 0 _ rfl).2
  obtain ⟨c0, t0', f1, f2, f3⟩ := Cond.castable_spec (va_Nw.use (A := args) rfl hca)
  cases hnm.symm.trans f1
  have eN : mq_N (mq_cpI (mq_new h (.inr (0, n)) n) a0 (mq_N h) 0 0 n) = mq_N h + 1 := rfl
  have eZ : mq_Z (mq_cpI (mq_new h (.inr (0, n)) n) a0 (mq_N h) 0 0 n) = mq_Z h + n := rfl
  rw [eN] at hc1
  rw [eZ] at hc2
  have hlt : a0 ≠ mq_N h := by
    have := (r1.lt (k := a0) (fun t m e => by rw [hs0] at e; cases e; omega)).2
    omega
  have ead : mq_ad g (mq_N h) = H.size := by
    unfold mq_ad
    rw [if_neg (by have := r1.1; omega), r1.2.1]
  intro T0 hT X
  obtain ⟨-, kA, hkA, comp, hkind⟩ := State.isArrayOf_alike X.warmed.alike ((hK.2 0 _ rfl).1 0 (fun _ => .null))
  obtain ⟨-, kS, hkS, compS, hkindS⟩ := (hK.2 0 _ rfl).1 0 (fun _ => .null)
  have hcellT : T0.heap[mq_ad g a0]? = some (vp_cell (g.2.2.2 0) (n, .inl (mq_I h a0))) := by rw [hT]; exact hc
  obtain ⟨vm', X', st⟩ := X.cloneArray hx hown (hts _ hl) (va_Nw.use rfl hsm) (hts _ jk_nOC) (hts _ jk_iOC) (hts _ jk_lOC) (a := mq_ad g a0) (cell := vp_cell (g.2.2.2 0) (n, .inl (mq_I h a0))) hcellT (fun k h => by cases h) (fun h => by cases h) hnm f2 f3
    (fun i v hv => by
      have hk' : T0.vm.classes[g.2.2.2 0]? = some kA := hkA
      have hv' : ∃ z, v = .int z := by
        have hv : (arrV (g.2.2.2 0) n (fun j => .int (mq_I h a0 j))).slots[i]? = some v := hv
        by_cases hi : i < n
        · rw [arrV_read _ _ hi] at hv
          cases hv
          exact ⟨_, rfl⟩
        · rw [Array.getElem?_eq_none (by rw [arrV_size]; omega)] at hv
          cases hv
      obtain ⟨z, rfl⟩ := hv'
      have hcls : (vp_cell (g.2.2.2 0) (n, .inl (mq_I h a0))).cls = g.2.2.2 0 := rfl
      simp only [State.fitsSlot, State.slotType?]
      rw [hcls, hk']
      show (match (match kA.kind with | .array _ type => some type | _ => kA.instanceTypes[i]?) with | some t => fits t (Value.int z) | none => false) = true
      rw [hkind]
      rfl)
    (g := F0 mid pc ls ((Value.retAddr a0 :: r).map (mq_cv g))) rfl (by rw [hml]; exact r3.1) rfl (by rw [hb]; exact hd) hfr1 (by rw [← mq_cat_sum g r] at h8; show 2 * 0 + _ + 14 ≤ _; omega) (by omega) (by show _ + (arrV _ _ _).slots.size ≤ _; rw [arrV_size]; omega) (hloader := Vm.clonesLoader_of_array hkS hkindS)
  have hsz : (vp_cell (g.2.2.2 0) (n, .inl (mq_I h a0))).slots.size = n := arrV_size _ _ _
  have hcellE : ({ cls := (vp_cell (g.2.2.2 0) (n, .inl (mq_I h a0))).cls, slots := (vp_cell (g.2.2.2 0) (n, .inl (mq_I h a0))).slots } : Cell) = vp_cell (g.2.2.2 0) (n, .inl (mq_I h a0)) := rfl
  rw [hcellE, hsz] at X'
  generalize hH1 : H.push (vp_cell (g.2.2.2 0) (n, .inl (mq_I h a0))) = H1
  have zz : H1.size = H.size + 1 := by rw [← hH1, Array.size_push]
  have ee : H1[H.size]? = some (vp_cell (g.2.2.2 0) (n, .inl (mq_I h a0))) := by rw [← hH1, Array.getElem?_push_size]
  have oo : ∀ q : Nat, q < H.size → H1[q]? = H[q]? := fun q hq => by rw [← hH1, Array.getElem?_push, if_neg (Nat.ne_of_lt hq)]
  have hz0 : (H.push (vp_cell (g.2.2.2 0) (n, .inl (fun _ => 0)))).size = H.size + 1 := Array.size_push _
  have r1' : mq_rel g T (mq_new h (.inr (0, n)) n) (H.push (vp_cell (g.2.2.2 0) (n, .inl (fun _ => 0)))) := by
    refine r1.mk ?_ hz0 (fun q hq => by rw [Array.getElem?_push, if_neg (Nat.ne_of_lt hq)])
    have eS : mq_sh (mq_new h (.inr (0, n)) n) (mq_N h) = .inr (0, n) := if_pos rfl
    have eI : mq_I (mq_new h (.inr (0, n)) n) (mq_N h) = fun _ => 0 := by funext j; exact if_pos rfl
    unfold mq_cell
    rw [eS]
    refine ⟨by decide, ?_⟩
    rw [ead, Array.getElem?_push_size]
    unfold mq_adt
    rw [eI]
    rfl
  have eI' : mq_I (mq_cpI (mq_new h (.inr (0, n)) n) a0 (mq_N h) 0 0 n) (mq_N h) = va_cpy (mq_I h a0) (fun _ => 0) 0 0 n := by
    funext j
    show (if mq_N h = mq_N h then va_cpy (fun i => if a0 = mq_N h then (0 : Int32) else mq_I h a0 i) (fun i => if mq_N h = mq_N h then (0 : Int32) else mq_I h (mq_N h) i) 0 0 n j else _) = _
    rw [if_pos rfl]
    simp only [if_neg hlt, if_true]
  have r1'' : mq_rel g T (mq_cpI (mq_new h (.inr (0, n)) n) a0 (mq_N h) 0 0 n) H1 := by
    refine r1'.put (k := mq_N h) r1.1 rfl (fun _ => rfl) (fun j hj => ⟨by funext i; exact if_neg hj, rfl, rfl⟩) ?_ (by rw [zz, hz0]) (fun q hq => ?_) (fun m j e => ?_) (fun j b hj => ?_)
    · have eS : mq_sh (mq_cpI (mq_new h (.inr (0, n)) n) a0 (mq_N h) 0 0 n) (mq_N h) = .inr (0, n) := if_pos rfl
      unfold mq_cell
      rw [eS]
      refine ⟨by decide, ?_⟩
      rw [ead, ee]
      unfold mq_adt
      rw [eI']
      show some (arrV _ n (fun j => .int (mq_I h a0 j))) = some (arrV _ n (fun j => .int (va_cpy (mq_I h a0) (fun _ => 0) 0 0 n j)))
      congr 1
      apply mq_arrV_cong
      intro j hj
      unfold va_cpy
      rw [if_pos ⟨Nat.zero_le _, by omega⟩]
      simp
    · rw [ead] at hq
      by_cases hlt2 : q < H.size
      · rw [oo q hlt2, Array.getElem?_push, if_neg (Nat.ne_of_lt hlt2)]
      · rw [Array.getElem?_eq_none (by rw [zz]; omega), Array.getElem?_eq_none (by rw [hz0]; omega)]
    · have : mq_sh (mq_new h (.inr (0, n)) n) (mq_N h) = .inr (0, n) := if_pos rfl
      rw [this] at e
      cases e
    · exact (r1'.2.2.2.2.2.2.2.2 _ j b hj).1
  have hne : ∀ k', k' < 4 → k' ≠ mq_N h := fun k' hk' => by have := r1.1; omega
  have hx4 : ∀ k', k' < 4 → H1[g.2.1 k']? = H[g.2.1 k']? := fun k' hk' => oo _ (by have := r1.2.2.1 k' hk'; have := r1.2.1; omega)
  have KK := K (by rw [eN]; omega) (by rw [eZ]; omega) H1 ls locs r1'' (r2.kept (fun k' hk' => if_neg (hne k' hk')) (fun k' m hk' _ => by funext j; exact (if_neg (hne k' hk')).trans (if_neg (hne k' hk'))) hx4) r3 ⟨Nat.le_trans r4.1 (by omega), fun q g1 g2 => (oo q (Nat.lt_of_lt_of_le g1 r4.1)).trans (r4.2.1 q g1 g2), r4.2.2⟩
  simp only [List.map_cons, mq_cv, ead] at KK
  rw [eN, eZ, show mq_N h + 1 - n0 = mq_N h - n0 + 1 by omega, show mq_Z h + n - z0 = mq_Z h - z0 + n by omega] at KK
  obtain ⟨t, b1, b2⟩ := KK ((T0.setVm vm').pushCell (vp_cell (g.2.2.2 0) (n, .inl (mq_I h a0)))) (by rw [← hH1, ← hT]; rfl) X'
  refine ⟨t, st t ?_, b2⟩
  rw [hcellE, hT]
  exact b1
end MQ4
