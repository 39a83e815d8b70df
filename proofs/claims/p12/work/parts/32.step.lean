/-! ONE STEP OF THE MACHINE FOLLOWS ONE OF OURS -/
def mq_good (g : mq_GH) (T : mq_T) (p : Program) (l : Launch) (e : Env) (R : Room) (s : State) (mid : MethodId) (args : Array Value) (below : List Frame) (meth : Method) (c : Code) (Q : State → Prop) (n0 z0 nL pc : Nat) (L : mq_L) (st : List Value) (h : mq_H) : Prop :=
  n0 ≤ mq_N h → z0 ≤ mq_Z h → ∀ (H : Heap) (ls : Array Slot) (locs : List Loc), mq_rel g T h H → mq_ext g h s H → mq_lv g nL ls L → va_S (fun q : Nat => g.1 ≤ q) s.heap H locs → W p l e R s mid args below meth c H locs (mq_N h - n0) (mq_Z h - z0) Q (F0 mid pc ls (st.map (mq_cv g)))
def mq_ctx (g : mq_GH) (p : Program) (R : Room) (s : State) (mid : MethodId) (args : Array Value) (meth : Method) (c : Code) (y : MethodName) (bs : ByteArray) (nL : Nat) (ret : Option FieldType) (fr lo : Nat) : Prop :=
  p.tables.exec = Jvm.exec ∧ c.code = bs ∧ c.maxLocals = nL ∧ meth.sig.returnType = ret ∧ s.vm.findClass y.cls = some mid.cls ∧ (y.name = "<init>" → meth.name = "<init>") ∧ meth.locks = false ∧ fr ≤ R.frames ∧ lo ≤ R.locals ∧ (∀ w ∈ mq_gw, w.before args s = true) ∧ va_K g.2.2.1 mq_cl (mq_tys g) s ∧ (∀ w ∈ mq_nw, va_Nw w s) ∧ va_AO "RanOut$Law" s ∧ (va_AO "RanOut$Line" s ∧ mq_os g s) ∧ g.1 ≤ s.heap.size
section MQ1
variable {g : mq_GH} {T : mq_T} {p : Program} {l : Launch} {e : Env} {R : Room} {s : State} {mid : MethodId} {args : Array Value} {below : List Frame} {meth : Method} {c : Code} {Q : State → Prop} {n0 z0 nL : Nat}
variable {y : MethodName} {bs : ByteArray} {ret : Option FieldType} {fr lo : Nat} {pc pc' : Nat} {L : mq_L} {st st' r : List Value} {h h' : mq_H}
/-- heap and locals stay -/
theorem mq_good.sk (hw : ∀ (H : Heap) (ls : Array Slot) (locs : List Loc) (ce sl : Nat), mq_rel g T h H → mq_ext g h s H → mq_lv g nL ls L → va_S (fun q : Nat => g.1 ≤ q) s.heap H locs → W p l e R s mid args below meth c H locs ce sl Q (F0 mid pc' ls (st'.map (mq_cv g))) → W p l e R s mid args below meth c H locs ce sl Q (F0 mid pc ls (st.map (mq_cv g)))) (K : mq_good g T p l e R s mid args below meth c Q n0 z0 nL pc' L st' h) : mq_good g T p l e R s mid args below meth c Q n0 z0 nL pc L st h :=
  fun a b H ls locs h1 h2 h3 h4 => hw H ls locs _ _ h1 h2 h3 h4 (K a b H ls locs h1 h2 h3 h4)
/-- the locals change -/
theorem mq_good.lc {L' : mq_L} (hw : ∀ (H : Heap) (ls : Array Slot) (locs : List Loc) (ce sl : Nat), mq_lv g nL ls L → (∀ ls' : Array Slot, mq_lv g nL ls' L' → W p l e R s mid args below meth c H locs ce sl Q (F0 mid pc' ls' (st'.map (mq_cv g)))) → W p l e R s mid args below meth c H locs ce sl Q (F0 mid pc ls (st.map (mq_cv g)))) (K : mq_good g T p l e R s mid args below meth c Q n0 z0 nL pc' L' st' h) : mq_good g T p l e R s mid args below meth c Q n0 z0 nL pc L st h :=
  fun a b H ls locs h1 h2 h3 h4 => hw H ls locs _ _ h3 (fun ls' h3' => K a b H ls' locs h1 h2 h3' h4)
/-- one cell is written -/
theorem mq_good.pt {k : Nat} (hN : mq_N h' = mq_N h) (hZ : mq_Z h' = mq_Z h) (hs : ∀ j, mq_sh h' j = mq_sh h j) (ho : ∀ j, j ≠ k → mq_I h' j = mq_I h j ∧ mq_J h' j = mq_J h j ∧ mq_R h' j = mq_R h j) (hb : ∀ n j, (∀ j, mq_I h k j = 0 ∨ mq_I h k j = 1) → mq_sh h k = .inr (2, n) → mq_I h' k j = 0 ∨ mq_I h' k j = 1) (ht : (∀ j b, T.2 k j = some b → mq_R h k j = some b) → ∀ j b, T.2 k j = some b → mq_R h' k j = some b)
    (hw : ∀ (H : Heap) (ls : Array Slot) (locs : List Loc) (ce sl : Nat), mq_rel g T h H → mq_ext g h s H → mq_lv g nL ls L → va_S (fun q : Nat => g.1 ≤ q) s.heap H locs → (∀ (H1 : Heap) (locs1 : List Loc), 4 ≤ k → H1.size = H.size → (∀ q, q ≠ mq_ad g k → H1[q]? = H[q]?) → mq_cell g h' k H1 → va_S (fun q : Nat => g.1 ≤ q) s.heap H1 locs1 → W p l e R s mid args below meth c H1 locs1 ce sl Q (F0 mid pc' ls (st'.map (mq_cv g)))) → W p l e R s mid args below meth c H locs ce sl Q (F0 mid pc ls (st.map (mq_cv g))))
    (K : mq_good g T p l e R s mid args below meth c Q n0 z0 nL pc' L st' h') : mq_good g T p l e R s mid args below meth c Q n0 z0 nL pc L st h := by
  intro a b H ls locs h1 h2 h3 h4
  refine hw H ls locs _ _ h1 h2 h3 h4 (fun H1 locs1 hk hz oq hc hS1 => ?_)
  rw [← hN, ← hZ]
  have hx : ∀ k', k' < 4 → H1[g.2.1 k']? = H[g.2.1 k']? := fun k' hk' => oq _ (fun e => by have := h1.2.2.1 k' hk'; have := mq_ad_ge (g := g) hk; omega)
  exact K (by rw [hN]; exact a) (by rw [hZ]; exact b) H1 ls _ (h1.put hk hN hs ho hc hz oq (fun n j e => hb n j (fun j => h1.2.2.2.2.2.2.1 k n j e) e) (ht (fun j b e => (h1.2.2.2.2.2.2.2.2 k j b e).1))) (h2.kept (fun k' _ => hs k') (fun k' n hk' _ => (ho k' (by omega)).1) hx) h3 hS1
/-! pushing, arithmetic, branching -/
theorem sd_ldI {a : Nat} {x : Int32} (hld : mq_ld L a = some (.int x)) (hw : ∀ (H : Heap) (ls : Array Slot) (locs : List Loc) (ce sl : Nat), ls[a]? = some (.val (.int x)) → W p l e R s mid args below meth c H locs ce sl Q (F0 mid pc' ls (Value.int x :: st.map (mq_cv g))) → W p l e R s mid args below meth c H locs ce sl Q (F0 mid pc ls (st.map (mq_cv g)))) (K : mq_good g T p l e R s mid args below meth c Q n0 z0 nL pc' L (.int x :: st) h) : mq_good g T p l e R s mid args below meth c Q n0 z0 nL pc L st h :=
  mq_good.sk (st' := .int x :: st) (fun H ls locs ce sl _ _ h3 _ k => hw H ls locs ce sl (h3.2.2 a _ (mq_ld_get hld)) k) K
theorem sd_ldJ {a : Nat} {x : Int64} (hld : mq_ld L a = some (.long x)) (hw : ∀ (H : Heap) (ls : Array Slot) (locs : List Loc) (ce sl : Nat), ls[a]? = some (.val (.long x)) → W p l e R s mid args below meth c H locs ce sl Q (F0 mid pc' ls (Value.long x :: st.map (mq_cv g))) → W p l e R s mid args below meth c H locs ce sl Q (F0 mid pc ls (st.map (mq_cv g)))) (K : mq_good g T p l e R s mid args below meth c Q n0 z0 nL pc' L (.long x :: st) h) : mq_good g T p l e R s mid args below meth c Q n0 z0 nL pc L st h :=
  mq_good.sk (st' := .long x :: st) (fun H ls locs ce sl _ _ h3 _ k => hw H ls locs ce sl (h3.2.2 a _ (mq_ld_get hld)) k) K
theorem sd_ldA {a : Nat} {v : Value} (hld : mq_ld L a = some v) (hw : ∀ (H : Heap) (ls : Array Slot) (locs : List Loc) (ce sl : Nat), ls[a]? = some (.val (mq_cv g v)) → W p l e R s mid args below meth c H locs ce sl Q (F0 mid pc' ls (mq_cv g v :: st.map (mq_cv g))) → W p l e R s mid args below meth c H locs ce sl Q (F0 mid pc ls (st.map (mq_cv g)))) (K : mq_good g T p l e R s mid args below meth c Q n0 z0 nL pc' L (v :: st) h) : mq_good g T p l e R s mid args below meth c Q n0 z0 nL pc L st h :=
  mq_good.sk (st' := v :: st) (fun H ls locs ce sl _ _ h3 _ k => hw H ls locs ce sl (h3.2.2 a _ (mq_ld_get hld)) k) K
theorem sd_st1 {i : Nat} {v : Value} (hw : ∀ (H : Heap) (ls : Array Slot) (locs : List Loc) (ce sl : Nat) (lv : List (Nat × Value)), lv_has ls nL lv → (∀ ls' : Array Slot, lv_has ls' nL ((i, mq_cv g v) :: lv.filter (fun q => !(q.1 == i) && !(q.1 + 1 == i && q.2.category == 2))) → W p l e R s mid args below meth c H locs ce sl Q (F0 mid pc' ls' (r.map (mq_cv g)))) → W p l e R s mid args below meth c H locs ce sl Q (F0 mid pc ls (st.map (mq_cv g)))) (K : mq_good g T p l e R s mid args below meth c Q n0 z0 nL pc' (mq_sv L i v) r h) : mq_good g T p l e R s mid args below meth c Q n0 z0 nL pc L st h :=
  mq_good.lc (L' := mq_sv L i v) (fun H ls locs ce sl h3 k => hw H ls locs ce sl _ h3.has (fun ls' h' => k ls' (mq_lv.st1 h'))) K
theorem sd_st2 {i : Nat} {v : Value} (hw : ∀ (H : Heap) (ls : Array Slot) (locs : List Loc) (ce sl : Nat) (lv : List (Nat × Value)), lv_has ls nL lv → (∀ ls' : Array Slot, lv_has ls' nL ((i, mq_cv g v) :: lv.filter (fun q => !(q.1 == i) && (!(q.1 == i + 1) && !(q.1 + 1 == i && q.2.category == 2)))) → W p l e R s mid args below meth c H locs ce sl Q (F0 mid pc' ls' (r.map (mq_cv g)))) → W p l e R s mid args below meth c H locs ce sl Q (F0 mid pc ls (st.map (mq_cv g)))) (K : mq_good g T p l e R s mid args below meth c Q n0 z0 nL pc' ((mq_sv L i v).set (i + 1) none) r h) : mq_good g T p l e R s mid args below meth c Q n0 z0 nL pc L st h :=
  mq_good.lc (L' := (mq_sv L i v).set (i + 1) none) (fun H ls locs ce sl h3 k => hw H ls locs ce sl _ h3.has (fun ls' h' => k ls' (mq_lv.st2 h'))) K
theorem sd_iinc {i : Nat} {n : Int} {x k : Int32} (hx : p.tables.exec = Jvm.exec) (hb : c.code = bs) (hd : decode bs pc = .ok (.iinc i n, 3)) (hi : i < nL) (hk : Int32.ofInt n = k) (hld : mq_ld L i = some (.int x)) (K : mq_good g T p l e R s mid args below meth c Q n0 z0 nL (pc + 3) (mq_sv L i (.int (x + k))) st h) : mq_good g T p l e R s mid args below meth c Q n0 z0 nL pc L st h := by
  refine mq_good.lc (L' := mq_sv L i (.int (x + k))) (fun H ls locs ce sl h3 kk => ?_) K
  obtain ⟨q, hq⟩ := List.getElem?_of_mem (mq_pr_mem (g := g) (mq_ld_get hld))
  exact lv_iinc (v := x + k) hx hb hd h3.has (k := q) hq (by rw [hk]) hi rfl (fun ls' h' => kk ls' (mq_lv.st1 (v := .int (x + k)) h'))
theorem sd_br {o : Jvm.ClassFile.Cond} {off : Int} {x z : Int32} {t : Nat} (hx : p.tables.exec = Jvm.exec) (hb : c.code = bs) (hd : decode bs pc = .ok (.if_icmp o off, 3)) (ht : (pc : Int) + off = (t : Int)) (K : mq_good g T p l e R s mid args below meth c Q n0 z0 nL (bif mq_cmp o x z then t else pc + 3) L r h) : mq_good g T p l e R s mid args below meth c Q n0 z0 nL pc L (.int z :: .int x :: r) h := by
  refine mq_good.sk (fun H ls locs ce sl _ _ _ _ k => ?_) K
  have kt : mq_cmp o x z = true → W p l e R s mid args below meth c H locs ce sl Q (F0 mid t ls (r.map (mq_cv g))) := fun q => by rw [q] at k; exact k
  have kf : mq_cmp o x z = false → W p l e R s mid args below meth c H locs ce sl Q (F0 mid (pc + 3) ls (r.map (mq_cv g))) := fun q => by rw [q] at k; exact k
  cases o
  · exact lv_icmp_eq hx hb hd ht (fun q => kt (by simp [mq_cmp, q])) (fun q => kf (by simp [mq_cmp, q]))
  · exact lv_icmp_ne hx hb hd ht (fun q => kt (by simp [mq_cmp]; exact q)) (fun q => kf (by simp [mq_cmp]; first | exact q | exact Classical.not_not.mp q))
  · exact lv_icmp_lt hx hb hd ht (fun q => kt (by simp [mq_cmp, q])) (fun q => kf (by simp only [mq_cmp, decide_eq_false_iff_not]; exact q))
  · exact lv_icmp_ge hx hb hd ht (fun q => kt (by simp [mq_cmp, q])) (fun q => kf (by simp only [mq_cmp, decide_eq_false_iff_not]; exact q))
  · exact lv_icmp_gt hx hb hd ht (fun q => kt (by simp [mq_cmp, q])) (fun q => kf (by simp only [mq_cmp, decide_eq_false_iff_not]; exact q))
  · exact lv_icmp_le hx hb hd ht (fun q => kt (by simp [mq_cmp, q])) (fun q => kf (by simp only [mq_cmp, decide_eq_false_iff_not]; exact q))
theorem sd_b0 {o : Jvm.ClassFile.Cond} {off : Int} {x : Int32} {t : Nat} (hx : p.tables.exec = Jvm.exec) (hb : c.code = bs) (hd : decode bs pc = .ok (.ifCond o off, 3)) (ht : (pc : Int) + off = (t : Int)) (K : mq_good g T p l e R s mid args below meth c Q n0 z0 nL (bif mq_cmp o x 0 then t else pc + 3) L r h) : mq_good g T p l e R s mid args below meth c Q n0 z0 nL pc L (.int x :: r) h := by
  refine mq_good.sk (fun H ls locs ce sl _ _ _ _ k => ?_) K
  have kt : mq_cmp o x 0 = true → W p l e R s mid args below meth c H locs ce sl Q (F0 mid t ls (r.map (mq_cv g))) := fun q => by rw [q] at k; exact k
  have kf : mq_cmp o x 0 = false → W p l e R s mid args below meth c H locs ce sl Q (F0 mid (pc + 3) ls (r.map (mq_cv g))) := fun q => by rw [q] at k; exact k
  cases o
  · exact lv_if_eq hx hb hd ht (fun q => kt (by simp [mq_cmp, q])) (fun q => kf (by simp [mq_cmp, q]))
  · exact lv_if_ne hx hb hd ht (fun q => kt (by simp [mq_cmp]; exact q)) (fun q => kf (by simp [mq_cmp]; first | exact q | exact Classical.not_not.mp q))
  · exact lv_if_lt hx hb hd ht (fun q => kt (by simp only [mq_cmp, decide_eq_true_eq]; exact q)) (fun q => kf (by simp only [mq_cmp, decide_eq_false_iff_not]; exact q))
  · exact lv_if_ge hx hb hd ht (fun q => kt (by simp only [mq_cmp, decide_eq_true_eq]; exact q)) (fun q => kf (by simp only [mq_cmp, decide_eq_false_iff_not]; exact q))
  · exact lv_if_gt hx hb hd ht (fun q => kt (by simp only [mq_cmp, decide_eq_true_eq]; exact q)) (fun q => kf (by simp only [mq_cmp, decide_eq_false_iff_not]; exact q))
  · exact lv_if_le hx hb hd ht (fun q => kt (by simp only [mq_cmp, decide_eq_true_eq]; exact q)) (fun q => kf (by simp only [mq_cmp, decide_eq_false_iff_not]; exact q))
theorem sd_lsw {d : Int} {ps : Array (Int × Int)} {len : Nat} {x : Int32} {a : Nat} (hx : p.tables.exec = Jvm.exec) (hb : c.code = bs) (hd : decode bs pc = .ok (.lookupswitch d ps, len)) (ha : (pc : Int) + d = (a : Int)) (h1 : mq_okS pc (ps.toList.map (·.2)) = true) (h2 : ps.toList.all (fun q => decide ((Int32.ofInt q.1).toInt = q.1)) = true) (h3 : (ps.toList.zip (ps.toList.drop 1)).all (fun (a, next) => a.1 < next.1) = true) (K : mq_good g T p l e R s mid args below meth c Q n0 z0 nL (mq_find x (mq_sw ps.toList pc) a) L r h) : mq_good g T p l e R s mid args below meth c Q n0 z0 nL pc L (.int x :: r) h := by
  refine mq_good.sk (fun H ls locs ce sl _ _ _ _ k => ?_) K
  have key : ∀ l : List (Int × Int), mq_okS pc (l.map (·.2)) = true → l.all (fun q => decide ((Int32.ofInt q.1).toInt = q.1)) = true → (pc : Int) + Op.lookupswitch.offset l d x.toInt = ((mq_find x (mq_sw l pc) a : Nat) : Int) := by
    intro l
    induction l with
    | nil => intro _ _; exact ha
    | cons q l ih =>
      obtain ⟨u, o⟩ := q
      intro e1 e2
      simp only [List.map_cons, mq_okS, Bool.and_eq_true, decide_eq_true_eq] at e1
      simp only [List.all_cons, Bool.and_eq_true, decide_eq_true_eq] at e2
      rw [Op.lookupswitch.offset_cons]
      by_cases q : x = Int32.ofInt u
      · have q2 : u = x.toInt := by rw [q, e2.1]
        simp only [mq_sw, mq_find]
        rw [if_pos (by first | exact q2 | exact q2.symm), decide_eq_true q]
        exact e1.1.symm
      · have q2 : ¬ u = x.toInt := fun z => q (Int32.toInt_inj.mp (by rw [e2.1]; exact z.symm))
        simp only [mq_sw, mq_find]
        rw [if_neg (by first | exact q2 | exact fun z => q2 z.symm), decide_eq_false q]
        exact ih e1.2 e2.2
  exact lv_lookup hx hb hd h3 rfl (key _ h1 h2) k
theorem sd_tsw {d lo' hi' : Int} {offs : Array Int} {len : Nat} {x : Int32} {a : Nat} (hx : p.tables.exec = Jvm.exec) (hb : c.code = bs) (hd : decode bs pc = .ok (.tableswitch d lo' hi' offs, len)) (ha : (pc : Int) + d = (a : Int)) (h1 : mq_okS pc offs.toList = true) (h2 : 0 ≤ lo' ∧ hi' + 1 = lo' + (offs.toList.length : Int) ∧ lo' + (offs.toList.length : Int) < 2000) (K : mq_good g T p l e R s mid args below meth c Q n0 z0 nL (mq_find x (mq_tsw offs.toList lo' pc) a) L r h) : mq_good g T p l e R s mid args below meth c Q n0 z0 nL pc L (.int x :: r) h := by
  refine mq_good.sk (fun H ls locs ce sl _ _ _ _ k => ?_) K
  obtain ⟨h0, h3, h4⟩ := h2
  obtain ⟨b0, rfl⟩ := Int.eq_ofNat_of_zero_le h0
  have key : ∀ (l : List Int) (b : Nat), b + l.length < 2000 → mq_okS pc l = true → (x.toInt < (b : Int) ∨ ((b + l.length : Nat) : Int) ≤ x.toInt → mq_find x (mq_tsw l (b : Int) pc) a = a) ∧ (∀ o, (b : Int) ≤ x.toInt → l[(x.toInt - (b : Int)).toNat]? = some o → (pc : Int) + o = ((mq_find x (mq_tsw l (b : Int) pc) a : Nat) : Int)) := by
    intro l
    induction l with
    | nil => intro b _ _; exact ⟨fun _ => rfl, fun o _ e => by simp at e⟩
    | cons o l ih =>
      intro b hb e1
      simp only [mq_okS, Bool.and_eq_true, decide_eq_true_eq] at e1
      simp only [List.length_cons] at hb
      have hi := ih (b + 1) (by omega) e1.2
      have eb : (Int32.ofInt (b : Int)).toInt = (b : Int) := by
        rw [Int32.toInt_ofInt, Int.bmod_eq_of_le] <;> (first | omega | (simp only [Int32.size]; omega))
      have e2 : ((b + 1 : Nat) : Int) = (b : Int) + 1 := by omega
      rw [e2] at hi
      by_cases q : x = Int32.ofInt (b : Int)
      · have qx : x.toInt = (b : Int) := by rw [q, eb]
        simp only [mq_tsw, mq_find]
        rw [decide_eq_true q]
        refine ⟨fun z => ?_, fun o' _ z => ?_⟩
        · simp only [List.length_cons] at z
          omega
        · rw [qx, Int.sub_self] at z
          simp at z
          subst z
          exact e1.1.symm
      · have qx : ¬ x.toInt = (b : Int) := fun z => q (Int32.toInt_inj.mp (by rw [eb]; exact z))
        simp only [mq_tsw, mq_find]
        rw [decide_eq_false q]
        refine ⟨fun z => hi.1 ?_, fun o' z1 z => hi.2 o' (by omega) ?_⟩
        · simp only [List.length_cons] at z
          omega
        · rw [show (x.toInt - (b : Int)).toNat = (x.toInt - ((b : Int) + 1)).toNat + 1 by omega] at z
          simpa using z
  have hk := key offs.toList b0 (by omega) h1
  by_cases q : x.toInt < (b0 : Int) ∨ hi' < x.toInt
  · refine lv_tableOut (tgt := mq_find x (mq_tsw offs.toList (b0 : Int) pc) a) hx hb hd q ?_ k
    have := hk.1 (by rcases q with q | q <;> omega)
    rw [this]
    exact ha
  · have q1 : ¬ x.toInt < (b0 : Int) := fun z => q (Or.inl z)
    have q2 : ¬ hi' < x.toInt := fun z => q (Or.inr z)
    have hlt : (x.toInt - (b0 : Int)).toNat < offs.toList.length := by omega
    have hg : offs[(x.toInt - (b0 : Int)).toNat]? = some (offs.toList[(x.toInt - (b0 : Int)).toNat]) := by
      rw [← Array.getElem?_toList]
      exact List.getElem?_eq_getElem hlt
    refine lv_tableIn (tgt := mq_find x (mq_tsw offs.toList (b0 : Int) pc) a) hx hb hd q1 q2 hg ?_ k
    exact hk.2 _ (by omega) (List.getElem?_eq_getElem hlt)
end MQ1
