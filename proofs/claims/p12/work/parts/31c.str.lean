/-! THE CONSTANT OF THE READER's WORDS, and String.charAt of it -/
theorem jk_wok : ∀ j, j < 174 → (0 ≤ (jk_w j).toInt ∧ (jk_w j).toInt ≤ 255) ∧ (((jk_w j) &&& 255).toUInt32 % 65536).toInt32 = jk_w j ∧ narrow .char (.int (jk_w j)) = .int (jk_w j) := by decide +kernel
/-- what lies outside: UNIT_DAYS, the constant, its bytes, the JDK's statics -/
def jk_os (A : Nat → Prop) (aU aK aV : Nat) (U : State) (H : Heap) : Prop := va_Z "RanOut" "UNIT_DAYS" "[I" (.ref aU) A U H ∧ va_T .int aU 3 (fun j => .int (jk_ud j)) A U H ∧ va_O "java/lang/String" aK A U H ∧ va_OF "java/lang/String" "coder" "B" (.int 0) aK A U H ∧ va_OF "java/lang/String" "value" "[B" (.ref aV) aK A U H ∧ va_T .byte aV 174 (fun j => .int (jk_w j)) A U H ∧ va_Z "java/lang/String" "COMPACT_STRINGS" "Z" (.int 1) A U H ∧ va_Zq "jdk/internal/util/Preconditions" "SIOOBE_FORMATTER" "Ljava/util/function/BiFunction;" A U H
theorem va_Zq.movedJ {C n d : String} {A : Nat → Prop} {u U : State} {H : Heap} (hvm : u.vm.Alike U.vm) (h : va_Zq C n d A u H) : va_Zq C n d A U H := by
  rcases h with h | ⟨t, h⟩
  · exact Or.inl (h.moved hvm)
  · exact Or.inr ⟨t, h.moved hvm⟩
theorem va_Zq.keptJ {C n d : String} {A : Nat → Prop} {U : State} {H H1 : Heap} (h : va_Zq C n d A U H) (hq : ∀ a : Nat, a < H.size → ¬ A a → H1[a]? = H[a]?) : va_Zq C n d A U H1 := by
  rcases h with h | ⟨t, h⟩
  · exact Or.inl (h.kept hq)
  · exact Or.inr ⟨t, h.kept hq⟩
theorem jk_os.moved {A : Nat → Prop} {aU aK aV : Nat} {u U : State} {H : Heap} (hvm : u.vm.Alike U.vm) (h : jk_os A aU aK aV u H) : jk_os A aU aK aV U H := ⟨h.1.moved hvm, va_T.moved hvm h.2.1, va_O.moved hvm h.2.2.1, va_OF.moved hvm h.2.2.2.1, va_OF.moved hvm h.2.2.2.2.1, va_T.moved hvm h.2.2.2.2.2.1, h.2.2.2.2.2.2.1.moved hvm, h.2.2.2.2.2.2.2.movedJ hvm⟩
theorem jk_os.kept {A : Nat → Prop} {aU aK aV : Nat} {U : State} {H H1 : Heap} (h : jk_os A aU aK aV U H) (hq : ∀ a : Nat, a < H.size → ¬ A a → H1[a]? = H[a]?) : jk_os A aU aK aV U H1 := ⟨h.1.kept hq, h.2.1.kept hq, h.2.2.1.kept hq, h.2.2.2.1.kept hq, h.2.2.2.2.1.kept hq, h.2.2.2.2.2.1.kept hq, h.2.2.2.2.2.2.1.kept hq, h.2.2.2.2.2.2.2.keptJ hq⟩
/-- a contract's end: the answer, nothing written -/
def jk_Q (v : Option Value) : Array Value → State → Outcome → State → Prop := fun _ st o t => o = .returned v ∧ t.heap = st.heap
def jk_P (A : Nat → Prop) (aU aK aV : Nat) (as : List Value) : Array Value → State → Prop := fun a U => a = as.toArray ∧ jk_os A aU aK aV U U.heap
theorem jk_blind (A : Nat → Prop) (aU aK aV : Nat) (as : List Value) : FrameBlind (jk_P A aU aK aV as) := by
  intro a U gg mk ⟨q1, q2⟩
  exact ⟨q1, jk_os.moved (u := U) (U := U.calling gg mk a) (H := U.heap) (Vm.Alike.refl U.vm) q2⟩
theorem jk_GI {w : Cond} (hw : w ∈ mq_gw) : GoodIn mq_gw (w :: mq_gw) := by
  intro x hx
  rcases List.mem_cons.mp hx with rfl | hx
  · exact ⟨hw, good_of_word (List.mem_filter.mp hw).2⟩
  · exact ⟨hx, good_of_word (List.mem_filter.mp hx).2⟩
/-- all that lies outside, at a state -/
def mq_os (g : mq_GH) (U : State) : Prop := ∃ aV : Nat, jk_os (fun q : Nat => g.1 ≤ q) (g.2.1 1) (g.2.1 2) aV U U.heap ∧ vk_R "RanOut$Reader" 167 "term  long  stop  renew roll  from  when  days  monthsyears done  known due   child abroadwar   talks ask   pay   lettersuit  or    and   not   kind  sum   place year  ran   " (g.2.1 2) U ∧ va_Nw (.fieldLinkNest "RanOut$Reader" 95 "RanOut" "UNIT_DAYS" "[I" "RanOut") U ∧ va_Nw (.castable "[I" "java/lang/Cloneable") U ∧ va_Nw (.sameMethod "[I" "java/lang/Object" "clone" "()Ljava/lang/Object;") U
theorem mq_os.to {g : mq_GH} {s t : State} {H : Heap} (h : mq_os g s) (hW : s.WarmedH t.vm) (ht : t.heap = H) (hq : ∀ q : Nat, q < s.heap.size → ¬ g.1 ≤ q → H[q]? = s.heap[q]?) : mq_os g t := by
  obtain ⟨aV, h1, h2, h3, h4, h5⟩ := h
  refine ⟨aV, ?_, h2.warm hW, h3.warmF hW, h4.warmC hW, ?_⟩
  · rw [ht]
    exact (h1.kept hq).moved hW.alike
  · exact va_tabs rfl (rfl : (s.setVm t.vm).vm = t.vm) (Cond.sameMethod_setVm hW.alike ⟨by decide, by decide⟩ h5)
theorem mq_os.calling {g : mq_GH} {U : State} (h : mq_os g U) (gg : JFrame) (mk : MethodId) (a : Array Value) : mq_os g (U.calling gg mk a) := by
  obtain ⟨aV, h1, h2, h3, h4, h5⟩ := h
  exact ⟨aV, jk_os.moved (u := U) (U := U.calling gg mk a) (H := U.heap) (Vm.Alike.refl U.vm) h1, vk_R.same (u := U) (U := U.calling gg mk a) rfl h2, h3.same rfl rfl, h4.same rfl rfl, h5.same rfl rfl⟩
section JK1
variable {p : Program} {l : Launch} {e : Env} {R : Room} {s : State} {m : MethodId} {args : Array Value} {below : List Frame} {meth : Method} {c : Code} {H : Heap} {locs : List Loc} {cells slots : Nat} {Q : State → Prop}
theorem jk_go {pc : Nat} {ls : Array Slot} {st0 rest : List Value} {v : Option Value} {a : Array Value} (hr : va_Run p l e R s m args below meth c H locs cells slots 0 0 (F0 m pc ls st0) rest (jk_Q v a) (fun _ => False)) (K : W p l e R s m args below meth c H locs cells slots Q (F0 m (pc + 3) ls (v.toList ++ rest))) : W p l e R s m args below meth c H locs cells slots Q (F0 m pc ls st0) := by
  intro T0 hT X
  obtain ⟨v', st₀, t, T', L, e0, X', hL, e1, e2, ⟨hv, hh⟩, st⟩ := hr T0 hT X
  cases hv
  have hLn : L = [] := List.eq_nil_iff_forall_not_mem.mpr (fun q hq => hL q hq)
  subst hLn
  rw [List.append_nil, Nat.add_zero, Nat.add_zero] at X'
  obtain ⟨t2, a1, b1⟩ := K T' (by rw [e1, hh, e0]) X'
  exact ⟨t2, st t2 a1, b1⟩
end JK1
abbrev jk_bPC : ByteArray := prog_23_method_11_code
abbrev jk_bSC : ByteArray := prog_18_method_155_code
abbrev jk_bLC : ByteArray := prog_19_method_2_code
abbrev jk_bIL : ByteArray := prog_18_method_154_code
abbrev jk_bCA : ByteArray := prog_18_method_56_code
def jk_yPC : MethodName := ⟨"jdk/internal/util/Preconditions", "checkIndex", "(IILjava/util/function/BiFunction;)I"⟩
def jk_ySC : MethodName := ⟨"java/lang/String", "checkIndex", "(II)V"⟩
def jk_yLC : MethodName := ⟨"java/lang/StringLatin1", "charAt", "([BI)C"⟩
def jk_yIL : MethodName := ⟨"java/lang/String", "isLatin1", "()Z"⟩
def jk_yCA : MethodName := ⟨"java/lang/String", "charAt", "(I)C"⟩
set_option maxRecDepth 100000 in
theorem jk_cPC : Cond.code jk_yPC jk_bPC 3 (some .int) ∈ mq_gw := mq_cod_of (j := 712) rfl
set_option maxRecDepth 100000 in
theorem jk_cSC : Cond.code jk_ySC jk_bSC 2 none ∈ mq_gw := mq_cod_of (j := 707) rfl
set_option maxRecDepth 100000 in
theorem jk_cLC : Cond.code jk_yLC jk_bLC 2 (some .char) ∈ mq_gw := mq_cod_of (j := 704) rfl
set_option maxRecDepth 100000 in
theorem jk_cIL : Cond.code jk_yIL jk_bIL 1 (some .boolean) ∈ mq_gw := mq_cod_of (j := 699) rfl
set_option maxRecDepth 100000 in
theorem jk_cCA : Cond.code jk_yCA jk_bCA 2 (some .char) ∈ mq_gw := mq_cod_of (j := 695) rfl
theorem jk_sPC : Cond.static jk_yPC ∈ mq_gw := mq_hw_in (j := 711) (by decide +kernel)
theorem jk_sSC : Cond.static jk_ySC ∈ mq_gw := mq_hw_in (j := 706) (by decide +kernel)
theorem jk_sLC : Cond.static jk_yLC ∈ mq_gw := mq_hw_in (j := 703) (by decide +kernel)
theorem jk_iIL : Cond.instanceMethod jk_yIL ∈ mq_gw := mq_hw_in (j := 697) (by decide +kernel)
theorem jk_iCA : Cond.instanceMethod jk_yCA ∈ mq_gw := mq_hw_in (j := 693) (by decide +kernel)
theorem jk_lIL : Cond.selects "java/lang/String" jk_yIL jk_yIL ∈ mq_gw := mq_hw_in (j := 698) (by decide +kernel)
theorem jk_lCA : Cond.selects "java/lang/String" jk_yCA jk_yCA ∈ mq_gw := mq_hw_in (j := 694) (by decide +kernel)
theorem jk_nST : Cond.initialized "java/lang/String" ∈ mq_gw := mq_hw_in (j := 122) (by decide +kernel)
theorem jk_nSL : Cond.initialized "java/lang/StringLatin1" ∈ mq_gw := mq_hw_in (j := 123) (by decide +kernel)
theorem jk_nPR : Cond.initialized "jdk/internal/util/Preconditions" ∈ mq_gw := mq_hw_in (j := 124) (by decide +kernel)
theorem jk_mPC : Cond.methodLink "java/lang/String" 1059 jk_yPC ∈ mq_gw := mq_hw_in (j := 710) (by decide +kernel)
theorem jk_mSC : Cond.methodLink "java/lang/StringLatin1" 9 jk_ySC ∈ mq_gw := mq_hw_in (j := 705) (by decide +kernel)
theorem jk_mLC : Cond.methodLink "java/lang/String" 495 jk_yLC ∈ mq_gw := mq_hw_in (j := 702) (by decide +kernel)
theorem jk_mIL : Cond.methodLink "java/lang/String" 492 jk_yIL ∈ mq_gw := mq_hw_in (j := 696) (by decide +kernel)
theorem jk_mCA : Cond.methodLink "RanOut$Reader" 169 jk_yCA ∈ mq_gw := mq_hw_in (j := 692) (by decide +kernel)
theorem jk_ffm : Cond.fieldLink "java/lang/String" 1053 "jdk/internal/util/Preconditions" "SIOOBE_FORMATTER" "Ljava/util/function/BiFunction;" ∈ mq_gw := mq_hw_in (j := 708) (by decide +kernel)
theorem jk_fco : Cond.fieldLink "java/lang/String" 38 "java/lang/String" "COMPACT_STRINGS" "Z" ∈ mq_gw := mq_hw_in (j := 700) (by decide +kernel)
theorem jk_fcd : Cond.fieldLink "java/lang/String" 15 "java/lang/String" "coder" "B" ∈ mq_gw := mq_hw_in (j := 1828) (by decide +kernel)
theorem jk_fva : Cond.fieldLink "java/lang/String" 9 "java/lang/String" "value" "[B" ∈ mq_gw := mq_hw_in (j := 1829) (by decide +kernel)
theorem jk_in {i : Int32} {n : Nat} (h0 : 0 ≤ i.toInt) (h1 : i.toInt < (n : Int)) : vp_in i n := by
  have : ((i.toNatClampNeg : Nat) : Int) = i.toInt := by show ((i.toInt.toNat : Nat) : Int) = i.toInt; omega
  unfold vp_in
  refine fun q => ?_
  rcases q with q | q
  · rw [Int32.lt_iff_toInt_lt] at q
    have : (0 : Int32).toInt = 0 := rfl
    omega
  · omega
abbrev jk_yOC : MethodName := ⟨"java/lang/Object", "clone", "()Ljava/lang/Object;"⟩
theorem jk_nOC : Cond.native jk_yOC ∈ mq_gw := mq_hw_in (j := 807) (by decide +kernel)
theorem jk_iOC : Cond.instanceMethod jk_yOC ∈ mq_gw := mq_hw_in (j := 808) (by decide +kernel)
theorem jk_lOC : Cond.selects "[I" ⟨"[I", "clone", "()Ljava/lang/Object;"⟩ jk_yOC ∈ mq_gw := mq_hw_in (j := 809) (by decide +kernel)
section JK2
variable {l : Launch} {A : Nat → Prop} {aU aK aV : Nat}
set_option maxRecDepth 20000 in
/-- Preconditions.checkIndex -/
theorem jk_PC {i n : Int32} {v : Value} (h0 : 0 ≤ i.toInt) (h1 : i.toInt < n.toInt) (hv : v = .null ∨ ∃ t : Nat, v = .ref t) : Met l jk_yPC (Cond.code jk_yPC jk_bPC 3 (some .int) :: mq_gw) ({ frames := 0, cells := 0, slots := 0, locals := 0 }) (jk_P A aU aK aV [.int i, .int n, v]) (jk_Q (some (.int i))) 0 0 (fun _ => False) := by
  refine Met.ofW (cc := jk_bPC) (maxL := 3) (ret := some .int) (by decide) rfl ?_
  intro p e s mid args below meth c s₁ B hml hp
  obtain ⟨rfl, hos⟩ := hp
  have hx := B.exec
  have hb := B.bytes
  have hl := lv_entry [.int i, .int n, v] (n := 3) (by rcases hv with rfl | ⟨t, rfl⟩ <;> simp [lg_sl, Value.category])
  rw [lg_entry_eq]
  generalize (lg_sl [Value.int i, .int n, v] ++ List.replicate (3 - (lg_sl [Value.int i, .int n, v]).length) Slot.unset).toArray = ls at hl
  refine lv_iload_n (i := 0) hx hb (show decode jk_bPC 0 = .ok (.iload_n 0, 1) by decide +kernel) rfl (lv_at hl 0 rfl) ?_
  refine lv_if_lt hx hb (tgt := 9) (show decode jk_bPC 1 = .ok (.ifCond .lt 8, 3) by decide +kernel) rfl (fun q => ?_) (fun _ => ?_)
  · exfalso
    rw [Int32.lt_iff_toInt_lt] at q
    have : (0 : Int32).toInt = 0 := rfl
    omega
  refine lv_iload_n (i := 0) hx hb (show decode jk_bPC 4 = .ok (.iload_n 0, 1) by decide +kernel) rfl (lv_at hl 0 rfl) ?_
  refine lv_iload_n (i := 1) hx hb (show decode jk_bPC 5 = .ok (.iload_n 1, 1) by decide +kernel) rfl (lv_at hl 1 rfl) ?_
  refine lv_icmp_lt hx hb (tgt := 16) (show decode jk_bPC 6 = .ok (.if_icmp .lt 10, 3) by decide +kernel) rfl (fun _ => ?_) (fun q => ?_)
  · refine lv_iload_n (i := 0) hx hb (show decode jk_bPC 16 = .ok (.iload_n 0, 1) by decide +kernel) rfl (lv_at hl 0 rfl) ?_
    exact W.iret hx hb B.returns (fun t ht hW => ⟨rfl, ht⟩) (fun q hq => by cases hq) (show decode jk_bPC 17 = .ok (.ireturn, 1) by decide +kernel) (hlocks := B.notSynchronized)
  · exfalso
    rw [Int32.lt_iff_toInt_lt] at q
    omega
set_option maxRecDepth 20000 in
/-- String.checkIndex -/
theorem jk_SC {i n : Int32} (h0 : 0 ≤ i.toInt) (h1 : i.toInt < n.toInt) : Met l jk_ySC (Cond.code jk_ySC jk_bSC 2 none :: mq_gw) ({ frames := 1, cells := 0, slots := 0, locals := 22 }) (jk_P A aU aK aV [.int i, .int n]) (jk_Q none) 0 0 (fun _ => False) := by
  refine Met.ofW (cc := jk_bSC) (maxL := 2) (ret := none) (by decide) rfl ?_
  intro p e s mid args below meth c s₁ B hml hp
  obtain ⟨rfl, hos⟩ := hp
  have hx := B.exec
  have hb := B.bytes
  have hts0 : ∀ w ∈ (Cond.code jk_ySC jk_bSC 2 none :: mq_gw), w.before _ s = true := atoms_spec (ws := Cond.code jk_ySC jk_bSC 2 none :: mq_gw) B.pre
  have hts : ∀ w ∈ mq_gw, w.before _ s = true := fun w hw => hts0 w (List.mem_cons_of_mem _ hw)
  have hown : s.vm.findClass "java/lang/String" = some mid.cls := findClass_of_methodNamed B.named
  have hl := lv_entry [.int i, .int n] (n := 2) (by simp [lg_sl, Value.category])
  rw [lg_entry_eq]
  generalize (lg_sl [Value.int i, .int n] ++ List.replicate (2 - (lg_sl [Value.int i, .int n]).length) Slot.unset).toArray = ls at hl
  refine lv_iload_n (i := 0) hx hb (show decode jk_bSC 0 = .ok (.iload_n 0, 1) by decide +kernel) rfl (lv_at hl 0 rfl) ?_
  refine lv_iload_n (i := 1) hx hb (show decode jk_bSC 1 = .ok (.iload_n 1, 1) by decide +kernel) rfl (lv_at hl 1 rfl) ?_
  have hz : ∃ v : Value, (v = .null ∨ ∃ t : Nat, v = .ref t) ∧ va_Z "jdk/internal/util/Preconditions" "SIOOBE_FORMATTER" "Ljava/util/function/BiFunction;" v A s s.heap := by
    rcases hos.2.2.2.2.2.2.2 with hZ | ⟨t, hZ⟩
    · exact ⟨_, Or.inl rfl, hZ⟩
    · exact ⟨_, Or.inr ⟨t, rfl⟩, hZ⟩
  obtain ⟨v, hv, hZ⟩ := hz
  refine va_gets hx hb hZ va_S.rf hown (hts _ jk_ffm) (fun _ z => z) (show decode jk_bSC 2 = .ok (.getstatic 1053, 3) by decide +kernel) ?_
  refine jk_go (v := some (.int i)) (va_runS (As := [.int i, .int n, v]) ⟨hx, hb, hml, hown, hts⟩ (jk_PC h0 h1 hv) ⟨callB_of 3 hts (jk_GI jk_cPC) rfl rfl rfl (hts _ jk_nPR) (hts _ jk_mPC) (by decide +kernel) ⟨by decide, by decide⟩, hts _ jk_sPC⟩ ⟨jk_blind A aU aK aV _, fun U hU hW => ⟨rfl, (by rw [hU]; exact hos.moved hW.alike)⟩⟩ rfl rfl hl.1 rfl (lv_room (by simp)) (show decode jk_bSC 5 = .ok (.invokestatic 1059, 3) by decide +kernel) ⟨by decide, by decide⟩) ?_
  refine lv_pop hx hb (show decode jk_bSC 8 = .ok (.pop, 1) by decide +kernel) rfl ?_
  exact W.vret hx hb B.returns (fun t ht hW => ⟨rfl, ht⟩) (fun q hq => by cases hq) (show decode jk_bSC 9 = .ok (.return_, 1) by decide +kernel) (hlocks := B.notSynchronized)
set_option maxRecDepth 20000 in
/-- StringLatin1.charAt -/
theorem jk_LC {i : Int32} (h0 : 0 ≤ i.toInt) (h1 : i.toInt < 174) : Met l jk_yLC (Cond.code jk_yLC jk_bLC 2 (some .char) :: mq_gw) ({ frames := 2, cells := 0, slots := 0, locals := 43 }) (jk_P A aU aK aV [.ref aV, .int i]) (jk_Q (some (.int (jk_w i.toNatClampNeg)))) 0 0 (fun _ => False) := by
  refine Met.ofW (cc := jk_bLC) (maxL := 2) (ret := some .char) (by decide) rfl ?_
  intro p e s mid args below meth c s₁ B hml hp
  obtain ⟨rfl, hos⟩ := hp
  have hx := B.exec
  have hb := B.bytes
  have hts0 : ∀ w ∈ (Cond.code jk_yLC jk_bLC 2 (some .char) :: mq_gw), w.before _ s = true := atoms_spec (ws := Cond.code jk_yLC jk_bLC 2 (some .char) :: mq_gw) B.pre
  have hts : ∀ w ∈ mq_gw, w.before _ s = true := fun w hw => hts0 w (List.mem_cons_of_mem _ hw)
  have hown : s.vm.findClass "java/lang/StringLatin1" = some mid.cls := findClass_of_methodNamed B.named
  have hl := lv_entry [.ref aV, .int i] (n := 2) (by simp [lg_sl, Value.category])
  rw [lg_entry_eq]
  generalize (lg_sl [Value.ref aV, .int i] ++ List.replicate (2 - (lg_sl [Value.ref aV, .int i]).length) Slot.unset).toArray = ls at hl
  have hcl : ((i.toNatClampNeg : Nat) : Int) = i.toInt := by show ((i.toInt.toNat : Nat) : Int) = i.toInt; omega
  obtain ⟨w1, w2, w3⟩ := jk_wok i.toNatClampNeg (by omega)
  refine lv_iload_n (i := 1) hx hb (show decode jk_bLC 0 = .ok (.iload_n 1, 1) by decide +kernel) rfl (lv_at hl 1 rfl) ?_
  refine lv_aload_n (i := 0) hx hb (show decode jk_bLC 1 = .ok (.aload_n 0, 1) by decide +kernel) rfl (lv_at hl 0 rfl) ?_
  refine va_tlen hx hb hos.2.2.2.2.2.1 va_S.rf (v := 174) rfl (show decode jk_bLC 2 = .ok (.arraylength, 1) by decide +kernel) ?_
  refine jk_go (v := none) (va_runS (As := [.int i, .int 174]) ⟨hx, hb, hml, hown, hts⟩ (jk_SC h0 (show i.toInt < (174 : Int32).toInt from h1)) ⟨callB_of 2 hts (jk_GI jk_cSC) rfl rfl rfl (hts _ jk_nST) (hts _ jk_mSC) (by decide +kernel) ⟨by decide, by decide⟩, hts _ jk_sSC⟩ ⟨jk_blind A aU aK aV _, fun U hU hW => ⟨rfl, (by rw [hU]; exact hos.moved hW.alike)⟩⟩ rfl rfl hl.1 rfl (lv_room (by simp)) (show decode jk_bLC 3 = .ok (.invokestatic 9, 3) by decide +kernel) ⟨by decide, by decide⟩) ?_
  refine lv_aload_n (i := 0) hx hb (show decode jk_bLC 6 = .ok (.aload_n 0, 1) by decide +kernel) rfl (lv_at hl 0 rfl) ?_
  refine lv_iload_n (i := 1) hx hb (show decode jk_bLC 7 = .ok (.iload_n 1, 1) by decide +kernel) rfl (lv_at hl 1 rfl) ?_
  refine va_tb hx hb hos.2.2.2.2.2.1 va_S.rf (jk_in h0 h1) rfl (show decode jk_bLC 8 = .ok (.baload, 1) by decide +kernel) ?_
  refine lv_sipush hx hb (v := 255) (show decode jk_bLC 9 = .ok (.sipush 255, 3) by decide +kernel) (by decide +kernel) ?_
  refine lv_iand hx hb (show decode jk_bLC 12 = .ok (.iand, 1) by decide +kernel) ?_
  refine lv_i2c hx hb (show decode jk_bLC 13 = .ok (.i2c, 1) by decide +kernel) w2 ?_
  exact W.zret hx hb B.returns w3 (fun t ht hW => ⟨rfl, ht⟩) (fun q hq => by cases hq) (show decode jk_bLC 14 = .ok (.ireturn, 1) by decide +kernel) (hlocks := B.notSynchronized)
set_option maxRecDepth 20000 in
/-- String.isLatin1 -/
theorem jk_IL : Met l jk_yIL (Cond.code jk_yIL jk_bIL 1 (some .boolean) :: mq_gw) ({ frames := 0, cells := 0, slots := 0, locals := 0 }) (jk_P A aU aK aV [.ref aK]) (jk_Q (some (.int 1))) 0 0 (fun _ => False) := by
  refine Met.ofW (cc := jk_bIL) (maxL := 1) (ret := some .boolean) (by decide) rfl ?_
  intro p e s mid args below meth c s₁ B hml hp
  obtain ⟨rfl, hos⟩ := hp
  have hx := B.exec
  have hb := B.bytes
  have hts0 : ∀ w ∈ (Cond.code jk_yIL jk_bIL 1 (some .boolean) :: mq_gw), w.before _ s = true := atoms_spec (ws := Cond.code jk_yIL jk_bIL 1 (some .boolean) :: mq_gw) B.pre
  have hts : ∀ w ∈ mq_gw, w.before _ s = true := fun w hw => hts0 w (List.mem_cons_of_mem _ hw)
  have hown : s.vm.findClass "java/lang/String" = some mid.cls := findClass_of_methodNamed B.named
  have hl := lv_entry [.ref aK] (n := 1) (by simp [lg_sl, Value.category])
  rw [lg_entry_eq]
  generalize (lg_sl [Value.ref aK] ++ List.replicate (1 - (lg_sl [Value.ref aK]).length) Slot.unset).toArray = ls at hl
  refine va_gets hx hb hos.2.2.2.2.2.2.1 va_S.rf hown (hts _ jk_fco) (fun _ z => z) (show decode jk_bIL 0 = .ok (.getstatic 38, 3) by decide +kernel) ?_
  refine lv_if_eq hx hb (tgt := 17) (show decode jk_bIL 3 = .ok (.ifCond .eq 14, 3) by decide +kernel) rfl (fun q => by cases q) (fun _ => ?_)
  refine lv_aload_n (i := 0) hx hb (show decode jk_bIL 6 = .ok (.aload_n 0, 1) by decide +kernel) rfl (lv_at hl 0 rfl) ?_
  refine vk_getf hx hb hos.2.2.2.1 va_S.rf hown (hts _ jk_fcd) (fun _ z => z) (show decode jk_bIL 7 = .ok (.getfield 15, 3) by decide +kernel) ?_
  refine lv_if_ne hx hb (tgt := 17) (show decode jk_bIL 10 = .ok (.ifCond .ne 7, 3) by decide +kernel) rfl (fun q => absurd rfl q) (fun _ => ?_)
  refine lv_iconst hx hb (v := 1) (show decode jk_bIL 13 = .ok (.iconst 1, 1) by decide +kernel) (by decide +kernel) ?_
  refine lv_goto hx hb (tgt := 18) (show decode jk_bIL 14 = .ok (.goto 4, 3) by decide +kernel) rfl ?_
  exact W.zret hx hb B.returns (by decide) (fun t ht hW => ⟨rfl, ht⟩) (fun q hq => by cases hq) (show decode jk_bIL 18 = .ok (.ireturn, 1) by decide +kernel) (hlocks := B.notSynchronized)
set_option maxRecDepth 20000 in
/-- String.charAt -/
theorem jk_CA {i : Int32} (h0 : 0 ≤ i.toInt) (h1 : i.toInt < 174) : Met l jk_yCA (Cond.code jk_yCA jk_bCA 2 (some .char) :: mq_gw) ({ frames := 3, cells := 0, slots := 0, locals := 64 }) (jk_P A aU aK aV [.ref aK, .int i]) (jk_Q (some (.int (jk_w i.toNatClampNeg)))) 0 0 (fun _ => False) := by
  refine Met.ofW (cc := jk_bCA) (maxL := 2) (ret := some .char) (by decide) rfl ?_
  intro p e s mid args below meth c s₁ B hml hp
  obtain ⟨rfl, hos⟩ := hp
  have hx := B.exec
  have hb := B.bytes
  have hts0 : ∀ w ∈ (Cond.code jk_yCA jk_bCA 2 (some .char) :: mq_gw), w.before _ s = true := atoms_spec (ws := Cond.code jk_yCA jk_bCA 2 (some .char) :: mq_gw) B.pre
  have hts : ∀ w ∈ mq_gw, w.before _ s = true := fun w hw => hts0 w (List.mem_cons_of_mem _ hw)
  have hown : s.vm.findClass "java/lang/String" = some mid.cls := findClass_of_methodNamed B.named
  have hl := lv_entry [.ref aK, .int i] (n := 2) (by simp [lg_sl, Value.category])
  rw [lg_entry_eq]
  generalize (lg_sl [Value.ref aK, .int i] ++ List.replicate (2 - (lg_sl [Value.ref aK, .int i]).length) Slot.unset).toArray = ls at hl
  have hcl : ((i.toNatClampNeg : Nat) : Int) = i.toInt := by show ((i.toInt.toNat : Nat) : Int) = i.toInt; omega
  obtain ⟨w1, w2, w3⟩ := jk_wok i.toNatClampNeg (by omega)
  obtain ⟨cellB, g1, g2, g3, -⟩ := id hos.2.2.1
  refine lv_aload_n (i := 0) hx hb (show decode jk_bCA 0 = .ok (.aload_n 0, 1) by decide +kernel) rfl (lv_at hl 0 rfl) ?_
  refine jk_go (v := some (.int 1)) (va_runV (C := "java/lang/String") (b := aK) (As := []) ⟨hx, hb, hml, hown, hts⟩ jk_IL ⟨callB_of 0 hts (jk_GI jk_cIL) rfl rfl rfl (hts _ jk_nST) (hts _ jk_mIL) (by decide +kernel) ⟨by decide, by decide⟩, hts _ jk_iIL, hts _ jk_lIL⟩ ⟨jk_blind A aU aK aV _, ⟨cellB, g1, g2, g3⟩, fun U hU hW => ⟨rfl, (by rw [hU]; exact hos.moved hW.alike)⟩⟩ rfl rfl hl.1 rfl (lv_room (by simp)) (show decode jk_bCA 1 = .ok (.invokevirtual 492, 3) by decide +kernel) ⟨by decide, by decide⟩) ?_
  refine lv_if_eq hx hb (tgt := 16) (show decode jk_bCA 4 = .ok (.ifCond .eq 12, 3) by decide +kernel) rfl (fun q => by cases q) (fun _ => ?_)
  refine lv_aload_n (i := 0) hx hb (show decode jk_bCA 7 = .ok (.aload_n 0, 1) by decide +kernel) rfl (lv_at hl 0 rfl) ?_
  refine vk_getf hx hb hos.2.2.2.2.1 va_S.rf hown (hts _ jk_fva) (fun _ z => z) (show decode jk_bCA 8 = .ok (.getfield 9, 3) by decide +kernel) ?_
  refine lv_iload_n (i := 1) hx hb (show decode jk_bCA 11 = .ok (.iload_n 1, 1) by decide +kernel) rfl (lv_at hl 1 rfl) ?_
  refine jk_go (v := some (.int (jk_w i.toNatClampNeg))) (va_runS (As := [.ref aV, .int i]) ⟨hx, hb, hml, hown, hts⟩ (jk_LC h0 h1) ⟨callB_of 2 hts (jk_GI jk_cLC) rfl rfl rfl (hts _ jk_nSL) (hts _ jk_mLC) (by decide +kernel) ⟨by decide, by decide⟩, hts _ jk_sLC⟩ ⟨jk_blind A aU aK aV _, fun U hU hW => ⟨rfl, (by rw [hU]; exact hos.moved hW.alike)⟩⟩ rfl rfl hl.1 rfl (lv_room (by simp)) (show decode jk_bCA 12 = .ok (.invokestatic 495, 3) by decide +kernel) ⟨by decide, by decide⟩) ?_
  exact W.zret hx hb B.returns w3 (fun t ht hW => ⟨rfl, ht⟩) (fun q hq => by cases hq) (show decode jk_bCA 15 = .ok (.ireturn, 1) by decide +kernel) (hlocks := B.notSynchronized)
end JK2
theorem jk_zU : Cond.laysStatic "RanOut" "UNIT_DAYS" "[I" ∈ lw_tbl := List.mem_of_getElem? (i := 765) (by decide +kernel)
theorem jk_nU : Cond.initialized "RanOut" ∈ lw_tbl := List.mem_of_getElem? (i := 108) (by decide +kernel)
theorem jk_zC : Cond.laysStatic "java/lang/String" "COMPACT_STRINGS" "Z" ∈ lw_tbl := List.mem_of_getElem? (i := 701) (by decide +kernel)
theorem jk_zF : Cond.laysStatic "jdk/internal/util/Preconditions" "SIOOBE_FORMATTER" "Ljava/util/function/BiFunction;" ∈ lw_tbl := List.mem_of_getElem? (i := 709) (by decide +kernel)
theorem jk_sR : Cond.stringRef "RanOut$Reader" 167 "term  long  stop  renew roll  from  when  days  monthsyears done  known due   child abroadwar   talks ask   pay   lettersuit  or    and   not   kind  sum   place year  ran   " ∈ lw_tbl := List.mem_of_getElem? (i := 691) (by decide +kernel)
theorem jk_fN : Cond.fieldLinkNest "RanOut$Reader" 95 "RanOut" "UNIT_DAYS" "[I" "RanOut" ∈ lw_tbl := List.mem_of_getElem? (i := 764) (by decide +kernel)
theorem jk_ca : Cond.castable "[I" "java/lang/Cloneable" ∈ lw_tbl := List.mem_of_getElem? (i := 810) (by decide +kernel)
theorem jk_sm : Cond.sameMethod "[I" "java/lang/Object" "clone" "()Ljava/lang/Object;" ∈ lw_tbl := List.mem_of_getElem? (i := 806) (by decide +kernel)
theorem jk_el0 : ((flatC (Jvm.Cond.and given_1 narrow_1)).drop 45).take 174 = (List.range 174).map (fun j => Cond.eq (.elem (.field (.string "RanOut$Reader" 167) "java/lang/String" "value" "[B") (.int (Int32.ofNat j))) (.int (jk_wb.getD j 0))) := by decide +kernel
theorem jk_els (j : Nat) (hj : j < jk_wn) : Cond.eq (.elem (.field (.string "RanOut$Reader" 167) "java/lang/String" "value" "[B") (.int (Int32.ofNat j))) (.int (jk_wb.getD j 0)) ∈ flatC (Jvm.Cond.and given_1 narrow_1) := by
  refine List.mem_of_mem_drop (List.mem_of_mem_take (l := (flatC (Jvm.Cond.and given_1 narrow_1)).drop 45) (i := 174) ?_)
  rw [jk_el0]
  exact List.mem_map.mpr ⟨j, List.mem_range.mpr hj, rfl⟩
