/-! WHAT THE TABLES OF CODE MUST KEEP, as a program decides it -/
def mq_gw : List Cond := lw_tbl.filter goodWord
def mq_nest : Cond → Bool
  | .methodLinkNest .. => true
  | _ => false
def mq_nw : List Cond := lw_tbl.filter mq_nest
def mq_hw (j : Nat) (w : Cond) : Bool := decide (lw_tbl[j]? = some w) && goodWord w
theorem mq_hw_in {j : Nat} {w : Cond} (h : mq_hw j w = true) : w ∈ mq_gw := by
  unfold mq_hw at h
  rw [Bool.and_eq_true, decide_eq_true_eq] at h
  exact List.mem_filter.mpr ⟨List.mem_of_getElem? h.1, h.2⟩
def mq_hn (j : Nat) (w : Cond) : Bool := decide (lw_tbl[j]? = some w) && mq_nest w
theorem mq_hn_in {j : Nat} {w : Cond} (h : mq_hn j w = true) : w ∈ mq_nw := by
  unfold mq_hn at h
  rw [Bool.and_eq_true, decide_eq_true_eq] at h
  exact List.mem_filter.mpr ⟨List.mem_of_getElem? h.1, h.2⟩
def mq_aty (a : Nat) : FieldType := match a with
  | 0 => .int
  | 1 => .byte
  | 2 => .boolean
  | _ => .long
def mq_ln (i : Instr) : Nat := match i with
  | .iload _ | .lload _ | .aload _ | .istore _ | .lstore _ | .astore _ | .bipush _ | .ldc _ | .newarray _ => 2
  | .sipush _ | .ldc_w _ | .ldc2_w _ | .iinc _ _ | .goto _ | .ifCond _ _ | .if_icmp _ _ | .ifnonnull _ | .getfield _ | .putfield _ | .getstatic _ | .checkcast _ | .new _ | .anewarray _ | .invokestatic _ | .invokespecial _ | .invokevirtual _ => 3
  | _ => 1
/-- a callee: its words are there, its room is within -/
def mq_okM (M : mq_M) : Bool := match M with
  | (y, _, _, ret, _, _, kd, ci, np, _, j2, j3, j4) => (mq_hw j4 (.initialized y.cls) && (decide (y.cls ≠ "java/lang/invoke/MethodHandle" ∧ y.cls ≠ "java/lang/invoke/VarHandle" ∧ (parseMethodDescriptor y.desc).map (fun d => d.parameters.length) = some np) && (decide (plainName y.cls = true) && (match kd with
    | 0 => mq_hw j2 (.static y)
    | 1 => mq_hw j2 (.instanceMethod y) && (mq_hw j3 (.selects y.cls y y) && (match mq_cl[ci]? with
      | some r => decide (r.1 = y.cls)
      | none => false))
    | 2 => mq_hw j2 (.instanceMethod y) && (decide (y.name = "<init>") && decide (ret = none))
    | _ => false))))
/-- its code is among the words -/
def mq_cod (M : mq_M) : Prop := Cond.code M.1 M.2.1 M.2.2.1 M.2.2.2.1 ∈ mq_gw
theorem mq_cod_of {j : Nat} {y : MethodName} {bs : ByteArray} {nL : Nat} {ret : Option FieldType} (h : lw_tbl[j]? = some (.code y bs nL ret)) : Cond.code y bs nL ret ∈ mq_gw := List.mem_filter.mpr ⟨List.mem_of_getElem? h, rfl⟩
def mq_okC (P : mq_P) (nM : Nat) (own : String) (fr lo a b i kd ci j : Nat) : Bool := Nat.blt a nM && (match P.1 a with
  | some (y2, _, nL2, _, fr2, lo2, kd2, ci2, np2, _, _, _, _) => Nat.beq kd2 kd && (Nat.beq np2 b && (Nat.ble (fr2 + 1) fr && (Nat.ble (8 + (nL2 + 11) + lo2) lo && ((Nat.beq ci2 ci || !(Nat.beq kd 1)) && (mq_hw j (.methodLink own i y2) || mq_hn j (.methodLinkNest own i y2 "RanOut"))))))
  | none => false)
def mq_okS (pc : Nat) : List Int → Bool
  | [] => true
  | o :: r => decide ((((pc : Int) + o).toNat : Int) = (pc : Int) + o) && mq_okS pc r
def mq_okX (P : mq_P) (nM : Nat) (y : MethodName) (nL : Nat) (ret : Option FieldType) (fr lo : Nat) (ins : Instr) (pc a b c : Nat) (k : Int32) (j : Nat) : Bool := match ins with
  | .iconst n => decide (Int32.ofInt n = k)
  | .bipush n => decide ((Int8.ofInt n).toInt32 = k)
  | .sipush n => decide ((Int16.ofInt n).toInt32 = k)
  | .ldc i => bif Nat.beq b 1 then decide (y.cls = "RanOut$Reader" ∧ i = jk_iW) else mq_hw j (.constant y.cls i k)
  | .getstatic i => decide (y.cls = "RanOut$Reader" ∧ i = jk_iU)
  | .checkcast i => mq_hw j (.classLink y.cls i "[I")
  | .ldc_w i => mq_hw j (.constant y.cls i k)
  | .ldc2_w i => mq_hw j (.constantLong y.cls i k.toInt64)
  | .lconst n => decide (Int64.ofNat (n : Nat) = k.toInt64)
  | .iload_n i => decide ((i : Nat) = a)
  | .iload i => decide (i = a)
  | .lload_n i => decide ((i : Nat) = a)
  | .lload i => decide (i = a)
  | .aload_n i => decide ((i : Nat) = a)
  | .aload i => decide (i = a)
  | .istore_n i => decide ((i : Nat) = a ∧ a < nL)
  | .istore i => decide (i = a ∧ a < nL)
  | .lstore_n i => decide ((i : Nat) = a ∧ a + 1 < nL)
  | .lstore i => decide (i = a ∧ a + 1 < nL)
  | .astore_n i => decide ((i : Nat) = a ∧ a < nL)
  | .astore i => decide (i = a ∧ a < nL)
  | .iinc i n => decide (i = a ∧ a < nL ∧ Int32.ofInt n = k)
  | .goto o => decide ((pc : Int) + o = (a : Int))
  | .ifCond _ o => decide ((pc : Int) + o = (a : Int))
  | .if_icmp _ o => decide ((pc : Int) + o = (a : Int))
  | .ifnonnull o => decide ((pc : Int) + o = (a : Int))
  | .tableswitch d lo' hi' offs => decide ((pc : Int) + d = (a : Int)) && (mq_okS pc offs.toList && decide (0 ≤ lo' ∧ hi' + 1 = lo' + (offs.toList.length : Int) ∧ lo' + (offs.toList.length : Int) < 2000))
  | .lookupswitch d ps => decide ((pc : Int) + d = (a : Int)) && (mq_okS pc (ps.toList.map (·.2)) && (ps.toList.all (fun q => decide ((Int32.ofInt q.1).toInt = q.1)) && (ps.toList.zip (ps.toList.drop 1)).all (fun (a, next) => a.1 < next.1)))
  | .getfield i => match mq_cl[a]? with
    | some r => Nat.blt b r.2.2 && (mq_hw j (.fieldLink y.cls i (r.2.1 b).1 (r.2.1 b).2.1 (r.2.1 b).2.2.1) && Nat.beq (mq_knd (mq_fty a b)) c)
    | none => false
  | .putfield i => match mq_cl[a]? with
    | some r => Nat.blt b r.2.2 && (mq_hw j (.fieldLink y.cls i (r.2.1 b).1 (r.2.1 b).2.1 (r.2.1 b).2.2.1) && (Nat.beq (mq_knd (mq_fty a b)) c && (!(r.2.1 b).2.2.2 || decide (y.name = "<init>" ∧ (r.2.1 b).1 = y.cls))))
    | none => false
  | .newarray t => decide (a < 4 ∧ newarray.typeOf t = mq_aty a)
  | .anewarray i => (Nat.beq a 4 && mq_hw j (.classLink y.cls i "RanOut$Law")) || (Nat.beq a 5 && mq_hw j (.classLink y.cls i "RanOut$Line"))
  | .new i => match mq_cl[a]? with
    | some r => mq_hw j (.classLink y.cls i r.1) && Nat.beq r.2.2 b
    | none => false
  | .aaload => decide (a = 4 ∨ a = 5)
  | .aastore => decide (a = 4 ∨ a = 5)
  | .invokestatic i => bif Nat.beq a 1000 then mq_hw j (.methodLink y.cls i arraycopyName) && (decide (b = 0 ∨ b = 2 ∨ b = 4 ∨ b = 5) && (Nat.ble 1 fr && Nat.ble 26 lo)) else (bif Nat.beq a 1002 then mq_hw j (.methodLink y.cls i Lib.Math.max.name) && (Nat.ble 1 fr && Nat.ble 21 lo) else (bif Nat.beq a 1003 then mq_hw j (.methodLink y.cls i Lib.Math.min.name) && (Nat.ble 1 fr && Nat.ble 21 lo) else mq_okC P nM y.cls fr lo a b i 0 c j))
  | .invokespecial i => bif Nat.beq a 1001 then mq_hw j (.methodLink y.cls i Lib.objectInit) && (Nat.ble 1 fr && Nat.ble 20 lo) else mq_okC P nM y.cls fr lo a b i 2 c j
  | .invokevirtual i => bif Nat.ble 1004 a then (bif Nat.beq a 1004 then decide (y.cls = "RanOut$Reader" ∧ i = jk_iC) && (Nat.ble 4 fr && Nat.ble 85 lo) else mq_hw j (.methodLink y.cls i ⟨"[I", "clone", "()Ljava/lang/Object;"⟩) && (Nat.ble 1 fr && Nat.ble 22 lo)) else mq_okC P nM y.cls fr lo a b i 1 c j
  | .ireturn => decide ((c = 1 ∧ ret = some .boolean) ∨ (¬ c = 1 ∧ ret = some .int))
  | .lreturn => decide (ret = some .long)
  | .areturn => match ret with
    | some (.object _) => true
    | some (.array _) => true
    | _ => false
  | .return_ => decide (ret = none)
  | _ => true
def mq_isSw (i : Instr) : Bool := match i with
  | .tableswitch .. => true
  | .lookupswitch .. => true
  | _ => false
def mq_okE (P : mq_P) (nM m pc : Nat) (e : mq_E) : Bool := match P.1 m with
  | none => false
  | some (y, bs, nL, ret, fr, lo, _) => match e with
    | (ins, nx, a, b, c, k, j) => (bif mq_isSw ins then decide (decode bs pc = .ok (ins, nx - pc)) else (decide (decode bs pc = .ok (ins, mq_ln ins)) && Nat.beq nx (pc + mq_ln ins))) && mq_okX P nM y nL ret fr lo ins pc a b c k j
