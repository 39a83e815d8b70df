/-! THE ABSTRACT MACHINE. A heap of numbered cells (0 .. 3: cells from outside; from 4 on those that the law makes, in their order), a step per instruction as data, a run. References: '.retAddr k' is a reference to cell k whose shape (and unchanging reference fields) the static table T knows; '.ref k' is any other reference to cell k. -/
abbrev mq_S : Type := Nat ⊕ (Nat × Nat)
abbrev mq_H : Type := Nat × Nat × (Nat → mq_S) × (Nat → Nat → Int32) × (Nat → Nat → Int64) × (Nat → Nat → Option Nat)
abbrev mq_L : Type := List (Option Value)
def mq_N (h : mq_H) : Nat := h.1
def mq_Z (h : mq_H) : Nat := h.2.1
def mq_sh (h : mq_H) (a : Nat) : mq_S := h.2.2.1 a
def mq_I (h : mq_H) (a k : Nat) : Int32 := h.2.2.2.1 a k
def mq_J (h : mq_H) (a k : Nat) : Int64 := h.2.2.2.2.1 a k
def mq_R (h : mq_H) (a k : Nat) : Option Nat := h.2.2.2.2.2 a k
def mq_setI (h : mq_H) (a k : Nat) (v : Int32) : mq_H := (h.1, h.2.1, h.2.2.1, (fun b j => if b = a then (if j = k then v else h.2.2.2.1 b j) else h.2.2.2.1 b j), h.2.2.2.2.1, h.2.2.2.2.2)
def mq_setJ (h : mq_H) (a k : Nat) (v : Int64) : mq_H := (h.1, h.2.1, h.2.2.1, h.2.2.2.1, (fun b j => if b = a then (if j = k then v else h.2.2.2.2.1 b j) else h.2.2.2.2.1 b j), h.2.2.2.2.2)
def mq_setR (h : mq_H) (a k : Nat) (v : Option Nat) : mq_H := (h.1, h.2.1, h.2.2.1, h.2.2.2.1, h.2.2.2.2.1, (fun b j => if b = a then (if j = k then v else h.2.2.2.2.2 b j) else h.2.2.2.2.2 b j))
/-- a new cell of a shape, its fields or elements 0 or null -/
def mq_new (h : mq_H) (sh : mq_S) (z : Nat) : mq_H := (h.1 + 1, h.2.1 + z, (fun b => if b = h.1 then sh else h.2.2.1 b), (fun b j => if b = h.1 then 0 else h.2.2.2.1 b j), (fun b j => if b = h.1 then 0 else h.2.2.2.2.1 b j), (fun b j => if b = h.1 then none else h.2.2.2.2.2 b j))
/-- n elements of the row a0 from sp on come into the row a1 from dp on -/
def mq_cpI (h : mq_H) (a0 a1 sp dp n : Nat) : mq_H := (h.1, h.2.1, h.2.2.1, (fun b j => if b = a1 then va_cpy (h.2.2.2.1 a0) (h.2.2.2.1 a1) sp dp n j else h.2.2.2.1 b j), h.2.2.2.2.1, h.2.2.2.2.2)
def mq_cpR (h : mq_H) (a0 a1 sp dp n : Nat) : mq_H := (h.1, h.2.1, h.2.2.1, h.2.2.2.1, h.2.2.2.2.1, (fun b j => if b = a1 then va_cpy (h.2.2.2.2.2 a0) (h.2.2.2.2.2 a1) sp dp n j else h.2.2.2.2.2 b j))
/-- an instruction with what it links: (instruction, next pc, a, b, c, constant, place of its word) -/
abbrev mq_E : Type := Instr × Nat × Nat × Nat × Nat × Int32 × Nat
/-- a method: name, bytes, locals, answer, frames, locals' room, kind (0 static, 1 instance, 2 constructor), class number, parameters, places of its words -/
abbrev mq_M : Type := MethodName × ByteArray × Nat × Option FieldType × Nat × Nat × Nat × Nat × Nat × Nat × Nat × Nat × Nat
abbrev mq_P : Type := (Nat → Option mq_M) × (Nat → Nat → Option mq_E)
abbrev mq_T : Type := (Nat → Option mq_S) × (Nat → Nat → Option Nat)
/-- what a step comes to: next (with what is still to be shown); branch; a reference or null; switch; call; return -/
abbrev mq_X : Type := (Option Bool × Nat × mq_L × List Value × mq_H) ⊕ ((Jvm.ClassFile.Cond × Int32 × Int32 × Nat × Nat × List Value) ⊕ ((Option Bool × Option Nat × Nat × List Value) ⊕ ((Int32 × List (Int32 × Nat) × Nat × List Value) ⊕ ((Option Bool × Nat × List Value × List Value × Nat) ⊕ (Option Bool × Option Value)))))
abbrev mq_gx (g : Option Bool) (pc : Nat) (L : mq_L) (st : List Value) (h : mq_H) : Option mq_X := some (.inl (g, pc, L, st, h))
abbrev mq_nx (pc : Nat) (L : mq_L) (st : List Value) (h : mq_H) : Option mq_X := some (.inl (none, pc, L, st, h))
abbrev mq_bx (o : Jvm.ClassFile.Cond) (x y : Int32) (t e : Nat) (st : List Value) : Option mq_X := some (.inr (.inl (o, x, y, t, e, st)))
abbrev mq_ox (g : Option Bool) (o : Option Nat) (pc : Nat) (st : List Value) : Option mq_X := some (.inr (.inr (.inl (g, o, pc, st))))
abbrev mq_sx (x : Int32) (l : List (Int32 × Nat)) (d : Nat) (st : List Value) : Option mq_X := some (.inr (.inr (.inr (.inl (x, l, d, st)))))
abbrev mq_cx (g : Option Bool) (m : Nat) (as st : List Value) (pc : Nat) : Option mq_X := some (.inr (.inr (.inr (.inr (.inl (g, m, as, st, pc))))))
abbrev mq_rx (g : Option Bool) (v : Option Value) : Option mq_X := some (.inr (.inr (.inr (.inr (.inr (g, v))))))
def mq_gB : Option Bool → Bool
  | none => true
  | some b => b
/-- two things to be shown -/
def mq_an : Option Bool → Bool → Option Bool
  | none, x => some x
  | some g, x => some (g && x)
def mq_inb (i : Int32) (n : Nat) : Bool := decide (0 ≤ i.toInt ∧ i.toInt < (n : Int))
def mq_bit (x : Int32) : Bool := decide (x = 0 ∨ x = 1)
def mq_isO (s : mq_S) (ci : Nat) : Bool := match s with
  | .inl c => Nat.beq c ci
  | .inr _ => false
/-- an array of the type, the index within -/
def mq_gA (s : mq_S) (ty : Nat) (i : Int32) : Bool := match s with
  | .inr (t, n) => Nat.beq t ty && mq_inb i n
  | .inl _ => false
def mq_isA (s : mq_S) : Bool := match s with
  | .inr (t, _) => Nat.ble t 9
  | .inl _ => false
def mq_al (s : mq_S) : Int32 := match s with
  | .inr (_, n) => nI n
  | .inl _ => 0
def mq_gC (s0 s1 : mq_S) (ty : Nat) (sp dp n : Int32) : Bool := match s0, s1 with
  | .inr (t0, n0), .inr (t1, n1) => Nat.beq t0 ty && (Nat.beq t1 ty && decide (0 ≤ sp.toInt ∧ 0 ≤ dp.toInt ∧ 0 ≤ n.toInt ∧ sp.toInt + n.toInt ≤ (n0 : Int) ∧ dp.toInt + n.toInt ≤ (n1 : Int)))
  | _, _ => false
def mq_cat : List Value → Nat
  | [] => 0
  | v :: r => v.category + mq_cat r
def mq_pop : Nat → List Value → List Value → Option (List Value × List Value)
  | 0, st, acc => some (acc, st)
  | n + 1, v :: r, acc => mq_pop n r (v :: acc)
  | _ + 1, [], _ => none
def mq_ld (L : mq_L) (a : Nat) : Option Value := match L[a]? with
  | some (some v) => some v
  | _ => none
def mq_sv (L : mq_L) (i : Nat) (v : Value) : mq_L := match L[i - 1]? with
  | some (some w) => bif Nat.beq w.category 2 then (L.set (i - 1) none).set i (some v) else L.set i (some v)
  | _ => L.set i (some v)
/-- address and shape of a reference -/
def mq_rf (T : mq_T) (h : mq_H) (v : Value) : Option (Nat × mq_S) := match v with
  | .retAddr a => match T.1 a with
    | some s => some (a, s)
    | none => none
  | .ref a => some (a, mq_sh h a)
  | _ => none
def mq_rv (v : Value) : Option (Option Nat) := match v with
  | .retAddr a => some (some a)
  | .ref a => some (some a)
  | .null => some none
  | _ => none
def mq_sw (ps : List (Int × Int)) (pc : Nat) : List (Int32 × Nat) := match ps with
  | [] => []
  | (a, o) :: r => (Int32.ofInt a, ((pc : Int) + o).toNat) :: mq_sw r pc
def mq_tsw (offs : List Int) (lo : Int) (pc : Nat) : List (Int32 × Nat) := match offs with
  | [] => []
  | o :: r => (Int32.ofInt lo, ((pc : Int) + o).toNat) :: mq_tsw r (lo + 1) pc
def mq_gf (T : mq_T) (h : mq_H) (v : Value) (ci k kind nx : Nat) (L : mq_L) (r : List Value) : Option mq_X := match v with
  | .retAddr a => match T.1 a with
    | some (.inl c) => bif Nat.beq c ci then (match kind with
      | 1 => mq_nx nx L (.long (mq_J h a k) :: r) h
      | 2 => match T.2 a k with
        | some b => mq_nx nx L (.retAddr b :: r) h
        | none => mq_ox none (mq_R h a k) nx r
      | _ => mq_nx nx L (.int (mq_I h a k) :: r) h) else none
    | _ => none
  | .ref a => match kind with
    | 1 => mq_gx (some (mq_isO (mq_sh h a) ci)) nx L (.long (mq_J h a k) :: r) h
    | 2 => mq_ox (some (mq_isO (mq_sh h a) ci)) (mq_R h a k) nx r
    | _ => mq_gx (some (mq_isO (mq_sh h a) ci)) nx L (.int (mq_I h a k) :: r) h
  | _ => none
/-- a reference to an object of class ci: its address, and what is still to be shown -/
def mq_ob (T : mq_T) (h : mq_H) (v : Value) (ci : Nat) : Option (Option Bool × Nat) := match v with
  | .retAddr a => match T.1 a with
    | some (.inl c) => bif Nat.beq c ci then some (none, a) else none
    | _ => none
  | .ref a => some (some (mq_isO (mq_sh h a) ci), a)
  | _ => none
def mq_ar (T : mq_T) (h : mq_H) (v : Value) (ty : Nat) (i : Int32) : Option (Bool × Nat) := match v with
  | .retAddr a => match T.1 a with
    | some (.inr (t, n)) => bif Nat.beq t ty then some (mq_inb i n, a) else none
    | _ => none
  | .ref a => some (mq_gA (mq_sh h a) ty i, a)
  | _ => none
/-- of a static reference to an array: its type -/
def mq_ty (T : mq_T) (v : Value) (d : Nat) : Nat := match v with
  | .retAddr a => match T.1 a with
    | some (.inr (t, _)) => t
    | _ => d
  | _ => d
/-- may the reference field k be written: it isn't one that T knows -/
def mq_wg (T : mq_T) (v : Value) (k : Nat) (g : Option Bool) : Option (Option Bool) := match v with
  | .retAddr a => match T.2 a k with
    | some _ => none
    | none => some g
  | .ref a => some (mq_an g (T.1 a).isNone)
  | _ => none
def mq_pf (T : mq_T) (h : mq_H) (x v : Value) (ci k kind nx : Nat) (L : mq_L) (r : List Value) : Option mq_X :=
  match mq_ob T h v ci with
  | none => none
  | some (g, a) => match kind with
    | 1 => match x with
      | .long y => mq_gx g nx L r (mq_setJ h a k y)
      | _ => none
    | 2 => match mq_rv x with
      | some o => match mq_wg T v k g with
        | some g2 => mq_gx g2 nx L r (mq_setR h a k o)
        | none => none
      | none => none
    | 3 => match x with
      | .int y => mq_gx (mq_an g (mq_bit y)) nx L r (mq_setI h a k y)
      | _ => none
    | _ => match x with
      | .int y => mq_gx g nx L r (mq_setI h a k y)
      | _ => none
/-- class of the elements of an array of references -/
def mq_el (ty : Nat) : Nat := bif Nat.beq ty 4 then 6 else 7
/-- the elements are null, or objects of the class -/
def mq_gE (h : mq_H) (a sp n ci : Nat) : Bool := (List.range n).all (fun i => match mq_R h a (sp + i) with
  | none => true
  | some b => mq_isO (mq_sh h b) ci)
def mq_copy (T : mq_T) (h : mq_H) (ty nx : Nat) (L : mq_L) (st : List Value) : Option mq_X := match st with
  | .int n :: .int dp :: dst :: .int sp :: src :: r => match mq_rf T h src with
    | none => none
    | some (a0, s0) => match mq_rf T h dst with
      | none => none
      | some (a1, s1) => bif Nat.ble (mq_cat r) 8 then (bif Nat.ble 4 ty then mq_gx (some (mq_gC s0 s1 ty sp dp n && ((!(Nat.beq a0 a1)) && mq_gE h a0 sp.toNatClampNeg n.toNatClampNeg (mq_el ty)))) nx L r (mq_cpR h a0 a1 sp.toNatClampNeg dp.toNatClampNeg n.toNatClampNeg)
        else mq_gx (some (mq_gC s0 s1 ty sp dp n && (!(Nat.beq a0 a1)))) nx L r (mq_cpI h a0 a1 sp.toNatClampNeg dp.toNatClampNeg n.toNatClampNeg)) else none
  | _ => none
def mq_cr (o : Jvm.ClassFile.Cond) (t nx : Nat) (st : List Value) : Option mq_X := match st with
  | .int y :: .int x :: r => mq_bx o x y t nx r
  | _ => none
def mq_c0 (o : Jvm.ClassFile.Cond) (t nx : Nat) (st : List Value) : Option mq_X := match st with
  | .int x :: r => mq_bx o x 0 t nx r
  | _ => none
def mq_ldI (a nx : Nat) (L : mq_L) (st : List Value) (h : mq_H) : Option mq_X := match mq_ld L a with
  | some (.int x) => mq_nx nx L (.int x :: st) h
  | _ => none
def mq_ldJ (a nx : Nat) (L : mq_L) (st : List Value) (h : mq_H) : Option mq_X := match mq_ld L a with
  | some (.long x) => mq_nx nx L (.long x :: st) h
  | _ => none
def mq_ldA (a nx : Nat) (L : mq_L) (st : List Value) (h : mq_H) : Option mq_X := match mq_ld L a with
  | some (.ref x) => mq_nx nx L (.ref x :: st) h
  | some (.retAddr x) => mq_nx nx L (.retAddr x :: st) h
  | some .null => mq_nx nx L (.null :: st) h
  | _ => none
def mq_stI (a nx : Nat) (L : mq_L) (st : List Value) (h : mq_H) : Option mq_X := match st with
  | .int x :: r => mq_nx nx (mq_sv L a (.int x)) r h
  | _ => none
def mq_stJ (a nx : Nat) (L : mq_L) (st : List Value) (h : mq_H) : Option mq_X := match st with
  | .long x :: r => mq_nx nx ((mq_sv L a (.long x)).set (a + 1) none) r h
  | _ => none
def mq_stA (a nx : Nat) (L : mq_L) (st : List Value) (h : mq_H) : Option mq_X := match st with
  | .ref x :: r => mq_nx nx (mq_sv L a (.ref x)) r h
  | .retAddr x :: r => mq_nx nx (mq_sv L a (.retAddr x)) r h
  | .null :: r => mq_nx nx (mq_sv L a .null) r h
  | _ => none
/-- a call: a the method, b its parameters, c its class; static, constructor, instance -/
def mq_ivS (a b nx : Nat) (st : List Value) : Option mq_X := match mq_pop b st [] with
  | some (as, r) => bif Nat.ble (mq_cat r) 8 then mq_cx none a as r nx else none
  | none => none
def mq_ivI (a b nx : Nat) (st : List Value) : Option mq_X := match mq_pop b st [] with
  | some (as, .ref q :: r) => bif Nat.ble (mq_cat r) 8 then mq_cx none a (.ref q :: as) r nx else none
  | some (as, .retAddr q :: r) => bif Nat.ble (mq_cat r) 8 then mq_cx none a (.retAddr q :: as) r nx else none
  | _ => none
def mq_ivV (T : mq_T) (h : mq_H) (a b c nx : Nat) (st : List Value) : Option mq_X := match mq_pop b st [] with
  | some (as, v :: r) => match mq_ob T h v c with
    | some (g, _) => bif Nat.ble (mq_cat r) 8 then mq_cx g a (v :: as) r nx else none
    | none => none
  | _ => none
/-- Math.max, Math.min -/
def mq_mx (nx : Nat) (L : mq_L) (st : List Value) (h : mq_H) : Option mq_X := match st with
  | .int y :: .int x :: r => bif Nat.ble (mq_cat r) 8 then mq_nx nx L (.int (if x < y then y else x) :: r) h else none
  | _ => none
def mq_mi (nx : Nat) (L : mq_L) (st : List Value) (h : mq_H) : Option mq_X := match st with
  | .int y :: .int x :: r => bif Nat.ble (mq_cat r) 8 then mq_nx nx L (.int (if y < x then y else x) :: r) h else none
  | _ => none
/-- the row UNIT_DAYS -/
def mq_isU (v : Value) : Bool := match v with
  | .retAddr k => Nat.beq k 1
  | _ => false
/-- String.charAt of the constant -/
def mq_chr (nx : Nat) (L : mq_L) (st : List Value) (h : mq_H) : Option mq_X := match st with
  | .int i :: .retAddr k :: r => bif Nat.beq k 2 && Nat.ble (mq_cat r) 8 then mq_gx (some (mq_inb i jk_wn)) nx L (.int (jk_w i.toNatClampNeg) :: r) h else none
  | _ => none
/-- clone of a static row of ints -/
def mq_cln (T : mq_T) (nx : Nat) (L : mq_L) (st : List Value) (h : mq_H) : Option mq_X := match st with
  | .retAddr a :: r => match T.1 a with
    | some (.inr (0, n)) => bif Nat.ble (mq_cat r) 8 then mq_nx nx L (.ref (mq_N h) :: r) (mq_cpI (mq_new h (.inr (0, n)) n) a (mq_N h) 0 0 n) else none
    | _ => none
  | _ => none
/-- a row of ints -/
def mq_s0 (s : mq_S) : Bool := match s with
  | .inr (0, _) => true
  | _ => false
/-- ONE STEP -/
def mq_step (T : mq_T) (ins : Instr) (pc nx a b c : Nat) (k : Int32) (L : mq_L) (st : List Value) (h : mq_H) : Option mq_X := match ins with
  | .iconst _ => mq_nx nx L (.int k :: st) h
  | .bipush _ => mq_nx nx L (.int k :: st) h
  | .sipush _ => mq_nx nx L (.int k :: st) h
  | .ldc _ => bif Nat.beq b 1 then mq_nx nx L (.retAddr 2 :: st) h else mq_nx nx L (.int k :: st) h
  | .ldc_w _ => mq_nx nx L (.int k :: st) h
  | .ldc2_w _ => mq_nx nx L (.long k.toInt64 :: st) h
  | .lconst _ => mq_nx nx L (.long k.toInt64 :: st) h
  | .aconst_null => mq_nx nx L (.null :: st) h
  | .iload_n _ => mq_ldI a nx L st h
  | .iload _ => mq_ldI a nx L st h
  | .lload_n _ => mq_ldJ a nx L st h
  | .lload _ => mq_ldJ a nx L st h
  | .aload_n _ => mq_ldA a nx L st h
  | .aload _ => mq_ldA a nx L st h
  | .istore_n _ => mq_stI a nx L st h
  | .istore _ => mq_stI a nx L st h
  | .lstore_n _ => mq_stJ a nx L st h
  | .lstore _ => mq_stJ a nx L st h
  | .astore_n _ => mq_stA a nx L st h
  | .astore _ => mq_stA a nx L st h
  | .iinc _ _ => match mq_ld L a with
    | some (.int x) => mq_nx nx (mq_sv L a (.int (x + k))) st h
    | _ => none
  | .iadd => match st with
    | .int y :: .int x :: r => mq_nx nx L (.int (x + y) :: r) h
    | _ => none
  | .isub => match st with
    | .int y :: .int x :: r => mq_nx nx L (.int (x - y) :: r) h
    | _ => none
  | .imul => match st with
    | .int y :: .int x :: r => mq_nx nx L (.int (x * y) :: r) h
    | _ => none
  | .iand => match st with
    | .int y :: .int x :: r => mq_nx nx L (.int (x &&& y) :: r) h
    | _ => none
  | .ior => match st with
    | .int y :: .int x :: r => mq_nx nx L (.int (x ||| y) :: r) h
    | _ => none
  | .ixor => match st with
    | .int y :: .int x :: r => mq_nx nx L (.int (x ^^^ y) :: r) h
    | _ => none
  | .ishl => match st with
    | .int y :: .int x :: r => mq_nx nx L (.int (x <<< (y &&& 31)) :: r) h
    | _ => none
  | .ishr => match st with
    | .int y :: .int x :: r => mq_nx nx L (.int (x >>> (y &&& 31)) :: r) h
    | _ => none
  | .iushr => match st with
    | .int y :: .int x :: r => mq_nx nx L (.int ((x.toUInt32 >>> (y.toUInt32 &&& Int32.toUInt32 31)).toInt32) :: r) h
    | _ => none
  | .idiv => match st with
    | .int y :: .int x :: r => mq_gx (some (decide (¬ y = 0))) nx L (.int (x / y) :: r) h
    | _ => none
  | .irem => match st with
    | .int y :: .int x :: r => mq_gx (some (decide (¬ y = 0))) nx L (.int (x - x / y * y) :: r) h
    | _ => none
  | .ineg => match st with
    | .int x :: r => mq_nx nx L (.int (-x) :: r) h
    | _ => none
  | .i2b => match st with
    | .int x :: r => mq_nx nx L (.int x.toInt8.toInt32 :: r) h
    | _ => none
  | .i2c => match st with
    | .int x :: r => mq_nx nx L (.int (x.toUInt32 % 65536).toInt32 :: r) h
    | _ => none
  | .l2i => match st with
    | .long x :: r => mq_nx nx L (.int x.toInt32 :: r) h
    | _ => none
  | .land => match st with
    | .long y :: .long x :: r => mq_nx nx L (.long (x &&& y) :: r) h
    | _ => none
  | .lor => match st with
    | .long y :: .long x :: r => mq_nx nx L (.long (x ||| y) :: r) h
    | _ => none
  | .lushr => match st with
    | .int y :: .long x :: r => mq_nx nx L (.long (x.toUInt64 >>> (y.toInt64.toUInt64 &&& Int64.toUInt64 63)).toInt64 :: r) h
    | _ => none
  | .lshl => match st with
    | .int y :: .long x :: r => mq_nx nx L (.long (x <<< (y.toInt64 &&& 63)) :: r) h
    | _ => none
  | .lcmp => match st with
    | .long y :: .long x :: r => mq_nx nx L (.int (lg_cmp x y) :: r) h
    | _ => none
  | .dup => match st with
    | v :: r => bif Nat.beq v.category 1 then mq_nx nx L (v :: v :: r) h else none
    | _ => none
  | .dup2 => match st with
    | v :: w :: r => bif Nat.beq v.category 1 then (bif Nat.beq w.category 1 then mq_nx nx L (v :: w :: v :: w :: r) h else none) else none
    | _ => none
  | .pop => match st with
    | v :: r => bif Nat.beq v.category 1 then mq_nx nx L r h else none
    | _ => none
  | .goto _ => mq_nx a L st h
  | .ifCond o _ => mq_c0 o a nx st
  | .if_icmp o _ => mq_cr o a nx st
  | .ifnonnull _ => match st with
    | .ref _ :: r => mq_nx a L r h
    | .retAddr _ :: r => mq_nx a L r h
    | .null :: r => mq_nx nx L r h
    | _ => none
  | .tableswitch _ lo _ offs => match st with
    | .int x :: r => mq_sx x (mq_tsw offs.toList lo pc) a r
    | _ => none
  | .lookupswitch _ ps => match st with
    | .int x :: r => mq_sx x (mq_sw ps.toList pc) a r
    | _ => none
  | .getfield _ => match st with
    | v :: r => mq_gf T h v a b c nx L r
    | _ => none
  | .putfield _ => match st with
    | x :: v :: r => mq_pf T h x v a b c nx L r
    | _ => none
  | .iaload => match st with
    | .int i :: v :: r => bif mq_isU v then mq_gx (some (mq_inb i 3)) nx L (.int (jk_ud i.toNatClampNeg) :: r) h else match mq_ar T h v (mq_ty T v 0) i with
      | some (g, q) => bif (Nat.beq (mq_ty T v 0) 0 || Nat.beq (mq_ty T v 0) 9) then mq_gx (some g) nx L (.int (mq_I h q i.toNatClampNeg) :: r) h else none
      | none => none
    | _ => none
  | .baload => match st with
    | .int i :: v :: r => match mq_ar T h v (mq_ty T v 1) i with
      | some (g, q) => bif (Nat.beq (mq_ty T v 1) 1 || Nat.beq (mq_ty T v 1) 2) then mq_gx (some g) nx L (.int (mq_I h q i.toNatClampNeg) :: r) h else none
      | none => none
    | _ => none
  | .laload => match st with
    | .int i :: v :: r => match mq_ar T h v 3 i with
      | some (g, q) => mq_gx (some g) nx L (.long (mq_J h q i.toNatClampNeg) :: r) h
      | none => none
    | _ => none
  | .aaload => match st with
    | .int i :: v :: r => match mq_ar T h v a i with
      | some (g, q) => mq_ox (some g) (mq_R h q i.toNatClampNeg) nx r
      | none => none
    | _ => none
  | .iastore => match st with
    | .int x :: .int i :: v :: r => match mq_ar T h v 0 i with
      | some (g, q) => mq_gx (some g) nx L r (mq_setI h q i.toNatClampNeg x)
      | none => none
    | _ => none
  | .bastore => match st with
    | .int x :: .int i :: v :: r => match mq_ar T h v (mq_ty T v 1) i with
      | some (g, q) => bif Nat.beq (mq_ty T v 1) 1 then mq_gx (some g) nx L r (mq_setI h q i.toNatClampNeg x.toInt8.toInt32) else (bif Nat.beq (mq_ty T v 1) 2 then mq_gx (some (g && mq_bit x)) nx L r (mq_setI h q i.toNatClampNeg x) else none)
      | none => none
    | _ => none
  | .lastore => match st with
    | .long x :: .int i :: v :: r => match mq_ar T h v 3 i with
      | some (g, q) => mq_gx (some g) nx L r (mq_setJ h q i.toNatClampNeg x)
      | none => none
    | _ => none
  | .aastore => match st with
    | x :: .int i :: v :: r => match mq_ar T h v a i with
      | some (g, q) => match mq_ob T h x (mq_el a) with
        | some (g2, y) => mq_gx (mq_an g2 g) nx L r (mq_setR h q i.toNatClampNeg (some y))
        | none => none
      | none => none
    | _ => none
  | .arraylength => match st with
    | v :: r => match mq_rf T h v with
      | some (_, s) => mq_gx (some (mq_isA s)) nx L (.int (mq_al s) :: r) h
      | none => none
    | _ => none
  | .newarray _ => match st with
    | .int n :: r => mq_gx (some (mq_inb n 100000)) nx L (.ref (mq_N h) :: r) (mq_new h (.inr (a, n.toNatClampNeg)) n.toNatClampNeg)
    | _ => none
  | .anewarray _ => match st with
    | .int n :: r => mq_gx (some (mq_inb n 100000)) nx L (.ref (mq_N h) :: r) (mq_new h (.inr (a, n.toNatClampNeg)) n.toNatClampNeg)
    | _ => none
  | .new _ => mq_nx nx L (.ref (mq_N h) :: st) (mq_new h (.inl a) b)
  | .getstatic _ => mq_nx nx L (.retAddr 1 :: st) h
  | .checkcast _ => match st with
    | .ref x :: r => mq_gx (some (mq_s0 (mq_sh h x))) nx L (.ref x :: r) h
    | _ => none
  | .invokestatic _ => bif Nat.beq a 1000 then mq_copy T h b nx L st else (bif Nat.beq a 1002 then mq_mx nx L st h else (bif Nat.beq a 1003 then mq_mi nx L st h else mq_ivS a b nx st))
  | .invokespecial _ => bif Nat.beq a 1001 then (match st with
    | .ref _ :: r => bif Nat.ble (mq_cat r) 8 then mq_nx nx L r h else none
    | _ => none) else mq_ivI a b nx st
  | .invokevirtual _ => bif Nat.ble 1004 a then (bif Nat.beq a 1004 then mq_chr nx L st h else mq_cln T nx L st h) else mq_ivV T h a b c nx st
  | .ireturn => match st with
    | [.int x] => (bif Nat.beq c 1 then mq_rx (some (mq_bit x)) (some (.int x)) else mq_rx none (some (.int x)))
    | _ => none
  | .lreturn => match st with
    | [.long x] => mq_rx none (some (.long x))
    | _ => none
  | .areturn => match st with
    | [.ref x] => mq_rx none (some (.ref x))
    | [.retAddr x] => mq_rx none (some (.retAddr x))
    | [.null] => mq_rx none (some .null)
    | _ => none
  | .return_ => match st with
    | [] => mq_rx none none
    | _ => none
  | _ => none
/-- the locals of a call -/
def mq_en : List Value → Nat → mq_L
  | [], n => List.replicate n none
  | v :: r, n => bif Nat.beq v.category 2 then some v :: none :: mq_en r (n - 2) else some v :: mq_en r (n - 1)
def mq_cmp (o : Jvm.ClassFile.Cond) (x y : Int32) : Bool := match o with
  | .eq => decide (x = y)
  | .ne => decide (¬ x = y)
  | .lt => decide (x < y)
  | .ge => decide (y ≤ x)
  | .gt => decide (y < x)
  | .le => decide (x ≤ y)
def mq_pv (o : Option Nat) : Value := match o with
  | some b => .ref b
  | none => .null
def mq_find (x : Int32) : List (Int32 × Nat) → Nat → Nat
  | [], d => d
  | (a, t) :: r, d => bif decide (x = a) then t else mq_find x r d
def mq_args (P : mq_P) (m : Nat) (as : List Value) : Option mq_L := match P.1 m with
  | some (_, _, n, _) => bif Nat.ble (mq_cat as) n then some (mq_en as n) else none
  | none => none
def mq_tl (v : Option Value) (r : List Value) : List Value := match v with
  | some x => x :: r
  | none => r
/-- what a step's end comes to, the rest by 'rn' -/
def mq_af (P : mq_P) (rn : Nat → Nat → mq_L → List Value → mq_H → Option (Option Value × mq_H)) (m : Nat) (L : mq_L) (h : mq_H) : Option mq_X → Option (Option Value × mq_H)
  | none => none
  | some (.inl (g, pc', L', st', h')) => bif mq_gB g then rn m pc' L' st' h' else none
  | some (.inr (.inl (o, x, y, t, e, st'))) => rn m (bif mq_cmp o x y then t else e) L st' h
  | some (.inr (.inr (.inl (g, o, pc', st')))) => bif mq_gB g then rn m pc' L (mq_pv o :: st') h else none
  | some (.inr (.inr (.inr (.inl (x, l, d, st'))))) => rn m (mq_find x l d) L st' h
  | some (.inr (.inr (.inr (.inr (.inl (g, m', as, st', pc')))))) => bif mq_gB g then (match mq_args P m' as with
    | none => none
    | some L' => match rn m' 0 L' [] h with
      | some (v, h') => rn m pc' L (mq_tl v st') h'
      | none => none) else none
  | some (.inr (.inr (.inr (.inr (.inr (g, v)))))) => bif mq_gB g then some (v, h) else none
/-- A RUN, from a place of a method to its return -/
def mq_body (P : mq_P) (T : mq_T) (rn : Nat → Nat → mq_L → List Value → mq_H → Option (Option Value × mq_H)) (m pc : Nat) (L : mq_L) (st : List Value) (h : mq_H) : Option (Option Value × mq_H) := match P.2 m pc with
  | none => none
  | some (ins, nx, a, b, c, k, _) => mq_af P rn m L h (mq_step T ins pc nx a b c k L st h)
def mq_run (P : mq_P) (T : mq_T) : Nat → Nat → Nat → mq_L → List Value → mq_H → Option (Option Value × mq_H)
  | 0 => fun _ _ _ _ _ => none
  | f + 1 => mq_body P T (mq_run P T f)
