/-! THE CHECKER, 11: contracts, calls, loops; the checker itself -/
abbrev ck_Ps : Type := Nat × Nat × Int × Int
/-- a contract: parameters (1 an int from, to; 3 a static cell; 4 a long; 5 a reference of a sort), answer (0 none, 1 an int from, to, 2 a long), places written -/
abbrev ck_T : Type := List ck_Ps × (Nat × Int × Int) × Nat
def ck_pv (h : mq_H) (p : ck_Ps) (v : Value) : Prop := match p.1 with
  | 1 => ∃ x : Int32, v = .int x ∧ p.2.2.1 ≤ x.toInt ∧ x.toInt ≤ p.2.2.2
  | 3 => v = .retAddr p.2.1
  | 4 => ∃ x, v = .long x
  | 5 => ∃ q, v = .ref q ∧ ck_P p.2.2.1 h q
  | _ => False
def ck_pvs (h : mq_H) : List ck_Ps → List Value → Prop
  | [], [] => True
  | p :: P, v :: V => ck_pv h p v ∧ ck_pvs h P V
  | _, _ => False
def ck_rv (t : Nat × Int × Int) (v : Option Value) : Prop := match t.1 with
  | 0 => v = none
  | 1 => ∃ x : Int32, v = some (.int x) ∧ t.2.1 ≤ x.toInt ∧ x.toInt ≤ t.2.2
  | 2 => ∃ x, v = some (.long x)
  | _ => False
def ck_V (X : mq_H → Prop) (lL m : Nat) (C : ck_T) : Prop := ∀ h as, ck_Iv X h → ck_pvs h C.1 as → mq_Call mq_G (mq_tT lL) m as h (fun v h' => ck_Iv X h' ∧ ck_md C.2.2 h h' ∧ ck_rv C.2.1 v)
/-- an argument fits -/
def ck_fp (Z : ck_Z) (v : ck_A) (p : ck_Ps) : Bool := match p.1 with
  | 1 => ck_isI v && (decide (p.2.2.1 ≤ ck_l Z v) && decide (ck_u Z v ≤ p.2.2.2))
  | 3 => Nat.beq v.1 3 && Nat.beq v.2.1 p.2.1
  | 4 => Nat.beq v.1 4
  | 5 => Nat.beq v.1 5 && ck_ie v.2.2 p.2.2.1
  | _ => false
def ck_fps (Z : ck_Z) : List ck_A → List ck_Ps → Bool
  | [], [] => true
  | v :: A, p :: P => ck_fp Z v p && ck_fps Z A P
  | _, _ => false
def ck_pop : Nat → List ck_A → List ck_A → Option (List ck_A × List ck_A)
  | 0, st, acc => some (acc, st)
  | n + 1, v :: r, acc => ck_pop n r (v :: acc)
  | _ + 1, [], _ => none
def ck_cat (r : List ck_A) : Nat := r.foldr (fun v n => ck_ct v + n) 0
/-- the arguments of a call, and what lies below -/
def ck_cl (ins : Instr) (a b c : Nat) (st : List ck_A) : Option (List ck_A × List ck_A) := bif Nat.ble 1000 a then none else (match ins with
  | .invokestatic _ => match ck_pop b st [] with
    | some (P, R) => bif Nat.ble (ck_cat R) 8 then some (P, R) else none
    | none => none
  | .invokespecial _ => match ck_pop b st [] with
    | some (P, v :: R) => bif Nat.beq v.1 3 && Nat.ble (ck_cat R) 8 then some (v :: P, R) else none
    | _ => none
  | .invokevirtual _ => match ck_pop b st [] with
    | some (P, v :: R) => bif Nat.beq v.1 3 && Nat.ble (ck_cat R) 8 then (match mq_tS1 v.2.1 with
      | some (.inl ci) => bif Nat.beq ci c then some (v :: P, R) else none
      | _ => none) else none
    | _ => none
  | _ => none)
def ck_en : List ck_A → Nat → List ck_A
  | [], n => List.replicate n (0, 0, 0)
  | v :: r, n => bif Nat.beq v.1 4 then v :: (0, 0, 0) :: ck_en r (n - 2) else v :: ck_en r (n - 1)
/-- places that M names -/
def ck_km (M : Nat) (k : ck_K) : Bool := (Nat.beq k.1 0 && Nat.testBit M (ck_lc k.2.1 k.2.2.2.1)) || (Nat.beq k.1 1 && (Nat.beq (ck_lca k.2.1) 0 || Nat.testBit M (ck_lca k.2.1)))
/-- a loop's head: what changes (0 an int of the locals, 1 a long, 2 forgotten; 3 a field), places written in it, differences, what rises or falls -/
abbrev ck_It : Type := Nat × Nat × Nat × Int × Int
abbrev ck_Lr : Type := Nat × Nat × Nat
abbrev ck_B : Type := List ck_It × Nat × List (ck_Lr × ck_Lr × Int) × ck_Lr × Bool
/-- a loop that is gone through: its head; symbols, locals, stack, places at its entry; annotation -/
abbrev ck_C : Type := Nat × Nat × List ck_A × List ck_A × ck_Hs × ck_B
abbrev ck_F : Type := List (Nat × Nat × List ck_A × List ck_A × List ck_C)
def ck_hv : List ck_It → Nat → List ck_A → ck_Hs → Nat × List ck_A × ck_Fs × ck_Hs
  | [], n, A, H => (n, A, [], H)
  | (0, i, _, l, u) :: r, n, A, H => match ck_hv r (n + 1) (A.set i (1, n, 0)) H with
    | (n', A', F', H') => (n', A', (n, l, u) :: F', H')
  | (1, i, _, _, _) :: r, n, A, H => ck_hv r (n + 1) (A.set i (4, n, 0)) H
  | (2, i, _, _, _) :: r, n, A, H => ck_hv r n (A.set i (0, 0, 0)) H
  | (_, a, k, l, u) :: r, n, A, H => match ck_hv r (n + 1) A (((0, a, (0, k, 0)), (1, n, 0)) :: H.filter (fun q => !(ck_ke q.1 (0, a, (0, k, 0))))) with
    | (n', A', F', H') => (n', A', (n, l, u) :: F', H')
def ck_lv (q : ck_Lr) (A : List ck_A) (H : ck_Hs) : Option ck_A := bif Nat.beq q.1 0 then A[q.2.1]? else ck_get H (0, q.2.1, (0, q.2.2, 0))
def ck_sy (o : Option ck_A) : Option Nat := match o with
  | some v => bif Nat.beq v.1 1 && ck_ie v.2.2 0 then some v.2.1 else none
  | none => none
def ck_dn : List (ck_Lr × ck_Lr × Int) → List ck_A → ck_Hs → Option ck_Ds
  | [], _, _ => some []
  | (x, y, c) :: r, A, H => match ck_sy (ck_lv x A H), ck_sy (ck_lv y A H), ck_dn r A H with
    | some s, some t, some D => some ((s, t, c) :: D)
    | _, _, _ => none
/-- the fields that the head names are known -/
def ck_mk : List ck_It → ck_Z → Option ck_Z
  | [], Z => some Z
  | (k0, a, k, _, _) :: r, Z => bif Nat.ble k0 2 then ck_mk r Z else (match ck_get Z.2.2.2.2 (0, a, (0, k, 0)) with
    | some _ => ck_mk r Z
    | none => match ck_ivo a k with
      | some (l, u) => ck_mk r (ck_hp (0, a, (0, k, 0)) (1, Z.1, 0) (ck_nw Z l u))
      | none => none)
def ck_fi (Z : ck_Z) (A : List ck_A) (q : ck_It) : Bool := match q.1 with
  | 0 => match A[q.2.1]? with
    | some v => ck_isI v && (decide (q.2.2.2.1 ≤ ck_l Z v) && decide (ck_u Z v ≤ q.2.2.2.2))
    | none => false
  | 1 => match A[q.2.1]? with
    | some v => Nat.beq v.1 4
    | none => false
  | 2 => true
  | _ => match ck_get Z.2.2.2.2 (0, q.2.1, (0, q.2.2.1, 0)) with
    | some v => ck_isI v && (decide (q.2.2.2.1 ≤ ck_l Z v) && decide (ck_u Z v ≤ q.2.2.2.2))
    | none => false
def ck_fd (Z : ck_Z) (A : List ck_A) (q : ck_Lr × ck_Lr × Int) : Bool := match ck_lv q.1 A Z.2.2.2.2, ck_lv q.2.1 A Z.2.2.2.2 with
  | some v, some w => ck_isI v && (ck_isI w && ck_le Z v w q.2.2)
  | _, _ => false
/-- the state fits the loop's head -/
def ck_ft (Z : ck_Z) (A : List ck_A) (B : ck_B) : Bool := B.1.all (ck_fi Z A) && B.2.2.1.all (ck_fd Z A)
def ck_smL (its : List ck_It) : Nat → List ck_A → List ck_A → Bool
  | _, [], [] => true
  | i, a :: A, b :: B => (ck_ae a b || its.any (fun q => Nat.ble q.1 2 && Nat.beq q.2.1 i)) && ck_smL its (i + 1) A B
  | _, _, _ => false
def ck_smS : List ck_A → List ck_A → Bool
  | [], [] => true
  | a :: A, b :: B => ck_ae a b && ck_smS A B
  | _, _ => false
def ck_hit (its : List ck_It) (k : ck_K) : Bool := its.any (fun q => Nat.ble 3 q.1 && ck_ke k (0, q.2.1, (0, q.2.2.1, 0)))
/-- back at the loop's head -/
def ck_bk (c : ck_C) (A S : List ck_A) (Z : ck_Z) : Bool := match c with
  | (_, n0, A0, S0, H0, B) => ck_ft Z A B && (ck_smL B.1 0 A A0 && (ck_smS S S0 && (H0.all (fun q => ck_hit B.1 q.1 || (match ck_get Z.2.2.2.2 q.1 with
    | some w => ck_ae w q.2
    | none => false)) && (match ck_hv B.1 n0 A0 H0 with
    | (_, A', _, H') => match ck_sy (ck_lv B.2.2.2.1 A' H'), ck_lv B.2.2.2.1 A Z.2.2.2.2 with
      | some s, some v => ck_isI v && (bif B.2.2.2.2 then ck_le Z (1, s, 0) v (-1) else ck_le Z v (1, s, 0) (-1))
      | _, _ => false))))
def ck_fc (pc : Nat) : List ck_C → Option ck_C
  | [] => none
  | c :: r => bif Nat.beq c.1 pc then some c else ck_fc pc r
abbrev ck_Kt : Type := Nat → Nat → List ck_A → List ck_A → ck_Z → List ck_C → ck_F → Bool
def ck_br (k : ck_Kt) (m : Nat) (o : Jvm.ClassFile.Cond) (x y : ck_A) (t e : Nat) (A R : List ck_A) (Z : ck_Z) (lp : List ck_C) (fr : ck_F) : Bool := (match ck_as o Z x y with
    | none => true
    | some Z1 => k m t A R Z1 lp fr) && (match ck_as (ck_ng o) Z x y with
    | none => true
    | some Z2 => k m e A R Z2 lp fr)
def ck_sw (k : ck_Kt) (m : Nat) (x : ck_A) (d : Nat) (A R : List ck_A) (lp : List ck_C) (fr : ck_F) : List (Int32 × Nat) → ck_Z → Bool
  | [], Z => k m d A R Z lp fr
  | (v, t) :: r, Z => (match ck_as .eq Z x (2, 0, v.toInt) with
    | none => true
    | some Z1 => k m t A R Z1 lp fr) && (match ck_as .ne Z x (2, 0, v.toInt) with
    | none => true
    | some Z2 => ck_sw k m x d A R lp fr r Z2)
/-- a return, with an answer or none -/
def ck_rt (rt : Nat × Int × Int) (k : ck_Kt) (v : Option ck_A) (Z : ck_Z) (fr : ck_F) : Bool := match fr with
  | [] => match v with
    | none => Nat.beq rt.1 0
    | some w => (ck_isI w && (Nat.beq rt.1 1 && (decide (rt.2.1 ≤ ck_l Z w) && decide (ck_u Z w ≤ rt.2.2)))) || (Nat.beq w.1 4 && Nat.beq rt.1 2)
  | (m, pc, A, S, lp) :: fs => match v with
    | none => k m pc A S Z lp fs
    | some w => k m pc A (w :: S) Z lp fs
noncomputable def ck_ca (M : Nat) (cs : List (Nat × ck_T)) (inl : List Nat) (k : ck_Kt) (m nx a : Nat) (P R A : List ck_A) (Z : ck_Z) (lp : List ck_C) (fr : ck_F) : Bool := bif inl.any (fun i => Nat.beq i a) then (match mq_mt a with
    | some (_, _, n, _) => bif Nat.ble (ck_cat P) n then k a 0 (ck_en P n) [] Z [] ((m, nx, A, R, lp) :: fr) else false
    | none => false)
  else (match cs.find? (fun q => Nat.beq q.1 a) with
    | some (_, pre, ret, md) => ck_fps Z P pre && (Nat.beq (Nat.land md M) md && (match ret.1 with
      | 0 => k m nx A R (ck_kl (ck_km md) Z) lp fr
      | 1 => k m nx A ((1, Z.1, 0) :: R) (ck_kl (ck_km md) (ck_nw Z ret.2.1 ret.2.2)) lp fr
      | 2 => k m nx A ((4, Z.1, 0) :: R) (ck_kl (ck_km md) (ck_nl Z)) lp fr
      | _ => false))
    | none => false)
noncomputable def ck_I (M sup : Nat) (rt : Nat × Int × Int) (cs : List (Nat × ck_T)) (inl : List Nat) (k : ck_Kt) (m pc : Nat) (A S : List ck_A) (Z : ck_Z) (lp : List ck_C) (fr : ck_F) : Bool := match mq_cd m pc with
  | none => false
  | some (ins, nx, a, b, c, kk, _) => match ins with
    | .goto _ => k m a A S Z lp fr
    | .ifCond o _ => match S with
      | x :: R => bif ck_isI x then ck_br k m o x (2, 0, 0) a nx A R Z lp fr else false
      | _ => false
    | .if_icmp o _ => match S with
      | y :: x :: R => bif ck_isI x && ck_isI y then ck_br k m o x y a nx A R Z lp fr else false
      | _ => false
    | .tableswitch _ lo _ offs => match S with
      | x :: R => bif ck_isI x then ck_sw k m x a A R lp fr (mq_tsw offs.toList lo pc) Z else false
      | _ => false
    | .lookupswitch _ ps => match S with
      | x :: R => bif ck_isI x then ck_sw k m x a A R lp fr (mq_sw ps.toList pc) Z else false
      | _ => false
    | .ireturn => match S with
      | [v] => ck_isI v && ((bif Nat.beq c 1 then decide (0 ≤ ck_l Z v) && decide (ck_u Z v ≤ 1) else true) && ck_rt rt k (some v) Z fr)
      | _ => false
    | .lreturn => match S with
      | [v] => Nat.beq v.1 4 && ck_rt rt k (some v) Z fr
      | _ => false
    | .return_ => match S with
      | [] => ck_rt rt k none Z fr
      | _ => false
    | ins => match ck_W M sup ins a b c S Z with
      | some (S', Z') => k m nx A S' Z' lp fr
      | none => match ck_S ins a b c kk A S Z with
        | some (A', S', Z') => k m nx A' S' Z' lp fr
        | none => match ck_cl ins a b c S with
          | some (P, R) => ck_ca M cs inl k m nx a P R A Z lp fr
          | none => false
noncomputable def ck_go (M sup : Nat) (rt : Nat × Int × Int) (cs : List (Nat × ck_T)) (inl : List Nat) (an : List (Nat × Nat × ck_B)) : Nat → ck_Kt
  | 0 => fun _ _ _ _ _ _ _ => false
  | f + 1 => fun m pc A S Z lp fr => match an.find? (fun q => Nat.beq q.1 m && Nat.beq q.2.1 pc) with
    | none => ck_I M sup rt cs inl (ck_go M sup rt cs inl an f) m pc A S Z lp fr
    | some (_, _, B) => match ck_fc pc lp with
      | some c => ck_bk c A S Z
      | none => match ck_mk B.1 Z with
        | none => false
        | some Z1 => ck_ft Z1 A B && (match ck_hv B.1 Z1.1 A (Z1.2.2.2.2.filter (fun q => !(ck_km B.2.1 q.1))) with
          | (n', A', F', H') => match ck_dn B.2.2.1 A' H', ck_sy (ck_lv B.2.2.2.1 A' H') with
            | some D', some _ => ck_I M sup rt cs inl (ck_go M sup rt cs inl an f) m pc A' S (n', F' ++ Z1.2.1, D' ++ Z1.2.2.1, Z1.2.2.2.1, H') ((pc, Z1.1, A, S, Z1.2.2.2.2.filter (fun q => !(ck_km B.2.1 q.1)), B) :: lp) fr
            | _, _ => false)
/-- the symbols of a call's start -/
def ck_s0 : List ck_Ps → Nat → List ck_A × ck_Fs × Nat
  | [], n => ([], [], n)
  | p :: P, n => match p.1 with
    | 1 => match ck_s0 P (n + 1) with
      | (A, F, n') => ((1, n, 0) :: A, (n, p.2.2.1, p.2.2.2) :: F, n')
    | 3 => match ck_s0 P n with
      | (A, F, n') => ((3, p.2.1, 0) :: A, F, n')
    | 4 => match ck_s0 P (n + 1) with
      | (A, F, n') => ((4, n, 0) :: A, F, n')
    | _ => match ck_s0 P (n + 1) with
      | (A, F, n') => ((5, n, p.2.2.1) :: A, F, n')
/-- A METHOD KEEPS ITS CONTRACT -/
noncomputable def ck_me (sup : Nat) (cs : List (Nat × ck_T)) (inl : List Nat) (an : List (Nat × Nat × ck_B)) (f m : Nat) (C : ck_T) : Bool := !(Nat.testBit C.2.2 0) && (C.1.all (fun p => Nat.beq p.1 1 || (Nat.beq p.1 3 || (Nat.beq p.1 4 || Nat.beq p.1 5))) && (match mq_mt m, ck_s0 C.1 0 with
  | some (_, _, n, _), (P, F, n0) => Nat.ble (ck_cat P) n && ck_go C.2.2 sup C.2.1 cs inl an f m 0 (ck_en P n) [] (n0, F, [], [], []) [] []
  | none, _ => false))
