/-! THE CHECKER, 3: what branches tell; new symbols; arithmetic -/
def ck_cut (Z : ck_Z) (a : ck_A) (l u : Int) (F : ck_Fs) : ck_Fs := bif Nat.beq a.1 1 then (a.2.1, ck_mx (ck_sl Z a.2.1) (l - a.2.2), ck_mn (ck_su Z a.2.1) (u - a.2.2)) :: F else F
theorem ck_cut_ok {h0 h : mq_H} {r : List Value} {Z : ck_Z} (G : ck_g h0 r h Z) {a : ck_A} {x : Int32} (ea : ck_rl h0 r a (.int x)) {l u : Int} (hl : l ≤ x.toInt) (hu : x.toInt ≤ u) {F : ck_Fs} (hF : ck_fF r F) : ck_fF r (ck_cut Z a l u F) := by
  unfold ck_cut
  cases t : Nat.beq a.1 1 with
  | false => exact hF
  | true =>
    obtain ⟨y, a1, a2⟩ := ck_rl1 t ea
    have := ck_s_ok G a1
    intro q hq
    rcases List.mem_cons.mp hq with rfl | hq
    · refine ⟨y, a1, ?_, ?_⟩
      · dsimp only
        rcases ck_mx_or (ck_sl Z a.2.1) (l - a.2.2) with e | e <;> rw [e] <;> omega
      · dsimp only
        rcases ck_mn_or (ck_su Z a.2.1) (u - a.2.2) with e | e <;> rw [e] <;> omega
    · exact hF q hq
/-- a ≤ b + d is so: none, if it can't be -/
def ck_asL (Z : ck_Z) (a b : ck_A) (d : Int) : Option ck_Z := bif decide (ck_u Z b + d < ck_l Z a) then none else (bif ck_le Z b a (-d - 1) then none else some (Z.1, ck_cut Z a (-2147483648) (ck_u Z b + d) (ck_cut Z b (ck_l Z a - d) 2147483647 Z.2.1), (bif Nat.beq a.1 1 && Nat.beq b.1 1 then (a.2.1, b.2.1, b.2.2 + d - a.2.2) :: Z.2.2.1 else Z.2.2.1), Z.2.2.2.1, Z.2.2.2.2))
theorem ck_asL_ok {h0 h : mq_H} {r : List Value} {Z : ck_Z} (G : ck_g h0 r h Z) {a b : ck_A} {x y : Int32} (ea : ck_rl h0 r a (.int x)) (eb : ck_rl h0 r b (.int y)) {d : Int} (hd : x.toInt ≤ y.toInt + d) : ∃ Z', ck_asL Z a b d = some Z' ∧ ck_g h0 r h Z' := by
  have ra := ck_r_ok G ea
  have rb := ck_r_ok G eb
  have xr := ci_rng x
  have yr := ci_rng y
  unfold ck_asL
  rw [show decide (ck_u Z b + d < ck_l Z a) = false from decide_eq_false (by omega)]
  cases hle : ck_le Z b a (-d - 1) with
  | true => have := ck_le_ok G eb ea hle; omega
  | false =>
    refine ⟨_, rfl, G.1, ?_, ?_, G.2.2.2.1, G.2.2.2.2⟩
    · exact ck_cut_ok G ea (by omega) (by omega) (ck_cut_ok G eb (by omega) (by omega) G.2.1)
    · dsimp only
      cases t1 : Nat.beq a.1 1 with
      | false => exact G.2.2.1
      | true => cases t2 : Nat.beq b.1 1 with
        | false => exact G.2.2.1
        | true =>
          obtain ⟨x', a1, a2⟩ := ck_rl1 t1 ea
          obtain ⟨y', b1, b2⟩ := ck_rl1 t2 eb
          intro q hq
          rcases List.mem_cons.mp hq with rfl | hq
          · exact ⟨x', y', a1, b1, by dsimp only; omega⟩
          · exact G.2.2.1 q hq
def ck_n1 (Z : ck_Z) (a : ck_A) (c : Int) : Option ck_Z := bif Nat.beq a.1 2 then (bif ck_ie a.2.2 c then none else some Z) else (bif Nat.beq a.1 1 then
  (bif decide ((bif ck_ie (ck_su Z a.2.1) (c - a.2.2) then ck_su Z a.2.1 - 1 else ck_su Z a.2.1) < (bif ck_ie (ck_sl Z a.2.1) (c - a.2.2) then ck_sl Z a.2.1 + 1 else ck_sl Z a.2.1)) then none else
    some (Z.1, (a.2.1, (bif ck_ie (ck_sl Z a.2.1) (c - a.2.2) then ck_sl Z a.2.1 + 1 else ck_sl Z a.2.1), (bif ck_ie (ck_su Z a.2.1) (c - a.2.2) then ck_su Z a.2.1 - 1 else ck_su Z a.2.1)) :: Z.2.1, Z.2.2.1, (a.2.1, c - a.2.2) :: Z.2.2.2.1, Z.2.2.2.2)) else some Z)
theorem ck_n1_ok {h0 h : mq_H} {r : List Value} {Z : ck_Z} (G : ck_g h0 r h Z) {a : ck_A} {x : Int32} (ea : ck_rl h0 r a (.int x)) {c : Int} (hd : ¬ x.toInt = c) : ∃ Z', ck_n1 Z a c = some Z' ∧ ck_g h0 r h Z' := by
  unfold ck_n1
  cases t2 : Nat.beq a.1 2 with
  | true =>
    have t := Nat.eq_of_beq_eq_true t2
    unfold ck_rl at ea
    rw [t] at ea
    obtain ⟨y, b1, c1⟩ := ea
    cases b1
    rw [show ck_ie a.2.2 c = false from decide_eq_false (by omega)]
    exact ⟨Z, rfl, G⟩
  | false => cases t1 : Nat.beq a.1 1 with
    | false => exact ⟨Z, rfl, G⟩
    | true =>
      obtain ⟨x', a1, a2⟩ := ck_rl1 t1 ea
      have rs := ck_s_ok G a1
      have hl : (bif ck_ie (ck_sl Z a.2.1) (c - a.2.2) then ck_sl Z a.2.1 + 1 else ck_sl Z a.2.1) ≤ x'.toInt := by
        cases e : ck_ie (ck_sl Z a.2.1) (c - a.2.2) with
        | false => exact rs.1
        | true =>
          have e : ck_sl Z a.2.1 = c - a.2.2 := of_decide_eq_true e
          simp only [cond_true]
          omega
      have hu : x'.toInt ≤ (bif ck_ie (ck_su Z a.2.1) (c - a.2.2) then ck_su Z a.2.1 - 1 else ck_su Z a.2.1) := by
        cases e : ck_ie (ck_su Z a.2.1) (c - a.2.2) with
        | false => exact rs.2
        | true =>
          have e : ck_su Z a.2.1 = c - a.2.2 := of_decide_eq_true e
          simp only [cond_true]
          omega
      simp only [cond_false, cond_true]
      rw [decide_eq_false (show ¬ _ from by omega)]
      refine ⟨_, rfl, G.1, ?_, G.2.2.1, ?_, G.2.2.2.2⟩
      · intro q hq
        rcases List.mem_cons.mp hq with rfl | hq
        · exact ⟨x', a1, hl, hu⟩
        · exact G.2.1 q hq
      · intro q hq
        rcases List.mem_cons.mp hq with rfl | hq
        · exact ⟨x', a1, by dsimp only; omega⟩
        · exact G.2.2.2.1 q hq
def ck_asN (Z : ck_Z) (a b : ck_A) : Option ck_Z := bif ck_ie (ck_l Z b) (ck_u Z b) then ck_n1 Z a (ck_l Z b) else (bif ck_ie (ck_l Z a) (ck_u Z a) then ck_n1 Z b (ck_l Z a) else (bif ck_ae a b then none else some Z))
theorem ck_asN_ok {h0 h : mq_H} {r : List Value} {Z : ck_Z} (G : ck_g h0 r h Z) {a b : ck_A} {x y : Int32} (ea : ck_rl h0 r a (.int x)) (eb : ck_rl h0 r b (.int y)) (hd : ¬ x.toInt = y.toInt) : ∃ Z', ck_asN Z a b = some Z' ∧ ck_g h0 r h Z' := by
  have ra := ck_r_ok G ea
  have rb := ck_r_ok G eb
  unfold ck_asN
  cases e1 : ck_ie (ck_l Z b) (ck_u Z b) with
  | true =>
    have e1 : ck_l Z b = ck_u Z b := of_decide_eq_true e1
    exact ck_n1_ok G ea (by omega)
  | false => cases e2 : ck_ie (ck_l Z a) (ck_u Z a) with
    | true =>
      have e2 : ck_l Z a = ck_u Z a := of_decide_eq_true e2
      exact ck_n1_ok G eb (by omega)
    | false => cases e3 : ck_ae a b with
      | true =>
        have := ck_ae_eq e3
        subst this
        have := ck_rl.fn ea eb
        cases this
        exact absurd rfl hd
      | false => exact ⟨Z, rfl, G⟩
def ck_as (o : Jvm.ClassFile.Cond) (Z : ck_Z) (a b : ck_A) : Option ck_Z := match o with
  | .eq => match ck_asL Z a b 0 with
    | none => none
    | some Z1 => ck_asL Z1 b a 0
  | .ne => ck_asN Z a b
  | .lt => ck_asL Z a b (-1)
  | .le => ck_asL Z a b 0
  | .gt => ck_asL Z b a (-1)
  | .ge => ck_asL Z b a 0
def ck_ng (o : Jvm.ClassFile.Cond) : Jvm.ClassFile.Cond := match o with
  | .eq => .ne
  | .ne => .eq
  | .lt => .ge
  | .le => .gt
  | .gt => .le
  | .ge => .lt
theorem ck_as_ok {h0 h : mq_H} {r : List Value} {Z : ck_Z} (G : ck_g h0 r h Z) {a b : ck_A} {x y : Int32} (ea : ck_rl h0 r a (.int x)) (eb : ck_rl h0 r b (.int y)) {o : Jvm.ClassFile.Cond} (hc : mq_cmp o x y = true) : ∃ Z', ck_as o Z a b = some Z' ∧ ck_g h0 r h Z' := by
  cases o <;> simp only [mq_cmp, decide_eq_true_eq] at hc <;> unfold ck_as
  · obtain ⟨Z1, e1, G1⟩ := ck_asL_ok G ea eb (d := 0) (by rw [hc]; omega)
    rw [e1]
    exact ck_asL_ok G1 eb ea (by rw [hc]; omega)
  · exact ck_asN_ok G ea eb (fun e => hc (Int32.toInt_inj.mp e))
  · exact ck_asL_ok G ea eb (by rw [lt_i] at hc; omega)
  · exact ck_asL_ok G eb ea (by rw [le_i] at hc; omega)
  · exact ck_asL_ok G eb ea (by rw [lt_i] at hc; omega)
  · exact ck_asL_ok G ea eb (by rw [le_i] at hc; omega)
theorem ck_ng_ok {o : Jvm.ClassFile.Cond} {x y : Int32} (hc : mq_cmp o x y = false) : mq_cmp (ck_ng o) x y = true := by
  cases o <;> simp only [mq_cmp, ck_ng, decide_eq_true_eq, decide_eq_false_iff_not, lt_i, le_i, eq_i] at hc ⊢ <;> omega
/-! new symbols -/
def ck_nw (Z : ck_Z) (l u : Int) : ck_Z := (Z.1 + 1, (Z.1, l, u) :: Z.2.1, Z.2.2.1, Z.2.2.2.1, Z.2.2.2.2)
def ck_nl (Z : ck_Z) : ck_Z := (Z.1 + 1, Z.2.1, Z.2.2.1, Z.2.2.2.1, Z.2.2.2.2)
theorem ck_at_n {r : List Value} {n : Nat} (h : r.length = n) (v : Value) : (r ++ [v])[n]? = some v := by
  subst h
  simp
theorem ck_nl_ok {h0 h : mq_H} {r : List Value} {Z : ck_Z} (G : ck_g h0 r h Z) (v : Value) : ck_g h0 (r ++ [v]) h (ck_nl Z) := by
  obtain ⟨g1, g2, g3, g4, g5⟩ := G
  have e := ck_ex.one r v
  exact ⟨by unfold ck_nl; simp [g1], g2.ex e, g3.ex e, g4.ex e, g5.ex e⟩
theorem ck_nw_ok {h0 h : mq_H} {r : List Value} {Z : ck_Z} (G : ck_g h0 r h Z) {l u : Int} {x : Int32} (hl : l ≤ x.toInt) (hu : x.toInt ≤ u) : ck_g h0 (r ++ [.int x]) h (ck_nw Z l u) ∧ ck_rl h0 (r ++ [.int x]) (1, Z.1, 0) (.int x) := by
  obtain ⟨g1, g2, g3, g4, g5⟩ := ck_nl_ok G (.int x)
  refine ⟨⟨g1, ?_, g3, g4, g5⟩, x, x, ck_at_n G.1 _, rfl, by simp⟩
  intro q hq
  rcases List.mem_cons.mp hq with rfl | hq
  · exact ⟨x, ck_at_n G.1 _, hl, hu⟩
  · exact g2 q hq
/-! arithmetic -/
def ck_in (l u : Int) : Bool := decide (-2147483648 ≤ l) && decide (u ≤ 2147483647)
theorem ck_in_ok {l u : Int} (h : ck_in l u = true) : -2147483648 ≤ l ∧ u ≤ 2147483647 := by
  unfold ck_in at h
  simp only [Bool.and_eq_true, decide_eq_true_eq] at h
  exact h
/-- what an operation's abstract answer must be -/
def ck_ro (h0 h : mq_H) (r : List Value) (q : ck_A × ck_Z) (z : Int32) : Prop := ∃ r', ck_ex r r' ∧ ck_g h0 r' h q.2 ∧ ck_rl h0 r' q.1 (.int z)
theorem ck_ro.nw {h0 h : mq_H} {r : List Value} {Z : ck_Z} (G : ck_g h0 r h Z) {l u : Int} {x : Int32} (hl : l ≤ x.toInt) (hu : x.toInt ≤ u) : ck_ro h0 h r ((1, Z.1, 0), ck_nw Z l u) x := ⟨_, ck_ex.one r _, (ck_nw_ok G hl hu).1, (ck_nw_ok G hl hu).2⟩
theorem ck_ro.top {h0 h : mq_H} {r : List Value} {Z : ck_Z} (G : ck_g h0 r h Z) (x : Int32) : ck_ro h0 h r ((1, Z.1, 0), ck_nw Z (-2147483648) 2147483647) x := ck_ro.nw G (ci_rng x).1 (ci_rng x).2
theorem ck_ro.same {h0 h : mq_H} {r : List Value} {Z : ck_Z} (G : ck_g h0 r h Z) {a : ck_A} {x : Int32} (e : ck_rl h0 r a (.int x)) : ck_ro h0 h r (a, Z) x := ⟨r, ck_ex.rf r, G, e⟩
theorem ck_rl2 {h0 : mq_H} {r : List Value} {a : ck_A} {x : Int32} (t : Nat.beq a.1 2 = true) (e : ck_rl h0 r a (.int x)) : x.toInt = a.2.2 := by
  have t := Nat.eq_of_beq_eq_true t
  unfold ck_rl at e
  rw [t] at e
  obtain ⟨y, b1, c1⟩ := e
  cases b1
  exact c1
def ck_nf (Z : ck_Z) (l u : Int) : ck_A × ck_Z := bif ck_in l u then ((1, Z.1, 0), ck_nw Z l u) else ((1, Z.1, 0), ck_nw Z (-2147483648) 2147483647)
theorem ck_nf_ok {h0 h : mq_H} {r : List Value} {Z : ck_Z} (G : ck_g h0 r h Z) {l u : Int} {x : Int32} {e : Int} (hl : l ≤ e) (hu : e ≤ u) (hx : -2147483648 ≤ e ∧ e ≤ 2147483647 → x.toInt = e) : ck_ro h0 h r (ck_nf Z l u) x := by
  unfold ck_nf
  cases t : ck_in l u with
  | false => exact ck_ro.top G x
  | true =>
    have := ck_in_ok t
    have e1 := hx ⟨by omega, by omega⟩
    exact ck_ro.nw G (by omega) (by omega)
/-- a + c, c a number -/
def ck_ac (Z : ck_Z) (a : ck_A) (c : Int) : ck_A × ck_Z := bif ck_in (ck_l Z a + c) (ck_u Z a + c) then ((a.1, a.2.1, a.2.2 + c), Z) else ((1, Z.1, 0), ck_nw Z (-2147483648) 2147483647)
theorem ck_ac_ok {h0 h : mq_H} {r : List Value} {Z : ck_Z} (G : ck_g h0 r h Z) {a : ck_A} {x z : Int32} {c : Int} (ea : ck_rl h0 r a (.int x)) (hz : -2147483648 ≤ x.toInt + c ∧ x.toInt + c ≤ 2147483647 → z.toInt = x.toInt + c) : ck_ro h0 h r (ck_ac Z a c) z := by
  unfold ck_ac
  cases t : ck_in (ck_l Z a + c) (ck_u Z a + c) with
  | false => exact ck_ro.top G z
  | true =>
    have := ck_in_ok t
    have ra := ck_r_ok G ea
    have e1 := hz ⟨by omega, by omega⟩
    refine ck_ro.same G ?_
    unfold ck_rl at ea ⊢
    split at ea
    · rename_i t
      obtain ⟨y, w, a1, b1, c1⟩ := ea
      cases b1
      dsimp only
      rw [t]
      exact ⟨y, z, a1, rfl, by omega⟩
    · rename_i t
      obtain ⟨w, b1, c1⟩ := ea
      cases b1
      dsimp only
      rw [t]
      exact ⟨z, rfl, by omega⟩
    · cases ea
    · obtain ⟨-, y, e⟩ := ea; cases e
    · obtain ⟨-, y, e, -⟩ := ea; cases e
    · exact ea.elim
def ck_ss (Z : ck_Z) (a b : ck_A) : ck_A × ck_Z := bif ck_in (ck_l Z a + ck_l Z b) (ck_u Z a + ck_u Z b) && (Nat.beq a.1 1 && Nat.beq b.1 1) then ((1, Z.1, 0), (Z.1 + 1, (Z.1, ck_l Z a + ck_l Z b, ck_u Z a + ck_u Z b) :: Z.2.1, (Z.1, a.2.1, ck_u Z b + a.2.2) :: (a.2.1, Z.1, - ck_l Z b - a.2.2) :: (Z.1, b.2.1, ck_u Z a + b.2.2) :: (b.2.1, Z.1, - ck_l Z a - b.2.2) :: Z.2.2.1, Z.2.2.2.1, Z.2.2.2.2)) else ck_nf Z (ck_l Z a + ck_l Z b) (ck_u Z a + ck_u Z b)
theorem ck_ss_ok {h0 h : mq_H} {r : List Value} {Z : ck_Z} (G : ck_g h0 r h Z) {a b : ck_A} {x y : Int32} (ea : ck_rl h0 r a (.int x)) (eb : ck_rl h0 r b (.int y)) : ck_ro h0 h r (ck_ss Z a b) (x + y) := by
  have ra := ck_r_ok G ea
  have rb := ck_r_ok G eb
  unfold ck_ss
  cases t : ck_in (ck_l Z a + ck_l Z b) (ck_u Z a + ck_u Z b) && (Nat.beq a.1 1 && Nat.beq b.1 1) with
  | false => exact ck_nf_ok G (e := x.toInt + y.toInt) (by omega) (by omega) (fun q => ci_add q)
  | true =>
    simp only [Bool.and_eq_true] at t
    obtain ⟨t, t1, t2⟩ := t
    have t := ck_in_ok t
    have e1 : (x + y).toInt = x.toInt + y.toInt := ci_add ⟨by omega, by omega⟩
    obtain ⟨x', a1, a2⟩ := ck_rl1 t1 ea
    obtain ⟨y', b1, b2⟩ := ck_rl1 t2 eb
    obtain ⟨⟨g1, g2, g3, g4, g5⟩, g6⟩ := ck_nw_ok G (x := x + y) (l := ck_l Z a + ck_l Z b) (u := ck_u Z a + ck_u Z b) (by omega) (by omega)
    have ex := ck_ex.one r (.int (x + y))
    refine ⟨_, ex, ⟨g1, g2, ?_, g4, g5⟩, g6⟩
    have en := ck_at_n G.1 (.int (x + y))
    intro q hq
    rcases List.mem_cons.mp hq with rfl | hq
    · exact ⟨x + y, x', en, ex.get a1, by dsimp only; omega⟩
    rcases List.mem_cons.mp hq with rfl | hq
    · exact ⟨x', x + y, ex.get a1, en, by dsimp only; omega⟩
    rcases List.mem_cons.mp hq with rfl | hq
    · exact ⟨x + y, y', en, ex.get b1, by dsimp only; omega⟩
    rcases List.mem_cons.mp hq with rfl | hq
    · exact ⟨y', x + y, ex.get b1, en, by dsimp only; omega⟩
    · exact g3 q hq
def ck_add (Z : ck_Z) (a b : ck_A) : ck_A × ck_Z := bif Nat.beq b.1 2 then ck_ac Z a b.2.2 else (bif Nat.beq a.1 2 then ck_ac Z b a.2.2 else ck_ss Z a b)
theorem ck_add_ok {h0 h : mq_H} {r : List Value} {Z : ck_Z} (G : ck_g h0 r h Z) {a b : ck_A} {x y : Int32} (ea : ck_rl h0 r a (.int x)) (eb : ck_rl h0 r b (.int y)) : ck_ro h0 h r (ck_add Z a b) (x + y) := by
  unfold ck_add
  cases t : Nat.beq b.1 2 with
  | true =>
    have := ck_rl2 t eb
    exact ck_ac_ok G ea (fun q => by rw [ci_add (by omega)]; omega)
  | false => cases t : Nat.beq a.1 2 with
    | true =>
      have := ck_rl2 t ea
      exact ck_ac_ok G eb (fun q => by rw [ci_add (by omega)]; omega)
    | false => exact ck_ss_ok G ea eb
def ck_sub (Z : ck_Z) (a b : ck_A) : ck_A × ck_Z := bif Nat.beq b.1 2 then ck_ac Z a (- b.2.2) else ck_nf Z (ck_l Z a - ck_u Z b) (ck_u Z a - ck_l Z b)
theorem ck_sub_ok {h0 h : mq_H} {r : List Value} {Z : ck_Z} (G : ck_g h0 r h Z) {a b : ck_A} {x y : Int32} (ea : ck_rl h0 r a (.int x)) (eb : ck_rl h0 r b (.int y)) : ck_ro h0 h r (ck_sub Z a b) (x - y) := by
  have ra := ck_r_ok G ea
  have rb := ck_r_ok G eb
  unfold ck_sub
  cases t : Nat.beq b.1 2 with
  | true =>
    have := ck_rl2 t eb
    exact ck_ac_ok G ea (fun q => by rw [ci_sub (by omega)]; omega)
  | false => exact ck_nf_ok G (e := x.toInt - y.toInt) (by omega) (by omega) (fun q => ci_sub q)
def ck_mul (Z : ck_Z) (a b : ck_A) : ck_A × ck_Z := bif Nat.beq a.1 2 && (Nat.beq b.1 2 && ck_in (a.2.2 * b.2.2) (a.2.2 * b.2.2)) then ((2, 0, a.2.2 * b.2.2), Z) else (bif decide (0 ≤ ck_l Z a) && decide (0 ≤ ck_l Z b) then ck_nf Z (ck_l Z a * ck_l Z b) (ck_u Z a * ck_u Z b) else ((1, Z.1, 0), ck_nw Z (-2147483648) 2147483647))
theorem ck_mul_ok {h0 h : mq_H} {r : List Value} {Z : ck_Z} (G : ck_g h0 r h Z) {a b : ck_A} {x y : Int32} (ea : ck_rl h0 r a (.int x)) (eb : ck_rl h0 r b (.int y)) : ck_ro h0 h r (ck_mul Z a b) (x * y) := by
  have ra := ck_r_ok G ea
  have rb := ck_r_ok G eb
  unfold ck_mul
  cases t : Nat.beq a.1 2 && (Nat.beq b.1 2 && ck_in (a.2.2 * b.2.2) (a.2.2 * b.2.2)) with
  | true =>
    simp only [Bool.and_eq_true] at t
    obtain ⟨t1, t2, t3⟩ := t
    have e1 := ck_rl2 t1 ea
    have e2 := ck_rl2 t2 eb
    have t3 := ck_in_ok t3
    refine ck_ro.same G ⟨x * y, rfl, ?_⟩
    rw [ci_mul (by rw [e1, e2]; exact t3), e1, e2]
  | false => cases t : decide (0 ≤ ck_l Z a) && decide (0 ≤ ck_l Z b) with
    | false => exact ck_ro.top G _
    | true =>
      simp only [Bool.and_eq_true, decide_eq_true_eq] at t
      refine ck_nf_ok G (e := x.toInt * y.toInt) ?_ ?_ (fun q => ci_mul q)
      · exact Int.mul_le_mul ra.1 rb.1 t.2 (by omega)
      · exact Int.mul_le_mul ra.2 rb.2 (by omega) (by omega)
def ck_and (Z : ck_Z) (a b : ck_A) : ck_A × ck_Z := bif decide (0 ≤ ck_l Z b) then (bif decide (0 ≤ ck_l Z a) then ((1, Z.1, 0), ck_nw Z 0 (ck_mn (ck_u Z a) (ck_u Z b))) else ((1, Z.1, 0), ck_nw Z 0 (ck_u Z b))) else (bif decide (0 ≤ ck_l Z a) then ((1, Z.1, 0), ck_nw Z 0 (ck_u Z a)) else ((1, Z.1, 0), ck_nw Z (-2147483648) 2147483647))
theorem ck_and_ok {h0 h : mq_H} {r : List Value} {Z : ck_Z} (G : ck_g h0 r h Z) {a b : ck_A} {x y : Int32} (ea : ck_rl h0 r a (.int x)) (eb : ck_rl h0 r b (.int y)) : ck_ro h0 h r (ck_and Z a b) (x &&& y) := by
  have ra := ck_r_ok G ea
  have rb := ck_r_ok G eb
  unfold ck_and
  cases t1 : decide (0 ≤ ck_l Z b) with
  | true =>
    have t1 := of_decide_eq_true t1
    have q1 := ci_andR (x := x) (y := y) (by omega)
    cases t2 : decide (0 ≤ ck_l Z a) with
    | true =>
      have t2 := of_decide_eq_true t2
      have q2 := ci_andL (x := x) (y := y) (by omega)
      refine ck_ro.nw G (by omega) ?_
      rcases ck_mn_or (ck_u Z a) (ck_u Z b) with e | e <;> rw [e] <;> omega
    | false => exact ck_ro.nw G (by omega) (by omega)
  | false => cases t2 : decide (0 ≤ ck_l Z a) with
    | true =>
      have t2 := of_decide_eq_true t2
      have q2 := ci_andL (x := x) (y := y) (by omega)
      exact ck_ro.nw G (by omega) (by omega)
    | false => exact ck_ro.top G _
def ck_shl (Z : ck_Z) (a b : ck_A) : ck_A × ck_Z := bif Nat.beq a.1 2 && (ck_ie a.2.2 1 && (decide (0 ≤ ck_l Z b) && decide (ck_u Z b ≤ 30))) then ((1, Z.1, 0), ck_nw Z (2 ^ (ck_l Z b).toNat) (2 ^ (ck_u Z b).toNat)) else ((1, Z.1, 0), ck_nw Z (-2147483648) 2147483647)
theorem ck_shl_ok {h0 h : mq_H} {r : List Value} {Z : ck_Z} (G : ck_g h0 r h Z) {a b : ck_A} {x y : Int32} (ea : ck_rl h0 r a (.int x)) (eb : ck_rl h0 r b (.int y)) : ck_ro h0 h r (ck_shl Z a b) (x <<< (y &&& 31)) := by
  have rb := ck_r_ok G eb
  unfold ck_shl
  cases t : Nat.beq a.1 2 && (ck_ie a.2.2 1 && (decide (0 ≤ ck_l Z b) && decide (ck_u Z b ≤ 30))) with
  | false => exact ck_ro.top G _
  | true =>
    simp only [Bool.and_eq_true, decide_eq_true_eq] at t
    obtain ⟨t1, t2, t3, t4⟩ := t
    have e1 := ck_rl2 t1 ea
    have t2 : a.2.2 = 1 := of_decide_eq_true t2
    have ex : x = 1 := Int32.toInt_inj.mp (by rw [e1, t2]; rfl)
    subst ex
    have e := ci_shl1 (y := y) (by omega) (by omega)
    refine ck_ro.nw G ?_ ?_
    · rw [e]; exact ci_pow (by omega)
    · rw [e]; exact ci_pow (by omega)
def ck_shr (Z : ck_Z) (a : ck_A) : ck_A × ck_Z := bif Nat.beq a.1 2 && ck_ie a.2.2 0 then ((2, 0, 0), Z) else ((1, Z.1, 0), ck_nw Z (-2147483648) 2147483647)
theorem ck_shr_ok {h0 h : mq_H} {r : List Value} {Z : ck_Z} (G : ck_g h0 r h Z) {a : ck_A} {x : Int32} (y : Int32) (ea : ck_rl h0 r a (.int x)) : ck_ro h0 h r (ck_shr Z a) (x >>> y) := by
  unfold ck_shr
  cases t : Nat.beq a.1 2 && ck_ie a.2.2 0 with
  | false => exact ck_ro.top G _
  | true =>
    simp only [Bool.and_eq_true] at t
    obtain ⟨t1, t2⟩ := t
    have e1 := ck_rl2 t1 ea
    have t2 : a.2.2 = 0 := of_decide_eq_true t2
    have ex : x = 0 := Int32.toInt_inj.mp (by rw [e1, t2]; rfl)
    subst ex
    exact ck_ro.same G ⟨_, rfl, ci_shr0 y⟩
def ck_nzE (s : Nat) (c : Int) : ck_Es → Bool
  | [] => false
  | (t, d) :: r => (Nat.beq t s && ck_ie d c) || ck_nzE s c r
/-- not 0 -/
def ck_nz (Z : ck_Z) (b : ck_A) : Bool := decide (0 < ck_l Z b) || (decide (ck_u Z b < 0) || (Nat.beq b.1 1 && ck_nzE b.2.1 (- b.2.2) Z.2.2.2.1))
theorem ck_nzE_ok {r : List Value} {s : Nat} {c : Int} {x : Int32} (hx : r[s]? = some (.int x)) : ∀ {E : ck_Es}, ck_fE r E → ck_nzE s c E = true → ¬ x.toInt = c
  | [], _, h => by cases h
  | (t, d) :: q, K, h => by
    unfold ck_nzE at h
    rw [Bool.or_eq_true] at h
    rcases h with h | h
    · rw [Bool.and_eq_true] at h
      have h1 := Nat.eq_of_beq_eq_true h.1
      have h2 : d = c := of_decide_eq_true h.2
      subst h1; subst h2
      obtain ⟨x', k1, k2⟩ := K _ List.mem_cons_self
      dsimp only at k1 k2
      rw [hx] at k1; cases k1
      exact k2
    · exact ck_nzE_ok hx (fun q hq => K q (List.mem_cons_of_mem _ hq)) h
theorem ck_nz_ok {h0 h : mq_H} {r : List Value} {Z : ck_Z} (G : ck_g h0 r h Z) {b : ck_A} {y : Int32} (eb : ck_rl h0 r b (.int y)) (hz : ck_nz Z b = true) : ¬ y = 0 := by
  have rb := ck_r_ok G eb
  intro e
  subst e
  have e0 : (0 : Int32).toInt = 0 := rfl
  unfold ck_nz at hz
  simp only [Bool.or_eq_true, decide_eq_true_eq, Bool.and_eq_true] at hz
  rcases hz with hz | hz | hz
  · omega
  · omega
  · obtain ⟨y', b1, b2⟩ := ck_rl1 hz.1 eb
    exact ck_nzE_ok b1 G.2.2.2.1 hz.2 (by omega)
def ck_div (Z : ck_Z) (a b : ck_A) : ck_A × ck_Z := bif decide (0 ≤ ck_l Z a) && (Nat.beq b.1 2 && decide (0 < b.2.2)) then ((1, Z.1, 0), ck_nw Z 0 (ck_u Z a / b.2.2)) else ((1, Z.1, 0), ck_nw Z (-2147483648) 2147483647)
theorem ck_div_ok {h0 h : mq_H} {r : List Value} {Z : ck_Z} (G : ck_g h0 r h Z) {a b : ck_A} {x y : Int32} (ea : ck_rl h0 r a (.int x)) (eb : ck_rl h0 r b (.int y)) : ck_ro h0 h r (ck_div Z a b) (x / y) := by
  have ra := ck_r_ok G ea
  unfold ck_div
  cases t : decide (0 ≤ ck_l Z a) && (Nat.beq b.1 2 && decide (0 < b.2.2)) with
  | false => exact ck_ro.top G _
  | true =>
    simp only [Bool.and_eq_true, decide_eq_true_eq] at t
    obtain ⟨t1, t2, t3⟩ := t
    have e2 := ck_rl2 t2 eb
    have e := ci_div (x := x) (y := y) (by omega) (by omega)
    refine ck_ro.nw G ?_ ?_
    · rw [e]; exact Int.ediv_nonneg (by omega) (by omega)
    · rw [e, e2]; exact Int.ediv_le_ediv t3 ra.2
def ck_rem (Z : ck_Z) (a b : ck_A) : ck_A × ck_Z := bif decide (0 ≤ ck_l Z a) && decide (0 < ck_l Z b) then ((1, Z.1, 0), ck_nw Z 0 (ck_u Z b - 1)) else ((1, Z.1, 0), ck_nw Z (-2147483648) 2147483647)
theorem ck_rem_ok {h0 h : mq_H} {r : List Value} {Z : ck_Z} (G : ck_g h0 r h Z) {a b : ck_A} {x y : Int32} (ea : ck_rl h0 r a (.int x)) (eb : ck_rl h0 r b (.int y)) : ck_ro h0 h r (ck_rem Z a b) (x - x / y * y) := by
  have ra := ck_r_ok G ea
  have rb := ck_r_ok G eb
  unfold ck_rem
  cases t : decide (0 ≤ ck_l Z a) && decide (0 < ck_l Z b) with
  | false => exact ck_ro.top G _
  | true =>
    simp only [Bool.and_eq_true, decide_eq_true_eq] at t
    have e := ci_rem (x := x) (y := y) (by omega) (by omega)
    have e0 := Int.emod_nonneg x.toInt (show y.toInt ≠ 0 by omega)
    have e1 := Int.emod_lt_of_pos x.toInt (show 0 < y.toInt by omega)
    exact ck_ro.nw G (by omega) (by omega)
/-- max, min -/
def ck_max (Z : ck_Z) (a b : ck_A) : ck_A × ck_Z := ((1, Z.1, 0), (Z.1 + 1, (Z.1, ck_mx (ck_l Z a) (ck_l Z b), ck_mx (ck_u Z a) (ck_u Z b)) :: Z.2.1, (bif Nat.beq a.1 1 then (a.2.1, Z.1, - a.2.2) :: (bif Nat.beq b.1 1 then (b.2.1, Z.1, - b.2.2) :: Z.2.2.1 else Z.2.2.1) else (bif Nat.beq b.1 1 then (b.2.1, Z.1, - b.2.2) :: Z.2.2.1 else Z.2.2.1)), Z.2.2.2.1, Z.2.2.2.2))
def ck_min (Z : ck_Z) (a b : ck_A) : ck_A × ck_Z := ((1, Z.1, 0), (Z.1 + 1, (Z.1, ck_mn (ck_l Z a) (ck_l Z b), ck_mn (ck_u Z a) (ck_u Z b)) :: Z.2.1, (bif Nat.beq a.1 1 then (Z.1, a.2.1, a.2.2) :: (bif Nat.beq b.1 1 then (Z.1, b.2.1, b.2.2) :: Z.2.2.1 else Z.2.2.1) else (bif Nat.beq b.1 1 then (Z.1, b.2.1, b.2.2) :: Z.2.2.1 else Z.2.2.1)), Z.2.2.2.1, Z.2.2.2.2))
theorem ck_mx_le (a b : Int) : a ≤ ck_mx a b ∧ b ≤ ck_mx a b := by
  unfold ck_mx
  cases t : decide (a ≤ b) with
  | true => have := of_decide_eq_true t; simp only [cond_true]; omega
  | false => have := of_decide_eq_false t; simp only [cond_false]; omega
theorem ck_mn_le (a b : Int) : ck_mn a b ≤ a ∧ ck_mn a b ≤ b := by
  unfold ck_mn
  cases t : decide (a ≤ b) with
  | true => have := of_decide_eq_true t; simp only [cond_true]; omega
  | false => have := of_decide_eq_false t; simp only [cond_false]; omega
theorem ck_max_ok {h0 h : mq_H} {r : List Value} {Z : ck_Z} (G : ck_g h0 r h Z) {a b : ck_A} {x y : Int32} (ea : ck_rl h0 r a (.int x)) (eb : ck_rl h0 r b (.int y)) : ck_ro h0 h r (ck_max Z a b) (if x < y then y else x) := by
  have ra := ck_r_ok G ea
  have rb := ck_r_ok G eb
  have hz : x.toInt ≤ (if x < y then y else x).toInt ∧ y.toInt ≤ (if x < y then y else x).toInt ∧ ((if x < y then y else x).toInt = x.toInt ∨ (if x < y then y else x).toInt = y.toInt) := by
    split
    · rename_i c; rw [lt_i] at c; omega
    · rename_i c; rw [lt_i] at c; omega
  generalize (if x < y then y else x) = z at hz
  have m1 := ck_mx_le (ck_l Z a) (ck_l Z b)
  have m2 := ck_mx_or (ck_l Z a) (ck_l Z b)
  have m3 := ck_mx_le (ck_u Z a) (ck_u Z b)
  obtain ⟨⟨g1, g2, g3, g4, g5⟩, g6⟩ := ck_nw_ok G (x := z) (l := ck_mx (ck_l Z a) (ck_l Z b)) (u := ck_mx (ck_u Z a) (ck_u Z b)) (by omega) (by omega)
  have ex := ck_ex.one r (.int z)
  have en := ck_at_n G.1 (.int z)
  refine ⟨_, ex, ⟨g1, g2, ?_, g4, g5⟩, g6⟩
  have kb : ck_fD (r ++ [.int z]) (bif Nat.beq b.1 1 then (b.2.1, Z.1, - b.2.2) :: Z.2.2.1 else Z.2.2.1) := by
    cases t : Nat.beq b.1 1 with
    | false => exact g3
    | true =>
      obtain ⟨y', b1, b2⟩ := ck_rl1 t eb
      intro q hq
      rcases List.mem_cons.mp hq with rfl | hq
      · exact ⟨y', z, ex.get b1, en, by dsimp only; omega⟩
      · exact g3 q hq
  show ck_fD _ (bif Nat.beq a.1 1 then _ else _)
  cases t : Nat.beq a.1 1 with
  | false => exact kb
  | true =>
    obtain ⟨x', a1, a2⟩ := ck_rl1 t ea
    intro q hq
    rcases List.mem_cons.mp hq with rfl | hq
    · exact ⟨x', z, ex.get a1, en, by dsimp only; omega⟩
    · exact kb q hq
theorem ck_min_ok {h0 h : mq_H} {r : List Value} {Z : ck_Z} (G : ck_g h0 r h Z) {a b : ck_A} {x y : Int32} (ea : ck_rl h0 r a (.int x)) (eb : ck_rl h0 r b (.int y)) : ck_ro h0 h r (ck_min Z a b) (if y < x then y else x) := by
  have ra := ck_r_ok G ea
  have rb := ck_r_ok G eb
  have hz : (if y < x then y else x).toInt ≤ x.toInt ∧ (if y < x then y else x).toInt ≤ y.toInt ∧ ((if y < x then y else x).toInt = x.toInt ∨ (if y < x then y else x).toInt = y.toInt) := by
    split
    · rename_i c; rw [lt_i] at c; omega
    · rename_i c; rw [lt_i] at c; omega
  generalize (if y < x then y else x) = z at hz
  have m1 := ck_mn_le (ck_l Z a) (ck_l Z b)
  have m2 := ck_mn_or (ck_u Z a) (ck_u Z b)
  have m3 := ck_mn_le (ck_u Z a) (ck_u Z b)
  obtain ⟨⟨g1, g2, g3, g4, g5⟩, g6⟩ := ck_nw_ok G (x := z) (l := ck_mn (ck_l Z a) (ck_l Z b)) (u := ck_mn (ck_u Z a) (ck_u Z b)) (by omega) (by omega)
  have ex := ck_ex.one r (.int z)
  have en := ck_at_n G.1 (.int z)
  refine ⟨_, ex, ⟨g1, g2, ?_, g4, g5⟩, g6⟩
  have kb : ck_fD (r ++ [.int z]) (bif Nat.beq b.1 1 then (Z.1, b.2.1, b.2.2) :: Z.2.2.1 else Z.2.2.1) := by
    cases t : Nat.beq b.1 1 with
    | false => exact g3
    | true =>
      obtain ⟨y', b1, b2⟩ := ck_rl1 t eb
      intro q hq
      rcases List.mem_cons.mp hq with rfl | hq
      · exact ⟨z, y', en, ex.get b1, by dsimp only; omega⟩
      · exact g3 q hq
  show ck_fD _ (bif Nat.beq a.1 1 then _ else _)
  cases t : Nat.beq a.1 1 with
  | false => exact kb
  | true =>
    obtain ⟨x', a1, a2⟩ := ck_rl1 t ea
    intro q hq
    rcases List.mem_cons.mp hq with rfl | hq
    · exact ⟨z, x', en, ex.get a1, by dsimp only; omega⟩
    · exact kb q hq
