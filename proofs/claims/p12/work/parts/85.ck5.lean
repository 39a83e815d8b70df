/-! THE CHECKER, 6: the straight steps are right -/
def ck_out (lL : Nat) (h0 h : mq_H) (r : List Value) (m pc nx : Nat) (L : mq_L) (st : List Value) (q : List ck_A × List ck_A × ck_Z) : Prop := ∃ (L' : mq_L) (st' r' : List Value), ck_ex r r' ∧ ck_g h0 r' h q.2.2 ∧ ck_rL h0 r' q.1 L' ∧ ck_rS h0 r' q.2.1 st' ∧ ∀ Q, mq_At mq_G (mq_tT lL) m nx L' st' h Q → mq_At mq_G (mq_tT lL) m pc L st h Q
section CK5
variable {lL : Nat} {h0 h : mq_H} {r : List Value} {m pc nx a b c j : Nat} {kk : Int32} {ins : Instr} {A S : List ck_A} {Z : ck_Z} {L : mq_L} {st : List Value} {q : List ck_A × List ck_A × ck_Z}
theorem so_push {v : ck_A} {w : Value} {R : List ck_A} {V : List Value} {g : Option Bool} {r' : List Value} {Z' : ck_Z} (ex : ck_ex r r') (G : ck_g h0 r' h Z') (RL : ck_rL h0 r A L) (RS : ck_rS h0 r R V) (hP : mq_cd m pc = some (ins, nx, a, b, c, kk, j)) (hs : mq_step (mq_tT lL) ins pc nx a b c kk L st h = mq_gx g nx L (w :: V) h) (hg : mq_gB g = true) (hw : ck_rl h0 r' v w) : ck_out lL h0 h r m pc nx L st (A, v :: R, Z') := ⟨L, w :: V, r', ex, G, RL.ex ex, ⟨hw, RS.ex ex⟩, fun _ hA => at_nx hP hs hg hA⟩
theorem so_ref {v : ck_A} {p : Nat} {o : Option Nat} {R : List ck_A} {V : List Value} {g : Option Bool} {r' : List Value} {Z' : ck_Z} (ex : ck_ex r r') (G : ck_g h0 r' h Z') (RL : ck_rL h0 r A L) (RS : ck_rS h0 r R V) (hP : mq_cd m pc = some (ins, nx, a, b, c, kk, j)) (hs : mq_step (mq_tT lL) ins pc nx a b c kk L st h = mq_ox g o nx V) (ho : o = some p) (hg : mq_gB g = true) (hw : ck_rl h0 r' v (.ref p)) : ck_out lL h0 h r m pc nx L st (A, v :: R, Z') := ⟨L, .ref p :: V, r', ex, G, RL.ex ex, ⟨hw, RS.ex ex⟩, fun _ hA => at_ox hP hs ho hg hA⟩
theorem so_con (G : ck_g h0 r h Z) (RL : ck_rL h0 r A L) (RS : ck_rS h0 r S st) (hP : mq_cd m pc = some (ins, nx, a, b, c, kk, j)) (hs : mq_step (mq_tT lL) ins pc nx a b c kk L st h = mq_nx nx L (.int kk :: st) h) : ck_out lL h0 h r m pc nx L st (A, (2, 0, kk.toInt) :: S, Z) := so_push (ck_ex.rf r) G RL RS hP hs rfl ⟨kk, rfl, rfl⟩
theorem so_lng {V : List Value} {R : List ck_A} {x : Int64} {g : Option Bool} (G : ck_g h0 r h Z) (RL : ck_rL h0 r A L) (RS : ck_rS h0 r R V) (hP : mq_cd m pc = some (ins, nx, a, b, c, kk, j)) (hs : mq_step (mq_tT lL) ins pc nx a b c kk L st h = mq_gx g nx L (.long x :: V) h) (hg : mq_gB g = true) : ck_out lL h0 h r m pc nx L st (A, (4, Z.1, 0) :: R, ck_nl Z) := so_push (ck_ex.one r (.long x)) (ck_nl_ok G _) RL RS hP hs hg ⟨ck_at_n G.1 _, x, rfl⟩
theorem so_ro {V : List Value} {R : List ck_A} {z : Int32} {p : ck_A × ck_Z} {g : Option Bool} (K : ck_ro h0 h r p z) (RL : ck_rL h0 r A L) (RS : ck_rS h0 r R V) (hP : mq_cd m pc = some (ins, nx, a, b, c, kk, j)) (hs : mq_step (mq_tT lL) ins pc nx a b c kk L st h = mq_gx g nx L (.int z :: V) h) (hg : mq_gB g = true) : ck_out lL h0 h r m pc nx L st (A, p.1 :: R, p.2) := by
  obtain ⟨r', ex, G', hz⟩ := K
  exact so_push ex G' RL RS hP hs hg hz
theorem ck_isI_in {v : ck_A} {w : Value} (hv : ck_isI v = true) (e : ck_rl h0 r v w) : ∃ x, w = .int x ∧ ck_rl h0 r v (.int x) := by
  obtain ⟨x, rfl⟩ := ck_isI_ok hv e
  exact ⟨x, rfl, e⟩
theorem ck_isJ_in {v : ck_A} {w : Value} (hv : Nat.beq v.1 4 = true) (e : ck_rl h0 r v w) : ∃ x, w = .long x := by
  have t := Nat.eq_of_beq_eq_true hv
  unfold ck_rl at e
  rw [t] at e
  exact e.2
theorem so_b2 {f : ck_Z → ck_A → ck_A → ck_A × ck_Z} {op : Int32 → Int32 → Int32} (H : ck_b2 f A S Z = some q) (RL : ck_rL h0 r A L) (RS : ck_rS h0 r S st) (hP : mq_cd m pc = some (ins, nx, a, b, c, kk, j))
    (hf : ∀ (u v : ck_A) (x y : Int32), ck_rl h0 r u (.int x) → ck_rl h0 r v (.int y) → ck_ro h0 h r (f Z u v) (op x y))
    (hs : ∀ (x y : Int32) (V : List Value) (v : ck_A) (R : List ck_A), S = v :: R → ck_rl h0 r v (.int y) → ∃ g, mq_step (mq_tT lL) ins pc nx a b c kk L (.int y :: .int x :: V) h = mq_gx g nx L (.int (op x y) :: V) h ∧ mq_gB g = true) : ck_out lL h0 h r m pc nx L st q := by
  unfold ck_b2 at H
  split at H
  · rename_i v u R
    obtain ⟨w1, V1, rfl, e1, RS1⟩ := RS.cons
    obtain ⟨w2, V2, rfl, e2, RS2⟩ := RS1.cons
    cases t : ck_isI u && ck_isI v with
    | false => rw [t] at H; cases H
    | true =>
      rw [t] at H
      rw [Bool.and_eq_true] at t
      obtain ⟨y, rfl, e1⟩ := ck_isI_in t.2 e1
      obtain ⟨x, rfl, e2⟩ := ck_isI_in t.1 e2
      cases H
      obtain ⟨g, hs, hg⟩ := hs x y V2 v _ rfl e1
      exact so_ro (hf u v x y e2 e1) RL RS2 hP hs hg
  · cases H
theorem so_u1 {l u : Int} {op : Int32 → Int32} (H : ck_u1 l u A S Z = some q) (G : ck_g h0 r h Z) (RL : ck_rL h0 r A L) (RS : ck_rS h0 r S st) (hP : mq_cd m pc = some (ins, nx, a, b, c, kk, j)) (hf : ∀ x, l ≤ (op x).toInt ∧ (op x).toInt ≤ u) (hs : ∀ (x : Int32) (V : List Value), mq_step (mq_tT lL) ins pc nx a b c kk L (.int x :: V) h = mq_nx nx L (.int (op x) :: V) h) : ck_out lL h0 h r m pc nx L st q := by
  unfold ck_u1 at H
  split at H
  · rename_i v R
    obtain ⟨w1, V1, rfl, e1, RS1⟩ := RS.cons
    cases t : ck_isI v with
    | false => rw [t] at H; cases H
    | true =>
      rw [t] at H
      obtain ⟨x, rfl, e1⟩ := ck_isI_in t e1
      cases H
      exact so_ro (ck_ro.nw G (hf x).1 (hf x).2) RL RS1 hP (hs x V1) rfl
  · cases H
theorem so_j2 {i o : Bool} {opJ : Int64 → Value → Int64} {opI : Int64 → Value → Int32} (H : ck_j2 i o A S Z = some q) (G : ck_g h0 r h Z) (RL : ck_rL h0 r A L) (RS : ck_rS h0 r S st) (hP : mq_cd m pc = some (ins, nx, a, b, c, kk, j)) (hs : ∀ (x : Int64) (y : Value) (V : List Value), (∃ z, y = bif i then .int z else .long z.toInt64) ∨ (i = false ∧ ∃ z, y = .long z) → mq_step (mq_tT lL) ins pc nx a b c kk L (y :: .long x :: V) h = mq_nx nx L ((bif o then .int (opI x y) else .long (opJ x y)) :: V) h) : ck_out lL h0 h r m pc nx L st q := by
  unfold ck_j2 at H
  split at H
  · rename_i v u R
    obtain ⟨w1, V1, rfl, e1, RS1⟩ := RS.cons
    obtain ⟨w2, V2, rfl, e2, RS2⟩ := RS1.cons
    cases t : Nat.beq u.1 4 && (bif i then ck_isI v else Nat.beq v.1 4) with
    | false => rw [t] at H; cases H
    | true =>
      rw [t] at H
      rw [Bool.and_eq_true] at t
      obtain ⟨x, rfl⟩ := ck_isJ_in t.1 e2
      have hs := hs x w1 V2 (by
        cases i with
        | true =>
          obtain ⟨y, rfl⟩ := ck_isI_ok t.2 e1
          exact Or.inl ⟨y, rfl⟩
        | false =>
          obtain ⟨y, rfl⟩ := ck_isJ_in t.2 e1
          exact Or.inr ⟨rfl, y, rfl⟩)
      cases o with
      | true => cases H; exact so_ro (ck_ro.top G _) RL RS2 hP hs rfl
      | false => cases H; exact so_lng G RL RS2 hP hs rfl
  · cases H
theorem so_ld {p : ck_A → Bool} (H : ck_ld p a A S Z = some q) (G : ck_g h0 r h Z) (RL : ck_rL h0 r A L) (RS : ck_rS h0 r S st) (hP : mq_cd m pc = some (ins, nx, a, b, c, kk, j)) (h0p : ∀ v : ck_A, p v = true → ¬ v.1 = 0) (hs : ∀ v w, p v = true → ck_rl h0 r v w → L[a]? = some (some w) → mq_step (mq_tT lL) ins pc nx a b c kk L st h = mq_nx nx L (w :: st) h) : ck_out lL h0 h r m pc nx L st q := by
  unfold ck_ld at H
  split at H
  · rename_i v hv
    cases t : p v with
    | false => rw [t] at H; cases H
    | true =>
      rw [t] at H
      cases H
      rcases RL.2 _ _ hv with z | ⟨w, hw, e⟩
      · exact absurd z (h0p v t)
      · exact so_push (ck_ex.rf r) G RL RS hP (hs v w t e hw) rfl e
  · cases H
theorem mq_ld_some {L : mq_L} {a : Nat} {w : Value} (h : L[a]? = some (some w)) : mq_ld L a = some w := by
  unfold mq_ld
  rw [h]
theorem ck_st_inv {p : ck_A → Bool} (H : ck_st p a A S Z = some q) (RS : ck_rS h0 r S st) : ∃ v R w V, S = v :: R ∧ p v = true ∧ st = w :: V ∧ ck_rl h0 r v w ∧ ck_rS h0 r R V ∧ q = (ck_sv A a v, R, Z) := by
  unfold ck_st at H
  split at H
  · rename_i v R
    obtain ⟨w1, V1, rfl, e1, RS1⟩ := RS.cons
    cases t : p v with
    | false => rw [t] at H; cases H
    | true =>
      rw [t] at H
      cases H
      exact ⟨v, R, w1, V1, rfl, t, rfl, e1, RS1, rfl⟩
  · cases H
theorem so_st {p : ck_A → Bool} (H : ck_st p a A S Z = some q) (G : ck_g h0 r h Z) (RL : ck_rL h0 r A L) (RS : ck_rS h0 r S st) (hP : mq_cd m pc = some (ins, nx, a, b, c, kk, j)) (hs : ∀ v w V, p v = true → ck_rl h0 r v w → mq_step (mq_tT lL) ins pc nx a b c kk L (w :: V) h = mq_nx nx (mq_sv L a w) V h) : ck_out lL h0 h r m pc nx L st q := by
  obtain ⟨v, R, w, V, rfl, t, rfl, e, RS1, rfl⟩ := ck_st_inv H RS
  exact ⟨mq_sv L a w, V, r, ck_ex.rf r, G, ck_sv_ok RL e, RS1, fun _ hA => at_nx hP (hs v w V t e) rfl hA⟩
theorem ck_isR_in {v : ck_A} {w : Value} (hv : ck_isR v = true) (e : ck_rl h0 r v w) : (v.1 = 3 ∧ w = .retAddr v.2.1) ∨ (v.1 = 5 ∧ r[v.2.1]? = some w ∧ ∃ p, w = .ref p ∧ ck_P v.2.2 h0 p) := by
  unfold ck_isR at hv
  rw [Bool.or_eq_true] at hv
  unfold ck_rl at e
  rcases hv with t | t
  · have t := Nat.eq_of_beq_eq_true t
    rw [t] at e
    exact Or.inl ⟨t, e⟩
  · have t := Nat.eq_of_beq_eq_true t
    rw [t] at e
    exact Or.inr ⟨t, e⟩
theorem ck_rd_ok {k : ck_K} {iv : Option (Int × Int)} {p : ck_A × ck_Z} (H : ck_rd k iv Z = some p) (G : ck_g h0 r h Z) {x : Int32} (hk : ∀ v, ck_pl h0 r h k v → ck_rl h0 r v (.int x)) (hn : ∀ l u, iv = some (l, u) → l ≤ x.toInt ∧ x.toInt ≤ u) (hp : ∀ r' v, ck_ex r r' → ck_rl h0 r' v (.int x) → ck_pl h0 r' h k v) : ck_ro h0 h r p x := by
  unfold ck_rd at H
  cases t : ck_get Z.2.2.2.2 k with
  | some w =>
    rw [t] at H
    cases H
    exact ck_ro.same G (hk w (G.2.2.2.2 _ (ck_get_ok t)))
  | none =>
    rw [t] at H
    dsimp only at H
    cases iv with
    | none => cases H
    | some lu =>
      obtain ⟨l, u⟩ := lu
      cases H
      obtain ⟨h1, h2⟩ := hn l u rfl
      obtain ⟨g1, g2⟩ := ck_nw_ok G h1 h2
      exact ⟨_, ck_ex.one r _, ck_hp_ok g1 (hp _ _ (ck_ex.one r _) g2), g2⟩
end CK5
