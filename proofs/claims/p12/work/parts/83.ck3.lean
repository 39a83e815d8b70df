/-! THE CHECKER, 4: steps that go straight on and leave the heap as it is -/
section CK3
variable {T : mq_T} {m pc nx a b c j : Nat} {kk : Int32} {ins : Instr} {L : mq_L} {st : List Value} {h : mq_H} {Q : Option Value → mq_H → Prop}
theorem at_nx {nx0 pc' : Nat} {g : Option Bool} {L' : mq_L} {st' : List Value} {h' : mq_H} (hP : mq_cd m pc = some (ins, nx0, a, b, c, kk, j)) (hs : mq_step T ins pc nx0 a b c kk L st h = mq_gx g pc' L' st' h') (hg : mq_gB g = true) (hA : mq_At mq_G T m pc' L' st' h' Q) : mq_At mq_G T m pc L st h Q := by
  refine hA.step (fun f x hx => ?_)
  unfold mq_body
  rw [show mq_G.2 m pc = _ from hP]
  dsimp only
  rw [hs]
  dsimp only [mq_af]
  rw [hg]
  exact hx
theorem at_ox {nx0 pc' q : Nat} {g : Option Bool} {o : Option Nat} {st' : List Value} (hP : mq_cd m pc = some (ins, nx0, a, b, c, kk, j)) (hs : mq_step T ins pc nx0 a b c kk L st h = mq_ox g o pc' st') (ho : o = some q) (hg : mq_gB g = true) (hA : mq_At mq_G T m pc' L (.ref q :: st') h Q) : mq_At mq_G T m pc L st h Q := by
  refine hA.step (fun f x hx => ?_)
  unfold mq_body
  rw [show mq_G.2 m pc = _ from hP]
  dsimp only
  rw [hs]
  dsimp only [mq_af]
  rw [hg, ho]
  exact hx
theorem at_bx {nx0 t e : Nat} {o : Jvm.ClassFile.Cond} {x y : Int32} {st' : List Value} (hP : mq_cd m pc = some (ins, nx0, a, b, c, kk, j)) (hs : mq_step T ins pc nx0 a b c kk L st h = mq_bx o x y t e st') (hA : mq_cmp o x y = true → mq_At mq_G T m t L st' h Q) (hB : mq_cmp o x y = false → mq_At mq_G T m e L st' h Q) : mq_At mq_G T m pc L st h Q := by
  cases hc : mq_cmp o x y with
  | true =>
    refine (hA hc).step (fun f x hx => ?_)
    unfold mq_body
    rw [show mq_G.2 m pc = _ from hP]
    dsimp only
    rw [hs]
    dsimp only [mq_af]
    rw [hc]
    exact hx
  | false =>
    refine (hB hc).step (fun f x hx => ?_)
    unfold mq_body
    rw [show mq_G.2 m pc = _ from hP]
    dsimp only
    rw [hs]
    dsimp only [mq_af]
    rw [hc]
    exact hx
theorem at_sx {nx0 d : Nat} {x : Int32} {l : List (Int32 × Nat)} {st' : List Value} (hP : mq_cd m pc = some (ins, nx0, a, b, c, kk, j)) (hs : mq_step T ins pc nx0 a b c kk L st h = mq_sx x l d st') (hA : mq_At mq_G T m (mq_find x l d) L st' h Q) : mq_At mq_G T m pc L st h Q := by
  refine hA.step (fun f x hx => ?_)
  unfold mq_body
  rw [show mq_G.2 m pc = _ from hP]
  dsimp only
  rw [hs]
  exact hx
theorem at_cx {nx0 m' pc' : Nat} {g : Option Bool} {as st' : List Value} (hP : mq_cd m pc = some (ins, nx0, a, b, c, kk, j)) (hs : mq_step T ins pc nx0 a b c kk L st h = mq_cx g m' as st' pc') (hg : mq_gB g = true) (hA : mq_Call mq_G T m' as h (fun v h' => mq_At mq_G T m pc' L (mq_tl v st') h' Q)) : mq_At mq_G T m pc L st h Q := by
  obtain ⟨L', hL', f1, v, h', hr1, f2, v2, h2, hr2, hq⟩ := hA
  refine ⟨(f1 + f2) + 1, v2, h2, ?_, hq⟩
  show mq_body mq_G T (mq_run mq_G T (f1 + f2)) m pc L st h = _
  unfold mq_body
  rw [show mq_G.2 m pc = _ from hP]
  dsimp only
  rw [hs]
  dsimp only [mq_af]
  rw [hg]
  dsimp only [cond_true]
  rw [hL']
  dsimp only
  rw [mq_monoL (Nat.le_add_right f1 f2) hr1]
  exact mq_monoL (Nat.le_add_left f2 f1) hr2
theorem at_rx {nx0 : Nat} {g : Option Bool} {v : Option Value} (hP : mq_cd m pc = some (ins, nx0, a, b, c, kk, j)) (hs : mq_step T ins pc nx0 a b c kk L st h = mq_rx g v) (hg : mq_gB g = true) (hA : Q v h) : mq_At mq_G T m pc L st h Q := by
  refine ⟨1, v, h, ?_, hA⟩
  show mq_body mq_G T (mq_run mq_G T 0) m pc L st h = _
  unfold mq_body
  rw [show mq_G.2 m pc = _ from hP]
  dsimp only
  rw [hs]
  dsimp only [mq_af]
  rw [hg]
  rfl
end CK3
def ck_rL (h0 : mq_H) (r : List Value) (A : List ck_A) (L : mq_L) : Prop := A.length = L.length ∧ ∀ (i : Nat) (v : ck_A), A[i]? = some v → v.1 = 0 ∨ ∃ w : Value, L[i]? = some (some w) ∧ ck_rl h0 r v w
def ck_rS (h0 : mq_H) (r : List Value) : List ck_A → List Value → Prop
  | [], [] => True
  | a :: A, v :: V => ck_rl h0 r a v ∧ ck_rS h0 r A V
  | _, _ => False
theorem ck_rL.ex {h0 : mq_H} {r r' : List Value} {A : List ck_A} {L : mq_L} (H : ck_rL h0 r A L) (e : ck_ex r r') : ck_rL h0 r' A L := ⟨H.1, fun i v hv => by
  rcases H.2 i v hv with q | ⟨w, a, b⟩
  · exact Or.inl q
  · exact Or.inr ⟨w, a, b.ex e⟩⟩
theorem ck_rS.ex {h0 : mq_H} {r r' : List Value} (e : ck_ex r r') : ∀ {A : List ck_A} {V : List Value}, ck_rS h0 r A V → ck_rS h0 r' A V
  | [], [], _ => trivial
  | _ :: _, _ :: _, H => ⟨H.1.ex e, ck_rS.ex e H.2⟩
theorem ck_rS.cons {h0 : mq_H} {r : List Value} {a : ck_A} {A : List ck_A} {V : List Value} (H : ck_rS h0 r (a :: A) V) : ∃ v W, V = v :: W ∧ ck_rl h0 r a v ∧ ck_rS h0 r A W := by
  cases V with
  | nil => exact H.elim
  | cons v W => exact ⟨v, W, rfl, H.1, H.2⟩
theorem ck_rS.nil {h0 : mq_H} {r : List Value} {V : List Value} (H : ck_rS h0 r [] V) : V = [] := by
  cases V with
  | nil => rfl
  | cons v W => exact H.elim
def ck_ct (a : ck_A) : Nat := bif Nat.beq a.1 4 then 2 else 1
theorem ck_ct_ok {h0 : mq_H} {r : List Value} {a : ck_A} {v : Value} (H : ck_rl h0 r a v) : v.category = ck_ct a := by
  unfold ck_rl at H
  unfold ck_ct
  split at H
  · rename_i e; obtain ⟨x, y, -, rfl, -⟩ := H; rw [e]; rfl
  · rename_i e; obtain ⟨y, rfl, -⟩ := H; rw [e]; rfl
  · rename_i e; subst H; rw [e]; rfl
  · rename_i e; obtain ⟨-, x, rfl⟩ := H; rw [e]; rfl
  · rename_i e; obtain ⟨-, q, rfl, -⟩ := H; rw [e]; rfl
  · exact H.elim
def ck_sv (A : List ck_A) (i : Nat) (v : ck_A) : List ck_A := match A[i - 1]? with
  | some w => bif Nat.beq w.1 4 then (A.set (i - 1) (0, 0, 0)).set i v else A.set i v
  | none => A.set i v
theorem ck_set {h0 : mq_H} {r : List Value} {A : List ck_A} {L : mq_L} (H : ck_rL h0 r A L) (i : Nat) {v : ck_A} {o : Option Value} (hv : v.1 = 0 ∨ ∃ w, o = some w ∧ ck_rl h0 r v w) : ck_rL h0 r (A.set i v) (L.set i o) := by
  refine ⟨by simp [H.1], fun t w hw => ?_⟩
  rw [List.getElem?_set] at hw
  rw [List.getElem?_set]
  split at hw
  · rename_i e
    subst e
    split at hw
    · rename_i hl
      cases hw
      rcases hv with q | ⟨x, rfl, hx⟩
      · exact Or.inl q
      · refine Or.inr ⟨x, ?_, hx⟩
        rw [if_pos rfl, if_pos (by rw [← H.1]; exact hl)]
    · cases hw
  · rename_i e
    rw [if_neg e]
    exact H.2 t w hw
theorem ck_sv_ok {h0 : mq_H} {r : List Value} {A : List ck_A} {L : mq_L} (H : ck_rL h0 r A L) {i : Nat} {v : ck_A} {w : Value} (hv : ck_rl h0 r v w) : ck_rL h0 r (ck_sv A i v) (mq_sv L i w) := by
  have hw : v.1 = 0 ∨ ∃ x, some w = some x ∧ ck_rl h0 r v x := Or.inr ⟨w, rfl, hv⟩
  have hu : ((0, 0, 0) : ck_A).1 = 0 ∨ ∃ x, (none : Option Value) = some x ∧ ck_rl h0 r (0, 0, 0) x := Or.inl rfl
  unfold ck_sv mq_sv
  cases hA : A[i - 1]? with
  | none =>
    have hL : L[i - 1]? = none := by
      rw [List.getElem?_eq_none_iff] at hA ⊢
      rw [← H.1]; exact hA
    rw [hL]
    exact ck_set H i hw
  | some q =>
    dsimp only
    have hc := H.2 _ _ hA
    cases t : Nat.beq q.1 4 with
    | true =>
      have e := Nat.eq_of_beq_eq_true t
      rcases hc with z | ⟨x, hx, hq⟩
      · rw [z] at e; cases e
      · rw [hx]
        dsimp only
        have := ck_ct_ok hq
        unfold ck_ct at this
        rw [t] at this
        rw [this]
        exact ck_set (ck_set H (i - 1) hu) i hw
    | false =>
      simp only [cond_false]
      rcases hc with z | ⟨x, hx, hq⟩
      · split
        · rename_i y hy
          cases Nat.beq y.category 2 with
          | false => exact ck_set H i hw
          | true =>
            have : A.set (i - 1) q = A := by
              apply List.ext_getElem?
              intro n
              rw [List.getElem?_set]
              split
              · rename_i e; subst e
                rw [hA]
                split
                · rfl
                · rename_i hn; rw [List.getElem?_eq_none (by omega)] at hA; cases hA
              · rfl
            have K := ck_set (ck_set H (i - 1) (v := q) (o := none) (Or.inl z)) i hw
            rw [this] at K
            exact K
        · exact ck_set H i hw
      · rw [hx]
        dsimp only
        have := ck_ct_ok hq
        unfold ck_ct at this
        rw [t] at this
        rw [this]
        exact ck_set H i hw
def ck_get : ck_Hs → ck_K → Option ck_A
  | [], _ => none
  | (k, v) :: r, q => bif ck_ke k q then some v else ck_get r q
theorem ck_get_ok : ∀ {H : ck_Hs} {k : ck_K} {v : ck_A}, ck_get H k = some v → (k, v) ∈ H
  | [], _, _, e => by cases e
  | (k', v') :: r, k, v, e => by
    unfold ck_get at e
    cases t : ck_ke k' k with
    | true =>
      rw [t] at e
      have := ck_ke_eq t
      subst this
      cases e
      exact List.mem_cons_self
    | false =>
      rw [t] at e
      exact List.mem_cons_of_mem _ (ck_get_ok e)
/-- one more place known -/
def ck_hp (k : ck_K) (v : ck_A) (Z : ck_Z) : ck_Z := (Z.1, Z.2.1, Z.2.2.1, Z.2.2.2.1, (k, v) :: Z.2.2.2.2)
theorem ck_hp_ok {h0 h : mq_H} {r : List Value} {Z : ck_Z} (G : ck_g h0 r h Z) {k : ck_K} {v : ck_A} (hk : ck_pl h0 r h k v) : ck_g h0 r h (ck_hp k v Z) := ⟨G.1, G.2.1, G.2.2.1, G.2.2.2.1, fun q hq => by
  rcases List.mem_cons.mp hq with rfl | hq
  · exact hk
  · exact G.2.2.2.2 q hq⟩
/-- THE INVARIANT: ints of the static cells lie in their intervals; the laws are laws -/
def ck_IvI (h : mq_H) : Prop := (∀ a k l u, ck_ivo a k = some (l, u) → l ≤ (mq_I h a k).toInt ∧ (mq_I h a k).toInt ≤ u) ∧ ∀ a n l u, ck_iva a = some (n, l, u) → ∀ k, k < n → l ≤ (mq_I h a k).toInt ∧ (mq_I h a k).toInt ≤ u
def ck_IvD (h : mq_H) : Prop := ∀ i, i < 8 → ∃ q, mq_R h 13 i = some q ∧ ck_P1 h q
theorem ck_IvD.md {M : Nat} {h h' : mq_H} (H : ck_IvD h) (m : ck_md M h h') (h0 : Nat.testBit M 0 = false) : ck_IvD h' := fun i hi => by
  obtain ⟨q, a, b⟩ := H i hi
  exact ⟨q, by rw [m.2.2.2.1]; exact a, b.md m h0⟩
theorem ck_tS {lL a : Nat} {s : mq_S} (e : mq_tS1 a = some s) : (mq_tT lL).1 a = some s := by
  show mq_tS lL a = some s
  unfold mq_tS
  cases t : Nat.beq a 0 with
  | false => exact e
  | true =>
    have := Nat.eq_of_beq_eq_true t
    subst this
    cases e
