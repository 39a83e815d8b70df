/-! REASONING ABOUT RUNS: 'mq_At' (from a place of a method the run returns, with Q), 'mq_Call', and 'mq_wp', which steps on by computing -/
def mq_At (P : mq_P) (T : mq_T) (m pc : Nat) (L : mq_L) (st : List Value) (h : mq_H) (Q : Option Value → mq_H → Prop) : Prop := ∃ (f : Nat) (v : Option Value) (h' : mq_H), mq_run P T f m pc L st h = some (v, h') ∧ Q v h'
def mq_Call (P : mq_P) (T : mq_T) (m : Nat) (as : List Value) (h : mq_H) (Q : Option Value → mq_H → Prop) : Prop := ∃ L, mq_args P m as = some L ∧ mq_At P T m 0 L [] h Q
theorem mq_mono1 {P : mq_P} {T : mq_T} {r1 r2 : Nat → Nat → mq_L → List Value → mq_H → Option (Option Value × mq_H)} (hr : ∀ m pc L st h x, r1 m pc L st h = some x → r2 m pc L st h = some x) {m pc : Nat} {L : mq_L} {st : List Value} {h : mq_H} {x : Option Value × mq_H} (hx : mq_body P T r1 m pc L st h = some x) : mq_body P T r2 m pc L st h = some x := by
  unfold mq_body at hx ⊢
  cases hP : P.2 m pc with
  | none => rw [hP] at hx; cases hx
  | some e =>
    obtain ⟨ins, nx, a, b, c, k, j⟩ := e
    rw [hP] at hx
    dsimp only at hx ⊢
    cases hs : mq_step T ins pc nx a b c k L st h with
    | none => rw [hs] at hx; cases hx
    | some X =>
      rw [hs] at hx
      unfold mq_af at hx ⊢
      rcases X with ⟨g, pc', L', st', h'⟩ | ⟨o, x', y, t, e, st'⟩ | ⟨g, o, pc', st'⟩ | ⟨x', l, d, st'⟩ | ⟨g, m', as, st', pc'⟩ | ⟨g, v⟩
      · dsimp only at hx ⊢
        cases hg : mq_gB g with
        | false => rw [hg] at hx; cases hx
        | true => rw [hg] at hx; exact hr _ _ _ _ _ _ hx
      · exact hr _ _ _ _ _ _ hx
      · dsimp only at hx ⊢
        cases hg : mq_gB g with
        | false => rw [hg] at hx; cases hx
        | true => rw [hg] at hx; exact hr _ _ _ _ _ _ hx
      · exact hr _ _ _ _ _ _ hx
      · dsimp only at hx ⊢
        cases hg : mq_gB g with
        | false => rw [hg] at hx; cases hx
        | true =>
          rw [hg] at hx
          dsimp only [cond_true] at hx ⊢
          cases ha : mq_args P m' as with
          | none => rw [ha] at hx; cases hx
          | some L' =>
            rw [ha] at hx
            dsimp only at hx ⊢
            cases hc : r1 m' 0 L' [] h with
            | none => rw [hc] at hx; cases hx
            | some z =>
              obtain ⟨v, h'⟩ := z
              rw [hc] at hx
              rw [hr _ _ _ _ _ _ hc]
              exact hr _ _ _ _ _ _ hx
      · exact hx
theorem mq_mono {P : mq_P} {T : mq_T} : ∀ (f : Nat) (m pc : Nat) (L : mq_L) (st : List Value) (h : mq_H) (x : Option Value × mq_H), mq_run P T f m pc L st h = some x → mq_run P T (f + 1) m pc L st h = some x
  | 0, _, _, _, _, _, _, h => by cases h
  | f + 1, _, _, _, _, _, _, h => mq_mono1 (mq_mono f) h
theorem mq_monoL {P : mq_P} {T : mq_T} {f g : Nat} (hfg : f ≤ g) {m pc : Nat} {L : mq_L} {st : List Value} {h : mq_H} {x : Option Value × mq_H} (hx : mq_run P T f m pc L st h = some x) : mq_run P T g m pc L st h = some x := by
  induction hfg with
  | refl => exact hx
  | step _ ih => exact mq_mono _ _ _ _ _ _ _ ih
theorem mq_At.mono {P : mq_P} {T : mq_T} {m pc : Nat} {L : mq_L} {st : List Value} {h : mq_H} {Q Q' : Option Value → mq_H → Prop} (hA : mq_At P T m pc L st h Q) (hq : ∀ v h', Q v h' → Q' v h') : mq_At P T m pc L st h Q' := by
  obtain ⟨f, v, h', h1, h2⟩ := hA
  exact ⟨f, v, h', h1, hq _ _ h2⟩
theorem mq_Call.mono {P : mq_P} {T : mq_T} {m : Nat} {as : List Value} {h : mq_H} {Q Q' : Option Value → mq_H → Prop} (hA : mq_Call P T m as h Q) (hq : ∀ v h', Q v h' → Q' v h') : mq_Call P T m as h Q' := by
  obtain ⟨L, h1, h2⟩ := hA
  exact ⟨L, h1, mq_At.mono h2 hq⟩
def mq_inC : List Nat → Nat → Bool
  | [], _ => false
  | c :: r, p => bif Nat.beq c p then true else mq_inC r p
def mq_fL : mq_L → (mq_L → Prop) → Prop
  | [], k => k []
  | x :: r, k => mq_fL r (fun s => k (x :: s))
def mq_fS : List Value → (List Value → Prop) → Prop
  | [], k => k []
  | x :: r, k => mq_fS r (fun s => k (x :: s))
theorem mq_fL_eq : ∀ (l : mq_L) (k : mq_L → Prop), mq_fL l k → k l
  | [], _, h => h
  | _ :: r, _, h => mq_fL_eq r _ h
theorem mq_fS_eq : ∀ (l : List Value) (k : List Value → Prop), mq_fS l k → k l
  | [], _, h => h
  | _ :: r, _, h => mq_fS_eq r _ h
def mq_gP : Option Bool → Prop → Prop
  | none, A => A
  | some g, A => g = true ∧ A
def mq_bP (o : Jvm.ClassFile.Cond) (x y : Int32) (A B : Prop) : Prop := match o with
  | .eq => (x = y → A) ∧ (¬ x = y → B)
  | .ne => (¬ x = y → A) ∧ (x = y → B)
  | .lt => (x < y → A) ∧ (¬ x < y → B)
  | .ge => (y ≤ x → A) ∧ (¬ y ≤ x → B)
  | .gt => (y < x → A) ∧ (¬ y < x → B)
  | .le => (x ≤ y → A) ∧ (¬ x ≤ y → B)
def mq_sP (x : Int32) (k : Nat → Prop) (d : Nat) : List (Int32 × Nat) → Prop
  | [] => k d
  | (a, t) :: r => (x = a → k t) ∧ (¬ x = a → mq_sP x k d r)
def mq_kP (cs : List Nat) (pc : Nat) (A B : Prop) : Prop := match mq_inC cs pc with
  | true => A
  | false => B
theorem mq_gP_ok {g : Option Bool} {A : Prop} (h : mq_gP g A) : mq_gB g = true ∧ A := by
  cases g with
  | none => exact ⟨rfl, h⟩
  | some b => exact h
theorem mq_bP_ok {o : Jvm.ClassFile.Cond} {x y : Int32} {A B : Prop} (h : mq_bP o x y A B) : (mq_cmp o x y = true ∧ A) ∨ (mq_cmp o x y = false ∧ B) := by
  cases o <;> simp only [mq_bP] at h <;> simp only [mq_cmp, decide_eq_true_eq, decide_eq_false_iff_not]
  · by_cases e : x = y
    · exact Or.inl ⟨e, h.1 e⟩
    · exact Or.inr ⟨e, h.2 e⟩
  · by_cases e : x = y
    · exact Or.inr ⟨fun q => q e, h.2 e⟩
    · exact Or.inl ⟨e, h.1 e⟩
  · by_cases e : x < y
    · exact Or.inl ⟨e, h.1 e⟩
    · exact Or.inr ⟨e, h.2 e⟩
  · by_cases e : y ≤ x
    · exact Or.inl ⟨e, h.1 e⟩
    · exact Or.inr ⟨e, h.2 e⟩
  · by_cases e : y < x
    · exact Or.inl ⟨e, h.1 e⟩
    · exact Or.inr ⟨e, h.2 e⟩
  · by_cases e : x ≤ y
    · exact Or.inl ⟨e, h.1 e⟩
    · exact Or.inr ⟨e, h.2 e⟩
theorem mq_sP_ok {x : Int32} {k : Nat → Prop} {d : Nat} : ∀ {l : List (Int32 × Nat)}, mq_sP x k d l → k (mq_find x l d)
  | [], h => h
  | (a, t) :: r, h => by
    by_cases e : x = a
    · have : mq_find x ((a, t) :: r) d = t := by simp [mq_find, e]
      rw [this]; exact h.1 e
    · have : mq_find x ((a, t) :: r) d = mq_find x r d := by simp [mq_find, e]
      rw [this]; exact mq_sP_ok (h.2 e)
/-- stepping on: stops at the places cs, at calls, branches, and what is to be shown -/
def mq_wp (P : mq_P) (T : mq_T) (cs : List Nat) : Nat → Nat → Nat → mq_L → List Value → mq_H → (Option Value → mq_H → Prop) → Prop
  | 0, m, pc, L, st, h, Q => mq_At P T m pc L st h Q
  | f + 1, m, pc, L, st, h, Q => match P.2 m pc with
    | none => False
    | some (ins, nx, a, b, c, k, _) => match mq_step T ins pc nx a b c k L st h with
      | none => False
      | some (.inl (g, pc', L', st', h')) => mq_gP g (mq_fL L' (fun L2 => mq_fS st' (fun st2 => mq_kP cs pc' (mq_At P T m pc' L2 st2 h' Q) (mq_wp P T cs f m pc' L2 st2 h' Q))))
      | some (.inr (.inl (o, x, y, t, e, st'))) => mq_bP o x y (mq_kP cs t (mq_At P T m t L st' h Q) (mq_wp P T cs f m t L st' h Q)) (mq_kP cs e (mq_At P T m e L st' h Q) (mq_wp P T cs f m e L st' h Q))
      | some (.inr (.inr (.inl (g, o, pc', st')))) => mq_gP g ((o = none → mq_wp P T cs f m pc' L (.null :: st') h Q) ∧ (∀ q : Nat, o = some q → mq_wp P T cs f m pc' L (.ref q :: st') h Q))
      | some (.inr (.inr (.inr (.inl (x, l, d, st'))))) => mq_sP x (fun t => mq_wp P T cs f m t L st' h Q) d l
      | some (.inr (.inr (.inr (.inr (.inl (g, m', as, st', pc')))))) => mq_gP g (mq_Call P T m' as h (fun v h' => mq_fS (mq_tl v st') (fun st2 => mq_kP cs pc' (mq_At P T m pc' L st2 h' Q) (mq_wp P T cs f m pc' L st2 h' Q))))
      | some (.inr (.inr (.inr (.inr (.inr (g, v)))))) => mq_gP g (Q v h)
theorem mq_kP_ok {cs : List Nat} {pc : Nat} {A B : Prop} (h : mq_kP cs pc A B) (hb : B → A) : A := by
  unfold mq_kP at h
  split at h
  · exact h
  · exact hb h
theorem mq_At.step {P : mq_P} {T : mq_T} {m pc : Nat} {L : mq_L} {st : List Value} {h : mq_H} {Q : Option Value → mq_H → Prop} {m' pc' : Nat} {L' : mq_L} {st' : List Value} {h' : mq_H} (hA : mq_At P T m' pc' L' st' h' Q) (hs : ∀ f x, mq_run P T f m' pc' L' st' h' = some x → mq_body P T (mq_run P T f) m pc L st h = some x) : mq_At P T m pc L st h Q := by
  obtain ⟨f, v, h2, h1, hq⟩ := hA
  exact ⟨f + 1, v, h2, hs f _ h1, hq⟩
theorem mq_wp_At {P : mq_P} {T : mq_T} {cs : List Nat} : ∀ (f m pc : Nat) (L : mq_L) (st : List Value) (h : mq_H) (Q : Option Value → mq_H → Prop), mq_wp P T cs f m pc L st h Q → mq_At P T m pc L st h Q
  | 0, _, _, _, _, _, _, hw => hw
  | f + 1, m, pc, L, st, h, Q, hw => by
    unfold mq_wp at hw
    cases hP : P.2 m pc with
    | none => rw [hP] at hw; exact hw.elim
    | some e =>
      obtain ⟨ins, nx, a, b, c, k, j⟩ := e
      rw [hP] at hw
      dsimp only at hw
      cases hs : mq_step T ins pc nx a b c k L st h with
      | none => rw [hs] at hw; exact hw.elim
      | some X =>
        rw [hs] at hw
        have hbody : ∀ rn, mq_body P T rn m pc L st h = mq_af P rn m L h (some X) := by
          intro rn
          unfold mq_body
          rw [hP]
          dsimp only
          rw [hs]
        rcases X with ⟨g, pc', L', st', h'⟩ | ⟨o, x', y, t, e, st'⟩ | ⟨g, o, pc', st'⟩ | ⟨x', l, d, st'⟩ | ⟨g, m', as, st', pc'⟩ | ⟨g, v⟩
        · obtain ⟨hg, hw⟩ := mq_gP_ok hw
          have hw := mq_fS_eq _ _ (mq_fL_eq _ _ hw)
          have hA := mq_kP_ok hw (mq_wp_At f _ _ _ _ _ _)
          refine hA.step (fun f x hx => ?_)
          rw [hbody]
          dsimp only [mq_af]
          rw [hg]
          exact hx
        · rcases mq_bP_ok hw with ⟨hc, hw⟩ | ⟨hc, hw⟩
          · have hA := mq_kP_ok hw (mq_wp_At f _ _ _ _ _ _)
            refine hA.step (fun f x hx => ?_)
            rw [hbody]
            dsimp only [mq_af]
            rw [hc]
            exact hx
          · have hA := mq_kP_ok hw (mq_wp_At f _ _ _ _ _ _)
            refine hA.step (fun f x hx => ?_)
            rw [hbody]
            dsimp only [mq_af]
            rw [hc]
            exact hx
        · obtain ⟨hg, h1, h2⟩ := mq_gP_ok hw
          cases o with
          | none =>
            refine (mq_wp_At f _ _ _ _ _ _ (h1 rfl)).step (fun f x hx => ?_)
            rw [hbody]
            dsimp only [mq_af]
            rw [hg]
            exact hx
          | some q =>
            refine (mq_wp_At f _ _ _ _ _ _ (h2 q rfl)).step (fun f x hx => ?_)
            rw [hbody]
            dsimp only [mq_af]
            rw [hg]
            exact hx
        · refine (mq_wp_At f _ _ _ _ _ _ (mq_sP_ok hw)).step (fun f x hx => ?_)
          rw [hbody]
          exact hx
        · obtain ⟨hg, L', hL', f1, v, h', hr1, hk⟩ := mq_gP_ok hw
          have hw := mq_fS_eq _ _ hk
          obtain ⟨f2, v2, h2, hr2, hq⟩ := mq_kP_ok hw (mq_wp_At f _ _ _ _ _ _)
          refine ⟨(f1 + f2) + 1, v2, h2, ?_, hq⟩
          show mq_body P T (mq_run P T (f1 + f2)) m pc L st h = _
          rw [hbody]
          dsimp only [mq_af]
          rw [hg]
          dsimp only [cond_true]
          rw [hL']
          dsimp only
          rw [mq_monoL (Nat.le_add_right f1 f2) hr1]
          exact mq_monoL (Nat.le_add_left f2 f1) hr2
        · obtain ⟨hg, hq⟩ := mq_gP_ok hw
          refine ⟨1, v, h, ?_, hq⟩
          show mq_body P T (mq_run P T 0) m pc L st h = _
          rw [hbody]
          dsimp only [mq_af]
          rw [hg]
          rfl
/-- go on by computing -/
theorem mq_go {P : mq_P} {T : mq_T} {m pc : Nat} {L : mq_L} {st : List Value} {h : mq_H} {Q : Option Value → mq_H → Prop} (f : Nat) (cs : List Nat) (hw : mq_wp P T cs f m pc L st h Q) : mq_At P T m pc L st h Q := mq_wp_At f m pc L st h Q hw
/-- the start of a call -/
def mq_eP (P : mq_P) (m : Nat) (as : List Value) (k : mq_L → Prop) : Prop := match mq_args P m as with
  | some L => mq_fL L k
  | none => False
theorem mq_enter {P : mq_P} {T : mq_T} {m : Nat} {as : List Value} {h : mq_H} {Q : Option Value → mq_H → Prop} (f : Nat) (cs : List Nat) (hw : mq_eP P m as (fun L => mq_wp P T cs f m 0 L [] h Q)) : mq_Call P T m as h Q := by
  unfold mq_eP at hw
  split at hw
  · rename_i L hL
    exact ⟨L, hL, mq_wp_At f m 0 _ [] h Q (mq_fL_eq _ _ hw)⟩
  · exact hw.elim
