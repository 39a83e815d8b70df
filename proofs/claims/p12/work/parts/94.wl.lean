/-! PARTIAL CORRECTNESS: what holds of a run that returns; guards are given, not owed -/
section WL
variable {P : mq_P} {T : mq_T}
def mq_Pn (P : mq_P) (T : mq_T) (n m pc : Nat) (L : mq_L) (st : List Value) (h : mq_H) (Q : Option Value → mq_H → Prop) : Prop := ∀ f, f ≤ n → ∀ v h', mq_run P T f m pc L st h = some (v, h') → Q v h'
def mq_PC (P : mq_P) (T : mq_T) (n m : Nat) (as : List Value) (h : mq_H) (Q : Option Value → mq_H → Prop) : Prop := ∀ L, mq_args P m as = some L → mq_Pn P T n m 0 L [] h Q
def mq_gI : Option Bool → Prop → Prop
  | none, A => A
  | some g, A => g = true → A
def mq_wl (P : mq_P) (T : mq_T) (n : Nat) (cs : List Nat) : Nat → Nat → Nat → mq_L → List Value → mq_H → (Option Value → mq_H → Prop) → Prop
  | 0, m, pc, L, st, h, Q => mq_Pn P T n m pc L st h Q
  | f + 1, m, pc, L, st, h, Q => match P.2 m pc with
    | none => True
    | some (ins, nx, a, b, c, k, _) => match mq_step T ins pc nx a b c k L st h with
      | none => True
      | some (.inl (g, pc', L', st', h')) => mq_gI g (mq_fL L' (fun L2 => mq_fS st' (fun st2 => mq_kP cs pc' (mq_Pn P T n m pc' L2 st2 h' Q) (mq_wl P T n cs f m pc' L2 st2 h' Q))))
      | some (.inr (.inl (o, x, y, t, e, st'))) => mq_bP o x y (mq_kP cs t (mq_Pn P T n m t L st' h Q) (mq_wl P T n cs f m t L st' h Q)) (mq_kP cs e (mq_Pn P T n m e L st' h Q) (mq_wl P T n cs f m e L st' h Q))
      | some (.inr (.inr (.inl (g, o, pc', st')))) => mq_gI g ((o = none → mq_wl P T n cs f m pc' L (.null :: st') h Q) ∧ (∀ q : Nat, o = some q → mq_wl P T n cs f m pc' L (.ref q :: st') h Q))
      | some (.inr (.inr (.inr (.inl (x, l, d, st'))))) => mq_sP x (fun t => mq_wl P T n cs f m t L st' h Q) d l
      | some (.inr (.inr (.inr (.inr (.inl (g, m', as, st', pc')))))) => mq_gI g (mq_PC P T n m' as h (fun v h' => mq_fS (mq_tl v st') (fun st2 => mq_kP cs pc' (mq_Pn P T n m pc' L st2 h' Q) (mq_wl P T n cs f m pc' L st2 h' Q))))
      | some (.inr (.inr (.inr (.inr (.inr (g, v)))))) => mq_gI g (Q v h)
theorem mq_gI_ok {g : Option Bool} {A : Prop} (h : mq_gI g A) (hg : mq_gB g = true) : A := by
  cases g with
  | none => exact h
  | some b => exact h hg
theorem mq_Pn.dn {n k m pc : Nat} {L : mq_L} {st : List Value} {h : mq_H} {Q : Option Value → mq_H → Prop} (H : mq_Pn P T n m pc L st h Q) (hk : k ≤ n) : mq_Pn P T k m pc L st h Q := fun f hf => H f (by omega)
theorem mq_bif_none {α : Type} {b : Bool} {x : Option α} {y : α} (h : (bif b then x else none) = some y) : b = true ∧ x = some y := by
  cases b with
  | true => exact ⟨rfl, h⟩
  | false => cases h
theorem mq_wl_Pn {n : Nat} {cs : List Nat} : ∀ (f m pc : Nat) (L : mq_L) (st : List Value) (h : mq_H) (Q : Option Value → mq_H → Prop), mq_wl P T n cs (f + 1) m pc L st h Q → mq_Pn P T (n + 1) m pc L st h Q := by
  intro f
  induction f with
  | zero => ?_
  | succ f ih => ?_
  all_goals
    intro m pc L st h Q hw k hk v h' hr
    match k, hk, hr with
    | 0, _, hr => cases hr
    | k + 1, hk, hr =>
      replace hr : mq_body P T (mq_run P T k) m pc L st h = some (v, h') := hr
      unfold mq_body at hr
      unfold mq_wl at hw
      cases hP : P.2 m pc with
      | none => rw [hP] at hr; cases hr
      | some e =>
        obtain ⟨ins, nx, a, b, c, kk, j⟩ := e
        rw [hP] at hw hr
        dsimp only at hw hr
        cases hs : mq_step T ins pc nx a b c kk L st h with
        | none => rw [hs] at hr; cases hr
        | some X =>
          rw [hs] at hw hr
          unfold mq_af at hr
          rcases X with ⟨g, pc', L', st', h2⟩ | ⟨o, x', y, t, e, st'⟩ | ⟨g, o, pc', st'⟩ | ⟨x', l, d, st'⟩ | ⟨g, m', as, st', pc'⟩ | ⟨g, v2⟩ <;> dsimp only at hw hr
          · obtain ⟨hg, hr⟩ := mq_bif_none hr
            have hw := mq_fS_eq _ _ (mq_fL_eq _ _ (mq_gI_ok hw hg))
            exact mq_kP_ok hw (fun z => by first | exact z | exact (ih _ _ _ _ _ _ z).dn (by omega)) k (by omega) v h' hr
          · rcases mq_bP_ok hw with ⟨hc, hw⟩ | ⟨hc, hw⟩
            · rw [hc] at hr
              exact mq_kP_ok hw (fun z => by first | exact z | exact (ih _ _ _ _ _ _ z).dn (by omega)) k (by omega) v h' hr
            · rw [hc] at hr
              exact mq_kP_ok hw (fun z => by first | exact z | exact (ih _ _ _ _ _ _ z).dn (by omega)) k (by omega) v h' hr
          · obtain ⟨hg, hr⟩ := mq_bif_none hr
            obtain ⟨h1, h2⟩ := mq_gI_ok hw hg
            cases o with
            | none =>
              have z := h1 rfl
              have z : mq_Pn P T n m pc' L (.null :: st') h Q := by first | exact z | exact (ih _ _ _ _ _ _ z).dn (by omega)
              exact z k (by omega) v h' hr
            | some q =>
              have z := h2 q rfl
              have z : mq_Pn P T n m pc' L (.ref q :: st') h Q := by first | exact z | exact (ih _ _ _ _ _ _ z).dn (by omega)
              exact z k (by omega) v h' hr
          · have z := mq_sP_ok hw
            have z : mq_Pn P T n m (mq_find x' l d) L st' h Q := by first | exact z | exact (ih _ _ _ _ _ _ z).dn (by omega)
            exact z k (by omega) v h' hr
          · obtain ⟨hg, hr⟩ := mq_bif_none hr
            have hw := mq_gI_ok hw hg
            cases ha : mq_args P m' as with
            | none => rw [ha] at hr; cases hr
            | some L' =>
              rw [ha] at hr
              dsimp only at hr
              cases hc : mq_run P T k m' 0 L' [] h with
              | none => rw [hc] at hr; cases hr
              | some z =>
                obtain ⟨v1, h1⟩ := z
                rw [hc] at hr
                have hw := mq_fS_eq _ _ (hw L' ha k (by omega) v1 h1 hc)
                exact mq_kP_ok hw (fun z => by first | exact z | exact (ih _ _ _ _ _ _ z).dn (by omega)) k (by omega) v h' hr
          · obtain ⟨hg, hr⟩ := mq_bif_none hr
            cases hr
            exact mq_gI_ok hw hg
theorem mq_gl {n m pc : Nat} {L : mq_L} {st : List Value} {h : mq_H} {Q : Option Value → mq_H → Prop} (f : Nat) (cs : List Nat) (hw : mq_wl P T n cs (f + 1) m pc L st h Q) : mq_Pn P T (n + 1) m pc L st h Q := mq_wl_Pn f m pc L st h Q hw
theorem mq_Pn.z {m pc : Nat} {L : mq_L} {st : List Value} {h : mq_H} {Q : Option Value → mq_H → Prop} : mq_Pn P T 0 m pc L st h Q := fun f hf v h' hr => by
  have : f = 0 := by omega
  subst this
  cases hr
theorem mq_el_in {m : Nat} {as : List Value} {h : mq_H} {Q : Option Value → mq_H → Prop} (f : Nat) (cs : List Nat) (hw : ∀ n, mq_eP P m as (fun L => mq_wl P T n cs (f + 1) m 0 L [] h Q)) : ∀ n, mq_PC P T n m as h Q := by
  intro n L hL
  cases n with
  | zero => exact mq_Pn.z
  | succ n =>
    have hw := hw n
    unfold mq_eP at hw
    rw [hL] at hw
    exact mq_wl_Pn f m 0 L [] h Q (mq_fL_eq _ _ hw)
theorem mq_PC.mono {n m : Nat} {as : List Value} {h : mq_H} {Q Q' : Option Value → mq_H → Prop} (H : mq_PC P T n m as h Q) (hq : ∀ v h', Q v h' → Q' v h') : mq_PC P T n m as h Q' := fun L hL f hf v h' hr => hq v h' (H L hL f hf v h' hr)
/-- runs are functions -/
theorem mq_run_fn {f g m pc : Nat} {L : mq_L} {st : List Value} {h : mq_H} {x y : Option Value × mq_H} (hx : mq_run P T f m pc L st h = some x) (hy : mq_run P T g m pc L st h = some y) : x = y := by
  have a := mq_monoL (Nat.le_max_left f g) hx
  have b := mq_monoL (Nat.le_max_right f g) hy
  rw [a] at b
  cases b
  rfl
theorem mq_Call.pc {m : Nat} {as : List Value} {h : mq_H} {Q : Option Value → mq_H → Prop} (H : mq_Call P T m as h Q) (n : Nat) : mq_PC P T n m as h Q := by
  intro L hL f hf v h' hr
  obtain ⟨L2, hL2, f2, v2, h2, hr2, hq⟩ := H
  rw [hL] at hL2
  cases hL2
  cases mq_run_fn hr hr2
  exact hq
/-- it returns, and what holds if it returns -/
theorem mq_Call.and {m : Nat} {as : List Value} {h : mq_H} {Q Q' : Option Value → mq_H → Prop} (H : mq_Call P T m as h Q) (K : ∀ n, mq_PC P T n m as h Q') : mq_Call P T m as h (fun v h' => Q v h' ∧ Q' v h') := by
  obtain ⟨L, hL, f, v, h', hr, hq⟩ := H
  exact ⟨L, hL, f, v, h', hr, hq, K f L hL f (Nat.le_refl _) v h' hr⟩
end WL
