/-! a run only makes cells -/
def mq_le (h h' : mq_H) : Prop := mq_N h ≤ mq_N h' ∧ mq_Z h ≤ mq_Z h'
theorem mq_le.rf (h : mq_H) : mq_le h h := ⟨Nat.le_refl _, Nat.le_refl _⟩
theorem mq_le.tr {a b c : mq_H} (h1 : mq_le a b) (h2 : mq_le b c) : mq_le a c := ⟨Nat.le_trans h1.1 h2.1, Nat.le_trans h1.2 h2.2⟩
theorem mq_gfN {T : mq_T} {h h' : mq_H} {v : Value} {ci k kind nx pc' : Nat} {L L' : mq_L} {r st' : List Value} {g : Option Bool} (hs : mq_gf T h v ci k kind nx L r = some (.inl (g, pc', L', st', h'))) : mq_le h h' := by
  unfold mq_gf at hs
  simp only [Bool.cond_eq_ite] at hs
  repeat' split at hs
  all_goals first | (cases hs; done) | (cases hs; exact mq_le.rf _)
theorem mq_pfN {T : mq_T} {h h' : mq_H} {x v : Value} {ci k kind nx pc' : Nat} {L L' : mq_L} {r st' : List Value} {g : Option Bool} (hs : mq_pf T h x v ci k kind nx L r = some (.inl (g, pc', L', st', h'))) : mq_le h h' := by
  unfold mq_pf at hs
  repeat' split at hs
  all_goals first | (cases hs; done) | (cases hs; exact mq_le.rf _)
theorem mq_copyN {T : mq_T} {h h' : mq_H} {ty nx pc' : Nat} {L L' : mq_L} {st st' : List Value} {g : Option Bool} (hs : mq_copy T h ty nx L st = some (.inl (g, pc', L', st', h'))) : mq_le h h' := by
  unfold mq_copy at hs
  simp only [Bool.cond_eq_ite] at hs
  repeat' split at hs
  all_goals first | (cases hs; done) | (cases hs; exact mq_le.rf _)
set_option maxHeartbeats 4000000 in
theorem mq_stepN {T : mq_T} {ins : Instr} {pc nx a b c pc' : Nat} {k : Int32} {L L' : mq_L} {st st' : List Value} {h h' : mq_H} {g : Option Bool} (hs : mq_step T ins pc nx a b c k L st h = some (.inl (g, pc', L', st', h'))) : mq_le h h' := by
  have hnew : ∀ sh z, mq_le h (mq_new h sh z) := fun sh z => ⟨Nat.le_succ _, Nat.le_add_right _ _⟩
  cases ins <;> dsimp only [mq_step] at hs
  all_goals first
    | (cases hs; done)
    | (cases hs; exact mq_le.rf _)
    | (cases hs; exact hnew _ _)
    | (unfold mq_ldI at hs; split at hs <;> cases hs <;> exact mq_le.rf _)
    | (unfold mq_ldJ at hs; split at hs <;> cases hs <;> exact mq_le.rf _)
    | (unfold mq_ldA at hs; split at hs <;> cases hs <;> exact mq_le.rf _)
    | (unfold mq_stI at hs; split at hs <;> cases hs <;> exact mq_le.rf _)
    | (unfold mq_stJ at hs; split at hs <;> cases hs <;> exact mq_le.rf _)
    | (unfold mq_stA at hs; split at hs <;> cases hs <;> exact mq_le.rf _)
    | (unfold mq_c0 at hs; split at hs <;> cases hs)
    | (unfold mq_cr at hs; split at hs <;> cases hs)
    | (split at hs <;> first | (cases hs; done) | exact mq_gfN hs)
    | (split at hs <;> first | (cases hs; done) | exact mq_pfN hs)
    | ((try simp only [Bool.cond_eq_ite, mq_ivS, mq_ivI, mq_ivV, mq_mx, mq_mi, mq_chr, mq_cln] at hs); repeat' split at hs
       all_goals first | (cases hs; done) | exact mq_copyN hs | (cases hs; exact ⟨Nat.le_succ _, Nat.le_add_right _ _⟩) | (cases hs; exact mq_le.rf _) | (cases hs; exact hnew _ _))
theorem mq_afN {P : mq_P} {rn : Nat → Nat → mq_L → List Value → mq_H → Option (Option Value × mq_H)} (hrn : ∀ m pc L st h v h', rn m pc L st h = some (v, h') → mq_le h h') {m : Nat} {L : mq_L} {h h' : mq_H} {v : Option Value} {X : Option mq_X} (hX : ∀ g pc' L' st' h2, X = some (.inl (g, pc', L', st', h2)) → mq_le h h2) (hs : mq_af P rn m L h X = some (v, h')) : mq_le h h' := by
  unfold mq_af at hs
  split at hs
  · cases hs
  · rename_i g pc' L' st' h2
    cases hg : mq_gB g with
    | false => rw [hg] at hs; cases hs
    | true => rw [hg] at hs; exact (hX _ _ _ _ _ rfl).tr (hrn _ _ _ _ _ _ _ hs)
  · exact hrn _ _ _ _ _ _ _ hs
  · rename_i g o pc' st'
    cases hg : mq_gB g with
    | false => rw [hg] at hs; cases hs
    | true => rw [hg] at hs; exact hrn _ _ _ _ _ _ _ hs
  · exact hrn _ _ _ _ _ _ _ hs
  · rename_i g m' as st' pc'
    cases hg : mq_gB g with
    | false => rw [hg] at hs; cases hs
    | true =>
      rw [hg] at hs
      dsimp only [cond_true] at hs
      split at hs
      · cases hs
      · split at hs
        · rename_i v1 h1 hr1
          exact (hrn _ _ _ _ _ _ _ hr1).tr (hrn _ _ _ _ _ _ _ hs)
        · cases hs
  · rename_i g v'
    cases hg : mq_gB g with
    | false => rw [hg] at hs; cases hs
    | true => rw [hg] at hs; cases hs; exact mq_le.rf _
theorem mq_runN {P : mq_P} {T : mq_T} : ∀ (f m pc : Nat) (L : mq_L) (st : List Value) (h : mq_H) (v : Option Value) (h' : mq_H), mq_run P T f m pc L st h = some (v, h') → mq_le h h'
  | 0, _, _, _, _, _, _, _, hs => by cases hs
  | f + 1, m, pc, L, st, h, v, h', hs => by
    have hs : mq_body P T (mq_run P T f) m pc L st h = some (v, h') := hs
    unfold mq_body at hs
    split at hs
    · cases hs
    · exact mq_afN (mq_runN f) (fun g pc' L' st' h2 e => mq_stepN e) hs
