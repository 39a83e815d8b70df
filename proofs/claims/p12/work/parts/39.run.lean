/-! CALLS, RETURNS, RUNS -/
def mq_st (g : mq_GH) (T : mq_T) (h : mq_H) (U : State) : Prop := mq_rel g T h U.heap ∧ mq_ext g h U U.heap ∧ va_K g.2.2.1 mq_cl (mq_tys g) U ∧ (∀ w ∈ mq_nw, va_Nw w U) ∧ va_AO "RanOut$Law" U ∧ va_AO "RanOut$Line" U ∧ mq_os g U
def mq_Pc (g : mq_GH) (T : mq_T) (as : List Value) (h : mq_H) : Array Value → State → Prop := fun a U => a = (as.map (mq_cv g)).toArray ∧ mq_st g T h U
def mq_Qc (g : mq_GH) (T : mq_T) (v : Option Value) (h : mq_H) : Array Value → State → Outcome → State → Prop := fun _ st o t => o = .returned (v.map (mq_cv g)) ∧ mq_st g T h t ∧ ∀ q : Nat, q < g.1 → t.heap[q]? = st.heap[q]?
theorem mq_nw_form {w : Cond} (h : w ∈ mq_nw) : ∃ a i x b, w = .methodLinkNest a i x b := by
  have := (List.mem_filter.mp h).2
  cases w <;> first | exact ⟨_, _, _, _, rfl⟩ | (simp [mq_nest] at this)
theorem mq_gw_good {w : Cond} (h : w ∈ mq_gw) : goodWord w = true := (List.mem_filter.mp h).2
theorem mq_GI {w : Cond} (hw : w ∈ mq_gw) : GoodIn mq_gw (w :: mq_gw) := by
  intro x hx
  rcases List.mem_cons.mp hx with rfl | hx
  · exact ⟨hw, good_of_word (mq_gw_good hw)⟩
  · exact ⟨hx, good_of_word (mq_gw_good hx)⟩
theorem mq_st_moved {g : mq_GH} {T : mq_T} {h : mq_H} {s t : State} {H : Heap} (hW : s.WarmedH t.vm) (ht : t.heap = H) (h1 : mq_rel g T h H) (h2 : mq_ext g h s H) (hK : va_K g.2.2.1 mq_cl (mq_tys g) s) (hN : ∀ w ∈ mq_nw, va_Nw w s) (hA1 : va_AO "RanOut$Law" s) (hA2 : va_AO "RanOut$Line" s ∧ mq_os g s) (hq : ∀ q : Nat, q < s.heap.size → ¬ g.1 ≤ q → H[q]? = s.heap[q]?) : mq_st g T h t := by
  refine ⟨by rw [ht]; exact h1, fun k n hk hn => by rw [ht]; exact (h2 k n hk hn).moved hW.alike, va_K.moved hW.alike hK, fun w hw => ?_, hA1.moved hW.alike, hA2.1.moved hW.alike, hA2.2.to hW ht hq⟩
  have := hN w hw
  obtain ⟨a, i, x, b, rfl⟩ := mq_nw_form hw
  exact this.warmM hW
theorem mq_blind (g : mq_GH) (T : mq_T) (as : List Value) (h : mq_H) : FrameBlind (mq_Pc g T as h) := by
  intro a U gg mk ⟨q1, q2, q3, q4, q5, q6, q7⟩
  refine ⟨q1, q2, fun k n hk hn => (q3 k n hk hn).moved (Vm.Alike.refl U.vm), va_K.moved (u := U) (U := U.calling gg mk a) (Vm.Alike.refl U.vm) q4, fun w hw => ?_, q6.moved (Vm.Alike.refl U.vm), q7.1.moved (Vm.Alike.refl U.vm), q7.2.calling gg mk a⟩
  have := q5 w hw
  obtain ⟨a', i, x, b, rfl⟩ := mq_nw_form hw
  exact this.same rfl rfl
theorem mq_pop_spec : ∀ (n : Nat) (st acc as r : List Value), mq_pop n st acc = some (as, r) → ∃ bs, as = bs ++ acc ∧ bs.length = n ∧ st = bs.reverse ++ r
  | 0, st, acc, as, r, h => by cases h; exact ⟨[], rfl, rfl, rfl⟩
  | n + 1, [], acc, as, r, h => by cases h
  | n + 1, v :: st, acc, as, r, h => by
    obtain ⟨bs, h1, h2, h3⟩ := mq_pop_spec n st (v :: acc) as r h
    exact ⟨bs ++ [v], by rw [h1]; simp, by simp [h2], by rw [h3]; simp⟩
section MQ7
variable {g : mq_GH} {T : mq_T} {p : Program} {l : Launch} {e : Env} {R : Room} {s : State} {mid : MethodId} {args : Array Value} {below : List Frame} {meth : Method} {c : Code} {Q : State → Prop} {n0 z0 nL : Nat}
variable {y : MethodName} {bs : ByteArray} {ret : Option FieldType} {fr lo : Nat} {pc pc' : Nat} {L : mq_L} {st st' r : List Value} {h h' : mq_H}
theorem sd_ret {P : mq_P} {nM nx a b c' j : Nat} {ins : Instr} {k : Int32} {o : Option Bool} {v : Option Value} (C : mq_ctx g p R s mid args meth c y bs nL ret fr lo) (hdn : mq_isSw ins = false → decode bs pc = .ok (ins, mq_ln ins) ∧ nx = pc + mq_ln ins) (hok : mq_okX P nM y nL ret fr lo ins pc a b c' k j = true) (hs : mq_step T ins pc nx a b c' k L st h = some (.inr (.inr (.inr (.inr (.inr (o, v))))))) (hg : mq_gB o = true) : mq_good g T p l e R s mid args below meth c (MQ below (mq_Qc g T v h) args s (mq_N h - n0) (mq_Z h - z0) (fun q : Nat => g.1 ≤ q)) n0 z0 nL pc L st h := by
  obtain ⟨hx, hb, hml, hr, hown, hnm, hlk, hfr, hlo, hts, hK, hNw, hA1, hA2, hgs⟩ := C
  intro a1 b1 H ls locs r1 r2 r3 r4
  have hq : ∀ t : State, t.heap = H → s.WarmedH t.vm → mq_Qc g T v h args s (.returned (v.map (mq_cv g))) t := fun t ht hW => ⟨rfl, mq_st_moved hW ht r1 r2 hK hNw hA1 hA2 r4.2.1, fun q hq => by rw [ht]; exact r4.2.1 q (by omega) (by omega)⟩
  cases ins
  case ireturn =>
    obtain ⟨hd, rfl⟩ := hdn rfl
    dsimp only [mq_step] at hs
    split at hs
    · rename_i x
      cases h1 : Nat.beq c' 1 with
      | true =>
        rw [h1] at hs
        cases hs
        have hret : ret = some .boolean := by
          rcases of_decide_eq_true hok with z | z
          · exact z.2
          · exact absurd (Nat.eq_of_beq_eq_true h1) z.1
        exact W.zret hx hb (by rw [hr, hret]) (by rcases mq_bit_spec hg with rfl | rfl <;> decide) hq (fun q hq => r4.2.2 q hq) hd (hlocks := hlk)
      | false =>
        rw [h1] at hs
        cases hs
        have hret : ret = some .int := by
          rcases of_decide_eq_true hok with z | z
          · rw [z.1] at h1; cases h1
          · exact z.2
        exact W.iret hx hb (by rw [hr, hret]) hq (fun q hq => r4.2.2 q hq) hd (hlocks := hlk)
    · cases hs
  case lreturn =>
    obtain ⟨hd, rfl⟩ := hdn rfl
    dsimp only [mq_step] at hs
    split at hs
    · cases hs
      exact W.lret hx hb (by rw [hr]; exact of_decide_eq_true hok) hq (fun q hq => r4.2.2 q hq) hd (hlocks := hlk)
    · cases hs
  case areturn =>
    obtain ⟨hd, rfl⟩ := hdn rfl
    have hrt : ∃ rt, ret = some rt ∧ ((∃ n, rt = .object n) ∨ ∃ t, rt = .array t) := by
      dsimp only [mq_okX] at hok
      split at hok
      · exact ⟨_, rfl, Or.inl ⟨_, rfl⟩⟩
      · exact ⟨_, rfl, Or.inr ⟨_, rfl⟩⟩
      · cases hok
    obtain ⟨rt, h1, h2⟩ := hrt
    dsimp only [mq_step] at hs
    split at hs
    · cases hs
      exact W.aret hx hb (by rw [hr, h1]) h2 (Or.inr ⟨_, rfl⟩) hq (fun q hq => r4.2.2 q hq) hd (hlocks := hlk)
    · cases hs
      exact W.aret hx hb (by rw [hr, h1]) h2 (Or.inr ⟨_, rfl⟩) hq (fun q hq => r4.2.2 q hq) hd (hlocks := hlk)
    · cases hs
      exact W.aret hx hb (by rw [hr, h1]) h2 (Or.inl rfl) hq (fun q hq => r4.2.2 q hq) hd (hlocks := hlk)
    · cases hs
  case return_ =>
    obtain ⟨hd, rfl⟩ := hdn rfl
    dsimp only [mq_step] at hs
    split at hs
    · cases hs
      exact W.vret hx hb (by rw [hr]; exact of_decide_eq_true hok) hq (fun q hq => r4.2.2 q hq) hd (hlocks := hlk)
    · cases hs
  all_goals
    exfalso
    have hsem := hs
    dsimp only [mq_step] at hs
    first
      | (cases hs; done)
      | (unfold mq_ldI at hs; split at hs <;> cases hs)
      | (unfold mq_ldJ at hs; split at hs <;> cases hs)
      | (unfold mq_ldA at hs; split at hs <;> cases hs)
      | (unfold mq_stI at hs; split at hs <;> cases hs)
      | (unfold mq_stJ at hs; split at hs <;> cases hs)
      | (unfold mq_stA at hs; split at hs <;> cases hs)
      | (unfold mq_c0 at hs; split at hs <;> cases hs)
      | (unfold mq_cr at hs; split at hs <;> cases hs)
      | ((try simp only [Bool.cond_eq_ite, mq_ivS, mq_ivI, mq_ivV, mq_gf, mq_pf, mq_copy, mq_mx, mq_mi, mq_chr, mq_cln] at hs); repeat' split at hs
         all_goals (cases hs; done))
/-- behind a call -/
theorem mq_cont {H : Heap} {locs : List Loc} {ce sl mc ms : Nat} {ls : Array Slot} {st0 rest : List Value} {v1 : Option Value} {h1 : mq_H} {a : Array Value} (hr : va_Run p l e R s mid args below meth c H locs ce sl mc ms (F0 mid pc ls st0) rest (mq_Qc g T v1 h1 a) (fun q : Nat => g.1 ≤ q)) (kk : ∀ (t : State) (H1 : Heap) (locs1 : List Loc), t.heap = H1 → s.vm.Alike t.vm → mq_st g T h1 t → (∀ q : Nat, q < g.1 → H1[q]? = H[q]?) → (∀ x ∈ locs1, x ∈ locs ∨ g.1 ≤ x.base) → W p l e R s mid args below meth c H1 locs1 (ce + mc) (sl + ms) Q (F0 mid (pc + 3) ls ((v1.map (mq_cv g)).toList ++ rest))) : W p l e R s mid args below meth c H locs ce sl Q (F0 mid pc ls st0) := by
  intro T0 hT X
  obtain ⟨v, st₀, t, T', L, e0, X', hL, e1, e2, ⟨hv, hst, hfr⟩, st⟩ := hr T0 hT X
  cases hv
  obtain ⟨t2, a1, b1⟩ := kk t T'.heap (locs ++ L) e1.symm (by rw [← e2]; exact X'.warmed.alike) hst (fun q hq => by rw [e1, hfr q hq, e0]) (fun x hx => by
    rcases List.mem_append.mp hx with z | z
    · exact Or.inl z
    · exact Or.inr (hL x z)) T' rfl X'
  exact ⟨t2, st t2 a1, b1⟩
theorem mq_contG {H : Heap} {locs : List Loc} {ls : Array Slot} {st0 : List Value} {v1 : Option Value} {h1 : mq_H} {a : Array Value} (C : mq_ctx g p R s mid args meth c y bs nL ret fr lo) (hle : mq_le h h1) (a1 : n0 ≤ mq_N h) (b1 : z0 ≤ mq_Z h) (r1 : mq_rel g T h H) (r3 : mq_lv g nL ls L) (r4 : va_S (fun q : Nat => g.1 ≤ q) s.heap H locs) (hr : va_Run p l e R s mid args below meth c H locs (mq_N h - n0) (mq_Z h - z0) (mq_N h1 - mq_N h) (mq_Z h1 - mq_Z h) (F0 mid pc ls st0) (st'.map (mq_cv g)) (mq_Qc g T v1 h1 a) (fun q : Nat => g.1 ≤ q)) (K : mq_good g T p l e R s mid args below meth c Q n0 z0 nL (pc + 3) L (mq_tl v1 st') h1) : W p l e R s mid args below meth c H locs (mq_N h - n0) (mq_Z h - z0) Q (F0 mid pc ls st0) := by
  obtain ⟨hx, hb, hml, hr', hown, hnm, hlk, hfr, hlo, hts, hK, hNw, hA1, hA2, hgs⟩ := C
  refine mq_cont hr (fun t H1 locs1 ht hal hst hq hl => ?_)
  obtain ⟨q1, q2, -⟩ := hst
  rw [ht] at q1 q2
  have e1 : mq_N h - n0 + (mq_N h1 - mq_N h) = mq_N h1 - n0 := by have := hle.1; omega
  have e2 : mq_Z h - z0 + (mq_Z h1 - mq_Z h) = mq_Z h1 - z0 := by have := hle.2; omega
  rw [e1, e2]
  have hstk : (v1.map (mq_cv g)).toList ++ st'.map (mq_cv g) = (mq_tl v1 st').map (mq_cv g) := by cases v1 <;> rfl
  rw [hstk]
  refine K (Nat.le_trans a1 hle.1) (Nat.le_trans b1 hle.2) H1 ls locs1 q1 (fun k n hk hn => (q2 k n hk hn).moved hal.symm) r3 ⟨?_, fun q g1 g2 => ?_, fun x hx => ?_⟩
  · have h0 := r4.1
    have := r1.2.1
    have := q1.2.1
    have := hle.1
    have := r1.1
    omega
  · rw [hq q (by omega)]
    exact r4.2.1 q g1 g2
  · rcases hl x hx with z | z
    · exact r4.2.2 x z
    · exact z
/-- a call, by the callee's contract -/
theorem sd_call {P : mq_P} {nM nx a b c' j m' : Nat} {ins : Instr} {k : Int32} {o : Option Bool} {as : List Value} {v1 : Option Value} {h1 : mq_H} {y2 : MethodName} {bs2 : ByteArray} {nL2 : Nat} {ret2 : Option FieldType} {fr2 lo2 kd2 ci2 np2 j1 j2 j3 j4 : Nat} (C : mq_ctx g p R s mid args meth c y bs nL ret fr lo) (hdn : mq_isSw ins = false → decode bs pc = .ok (ins, mq_ln ins) ∧ nx = pc + mq_ln ins) (hok : mq_okX P nM y nL ret fr lo ins pc a b c' k j = true) (hs : mq_step T ins pc nx a b c' k L st h = some (.inr (.inr (.inr (.inr (.inl (o, m', as, st', pc'))))))) (hg : mq_gB o = true) (hMs : m' < nM → P.1 m' = some (y2, bs2, nL2, ret2, fr2, lo2, kd2, ci2, np2, j1, j2, j3, j4) → mq_okM (y2, bs2, nL2, ret2, fr2, lo2, kd2, ci2, np2, j1, j2, j3, j4) = true) (hm : P.1 m' = some (y2, bs2, nL2, ret2, fr2, lo2, kd2, ci2, np2, j1, j2, j3, j4)) (hCs : m' < nM → Cond.code y2 bs2 nL2 ret2 ∈ mq_gw)
    (hM : m' < nM → Met l y2 (Cond.code y2 bs2 nL2 ret2 :: mq_gw) ({ frames := fr2, cells := mq_N h1 - mq_N h, slots := mq_Z h1 - mq_Z h, locals := lo2 }) (mq_Pc g T as h) (mq_Qc g T v1 h1) (mq_N h1 - mq_N h) (mq_Z h1 - mq_Z h) (fun q : Nat => g.1 ≤ q)) (hle : mq_le h h1) (hc1 : mq_N h1 - n0 ≤ R.cells) (hc2 : mq_Z h1 - z0 ≤ R.slots) (K : mq_good g T p l e R s mid args below meth c Q n0 z0 nL pc' L (mq_tl v1 st') h1) : mq_good g T p l e R s mid args below meth c Q n0 z0 nL pc L st h := by
  obtain ⟨hx, hb, hml, hr, hown, hnm, hlk, hfr, hlo, hts, hK, hNw, hA1, hA2, hgs⟩ := id C
  have hcat : ∀ r : List Value, Nat.ble (mq_cat r) 8 = true → ∀ (pc : Nat) (ls : Array Slot) (st0 : List Value), 2 * (F0 mid pc ls st0).monitorRoom + ((r.map (mq_cv g)).map fun v => v.category).sum ≤ 8 := fun r hr pc ls st0 => lv_room (by rw [mq_cat_sum]; exact Nat.le_of_ble_eq_true hr)
  have hPcU : ∀ (H : Heap), (∀ q : Nat, q < s.heap.size → ¬ g.1 ≤ q → H[q]? = s.heap[q]?) → mq_rel g T h H → mq_ext g h s H → ∀ U : State, U.heap = H → s.WarmedH U.vm → mq_Pc g T as h (as.map (mq_cv g)).toArray U := fun H r0 r1 r2 U hU hW => ⟨rfl, mq_st_moved hW hU r1 r2 hK hNw hA1 hA2 r0⟩
  cases ins
  case invokestatic i =>
    obtain ⟨hd, rfl⟩ := hdn rfl
    dsimp only [mq_step] at hs
    cases h1000 : Nat.beq a 1000 with
    | true =>
      exfalso
      rw [h1000] at hs
      dsimp only [cond_true] at hs
      simp only [mq_copy, Bool.cond_eq_ite] at hs
      repeat' split at hs
      all_goals (cases hs; done)
    | false =>
      rw [h1000] at hs
      dsimp only [cond_false] at hs
      have h1002 : Nat.beq a 1002 = false := by
        cases hz : Nat.beq a 1002 with
        | false => rfl
        | true =>
          exfalso
          rw [hz] at hs
          dsimp only [cond_true] at hs
          simp only [mq_mx, Bool.cond_eq_ite] at hs
          repeat' split at hs
          all_goals (cases hs; done)
      rw [h1002] at hs
      dsimp only [cond_false] at hs
      have h1003 : Nat.beq a 1003 = false := by
        cases hz : Nat.beq a 1003 with
        | false => rfl
        | true =>
          exfalso
          rw [hz] at hs
          dsimp only [cond_true] at hs
          simp only [mq_mi, Bool.cond_eq_ite] at hs
          repeat' split at hs
          all_goals (cases hs; done)
      rw [h1003] at hs
      dsimp only [cond_false] at hs
      unfold mq_ivS at hs
      split at hs
      · rename_i as' r' hpop
        obtain ⟨h8, h3⟩ := mq_bif_t hs
        cases h3
        dsimp only [mq_okX] at hok
        rw [h1000, h1002, h1003] at hok
        dsimp only [cond_false] at hok
        unfold mq_okC at hok
        rw [hm, Bool.and_eq_true] at hok
        dsimp only at hok
        simp only [Bool.and_eq_true] at hok
        obtain ⟨w1, w2, w3, w4, w5, w6, w7⟩ := hok
        have hlt : a < nM := by simpa using w1
        have hMO := hMs hlt hm
        unfold mq_okM at hMO
        dsimp only at hMO
        rw [Nat.eq_of_beq_eq_true w2] at hMO
        simp only [Bool.and_eq_true, decide_eq_true_eq] at hMO
        obtain ⟨u2, u3, u4, u5⟩ := hMO
        obtain ⟨bs', e1, e2, e3⟩ := mq_pop_spec _ _ _ _ _ hpop
        simp only [List.append_nil] at e1
        subst e1
        have hR : fr2 + 1 ≤ R.frames ∧ 8 + (nL2 + 11) + lo2 ≤ R.locals := ⟨Nat.le_trans (Nat.le_of_ble_eq_true w4) hfr, Nat.le_trans (Nat.le_of_ble_eq_true w5) hlo⟩
        have hnp : as.length = np2 := by rw [e2]; exact (Nat.eq_of_beq_eq_true w3).symm
        intro a1 b1 H ls locs r1 r2 r3 r4
        refine mq_contG (a := (as.map (mq_cv g)).toArray) C hle a1 b1 r1 r3 r4 ?_ K
        rw [e3, List.map_append, List.map_reverse]
        rw [Bool.or_eq_true] at w7
        rcases w7 with w7 | w7
        · exact va_runS (As := as.map (mq_cv g)) ⟨hx, hb, hml, hown, hts⟩ (hM hlt) ⟨callB_of np2 hts (mq_GI (hCs hlt)) rfl rfl rfl (hts _ (mq_hw_in u2)) (hts _ (mq_hw_in w7)) u3 hR, hts _ (mq_hw_in u5)⟩ ⟨mq_blind g T as h, hPcU H r4.2.1 r1 r2⟩ rfl (by rw [List.length_map]; exact hnp) r3.1 rfl (hcat _ h8 _ _ _) hd ⟨by have := hle.1; omega, by have := hle.2; omega⟩
        · exact va_runSN (As := as.map (mq_cv g)) ⟨hx, hb, hml, hown, hts⟩ (hM hlt) ⟨va_cnB np2 hts (mq_GI (hCs hlt)) rfl rfl rfl (hNw _ (mq_hn_in w7)) (hts _ (mq_hw_in u2)) u3 hR, hts _ (mq_hw_in u5), trivial⟩ ⟨mq_blind g T as h, hPcU H r4.2.1 r1 r2⟩ rfl (by rw [List.length_map]; exact hnp) r3.1 rfl (hcat _ h8 _ _ _) hd ⟨by have := hle.1; omega, by have := hle.2; omega⟩
      · cases hs
  case invokespecial i =>
    obtain ⟨hd, rfl⟩ := hdn rfl
    dsimp only [mq_step] at hs
    cases h1001 : Nat.beq a 1001 with
    | true =>
      exfalso
      rw [h1001] at hs
      dsimp only [cond_true] at hs
      simp only [Bool.cond_eq_ite] at hs
      repeat' split at hs
      all_goals (cases hs; done)
    | false =>
      rw [h1001] at hs
      dsimp only [cond_false] at hs
      have main : ∃ (v : Value) (q : Nat) (as' : List Value), mq_pop b st [] = some (as', v :: st') ∧ as = v :: as' ∧ mq_cv g v = .ref (mq_ad g q) ∧ Nat.ble (mq_cat st') 8 = true ∧ m' = a ∧ pc' = pc + mq_ln (.invokespecial i) := by
        unfold mq_ivI at hs
        split at hs
        · rename_i as' q r' hpop
          obtain ⟨h8, h3⟩ := mq_bif_t hs
          cases h3
          exact ⟨_, q, _, hpop, rfl, rfl, h8, rfl, rfl⟩
        · rename_i as' q r' hpop
          obtain ⟨h8, h3⟩ := mq_bif_t hs
          cases h3
          exact ⟨_, q, _, hpop, rfl, rfl, h8, rfl, rfl⟩
        · cases hs
      obtain ⟨v, q, as', hpop, rfl, hcv, h8, rfl, rfl⟩ := main
      dsimp only [mq_okX] at hok
      rw [h1001] at hok
      dsimp only [cond_false] at hok
      unfold mq_okC at hok
      rw [hm, Bool.and_eq_true] at hok
      dsimp only at hok
      simp only [Bool.and_eq_true] at hok
      obtain ⟨w1, w2, w3, w4, w5, w6, w7⟩ := hok
      have hlt : m' < nM := by simpa using w1
      have hMO := hMs hlt hm
      unfold mq_okM at hMO
      dsimp only at hMO
      rw [Nat.eq_of_beq_eq_true w2] at hMO
      simp only [Bool.and_eq_true, decide_eq_true_eq] at hMO
      obtain ⟨u2, u3, u4, u5, u6, u7⟩ := hMO
      subst u7
      obtain ⟨bs', e1, e2, e3⟩ := mq_pop_spec _ _ _ _ _ hpop
      simp only [List.append_nil] at e1
      subst e1
      have hR : fr2 + 1 ≤ R.frames ∧ 8 + (nL2 + 11) + lo2 ≤ R.locals := ⟨Nat.le_trans (Nat.le_of_ble_eq_true w4) hfr, Nat.le_trans (Nat.le_of_ble_eq_true w5) hlo⟩
      have hnp : as'.length = np2 := by rw [e2]; exact (Nat.eq_of_beq_eq_true w3).symm
      intro a1 b1 H ls locs r1 r2 r3 r4
      refine mq_contG (a := (Value.ref (mq_ad g q) :: as'.map (mq_cv g)).toArray) C hle a1 b1 r1 r3 r4 ?_ K
      rw [e3, List.map_append, List.map_reverse, List.map_cons, hcv]
      have hp : PreS s H (mq_Pc g T (v :: as') h) (.ref (mq_ad g q) :: as'.map (mq_cv g)) := ⟨mq_blind g T _ h, fun U hU hW => by have := hPcU H r4.2.1 r1 r2 U hU hW; rw [List.map_cons, hcv] at this; exact this⟩
      rw [Bool.or_eq_true] at w7
      rcases w7 with w7 | w7
      · exact va_runI (As := as'.map (mq_cv g)) ⟨hx, hb, hml, hown, hts⟩ (hM hlt) ⟨callB_of np2 hts (mq_GI (hCs hlt)) rfl rfl rfl (hts _ (mq_hw_in u2)) (hts _ (mq_hw_in w7)) u3 hR, u6, hts _ (mq_hw_in u5)⟩ hp rfl (by rw [List.length_map]; exact hnp) r3.1 rfl (hcat _ h8 _ _ _) hd ⟨by have := hle.1; omega, by have := hle.2; omega⟩
      · exact va_runIN (As := as'.map (mq_cv g)) ⟨hx, hb, hml, hown, hts⟩ (hM hlt) ⟨va_cnB np2 hts (mq_GI (hCs hlt)) rfl rfl rfl (hNw _ (mq_hn_in w7)) (hts _ (mq_hw_in u2)) u3 hR, u6, hts _ (mq_hw_in u5)⟩ hp rfl (by rw [List.length_map]; exact hnp) r3.1 rfl (hcat _ h8 _ _ _) hd ⟨by have := hle.1; omega, by have := hle.2; omega⟩
  case invokevirtual i =>
    obtain ⟨hd, rfl⟩ := hdn rfl
    dsimp only [mq_step] at hs
    have h1004 : Nat.ble 1004 a = false := by
      cases hz : Nat.ble 1004 a with
      | false => rfl
      | true =>
        exfalso
        rw [hz] at hs
        dsimp only [cond_true] at hs
        simp only [mq_chr, mq_cln, Bool.cond_eq_ite] at hs
        repeat' split at hs
        all_goals (cases hs; done)
    rw [h1004] at hs
    dsimp only [cond_false] at hs
    unfold mq_ivV at hs
    split at hs
    · rename_i as' v r' hpop
      split at hs
      · rename_i o' q hob
        obtain ⟨h8, h3⟩ := mq_bif_t hs
        cases h3
        dsimp only [mq_okX] at hok
        rw [h1004] at hok
        dsimp only [cond_false] at hok
        unfold mq_okC at hok
        rw [hm, Bool.and_eq_true] at hok
        dsimp only at hok
        simp only [Bool.and_eq_true] at hok
        obtain ⟨w1, w2, w3, w4, w5, w6, w7⟩ := hok
        have hlt : a < nM := by simpa using w1
        have hMO := hMs hlt hm
        unfold mq_okM at hMO
        dsimp only at hMO
        rw [Nat.eq_of_beq_eq_true w2] at hMO
        simp only [Bool.and_eq_true, decide_eq_true_eq] at hMO
        obtain ⟨u2, u3, u4, u5, u6, u7⟩ := hMO
        have hci : ci2 = c' := by
          rw [Bool.or_eq_true] at w6
          rcases w6 with z | z
          · exact Nat.eq_of_beq_eq_true z
          · cases z
        subst hci
        split at u7
        · rename_i rr hrr
          have hcls : rr.1 = y2.cls := of_decide_eq_true u7
          obtain ⟨bs', e1, e2, e3⟩ := mq_pop_spec _ _ _ _ _ hpop
          simp only [List.append_nil] at e1
          subst e1
          have hR : fr2 + 1 ≤ R.frames ∧ 8 + (nL2 + 11) + lo2 ≤ R.locals := ⟨Nat.le_trans (Nat.le_of_ble_eq_true w4) hfr, Nat.le_trans (Nat.le_of_ble_eq_true w5) hlo⟩
          have hnp : as'.length = np2 := by rw [e2]; exact (Nat.eq_of_beq_eq_true w3).symm
          intro a1 b1 H ls locs r1 r2 r3 r4
          obtain ⟨q1, hcv, -⟩ := mq_ob_spec (g := g) r1.2.2.2.2.2.2.2 hob hg
          obtain ⟨-, rr', hrr', cellB, g1, g2, g3, -⟩ := r1.obj q1
          refine mq_contG (a := (Value.ref (mq_ad g q) :: as'.map (mq_cv g)).toArray) C hle a1 b1 r1 r3 r4 ?_ K
          rw [e3, List.map_append, List.map_reverse, List.map_cons, hcv]
          have hp : PreV s H y2.cls (mq_ad g q) (mq_Pc g T (v :: as') h) (as'.map (mq_cv g)) := ⟨mq_blind g T _ h, ⟨cellB, g1, by rw [g3]; rfl, by rw [g2, ← hcls]; exact (hK.1 ci2 rr hrr).2.1⟩, fun U hU hW => by have := hPcU H r4.2.1 r1 r2 U hU hW; rw [List.map_cons, hcv] at this; exact this⟩
          rw [Bool.or_eq_true] at w7
          rcases w7 with w7 | w7
          · exact va_runV (As := as'.map (mq_cv g)) ⟨hx, hb, hml, hown, hts⟩ (hM hlt) ⟨callB_of np2 hts (mq_GI (hCs hlt)) rfl rfl rfl (hts _ (mq_hw_in u2)) (hts _ (mq_hw_in w7)) u3 hR, hts _ (mq_hw_in u5), hts _ (mq_hw_in u6)⟩ hp rfl (by rw [List.length_map]; exact hnp) r3.1 rfl (hcat _ h8 _ _ _) hd ⟨by have := hle.1; omega, by have := hle.2; omega⟩
          · exact va_runVN (As := as'.map (mq_cv g)) ⟨hx, hb, hml, hown, hts⟩ (hM hlt) ⟨va_cnB np2 hts (mq_GI (hCs hlt)) rfl rfl rfl (hNw _ (mq_hn_in w7)) (hts _ (mq_hw_in u2)) u3 hR, hts _ (mq_hw_in u5), hts _ (mq_hw_in u6)⟩ hp rfl (by rw [List.length_map]; exact hnp) r3.1 rfl (hcat _ h8 _ _ _) hd ⟨by have := hle.1; omega, by have := hle.2; omega⟩
        · cases u7
      · cases hs
    · cases hs
  all_goals
    exfalso
    dsimp only [mq_step] at hs
    first
      | (cases hs; done)
      | (unfold mq_ldI at hs; split at hs <;> cases hs)
      | (unfold mq_ldJ at hs; split at hs <;> cases hs)
      | (unfold mq_ldA at hs; split at hs <;> cases hs)
      | (unfold mq_stI at hs; split at hs <;> cases hs)
      | (unfold mq_stJ at hs; split at hs <;> cases hs)
      | (unfold mq_stA at hs; split at hs <;> cases hs)
      | (unfold mq_c0 at hs; split at hs <;> cases hs)
      | (unfold mq_cr at hs; split at hs <;> cases hs)
      | ((try simp only [Bool.cond_eq_ite, mq_gf, mq_pf] at hs); repeat' split at hs
         all_goals (cases hs; done))
/-- A METHOD's CONTRACT out of the picture of its body -/
theorem mq_met {P : mq_P} {m' : Nat} {as : List Value} {L' : mq_L} {v1 : Option Value} {h1 : mq_H} {y2 : MethodName} {bs2 : ByteArray} {nL2 : Nat} {ret2 : Option FieldType} {fr2 lo2 kd2 ci2 np2 j1 j2 j3 j4 : Nat} (hm : P.1 m' = some (y2, bs2, nL2, ret2, fr2, lo2, kd2, ci2, np2, j1, j2, j3, j4)) (hpl : plainName y2.cls = true) (hL : mq_args P m' as = some L') (hle : mq_le h h1)
    (hW : ∀ (p : Program) (e : Env) (R : Room) (s : State) (mid : MethodId) (args : Array Value) (below : List Frame) (meth : Method) (c : Code), mq_ctx g p R s mid args meth c y2 bs2 nL2 ret2 fr2 lo2 → mq_N h1 - mq_N h ≤ R.cells → mq_Z h1 - mq_Z h ≤ R.slots → mq_good g T p l e R s mid args below meth c (MQ below (mq_Qc g T v1 h1) args s (mq_N h1 - mq_N h) (mq_Z h1 - mq_Z h) (fun q : Nat => g.1 ≤ q)) (mq_N h) (mq_Z h) nL2 0 L' [] h) :
    Met l y2 (Cond.code y2 bs2 nL2 ret2 :: mq_gw) ({ frames := fr2, cells := mq_N h1 - mq_N h, slots := mq_Z h1 - mq_Z h, locals := lo2 }) (mq_Pc g T as h) (mq_Qc g T v1 h1) (mq_N h1 - mq_N h) (mq_Z h1 - mq_Z h) (fun q : Nat => g.1 ≤ q) := by
  refine Met.ofW (cc := bs2) (maxL := nL2) (ret := ret2) hpl rfl ?_
  intro p e s mid args below meth c s₁ B hml hv
  obtain ⟨rfl, r1, r2, hK, hNw, hA1, hA2⟩ := hv
  have hts : ∀ w ∈ (Cond.code y2 bs2 nL2 ret2 :: mq_gw), w.before _ s = true := atoms_spec (ws := Cond.code y2 bs2 nL2 ret2 :: mq_gw) B.pre
  have hown : s.vm.findClass y2.cls = some mid.cls := findClass_of_methodNamed B.named
  have hnm := (name_of_methodNamed B.named B.method).1
  have hsz : g.1 ≤ s.heap.size := by rw [r1.2.1]; omega
  have hcat : mq_cat as ≤ nL2 ∧ L' = mq_en as nL2 := by
    unfold mq_args at hL
    rw [hm] at hL
    obtain ⟨z1, z2⟩ := mq_bif_t hL
    exact ⟨Nat.le_of_ble_eq_true z1, z2.symm⟩
  obtain ⟨hcat, rfl⟩ := hcat
  have C : mq_ctx g p ({ frames := fr2, cells := mq_N h1 - mq_N h, slots := mq_Z h1 - mq_Z h, locals := lo2 } : Room) s mid (as.map (mq_cv g)).toArray meth c y2 bs2 nL2 ret2 fr2 lo2 := ⟨B.exec, B.bytes, hml, B.returns, hown, fun q => by rw [hnm]; exact q, B.notSynchronized, Nat.le_refl _, Nat.le_refl _, fun w hw => hts w (List.mem_cons_of_mem _ hw), hK, hNw, hA1, hA2, hsz⟩
  have hG := hW p e _ s mid (as.map (mq_cv g)).toArray below meth c C (Nat.le_refl _) (Nat.le_refl _)
  have hl := lv_entry (as.map (mq_cv g)) (n := nL2) (by rw [mq_cat_sl]; exact hcat)
  rw [lg_entry_eq]
  have := hG (Nat.le_refl _) (Nat.le_refl _) s.heap _ [] r1 r2 (⟨hl.1, hl.2.1, fun i v hv => by have := mq_en_get g as nL2 0 i v hv; rw [Nat.zero_add] at this; exact hl.2.2 _ this⟩) va_S.rf
  rw [Nat.sub_self, Nat.sub_self] at this
  exact this
/-- RUNS ARE FOLLOWED -/
theorem mq_sound {P : mq_P} {nM : Nat} (hP : ∀ m pc e, P.2 m pc = some e → mq_okE P nM m pc e = true) (hMs : ∀ m M, m < nM → P.1 m = some M → mq_okM M = true) (hCd : ∀ m M, m < nM → P.1 m = some M → mq_cod M) : ∀ (f : Nat) (m pc : Nat) (L : mq_L) (st : List Value) (h : mq_H) (v : Option Value) (hf : mq_H), mq_run P T f m pc L st h = some (v, hf) → ∀ (p : Program) (e : Env) (R : Room) (s : State) (mid : MethodId) (args : Array Value) (below : List Frame) (meth : Method) (c : Code) (Q : State → Prop) (n0 z0 : Nat) (y : MethodName) (bs : ByteArray) (nL : Nat) (ret : Option FieldType) (fr lo : Nat) (M : Nat × Nat × Nat × Nat × Nat × Nat × Nat), P.1 m = some (y, bs, nL, ret, fr, lo, M) → mq_ctx g p R s mid args meth c y bs nL ret fr lo → mq_N hf - n0 ≤ R.cells → mq_Z hf - z0 ≤ R.slots → (∀ (pc nx a b c' j : Nat) (ins : Instr) (k : Int32) (L : mq_L) (st : List Value) (o : Option Bool), P.2 m pc = some (ins, nx, a, b, c', k, j) → mq_step T ins pc nx a b c' k L st hf = some (.inr (.inr (.inr (.inr (.inr (o, v)))))) → mq_gB o = true → mq_good g T p l e R s mid args below meth c Q n0 z0 nL pc L st hf) → mq_good g T p l e R s mid args below meth c Q n0 z0 nL pc L st h
  | 0, _, _, _, _, _, _, _, hr => by cases hr
  | f + 1, m, pc, L, st, h, v, hf, hr => by
    intro p e R s mid args below meth c Q n0 z0 y bs nL ret fr lo M hm C hc1 hc2 HR
    have hr : mq_body P T (mq_run P T f) m pc L st h = some (v, hf) := hr
    unfold mq_body at hr
    split at hr
    · cases hr
    · rename_i ins nx a b c' k j hcd
      have hokE := hP _ _ _ hcd
      unfold mq_okE at hokE
      rw [hm] at hokE
      dsimp only at hokE
      rw [Bool.and_eq_true] at hokE
      obtain ⟨ho1, hok⟩ := hokE
      have hde : mq_isSw ins = true → decode bs pc = .ok (ins, nx - pc) := fun z => by rw [z] at ho1; exact of_decide_eq_true ho1
      have hdn : mq_isSw ins = false → decode bs pc = .ok (ins, mq_ln ins) ∧ nx = pc + mq_ln ins := fun z => by
        rw [z] at ho1
        dsimp only [cond_false] at ho1
        rw [Bool.and_eq_true] at ho1
        exact ⟨of_decide_eq_true ho1.1, Nat.eq_of_beq_eq_true ho1.2⟩
      have hleN : ∀ {m' pc' L' st' h'} {w : Option Value × mq_H}, mq_run P T f m' pc' L' st' h' = some w → mq_le h' w.2 := fun {m' pc' L' st' h'} {w} z => mq_runN f _ _ _ _ _ w.1 w.2 z
      cases hX : mq_step T ins pc nx a b c' k L st h with
      | none => rw [hX] at hr; cases hr
      | some X =>
        rw [hX] at hr
        have h1 := fun hcap => mq_sound1 (l := l) (e := e) (below := below) (Q := Q) (n0 := n0) (z0 := z0) (P := P) (nM := nM) C hde hdn hok hX hcap
        rcases X with ⟨o, pc', L', st', h'⟩ | ⟨o, x', z, t, e', st'⟩ | ⟨o, w, pc', st'⟩ | ⟨x', ll, d, st'⟩ | ⟨o, m', as, st', pc'⟩ | ⟨o, v'⟩
        · dsimp only [mq_af] at hr
          cases hg : mq_gB o with
          | false => rw [hg] at hr; cases hr
          | true =>
            rw [hg] at hr
            have hr : mq_run P T f m pc' L' st' h' = some (v, hf) := hr
            have hn : mq_le h' hf := hleN hr
            exact h1 (fun o1 pc1 L1 st1 h2 e1 => by cases e1; have := hn.1; have := hn.2; exact ⟨by omega, by omega⟩) hg (mq_sound hP hMs hCd f m pc' L' st' h' v hf hr p e R s mid args below meth c Q n0 z0 y bs nL ret fr lo M hm C hc1 hc2 HR)
        · have hr : mq_run P T f m (bif mq_cmp o x' z then t else e') L st' h = some (v, hf) := hr
          exact h1 (fun o1 pc1 L1 st1 h2 e1 => by cases e1) (mq_sound hP hMs hCd f m _ L st' h v hf hr p e R s mid args below meth c Q n0 z0 y bs nL ret fr lo M hm C hc1 hc2 HR)
        · dsimp only [mq_af] at hr
          cases hg : mq_gB o with
          | false => rw [hg] at hr; cases hr
          | true =>
            rw [hg] at hr
            have hr : mq_run P T f m pc' L (mq_pv w :: st') h = some (v, hf) := hr
            exact h1 (fun o1 pc1 L1 st1 h2 e1 => by cases e1) hg (mq_sound hP hMs hCd f m pc' L _ h v hf hr p e R s mid args below meth c Q n0 z0 y bs nL ret fr lo M hm C hc1 hc2 HR)
        · have hr : mq_run P T f m (mq_find x' ll d) L st' h = some (v, hf) := hr
          exact h1 (fun o1 pc1 L1 st1 h2 e1 => by cases e1) (mq_sound hP hMs hCd f m _ L st' h v hf hr p e R s mid args below meth c Q n0 z0 y bs nL ret fr lo M hm C hc1 hc2 HR)
        · dsimp only [mq_af] at hr
          cases hg : mq_gB o with
          | false => rw [hg] at hr; cases hr
          | true =>
            rw [hg] at hr
            dsimp only [cond_true] at hr
            cases ha : mq_args P m' as with
            | none => rw [ha] at hr; cases hr
            | some L' =>
              rw [ha] at hr
              dsimp only at hr
              cases hc : mq_run P T f m' 0 L' [] h with
              | none => rw [hc] at hr; cases hr
              | some w =>
                obtain ⟨v1, h1'⟩ := w
                rw [hc] at hr
                have hr : mq_run P T f m pc' L (mq_tl v1 st') h1' = some (v, hf) := hr
                have hn1 : mq_le h h1' := hleN hc
                have hn2 : mq_le h1' hf := hleN hr
                cases hm2 : P.1 m' with
                | none => unfold mq_args at ha; rw [hm2] at ha; cases ha
                | some M2 =>
                  obtain ⟨y2, bs2, nL2, ret2, fr2, lo2, kd2, ci2, np2, j1, j2, j3, j4⟩ := M2
                  have hK := mq_sound hP hMs hCd f m pc' L (mq_tl v1 st') h1' v hf hr p e R s mid args below meth c Q n0 z0 y bs nL ret fr lo M hm C hc1 hc2 HR
                  have hpl : m' < nM → plainName y2.cls = true := fun hlt => by
                    have := hMs m' _ hlt hm2
                    unfold mq_okM at this
                    dsimp only at this
                    simp only [Bool.and_eq_true, decide_eq_true_eq] at this
                    exact this.2.2.1
                  have hMet := fun hlt : m' < nM => mq_met (l := l) (T := T) (g := g) hm2 (hpl hlt) ha hn1 (v1 := v1) (fun p e R s mid args below meth c C' k1 k2 => mq_sound hP hMs hCd f m' 0 L' [] h v1 h1' hc p e R s mid args below meth c _ (mq_N h) (mq_Z h) y2 bs2 nL2 ret2 fr2 lo2 _ hm2 C' k1 k2 (fun pc nx a b c' j ins k L st o hcd2 hs2 hg2 => by
                    have hokE2 := hP _ _ _ hcd2
                    unfold mq_okE at hokE2
                    rw [hm2] at hokE2
                    dsimp only at hokE2
                    rw [Bool.and_eq_true] at hokE2
                    exact sd_ret (P := P) (nM := nM) C' (fun z => by
                      have ho1 := hokE2.1
                      rw [z] at ho1
                      dsimp only [cond_false] at ho1
                      rw [Bool.and_eq_true] at ho1
                      exact ⟨of_decide_eq_true ho1.1, Nat.eq_of_beq_eq_true ho1.2⟩) hokE2.2 hs2 hg2))
                  exact sd_call (P := P) (nM := nM) C hdn hok hX hg (fun hlt hm3 => hMs m' _ hlt hm3) hm2 (fun hlt => hCd m' _ hlt hm2) hMet hn1 (by have := hn2.1; omega) (by have := hn2.2; omega) hK
        · dsimp only [mq_af] at hr
          cases hg : mq_gB o with
          | false => rw [hg] at hr; cases hr
          | true =>
            rw [hg] at hr
            cases hr
            exact HR pc nx a b c' j ins k L st o hcd hX hg
end MQ7
