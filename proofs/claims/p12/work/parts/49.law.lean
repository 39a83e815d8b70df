/-! THE LAW: from its entry to its loop -/
section MQ8
variable {g : mq_GH} {T T' : mq_T} {p : Program} {l : Launch} {e : Env} {R : Room} {s : State} {mid : MethodId} {args : Array Value} {below : List Frame} {meth : Method} {c : Code} {Q : State → Prop} {n0 z0 nL : Nat}
variable {y : MethodName} {bs : ByteArray} {ret : Option FieldType} {fr lo : Nat} {pc pc' : Nat} {L L' : mq_L} {st st' r : List Value} {h h' : mq_H}
/-- what okE says of an instruction of the law -/
theorem mq_g0 {P : mq_P} {nM m nx a b c' j : Nat} {ins : Instr} {k : Int32} {M : Nat × Nat × Nat × Nat × Nat × Nat × Nat} (hP : ∀ m pc e, P.2 m pc = some e → mq_okE P nM m pc e = true) (hm : P.1 m = some (y, bs, nL, ret, fr, lo, M)) (hcd : P.2 m pc = some (ins, nx, a, b, c', k, j)) : (mq_isSw ins = true → decode bs pc = .ok (ins, nx - pc)) ∧ (mq_isSw ins = false → decode bs pc = .ok (ins, mq_ln ins) ∧ nx = pc + mq_ln ins) ∧ mq_okX P nM y nL ret fr lo ins pc a b c' k j = true := by
  have hokE := hP _ _ _ hcd
  unfold mq_okE at hokE
  rw [hm] at hokE
  dsimp only at hokE
  rw [Bool.and_eq_true] at hokE
  obtain ⟨ho1, hok⟩ := hokE
  refine ⟨fun z => by rw [z] at ho1; exact of_decide_eq_true ho1, fun z => ?_, hok⟩
  rw [z] at ho1
  dsimp only [cond_false] at ho1
  rw [Bool.and_eq_true] at ho1
  exact ⟨of_decide_eq_true ho1.1, Nat.eq_of_beq_eq_true ho1.2⟩
/-- one step of the law -/
theorem mq_g1 {P : mq_P} {nM m nx a b c' j : Nat} {ins : Instr} {k : Int32} {M : Nat × Nat × Nat × Nat × Nat × Nat × Nat} (hP : ∀ m pc e, P.2 m pc = some e → mq_okE P nM m pc e = true) (hm : P.1 m = some (y, bs, nL, ret, fr, lo, M)) (C : mq_ctx g p R s mid args meth c y bs nL ret fr lo) (hcd : P.2 m pc = some (ins, nx, a, b, c', k, j)) (hs : mq_step T ins pc nx a b c' k L st h = some (.inl (none, pc', L', st', h'))) (h1 : mq_N h' - n0 ≤ R.cells) (h2 : mq_Z h' - z0 ≤ R.slots) (K : mq_good g T p l e R s mid args below meth c Q n0 z0 nL pc' L' st' h') : mq_good g T p l e R s mid args below meth c Q n0 z0 nL pc L st h := by
  obtain ⟨hde, hdn, hok⟩ := mq_g0 hP hm hcd
  exact mq_sound1 (P := P) (nM := nM) C hde hdn hok hs (fun o1 pc1 L1 st1 h3 e1 => by cases e1; exact ⟨h1, h2⟩) rfl K
/-- a call of the law -/
theorem mq_g2 {P : mq_P} {nM m nx a b c' j m' f : Nat} {ins : Instr} {k : Int32} {as : List Value} {v1 : Option Value} {M : Nat × Nat × Nat × Nat × Nat × Nat × Nat} (hP : ∀ m pc e, P.2 m pc = some e → mq_okE P nM m pc e = true) (hMs : ∀ m M, m < nM → P.1 m = some M → mq_okM M = true) (hCd : ∀ m M, m < nM → P.1 m = some M → mq_cod M) (hm : P.1 m = some (y, bs, nL, ret, fr, lo, M)) (C : mq_ctx g p R s mid args meth c y bs nL ret fr lo) (hcd : P.2 m pc = some (ins, nx, a, b, c', k, j)) (hs : mq_step T ins pc nx a b c' k L st h = some (.inr (.inr (.inr (.inr (.inl (none, m', as, st', pc'))))))) (hL : mq_args P m' as = some L') (hr : mq_run P T f m' 0 L' [] h = some (v1, h')) (h1 : mq_N h' - n0 ≤ R.cells) (h2 : mq_Z h' - z0 ≤ R.slots) (K : mq_good g T p l e R s mid args below meth c Q n0 z0 nL pc' L (mq_tl v1 st') h') : mq_good g T p l e R s mid args below meth c Q n0 z0 nL pc L st h := by
  obtain ⟨hde, hdn, hok⟩ := mq_g0 hP hm hcd
  have hn1 : mq_le h h' := mq_runN f _ _ _ _ _ _ _ hr
  cases hm2 : P.1 m' with
  | none => unfold mq_args at hL; rw [hm2] at hL; cases hL
  | some M2 =>
    obtain ⟨y2, bs2, nL2, ret2, fr2, lo2, kd2, ci2, np2, j1, j2, j3, j4⟩ := M2
    have hpl : m' < nM → plainName y2.cls = true := fun hlt => by
      have := hMs m' _ hlt hm2
      unfold mq_okM at this
      dsimp only at this
      simp only [Bool.and_eq_true, decide_eq_true_eq] at this
      exact this.2.2.1
    have hMet := fun hlt : m' < nM => mq_met (l := l) (T := T) (g := g) hm2 (hpl hlt) hL hn1 (v1 := v1) (fun p e R s mid args below meth c C' k1 k2 => mq_sound hP hMs hCd f m' 0 L' [] h v1 h' hr p e R s mid args below meth c _ (mq_N h) (mq_Z h) y2 bs2 nL2 ret2 fr2 lo2 _ hm2 C' k1 k2 (fun pc nx a b c' j ins k L st o hcd2 hs2 hg2 => by
      obtain ⟨hde2, hdn2, hok2⟩ := mq_g0 hP hm2 hcd2
      exact sd_ret (P := P) (nM := nM) C' hdn2 hok2 hs2 hg2))
    exact sd_call (P := P) (nM := nM) C hdn hok hs rfl (fun hlt hm3 => hMs m' _ hlt hm3) hm2 (fun hlt => hCd m' _ hlt hm2) hMet hn1 h1 h2 K
/-- from here on with another static table; the outside cells told -/
theorem mq_swap (hN : mq_N h' = mq_N h) (hZ : mq_Z h' = mq_Z h) (hsh : ∀ k, 4 ≤ k → mq_sh h' k = mq_sh h k) (hs4 : ∀ k, k < 4 → ∃ t n, mq_sh h' k = .inr (t, n) ∧ 9 ≤ t) (hd : ∀ k, 4 ≤ k → mq_I h' k = mq_I h k ∧ mq_J h' k = mq_J h k ∧ mq_R h' k = mq_R h k) (hst : mq_stc T' h') (hL : ∀ (i : Nat) (v : Value), L'[i]? = some (some v) → ∃ w, L[i]? = some (some w) ∧ mq_cv g v = mq_cv g w) (hx : ∀ H : Heap, (∀ q : Nat, q < g.1 → H[q]? = s.heap[q]?) → mq_ext g h' s H) (hgs : g.1 ≤ s.heap.size) (K : mq_good g T' p l e R s mid args below meth c Q n0 z0 nL pc L' [] h') : mq_good g T p l e R s mid args below meth c Q n0 z0 nL pc L [] h := by
  intro a b H ls locs r1 r2 r3 r4
  rw [← hN, ← hZ]
  obtain ⟨a1, a2, a3, a4, a5, a6, a7, a8⟩ := r1
  refine K (by rw [hN]; exact a) (by rw [hZ]; exact b) H ls locs ⟨by rw [hN]; exact a1, by rw [hN]; exact a2, a3, fun k h4 hk => ?_, fun k hk => ?_, hs4, fun k n j hk => ?_, hst⟩ (hx H (fun q hq => r4.2.1 q (by omega) (by omega))) ⟨r3.1, r3.2.1, fun i v hv => ?_⟩ r4
  · rw [hN] at hk
    exact (a4 k h4 hk).congr (hsh k h4) (hd k h4).1 (hd k h4).2.1 (hd k h4).2.2 rfl
  · rw [hN] at hk
    rw [hsh k (by omega)]
    exact a5 k hk
  · rcases Nat.lt_or_ge k 4 with q | q
    · obtain ⟨t, n', e1, e2⟩ := hs4 k q
      rw [e1] at hk
      cases hk
      omega
    · rw [hsh k q] at hk
      rw [(hd k q).1]
      exact a7 k n j hk
  · obtain ⟨w, h1, h2⟩ := hL i v hv
    rw [h2]
    exact r3.2.2 i w h1
end MQ8
/-- the heap at the law's loop: what the constructors made, and the script -/
def mq_h0 (h : mq_H) (L : Nat) (xs : Nat → Int32) : mq_H := (h.1, h.2.1, (fun k => if k = 0 then .inr (9, L) else h.2.2.1 k), (fun k j => if k = 0 then xs j else h.2.2.2.1 k j), h.2.2.2.2.1, h.2.2.2.2.2)
theorem mq_tS1_0 : mq_tS1 0 = none := by decide +kernel
theorem mq_okB_stc {h : mq_H} (hk : mq_okB h = true) (L : Nat) (xs : Nat → Int32) : mq_stc (mq_tT L) (mq_h0 h L xs) := by
  unfold mq_okB at hk
  simp only [Bool.and_eq_true] at hk
  obtain ⟨-, k1, k2, k3, k4, -, -⟩ := hk
  have hN : mq_N h = 100 := Nat.eq_of_beq_eq_true k1
  have hT1 : ∀ k s, mq_tS1 k = some s → mq_sh h k = s ∧ k < 100 ∧ k ≠ 0 := by
    intro k s hks
    have hk100 : k < 100 := by
      rcases Nat.lt_or_ge k 100 with q | q
      · exact q
      · unfold mq_tS1 at hks
        rw [Nat.ble_eq_true_of_le q] at hks
        cases hks
    have := List.all_eq_true.mp k3 k (List.mem_range.mpr hk100)
    rw [hks] at this
    exact ⟨of_decide_eq_true this, hk100, fun e => by subst e; rw [mq_tS1_0] at hks; cases hks⟩
  refine ⟨fun k s hks => ?_, fun k j b hkb => ?_⟩
  · have hks : mq_tS L k = some s := hks
    unfold mq_tS at hks
    cases hz : Nat.beq k 0 with
    | true =>
      rw [hz] at hks
      have := Nat.eq_of_beq_eq_true hz
      subst this
      cases hks
      exact ⟨rfl, by show 0 < mq_N h; omega⟩
    | false =>
      rw [hz] at hks
      obtain ⟨e1, e2, e3⟩ := hT1 k s hks
      exact ⟨(if_neg e3).trans e1, by show k < mq_N h; omega⟩
  · have hkb : mq_tR k j = some b := hkb
    have hk100 : k < 100 := by
      rcases Nat.lt_or_ge k 100 with q | q
      · exact q
      · unfold mq_tR at hkb
        rw [Nat.ble_eq_true_of_le q] at hkb
        cases hkb
    have hrow := List.all_eq_true.mp k4 k (List.mem_range.mpr hk100)
    have hj80 : j < 80 := by
      rcases Nat.lt_or_ge j 80 with q | q
      · exact q
      · exfalso
        unfold mq_tR at hkb
        rw [Nat.ble_eq_true_of_le q] at hkb
        cases hz : Nat.ble 100 k with
        | true => rw [hz] at hkb; cases hkb
        | false => rw [hz] at hkb; cases hkb
    have := List.all_eq_true.mp hrow j (List.mem_range.mpr hj80)
    rw [hkb] at this
    dsimp only at this
    rw [Bool.and_eq_true] at this
    refine ⟨of_decide_eq_true this.1, ?_⟩
    have h2 := this.2
    cases hs : mq_tS1 k with
    | none => rw [hs] at h2; cases h2
    | some sh =>
      rw [hs] at h2
      cases sh with
      | inr x => cases h2
      | inl ci =>
        refine ⟨ci, ?_⟩
        show mq_tS L k = some (.inl ci)
        unfold mq_tS
        have : Nat.beq k 0 = false := by
          cases hz : Nat.beq k 0 with
          | false => rfl
          | true =>
            have := Nat.eq_of_beq_eq_true hz
            subst this
            rw [mq_tS1_0] at hs
            cases hs
        rw [this]
        exact hs

/-- THE LAW's WALK out of the run of its loop in the abstract machine -/
theorem mq_whole (hP : ∀ m pc e, mq_G.2 m pc = some e → mq_okE mq_G 232 m pc e = true) (hMs : ∀ m M, m < 232 → mq_G.1 m = some M → mq_okM M = true) (hCd : ∀ m M, m < 232 → mq_G.1 m = some M → mq_cod M) {p : Program} {e : Env} {s : State} {m : MethodId} {below : List Frame} {meth : Method} {c : Code} (l : Launch) {b L : Nat} {xs : Nat → Int32} (C0 : lw_At p s m meth c b L xs) {hA' hB' : mq_H} {fA fB : Nat} (rA1 : mq_run mq_G mq_tE fA 102 0 [some (.ref 4)] [] (mq_new mq_h4 (.inl 11) 6) = some (none, hA')) (rA2 : mq_N hA' = 59) (rA3 : mq_Z hA' = 4938) (rB1 : mq_run mq_G mq_tE fB 136 0 [some (.ref 59)] [] (mq_new hA' (.inl 12) 72) = some (none, hB')) (rB2 : mq_okB hB' = true) (hA : mq_At mq_G (mq_tT L) 232 18 [some (.retAddr 0), some (.retAddr 4), some (.retAddr 59), some (.int 0)] [] (mq_h0 hB' L xs) (fun v h => v = some (.int 1) ∧ mq_N h ≤ 600000 ∧ mq_Z h ≤ 7302250)) : W p l e room_1 s m #[Value.ref b] below meth c s.heap [] 0 0 (lw_Z below #[Value.ref b] s) (entryFrame m ([Value.ref b] : List Value).toArray 4) := by
  obtain ⟨hx, hb, hr, hml, hown, hts, hX, hbl, hlocks, hgv⟩ := id C0
  have htg : ∀ w ∈ mq_gw, w.before #[Value.ref b] s = true := fun w hw => hts w (List.mem_filter.mp hw).1
  have hnw : ∀ w ∈ mq_nw, va_Nw w s := fun w hw => by
    have h1 := hts w (List.mem_filter.mp hw).1
    obtain ⟨a', i, x, b', rfl⟩ := mq_nw_form hw
    exact va_Nw.of rfl h1
  have hA1 : va_AO "RanOut$Law" s := va_AO.of (hts (.arrayOver (.object "RanOut$Law")) mq_aoLaw)
  have hA2 : va_AO "RanOut$Line" s := va_AO.of (hts (.arrayOver (.object "RanOut$Line")) mq_aoLine)
  have hKn : ∀ ci : Nat, ∃ (cC : ClassId) (iS : Nat → Nat), ∀ q : vw_C, mq_cl[ci]? = some q → u_Kn s q.1 q.2.1 q.2.2 cC iS := by
    intro ci
    cases hq : mq_cl[ci]? with
    | none => exact ⟨0, fun _ => 0, fun q h => by cases h⟩
    | some q =>
      obtain ⟨hin, -, -, -, hins, -⟩ := mq_cls hq
      obtain ⟨cC, iS, hk⟩ := u_known (C := q.1) (T := q.2.1) (N := q.2.2) (n := q.2.2) htg hin (htg _ hins)
      exact ⟨cC, iS, fun q' h => by cases h; exact hk⟩
  have hAr : ∀ a : Nat, a < 4 → ∃ cA : ClassId, ArrOfT s cA (mq_aty a) ∧ s.vm.findClass ("[" ++ (mq_aty a).toString) = some cA := by
    intro a ha
    obtain ⟨cA, kA, comp, h1, h2, h3⟩ := Cond.arrayClass_spec (htg _ (mq_ac ha))
    exact ⟨cA, fun n z => ⟨fun k h => (by cases h), kA, h2, comp, h3⟩, h1⟩
  have hAq : ∀ C : String, va_AO C s → ∃ cA : ClassId, ArrOfT s cA (.object C) ∧ va_RA s cA (.object C) := by
    intro C hC
    obtain ⟨comp, cA, k, h1, h2, h3, h4, h5⟩ := Cond.arrayOver_spec hC
    exact ⟨cA, fun n z => ⟨fun k h => (by cases h), k, h3, comp, h4⟩, k, comp, h3, h4, h1, h5⟩
  obtain ⟨cA0, p0, p1⟩ := hAr 0 (by decide)
  obtain ⟨cA1, p2, p3⟩ := hAr 1 (by decide)
  obtain ⟨cA2, p4, p5⟩ := hAr 2 (by decide)
  obtain ⟨cA3, p6, p7⟩ := hAr 3 (by decide)
  obtain ⟨cA4, p8, p9⟩ := hAq _ hA1
  obtain ⟨cA5, p10, p11⟩ := hAq _ hA2
  have hflat := flat_of_before _ hgv
  have hA0 : ∀ a : Nat, a < s.heap.size → ¬ s.heap.size ≤ a := fun a h => by omega
  obtain ⟨aU, hUt, hUT⟩ := va_Tof (tm := .static "RanOut" "UNIT_DAYS" "[I") (ty := .int) (N := 3) (f := fun j => .int (jk_ud j)) (A := fun q => s.heap.size ≤ q) (by decide) (hflat _ (by decide +kernel)) (va_eqt (hflat _ (by decide +kernel))) (fun j hj => by
    match j, hj with
    | 0, _ => exact va_eqt (hflat _ (by decide +kernel))
    | 1, _ => exact va_eqt (hflat _ (by decide +kernel))
    | 2, _ => exact va_eqt (hflat _ (by decide +kernel))) hA0
  obtain ⟨adK, adV, hSS, hSt⟩ := vk_Sof (N := 1) (tm := fun _ => .string "RanOut$Reader" jk_iW) (len := [jk_wn]) (byt := [jk_wb]) (A := fun q => s.heap.size ≤ q) (by decide +kernel) (fun i hi => hflat _ (by decide +kernel)) (fun i hi => hflat _ (by decide +kernel)) (fun i hi => hflat _ (by decide +kernel)) (fun i hi => by rw [show i = 0 by omega]; exact hflat _ (by decide +kernel)) (fun i hi => by rw [show i = 0 by omega]; exact fun j hj => hflat _ (jk_els j hj)) (fun i j hi hj hne => absurd (show i = j by omega) hne) hA0
  have hZU : va_Z "RanOut" "UNIT_DAYS" "[I" (.ref aU) (fun q => s.heap.size ≤ q) s s.heap := va_Zof (hts _ jk_zU) (hts _ jk_nU) hUt hA0
  have hZC : va_Z "java/lang/String" "COMPACT_STRINGS" "Z" (.int 1) (fun q => s.heap.size ≤ q) s s.heap := va_Zof (hts _ jk_zC) (htg _ jk_nST) (va_eqi (hflat _ (by decide +kernel))) hA0
  have hZF : va_Zq "jdk/internal/util/Preconditions" "SIOOBE_FORMATTER" "Ljava/util/function/BiFunction;" (fun q => s.heap.size ≤ q) s s.heap := va_Zqof (hts _ jk_zF) (htg _ jk_nPR) (hflat _ (by decide +kernel)) hA0
  have hUlt : aU < s.heap.size := by obtain ⟨cell, h1, -⟩ := hUT; exact (Array.getElem?_eq_some_iff.mp h1).1
  have hKlt : adK 0 < s.heap.size := by obtain ⟨cell, h1, -⟩ := (hSS.1 0 (by decide)).1; exact (Array.getElem?_eq_some_iff.mp h1).1
  let g : mq_GH := (s.heap.size, (fun k => match k with | 1 => aU | 2 => adK 0 | _ => b), (fun ci => (hKn ci).choose, fun ci => (hKn ci).choose_spec.choose), fun t => match t with
    | 0 => cA0
    | 1 => cA1
    | 2 => cA2
    | 3 => cA3
    | 4 => cA4
    | _ => cA5)
  have hK : va_K g.2.2.1 mq_cl (mq_tys g) s := by
    refine ⟨fun ci q hq => (hKn ci).choose_spec.choose_spec q hq, fun k q hk => ?_⟩
    match k, hk with
    | 0, hk => cases hk; exact ⟨p0, p1⟩
    | 1, hk => cases hk; exact ⟨p2, p3⟩
    | 2, hk => cases hk; exact ⟨p4, p5⟩
    | 3, hk => cases hk; exact ⟨p6, p7⟩
    | 4, hk => cases hk; exact ⟨p8, p9⟩
    | 5, hk => cases hk; exact ⟨p10, p11⟩
    | n + 6, hk => simp [mq_tys] at hk
  have hOs : mq_os g s := ⟨adV 0, ⟨hZU, hUT, (hSS.1 0 (by decide)).1, (hSS.1 0 (by decide)).2.1, (hSS.1 0 (by decide)).2.2.1, (hSS.1 0 (by decide)).2.2.2, hZC, hZF⟩, vk_R.of (hts _ jk_sR) (hSt 0 (by decide)), va_Nw.of rfl (hts _ jk_fN), va_Nw.of rfl (hts _ jk_ca), va_Nw.of rfl (hts _ jk_sm)⟩
  have C : mq_ctx g p room_1 s m #[Value.ref b] meth c ⟨"RanOutLaw", "law", "([I)Z"⟩ code 4 (some .boolean) 11 248 := ⟨hx, hb, hml, hr, hown, fun q => absurd q (by decide), hlocks, by decide, by decide, htg, hK, hnw, hA1, ⟨hA2, hOs⟩, Nat.le_refl _⟩
  have hm : mq_G.1 232 = some (⟨"RanOutLaw", "law", "([I)Z"⟩, code, 4, some .boolean, 11, 248, 0, 99, 1, 0, 0, 0, 107) := rfl
  have hNB : mq_N hB' = 100 ∧ mq_Z hB' = 34912 ∧ ∀ k, k < 4 → mq_sh hB' k = .inr (10, 0) := by
    unfold mq_okB at rB2
    simp only [Bool.and_eq_true] at rB2
    exact ⟨Nat.eq_of_beq_eq_true rB2.2.1, Nat.eq_of_beq_eq_true rB2.2.2.1, fun k hk => of_decide_eq_true (List.all_eq_true.mp rB2.1 k (List.mem_range.mpr hk))⟩
  have K18 : mq_good g (mq_tT L) p l e room_1 s m #[Value.ref b] below meth c (lw_Z below #[Value.ref b] s) 4 0 4 18 [some (.retAddr 0), some (.retAddr 4), some (.retAddr 59), some (.int 0)] [] (mq_h0 hB' L xs) := by
    obtain ⟨f, v, hf, hrun, rfl, hc1, hc2⟩ := hA
    refine mq_sound hP hMs hCd f 232 18 _ [] _ _ hf hrun p e room_1 s m #[Value.ref b] below meth c _ 4 0 _ _ _ _ _ _ _ hm C (by show mq_N hf - 4 ≤ 600000; omega) (by show mq_Z hf - 0 ≤ 7302250; omega) (fun pc nx a b' c' j ins k L' st o hcd hs hg => ?_)
    obtain ⟨hde, hdn, hok⟩ := mq_g0 hP hm hcd
    intro n1 n2 H ls locs r1 r2 r3 r4
    have hcase : ins = .ireturn ∧ st = [.int 1] := by
      cases ins
      case ireturn =>
        dsimp only [mq_step] at hs
        split at hs
        · rename_i x
          cases hz : Nat.beq c' 1 with
          | true => rw [hz] at hs; cases hs; exact ⟨rfl, rfl⟩
          | false => rw [hz] at hs; cases hs; exact ⟨rfl, rfl⟩
        · cases hs
      case lreturn =>
        dsimp only [mq_step] at hs
        split at hs <;> cases hs
      case areturn =>
        dsimp only [mq_step] at hs
        split at hs <;> cases hs
      case return_ =>
        dsimp only [mq_step] at hs
        split at hs <;> cases hs
      all_goals
        exfalso
        dsimp only [mq_step] at hs
        first
          | (cases hs; done)
          | (unfold mq_ldI at hs; split at hs <;> cases hs)
          | (unfold mq_ldJ at hs; split at hs <;> cases hs)
          | (unfold mq_ldA at hs; split at hs <;> cases hs)
          | (unfold mq_stI at hs; split at hs <;> cases hs)
          | (unfold mq_stJ at hs; split at hs <;> cases hs)
          | (unfold mq_stA at hs; split at hs <;> cases hs)
          | (unfold mq_c0 at hs; split at hs <;> cases hs)
          | (unfold mq_cr at hs; split at hs <;> cases hs)
          | ((try simp only [Bool.cond_eq_ite, mq_ivS, mq_ivI, mq_ivV, mq_gf, mq_pf, mq_copy, mq_mx, mq_mi, mq_chr, mq_cln] at hs); repeat' split at hs
             all_goals (cases hs; done))
    obtain ⟨rfl, rfl⟩ := hcase
    refine va_forget (fun q hq => r4.2.2 q hq) ?_
    refine W.widen (k := 600000) (n := 7302250) (by omega) (by omega) ?_
    exact lw_ret hx hb hr hlocks (hdn rfl).1
  have K18' : mq_good g mq_tE p l e room_1 s m #[Value.ref b] below meth c (lw_Z below #[Value.ref b] s) 4 0 4 18 [some (.ref 0), some (.ref 4), some (.ref 59), some (.int 0)] [] hB' := by
    refine mq_swap (h' := mq_h0 hB' L xs) rfl rfl (fun k hk => if_neg (by omega)) (fun k hk => ?_) (fun k hk => ⟨by funext j; exact if_neg (by omega), rfl, rfl⟩) (mq_okB_stc rB2 L xs) (fun i v hv => ?_) (fun H hH => ?_) (Nat.le_refl _) K18
    · by_cases e0 : k = 0
      · exact ⟨9, L, if_pos e0, by decide⟩
      · exact ⟨10, 0, (if_neg e0).trans (hNB.2.2 k hk), by decide⟩
    · match i, hv with
      | 0, hv => cases hv; exact ⟨_, rfl, rfl⟩
      | 1, hv => cases hv; exact ⟨_, rfl, rfl⟩
      | 2, hv => cases hv; exact ⟨_, rfl, rfl⟩
      | 3, hv => cases hv; exact ⟨_, rfl, rfl⟩
      | n + 4, hv => simp at hv
    · intro k n hk hn
      by_cases e0 : k = 0
      · subst e0
        cases hn
        exact (hX.kept (hH b hbl) : va_X b L xs s H)
      · have : mq_sh (mq_h0 hB' L xs) k = .inr (10, 0) := (if_neg e0).trans (hNB.2.2 k hk)
        rw [this] at hn
        cases hn
  have K0 : mq_good g mq_tE p l e room_1 s m #[Value.ref b] below meth c (lw_Z below #[Value.ref b] s) 4 0 4 0 [some (.ref 0), none, none, none] [] mq_h4 := by
    have cN : ∀ h : mq_H, mq_N h ≤ 200 → mq_N h - 4 ≤ room_1.cells := fun h hh => by show mq_N h - 4 ≤ 600000; omega
    have cZ : ∀ h : mq_H, mq_Z h ≤ 40000 → mq_Z h - 0 ≤ room_1.slots := fun h hh => by show mq_Z h - 0 ≤ 7302250; omega
    refine mq_g1 hP hm C (pc' := 3) rfl rfl (cN _ (by decide)) (cZ _ (by decide)) ?_
    refine mq_g1 hP hm C (pc' := 4) rfl rfl (cN _ (by decide)) (cZ _ (by decide)) ?_
    refine mq_g2 hP hMs hCd hm C (pc' := 7) rfl rfl rfl rA1 (cN _ (by omega)) (cZ _ (by omega)) ?_
    refine mq_g1 hP hm C (pc' := 8) rfl rfl (cN _ (by omega)) (cZ _ (by omega)) ?_
    refine mq_g1 hP hm C (pc' := 11) rfl rfl (cN _ (by rw [mq_N_new]; omega)) (cZ _ (by rw [mq_Z_new]; omega)) ?_
    rw [rA2]
    refine mq_g1 hP hm C (pc' := 12) rfl rfl (cN _ (by rw [mq_N_new]; omega)) (cZ _ (by rw [mq_Z_new]; omega)) ?_
    refine mq_g2 hP hMs hCd hm C (pc' := 15) rfl rfl rfl rB1 (cN _ (by omega)) (cZ _ (by omega)) ?_
    refine mq_g1 hP hm C (pc' := 16) rfl rfl (cN _ (by omega)) (cZ _ (by omega)) ?_
    refine mq_g1 hP hm C (pc' := 17) rfl rfl (cN _ (by omega)) (cZ _ (by omega)) ?_
    refine mq_g1 hP hm C (pc' := 18) rfl rfl (cN _ (by omega)) (cZ _ (by omega)) ?_
    exact K18'
  have hl := lv_entry ([.ref b]) (n := 4) (Nat.le_of_ble_eq_true rfl)
  rw [lg_entry_eq]
  refine K0 (Nat.le_refl _) (Nat.le_refl _) s.heap _ [] ⟨Nat.le_refl _, rfl, (fun k hk => by match k with | 0 => exact hbl | 1 => exact hUlt | 2 => exact hKlt | k + 3 => exact hbl), fun k h4 hk => absurd hk (by show ¬ k < 4; omega), fun k hk => if_neg (by show ¬ k < 4; exact Nat.not_lt.mpr hk), fun k hk => ⟨10, 0, if_pos hk, by decide⟩, fun k n j hk => ?_, (⟨fun k s' hk => (by cases hk), fun k j b' hk => (by cases hk)⟩ : mq_stc mq_tE mq_h4)⟩ (fun k n hk hn => ?_) ⟨hl.1, hl.2.1, fun i v hv => ?_⟩ va_S.rf
  · exact Or.inl rfl
  · exfalso
    have : mq_sh mq_h4 k = .inr (10, 0) := if_pos hk
    rw [this] at hn
    cases hn
  · match i, hv with
    | 0, hv => cases hv; exact hl.2.2 (0, .ref b) List.mem_cons_self
    | 1, hv => cases hv
    | 2, hv => cases hv
    | 3, hv => cases hv
    | n + 4, hv => simp at hv
