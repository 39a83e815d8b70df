/-! ONE STEP: every instruction -/
def mq_sem (A : Nat → mq_L → List Value → mq_H → Prop) (B : Prop) (L : mq_L) (h : mq_H) : mq_X → Prop
  | .inl (o, pc', L', st', h') => mq_gB o = true → A pc' L' st' h' → B
  | .inr (.inl (o, x, z, t, e', st')) => A (bif mq_cmp o x z then t else e') L st' h → B
  | .inr (.inr (.inl (o, w, pc', st'))) => mq_gB o = true → A pc' L (mq_pv w :: st') h → B
  | .inr (.inr (.inr (.inl (x, l, d, st')))) => A (mq_find x l d) L st' h → B
  | _ => True
section MQ6
variable {g : mq_GH} {T : mq_T} {p : Program} {l : Launch} {e : Env} {R : Room} {s : State} {mid : MethodId} {args : Array Value} {below : List Frame} {meth : Method} {c : Code} {Q : State → Prop} {n0 z0 nL : Nat}
variable {y : MethodName} {bs : ByteArray} {ret : Option FieldType} {fr lo : Nat} {pc pc' : Nat} {L : mq_L} {st st' r : List Value} {h h' : mq_H}
theorem sd_ldIA {a nx : Nat} {X : mq_X} (hX : mq_ldI a nx L st h = some X) (hw : ∀ (x : Int32) (H : Heap) (ls : Array Slot) (locs : List Loc) (ce sl : Nat), ls[a]? = some (.val (.int x)) → W p l e R s mid args below meth c H locs ce sl Q (F0 mid nx ls (Value.int x :: st.map (mq_cv g))) → W p l e R s mid args below meth c H locs ce sl Q (F0 mid pc ls (st.map (mq_cv g)))) : mq_sem (mq_good g T p l e R s mid args below meth c Q n0 z0 nL) (mq_good g T p l e R s mid args below meth c Q n0 z0 nL pc L st h) L h X := by
  unfold mq_ldI at hX
  split at hX
  · rename_i x hld
    cases hX
    exact fun _ K => sd_ldI hld (hw x) K
  · cases hX
theorem sd_ldJA {a nx : Nat} {X : mq_X} (hX : mq_ldJ a nx L st h = some X) (hw : ∀ (x : Int64) (H : Heap) (ls : Array Slot) (locs : List Loc) (ce sl : Nat), ls[a]? = some (.val (.long x)) → W p l e R s mid args below meth c H locs ce sl Q (F0 mid nx ls (Value.long x :: st.map (mq_cv g))) → W p l e R s mid args below meth c H locs ce sl Q (F0 mid pc ls (st.map (mq_cv g)))) : mq_sem (mq_good g T p l e R s mid args below meth c Q n0 z0 nL) (mq_good g T p l e R s mid args below meth c Q n0 z0 nL pc L st h) L h X := by
  unfold mq_ldJ at hX
  split at hX
  · rename_i x hld
    cases hX
    exact fun _ K => sd_ldJ hld (hw x) K
  · cases hX
theorem sd_ldAA {a nx : Nat} {X : mq_X} (hX : mq_ldA a nx L st h = some X) (hw : ∀ (x : Nat) (H : Heap) (ls : Array Slot) (locs : List Loc) (ce sl : Nat), ls[a]? = some (.val (.ref x)) → W p l e R s mid args below meth c H locs ce sl Q (F0 mid nx ls (Value.ref x :: st.map (mq_cv g))) → W p l e R s mid args below meth c H locs ce sl Q (F0 mid pc ls (st.map (mq_cv g)))) (hw0 : ∀ (H : Heap) (ls : Array Slot) (locs : List Loc) (ce sl : Nat), ls[a]? = some (.val .null) → W p l e R s mid args below meth c H locs ce sl Q (F0 mid nx ls (Value.null :: st.map (mq_cv g))) → W p l e R s mid args below meth c H locs ce sl Q (F0 mid pc ls (st.map (mq_cv g)))) : mq_sem (mq_good g T p l e R s mid args below meth c Q n0 z0 nL) (mq_good g T p l e R s mid args below meth c Q n0 z0 nL pc L st h) L h X := by
  unfold mq_ldA at hX
  split at hX
  · rename_i x hld
    cases hX
    exact fun _ K => sd_ldA hld (fun H ls locs ce sl => hw (mq_ad g x) H ls locs ce sl) K
  · rename_i x hld
    cases hX
    exact fun _ K => sd_ldA hld (fun H ls locs ce sl => hw (mq_ad g x) H ls locs ce sl) K
  · rename_i hld
    cases hX
    exact fun _ K => sd_ldA hld (fun H ls locs ce sl => hw0 H ls locs ce sl) K
  · cases hX
theorem mq_isA_spec {sh : mq_S} (h : mq_isA sh = true) : ∃ t n, sh = .inr (t, n) ∧ t ≤ 9 := by
  unfold mq_isA at h
  split at h
  · rename_i t n
    exact ⟨t, n, rfl, Nat.le_of_ble_eq_true h⟩
  · cases h
set_option maxHeartbeats 8000000 in
theorem mq_sound1 {P : mq_P} {nM nx a b c' j : Nat} {ins : Instr} {k : Int32} {X : mq_X} (C : mq_ctx g p R s mid args meth c y bs nL ret fr lo) (hde : mq_isSw ins = true → decode bs pc = .ok (ins, nx - pc)) (hdn : mq_isSw ins = false → decode bs pc = .ok (ins, mq_ln ins) ∧ nx = pc + mq_ln ins) (hok : mq_okX P nM y nL ret fr lo ins pc a b c' k j = true) (hs : mq_step T ins pc nx a b c' k L st h = some X) (hcap : ∀ o pc' L' st' h', X = .inl (o, pc', L', st', h') → mq_N h' - n0 ≤ R.cells ∧ mq_Z h' - z0 ≤ R.slots) : mq_sem (mq_good g T p l e R s mid args below meth c Q n0 z0 nL) (mq_good g T p l e R s mid args below meth c Q n0 z0 nL pc L st h) L h X := by
  obtain ⟨hx, hb, hml, hr, hown, hnm, hlk, hfr, hlo, hts, hK, hNw, hA1, ⟨hA2, hOs⟩, hgs⟩ := id C
  cases ins
  case iconst n =>
    obtain ⟨hd, rfl⟩ := hdn rfl
    cases hs
    exact fun _ K => mq_good.sk (fun H ls locs ce sl _ _ _ _ kk => lv_iconst hx hb hd (of_decide_eq_true hok) kk) K
  case bipush n =>
    obtain ⟨hd, rfl⟩ := hdn rfl
    cases hs
    exact fun _ K => mq_good.sk (fun H ls locs ce sl _ _ _ _ kk => lv_bipush hx hb hd (of_decide_eq_true hok) kk) K
  case sipush n =>
    obtain ⟨hd, rfl⟩ := hdn rfl
    cases hs
    exact fun _ K => mq_good.sk (fun H ls locs ce sl _ _ _ _ kk => lv_sipush hx hb hd (of_decide_eq_true hok) kk) K
  case ldc n =>
    obtain ⟨hd, rfl⟩ := hdn rfl
    dsimp only [mq_step] at hs
    dsimp only [mq_okX] at hok
    cases hb1 : Nat.beq b 1 with
    | true =>
      rw [hb1] at hs hok
      cases hs
      obtain ⟨e1, e2⟩ := of_decide_eq_true hok
      obtain ⟨aV, -, k2, -⟩ := hOs
      subst e2
      exact fun _ K => mq_good.sk (fun H ls locs ce sl _ _ _ _ kk => va_ldcS hx hb (own := "RanOut$Reader") (by rw [← e1]; exact hown) k2 hd kk) K
    | false =>
      rw [hb1] at hs hok
      cases hs
      exact fun _ K => mq_good.sk (fun H ls locs ce sl _ _ _ _ kk => lv_ldc hx hb hown (hts _ (mq_hw_in hok)) hd kk) K
  case getstatic n =>
    obtain ⟨hd, rfl⟩ := hdn rfl
    cases hs
    obtain ⟨e1, e2⟩ := of_decide_eq_true hok
    obtain ⟨aV, k1, -, k3, -⟩ := hOs
    subst e2
    exact fun _ K => mq_good.sk (fun H ls locs ce sl _ _ _ r4 kk => va_getsN hx hb k1.1 r4 (own := "RanOut$Reader") (by rw [← e1]; exact hown) (va_Nw.use rfl k3) (fun _ z => z) hd kk) K
  case checkcast n =>
    obtain ⟨hd, rfl⟩ := hdn rfl
    dsimp only [mq_step] at hs
    split at hs
    · rename_i x r
      cases hs
      intro hg K
      refine mq_good.sk (fun H ls locs ce sl r1 _ _ _ kk => ?_) K
      obtain ⟨n', hsh⟩ : ∃ n', mq_sh h x = .inr (0, n') := by
        have hg : mq_s0 (mq_sh h x) = true := hg
        unfold mq_s0 at hg
        split at hg
        · rename_i n' e; exact ⟨n', e⟩
        · cases hg
      obtain ⟨-, -, hc⟩ := r1.arr hsh (by decide)
      exact va_castA hx hb hown (hts _ (mq_hw_in hok)) (ws := [(mq_ad g x, .inl (g.2.2.2 0, n', mq_adt g h x 0))]) (D := g.2.2.1) (cl := mq_cl) (fun k q hk => by
        match k, hk with
        | 0, hk => cases hk; exact hc
        | n + 1, hk => simp at hk) 0 rfl (hK.2 0 _ rfl).2 hd kk
    · cases hs
  case ldc_w n =>
    obtain ⟨hd, rfl⟩ := hdn rfl
    cases hs
    exact fun _ K => mq_good.sk (fun H ls locs ce sl _ _ _ _ kk => lv_ldcw hx hb hown (hts _ (mq_hw_in hok)) hd kk) K
  case ldc2_w n =>
    obtain ⟨hd, rfl⟩ := hdn rfl
    cases hs
    exact fun _ K => mq_good.sk (fun H ls locs ce sl _ _ _ _ kk => lv_ldc2 hx hb hown (hts _ (mq_hw_in hok)) hd kk) K
  case lconst n =>
    obtain ⟨hd, rfl⟩ := hdn rfl
    cases hs
    exact fun _ K => mq_good.sk (fun H ls locs ce sl _ _ _ _ kk => lv_lconst hx hb hd (of_decide_eq_true hok) kk) K
  case aconst_null =>
    obtain ⟨hd, rfl⟩ := hdn rfl
    cases hs
    exact fun _ K => mq_good.sk (fun H ls locs ce sl _ _ _ _ kk => lv_null hx hb hd kk) K
  case iload_n i =>
    obtain ⟨hd, rfl⟩ := hdn rfl
    exact sd_ldIA hs (fun x H ls locs ce sl hl kk => lv_iload_n hx hb hd (of_decide_eq_true hok) hl kk)
  case iload i =>
    obtain ⟨hd, rfl⟩ := hdn rfl
    cases of_decide_eq_true hok
    exact sd_ldIA hs (fun x H ls locs ce sl hl kk => lv_iload hx hb hd hl kk)
  case lload_n i =>
    obtain ⟨hd, rfl⟩ := hdn rfl
    exact sd_ldJA hs (fun x H ls locs ce sl hl kk => lv_lload_n hx hb hd (of_decide_eq_true hok) hl kk)
  case lload i =>
    obtain ⟨hd, rfl⟩ := hdn rfl
    cases of_decide_eq_true hok
    exact sd_ldJA hs (fun x H ls locs ce sl hl kk => lv_lload hx hb hd hl kk)
  case aload_n i =>
    obtain ⟨hd, rfl⟩ := hdn rfl
    exact sd_ldAA hs (fun x H ls locs ce sl hl kk => lv_aload_n hx hb hd (of_decide_eq_true hok) hl kk) (fun H ls locs ce sl hl kk => lv_aload_nN hx hb hd (of_decide_eq_true hok) hl kk)
  case aload i =>
    obtain ⟨hd, rfl⟩ := hdn rfl
    cases of_decide_eq_true hok
    exact sd_ldAA hs (fun x H ls locs ce sl hl kk => lv_aload hx hb hd hl kk) (fun H ls locs ce sl hl kk => lv_aloadN hx hb hd hl kk)
  case istore_n i =>
    obtain ⟨hd, rfl⟩ := hdn rfl
    obtain ⟨h1, h2⟩ := of_decide_eq_true hok
    dsimp only [mq_step] at hs
    unfold mq_stI at hs
    split at hs
    · cases hs
      exact fun _ K => sd_st1 (fun H ls locs ce sl lv hl kk => lv_istore_n hx hb hd h1 hl h2 rfl kk) K
    · cases hs
  case istore i =>
    obtain ⟨hd, rfl⟩ := hdn rfl
    obtain ⟨h1, h2⟩ := of_decide_eq_true hok
    cases h1
    dsimp only [mq_step] at hs
    unfold mq_stI at hs
    split at hs
    · cases hs
      exact fun _ K => sd_st1 (fun H ls locs ce sl lv hl kk => lv_istore hx hb hd hl h2 rfl kk) K
    · cases hs
  case lstore_n i =>
    obtain ⟨hd, rfl⟩ := hdn rfl
    obtain ⟨h1, h2⟩ := of_decide_eq_true hok
    dsimp only [mq_step] at hs
    unfold mq_stJ at hs
    split at hs
    · cases hs
      exact fun _ K => sd_st2 (fun H ls locs ce sl lv hl kk => lv_lstore_n hx hb hd h1 hl h2 rfl kk) K
    · cases hs
  case lstore i =>
    obtain ⟨hd, rfl⟩ := hdn rfl
    obtain ⟨h1, h2⟩ := of_decide_eq_true hok
    cases h1
    dsimp only [mq_step] at hs
    unfold mq_stJ at hs
    split at hs
    · cases hs
      exact fun _ K => sd_st2 (fun H ls locs ce sl lv hl kk => lv_lstore hx hb hd hl h2 rfl kk) K
    · cases hs
  case astore_n i =>
    obtain ⟨hd, rfl⟩ := hdn rfl
    obtain ⟨h1, h2⟩ := of_decide_eq_true hok
    dsimp only [mq_step] at hs
    unfold mq_stA at hs
    split at hs
    · cases hs
      exact fun _ K => sd_st1 (fun H ls locs ce sl lv hl kk => lv_astore_n hx hb hd h1 hl h2 rfl kk) K
    · cases hs
      exact fun _ K => sd_st1 (fun H ls locs ce sl lv hl kk => lv_astore_n hx hb hd h1 hl h2 rfl kk) K
    · cases hs
      exact fun _ K => sd_st1 (fun H ls locs ce sl lv hl kk => lv_astore_nN hx hb hd h1 hl h2 rfl kk) K
    · cases hs
  case astore i =>
    obtain ⟨hd, rfl⟩ := hdn rfl
    obtain ⟨h1, h2⟩ := of_decide_eq_true hok
    cases h1
    dsimp only [mq_step] at hs
    unfold mq_stA at hs
    split at hs
    · cases hs
      exact fun _ K => sd_st1 (fun H ls locs ce sl lv hl kk => lv_astore hx hb hd hl h2 rfl kk) K
    · cases hs
      exact fun _ K => sd_st1 (fun H ls locs ce sl lv hl kk => lv_astore hx hb hd hl h2 rfl kk) K
    · cases hs
      exact fun _ K => sd_st1 (fun H ls locs ce sl lv hl kk => lv_astoreN hx hb hd hl h2 rfl kk) K
    · cases hs
  case iinc i n =>
    obtain ⟨hd, rfl⟩ := hdn rfl
    obtain ⟨h1, h2, h3⟩ := of_decide_eq_true hok
    cases h1
    dsimp only [mq_step] at hs
    split at hs
    · rename_i x hld
      cases hs
      exact fun _ K => sd_iinc hx hb hd h2 h3 hld K
    · cases hs
  case iadd =>
    obtain ⟨hd, rfl⟩ := hdn rfl
    dsimp only [mq_step] at hs
    split at hs
    · cases hs
      exact fun _ K => mq_good.sk (fun H ls locs ce sl _ _ _ _ kk => lv_iadd hx hb hd kk) K
    · cases hs
  case isub =>
    obtain ⟨hd, rfl⟩ := hdn rfl
    dsimp only [mq_step] at hs
    split at hs
    · cases hs
      exact fun _ K => mq_good.sk (fun H ls locs ce sl _ _ _ _ kk => lv_isub hx hb hd kk) K
    · cases hs
  case imul =>
    obtain ⟨hd, rfl⟩ := hdn rfl
    dsimp only [mq_step] at hs
    split at hs
    · cases hs
      exact fun _ K => mq_good.sk (fun H ls locs ce sl _ _ _ _ kk => lv_imul hx hb hd kk) K
    · cases hs
  case iand =>
    obtain ⟨hd, rfl⟩ := hdn rfl
    dsimp only [mq_step] at hs
    split at hs
    · cases hs
      exact fun _ K => mq_good.sk (fun H ls locs ce sl _ _ _ _ kk => lv_iand hx hb hd kk) K
    · cases hs
  case ior =>
    obtain ⟨hd, rfl⟩ := hdn rfl
    dsimp only [mq_step] at hs
    split at hs
    · cases hs
      exact fun _ K => mq_good.sk (fun H ls locs ce sl _ _ _ _ kk => lv_ior hx hb hd kk) K
    · cases hs
  case ixor =>
    obtain ⟨hd, rfl⟩ := hdn rfl
    dsimp only [mq_step] at hs
    split at hs
    · cases hs
      exact fun _ K => mq_good.sk (fun H ls locs ce sl _ _ _ _ kk => lv_ixor hx hb hd kk) K
    · cases hs
  case ishl =>
    obtain ⟨hd, rfl⟩ := hdn rfl
    dsimp only [mq_step] at hs
    split at hs
    · cases hs
      exact fun _ K => mq_good.sk (fun H ls locs ce sl _ _ _ _ kk => lv_ishl hx hb hd kk) K
    · cases hs
  case ishr =>
    obtain ⟨hd, rfl⟩ := hdn rfl
    dsimp only [mq_step] at hs
    split at hs
    · cases hs
      exact fun _ K => mq_good.sk (fun H ls locs ce sl _ _ _ _ kk => lv_ishr hx hb hd kk) K
    · cases hs
  case iushr =>
    obtain ⟨hd, rfl⟩ := hdn rfl
    dsimp only [mq_step] at hs
    split at hs
    · cases hs
      exact fun _ K => mq_good.sk (fun H ls locs ce sl _ _ _ _ kk => lv_iushr hx hb hd rfl kk) K
    · cases hs
  case ineg =>
    obtain ⟨hd, rfl⟩ := hdn rfl
    dsimp only [mq_step] at hs
    split at hs
    · cases hs
      exact fun _ K => mq_good.sk (fun H ls locs ce sl _ _ _ _ kk => lv_ineg hx hb hd kk) K
    · cases hs
  case i2b =>
    obtain ⟨hd, rfl⟩ := hdn rfl
    dsimp only [mq_step] at hs
    split at hs
    · cases hs
      exact fun _ K => mq_good.sk (fun H ls locs ce sl _ _ _ _ kk => lv_i2b hx hb hd rfl kk) K
    · cases hs
  case i2c =>
    obtain ⟨hd, rfl⟩ := hdn rfl
    dsimp only [mq_step] at hs
    split at hs
    · cases hs
      exact fun _ K => mq_good.sk (fun H ls locs ce sl _ _ _ _ kk => lv_i2c hx hb hd rfl kk) K
    · cases hs
  case l2i =>
    obtain ⟨hd, rfl⟩ := hdn rfl
    dsimp only [mq_step] at hs
    split at hs
    · cases hs
      exact fun _ K => mq_good.sk (fun H ls locs ce sl _ _ _ _ kk => lv_l2i hx hb hd rfl kk) K
    · cases hs
  case land =>
    obtain ⟨hd, rfl⟩ := hdn rfl
    dsimp only [mq_step] at hs
    split at hs
    · cases hs
      exact fun _ K => mq_good.sk (fun H ls locs ce sl _ _ _ _ kk => lv_land hx hb hd kk) K
    · cases hs
  case lor =>
    obtain ⟨hd, rfl⟩ := hdn rfl
    dsimp only [mq_step] at hs
    split at hs
    · cases hs
      exact fun _ K => mq_good.sk (fun H ls locs ce sl _ _ _ _ kk => lv_lor hx hb hd kk) K
    · cases hs
  case lushr =>
    obtain ⟨hd, rfl⟩ := hdn rfl
    dsimp only [mq_step] at hs
    split at hs
    · cases hs
      exact fun _ K => mq_good.sk (fun H ls locs ce sl _ _ _ _ kk => lv_lushr hx hb hd rfl kk) K
    · cases hs
  case lshl =>
    obtain ⟨hd, rfl⟩ := hdn rfl
    dsimp only [mq_step] at hs
    split at hs
    · cases hs
      exact fun _ K => mq_good.sk (fun H ls locs ce sl _ _ _ _ kk => lv_lshl hx hb hd rfl kk) K
    · cases hs
  case lcmp =>
    obtain ⟨hd, rfl⟩ := hdn rfl
    dsimp only [mq_step] at hs
    split at hs
    · cases hs
      exact fun _ K => mq_good.sk (fun H ls locs ce sl _ _ _ _ kk => W.lcmp hx hb hd kk) K
    · cases hs
  case idiv =>
    obtain ⟨hd, rfl⟩ := hdn rfl
    dsimp only [mq_step] at hs
    split at hs
    · cases hs
      exact fun hg K => mq_good.sk (fun H ls locs ce sl _ _ _ _ kk => lv_idiv hx hb hd (of_decide_eq_true hg) kk) K
    · cases hs
  case irem =>
    obtain ⟨hd, rfl⟩ := hdn rfl
    dsimp only [mq_step] at hs
    split at hs
    · cases hs
      exact fun hg K => mq_good.sk (fun H ls locs ce sl _ _ _ _ kk => lv_irem hx hb hd (of_decide_eq_true hg) kk) K
    · cases hs
  case dup =>
    obtain ⟨hd, rfl⟩ := hdn rfl
    dsimp only [mq_step] at hs
    split at hs
    · rename_i v r
      obtain ⟨h1, h2⟩ := mq_bif_t hs
      cases h2
      exact fun _ K => mq_good.sk (fun H ls locs ce sl _ _ _ _ kk => lv_dup hx hb hd (by rw [mq_cv_cat]; exact Nat.eq_of_beq_eq_true h1) kk) K
    · cases hs
  case dup2 =>
    obtain ⟨hd, rfl⟩ := hdn rfl
    dsimp only [mq_step] at hs
    split at hs
    · rename_i v w r
      cases h1 : Nat.beq v.category 1 with
      | false => rw [h1] at hs; cases hs
      | true =>
        rw [h1] at hs
        obtain ⟨h2, h3⟩ := mq_bif_t hs
        cases h3
        exact fun _ K => mq_good.sk (fun H ls locs ce sl _ _ _ _ kk => lv_dup2_11 hx hb hd (by rw [mq_cv_cat]; exact Nat.eq_of_beq_eq_true h1) (by rw [mq_cv_cat]; exact Nat.eq_of_beq_eq_true h2) kk) K
    · cases hs
  case pop =>
    obtain ⟨hd, rfl⟩ := hdn rfl
    dsimp only [mq_step] at hs
    split at hs
    · rename_i v r
      obtain ⟨h1, h2⟩ := mq_bif_t hs
      cases h2
      exact fun _ K => mq_good.sk (fun H ls locs ce sl _ _ _ _ kk => lv_pop hx hb hd (by rw [mq_cv_cat]; exact Nat.eq_of_beq_eq_true h1) kk) K
    · cases hs
  case goto o =>
    obtain ⟨hd, rfl⟩ := hdn rfl
    cases hs
    exact fun _ K => mq_good.sk (fun H ls locs ce sl _ _ _ _ kk => lv_goto hx hb hd (of_decide_eq_true hok) kk) K
  case ifCond o off =>
    obtain ⟨hd, rfl⟩ := hdn rfl
    dsimp only [mq_step] at hs
    unfold mq_c0 at hs
    split at hs
    · cases hs
      exact fun K => sd_b0 hx hb hd (of_decide_eq_true hok) K
    · cases hs
  case if_icmp o off =>
    obtain ⟨hd, rfl⟩ := hdn rfl
    dsimp only [mq_step] at hs
    unfold mq_cr at hs
    split at hs
    · cases hs
      exact fun K => sd_br hx hb hd (of_decide_eq_true hok) K
    · cases hs
  case ifnonnull off =>
    obtain ⟨hd, rfl⟩ := hdn rfl
    dsimp only [mq_step] at hs
    split at hs
    · cases hs
      exact fun _ K => mq_good.sk (fun H ls locs ce sl _ _ _ _ kk => lv_ifnonnull hx hb hd (of_decide_eq_true hok) kk) K
    · cases hs
      exact fun _ K => mq_good.sk (fun H ls locs ce sl _ _ _ _ kk => lv_ifnonnull hx hb hd (of_decide_eq_true hok) kk) K
    · cases hs
      exact fun _ K => mq_good.sk (fun H ls locs ce sl _ _ _ _ kk => lv_ifnonnullN hx hb hd kk) K
    · cases hs
  case tableswitch d lo' hi' offs =>
    have hd := hde rfl
    dsimp only [mq_okX] at hok
    rw [Bool.and_eq_true, Bool.and_eq_true] at hok
    dsimp only [mq_step] at hs
    split at hs
    · cases hs
      exact fun K => sd_tsw hx hb hd (of_decide_eq_true hok.1) hok.2.1 (of_decide_eq_true hok.2.2) K
    · cases hs
  case lookupswitch d ps =>
    have hd := hde rfl
    dsimp only [mq_okX] at hok
    rw [Bool.and_eq_true, Bool.and_eq_true, Bool.and_eq_true] at hok
    dsimp only [mq_step] at hs
    split at hs
    · cases hs
      exact fun K => sd_lsw hx hb hd (of_decide_eq_true hok.1) hok.2.1 hok.2.2.1 hok.2.2.2 K
    · cases hs
  case getfield i =>
    obtain ⟨hd, hnx⟩ := hdn rfl
    dsimp only [mq_okX] at hok
    split at hok
    · rename_i q hq
      rw [Bool.and_eq_true, Bool.and_eq_true] at hok
      obtain ⟨h1, h2, h3⟩ := hok
      dsimp only [mq_step] at hs
      split at hs
      · rcases sd_gfA (l := l) (e := e) (below := below) (Q := Q) (n0 := n0) (z0 := z0) C hd hnx hq (by simpa using h1) (mq_hw_in h2) (Nat.eq_of_beq_eq_true h3) hs with ⟨o, w, rfl, K⟩ | ⟨o, z, rfl, K⟩
        · exact K
        · exact K
      · cases hs
    · cases hok
  case putfield i =>
    obtain ⟨hd, hnx⟩ := hdn rfl
    dsimp only [mq_okX] at hok
    split at hok
    · rename_i q hq
      rw [Bool.and_eq_true, Bool.and_eq_true, Bool.and_eq_true] at hok
      obtain ⟨h1, h2, h3, h4⟩ := hok
      have hfin : (q.2.1 b).2.2.2 = false ∨ (y.name = "<init>" ∧ (q.2.1 b).1 = y.cls) := by
        rw [Bool.or_eq_true] at h4
        rcases h4 with h4 | h4
        · left
          cases hz : (q.2.1 b).2.2.2 with
          | false => rfl
          | true => rw [hz] at h4; cases h4
        · exact Or.inr (of_decide_eq_true h4)
      dsimp only [mq_step] at hs
      split at hs
      · obtain ⟨o, h', rfl, K⟩ := sd_pfA (l := l) (e := e) (below := below) (Q := Q) (n0 := n0) (z0 := z0) C hd hnx hq (by simpa using h1) (mq_hw_in h2) hfin (Nat.eq_of_beq_eq_true h3) hs
        exact K
      · cases hs
    · cases hok
  case iaload =>
    obtain ⟨hd, rfl⟩ := hdn rfl
    dsimp only [mq_step] at hs
    split at hs
    · rename_i i v r
      cases hu : mq_isU v with
      | true =>
        rw [hu] at hs
        cases hs
        have hv : v = .retAddr 1 := by
          unfold mq_isU at hu
          split at hu
          · rw [Nat.eq_of_beq_eq_true hu]
          · cases hu
        subst hv
        obtain ⟨aV, o1, -⟩ := hOs
        intro hg K
        have hin : 0 ≤ i.toInt ∧ i.toInt < (3 : Int) := of_decide_eq_true hg
        exact mq_good.sk (fun H ls locs ce sl _ _ _ r4 kk => va_ti hx hb o1.2.1 r4 (jk_in hin.1 hin.2) rfl hd kk) K
      | false =>
        rw [hu] at hs
        dsimp only [cond_false] at hs
        split at hs
        · rename_i gg q har
          obtain ⟨h1, h2⟩ := mq_bif_t hs
          cases h2
          intro hg K
          refine mq_good.of (fun w => ?_)
          obtain ⟨n, q1, q2, q3⟩ := mq_ar_spec (g := g) w har hg
          rw [Bool.or_eq_true] at h1
          rcases h1 with h1 | h1
          · rw [Nat.eq_of_beq_eq_true h1] at q1
            exact sd_iald C hd q1 q3 q2 K
          · rw [Nat.eq_of_beq_eq_true h1] at q1
            intro a1 a2 H ls locs r1 r2 r3 r4
            have hq4 : q < 4 := by
              rcases Nat.lt_or_ge q 4 with z | z
              · exact z
              · rcases Nat.lt_or_ge q (mq_N h) with z2 | z2
                · have := r1.2.2.2.1 q z z2
                  unfold mq_cell at this
                  rw [q1] at this
                  exact absurd this.1 (by decide)
                · have := r1.2.2.2.2.1 q z2
                  rw [q1] at this
                  cases this
            exact sd_iaX C hd hq4 q1 q3 q2 K a1 a2 H ls locs r1 r2 r3 r4
        · cases hs
    · cases hs
  case baload =>
    obtain ⟨hd, rfl⟩ := hdn rfl
    dsimp only [mq_step] at hs
    split at hs
    · split at hs
      · rename_i i v r gg q har
        obtain ⟨h1, h2⟩ := mq_bif_t hs
        cases h2
        intro hg K
        refine mq_good.of (fun w => ?_)
        obtain ⟨n, q1, q2, q3⟩ := mq_ar_spec (g := g) w har hg
        rw [Bool.or_eq_true] at h1
        exact sd_bald C hd (h1.imp Nat.eq_of_beq_eq_true Nat.eq_of_beq_eq_true) q1 q3 q2 K
      · cases hs
    · cases hs
  case laload =>
    obtain ⟨hd, rfl⟩ := hdn rfl
    dsimp only [mq_step] at hs
    split at hs
    · split at hs
      · rename_i i v r gg q har
        cases hs
        intro hg K
        refine mq_good.of (fun w => ?_)
        obtain ⟨n, q1, q2, q3⟩ := mq_ar_spec (g := g) w har hg
        exact sd_lald C hd q1 q3 q2 K
      · cases hs
    · cases hs
  case aaload =>
    obtain ⟨hd, rfl⟩ := hdn rfl
    dsimp only [mq_step] at hs
    split at hs
    · split at hs
      · rename_i i v r gg q har
        cases hs
        intro hg K
        refine mq_good.of (fun w => ?_)
        obtain ⟨n, q1, q2, q3⟩ := mq_ar_spec (g := g) w har hg
        exact sd_aald C hd (of_decide_eq_true hok) q1 q3 q2 K
      · cases hs
    · cases hs
  case iastore =>
    obtain ⟨hd, rfl⟩ := hdn rfl
    dsimp only [mq_step] at hs
    split at hs
    · split at hs
      · rename_i x i v r gg q har
        cases hs
        intro hg K
        refine mq_good.of (fun w => ?_)
        obtain ⟨n, q1, q2, q3⟩ := mq_ar_spec (g := g) w har hg
        exact sd_iast C hd q1 q3 q2 K
      · cases hs
    · cases hs
  case bastore =>
    obtain ⟨hd, rfl⟩ := hdn rfl
    dsimp only [mq_step] at hs
    split at hs
    · split at hs
      · rename_i x i v r xo gg q har
        cases h1 : Nat.beq (mq_ty T v 1) 1 with
        | true =>
          rw [h1] at hs
          cases hs
          intro hg K
          refine mq_good.of (fun w => ?_)
          obtain ⟨n, q1, q2, q3⟩ := mq_ar_spec (g := g) w har hg
          rw [Nat.eq_of_beq_eq_true h1] at q1
          exact sd_bast1 C hd q1 q3 q2 K
        | false =>
          rw [h1] at hs
          obtain ⟨h2, h3⟩ := mq_bif_t hs
          cases h3
          intro hg K
          simp only [mq_gB, Bool.and_eq_true] at hg
          refine mq_good.of (fun w => ?_)
          obtain ⟨n, q1, q2, q3⟩ := mq_ar_spec (g := g) w har hg.1
          rw [Nat.eq_of_beq_eq_true h2] at q1
          exact sd_bast2 C hd q1 q3 q2 (mq_bit_spec hg.2) K
      · cases hs
    · cases hs
  case lastore =>
    obtain ⟨hd, rfl⟩ := hdn rfl
    dsimp only [mq_step] at hs
    split at hs
    · split at hs
      · rename_i x i v r gg q har
        cases hs
        intro hg K
        refine mq_good.of (fun w => ?_)
        obtain ⟨n, q1, q2, q3⟩ := mq_ar_spec (g := g) w har hg
        exact sd_last C hd q1 q3 q2 K
      · cases hs
    · cases hs
  case aastore =>
    obtain ⟨hd, rfl⟩ := hdn rfl
    dsimp only [mq_step] at hs
    split at hs
    · split at hs
      · split at hs
        · rename_i x i v r xo gg q har xo2 g2 b' hob
          cases hs
          intro hg K
          obtain ⟨hg1, hg2⟩ := mq_gB_an hg
          refine mq_good.of (fun w => ?_)
          obtain ⟨n, q1, q2, q3⟩ := mq_ar_spec (g := g) w har hg2
          obtain ⟨q4, q5, -⟩ := mq_ob_spec (g := g) w hob hg1
          exact sd_aast C hd (of_decide_eq_true hok) q1 q3 q2 q4 q5 (mq_noT w q1) K
        · cases hs
      · cases hs
    · cases hs
  case arraylength =>
    obtain ⟨hd, rfl⟩ := hdn rfl
    dsimp only [mq_step] at hs
    split at hs
    · split at hs
      · rename_i v r q sh hrf
        cases hs
        intro hg K
        refine mq_good.of (fun w => ?_)
        obtain ⟨q1, q2⟩ := mq_rf_spec (g := g) w hrf
        obtain ⟨t, n, rfl, h9⟩ := mq_isA_spec hg
        exact sd_alen C hd q1 h9 q2 K
      · cases hs
    · cases hs
  case newarray t =>
    obtain ⟨hd, rfl⟩ := hdn rfl
    dsimp only [mq_step] at hs
    split at hs
    · cases hs
      obtain ⟨h1, h2⟩ := hcap _ _ _ _ _ rfl
      exact fun hg K => sd_newa C hd (of_decide_eq_true hok) (of_decide_eq_true hg) h1 h2 K
    · cases hs
  case anewarray i =>
    obtain ⟨hd, rfl⟩ := hdn rfl
    dsimp only [mq_step] at hs
    split at hs
    · cases hs
      obtain ⟨h1, h2⟩ := hcap _ _ _ _ _ rfl
      refine fun hg K => sd_newq C hd ?_ (of_decide_eq_true hg) h1 h2 K
      dsimp only [mq_okX] at hok
      rw [Bool.or_eq_true, Bool.and_eq_true, Bool.and_eq_true] at hok
      exact hok.imp (fun z => ⟨Nat.eq_of_beq_eq_true z.1, mq_hw_in z.2⟩) (fun z => ⟨Nat.eq_of_beq_eq_true z.1, mq_hw_in z.2⟩)
    · cases hs
  case new i =>
    obtain ⟨hd, rfl⟩ := hdn rfl
    cases hs
    obtain ⟨h1, h2⟩ := hcap _ _ _ _ _ rfl
    dsimp only [mq_okX] at hok
    split at hok
    · rename_i q hq
      rw [Bool.and_eq_true] at hok
      have hb' := Nat.eq_of_beq_eq_true hok.2
      subst hb'
      exact fun hg K => sd_newc C hd hq (mq_hw_in hok.1) h1 h2 K
    · cases hok
  case invokestatic i =>
    obtain ⟨hd, rfl⟩ := hdn rfl
    dsimp only [mq_step] at hs
    cases h1 : Nat.beq a 1000 with
    | false =>
      rw [h1] at hs
      dsimp only [cond_false] at hs
      dsimp only [mq_okX] at hok
      rw [h1] at hok
      dsimp only [cond_false] at hok
      cases h1002 : Nat.beq a 1002 with
      | true =>
        rw [h1002] at hs hok
        dsimp only [cond_true] at hs hok
        rw [Bool.and_eq_true, Bool.and_eq_true] at hok
        unfold mq_mx at hs
        split at hs
        · rename_i z x r
          obtain ⟨h8, h3⟩ := mq_bif_t hs
          cases h3
          obtain ⟨k1, k2⟩ := hcap _ _ _ _ _ rfl
          have hsum := mq_cat_sum g r
          have h8 := Nat.le_of_ble_eq_true h8
          have f1 := Nat.le_of_ble_eq_true hok.2.1
          have f2 := Nat.le_of_ble_eq_true hok.2.2
          exact fun _ K a1 b1 H ls locs r1 r2 r3 r4 => va_mmax hx hb (by rw [hml]; exact r3.1.symm) hown (hts _ (mq_hw_in hok.1)) (hts _ mq_mxS) (hts _ mq_mtI) (hts _ mq_mxC) (by omega) (by omega) k1 k2 hd (K a1 b1 H ls locs r1 r2 r3 r4)
        · cases hs
      | false =>
        rw [h1002] at hs hok
        dsimp only [cond_false] at hs hok
        cases h1003 : Nat.beq a 1003 with
        | true =>
          rw [h1003] at hs hok
          dsimp only [cond_true] at hs hok
          rw [Bool.and_eq_true, Bool.and_eq_true] at hok
          unfold mq_mi at hs
          split at hs
          · rename_i z x r
            obtain ⟨h8, h3⟩ := mq_bif_t hs
            cases h3
            obtain ⟨k1, k2⟩ := hcap _ _ _ _ _ rfl
            have hsum := mq_cat_sum g r
            have h8 := Nat.le_of_ble_eq_true h8
            have f1 := Nat.le_of_ble_eq_true hok.2.1
            have f2 := Nat.le_of_ble_eq_true hok.2.2
            exact fun _ K a1 b1 H ls locs r1 r2 r3 r4 => va_mmin hx hb (by rw [hml]; exact r3.1.symm) hown (hts _ (mq_hw_in hok.1)) (hts _ mq_miS) (hts _ mq_mtI) (hts _ mq_miC) (by omega) (by omega) k1 k2 hd (K a1 b1 H ls locs r1 r2 r3 r4)
          · cases hs
        | false =>
          rw [h1003] at hs
          dsimp only [cond_false] at hs
          unfold mq_ivS at hs
          split at hs
          · obtain ⟨-, h3⟩ := mq_bif_t hs
            cases h3
            exact trivial
          · cases hs
    | true =>
      rw [h1] at hs
      dsimp only [cond_true] at hs
      dsimp only [mq_okX] at hok
      rw [h1] at hok
      dsimp only [cond_true] at hok
      rw [Bool.and_eq_true, Bool.and_eq_true, Bool.and_eq_true] at hok
      obtain ⟨k1, k2, k3, k4⟩ := hok
      have k2 := of_decide_eq_true k2
      unfold mq_copy at hs
      split at hs
      · rename_i n dp dst sp src r
        split at hs
        · cases hs
        · rename_i a0 s0 hr0
          split at hs
          · cases hs
          · rename_i a1 s1 hr1
            cases h8 : Nat.ble (mq_cat r) 8 with
            | false => rw [h8] at hs; cases hs
            | true =>
              rw [h8] at hs
              dsimp only [cond_true] at hs
              cases h4 : Nat.ble 4 b with
              | true =>
                rw [h4] at hs
                cases hs
                intro hg K
                simp only [mq_gB, Bool.and_eq_true] at hg
                refine mq_good.of (fun w => ?_)
                obtain ⟨q1, q2⟩ := mq_rf_spec (g := g) w hr0
                obtain ⟨q3, q4⟩ := mq_rf_spec (g := g) w hr1
                obtain ⟨m0, m1, e1, e2, e3, e4, e5, e6, e7⟩ := mq_gC_spec hg.1
                rw [e1] at q1
                rw [e2] at q3
                have hb4 := Nat.le_of_ble_eq_true h4
                exact sd_cpR C hd (mq_hw_in k1) (Nat.le_of_ble_eq_true k3) (Nat.le_of_ble_eq_true k4) (by omega) q1 q3 q2 q4 e3 e4 e5 e6 e7 (Nat.le_of_ble_eq_true h8) hg.2.2 (mq_noT w q3) K
              | false =>
                rw [h4] at hs
                cases hs
                intro hg K
                simp only [mq_gB, Bool.and_eq_true] at hg
                refine mq_good.of (fun w => ?_)
                obtain ⟨q1, q2⟩ := mq_rf_spec (g := g) w hr0
                obtain ⟨q3, q4⟩ := mq_rf_spec (g := g) w hr1
                obtain ⟨m0, m1, e1, e2, e3, e4, e5, e6, e7⟩ := mq_gC_spec hg.1
                rw [e1] at q1
                rw [e2] at q3
                have hb4 : ¬ 4 ≤ b := fun z => by rw [Nat.ble_eq_true_of_le z] at h4; cases h4
                exact sd_cpI C hd (mq_hw_in k1) (Nat.le_of_ble_eq_true k3) (Nat.le_of_ble_eq_true k4) (by omega) q1 q3 q2 q4 e3 e4 e5 e6 e7 (Nat.le_of_ble_eq_true h8) K
      · cases hs
  case invokespecial i =>
    obtain ⟨hd, rfl⟩ := hdn rfl
    dsimp only [mq_step] at hs
    cases h1 : Nat.beq a 1001 with
    | false =>
      rw [h1] at hs
      dsimp only [cond_false] at hs
      unfold mq_ivI at hs
      split at hs
      · obtain ⟨-, h3⟩ := mq_bif_t hs
        cases h3
        exact trivial
      · obtain ⟨-, h3⟩ := mq_bif_t hs
        cases h3
        exact trivial
      · cases hs
    | true =>
      rw [h1] at hs
      dsimp only [cond_true] at hs
      dsimp only [mq_okX] at hok
      rw [h1] at hok
      dsimp only [cond_true] at hok
      rw [Bool.and_eq_true, Bool.and_eq_true] at hok
      split at hs
      · obtain ⟨h2, h3⟩ := mq_bif_t hs
        cases h3
        exact fun _ K => sd_obj C hd (mq_hw_in hok.1) (Nat.le_of_ble_eq_true hok.2.1) (Nat.le_of_ble_eq_true hok.2.2) (Nat.le_of_ble_eq_true h2) K
      · cases hs
  case invokevirtual i =>
    obtain ⟨hd, rfl⟩ := hdn rfl
    dsimp only [mq_step] at hs
    dsimp only [mq_okX] at hok
    cases hz : Nat.ble 1004 a with
    | false =>
      rw [hz] at hs
      dsimp only [cond_false] at hs
      unfold mq_ivV at hs
      split at hs
      · split at hs
        · obtain ⟨-, h3⟩ := mq_bif_t hs
          cases h3
          exact trivial
        · cases hs
      · cases hs
    | true =>
      rw [hz] at hs hok
      dsimp only [cond_true] at hs hok
      cases h4 : Nat.beq a 1004 with
      | true =>
        rw [h4] at hs hok
        dsimp only [cond_true] at hs hok
        rw [Bool.and_eq_true, Bool.and_eq_true] at hok
        obtain ⟨e1, e2⟩ := of_decide_eq_true hok.1
        subst e2
        unfold mq_chr at hs
        split at hs
        · rename_i x q r
          obtain ⟨h8, h3⟩ := mq_bif_t hs
          cases h3
          rw [Bool.and_eq_true] at h8
          have hq := Nat.eq_of_beq_eq_true h8.1
          subst hq
          have f1 := Nat.le_of_ble_eq_true hok.2.1
          have f2 := Nat.le_of_ble_eq_true hok.2.2
          obtain ⟨k1, k2⟩ := hcap _ _ _ _ _ rfl
          obtain ⟨aV, o1, -⟩ := hOs
          intro hg K a1 b1 H ls locs r1 r2 r3 r4
          have hin : 0 ≤ x.toInt ∧ x.toInt < (jk_wn : Int) := of_decide_eq_true hg
          have oH := o1.kept r4.2.1
          obtain ⟨cellB, g1, g2, g3, -⟩ := id oH.2.2.1
          exact jk_go (v := some (.int (jk_w x.toNatClampNeg))) (va_runV (C := "java/lang/String") (b := g.2.1 2) (As := [.int x]) (own := "RanOut$Reader") ⟨hx, hb, hml, by rw [← e1]; exact hown, hts⟩ (jk_CA hin.1 hin.2) ⟨callB_of 1 hts (jk_GI jk_cCA) rfl rfl rfl (hts _ jk_nST) (hts _ jk_mCA) (by decide +kernel) ⟨by show 3 + 1 ≤ _; omega, by show 8 + (2 + 11) + 64 ≤ _; omega⟩, hts _ jk_iCA, hts _ jk_lCA⟩ ⟨jk_blind _ _ _ _ _, ⟨cellB, g1, g2, g3⟩, fun U hU hW => ⟨rfl, (by rw [hU]; exact oH.moved hW.alike)⟩⟩ rfl rfl r3.1 rfl (lv_room (by rw [mq_cat_sum]; exact Nat.le_of_ble_eq_true h8.2)) hd ⟨k1, k2⟩) (K a1 b1 H ls locs r1 r2 r3 r4)
        · cases hs
      | false =>
        rw [h4] at hs hok
        dsimp only [cond_false] at hs hok
        rw [Bool.and_eq_true, Bool.and_eq_true] at hok
        unfold mq_cln at hs
        split at hs
        · split at hs
          · rename_i a0 r xo n' hT
            obtain ⟨h8, h3⟩ := mq_bif_t hs
            cases h3
            obtain ⟨k1, k2⟩ := hcap _ _ _ _ _ rfl
            have f1 := Nat.le_of_ble_eq_true hok.2.1
            have f2 := Nat.le_of_ble_eq_true hok.2.2
            exact fun _ K => sd_clone C hOs hd (mq_hw_in hok.1) (fun H r1 => (r1.2.2.2.2.2.2.2.1 a0 _ hT).1) (Nat.le_of_ble_eq_true h8) (by omega) (by omega) k1 k2 K
          · cases hs
        · cases hs
  case ireturn =>
    dsimp only [mq_step] at hs
    split at hs
    · cases h1 : Nat.beq c' 1 with
      | true => rw [h1] at hs; cases hs; exact trivial
      | false => rw [h1] at hs; cases hs; exact trivial
    · cases hs
  case lreturn =>
    dsimp only [mq_step] at hs
    split at hs <;> cases hs
    exact trivial
  case areturn =>
    dsimp only [mq_step] at hs
    split at hs <;> cases hs <;> exact trivial
  case return_ =>
    dsimp only [mq_step] at hs
    split at hs <;> cases hs
    exact trivial
  all_goals (dsimp only [mq_step] at hs; cases hs)
end MQ6
