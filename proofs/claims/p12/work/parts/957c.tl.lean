/-! termLine, isTouched, isBeyond -/
section XC
variable {lL : Nat} {h h' : mq_H} {Q : Option Value → mq_H → Prop}
theorem x_f.of0 {a : Nat} (m : ck_md 0 h h') : x_f a h h' := ⟨m.1, m.2.1, m.2.2.1, m.2.2.2.1, fun b _ => by funext k; exact m.2.2.2.2 b k (Nat.zero_testBit _)⟩
theorem x_lit16 (row : Nat) : (16 : Int32) * nI row = nI (16 * row) := by rw [show (16 : Int32) = nI 16 from rfl, nI_mul]
theorem kv_138 : ck_V x_X lL 138 kc_138 := fun h as I pv => by
  match as, pv with
  | [a, b], pv =>
    obtain ⟨p1, ⟨x, p2, -⟩, -⟩ := pv
    have p1 : a = .retAddr 59 := p1
    subst p1 p2
    exact x_ones (fun r => ⟨I, ck_md.rf _ _, r, rfl, ci_rng r⟩)
theorem kv_187 : ck_V x_X lL 187 kc_187 := fun h as I pv => by
  match as, pv with
  | [a, b], pv =>
    obtain ⟨p1, ⟨x, p2, x0, x1⟩, -⟩ := pv
    have p1 : a = .retAddr 59 := p1
    subst p1 p2
    obtain ⟨row, rfl, hr, -⟩ := x_nat (n := 7) x0 x1
    have ok : ∀ h', x_f 92 h h' → ck_Iv x_X h' ∧ ck_md kc_187.2.2 h h' := fun h' F => x_f.ok (n := 420) rfl rfl (by decide) (by decide) F I
    obtain ⟨many, em, hmany, hmi⟩ := x_nat (n := 16) (I.1.2 82 9 0 16 rfl row (by omega)).1 (I.1.2 82 9 0 16 rfl row (by omega)).2
    have key : ∀ (m i : Nat) (y : Int32) (h' : mq_H), i + m = many → x_f 92 h h' → y = nI (16 * row + i) → mq_At mq_G (mq_tT lL) 187 5 [some (.retAddr 59), some (.int (nI row)), some (.int y)] [] h' (fun v h' => ck_Iv x_X h' ∧ ck_md kc_187.2.2 h h' ∧ ck_rv kc_187.2.1 v) := by
      intro m
      induction m with
      | zero =>
        intro i y h' hi F ey
        subst ey
        apply mq_go 40 []
        refine gq_i (inb_nI (by omega) (by decide)) ?_
        refine bq_t (by rw [F.2.2.2.2 _ (by decide), nI_clamp (by omega), em, x_lit16, nI_add, show i = many by omega]; exact Int32.le_refl _) ?_
        exact ⟨(ok h' F).1, (ok h' F).2, _, rfl, by decide, by decide⟩
      | succ m ih =>
        intro i y h' hi F ey
        subst ey
        apply mq_go 40 [5]
        refine gq_i (inb_nI (by omega) (by decide)) ?_
        refine bq_f (by rw [F.2.2.2.2 _ (by decide), nI_clamp (by omega), em, x_lit16, nI_add]; exact nI_ge (by omega) (by omega)) ?_
        refine gq_i (inb_nI (by omega) (by decide)) ?_
        refine bn_c (fun _ => ?_) (fun _ => ?_)
        · exact ih (i + 1) _ h' (by omega) F (nI_1 _)
        · refine x_isSo (ok h' F).1 (by omega) (by rw [F.2.2.2.2 _ (by decide)]; omega) (fun r h2 F2 r0 r1 => ?_)
          refine bq_c (fun _ => ?_) (fun _ => ?_)
          · exact ih (i + 1) _ h2 (by omega) (F.tr F2) (nI_1 _)
          · refine ⟨(ok h2 (F.tr F2)).1, (ok h2 (F.tr F2)).2, _, rfl, ?_, ?_⟩
            · show (-1 : Int) ≤ (nI _).toInt
              rw [nI_toInt (by omega)]
              omega
            · show (nI _).toInt ≤ (127 : Int)
              rw [nI_toInt (by omega)]
              omega
    apply mq_enter 40 [5]
    exact key many 0 _ h (by omega) (x_f.rf _ _) (x_lit16 row)
theorem kv_188 : ck_V x_X lL 188 kc_188 := fun h as I pv => by
  match as, pv with
  | [a, b, c, d], pv =>
    obtain ⟨p1, ⟨x, p2, x0, x1⟩, ⟨w, p3, -⟩, ⟨dd, p4, -⟩, -⟩ := pv
    have p1 : a = .retAddr 59 := p1
    subst p1 p2 p3 p4
    obtain ⟨row, rfl, hr, -⟩ := x_nat (n := 7) x0 x1
    have ok : ∀ h', x_f 92 h h' → ck_Iv x_X h' ∧ ck_md kc_188.2.2 h h' := fun h' F => x_f.ok (n := 420) rfl rfl (by decide) (by decide) F I
    obtain ⟨many, em, hmany, hmi⟩ := x_nat (n := 16) (I.1.2 82 9 0 16 rfl row (by omega)).1 (I.1.2 82 9 0 16 rfl row (by omega)).2
    have key : ∀ (m i : Nat) (y : Int32) (h' : mq_H), i + m = many → x_f 92 h h' → y = nI (16 * row + i) → mq_At mq_G (mq_tT lL) 188 6 [some (.retAddr 59), some (.int (nI row)), some (.int w), some (.int dd), some (.int y)] [] h' (fun v h' => ck_Iv x_X h' ∧ ck_md kc_188.2.2 h h' ∧ ck_rv kc_188.2.1 v) := by
      intro m
      induction m with
      | zero =>
        intro i y h' hi F ey
        subst ey
        apply mq_go 40 []
        refine gq_i (inb_nI (by omega) (by decide)) ?_
        refine bq_t (by rw [F.2.2.2.2 _ (by decide), nI_clamp (by omega), em, x_lit16, nI_add, show i = many by omega]; exact Int32.le_refl _) ?_
        refine gq_i rfl ?_
        exact ⟨(ok h' F).1, (ok h' F).2, _, rfl, by decide, by decide⟩
      | succ m ih =>
        intro i y h' hi F ey
        subst ey
        apply mq_go 40 [6]
        refine gq_i (inb_nI (by omega) (by decide)) ?_
        refine bq_f (by rw [F.2.2.2.2 _ (by decide), nI_clamp (by omega), em, x_lit16, nI_add]; exact nI_ge (by omega) (by omega)) ?_
        refine gq_i (inb_nI (by omega) (by decide)) ?_
        refine bn_c (fun _ => ?_) (fun _ => ?_)
        · exact ih (i + 1) _ h' (by omega) F (nI_1 _)
        · refine gq_i (inb_nI (by omega) (by decide)) ?_
          refine mq_Call.mono (kv_185 h' _ (ok h' F).1 ⟨rfl, ⟨_, rfl, ci_rng _⟩, ⟨_, rfl, ci_rng _⟩, trivial⟩) (fun v h1 ⟨I1, m1, r1, e1, _, _⟩ => ?_)
          subst e1
          have F1 := F.tr (x_f.of0 m1)
          refine bq_c (fun _ => ?_) (fun _ => ?_)
          · exact ih (i + 1) _ h1 (by omega) F1 (nI_1 _)
          · refine x_isSo I1 (by omega) (by rw [F1.2.2.2.2 _ (by decide)]; omega) (fun r h2 F2 r0 r1 => ?_)
            refine bq_c (fun _ => ?_) (fun _ => ?_)
            · exact ih (i + 1) _ h2 (by omega) (F1.tr F2) (nI_1 _)
            · refine gq_i rfl ?_
              exact ⟨(ok h2 (F1.tr F2)).1, (ok h2 (F1.tr F2)).2, _, rfl, by decide, by decide⟩
    apply mq_enter 40 [6]
    exact key many 0 _ h (by omega) (x_f.rf _ _) (x_lit16 row)
theorem kv_189 : ck_V x_X lL 189 kc_189 := fun h as I pv => by
  match as, pv with
  | [a, b, c, d], pv =>
    obtain ⟨p1, ⟨z, p2, z0, z1⟩, ⟨x, p3, x0, x1⟩, ⟨dd, p4, -⟩, -⟩ := pv
    have p1 : a = .retAddr 59 := p1
    subst p1 p2 p3 p4
    obtain ⟨row, rfl, hr, -⟩ := x_nat (n := 7) x0 x1
    obtain ⟨cl, rfl, hcl, -⟩ := x_nat (n := 59) z0 z1
    have ok : ∀ h', x_f 92 h h' → ck_Iv x_X h' ∧ ck_md kc_189.2.2 h h' := fun h' F => x_f.ok (n := 420) rfl rfl (by decide) (by decide) F I
    obtain ⟨many, em, hmany, hmi⟩ := x_nat (n := 16) (I.1.2 82 9 0 16 rfl row (by omega)).1 (I.1.2 82 9 0 16 rfl row (by omega)).2
    have key : ∀ (m i : Nat) (y : Int32) (h' : mq_H), i + m = many → x_f 92 h h' → y = nI (16 * row + i) → mq_At mq_G (mq_tT lL) 189 6 [some (.retAddr 59), some (.int (nI cl)), some (.int (nI row)), some (.int dd), some (.int y)] [] h' (fun v h' => ck_Iv x_X h' ∧ ck_md kc_189.2.2 h h' ∧ ck_rv kc_189.2.1 v) := by
      intro m
      induction m with
      | zero =>
        intro i y h' hi F ey
        subst ey
        apply mq_go 40 []
        refine gq_i (inb_nI (by omega) (by decide)) ?_
        refine bq_t (by rw [F.2.2.2.2 _ (by decide), nI_clamp (by omega), em, x_lit16, nI_add, show i = many by omega]; exact Int32.le_refl _) ?_
        refine gq_i rfl ?_
        exact ⟨(ok h' F).1, (ok h' F).2, _, rfl, by decide, by decide⟩
      | succ m ih =>
        intro i y h' hi F ey
        subst ey
        have hld := I.1.2 85 144 0 2 rfl (16 * row + i) (by omega)
        obtain ⟨ld, eld, hld2, -⟩ := x_nat (n := 2) hld.1 hld.2
        apply mq_go 60 [6]
        refine gq_i (inb_nI (by omega) (by decide)) ?_
        refine bq_f (by rw [F.2.2.2.2 _ (by decide), nI_clamp (by omega), em, x_lit16, nI_add]; exact nI_ge (by omega) (by omega)) ?_
        refine gq_i (inb_nI (by omega) (by decide)) ?_
        refine bn_c (fun _ => ?_) (fun _ => ?_)
        · exact ih (i + 1) _ h' (by omega) F (nI_1 _)
        · refine gq_i (inb_nI (by omega) (by decide)) ?_
          refine gq_i (x_inb (k := 3 * cl + ld) (by rw [F.2.2.2.2 _ (by decide), nI_clamp (by omega), eld, show (3 : Int32) = nI 3 from rfl, nI_mul, nI_add]) (by omega) (by decide)) ?_
          refine gq_i (inb_nI (by omega) (by decide)) ?_
          refine bq_c (fun _ => ?_) (fun _ => ?_)
          · exact ih (i + 1) _ h' (by omega) F (nI_1 _)
          · refine x_isSo (ok h' F).1 (by omega) (by rw [F.2.2.2.2 _ (by decide)]; omega) (fun r h2 F2 r0 r1 => ?_)
            refine bq_c (fun _ => ?_) (fun _ => ?_)
            · exact ih (i + 1) _ h2 (by omega) (F.tr F2) (nI_1 _)
            · refine gq_i rfl ?_
              exact ⟨(ok h2 (F.tr F2)).1, (ok h2 (F.tr F2)).2, _, rfl, by decide, by decide⟩
    apply mq_enter 40 [6]
    exact key many 0 _ h (by omega) (x_f.rf _ _) (x_lit16 row)
end XC
