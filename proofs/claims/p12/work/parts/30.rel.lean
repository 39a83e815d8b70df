/-! THE RELATION between the abstract heap and the machine's -/
/-- ghosts: base (the heap's size at the start), the outside cells' addresses, class numbers and slots, array classes -/
abbrev mq_GH : Type := Nat × (Nat → Nat) × va_G × (Nat → ClassId)
def mq_ad (g : mq_GH) (k : Nat) : Nat := if k < 4 then g.2.1 k else g.1 + (k - 4)
def mq_cv (g : mq_GH) (v : Value) : Value := match v with
  | .ref k => .ref (mq_ad g k)
  | .retAddr k => .ref (mq_ad g k)
  | v => v
theorem mq_cv_cat (g : mq_GH) (v : Value) : (mq_cv g v).category = v.category := by cases v <;> rfl
def mq_knd (t : FieldType) : Nat := match t with
  | .int => 0
  | .long => 1
  | .boolean => 3
  | .object _ => 2
  | .array _ => 2
  | _ => 9
def mq_fv (g : mq_GH) (h : mq_H) (a ci j : Nat) : Value := match mq_knd (mq_fty ci j) with
  | 1 => .long (mq_J h a j)
  | 2 => va_rf ((mq_R h a j).map (mq_ad g))
  | _ => .int (mq_I h a j)
def mq_adt (g : mq_GH) (h : mq_H) (k ty : Nat) : (Nat → Int32) ⊕ (Nat → Int64) ⊕ (Nat → UInt32) ⊕ (Nat → UInt64) ⊕ (Nat → Option Nat) :=
  if ty = 3 then .inr (.inl (mq_J h k)) else if 4 ≤ ty then .inr (.inr (.inr (.inr (fun j => (mq_R h k j).map (mq_ad g))))) else .inl (mq_I h k)
def mq_cell (g : mq_GH) (h : mq_H) (k : Nat) (H : Heap) : Prop := match mq_sh h k with
  | .inl ci => ∃ r : vw_C, mq_cl[ci]? = some r ∧ t_OB (mq_ad g k) (g.2.2.1.1 ci) r.2.2 (g.2.2.1.2 ci) H (fun j => mq_fv g h k ci j)
  | .inr (ty, n) => ty < 6 ∧ H[mq_ad g k]? = some (vp_cell (g.2.2.2 ty) (n, mq_adt g h k ty))
def mq_stc (T : mq_T) (h : mq_H) : Prop := (∀ (k : Nat) (s : mq_S), T.1 k = some s → mq_sh h k = s ∧ k < mq_N h) ∧ ∀ (k j b : Nat), T.2 k j = some b → mq_R h k j = some b ∧ ∃ ci : Nat, T.1 k = some (.inl ci)
def mq_rel (g : mq_GH) (T : mq_T) (h : mq_H) (H : Heap) : Prop := 4 ≤ mq_N h ∧ H.size = g.1 + (mq_N h - 4) ∧ (∀ k, k < 4 → g.2.1 k < g.1) ∧ (∀ k, 4 ≤ k → k < mq_N h → mq_cell g h k H) ∧ (∀ k, mq_N h ≤ k → mq_sh h k = .inr (99, 0)) ∧ (∀ k, k < 4 → ∃ t n, mq_sh h k = .inr (t, n) ∧ 9 ≤ t) ∧ (∀ k n j, mq_sh h k = .inr (2, n) → mq_I h k j = 0 ∨ mq_I h k j = 1) ∧ mq_stc T h
/-- the outside cells that are rows of ints -/
def mq_ext (g : mq_GH) (h : mq_H) (U : State) (H : Heap) : Prop := ∀ k n, k < 4 → mq_sh h k = .inr (9, n) → va_X (g.2.1 k) n (mq_I h k) U H
def mq_tys (g : mq_GH) : List (ClassId × FieldType) := [(g.2.2.2 0, .int), (g.2.2.2 1, .byte), (g.2.2.2 2, .boolean), (g.2.2.2 3, .long), (g.2.2.2 4, .object "RanOut$Law"), (g.2.2.2 5, .object "RanOut$Line")]
def mq_lv (g : mq_GH) (nL : Nat) (ls : Array Slot) (L : mq_L) : Prop := ls.size = nL ∧ lv_wf ls ∧ ∀ (i : Nat) (v : Value), L[i]? = some (some v) → ls[i]? = some (.val (mq_cv g v))
/-! locals -/
def mq_pr (g : mq_GH) (L : mq_L) : List (Nat × Value) := (List.range L.length).filterMap (fun i => match L[i]? with
  | some (some v) => some (i, mq_cv g v)
  | _ => none)
theorem mq_pr_mem {g : mq_GH} {L : mq_L} {i : Nat} {v : Value} (h : L[i]? = some (some v)) : (i, mq_cv g v) ∈ mq_pr g L := by
  refine List.mem_filterMap.mpr ⟨i, List.mem_range.mpr (List.getElem?_eq_some_iff.mp h).1, ?_⟩
  rw [h]
theorem mq_lv.has {g : mq_GH} {nL : Nat} {ls : Array Slot} {L : mq_L} (h : mq_lv g nL ls L) : lv_has ls nL (mq_pr g L) := by
  refine ⟨h.1, h.2.1, fun q hq => ?_⟩
  obtain ⟨i, -, hi⟩ := List.mem_filterMap.mp hq
  revert hi
  split
  · rename_i v hv
    intro hi
    cases hi
    exact h.2.2 i v hv
  · intro hi
    cases hi
theorem mq_sv_get {L : mq_L} {i t : Nat} {v w : Value} (h : (mq_sv L i v)[t]? = some (some w)) : (t = i ∧ w = v) ∨ (t ≠ i ∧ L[t]? = some (some w) ∧ ¬ (t + 1 = i ∧ w.category = 2)) := by
  by_cases ht : t = i
  · subst ht
    refine Or.inl ⟨rfl, ?_⟩
    have key : ∀ L' : mq_L, (L'.set t (some v))[t]? = some (some w) → w = v := by
      intro L' h
      rw [List.getElem?_set] at h
      simp only [if_true] at h
      split at h
      · cases h; rfl
      · cases h
    unfold mq_sv at h
    split at h
    · rename_i w' _
      cases hb : Nat.beq w'.category 2 with
      | true => rw [hb] at h; exact key _ h
      | false => rw [hb] at h; exact key _ h
    · exact key _ h
  · refine Or.inr ⟨ht, ?_⟩
    have key : ∀ L' : mq_L, (L'.set i (some v))[t]? = L'[t]? := fun L' => by rw [List.getElem?_set, if_neg (fun e => ht e.symm)]
    unfold mq_sv at h
    split at h
    · rename_i w' hw'
      cases hb : Nat.beq w'.category 2 with
      | true =>
        rw [hb] at h
        simp only [cond_true] at h
        rw [key, List.getElem?_set] at h
        split at h
        · split at h
          · cases h
          · cases h
        · rename_i hne
          refine ⟨h, fun q => hne ?_⟩
          omega
      | false =>
        rw [hb] at h
        simp only [cond_false] at h
        rw [key] at h
        refine ⟨h, fun q => ?_⟩
        have e : i - 1 = t := by omega
        rw [e, h] at hw'
        cases hw'
        rw [q.2] at hb
        cases hb
    · rename_i hn
      rw [key] at h
      refine ⟨h, fun q => ?_⟩
      have e : i - 1 = t := by omega
      rw [e] at hn
      exact hn w h
theorem mq_lv.st1 {g : mq_GH} {nL : Nat} {ls' : Array Slot} {L : mq_L} {i : Nat} {v : Value} (h : lv_has ls' nL ((i, mq_cv g v) :: (mq_pr g L).filter (fun q => !(q.1 == i) && !(q.1 + 1 == i && q.2.category == 2)))) : mq_lv g nL ls' (mq_sv L i v) := by
  refine ⟨h.1, h.2.1, fun t w hw => ?_⟩
  rcases mq_sv_get hw with ⟨rfl, rfl⟩ | ⟨h1, h2, h3⟩
  · exact h.2.2 _ List.mem_cons_self
  · refine h.2.2 (t, mq_cv g w) (List.mem_cons_of_mem _ (List.mem_filter.mpr ⟨mq_pr_mem h2, ?_⟩))
    simp only [mq_cv_cat, Bool.and_eq_true, Bool.not_eq_true', beq_eq_false_iff_ne, ne_eq, Bool.and_eq_false_iff]
    refine ⟨h1, ?_⟩
    by_cases e : t + 1 = i
    · exact Or.inr (fun q => h3 ⟨e, q⟩)
    · exact Or.inl e
theorem mq_lv.st2 {g : mq_GH} {nL : Nat} {ls' : Array Slot} {L : mq_L} {i : Nat} {v : Value} (h : lv_has ls' nL ((i, mq_cv g v) :: (mq_pr g L).filter (fun q => !(q.1 == i) && (!(q.1 == i + 1) && !(q.1 + 1 == i && q.2.category == 2))))) : mq_lv g nL ls' ((mq_sv L i v).set (i + 1) none) := by
  refine ⟨h.1, h.2.1, fun t w hw => ?_⟩
  rw [List.getElem?_set] at hw
  split at hw
  · split at hw
    · cases hw
    · cases hw
  · rename_i hne
    rcases mq_sv_get hw with ⟨rfl, rfl⟩ | ⟨h1, h2, h3⟩
    · exact h.2.2 _ List.mem_cons_self
    · refine h.2.2 (t, mq_cv g w) (List.mem_cons_of_mem _ (List.mem_filter.mpr ⟨mq_pr_mem h2, ?_⟩))
      simp only [mq_cv_cat, Bool.and_eq_true, Bool.not_eq_true', beq_eq_false_iff_ne, ne_eq, Bool.and_eq_false_iff]
      refine ⟨h1, fun e => hne e.symm, ?_⟩
      by_cases e : t + 1 = i
      · exact Or.inr (fun q => h3 ⟨e, q⟩)
      · exact Or.inl e
theorem mq_ld_get {L : mq_L} {a : Nat} {v : Value} (h : mq_ld L a = some v) : L[a]? = some (some v) := by
  unfold mq_ld at h
  split at h
  · rename_i w hw
    cases h
    exact hw
  · cases h
theorem mq_en_get (g : mq_GH) : ∀ (as : List Value) (n b i : Nat) (v : Value), (mq_en as n)[i]? = some (some v) → (b + i, mq_cv g v) ∈ lv_args b (as.map (mq_cv g))
  | [], n, b, i, v, h => by
    exfalso
    rw [show mq_en [] n = List.replicate n none from rfl, List.getElem?_replicate] at h
    split at h
    · cases h
    · cases h
  | w :: r, n, b, i, v, h => by
    unfold mq_en at h
    simp only [List.map_cons, lv_args, mq_cv_cat]
    cases hb : Nat.beq w.category 2 with
    | true =>
      have hc : w.category = 2 := Nat.eq_of_beq_eq_true hb
      rw [hb] at h
      simp only [cond_true] at h
      rw [if_pos hc]
      match i, h with
      | 0, h => simp at h; rw [h]; exact List.mem_cons_self
      | 1, h => simp at h
      | i + 2, h =>
        simp only [List.getElem?_cons_succ] at h
        have := mq_en_get g r (n - 2) (b + 2) i v h
        rw [show b + (i + 2) = b + 2 + i by omega]
        exact List.mem_cons_of_mem _ this
    | false =>
      have hc : ¬ w.category = 2 := fun e => by rw [e] at hb; cases hb
      rw [hb] at h
      simp only [cond_false] at h
      rw [if_neg hc]
      match i, h with
      | 0, h => simp at h; rw [h]; exact List.mem_cons_self
      | i + 1, h =>
        simp only [List.getElem?_cons_succ] at h
        have := mq_en_get g r (n - 1) (b + 1) i v h
        rw [show b + (i + 1) = b + 1 + i by omega]
        exact List.mem_cons_of_mem _ this
theorem mq_cat_sl (g : mq_GH) : ∀ (as : List Value), (lg_sl (as.map (mq_cv g))).length = mq_cat as
  | [] => rfl
  | v :: r => by
    have ih := mq_cat_sl g r
    simp only [List.map_cons, lg_sl, List.flatMap_cons, List.length_append, mq_cat, mq_cv_cat] at ih ⊢
    rw [ih]
    rcases lv_cat v with e | e <;> simp [e]
theorem mq_cat_sum (g : mq_GH) : ∀ (as : List Value), (((as.map (mq_cv g)).map fun v => v.category).sum) = mq_cat as
  | [] => rfl
  | v :: r => by simp [mq_cat, mq_cv_cat, ← mq_cat_sum g r]
/-! cells -/
theorem mq_cell.congr {g : mq_GH} {h h' : mq_H} {k : Nat} {H H1 : Heap} (hc : mq_cell g h k H) (hs : mq_sh h' k = mq_sh h k) (hi : mq_I h' k = mq_I h k) (hj : mq_J h' k = mq_J h k) (hr : mq_R h' k = mq_R h k) (hq : H1[mq_ad g k]? = H[mq_ad g k]?) : mq_cell g h' k H1 := by
  unfold mq_cell at hc ⊢
  rw [hs]
  split at hc
  · obtain ⟨r, h1, h2⟩ := hc
    refine ⟨r, h1, (h2.kept hq).to (fun j _ => ?_)⟩
    simp only [mq_fv, hi, hj, hr]
  · refine ⟨hc.1, ?_⟩
    rw [hq, hc.2]
    simp only [mq_adt, hi, hj, hr]
theorem mq_ad_ne {g : mq_GH} {j k : Nat} (hj : 4 ≤ j) (hk : 4 ≤ k) (h : j ≠ k) : mq_ad g j ≠ mq_ad g k := by
  unfold mq_ad
  rw [if_neg (by omega), if_neg (by omega)]
  omega
theorem mq_ad_ge {g : mq_GH} {k : Nat} (hk : 4 ≤ k) : g.1 ≤ mq_ad g k := by
  unfold mq_ad
  rw [if_neg (by omega)]
  omega
/-- one cell is written -/
theorem mq_rel.put {g : mq_GH} {T : mq_T} {h h' : mq_H} {H H1 : Heap} {k : Nat} (hr : mq_rel g T h H) (hk : 4 ≤ k) (hN : mq_N h' = mq_N h) (hs : ∀ j, mq_sh h' j = mq_sh h j) (ho : ∀ j, j ≠ k → mq_I h' j = mq_I h j ∧ mq_J h' j = mq_J h j ∧ mq_R h' j = mq_R h j) (hc : mq_cell g h' k H1) (hz : H1.size = H.size) (oq : ∀ q, q ≠ mq_ad g k → H1[q]? = H[q]?) (hb : ∀ n j, mq_sh h k = .inr (2, n) → mq_I h' k j = 0 ∨ mq_I h' k j = 1) (ht : ∀ j b, T.2 k j = some b → mq_R h' k j = some b) : mq_rel g T h' H1 := by
  obtain ⟨a1, a2, a3, a4, a5, a6, a7, a8, a9⟩ := hr
  refine ⟨by rw [hN]; exact a1, by rw [hz, hN]; exact a2, a3, fun j h4 hj => ?_, fun j hj => by rw [hs]; exact a5 j (by rw [hN] at hj; exact hj), fun j hj => by rw [hs]; exact a6 j hj, fun j n i hj => ?_, fun j s hj => ?_, fun j i b hj => ?_⟩
  · by_cases e : j = k
    · rw [e]; exact hc
    · obtain ⟨o1, o2, o3⟩ := ho j e
      exact (a4 j h4 (by rw [hN] at hj; exact hj)).congr (hs j) o1 o2 o3 (oq _ (mq_ad_ne h4 hk e))
  · rw [hs] at hj
    by_cases e : j = k
    · subst e; exact hb n i hj
    · rw [(ho j e).1]; exact a7 j n i hj
  · rw [hs, hN]; exact a8 j s hj
  · refine ⟨?_, (a9 j i b hj).2⟩
    by_cases e : j = k
    · subst e; exact ht i b hj
    · rw [(ho j e).2.2]; exact (a9 j i b hj).1
/-- a cell is made -/
theorem mq_rel.mk {g : mq_GH} {T : mq_T} {h : mq_H} {H H1 : Heap} {sh : mq_S} {z : Nat} (hr : mq_rel g T h H) (hc : mq_cell g (mq_new h sh z) (mq_N h) H1) (hz : H1.size = H.size + 1) (oq : ∀ q, q < H.size → H1[q]? = H[q]?) : mq_rel g T (mq_new h sh z) H1 := by
  obtain ⟨a1, a2, a3, a4, a5, a6, a7, a8, a9⟩ := hr
  have eN : mq_N (mq_new h sh z) = mq_N h + 1 := rfl
  have eS : ∀ j, j ≠ mq_N h → mq_sh (mq_new h sh z) j = mq_sh h j := fun j hj => by exact if_neg hj
  have eI : ∀ j, j ≠ mq_N h → mq_I (mq_new h sh z) j = mq_I h j := fun j hj => by funext i; exact if_neg hj
  have eJ : ∀ j, j ≠ mq_N h → mq_J (mq_new h sh z) j = mq_J h j := fun j hj => by funext i; exact if_neg hj
  have eR : ∀ j, j ≠ mq_N h → mq_R (mq_new h sh z) j = mq_R h j := fun j hj => by funext i; exact if_neg hj
  refine ⟨by rw [eN]; omega, by rw [hz, a2, eN]; omega, a3, fun j h4 hj => ?_, fun j hj => ?_, fun j hj => ?_, fun j n i hj => ?_, fun j s hj => ?_, fun j i b hj => ?_⟩
  · by_cases e : j = mq_N h
    · rw [e]; exact hc
    · refine (a4 j h4 (by rw [eN] at hj; omega)).congr (eS j e) (eI j e) (eJ j e) (eR j e) (oq _ ?_)
      unfold mq_ad
      rw [if_neg (by omega), a2]
      rw [eN] at hj
      omega
  · rw [eN] at hj
    rw [eS j (by omega)]
    exact a5 j (by omega)
  · rw [eS j (by omega)]
    exact a6 j hj
  · by_cases e : j = mq_N h
    · left
      subst e
      simp only [mq_I, mq_new, mq_N, if_true]
    · rw [eS j e] at hj
      rw [eI j e]
      exact a7 j n i hj
  · obtain ⟨b1, b2⟩ := a8 j s hj
    rw [eS j (by omega), eN]
    exact ⟨b1, by omega⟩
  · obtain ⟨b1, ci, b2⟩ := a9 j i b hj
    have := (a8 j _ b2).2
    rw [eR j (by omega)]
    exact ⟨b1, ci, b2⟩
/-- what a shape says of a cell's place -/
theorem mq_rel.lt {g : mq_GH} {T : mq_T} {h : mq_H} {H : Heap} (hr : mq_rel g T h H) {k : Nat} (hs : ∀ t n, mq_sh h k = .inr (t, n) → t < 9) : 4 ≤ k ∧ k < mq_N h := by
  obtain ⟨a1, a2, a3, a4, a5, a6, a7, a8⟩ := hr
  constructor
  · rcases Nat.lt_or_ge k 4 with q | q
    · obtain ⟨t, n, e1, e2⟩ := a6 k q
      have := hs t n e1
      omega
    · exact q
  · rcases Nat.lt_or_ge k (mq_N h) with q | q
    · exact q
    · have := hs _ _ (a5 k q)
      omega
theorem mq_rel.obj {g : mq_GH} {T : mq_T} {h : mq_H} {H : Heap} (hr : mq_rel g T h H) {k ci : Nat} (hs : mq_sh h k = .inl ci) : 4 ≤ k ∧ ∃ r : vw_C, mq_cl[ci]? = some r ∧ t_OB (mq_ad g k) (g.2.2.1.1 ci) r.2.2 (g.2.2.1.2 ci) H (fun j => mq_fv g h k ci j) := by
  obtain ⟨h1, h2⟩ := hr.lt (k := k) (fun t n e => by rw [hs] at e; cases e)
  have := hr.2.2.2.1 k h1 h2
  unfold mq_cell at this
  rw [hs] at this
  exact ⟨h1, this⟩
theorem mq_rel.arr {g : mq_GH} {T : mq_T} {h : mq_H} {H : Heap} (hr : mq_rel g T h H) {k ty n : Nat} (hs : mq_sh h k = .inr (ty, n)) (ht : ty < 9) : 4 ≤ k ∧ ty < 6 ∧ H[mq_ad g k]? = some (vp_cell (g.2.2.2 ty) (n, mq_adt g h k ty)) := by
  obtain ⟨h1, h2⟩ := hr.lt (k := k) (fun t n' e => by rw [hs] at e; cases e; exact ht)
  have := hr.2.2.2.1 k h1 h2
  unfold mq_cell at this
  rw [hs] at this
  exact ⟨h1, this⟩
theorem mq_ext.kept {g : mq_GH} {h h' : mq_H} {U : State} {H H1 : Heap} (hx : mq_ext g h U H) (hs : ∀ k, k < 4 → mq_sh h' k = mq_sh h k) (hi : ∀ k n, k < 4 → mq_sh h k = .inr (9, n) → mq_I h' k = mq_I h k) (hq : ∀ k, k < 4 → H1[g.2.1 k]? = H[g.2.1 k]?) : mq_ext g h' U H1 := by
  intro k n hk hn
  rw [hs k hk] at hn
  rw [hi k n hk hn]
  exact (hx k n hk hn).kept (hq k hk)
