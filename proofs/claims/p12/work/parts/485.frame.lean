/-! READING THROUGH WRITES; what a method leaves as it was -/
theorem mq_I_setI (h : mq_H) (a k : Nat) (v : Int32) (b j : Nat) : mq_I (mq_setI h a k v) b j = if b = a then (if j = k then v else mq_I h b j) else mq_I h b j := rfl
theorem mq_I_setJ (h : mq_H) (a k : Nat) (v : Int64) (b : Nat) : mq_I (mq_setJ h a k v) b = mq_I h b := rfl
theorem mq_I_setR (h : mq_H) (a k : Nat) (v : Option Nat) (b : Nat) : mq_I (mq_setR h a k v) b = mq_I h b := rfl
theorem mq_J_setI (h : mq_H) (a k : Nat) (v : Int32) (b : Nat) : mq_J (mq_setI h a k v) b = mq_J h b := rfl
theorem mq_J_setJ (h : mq_H) (a k : Nat) (v : Int64) (b j : Nat) : mq_J (mq_setJ h a k v) b j = if b = a then (if j = k then v else mq_J h b j) else mq_J h b j := rfl
theorem mq_J_setR (h : mq_H) (a k : Nat) (v : Option Nat) (b : Nat) : mq_J (mq_setR h a k v) b = mq_J h b := rfl
theorem mq_R_setI (h : mq_H) (a k : Nat) (v : Int32) (b : Nat) : mq_R (mq_setI h a k v) b = mq_R h b := rfl
theorem mq_R_setJ (h : mq_H) (a k : Nat) (v : Int64) (b : Nat) : mq_R (mq_setJ h a k v) b = mq_R h b := rfl
theorem mq_R_setR (h : mq_H) (a k : Nat) (v : Option Nat) (b j : Nat) : mq_R (mq_setR h a k v) b j = if b = a then (if j = k then v else mq_R h b j) else mq_R h b j := rfl
theorem mq_N_setI (h : mq_H) (a k : Nat) (v : Int32) : mq_N (mq_setI h a k v) = mq_N h := rfl
theorem mq_N_setJ (h : mq_H) (a k : Nat) (v : Int64) : mq_N (mq_setJ h a k v) = mq_N h := rfl
theorem mq_N_setR (h : mq_H) (a k : Nat) (v : Option Nat) : mq_N (mq_setR h a k v) = mq_N h := rfl
theorem mq_sh_setI (h : mq_H) (a k : Nat) (v : Int32) : mq_sh (mq_setI h a k v) = mq_sh h := rfl
theorem mq_sh_setJ (h : mq_H) (a k : Nat) (v : Int64) : mq_sh (mq_setJ h a k v) = mq_sh h := rfl
theorem mq_sh_setR (h : mq_H) (a k : Nat) (v : Option Nat) : mq_sh (mq_setR h a k v) = mq_sh h := rfl
theorem mq_N_new (h : mq_H) (s : mq_S) (z : Nat) : mq_N (mq_new h s z) = mq_N h + 1 := rfl
theorem mq_Z_new (h : mq_H) (s : mq_S) (z : Nat) : mq_Z (mq_new h s z) = mq_Z h + z := rfl
theorem mq_sh_new (h : mq_H) (s : mq_S) (z b : Nat) : mq_sh (mq_new h s z) b = if b = mq_N h then s else mq_sh h b := rfl
theorem mq_I_new (h : mq_H) (s : mq_S) (z b j : Nat) : mq_I (mq_new h s z) b j = if b = mq_N h then 0 else mq_I h b j := rfl
theorem mq_J_new (h : mq_H) (s : mq_S) (z b j : Nat) : mq_J (mq_new h s z) b j = if b = mq_N h then 0 else mq_J h b j := rfl
theorem mq_R_new (h : mq_H) (s : mq_S) (z b j : Nat) : mq_R (mq_new h s z) b j = if b = mq_N h then none else mq_R h b j := rfl
/-- only cells from lo on, below hi, and new ones, are written; at most n cells of z slots come -/
def mq_mod (lo hi n z : Nat) (h h' : mq_H) : Prop := mq_N h ≤ mq_N h' ∧ mq_N h' ≤ mq_N h + n ∧ mq_Z h ≤ mq_Z h' ∧ mq_Z h' ≤ mq_Z h + z ∧ ∀ a, a < mq_N h → ¬ (lo ≤ a ∧ a < hi) → mq_sh h' a = mq_sh h a ∧ mq_I h' a = mq_I h a ∧ mq_J h' a = mq_J h a ∧ mq_R h' a = mq_R h a
theorem mq_mod.rf {lo hi : Nat} (n z : Nat) (h : mq_H) : mq_mod lo hi n z h h := ⟨Nat.le_refl _, Nat.le_add_right _ _, Nat.le_refl _, Nat.le_add_right _ _, fun _ _ _ => ⟨rfl, rfl, rfl, rfl⟩⟩
theorem mq_mod.tr {lo hi n1 z1 n2 z2 n z : Nat} {h h1 h2 : mq_H} (a : mq_mod lo hi n1 z1 h h1) (b : mq_mod lo hi n2 z2 h1 h2) (hn : n1 + n2 ≤ n) (hz : z1 + z2 ≤ z) : mq_mod lo hi n z h h2 := by
  obtain ⟨a1, a2, a3, a4, a5⟩ := a
  obtain ⟨b1, b2, b3, b4, b5⟩ := b
  refine ⟨by omega, by omega, by omega, by omega, fun q hq hn => ?_⟩
  obtain ⟨c1, c2, c3, c4⟩ := a5 q hq hn
  obtain ⟨d1, d2, d3, d4⟩ := b5 q (by omega) hn
  exact ⟨d1.trans c1, d2.trans c2, d3.trans c3, d4.trans c4⟩
theorem mq_mod.wd {lo hi lo' hi' n z n' z' : Nat} {h h' : mq_H} (a : mq_mod lo hi n z h h') (h1 : lo' ≤ lo) (h2 : hi ≤ hi') (hn : n ≤ n') (hz : z ≤ z') : mq_mod lo' hi' n' z' h h' := ⟨a.1, by have := a.2.1; omega, a.2.2.1, by have := a.2.2.2.1; omega, fun q hq hnq => a.2.2.2.2 q hq (fun w => hnq ⟨by omega, by omega⟩)⟩
theorem mq_mod.sI {lo hi n z : Nat} {h h' : mq_H} (m : mq_mod lo hi n z h h') {a : Nat} (ha : (lo ≤ a ∧ a < hi) ∨ mq_N h ≤ a) (k : Nat) (v : Int32) : mq_mod lo hi n z h (mq_setI h' a k v) := by
  obtain ⟨a1, a2, a3, a4, a5⟩ := m
  refine ⟨a1, a2, a3, a4, fun q hq hn => ?_⟩
  obtain ⟨c1, c2, c3, c4⟩ := a5 q hq hn
  have e : q ≠ a := fun e => by subst e; rcases ha with z | z; exact hn z; omega
  exact ⟨c1, (mq_setI_ne e k v).trans c2, c3, c4⟩
theorem mq_mod.sJ {lo hi n z : Nat} {h h' : mq_H} (m : mq_mod lo hi n z h h') {a : Nat} (ha : (lo ≤ a ∧ a < hi) ∨ mq_N h ≤ a) (k : Nat) (v : Int64) : mq_mod lo hi n z h (mq_setJ h' a k v) := by
  obtain ⟨a1, a2, a3, a4, a5⟩ := m
  refine ⟨a1, a2, a3, a4, fun q hq hn => ?_⟩
  obtain ⟨c1, c2, c3, c4⟩ := a5 q hq hn
  have e : q ≠ a := fun e => by subst e; rcases ha with z | z; exact hn z; omega
  exact ⟨c1, c2, (mq_setJ_ne e k v).trans c3, c4⟩
theorem mq_mod.sR {lo hi n z : Nat} {h h' : mq_H} (m : mq_mod lo hi n z h h') {a : Nat} (ha : (lo ≤ a ∧ a < hi) ∨ mq_N h ≤ a) (k : Nat) (v : Option Nat) : mq_mod lo hi n z h (mq_setR h' a k v) := by
  obtain ⟨a1, a2, a3, a4, a5⟩ := m
  refine ⟨a1, a2, a3, a4, fun q hq hn => ?_⟩
  obtain ⟨c1, c2, c3, c4⟩ := a5 q hq hn
  have e : q ≠ a := fun e => by subst e; rcases ha with z | z; exact hn z; omega
  exact ⟨c1, c2, c3, (mq_setR_ne e k v).trans c4⟩
theorem mq_mod.cI {lo hi n z : Nat} {h h' : mq_H} (m : mq_mod lo hi n z h h') {a : Nat} (ha : (lo ≤ a ∧ a < hi) ∨ mq_N h ≤ a) (a0 sp dp k : Nat) : mq_mod lo hi n z h (mq_cpI h' a0 a sp dp k) := by
  obtain ⟨a1, a2, a3, a4, a5⟩ := m
  refine ⟨a1, a2, a3, a4, fun q hq hn => ?_⟩
  obtain ⟨c1, c2, c3, c4⟩ := a5 q hq hn
  have e : q ≠ a := fun e => by subst e; rcases ha with z | z; exact hn z; omega
  exact ⟨c1, (mq_cpI_ne e sp dp k).trans c2, c3, c4⟩
theorem mq_mod.cR {lo hi n z : Nat} {h h' : mq_H} (m : mq_mod lo hi n z h h') {a : Nat} (ha : (lo ≤ a ∧ a < hi) ∨ mq_N h ≤ a) (a0 sp dp k : Nat) : mq_mod lo hi n z h (mq_cpR h' a0 a sp dp k) := by
  obtain ⟨a1, a2, a3, a4, a5⟩ := m
  refine ⟨a1, a2, a3, a4, fun q hq hn => ?_⟩
  obtain ⟨c1, c2, c3, c4⟩ := a5 q hq hn
  have e : q ≠ a := fun e => by subst e; rcases ha with z | z; exact hn z; omega
  exact ⟨c1, c2, c3, (mq_cpR_ne e sp dp k).trans c4⟩
theorem mq_mod.nw {lo hi n z n' z' w : Nat} {h h' : mq_H} (m : mq_mod lo hi n z h h') (s : mq_S) (hn : n + 1 ≤ n') (hz : z + w ≤ z') : mq_mod lo hi n' z' h (mq_new h' s w) := by
  obtain ⟨a1, a2, a3, a4, a5⟩ := m
  refine ⟨by rw [mq_N_new]; omega, by rw [mq_N_new]; omega, by rw [mq_Z_new]; omega, by rw [mq_Z_new]; omega, fun q hq hn => ?_⟩
  obtain ⟨c1, c2, c3, c4⟩ := a5 q hq hn
  have e : q ≠ mq_N h' := by omega
  exact ⟨(if_neg e).trans c1, (by funext j; exact if_neg e : mq_I (mq_new h' s w) q = mq_I h' q).trans c2, (by funext j; exact if_neg e : mq_J (mq_new h' s w) q = mq_J h' q).trans c3, (by funext j; exact if_neg e : mq_R (mq_new h' s w) q = mq_R h' q).trans c4⟩
