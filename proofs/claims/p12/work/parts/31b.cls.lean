theorem mq_lay_good {C : String} {T : u_T} {N : Nat} {w : Cond} (h : w ∈ u_ws C T N) : goodWord w = true := by
  obtain ⟨k, -, rfl⟩ := List.mem_map.mp h
  unfold u_lay
  split <;> rfl
def mq_clsP (ci : Nat) (r : vw_C) : Prop := (∀ w ∈ u_ws r.1 r.2.1 r.2.2, w ∈ mq_gw) ∧ (∀ k, k < r.2.2 → parseFieldDescriptor (r.2.1 k).2.2.1 = some (mq_fty ci k)) ∧ (∀ a, a < r.2.2 → ∀ b, b < r.2.2 → a ≠ b → (r.2.1 a).2.1 ≠ (r.2.1 b).2.1) ∧ (∀ k, k < r.2.2 → ¬ mq_knd (mq_fty ci k) = 9) ∧ Cond.instantiable r.1 r.2.2 ∈ mq_gw ∧ Cond.initialized r.1 ∈ mq_gw
theorem mq_cls0 : mq_clsP 0 ("RanOut$Acts", mq_f0, 4) := ⟨fun w hw => List.mem_filter.mpr ⟨mq_in0 w hw, mq_lay_good hw⟩, mq_tok0, mq_nm0, by decide +kernel, mq_hw_in (j := 286) (by decide +kernel), mq_hw_in (j := 114) (by decide +kernel)⟩
theorem mq_cls1 : mq_clsP 1 ("RanOut$Book", mq_f1, 4) := ⟨fun w hw => List.mem_filter.mpr ⟨mq_in1 w hw, mq_lay_good hw⟩, mq_tok1, mq_nm1, by decide +kernel, mq_hw_in (j := 138) (by decide +kernel), mq_hw_in (j := 109) (by decide +kernel)⟩
theorem mq_cls2 : mq_clsP 2 ("RanOut$Case", mq_f2, 13) := ⟨fun w hw => List.mem_filter.mpr ⟨mq_in2 w hw, mq_lay_good hw⟩, mq_tok2, mq_nm2, by decide +kernel, mq_hw_in (j := 412) (by decide +kernel), mq_hw_in (j := 118) (by decide +kernel)⟩
theorem mq_cls3 : mq_clsP 3 ("RanOut$Claims", mq_f3, 13) := ⟨fun w hw => List.mem_filter.mpr ⟨mq_in3 w hw, mq_lay_good hw⟩, mq_tok3, mq_nm3, by decide +kernel, mq_hw_in (j := 211) (by decide +kernel), mq_hw_in (j := 113) (by decide +kernel)⟩
theorem mq_cls4 : mq_clsP 4 ("RanOut$Clock", mq_f4, 16) := ⟨fun w hw => List.mem_filter.mpr ⟨mq_in4 w hw, mq_lay_good hw⟩, mq_tok4, mq_nm4, by decide +kernel, mq_hw_in (j := 406) (by decide +kernel), mq_hw_in (j := 117) (by decide +kernel)⟩
theorem mq_cls5 : mq_clsP 5 ("RanOut$LastDays", mq_f5, 6) := ⟨fun w hw => List.mem_filter.mpr ⟨mq_in5 w hw, mq_lay_good hw⟩, mq_tok5, mq_nm5, by decide +kernel, mq_hw_in (j := 518) (by decide +kernel), mq_hw_in (j := 119) (by decide +kernel)⟩
theorem mq_cls6 : mq_clsP 6 ("RanOut$Law", mq_f6, 2) := ⟨fun w hw => List.mem_filter.mpr ⟨mq_in6 w hw, mq_lay_good hw⟩, mq_tok6, mq_nm6, by decide +kernel, mq_hw_in (j := 151) (by decide +kernel), mq_hw_in (j := 111) (by decide +kernel)⟩
theorem mq_cls7 : mq_clsP 7 ("RanOut$Line", mq_f7, 6) := ⟨fun w hw => List.mem_filter.mpr ⟨mq_in7 w hw, mq_lay_good hw⟩, mq_tok7, mq_nm7, by decide +kernel, mq_hw_in (j := 814) (by decide +kernel), mq_hw_in (j := 127) (by decide +kernel)⟩
theorem mq_cls8 : mq_clsP 8 ("RanOut$Places", mq_f8, 8) := ⟨fun w hw => List.mem_filter.mpr ⟨mq_in8 w hw, mq_lay_good hw⟩, mq_tok8, mq_nm8, by decide +kernel, mq_hw_in (j := 144) (by decide +kernel), mq_hw_in (j := 110) (by decide +kernel)⟩
theorem mq_cls9 : mq_clsP 9 ("RanOut$Plan", mq_f9, 11) := ⟨fun w hw => List.mem_filter.mpr ⟨mq_in9 w hw, mq_lay_good hw⟩, mq_tok9, mq_nm9, by decide +kernel, mq_hw_in (j := 551) (by decide +kernel), mq_hw_in (j := 120) (by decide +kernel)⟩
theorem mq_cls10 : mq_clsP 10 ("RanOut$Reader", mq_f10, 18) := ⟨fun w hw => List.mem_filter.mpr ⟨mq_in10 w hw, mq_lay_good hw⟩, mq_tok10, mq_nm10, by decide +kernel, mq_hw_in (j := 340) (by decide +kernel), mq_hw_in (j := 116) (by decide +kernel)⟩
theorem mq_cls11 : mq_clsP 11 ("RanOut", mq_f11, 6) := ⟨fun w hw => List.mem_filter.mpr ⟨mq_in11 w hw, mq_lay_good hw⟩, mq_tok11, mq_nm11, by decide +kernel, mq_hw_in (j := 130) (by decide +kernel), mq_hw_in (j := 108) (by decide +kernel)⟩
theorem mq_cls12 : mq_clsP 12 ("RanOutModel", mq_f12, 72) := ⟨fun w hw => List.mem_filter.mpr ⟨mq_in12 w hw, mq_lay_good hw⟩, mq_tok12, mq_nm12, by decide +kernel, mq_hw_in (j := 1234) (by decide +kernel), mq_hw_in (j := 121) (by decide +kernel)⟩
theorem mq_cls {ci : Nat} {r : vw_C} (h : mq_cl[ci]? = some r) : mq_clsP ci r := by
  match ci, h with
  | 0, h => cases h; exact mq_cls0
  | 1, h => cases h; exact mq_cls1
  | 2, h => cases h; exact mq_cls2
  | 3, h => cases h; exact mq_cls3
  | 4, h => cases h; exact mq_cls4
  | 5, h => cases h; exact mq_cls5
  | 6, h => cases h; exact mq_cls6
  | 7, h => cases h; exact mq_cls7
  | 8, h => cases h; exact mq_cls8
  | 9, h => cases h; exact mq_cls9
  | 10, h => cases h; exact mq_cls10
  | 11, h => cases h; exact mq_cls11
  | 12, h => cases h; exact mq_cls12
  | n + 13, h => simp [mq_cl] at h
theorem mq_ac0 : Cond.arrayClass (mq_aty 0) ∈ mq_gw := mq_hw_in (j := 173) (by decide +kernel)
theorem mq_ac1 : Cond.arrayClass (mq_aty 1) ∈ mq_gw := mq_hw_in (j := 404) (by decide +kernel)
theorem mq_ac2 : Cond.arrayClass (mq_aty 2) ∈ mq_gw := mq_hw_in (j := 174) (by decide +kernel)
theorem mq_ac3 : Cond.arrayClass (mq_aty 3) ∈ mq_gw := mq_hw_in (j := 593) (by decide +kernel)
theorem mq_ac {a : Nat} (h : a < 4) : Cond.arrayClass (mq_aty a) ∈ mq_gw := by
  match a, h with
  | 0, _ => exact mq_ac0
  | 1, _ => exact mq_ac1
  | 2, _ => exact mq_ac2
  | 3, _ => exact mq_ac3
theorem mq_cpS : Cond.static arraycopyName ∈ mq_gw := mq_hw_in (j := 160) (by decide +kernel)
theorem mq_obI : Cond.instanceMethod Lib.objectInit ∈ mq_gw := mq_hw_in (j := 135) (by decide +kernel)
theorem mq_cpN : Cond.native arraycopyName ∈ mq_gw := mq_hw_in (j := 161) (by decide +kernel)
theorem mq_cpI0 : Cond.initialized "java/lang/System" ∈ mq_gw := mq_hw_in (j := 112) (by decide +kernel)
theorem mq_obC : Cond.code Lib.objectInit ⟨#[0xb1]⟩ 1 none ∈ mq_gw := mq_hw_in (j := 136) (by decide +kernel)
theorem mq_mxS : Cond.static Lib.Math.max.name ∈ mq_gw := mq_hw_in (j := 971) (by decide +kernel)
theorem mq_mxC : Cond.code Lib.Math.max.name Lib.Math.max.code 2 (some .int) ∈ mq_gw := mq_hw_in (j := 972) (by decide +kernel)
theorem mq_miS : Cond.static Lib.Math.min.name ∈ mq_gw := mq_hw_in (j := 736) (by decide +kernel)
theorem mq_miC : Cond.code Lib.Math.min.name Lib.Math.min.code 2 (some .int) ∈ mq_gw := mq_hw_in (j := 737) (by decide +kernel)
theorem mq_aoLaw : Cond.arrayOver (.object "RanOut$Law") ∈ lw_tbl := List.mem_of_getElem? (i := 150) (by decide +kernel)
theorem mq_aoLine : Cond.arrayOver (.object "RanOut$Line") ∈ lw_tbl := List.mem_of_getElem? (i := 153) (by decide +kernel)
theorem mq_mtI : Cond.initialized "java/lang/Math" ∈ mq_gw := mq_hw_in (j := 126) (by decide +kernel)
