theorem mq_kall {f : Nat → Option mq_E} {n i : Nat} (h1 : (List.range n).all (fun pc => match f pc with | none => true | some e => mq_okE mq_G 232 i pc e) = true) (h2 : ∀ p, Nat.ble n p = true → f p = none) : ∀ pc e, f pc = some e → mq_okE mq_G 232 i pc e = true := by
  intro pc e h
  rcases Nat.lt_or_ge pc n with q | q
  · have := List.all_eq_true.mp h1 pc (List.mem_range.mpr q)
    rw [h] at this
    exact this
  · rw [h2 pc (Nat.ble_eq_true_of_le q)] at h
    cases h
theorem mq_kc0 : ∀ (j : Nat) (f : Nat → Option mq_E), mq_cL0[j]? = some f → ∀ pc e, f pc = some e → mq_okE mq_G 232 (16 * 0 + j) pc e = true
  | 0, _, h => by cases h; exact mq_kall mq_k0 (fun p h => by unfold md_0; rw [h]; rfl)
  | 1, _, h => by cases h; exact mq_kall mq_k1 (fun p h => by unfold md_1; rw [h]; rfl)
  | 2, _, h => by cases h; exact mq_kall mq_k2 (fun p h => by unfold md_2; rw [h]; rfl)
  | 3, _, h => by cases h; exact mq_kall mq_k3 (fun p h => by unfold md_3; rw [h]; rfl)
  | 4, _, h => by cases h; exact mq_kall mq_k4 (fun p h => by unfold md_4; rw [h]; rfl)
  | 5, _, h => by cases h; exact mq_kall mq_k5 (fun p h => by unfold md_5; rw [h]; rfl)
  | 6, _, h => by cases h; exact mq_kall mq_k6 (fun p h => by unfold md_6; rw [h]; rfl)
  | 7, _, h => by cases h; exact mq_kall mq_k7 (fun p h => by unfold md_7; rw [h]; rfl)
  | 8, _, h => by cases h; exact mq_kall mq_k8 (fun p h => by unfold md_8; rw [h]; rfl)
  | 9, _, h => by cases h; exact mq_kall mq_k9 (fun p h => by unfold md_9; rw [h]; rfl)
  | 10, _, h => by cases h; exact mq_kall mq_k10 (fun p h => by unfold md_10; rw [h]; rfl)
  | 11, _, h => by cases h; exact mq_kall mq_k11 (fun p h => by unfold md_11; rw [h]; rfl)
  | 12, _, h => by cases h; exact mq_kall mq_k12 (fun p h => by unfold md_12; rw [h]; rfl)
  | 13, _, h => by cases h; exact mq_kall mq_k13 (fun p h => by unfold md_13; rw [h]; rfl)
  | 14, _, h => by cases h; exact mq_kall mq_k14 (fun p h => by unfold md_14; rw [h]; rfl)
  | 15, _, h => by cases h; exact mq_kall mq_k15 (fun p h => by unfold md_15; rw [h]; rfl)
  | n + 16, _, h => by simp [mq_cL0] at h
theorem mq_kc1 : ∀ (j : Nat) (f : Nat → Option mq_E), mq_cL1[j]? = some f → ∀ pc e, f pc = some e → mq_okE mq_G 232 (16 * 1 + j) pc e = true
  | 0, _, h => by cases h; exact mq_kall mq_k16 (fun p h => by unfold md_16; rw [h]; rfl)
  | 1, _, h => by cases h; exact mq_kall mq_k17 (fun p h => by unfold md_17; rw [h]; rfl)
  | 2, _, h => by cases h; exact mq_kall mq_k18 (fun p h => by unfold md_18; rw [h]; rfl)
  | 3, _, h => by cases h; exact mq_kall mq_k19 (fun p h => by unfold md_19; rw [h]; rfl)
  | 4, _, h => by cases h; exact mq_kall mq_k20 (fun p h => by unfold md_20; rw [h]; rfl)
  | 5, _, h => by cases h; exact mq_kall mq_k21 (fun p h => by unfold md_21; rw [h]; rfl)
  | 6, _, h => by cases h; exact mq_kall mq_k22 (fun p h => by unfold md_22; rw [h]; rfl)
  | 7, _, h => by cases h; exact mq_kall mq_k23 (fun p h => by unfold md_23; rw [h]; rfl)
  | 8, _, h => by cases h; exact mq_kall mq_k24 (fun p h => by unfold md_24; rw [h]; rfl)
  | 9, _, h => by cases h; exact mq_kall mq_k25 (fun p h => by unfold md_25; rw [h]; rfl)
  | 10, _, h => by cases h; exact mq_kall mq_k26 (fun p h => by unfold md_26; rw [h]; rfl)
  | 11, _, h => by cases h; exact mq_kall mq_k27 (fun p h => by unfold md_27; rw [h]; rfl)
  | 12, _, h => by cases h; exact mq_kall mq_k28 (fun p h => by unfold md_28; rw [h]; rfl)
  | 13, _, h => by cases h; exact mq_kall mq_k29 (fun p h => by unfold md_29; rw [h]; rfl)
  | 14, _, h => by cases h; exact mq_kall mq_k30 (fun p h => by unfold md_30; rw [h]; rfl)
  | 15, _, h => by cases h; exact mq_kall mq_k31 (fun p h => by unfold md_31; rw [h]; rfl)
  | n + 16, _, h => by simp [mq_cL1] at h
theorem mq_kc2 : ∀ (j : Nat) (f : Nat → Option mq_E), mq_cL2[j]? = some f → ∀ pc e, f pc = some e → mq_okE mq_G 232 (16 * 2 + j) pc e = true
  | 0, _, h => by cases h; exact mq_kall mq_k32 (fun p h => by unfold md_32; rw [h]; rfl)
  | 1, _, h => by cases h; exact mq_kall mq_k33 (fun p h => by unfold md_33; rw [h]; rfl)
  | 2, _, h => by cases h; exact mq_kall mq_k34 (fun p h => by unfold md_34; rw [h]; rfl)
  | 3, _, h => by cases h; exact mq_kall mq_k35 (fun p h => by unfold md_35; rw [h]; rfl)
  | 4, _, h => by cases h; exact mq_kall mq_k36 (fun p h => by unfold md_36; rw [h]; rfl)
  | 5, _, h => by cases h; exact mq_kall mq_k37 (fun p h => by unfold md_37; rw [h]; rfl)
  | 6, _, h => by cases h; exact mq_kall mq_k38 (fun p h => by unfold md_38; rw [h]; rfl)
  | 7, _, h => by cases h; exact mq_kall mq_k39 (fun p h => by unfold md_39; rw [h]; rfl)
  | 8, _, h => by cases h; exact mq_kall mq_k40 (fun p h => by unfold md_40; rw [h]; rfl)
  | 9, _, h => by cases h; exact mq_kall mq_k41 (fun p h => by unfold md_41; rw [h]; rfl)
  | 10, _, h => by cases h; exact mq_kall mq_k42 (fun p h => by unfold md_42; rw [h]; rfl)
  | 11, _, h => by cases h; exact mq_kall mq_k43 (fun p h => by unfold md_43; rw [h]; rfl)
  | 12, _, h => by cases h; exact mq_kall mq_k44 (fun p h => by unfold md_44; rw [h]; rfl)
  | 13, _, h => by cases h; exact mq_kall mq_k45 (fun p h => by unfold md_45; rw [h]; rfl)
  | 14, _, h => by cases h; exact mq_kall mq_k46 (fun p h => by unfold md_46; rw [h]; rfl)
  | 15, _, h => by cases h; exact mq_kall mq_k47 (fun p h => by unfold md_47; rw [h]; rfl)
  | n + 16, _, h => by simp [mq_cL2] at h
theorem mq_kc3 : ∀ (j : Nat) (f : Nat → Option mq_E), mq_cL3[j]? = some f → ∀ pc e, f pc = some e → mq_okE mq_G 232 (16 * 3 + j) pc e = true
  | 0, _, h => by cases h; exact mq_kall mq_k48 (fun p h => by unfold md_48; rw [h]; rfl)
  | 1, _, h => by cases h; exact mq_kall mq_k49 (fun p h => by unfold md_49; rw [h]; rfl)
  | 2, _, h => by cases h; exact mq_kall mq_k50 (fun p h => by unfold md_50; rw [h]; rfl)
  | 3, _, h => by cases h; exact mq_kall mq_k51 (fun p h => by unfold md_51; rw [h]; rfl)
  | 4, _, h => by cases h; exact mq_kall mq_k52 (fun p h => by unfold md_52; rw [h]; rfl)
  | 5, _, h => by cases h; exact mq_kall mq_k53 (fun p h => by unfold md_53; rw [h]; rfl)
  | 6, _, h => by cases h; exact mq_kall mq_k54 (fun p h => by unfold md_54; rw [h]; rfl)
  | 7, _, h => by cases h; exact mq_kall mq_k55 (fun p h => by unfold md_55; rw [h]; rfl)
  | 8, _, h => by cases h; exact mq_kall mq_k56 (fun p h => by unfold md_56; rw [h]; rfl)
  | 9, _, h => by cases h; exact mq_kall mq_k57 (fun p h => by unfold md_57; rw [h]; rfl)
  | 10, _, h => by cases h; exact mq_kall mq_k58 (fun p h => by unfold md_58; rw [h]; rfl)
  | 11, _, h => by cases h; exact mq_kall mq_k59 (fun p h => by unfold md_59; rw [h]; rfl)
  | 12, _, h => by cases h; exact mq_kall mq_k60 (fun p h => by unfold md_60; rw [h]; rfl)
  | 13, _, h => by cases h; exact mq_kall mq_k61 (fun p h => by unfold md_61; rw [h]; rfl)
  | 14, _, h => by cases h; exact mq_kall mq_k62 (fun p h => by unfold md_62; rw [h]; rfl)
  | 15, _, h => by cases h; exact mq_kall mq_k63 (fun p h => by unfold md_63; rw [h]; rfl)
  | n + 16, _, h => by simp [mq_cL3] at h
theorem mq_kc4 : ∀ (j : Nat) (f : Nat → Option mq_E), mq_cL4[j]? = some f → ∀ pc e, f pc = some e → mq_okE mq_G 232 (16 * 4 + j) pc e = true
  | 0, _, h => by cases h; exact mq_kall mq_k64 (fun p h => by unfold md_64; rw [h]; rfl)
  | 1, _, h => by cases h; exact mq_kall mq_k65 (fun p h => by unfold md_65; rw [h]; rfl)
  | 2, _, h => by cases h; exact mq_kall mq_k66 (fun p h => by unfold md_66; rw [h]; rfl)
  | 3, _, h => by cases h; exact mq_kall mq_k67 (fun p h => by unfold md_67; rw [h]; rfl)
  | 4, _, h => by cases h; exact mq_kall mq_k68 (fun p h => by unfold md_68; rw [h]; rfl)
  | 5, _, h => by cases h; exact mq_kall mq_k69 (fun p h => by unfold md_69; rw [h]; rfl)
  | 6, _, h => by cases h; exact mq_kall mq_k70 (fun p h => by unfold md_70; rw [h]; rfl)
  | 7, _, h => by cases h; exact mq_kall mq_k71 (fun p h => by unfold md_71; rw [h]; rfl)
  | 8, _, h => by cases h; exact mq_kall mq_k72 (fun p h => by unfold md_72; rw [h]; rfl)
  | 9, _, h => by cases h; exact mq_kall mq_k73 (fun p h => by unfold md_73; rw [h]; rfl)
  | 10, _, h => by cases h; exact mq_kall mq_k74 (fun p h => by unfold md_74; rw [h]; rfl)
  | 11, _, h => by cases h; exact mq_kall mq_k75 (fun p h => by unfold md_75; rw [h]; rfl)
  | 12, _, h => by cases h; exact mq_kall mq_k76 (fun p h => by unfold md_76; rw [h]; rfl)
  | 13, _, h => by cases h; exact mq_kall mq_k77 (fun p h => by unfold md_77; rw [h]; rfl)
  | 14, _, h => by cases h; exact mq_kall mq_k78 (fun p h => by unfold md_78; rw [h]; rfl)
  | 15, _, h => by cases h; exact mq_kall mq_k79 (fun p h => by unfold md_79; rw [h]; rfl)
  | n + 16, _, h => by simp [mq_cL4] at h
theorem mq_kc5 : ∀ (j : Nat) (f : Nat → Option mq_E), mq_cL5[j]? = some f → ∀ pc e, f pc = some e → mq_okE mq_G 232 (16 * 5 + j) pc e = true
  | 0, _, h => by cases h; exact mq_kall mq_k80 (fun p h => by unfold md_80; rw [h]; rfl)
  | 1, _, h => by cases h; exact mq_kall mq_k81 (fun p h => by unfold md_81; rw [h]; rfl)
  | 2, _, h => by cases h; exact mq_kall mq_k82 (fun p h => by unfold md_82; rw [h]; rfl)
  | 3, _, h => by cases h; exact mq_kall mq_k83 (fun p h => by unfold md_83; rw [h]; rfl)
  | 4, _, h => by cases h; exact mq_kall mq_k84 (fun p h => by unfold md_84; rw [h]; rfl)
  | 5, _, h => by cases h; exact mq_kall mq_k85 (fun p h => by unfold md_85; rw [h]; rfl)
  | 6, _, h => by cases h; exact mq_kall mq_k86 (fun p h => by unfold md_86; rw [h]; rfl)
  | 7, _, h => by cases h; exact mq_kall mq_k87 (fun p h => by unfold md_87; rw [h]; rfl)
  | 8, _, h => by cases h; exact mq_kall mq_k88 (fun p h => by unfold md_88; rw [h]; rfl)
  | 9, _, h => by cases h; exact mq_kall mq_k89 (fun p h => by unfold md_89; rw [h]; rfl)
  | 10, _, h => by cases h; exact mq_kall mq_k90 (fun p h => by unfold md_90; rw [h]; rfl)
  | 11, _, h => by cases h; exact mq_kall mq_k91 (fun p h => by unfold md_91; rw [h]; rfl)
  | 12, _, h => by cases h; exact mq_kall mq_k92 (fun p h => by unfold md_92; rw [h]; rfl)
  | 13, _, h => by cases h; exact mq_kall mq_k93 (fun p h => by unfold md_93; rw [h]; rfl)
  | 14, _, h => by cases h; exact mq_kall mq_k94 (fun p h => by unfold md_94; rw [h]; rfl)
  | 15, _, h => by cases h; exact mq_kall mq_k95 (fun p h => by unfold md_95; rw [h]; rfl)
  | n + 16, _, h => by simp [mq_cL5] at h
theorem mq_kc6 : ∀ (j : Nat) (f : Nat → Option mq_E), mq_cL6[j]? = some f → ∀ pc e, f pc = some e → mq_okE mq_G 232 (16 * 6 + j) pc e = true
  | 0, _, h => by cases h; exact mq_kall mq_k96 (fun p h => by unfold md_96; rw [h]; rfl)
  | 1, _, h => by cases h; exact mq_kall mq_k97 (fun p h => by unfold md_97; rw [h]; rfl)
  | 2, _, h => by cases h; exact mq_kall mq_k98 (fun p h => by unfold md_98; rw [h]; rfl)
  | 3, _, h => by cases h; exact mq_kall mq_k99 (fun p h => by unfold md_99; rw [h]; rfl)
  | 4, _, h => by cases h; exact mq_kall mq_k100 (fun p h => by unfold md_100; rw [h]; rfl)
  | 5, _, h => by cases h; exact mq_kall mq_k101 (fun p h => by unfold md_101; rw [h]; rfl)
  | 6, _, h => by cases h; exact mq_kall mq_k102 (fun p h => by unfold md_102; rw [h]; rfl)
  | 7, _, h => by cases h; exact mq_kall mq_k103 (fun p h => by unfold md_103; rw [h]; rfl)
  | 8, _, h => by cases h; exact mq_kall mq_k104 (fun p h => by unfold md_104; rw [h]; rfl)
  | 9, _, h => by cases h; exact mq_kall mq_k105 (fun p h => by unfold md_105; rw [h]; rfl)
  | 10, _, h => by cases h; exact mq_kall mq_k106 (fun p h => by unfold md_106; rw [h]; rfl)
  | 11, _, h => by cases h; exact mq_kall mq_k107 (fun p h => by unfold md_107; rw [h]; rfl)
  | 12, _, h => by cases h; exact mq_kall mq_k108 (fun p h => by unfold md_108; rw [h]; rfl)
  | 13, _, h => by cases h; exact mq_kall mq_k109 (fun p h => by unfold md_109; rw [h]; rfl)
  | 14, _, h => by cases h; exact mq_kall mq_k110 (fun p h => by unfold md_110; rw [h]; rfl)
  | 15, _, h => by cases h; exact mq_kall mq_k111 (fun p h => by unfold md_111; rw [h]; rfl)
  | n + 16, _, h => by simp [mq_cL6] at h
theorem mq_kc7 : ∀ (j : Nat) (f : Nat → Option mq_E), mq_cL7[j]? = some f → ∀ pc e, f pc = some e → mq_okE mq_G 232 (16 * 7 + j) pc e = true
  | 0, _, h => by cases h; exact mq_kall mq_k112 (fun p h => by unfold md_112; rw [h]; rfl)
  | 1, _, h => by cases h; exact mq_kall mq_k113 (fun p h => by unfold md_113; rw [h]; rfl)
  | 2, _, h => by cases h; exact mq_kall mq_k114 (fun p h => by unfold md_114; rw [h]; rfl)
  | 3, _, h => by cases h; exact mq_kall mq_k115 (fun p h => by unfold md_115; rw [h]; rfl)
  | 4, _, h => by cases h; exact mq_kall mq_k116 (fun p h => by unfold md_116; rw [h]; rfl)
  | 5, _, h => by cases h; exact mq_kall mq_k117 (fun p h => by unfold md_117; rw [h]; rfl)
  | 6, _, h => by cases h; exact mq_kall mq_k118 (fun p h => by unfold md_118; rw [h]; rfl)
  | 7, _, h => by cases h; exact mq_kall mq_k119 (fun p h => by unfold md_119; rw [h]; rfl)
  | 8, _, h => by cases h; exact mq_kall mq_k120 (fun p h => by unfold md_120; rw [h]; rfl)
  | 9, _, h => by cases h; exact mq_kall mq_k121 (fun p h => by unfold md_121; rw [h]; rfl)
  | 10, _, h => by cases h; exact mq_kall mq_k122 (fun p h => by unfold md_122; rw [h]; rfl)
  | 11, _, h => by cases h; exact mq_kall mq_k123 (fun p h => by unfold md_123; rw [h]; rfl)
  | 12, _, h => by cases h; exact mq_kall mq_k124 (fun p h => by unfold md_124; rw [h]; rfl)
  | 13, _, h => by cases h; exact mq_kall mq_k125 (fun p h => by unfold md_125; rw [h]; rfl)
  | 14, _, h => by cases h; exact mq_kall mq_k126 (fun p h => by unfold md_126; rw [h]; rfl)
  | 15, _, h => by cases h; exact mq_kall mq_k127 (fun p h => by unfold md_127; rw [h]; rfl)
  | n + 16, _, h => by simp [mq_cL7] at h
theorem mq_kc8 : ∀ (j : Nat) (f : Nat → Option mq_E), mq_cL8[j]? = some f → ∀ pc e, f pc = some e → mq_okE mq_G 232 (16 * 8 + j) pc e = true
  | 0, _, h => by cases h; exact mq_kall mq_k128 (fun p h => by unfold md_128; rw [h]; rfl)
  | 1, _, h => by cases h; exact mq_kall mq_k129 (fun p h => by unfold md_129; rw [h]; rfl)
  | 2, _, h => by cases h; exact mq_kall mq_k130 (fun p h => by unfold md_130; rw [h]; rfl)
  | 3, _, h => by cases h; exact mq_kall mq_k131 (fun p h => by unfold md_131; rw [h]; rfl)
  | 4, _, h => by cases h; exact mq_kall mq_k132 (fun p h => by unfold md_132; rw [h]; rfl)
  | 5, _, h => by cases h; exact mq_kall mq_k133 (fun p h => by unfold md_133; rw [h]; rfl)
  | 6, _, h => by cases h; exact mq_kall mq_k134 (fun p h => by unfold md_134; rw [h]; rfl)
  | 7, _, h => by cases h; exact mq_kall mq_k135 (fun p h => by unfold md_135; rw [h]; rfl)
  | 8, _, h => by cases h; exact mq_kall mq_k136 (fun p h => by unfold md_136; rw [h]; rfl)
  | 9, _, h => by cases h; exact mq_kall mq_k137 (fun p h => by unfold md_137; rw [h]; rfl)
  | 10, _, h => by cases h; exact mq_kall mq_k138 (fun p h => by unfold md_138; rw [h]; rfl)
  | 11, _, h => by cases h; exact mq_kall mq_k139 (fun p h => by unfold md_139; rw [h]; rfl)
  | 12, _, h => by cases h; exact mq_kall mq_k140 (fun p h => by unfold md_140; rw [h]; rfl)
  | 13, _, h => by cases h; exact mq_kall mq_k141 (fun p h => by unfold md_141; rw [h]; rfl)
  | 14, _, h => by cases h; exact mq_kall mq_k142 (fun p h => by unfold md_142; rw [h]; rfl)
  | 15, _, h => by cases h; exact mq_kall mq_k143 (fun p h => by unfold md_143; rw [h]; rfl)
  | n + 16, _, h => by simp [mq_cL8] at h
theorem mq_kc9 : ∀ (j : Nat) (f : Nat → Option mq_E), mq_cL9[j]? = some f → ∀ pc e, f pc = some e → mq_okE mq_G 232 (16 * 9 + j) pc e = true
  | 0, _, h => by cases h; exact mq_kall mq_k144 (fun p h => by unfold md_144; rw [h]; rfl)
  | 1, _, h => by cases h; exact mq_kall mq_k145 (fun p h => by unfold md_145; rw [h]; rfl)
  | 2, _, h => by cases h; exact mq_kall mq_k146 (fun p h => by unfold md_146; rw [h]; rfl)
  | 3, _, h => by cases h; exact mq_kall mq_k147 (fun p h => by unfold md_147; rw [h]; rfl)
  | 4, _, h => by cases h; exact mq_kall mq_k148 (fun p h => by unfold md_148; rw [h]; rfl)
  | 5, _, h => by cases h; exact mq_kall mq_k149 (fun p h => by unfold md_149; rw [h]; rfl)
  | 6, _, h => by cases h; exact mq_kall mq_k150 (fun p h => by unfold md_150; rw [h]; rfl)
  | 7, _, h => by cases h; exact mq_kall mq_k151 (fun p h => by unfold md_151; rw [h]; rfl)
  | 8, _, h => by cases h; exact mq_kall mq_k152 (fun p h => by unfold md_152; rw [h]; rfl)
  | 9, _, h => by cases h; exact mq_kall mq_k153 (fun p h => by unfold md_153; rw [h]; rfl)
  | 10, _, h => by cases h; exact mq_kall mq_k154 (fun p h => by unfold md_154; rw [h]; rfl)
  | 11, _, h => by cases h; exact mq_kall mq_k155 (fun p h => by unfold md_155; rw [h]; rfl)
  | 12, _, h => by cases h; exact mq_kall mq_k156 (fun p h => by unfold md_156; rw [h]; rfl)
  | 13, _, h => by cases h; exact mq_kall mq_k157 (fun p h => by unfold md_157; rw [h]; rfl)
  | 14, _, h => by cases h; exact mq_kall mq_k158 (fun p h => by unfold md_158; rw [h]; rfl)
  | 15, _, h => by cases h; exact mq_kall mq_k159 (fun p h => by unfold md_159; rw [h]; rfl)
  | n + 16, _, h => by simp [mq_cL9] at h
theorem mq_kc10 : ∀ (j : Nat) (f : Nat → Option mq_E), mq_cL10[j]? = some f → ∀ pc e, f pc = some e → mq_okE mq_G 232 (16 * 10 + j) pc e = true
  | 0, _, h => by cases h; exact mq_kall mq_k160 (fun p h => by unfold md_160; rw [h]; rfl)
  | 1, _, h => by cases h; exact mq_kall mq_k161 (fun p h => by unfold md_161; rw [h]; rfl)
  | 2, _, h => by cases h; exact mq_kall mq_k162 (fun p h => by unfold md_162; rw [h]; rfl)
  | 3, _, h => by cases h; exact mq_kall mq_k163 (fun p h => by unfold md_163; rw [h]; rfl)
  | 4, _, h => by cases h; exact mq_kall mq_k164 (fun p h => by unfold md_164; rw [h]; rfl)
  | 5, _, h => by cases h; exact mq_kall mq_k165 (fun p h => by unfold md_165; rw [h]; rfl)
  | 6, _, h => by cases h; exact mq_kall mq_k166 (fun p h => by unfold md_166; rw [h]; rfl)
  | 7, _, h => by cases h; exact mq_kall mq_k167 (fun p h => by unfold md_167; rw [h]; rfl)
  | 8, _, h => by cases h; exact mq_kall mq_k168 (fun p h => by unfold md_168; rw [h]; rfl)
  | 9, _, h => by cases h; exact mq_kall mq_k169 (fun p h => by unfold md_169; rw [h]; rfl)
  | 10, _, h => by cases h; exact mq_kall mq_k170 (fun p h => by unfold md_170; rw [h]; rfl)
  | 11, _, h => by cases h; exact mq_kall mq_k171 (fun p h => by unfold md_171; rw [h]; rfl)
  | 12, _, h => by cases h; exact mq_kall mq_k172 (fun p h => by unfold md_172; rw [h]; rfl)
  | 13, _, h => by cases h; exact mq_kall mq_k173 (fun p h => by unfold md_173; rw [h]; rfl)
  | 14, _, h => by cases h; exact mq_kall mq_k174 (fun p h => by unfold md_174; rw [h]; rfl)
  | 15, _, h => by cases h; exact mq_kall mq_k175 (fun p h => by unfold md_175; rw [h]; rfl)
  | n + 16, _, h => by simp [mq_cL10] at h
theorem mq_kc11 : ∀ (j : Nat) (f : Nat → Option mq_E), mq_cL11[j]? = some f → ∀ pc e, f pc = some e → mq_okE mq_G 232 (16 * 11 + j) pc e = true
  | 0, _, h => by cases h; exact mq_kall mq_k176 (fun p h => by unfold md_176; rw [h]; rfl)
  | 1, _, h => by cases h; exact mq_kall mq_k177 (fun p h => by unfold md_177; rw [h]; rfl)
  | 2, _, h => by cases h; exact mq_kall mq_k178 (fun p h => by unfold md_178; rw [h]; rfl)
  | 3, _, h => by cases h; exact mq_kall mq_k179 (fun p h => by unfold md_179; rw [h]; rfl)
  | 4, _, h => by cases h; exact mq_kall mq_k180 (fun p h => by unfold md_180; rw [h]; rfl)
  | 5, _, h => by cases h; exact mq_kall mq_k181 (fun p h => by unfold md_181; rw [h]; rfl)
  | 6, _, h => by cases h; exact mq_kall mq_k182 (fun p h => by unfold md_182; rw [h]; rfl)
  | 7, _, h => by cases h; exact mq_kall mq_k183 (fun p h => by unfold md_183; rw [h]; rfl)
  | 8, _, h => by cases h; exact mq_kall mq_k184 (fun p h => by unfold md_184; rw [h]; rfl)
  | 9, _, h => by cases h; exact mq_kall mq_k185 (fun p h => by unfold md_185; rw [h]; rfl)
  | 10, _, h => by cases h; exact mq_kall mq_k186 (fun p h => by unfold md_186; rw [h]; rfl)
  | 11, _, h => by cases h; exact mq_kall mq_k187 (fun p h => by unfold md_187; rw [h]; rfl)
  | 12, _, h => by cases h; exact mq_kall mq_k188 (fun p h => by unfold md_188; rw [h]; rfl)
  | 13, _, h => by cases h; exact mq_kall mq_k189 (fun p h => by unfold md_189; rw [h]; rfl)
  | 14, _, h => by cases h; exact mq_kall mq_k190 (fun p h => by unfold md_190; rw [h]; rfl)
  | 15, _, h => by cases h; exact mq_kall mq_k191 (fun p h => by unfold md_191; rw [h]; rfl)
  | n + 16, _, h => by simp [mq_cL11] at h
theorem mq_kc12 : ∀ (j : Nat) (f : Nat → Option mq_E), mq_cL12[j]? = some f → ∀ pc e, f pc = some e → mq_okE mq_G 232 (16 * 12 + j) pc e = true
  | 0, _, h => by cases h; exact mq_kall mq_k192 (fun p h => by unfold md_192; rw [h]; rfl)
  | 1, _, h => by cases h; exact mq_kall mq_k193 (fun p h => by unfold md_193; rw [h]; rfl)
  | 2, _, h => by cases h; exact mq_kall mq_k194 (fun p h => by unfold md_194; rw [h]; rfl)
  | 3, _, h => by cases h; exact mq_kall mq_k195 (fun p h => by unfold md_195; rw [h]; rfl)
  | 4, _, h => by cases h; exact mq_kall mq_k196 (fun p h => by unfold md_196; rw [h]; rfl)
  | 5, _, h => by cases h; exact mq_kall mq_k197 (fun p h => by unfold md_197; rw [h]; rfl)
  | 6, _, h => by cases h; exact mq_kall mq_k198 (fun p h => by unfold md_198; rw [h]; rfl)
  | 7, _, h => by cases h; exact mq_kall mq_k199 (fun p h => by unfold md_199; rw [h]; rfl)
  | 8, _, h => by cases h; exact mq_kall mq_k200 (fun p h => by unfold md_200; rw [h]; rfl)
  | 9, _, h => by cases h; exact mq_kall mq_k201 (fun p h => by unfold md_201; rw [h]; rfl)
  | 10, _, h => by cases h; exact mq_kall mq_k202 (fun p h => by unfold md_202; rw [h]; rfl)
  | 11, _, h => by cases h; exact mq_kall mq_k203 (fun p h => by unfold md_203; rw [h]; rfl)
  | 12, _, h => by cases h; exact mq_kall mq_k204 (fun p h => by unfold md_204; rw [h]; rfl)
  | 13, _, h => by cases h; exact mq_kall mq_k205 (fun p h => by unfold md_205; rw [h]; rfl)
  | 14, _, h => by cases h; exact mq_kall mq_k206 (fun p h => by unfold md_206; rw [h]; rfl)
  | 15, _, h => by cases h; exact mq_kall mq_k207 (fun p h => by unfold md_207; rw [h]; rfl)
  | n + 16, _, h => by simp [mq_cL12] at h
theorem mq_kc13 : ∀ (j : Nat) (f : Nat → Option mq_E), mq_cL13[j]? = some f → ∀ pc e, f pc = some e → mq_okE mq_G 232 (16 * 13 + j) pc e = true
  | 0, _, h => by cases h; exact mq_kall mq_k208 (fun p h => by unfold md_208; rw [h]; rfl)
  | 1, _, h => by cases h; exact mq_kall mq_k209 (fun p h => by unfold md_209; rw [h]; rfl)
  | 2, _, h => by cases h; exact mq_kall mq_k210 (fun p h => by unfold md_210; rw [h]; rfl)
  | 3, _, h => by cases h; exact mq_kall mq_k211 (fun p h => by unfold md_211; rw [h]; rfl)
  | 4, _, h => by cases h; exact mq_kall mq_k212 (fun p h => by unfold md_212; rw [h]; rfl)
  | 5, _, h => by cases h; exact mq_kall mq_k213 (fun p h => by unfold md_213; rw [h]; rfl)
  | 6, _, h => by cases h; exact mq_kall mq_k214 (fun p h => by unfold md_214; rw [h]; rfl)
  | 7, _, h => by cases h; exact mq_kall mq_k215 (fun p h => by unfold md_215; rw [h]; rfl)
  | 8, _, h => by cases h; exact mq_kall mq_k216 (fun p h => by unfold md_216; rw [h]; rfl)
  | 9, _, h => by cases h; exact mq_kall mq_k217 (fun p h => by unfold md_217; rw [h]; rfl)
  | 10, _, h => by cases h; exact mq_kall mq_k218 (fun p h => by unfold md_218; rw [h]; rfl)
  | 11, _, h => by cases h; exact mq_kall mq_k219 (fun p h => by unfold md_219; rw [h]; rfl)
  | 12, _, h => by cases h; exact mq_kall mq_k220 (fun p h => by unfold md_220; rw [h]; rfl)
  | 13, _, h => by cases h; exact mq_kall mq_k221 (fun p h => by unfold md_221; rw [h]; rfl)
  | 14, _, h => by cases h; exact mq_kall mq_k222 (fun p h => by unfold md_222; rw [h]; rfl)
  | 15, _, h => by cases h; exact mq_kall mq_k223 (fun p h => by unfold md_223; rw [h]; rfl)
  | n + 16, _, h => by simp [mq_cL13] at h
theorem mq_kc14 : ∀ (j : Nat) (f : Nat → Option mq_E), mq_cL14[j]? = some f → ∀ pc e, f pc = some e → mq_okE mq_G 232 (16 * 14 + j) pc e = true
  | 0, _, h => by cases h; exact mq_kall mq_k224 (fun p h => by unfold md_224; rw [h]; rfl)
  | 1, _, h => by cases h; exact mq_kall mq_k225 (fun p h => by unfold md_225; rw [h]; rfl)
  | 2, _, h => by cases h; exact mq_kall mq_k226 (fun p h => by unfold md_226; rw [h]; rfl)
  | 3, _, h => by cases h; exact mq_kall mq_k227 (fun p h => by unfold md_227; rw [h]; rfl)
  | 4, _, h => by cases h; exact mq_kall mq_k228 (fun p h => by unfold md_228; rw [h]; rfl)
  | 5, _, h => by cases h; exact mq_kall mq_k229 (fun p h => by unfold md_229; rw [h]; rfl)
  | 6, _, h => by cases h; exact mq_kall mq_k230 (fun p h => by unfold md_230; rw [h]; rfl)
  | 7, _, h => by cases h; exact mq_kall mq_k231 (fun p h => by unfold md_231; rw [h]; rfl)
  | 8, _, h => by cases h; exact mq_kall mq_k232 (fun p h => by unfold md_232; rw [h]; rfl)
  | n + 9, _, h => by simp [mq_cL14] at h
theorem mq_kcc : ∀ (i : Nat) (l : List (Nat → Option mq_E)), mq_cLL[i]? = some l → ∀ (j : Nat) (f : Nat → Option mq_E), l[j]? = some f → ∀ pc e, f pc = some e → mq_okE mq_G 232 (16 * i + j) pc e = true
  | 0, _, h => by cases h; exact mq_kc0
  | 1, _, h => by cases h; exact mq_kc1
  | 2, _, h => by cases h; exact mq_kc2
  | 3, _, h => by cases h; exact mq_kc3
  | 4, _, h => by cases h; exact mq_kc4
  | 5, _, h => by cases h; exact mq_kc5
  | 6, _, h => by cases h; exact mq_kc6
  | 7, _, h => by cases h; exact mq_kc7
  | 8, _, h => by cases h; exact mq_kc8
  | 9, _, h => by cases h; exact mq_kc9
  | 10, _, h => by cases h; exact mq_kc10
  | 11, _, h => by cases h; exact mq_kc11
  | 12, _, h => by cases h; exact mq_kc12
  | 13, _, h => by cases h; exact mq_kc13
  | 14, _, h => by cases h; exact mq_kc14
  | n + 15, _, h => by simp [mq_cLL] at h
theorem mq_okAll : ∀ m pc e, mq_G.2 m pc = some e → mq_okE mq_G 232 m pc e = true := by
  intro m pc e h
  have h : mq_cd m pc = some e := h
  unfold mq_cd at h
  split at h
  · rename_i l hl
    split at h
    · rename_i f hf
      have := mq_kcc _ l hl _ f hf pc e h
      rw [Nat.div_add_mod] at this
      exact this
    · cases h
  · cases h

theorem mq_cc0 : ∀ (j : Nat) (M : mq_M), 16 * 0 + j < 232 → mq_mL0[j]? = some M → mq_cod M
  | 0, _, _, h => by cases h; exact mq_cw0
  | 1, _, _, h => by cases h; exact mq_cw1
  | 2, _, _, h => by cases h; exact mq_cw2
  | 3, _, _, h => by cases h; exact mq_cw3
  | 4, _, _, h => by cases h; exact mq_cw4
  | 5, _, _, h => by cases h; exact mq_cw5
  | 6, _, _, h => by cases h; exact mq_cw6
  | 7, _, _, h => by cases h; exact mq_cw7
  | 8, _, _, h => by cases h; exact mq_cw8
  | 9, _, _, h => by cases h; exact mq_cw9
  | 10, _, _, h => by cases h; exact mq_cw10
  | 11, _, _, h => by cases h; exact mq_cw11
  | 12, _, _, h => by cases h; exact mq_cw12
  | 13, _, _, h => by cases h; exact mq_cw13
  | 14, _, _, h => by cases h; exact mq_cw14
  | 15, _, _, h => by cases h; exact mq_cw15
  | n + 16, _, hn, h => by first | (exfalso; omega) | (simp [mq_mL0] at h)
theorem mq_cc1 : ∀ (j : Nat) (M : mq_M), 16 * 1 + j < 232 → mq_mL1[j]? = some M → mq_cod M
  | 0, _, _, h => by cases h; exact mq_cw16
  | 1, _, _, h => by cases h; exact mq_cw17
  | 2, _, _, h => by cases h; exact mq_cw18
  | 3, _, _, h => by cases h; exact mq_cw19
  | 4, _, _, h => by cases h; exact mq_cw20
  | 5, _, _, h => by cases h; exact mq_cw21
  | 6, _, _, h => by cases h; exact mq_cw22
  | 7, _, _, h => by cases h; exact mq_cw23
  | 8, _, _, h => by cases h; exact mq_cw24
  | 9, _, _, h => by cases h; exact mq_cw25
  | 10, _, _, h => by cases h; exact mq_cw26
  | 11, _, _, h => by cases h; exact mq_cw27
  | 12, _, _, h => by cases h; exact mq_cw28
  | 13, _, _, h => by cases h; exact mq_cw29
  | 14, _, _, h => by cases h; exact mq_cw30
  | 15, _, _, h => by cases h; exact mq_cw31
  | n + 16, _, hn, h => by first | (exfalso; omega) | (simp [mq_mL1] at h)
theorem mq_cc2 : ∀ (j : Nat) (M : mq_M), 16 * 2 + j < 232 → mq_mL2[j]? = some M → mq_cod M
  | 0, _, _, h => by cases h; exact mq_cw32
  | 1, _, _, h => by cases h; exact mq_cw33
  | 2, _, _, h => by cases h; exact mq_cw34
  | 3, _, _, h => by cases h; exact mq_cw35
  | 4, _, _, h => by cases h; exact mq_cw36
  | 5, _, _, h => by cases h; exact mq_cw37
  | 6, _, _, h => by cases h; exact mq_cw38
  | 7, _, _, h => by cases h; exact mq_cw39
  | 8, _, _, h => by cases h; exact mq_cw40
  | 9, _, _, h => by cases h; exact mq_cw41
  | 10, _, _, h => by cases h; exact mq_cw42
  | 11, _, _, h => by cases h; exact mq_cw43
  | 12, _, _, h => by cases h; exact mq_cw44
  | 13, _, _, h => by cases h; exact mq_cw45
  | 14, _, _, h => by cases h; exact mq_cw46
  | 15, _, _, h => by cases h; exact mq_cw47
  | n + 16, _, hn, h => by first | (exfalso; omega) | (simp [mq_mL2] at h)
theorem mq_cc3 : ∀ (j : Nat) (M : mq_M), 16 * 3 + j < 232 → mq_mL3[j]? = some M → mq_cod M
  | 0, _, _, h => by cases h; exact mq_cw48
  | 1, _, _, h => by cases h; exact mq_cw49
  | 2, _, _, h => by cases h; exact mq_cw50
  | 3, _, _, h => by cases h; exact mq_cw51
  | 4, _, _, h => by cases h; exact mq_cw52
  | 5, _, _, h => by cases h; exact mq_cw53
  | 6, _, _, h => by cases h; exact mq_cw54
  | 7, _, _, h => by cases h; exact mq_cw55
  | 8, _, _, h => by cases h; exact mq_cw56
  | 9, _, _, h => by cases h; exact mq_cw57
  | 10, _, _, h => by cases h; exact mq_cw58
  | 11, _, _, h => by cases h; exact mq_cw59
  | 12, _, _, h => by cases h; exact mq_cw60
  | 13, _, _, h => by cases h; exact mq_cw61
  | 14, _, _, h => by cases h; exact mq_cw62
  | 15, _, _, h => by cases h; exact mq_cw63
  | n + 16, _, hn, h => by first | (exfalso; omega) | (simp [mq_mL3] at h)
theorem mq_cc4 : ∀ (j : Nat) (M : mq_M), 16 * 4 + j < 232 → mq_mL4[j]? = some M → mq_cod M
  | 0, _, _, h => by cases h; exact mq_cw64
  | 1, _, _, h => by cases h; exact mq_cw65
  | 2, _, _, h => by cases h; exact mq_cw66
  | 3, _, _, h => by cases h; exact mq_cw67
  | 4, _, _, h => by cases h; exact mq_cw68
  | 5, _, _, h => by cases h; exact mq_cw69
  | 6, _, _, h => by cases h; exact mq_cw70
  | 7, _, _, h => by cases h; exact mq_cw71
  | 8, _, _, h => by cases h; exact mq_cw72
  | 9, _, _, h => by cases h; exact mq_cw73
  | 10, _, _, h => by cases h; exact mq_cw74
  | 11, _, _, h => by cases h; exact mq_cw75
  | 12, _, _, h => by cases h; exact mq_cw76
  | 13, _, _, h => by cases h; exact mq_cw77
  | 14, _, _, h => by cases h; exact mq_cw78
  | 15, _, _, h => by cases h; exact mq_cw79
  | n + 16, _, hn, h => by first | (exfalso; omega) | (simp [mq_mL4] at h)
theorem mq_cc5 : ∀ (j : Nat) (M : mq_M), 16 * 5 + j < 232 → mq_mL5[j]? = some M → mq_cod M
  | 0, _, _, h => by cases h; exact mq_cw80
  | 1, _, _, h => by cases h; exact mq_cw81
  | 2, _, _, h => by cases h; exact mq_cw82
  | 3, _, _, h => by cases h; exact mq_cw83
  | 4, _, _, h => by cases h; exact mq_cw84
  | 5, _, _, h => by cases h; exact mq_cw85
  | 6, _, _, h => by cases h; exact mq_cw86
  | 7, _, _, h => by cases h; exact mq_cw87
  | 8, _, _, h => by cases h; exact mq_cw88
  | 9, _, _, h => by cases h; exact mq_cw89
  | 10, _, _, h => by cases h; exact mq_cw90
  | 11, _, _, h => by cases h; exact mq_cw91
  | 12, _, _, h => by cases h; exact mq_cw92
  | 13, _, _, h => by cases h; exact mq_cw93
  | 14, _, _, h => by cases h; exact mq_cw94
  | 15, _, _, h => by cases h; exact mq_cw95
  | n + 16, _, hn, h => by first | (exfalso; omega) | (simp [mq_mL5] at h)
theorem mq_cc6 : ∀ (j : Nat) (M : mq_M), 16 * 6 + j < 232 → mq_mL6[j]? = some M → mq_cod M
  | 0, _, _, h => by cases h; exact mq_cw96
  | 1, _, _, h => by cases h; exact mq_cw97
  | 2, _, _, h => by cases h; exact mq_cw98
  | 3, _, _, h => by cases h; exact mq_cw99
  | 4, _, _, h => by cases h; exact mq_cw100
  | 5, _, _, h => by cases h; exact mq_cw101
  | 6, _, _, h => by cases h; exact mq_cw102
  | 7, _, _, h => by cases h; exact mq_cw103
  | 8, _, _, h => by cases h; exact mq_cw104
  | 9, _, _, h => by cases h; exact mq_cw105
  | 10, _, _, h => by cases h; exact mq_cw106
  | 11, _, _, h => by cases h; exact mq_cw107
  | 12, _, _, h => by cases h; exact mq_cw108
  | 13, _, _, h => by cases h; exact mq_cw109
  | 14, _, _, h => by cases h; exact mq_cw110
  | 15, _, _, h => by cases h; exact mq_cw111
  | n + 16, _, hn, h => by first | (exfalso; omega) | (simp [mq_mL6] at h)
theorem mq_cc7 : ∀ (j : Nat) (M : mq_M), 16 * 7 + j < 232 → mq_mL7[j]? = some M → mq_cod M
  | 0, _, _, h => by cases h; exact mq_cw112
  | 1, _, _, h => by cases h; exact mq_cw113
  | 2, _, _, h => by cases h; exact mq_cw114
  | 3, _, _, h => by cases h; exact mq_cw115
  | 4, _, _, h => by cases h; exact mq_cw116
  | 5, _, _, h => by cases h; exact mq_cw117
  | 6, _, _, h => by cases h; exact mq_cw118
  | 7, _, _, h => by cases h; exact mq_cw119
  | 8, _, _, h => by cases h; exact mq_cw120
  | 9, _, _, h => by cases h; exact mq_cw121
  | 10, _, _, h => by cases h; exact mq_cw122
  | 11, _, _, h => by cases h; exact mq_cw123
  | 12, _, _, h => by cases h; exact mq_cw124
  | 13, _, _, h => by cases h; exact mq_cw125
  | 14, _, _, h => by cases h; exact mq_cw126
  | 15, _, _, h => by cases h; exact mq_cw127
  | n + 16, _, hn, h => by first | (exfalso; omega) | (simp [mq_mL7] at h)
theorem mq_cc8 : ∀ (j : Nat) (M : mq_M), 16 * 8 + j < 232 → mq_mL8[j]? = some M → mq_cod M
  | 0, _, _, h => by cases h; exact mq_cw128
  | 1, _, _, h => by cases h; exact mq_cw129
  | 2, _, _, h => by cases h; exact mq_cw130
  | 3, _, _, h => by cases h; exact mq_cw131
  | 4, _, _, h => by cases h; exact mq_cw132
  | 5, _, _, h => by cases h; exact mq_cw133
  | 6, _, _, h => by cases h; exact mq_cw134
  | 7, _, _, h => by cases h; exact mq_cw135
  | 8, _, _, h => by cases h; exact mq_cw136
  | 9, _, _, h => by cases h; exact mq_cw137
  | 10, _, _, h => by cases h; exact mq_cw138
  | 11, _, _, h => by cases h; exact mq_cw139
  | 12, _, _, h => by cases h; exact mq_cw140
  | 13, _, _, h => by cases h; exact mq_cw141
  | 14, _, _, h => by cases h; exact mq_cw142
  | 15, _, _, h => by cases h; exact mq_cw143
  | n + 16, _, hn, h => by first | (exfalso; omega) | (simp [mq_mL8] at h)
theorem mq_cc9 : ∀ (j : Nat) (M : mq_M), 16 * 9 + j < 232 → mq_mL9[j]? = some M → mq_cod M
  | 0, _, _, h => by cases h; exact mq_cw144
  | 1, _, _, h => by cases h; exact mq_cw145
  | 2, _, _, h => by cases h; exact mq_cw146
  | 3, _, _, h => by cases h; exact mq_cw147
  | 4, _, _, h => by cases h; exact mq_cw148
  | 5, _, _, h => by cases h; exact mq_cw149
  | 6, _, _, h => by cases h; exact mq_cw150
  | 7, _, _, h => by cases h; exact mq_cw151
  | 8, _, _, h => by cases h; exact mq_cw152
  | 9, _, _, h => by cases h; exact mq_cw153
  | 10, _, _, h => by cases h; exact mq_cw154
  | 11, _, _, h => by cases h; exact mq_cw155
  | 12, _, _, h => by cases h; exact mq_cw156
  | 13, _, _, h => by cases h; exact mq_cw157
  | 14, _, _, h => by cases h; exact mq_cw158
  | 15, _, _, h => by cases h; exact mq_cw159
  | n + 16, _, hn, h => by first | (exfalso; omega) | (simp [mq_mL9] at h)
theorem mq_cc10 : ∀ (j : Nat) (M : mq_M), 16 * 10 + j < 232 → mq_mL10[j]? = some M → mq_cod M
  | 0, _, _, h => by cases h; exact mq_cw160
  | 1, _, _, h => by cases h; exact mq_cw161
  | 2, _, _, h => by cases h; exact mq_cw162
  | 3, _, _, h => by cases h; exact mq_cw163
  | 4, _, _, h => by cases h; exact mq_cw164
  | 5, _, _, h => by cases h; exact mq_cw165
  | 6, _, _, h => by cases h; exact mq_cw166
  | 7, _, _, h => by cases h; exact mq_cw167
  | 8, _, _, h => by cases h; exact mq_cw168
  | 9, _, _, h => by cases h; exact mq_cw169
  | 10, _, _, h => by cases h; exact mq_cw170
  | 11, _, _, h => by cases h; exact mq_cw171
  | 12, _, _, h => by cases h; exact mq_cw172
  | 13, _, _, h => by cases h; exact mq_cw173
  | 14, _, _, h => by cases h; exact mq_cw174
  | 15, _, _, h => by cases h; exact mq_cw175
  | n + 16, _, hn, h => by first | (exfalso; omega) | (simp [mq_mL10] at h)
theorem mq_cc11 : ∀ (j : Nat) (M : mq_M), 16 * 11 + j < 232 → mq_mL11[j]? = some M → mq_cod M
  | 0, _, _, h => by cases h; exact mq_cw176
  | 1, _, _, h => by cases h; exact mq_cw177
  | 2, _, _, h => by cases h; exact mq_cw178
  | 3, _, _, h => by cases h; exact mq_cw179
  | 4, _, _, h => by cases h; exact mq_cw180
  | 5, _, _, h => by cases h; exact mq_cw181
  | 6, _, _, h => by cases h; exact mq_cw182
  | 7, _, _, h => by cases h; exact mq_cw183
  | 8, _, _, h => by cases h; exact mq_cw184
  | 9, _, _, h => by cases h; exact mq_cw185
  | 10, _, _, h => by cases h; exact mq_cw186
  | 11, _, _, h => by cases h; exact mq_cw187
  | 12, _, _, h => by cases h; exact mq_cw188
  | 13, _, _, h => by cases h; exact mq_cw189
  | 14, _, _, h => by cases h; exact mq_cw190
  | 15, _, _, h => by cases h; exact mq_cw191
  | n + 16, _, hn, h => by first | (exfalso; omega) | (simp [mq_mL11] at h)
theorem mq_cc12 : ∀ (j : Nat) (M : mq_M), 16 * 12 + j < 232 → mq_mL12[j]? = some M → mq_cod M
  | 0, _, _, h => by cases h; exact mq_cw192
  | 1, _, _, h => by cases h; exact mq_cw193
  | 2, _, _, h => by cases h; exact mq_cw194
  | 3, _, _, h => by cases h; exact mq_cw195
  | 4, _, _, h => by cases h; exact mq_cw196
  | 5, _, _, h => by cases h; exact mq_cw197
  | 6, _, _, h => by cases h; exact mq_cw198
  | 7, _, _, h => by cases h; exact mq_cw199
  | 8, _, _, h => by cases h; exact mq_cw200
  | 9, _, _, h => by cases h; exact mq_cw201
  | 10, _, _, h => by cases h; exact mq_cw202
  | 11, _, _, h => by cases h; exact mq_cw203
  | 12, _, _, h => by cases h; exact mq_cw204
  | 13, _, _, h => by cases h; exact mq_cw205
  | 14, _, _, h => by cases h; exact mq_cw206
  | 15, _, _, h => by cases h; exact mq_cw207
  | n + 16, _, hn, h => by first | (exfalso; omega) | (simp [mq_mL12] at h)
theorem mq_cc13 : ∀ (j : Nat) (M : mq_M), 16 * 13 + j < 232 → mq_mL13[j]? = some M → mq_cod M
  | 0, _, _, h => by cases h; exact mq_cw208
  | 1, _, _, h => by cases h; exact mq_cw209
  | 2, _, _, h => by cases h; exact mq_cw210
  | 3, _, _, h => by cases h; exact mq_cw211
  | 4, _, _, h => by cases h; exact mq_cw212
  | 5, _, _, h => by cases h; exact mq_cw213
  | 6, _, _, h => by cases h; exact mq_cw214
  | 7, _, _, h => by cases h; exact mq_cw215
  | 8, _, _, h => by cases h; exact mq_cw216
  | 9, _, _, h => by cases h; exact mq_cw217
  | 10, _, _, h => by cases h; exact mq_cw218
  | 11, _, _, h => by cases h; exact mq_cw219
  | 12, _, _, h => by cases h; exact mq_cw220
  | 13, _, _, h => by cases h; exact mq_cw221
  | 14, _, _, h => by cases h; exact mq_cw222
  | 15, _, _, h => by cases h; exact mq_cw223
  | n + 16, _, hn, h => by first | (exfalso; omega) | (simp [mq_mL13] at h)
theorem mq_cc14 : ∀ (j : Nat) (M : mq_M), 16 * 14 + j < 232 → mq_mL14[j]? = some M → mq_cod M
  | 0, _, _, h => by cases h; exact mq_cw224
  | 1, _, _, h => by cases h; exact mq_cw225
  | 2, _, _, h => by cases h; exact mq_cw226
  | 3, _, _, h => by cases h; exact mq_cw227
  | 4, _, _, h => by cases h; exact mq_cw228
  | 5, _, _, h => by cases h; exact mq_cw229
  | 6, _, _, h => by cases h; exact mq_cw230
  | 7, _, _, h => by cases h; exact mq_cw231
  | n + 8, _, hn, h => by first | (exfalso; omega) | (simp [mq_mL14] at h)
theorem mq_ccc : ∀ (i : Nat) (l : List mq_M), mq_mLL[i]? = some l → ∀ (j : Nat) (M : mq_M), 16 * i + j < 232 → l[j]? = some M → mq_cod M
  | 0, _, h => by cases h; exact mq_cc0
  | 1, _, h => by cases h; exact mq_cc1
  | 2, _, h => by cases h; exact mq_cc2
  | 3, _, h => by cases h; exact mq_cc3
  | 4, _, h => by cases h; exact mq_cc4
  | 5, _, h => by cases h; exact mq_cc5
  | 6, _, h => by cases h; exact mq_cc6
  | 7, _, h => by cases h; exact mq_cc7
  | 8, _, h => by cases h; exact mq_cc8
  | 9, _, h => by cases h; exact mq_cc9
  | 10, _, h => by cases h; exact mq_cc10
  | 11, _, h => by cases h; exact mq_cc11
  | 12, _, h => by cases h; exact mq_cc12
  | 13, _, h => by cases h; exact mq_cc13
  | 14, _, h => by cases h; exact mq_cc14
  | n + 15, _, h => by simp [mq_mLL] at h
theorem mq_codAll : ∀ m M, m < 232 → mq_G.1 m = some M → mq_cod M := by
  intro m M hm h
  have h : mq_mt m = some M := h
  unfold mq_mt at h
  split at h
  · rename_i l hl
    exact mq_ccc _ l hl _ M (by rw [Nat.div_add_mod]; exact hm) h
  · cases h
theorem mq_okMs0 : ∀ m, m < 232 → (match mq_mt m with | some M => mq_okM M | none => true) = true := by
  intro m hm
  rcases Nat.lt_or_ge m 6 with q | q
  · exact List.all_eq_true.mp mq_km0 m (List.mem_range'_1.mpr ⟨by omega, by omega⟩)
  have q0 := q
  rcases Nat.lt_or_ge m 12 with q | q
  · exact List.all_eq_true.mp mq_km1 m (List.mem_range'_1.mpr ⟨by omega, by omega⟩)
  have q1 := q
  rcases Nat.lt_or_ge m 18 with q | q
  · exact List.all_eq_true.mp mq_km2 m (List.mem_range'_1.mpr ⟨by omega, by omega⟩)
  have q2 := q
  rcases Nat.lt_or_ge m 24 with q | q
  · exact List.all_eq_true.mp mq_km3 m (List.mem_range'_1.mpr ⟨by omega, by omega⟩)
  have q3 := q
  rcases Nat.lt_or_ge m 30 with q | q
  · exact List.all_eq_true.mp mq_km4 m (List.mem_range'_1.mpr ⟨by omega, by omega⟩)
  have q4 := q
  rcases Nat.lt_or_ge m 36 with q | q
  · exact List.all_eq_true.mp mq_km5 m (List.mem_range'_1.mpr ⟨by omega, by omega⟩)
  have q5 := q
  rcases Nat.lt_or_ge m 42 with q | q
  · exact List.all_eq_true.mp mq_km6 m (List.mem_range'_1.mpr ⟨by omega, by omega⟩)
  have q6 := q
  rcases Nat.lt_or_ge m 48 with q | q
  · exact List.all_eq_true.mp mq_km7 m (List.mem_range'_1.mpr ⟨by omega, by omega⟩)
  have q7 := q
  rcases Nat.lt_or_ge m 54 with q | q
  · exact List.all_eq_true.mp mq_km8 m (List.mem_range'_1.mpr ⟨by omega, by omega⟩)
  have q8 := q
  rcases Nat.lt_or_ge m 60 with q | q
  · exact List.all_eq_true.mp mq_km9 m (List.mem_range'_1.mpr ⟨by omega, by omega⟩)
  have q9 := q
  rcases Nat.lt_or_ge m 66 with q | q
  · exact List.all_eq_true.mp mq_km10 m (List.mem_range'_1.mpr ⟨by omega, by omega⟩)
  have q10 := q
  rcases Nat.lt_or_ge m 72 with q | q
  · exact List.all_eq_true.mp mq_km11 m (List.mem_range'_1.mpr ⟨by omega, by omega⟩)
  have q11 := q
  rcases Nat.lt_or_ge m 78 with q | q
  · exact List.all_eq_true.mp mq_km12 m (List.mem_range'_1.mpr ⟨by omega, by omega⟩)
  have q12 := q
  rcases Nat.lt_or_ge m 84 with q | q
  · exact List.all_eq_true.mp mq_km13 m (List.mem_range'_1.mpr ⟨by omega, by omega⟩)
  have q13 := q
  rcases Nat.lt_or_ge m 90 with q | q
  · exact List.all_eq_true.mp mq_km14 m (List.mem_range'_1.mpr ⟨by omega, by omega⟩)
  have q14 := q
  rcases Nat.lt_or_ge m 96 with q | q
  · exact List.all_eq_true.mp mq_km15 m (List.mem_range'_1.mpr ⟨by omega, by omega⟩)
  have q15 := q
  rcases Nat.lt_or_ge m 102 with q | q
  · exact List.all_eq_true.mp mq_km16 m (List.mem_range'_1.mpr ⟨by omega, by omega⟩)
  have q16 := q
  rcases Nat.lt_or_ge m 108 with q | q
  · exact List.all_eq_true.mp mq_km17 m (List.mem_range'_1.mpr ⟨by omega, by omega⟩)
  have q17 := q
  rcases Nat.lt_or_ge m 114 with q | q
  · exact List.all_eq_true.mp mq_km18 m (List.mem_range'_1.mpr ⟨by omega, by omega⟩)
  have q18 := q
  rcases Nat.lt_or_ge m 120 with q | q
  · exact List.all_eq_true.mp mq_km19 m (List.mem_range'_1.mpr ⟨by omega, by omega⟩)
  have q19 := q
  rcases Nat.lt_or_ge m 126 with q | q
  · exact List.all_eq_true.mp mq_km20 m (List.mem_range'_1.mpr ⟨by omega, by omega⟩)
  have q20 := q
  rcases Nat.lt_or_ge m 132 with q | q
  · exact List.all_eq_true.mp mq_km21 m (List.mem_range'_1.mpr ⟨by omega, by omega⟩)
  have q21 := q
  rcases Nat.lt_or_ge m 138 with q | q
  · exact List.all_eq_true.mp mq_km22 m (List.mem_range'_1.mpr ⟨by omega, by omega⟩)
  have q22 := q
  rcases Nat.lt_or_ge m 144 with q | q
  · exact List.all_eq_true.mp mq_km23 m (List.mem_range'_1.mpr ⟨by omega, by omega⟩)
  have q23 := q
  rcases Nat.lt_or_ge m 150 with q | q
  · exact List.all_eq_true.mp mq_km24 m (List.mem_range'_1.mpr ⟨by omega, by omega⟩)
  have q24 := q
  rcases Nat.lt_or_ge m 156 with q | q
  · exact List.all_eq_true.mp mq_km25 m (List.mem_range'_1.mpr ⟨by omega, by omega⟩)
  have q25 := q
  rcases Nat.lt_or_ge m 162 with q | q
  · exact List.all_eq_true.mp mq_km26 m (List.mem_range'_1.mpr ⟨by omega, by omega⟩)
  have q26 := q
  rcases Nat.lt_or_ge m 168 with q | q
  · exact List.all_eq_true.mp mq_km27 m (List.mem_range'_1.mpr ⟨by omega, by omega⟩)
  have q27 := q
  rcases Nat.lt_or_ge m 174 with q | q
  · exact List.all_eq_true.mp mq_km28 m (List.mem_range'_1.mpr ⟨by omega, by omega⟩)
  have q28 := q
  rcases Nat.lt_or_ge m 180 with q | q
  · exact List.all_eq_true.mp mq_km29 m (List.mem_range'_1.mpr ⟨by omega, by omega⟩)
  have q29 := q
  rcases Nat.lt_or_ge m 186 with q | q
  · exact List.all_eq_true.mp mq_km30 m (List.mem_range'_1.mpr ⟨by omega, by omega⟩)
  have q30 := q
  rcases Nat.lt_or_ge m 192 with q | q
  · exact List.all_eq_true.mp mq_km31 m (List.mem_range'_1.mpr ⟨by omega, by omega⟩)
  have q31 := q
  rcases Nat.lt_or_ge m 198 with q | q
  · exact List.all_eq_true.mp mq_km32 m (List.mem_range'_1.mpr ⟨by omega, by omega⟩)
  have q32 := q
  rcases Nat.lt_or_ge m 204 with q | q
  · exact List.all_eq_true.mp mq_km33 m (List.mem_range'_1.mpr ⟨by omega, by omega⟩)
  have q33 := q
  rcases Nat.lt_or_ge m 210 with q | q
  · exact List.all_eq_true.mp mq_km34 m (List.mem_range'_1.mpr ⟨by omega, by omega⟩)
  have q34 := q
  rcases Nat.lt_or_ge m 216 with q | q
  · exact List.all_eq_true.mp mq_km35 m (List.mem_range'_1.mpr ⟨by omega, by omega⟩)
  have q35 := q
  rcases Nat.lt_or_ge m 222 with q | q
  · exact List.all_eq_true.mp mq_km36 m (List.mem_range'_1.mpr ⟨by omega, by omega⟩)
  have q36 := q
  rcases Nat.lt_or_ge m 228 with q | q
  · exact List.all_eq_true.mp mq_km37 m (List.mem_range'_1.mpr ⟨by omega, by omega⟩)
  have q37 := q
  exact List.all_eq_true.mp mq_km38 m (List.mem_range'_1.mpr ⟨by omega, by omega⟩)
theorem mq_okMs : ∀ m M, m < 232 → mq_G.1 m = some M → mq_okM M = true := by
  intro m M hm h
  have := mq_okMs0 m hm
  rw [show mq_mt m = some M from h] at this
  exact this
