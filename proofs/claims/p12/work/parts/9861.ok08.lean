theorem mq_k136_8 : (List.range' 1200 82).all (fun pc => match md_136 pc with | none => true | some e => mq_okE mq_G 232 136 pc e) = true := by decide +kernel
theorem mq_k136 : (List.range 1282).all (fun pc => match md_136 pc with | none => true | some e => mq_okE mq_G 232 136 pc e) = true := by
  refine List.all_eq_true.mpr (fun pc hpc => ?_)
  have hpc := List.mem_range.mp hpc
  rcases Nat.lt_or_ge pc 150 with q | q
  · exact List.all_eq_true.mp mq_k136_0 pc (List.mem_range'_1.mpr ⟨by omega, by omega⟩)
  rcases Nat.lt_or_ge pc 300 with q | q
  · exact List.all_eq_true.mp mq_k136_1 pc (List.mem_range'_1.mpr ⟨by omega, by omega⟩)
  rcases Nat.lt_or_ge pc 450 with q | q
  · exact List.all_eq_true.mp mq_k136_2 pc (List.mem_range'_1.mpr ⟨by omega, by omega⟩)
  rcases Nat.lt_or_ge pc 600 with q | q
  · exact List.all_eq_true.mp mq_k136_3 pc (List.mem_range'_1.mpr ⟨by omega, by omega⟩)
  rcases Nat.lt_or_ge pc 750 with q | q
  · exact List.all_eq_true.mp mq_k136_4 pc (List.mem_range'_1.mpr ⟨by omega, by omega⟩)
  rcases Nat.lt_or_ge pc 900 with q | q
  · exact List.all_eq_true.mp mq_k136_5 pc (List.mem_range'_1.mpr ⟨by omega, by omega⟩)
  rcases Nat.lt_or_ge pc 1050 with q | q
  · exact List.all_eq_true.mp mq_k136_6 pc (List.mem_range'_1.mpr ⟨by omega, by omega⟩)
  rcases Nat.lt_or_ge pc 1200 with q | q
  · exact List.all_eq_true.mp mq_k136_7 pc (List.mem_range'_1.mpr ⟨by omega, by omega⟩)
  exact List.all_eq_true.mp mq_k136_8 pc (List.mem_range'_1.mpr ⟨by omega, by omega⟩)
