theorem mq_k232 : (List.range 1155).all (fun pc => match md_232 pc with | none => true | some e => mq_okE mq_G 232 232 pc e) = true := by
  refine List.all_eq_true.mpr (fun pc hpc => ?_)
  have hpc := List.mem_range.mp hpc
  rcases Nat.lt_or_ge pc 150 with q | q
  · exact List.all_eq_true.mp mq_k232_0 pc (List.mem_range'_1.mpr ⟨by omega, by omega⟩)
  rcases Nat.lt_or_ge pc 300 with q | q
  · exact List.all_eq_true.mp mq_k232_1 pc (List.mem_range'_1.mpr ⟨by omega, by omega⟩)
  rcases Nat.lt_or_ge pc 450 with q | q
  · exact List.all_eq_true.mp mq_k232_2 pc (List.mem_range'_1.mpr ⟨by omega, by omega⟩)
  rcases Nat.lt_or_ge pc 600 with q | q
  · exact List.all_eq_true.mp mq_k232_3 pc (List.mem_range'_1.mpr ⟨by omega, by omega⟩)
  rcases Nat.lt_or_ge pc 750 with q | q
  · exact List.all_eq_true.mp mq_k232_4 pc (List.mem_range'_1.mpr ⟨by omega, by omega⟩)
  rcases Nat.lt_or_ge pc 900 with q | q
  · exact List.all_eq_true.mp mq_k232_5 pc (List.mem_range'_1.mpr ⟨by omega, by omega⟩)
  rcases Nat.lt_or_ge pc 1050 with q | q
  · exact List.all_eq_true.mp mq_k232_6 pc (List.mem_range'_1.mpr ⟨by omega, by omega⟩)
  exact List.all_eq_true.mp mq_k232_7 pc (List.mem_range'_1.mpr ⟨by omega, by omega⟩)
