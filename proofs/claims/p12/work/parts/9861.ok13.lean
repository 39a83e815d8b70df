theorem mq_k232_0 : (List.range' 0 150).all (fun pc => match md_232 pc with | none => true | some e => mq_okE mq_G 232 232 pc e) = true := by decide +kernel
theorem mq_k232_1 : (List.range' 150 150).all (fun pc => match md_232 pc with | none => true | some e => mq_okE mq_G 232 232 pc e) = true := by decide +kernel
