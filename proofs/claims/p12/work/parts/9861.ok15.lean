theorem mq_k232_4 : (List.range' 600 150).all (fun pc => match md_232 pc with | none => true | some e => mq_okE mq_G 232 232 pc e) = true := by decide +kernel
theorem mq_k232_5 : (List.range' 750 150).all (fun pc => match md_232 pc with | none => true | some e => mq_okE mq_G 232 232 pc e) = true := by decide +kernel
