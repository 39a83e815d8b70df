theorem mq_k232_6 : (List.range' 900 150).all (fun pc => match md_232 pc with | none => true | some e => mq_okE mq_G 232 232 pc e) = true := by decide +kernel
theorem mq_k232_7 : (List.range' 1050 105).all (fun pc => match md_232 pc with | none => true | some e => mq_okE mq_G 232 232 pc e) = true := by decide +kernel
