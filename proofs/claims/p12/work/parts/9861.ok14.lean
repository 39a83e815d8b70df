theorem mq_k232_2 : (List.range' 300 150).all (fun pc => match md_232 pc with | none => true | some e => mq_okE mq_G 232 232 pc e) = true := by decide +kernel
theorem mq_k232_3 : (List.range' 450 150).all (fun pc => match md_232 pc with | none => true | some e => mq_okE mq_G 232 232 pc e) = true := by decide +kernel
