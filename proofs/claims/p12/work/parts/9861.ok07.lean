theorem mq_k136_6 : (List.range' 900 150).all (fun pc => match md_136 pc with | none => true | some e => mq_okE mq_G 232 136 pc e) = true := by decide +kernel
theorem mq_k136_7 : (List.range' 1050 150).all (fun pc => match md_136 pc with | none => true | some e => mq_okE mq_G 232 136 pc e) = true := by decide +kernel
