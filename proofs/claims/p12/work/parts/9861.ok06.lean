theorem mq_k136_4 : (List.range' 600 150).all (fun pc => match md_136 pc with | none => true | some e => mq_okE mq_G 232 136 pc e) = true := by decide +kernel
theorem mq_k136_5 : (List.range' 750 150).all (fun pc => match md_136 pc with | none => true | some e => mq_okE mq_G 232 136 pc e) = true := by decide +kernel
