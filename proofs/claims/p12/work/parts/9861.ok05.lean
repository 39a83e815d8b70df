theorem mq_k136_2 : (List.range' 300 150).all (fun pc => match md_136 pc with | none => true | some e => mq_okE mq_G 232 136 pc e) = true := by decide +kernel
theorem mq_k136_3 : (List.range' 450 150).all (fun pc => match md_136 pc with | none => true | some e => mq_okE mq_G 232 136 pc e) = true := by decide +kernel
