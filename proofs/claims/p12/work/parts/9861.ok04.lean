theorem mq_k136_0 : (List.range' 0 150).all (fun pc => match md_136 pc with | none => true | some e => mq_okE mq_G 232 136 pc e) = true := by decide +kernel
theorem mq_k136_1 : (List.range' 150 150).all (fun pc => match md_136 pc with | none => true | some e => mq_okE mq_G 232 136 pc e) = true := by decide +kernel
