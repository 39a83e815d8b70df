theorem mq_k233_0 : (List.range' 0 150).all (fun pc => match md_233 pc with | none => true | some e => mq_okE mq_G 233 233 pc e) = true := by decide +kernel
theorem mq_k233_1 : (List.range' 150 150).all (fun pc => match md_233 pc with | none => true | some e => mq_okE mq_G 233 233 pc e) = true := by decide +kernel
