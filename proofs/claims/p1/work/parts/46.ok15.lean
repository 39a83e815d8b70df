theorem mq_k233_4 : (List.range' 600 150).all (fun pc => match md_233 pc with | none => true | some e => mq_okE mq_G 233 233 pc e) = true := by decide +kernel
theorem mq_k233_5 : (List.range' 750 150).all (fun pc => match md_233 pc with | none => true | some e => mq_okE mq_G 233 233 pc e) = true := by decide +kernel
