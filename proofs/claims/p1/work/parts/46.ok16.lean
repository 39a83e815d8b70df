theorem mq_k233_6 : (List.range' 900 150).all (fun pc => match md_233 pc with | none => true | some e => mq_okE mq_G 233 233 pc e) = true := by decide +kernel
theorem mq_k233_7 : (List.range' 1050 105).all (fun pc => match md_233 pc with | none => true | some e => mq_okE mq_G 233 233 pc e) = true := by decide +kernel
