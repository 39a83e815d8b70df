theorem mq_k233_2 : (List.range' 300 150).all (fun pc => match md_233 pc with | none => true | some e => mq_okE mq_G 233 233 pc e) = true := by decide +kernel
theorem mq_k233_3 : (List.range' 450 150).all (fun pc => match md_233 pc with | none => true | some e => mq_okE mq_G 233 233 pc e) = true := by decide +kernel
