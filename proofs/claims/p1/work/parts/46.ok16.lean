theorem mq_k231_6 : (List.range' 900 150).all (fun pc => match md_231 pc with | none => true | some e => mq_okE mq_G 231 231 pc e) = true := by decide +kernel
theorem mq_k231_7 : (List.range' 1050 105).all (fun pc => match md_231 pc with | none => true | some e => mq_okE mq_G 231 231 pc e) = true := by decide +kernel
