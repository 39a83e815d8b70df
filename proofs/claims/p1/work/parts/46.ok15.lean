theorem mq_k231_4 : (List.range' 600 150).all (fun pc => match md_231 pc with | none => true | some e => mq_okE mq_G 231 231 pc e) = true := by decide +kernel
theorem mq_k231_5 : (List.range' 750 150).all (fun pc => match md_231 pc with | none => true | some e => mq_okE mq_G 231 231 pc e) = true := by decide +kernel
