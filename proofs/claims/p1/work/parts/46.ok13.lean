theorem mq_k231_0 : (List.range' 0 150).all (fun pc => match md_231 pc with | none => true | some e => mq_okE mq_G 231 231 pc e) = true := by decide +kernel
theorem mq_k231_1 : (List.range' 150 150).all (fun pc => match md_231 pc with | none => true | some e => mq_okE mq_G 231 231 pc e) = true := by decide +kernel
