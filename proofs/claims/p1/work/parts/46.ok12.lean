theorem mq_k228 : (List.range 212).all (fun pc => match md_228 pc with | none => true | some e => mq_okE mq_G 231 228 pc e) = true := by decide +kernel
theorem mq_k229 : (List.range 53).all (fun pc => match md_229 pc with | none => true | some e => mq_okE mq_G 231 229 pc e) = true := by decide +kernel
theorem mq_k230 : (List.range 21).all (fun pc => match md_230 pc with | none => true | some e => mq_okE mq_G 231 230 pc e) = true := by decide +kernel
