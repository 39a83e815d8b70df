theorem mq_k228 : (List.range 212).all (fun pc => match md_228 pc with | none => true | some e => mq_okE mq_G 232 228 pc e) = true := by decide +kernel
theorem mq_k229 : (List.range 53).all (fun pc => match md_229 pc with | none => true | some e => mq_okE mq_G 232 229 pc e) = true := by decide +kernel
theorem mq_k230 : (List.range 21).all (fun pc => match md_230 pc with | none => true | some e => mq_okE mq_G 232 230 pc e) = true := by decide +kernel
theorem mq_k231 : (List.range 33).all (fun pc => match md_231 pc with | none => true | some e => mq_okE mq_G 232 231 pc e) = true := by decide +kernel
