theorem mq_k228 : (List.range 212).all (fun pc => match md_228 pc with | none => true | some e => mq_okE mq_G 233 228 pc e) = true := by decide +kernel
theorem mq_k229 : (List.range 53).all (fun pc => match md_229 pc with | none => true | some e => mq_okE mq_G 233 229 pc e) = true := by decide +kernel
theorem mq_k230 : (List.range 11).all (fun pc => match md_230 pc with | none => true | some e => mq_okE mq_G 233 230 pc e) = true := by decide +kernel
theorem mq_k231 : (List.range 11).all (fun pc => match md_231 pc with | none => true | some e => mq_okE mq_G 233 231 pc e) = true := by decide +kernel
theorem mq_k232 : (List.range 21).all (fun pc => match md_232 pc with | none => true | some e => mq_okE mq_G 233 232 pc e) = true := by decide +kernel
