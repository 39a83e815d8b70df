theorem mq_km32 : (List.range' 192 6).all (fun m => match mq_mt m with | some M => mq_okM M | none => true) = true := by decide +kernel
theorem mq_km33 : (List.range' 198 6).all (fun m => match mq_mt m with | some M => mq_okM M | none => true) = true := by decide +kernel
theorem mq_km34 : (List.range' 204 6).all (fun m => match mq_mt m with | some M => mq_okM M | none => true) = true := by decide +kernel
theorem mq_km35 : (List.range' 210 6).all (fun m => match mq_mt m with | some M => mq_okM M | none => true) = true := by decide +kernel
theorem mq_km36 : (List.range' 216 6).all (fun m => match mq_mt m with | some M => mq_okM M | none => true) = true := by decide +kernel
theorem mq_km37 : (List.range' 222 6).all (fun m => match mq_mt m with | some M => mq_okM M | none => true) = true := by decide +kernel
theorem mq_km38 : (List.range' 228 4).all (fun m => match mq_mt m with | some M => mq_okM M | none => true) = true := by decide +kernel
