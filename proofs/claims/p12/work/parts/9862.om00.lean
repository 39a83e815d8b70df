theorem mq_km0 : (List.range' 0 6).all (fun m => match mq_mt m with | some M => mq_okM M | none => true) = true := by decide +kernel
theorem mq_km1 : (List.range' 6 6).all (fun m => match mq_mt m with | some M => mq_okM M | none => true) = true := by decide +kernel
theorem mq_km2 : (List.range' 12 6).all (fun m => match mq_mt m with | some M => mq_okM M | none => true) = true := by decide +kernel
theorem mq_km3 : (List.range' 18 6).all (fun m => match mq_mt m with | some M => mq_okM M | none => true) = true := by decide +kernel
theorem mq_km4 : (List.range' 24 6).all (fun m => match mq_mt m with | some M => mq_okM M | none => true) = true := by decide +kernel
theorem mq_km5 : (List.range' 30 6).all (fun m => match mq_mt m with | some M => mq_okM M | none => true) = true := by decide +kernel
theorem mq_km6 : (List.range' 36 6).all (fun m => match mq_mt m with | some M => mq_okM M | none => true) = true := by decide +kernel
theorem mq_km7 : (List.range' 42 6).all (fun m => match mq_mt m with | some M => mq_okM M | none => true) = true := by decide +kernel
