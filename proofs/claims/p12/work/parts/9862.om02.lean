theorem mq_km16 : (List.range' 96 6).all (fun m => match mq_mt m with | some M => mq_okM M | none => true) = true := by decide +kernel
theorem mq_km17 : (List.range' 102 6).all (fun m => match mq_mt m with | some M => mq_okM M | none => true) = true := by decide +kernel
theorem mq_km18 : (List.range' 108 6).all (fun m => match mq_mt m with | some M => mq_okM M | none => true) = true := by decide +kernel
theorem mq_km19 : (List.range' 114 6).all (fun m => match mq_mt m with | some M => mq_okM M | none => true) = true := by decide +kernel
theorem mq_km20 : (List.range' 120 6).all (fun m => match mq_mt m with | some M => mq_okM M | none => true) = true := by decide +kernel
theorem mq_km21 : (List.range' 126 6).all (fun m => match mq_mt m with | some M => mq_okM M | none => true) = true := by decide +kernel
theorem mq_km22 : (List.range' 132 6).all (fun m => match mq_mt m with | some M => mq_okM M | none => true) = true := by decide +kernel
theorem mq_km23 : (List.range' 138 6).all (fun m => match mq_mt m with | some M => mq_okM M | none => true) = true := by decide +kernel
