theorem mq_km8 : (List.range' 48 6).all (fun m => match mq_mt m with | some M => mq_okM M | none => true) = true := by decide +kernel
theorem mq_km9 : (List.range' 54 6).all (fun m => match mq_mt m with | some M => mq_okM M | none => true) = true := by decide +kernel
theorem mq_km10 : (List.range' 60 6).all (fun m => match mq_mt m with | some M => mq_okM M | none => true) = true := by decide +kernel
theorem mq_km11 : (List.range' 66 6).all (fun m => match mq_mt m with | some M => mq_okM M | none => true) = true := by decide +kernel
theorem mq_km12 : (List.range' 72 6).all (fun m => match mq_mt m with | some M => mq_okM M | none => true) = true := by decide +kernel
theorem mq_km13 : (List.range' 78 6).all (fun m => match mq_mt m with | some M => mq_okM M | none => true) = true := by decide +kernel
theorem mq_km14 : (List.range' 84 6).all (fun m => match mq_mt m with | some M => mq_okM M | none => true) = true := by decide +kernel
theorem mq_km15 : (List.range' 90 6).all (fun m => match mq_mt m with | some M => mq_okM M | none => true) = true := by decide +kernel
