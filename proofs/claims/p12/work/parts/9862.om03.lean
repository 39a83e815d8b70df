theorem mq_km24 : (List.range' 144 6).all (fun m => match mq_mt m with | some M => mq_okM M | none => true) = true := by decide +kernel
theorem mq_km25 : (List.range' 150 6).all (fun m => match mq_mt m with | some M => mq_okM M | none => true) = true := by decide +kernel
theorem mq_km26 : (List.range' 156 6).all (fun m => match mq_mt m with | some M => mq_okM M | none => true) = true := by decide +kernel
theorem mq_km27 : (List.range' 162 6).all (fun m => match mq_mt m with | some M => mq_okM M | none => true) = true := by decide +kernel
theorem mq_km28 : (List.range' 168 6).all (fun m => match mq_mt m with | some M => mq_okM M | none => true) = true := by decide +kernel
theorem mq_km29 : (List.range' 174 6).all (fun m => match mq_mt m with | some M => mq_okM M | none => true) = true := by decide +kernel
theorem mq_km30 : (List.range' 180 6).all (fun m => match mq_mt m with | some M => mq_okM M | none => true) = true := by decide +kernel
theorem mq_km31 : (List.range' 186 6).all (fun m => match mq_mt m with | some M => mq_okM M | none => true) = true := by decide +kernel
