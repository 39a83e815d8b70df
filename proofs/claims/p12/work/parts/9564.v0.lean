/-! those that X looks at: their contracts without X -/
section KV0
variable {lL : Nat}
def x_T (_ : mq_H) : Prop := True
theorem x_Tf (s : Nat) : ck_Xf x_T s := fun _ _ _ _ _ _ _ _ => trivial
theorem k0_147 : ck_V x_T lL 147 kc_147 := ck_me_ok (x_Tf _) kv_nil kt_147
theorem k0_148 : ck_V x_T lL 148 kc_148 := ck_me_ok (x_Tf _) kv_nil kt_148
theorem k0_149 : ck_V x_T lL 149 kc_149 := ck_me_ok (x_Tf _) kv_nil kt_149
theorem k0_150 : ck_V x_T lL 150 kc_150 := ck_me_ok (x_Tf _) (kv_cons k0_149 kv_nil) kt_150
end KV0
