noncomputable section
set_option maxHeartbeats 100000 in
def k133_18 : ex_C := c_return_  15
set_option maxHeartbeats 100000 in
theorem kE133_18 : ex_CE 15 [] cd_133 k133_18 q133_18 := e_return_ 18 0 
set_option maxHeartbeats 100000 in
def k133_10 : ex_C := c_newx 549755813889
set_option maxHeartbeats 100000 in
theorem kE133_10 : ex_CE 15 [] cd_133 k133_10 q133_10 := e_newx 10 1001 292 294 549755813889 rfl rfl rfl
set_option maxHeartbeats 100000 in
def k133_0 : ex_C := c_iload 1 (c_if_lt 10 (c_iload 1 (c_psh 8 (c_icmp_lt 18 (k133_10)))))
set_option maxHeartbeats 100000 in
theorem kE133_0 : ex_CE 15 [] cd_133 k133_0 q133_0 := e_iload_iload_n 0 0 1 1 rfl (e_if_lt 1 10 9 (e_iload_iload_n 4 0 1 1 rfl (e_psh_bipush 5 8 8 (e_icmp_lt 7 18 11 (kE133_10)))))
def kt_133 : Nat → Option ex_C := fun pc => @Bool.rec (fun _ => Nat → Option ex_C) (fun pc => @Bool.rec (fun _ => Nat → Option ex_C) (fun pc => @Bool.rec (fun _ => Option ex_C) none (some k133_18) (Nat.beq pc 18)) (fun pc => @Bool.rec (fun _ => Option ex_C) none (some k133_10) (Nat.beq pc 10)) (Nat.ble pc 10) pc) (fun pc => @Bool.rec (fun _ => Option ex_C) none (some k133_0) (Nat.beq pc 0)) (Nat.ble pc 0) pc
theorem ktE_133 : ex_CTT 15 [] cd_133 kt_133 cd_133 := (ex_ct2 (ex_ct1 kE133_0) (ex_ct2 (ex_ct1 kE133_10) (ex_ct1 kE133_18)))
set_option maxHeartbeats 100000 in
def k134_41 : ex_C := c_return_  15
set_option maxHeartbeats 100000 in
theorem kE134_41 : ex_CE 15 [] cd_134 k134_41 q134_41 := e_return_ 41 0 
set_option maxHeartbeats 100000 in
def k134_33 : ex_C := c_newx 549755813890
set_option maxHeartbeats 100000 in
theorem kE134_33 : ex_CE 15 [] cd_134 k134_33 q134_33 := e_newx 33 1002 156 158 549755813890 rfl rfl rfl
set_option maxHeartbeats 100000 in
def k134_0 : ex_C := c_iload 1 (c_psh 4294967287 (c_icmp_lt 33 (c_iload 1 (c_psh 9 (c_icmp_gt 33 (c_iload 2 (c_psh 4294967287 (c_icmp_lt 33 (c_iload 2 (c_psh 9 (c_icmp_gt 33 (c_iload 3 (c_if_lt 33 (c_iload 3 (c_psh 3 (c_icmp_le 41 (k134_33)))))))))))))))))
set_option maxHeartbeats 100000 in
theorem kE134_0 : ex_CE 15 [] cd_134 k134_0 q134_0 := e_iload_iload_n 0 0 1 1 rfl (e_psh_bipush 1 4294967287 (-9) (e_icmp_lt 3 33 30 (e_iload_iload_n 6 0 1 1 rfl (e_psh_bipush 7 9 9 (e_icmp_gt 9 33 24 (e_iload_iload_n 12 0 2 2 rfl (e_psh_bipush 13 4294967287 (-9) (e_icmp_lt 15 33 18 (e_iload_iload_n 18 0 2 2 rfl (e_psh_bipush 19 9 9 (e_icmp_gt 21 33 12 (e_iload_iload_n 24 0 3 3 rfl (e_if_lt 25 33 8 (e_iload_iload_n 28 0 3 3 rfl (e_psh_iconst 29 3 3 (e_icmp_le 30 41 11 (kE134_33)))))))))))))))))
def kt_134 : Nat → Option ex_C := fun pc => @Bool.rec (fun _ => Nat → Option ex_C) (fun pc => @Bool.rec (fun _ => Nat → Option ex_C) (fun pc => @Bool.rec (fun _ => Option ex_C) none (some k134_41) (Nat.beq pc 41)) (fun pc => @Bool.rec (fun _ => Option ex_C) none (some k134_33) (Nat.beq pc 33)) (Nat.ble pc 33) pc) (fun pc => @Bool.rec (fun _ => Option ex_C) none (some k134_0) (Nat.beq pc 0)) (Nat.ble pc 0) pc
theorem ktE_134 : ex_CTT 15 [] cd_134 kt_134 cd_134 := (ex_ct2 (ex_ct1 kE134_0) (ex_ct2 (ex_ct1 kE134_33) (ex_ct1 kE134_41)))
set_option maxHeartbeats 100000 in
def k135_22 : ex_C := c_return_  15
set_option maxHeartbeats 100000 in
theorem kE135_22 : ex_CE 15 [] cd_135 k135_22 q135_22 := e_return_ 22 0 
set_option maxHeartbeats 100000 in
def k135_14 : ex_C := c_newx 549755813890
set_option maxHeartbeats 100000 in
theorem kE135_14 : ex_CE 15 [] cd_135 k135_14 q135_14 := e_newx 14 1002 156 158 549755813890 rfl rfl rfl
set_option maxHeartbeats 100000 in
def k135_0 : ex_C := c_iload 1 (c_psh 1900 (c_icmp_lt 14 (c_iload 1 (c_psh 2100 (c_icmp_le 22 (k135_14))))))
set_option maxHeartbeats 100000 in
theorem kE135_0 : ex_CE 15 [] cd_135 k135_0 q135_0 := e_iload_iload_n 0 0 1 1 rfl (e_psh_sipush 1 1900 1900 (e_icmp_lt 4 14 10 (e_iload_iload_n 7 0 1 1 rfl (e_psh_sipush 8 2100 2100 (e_icmp_le 11 22 11 (kE135_14))))))
def kt_135 : Nat → Option ex_C := fun pc => @Bool.rec (fun _ => Nat → Option ex_C) (fun pc => @Bool.rec (fun _ => Nat → Option ex_C) (fun pc => @Bool.rec (fun _ => Option ex_C) none (some k135_22) (Nat.beq pc 22)) (fun pc => @Bool.rec (fun _ => Option ex_C) none (some k135_14) (Nat.beq pc 14)) (Nat.ble pc 14) pc) (fun pc => @Bool.rec (fun _ => Option ex_C) none (some k135_0) (Nat.beq pc 0)) (Nat.ble pc 0) pc
theorem ktE_135 : ex_CTT 15 [] cd_135 kt_135 cd_135 := (ex_ct2 (ex_ct1 kE135_0) (ex_ct2 (ex_ct1 kE135_14) (ex_ct1 kE135_22)))
set_option maxHeartbeats 100000 in
def k136_29 : ex_C := c_return_  15
set_option maxHeartbeats 100000 in
theorem kE136_29 : ex_CE 15 [] cd_136 k136_29 q136_29 := e_return_ 29 0 
set_option maxHeartbeats 100000 in
def k136_21 : ex_C := c_newx 549755813889
set_option maxHeartbeats 100000 in
theorem kE136_21 : ex_CE 15 [] cd_136 k136_21 q136_21 := e_newx 21 1001 292 294 549755813889 rfl rfl rfl
set_option maxHeartbeats 100000 in
def k136_0 : ex_C := c_iload 1 (c_if_lt 21 (c_iload 1 (c_aload 0 (c_gf 0 12 (c_gf 10 3 (c_icmp_ge 21 (c_iload 1 (c_psh 16 (c_icmp_lt 29 (k136_21))))))))))
set_option maxHeartbeats 100000 in
theorem kE136_0 : ex_CE 15 [] cd_136 k136_0 q136_0 := e_iload_iload_n 0 0 1 1 rfl (e_if_lt 1 21 20 (e_iload_iload_n 4 0 1 1 rfl (e_aload_aload_n 5 0 0 0 rfl (e_gf 6 86028 79 0 12 rfl rfl (e_gf 9 643 377 10 3 rfl rfl (e_icmp_ge 12 21 9 (e_iload_iload_n 15 0 1 1 rfl (e_psh_bipush 16 16 16 (e_icmp_lt 18 29 11 (kE136_21))))))))))
def kt_136 : Nat → Option ex_C := fun pc => @Bool.rec (fun _ => Nat → Option ex_C) (fun pc => @Bool.rec (fun _ => Nat → Option ex_C) (fun pc => @Bool.rec (fun _ => Option ex_C) none (some k136_29) (Nat.beq pc 29)) (fun pc => @Bool.rec (fun _ => Option ex_C) none (some k136_21) (Nat.beq pc 21)) (Nat.ble pc 21) pc) (fun pc => @Bool.rec (fun _ => Option ex_C) none (some k136_0) (Nat.beq pc 0)) (Nat.ble pc 0) pc
theorem ktE_136 : ex_CTT 15 [] cd_136 kt_136 cd_136 := (ex_ct2 (ex_ct1 kE136_0) (ex_ct2 (ex_ct1 kE136_21) (ex_ct1 kE136_29)))
set_option maxHeartbeats 100000 in
def k137_8 : ex_C := c_ireturn  0
set_option maxHeartbeats 100000 in
theorem kE137_8 : ex_CE 0 [] cd_137 k137_8 q137_8 := e_ireturn 8 0 
set_option maxHeartbeats 100000 in
def k137_0 : ex_C := c_aload 0 (c_psh 17179869204 (c_iload 1 (c_invV [] cd_137 5 3 141 0 (k137_8))))
set_option maxHeartbeats 100000 in
theorem kE137_0 : ex_CE 0 [] cd_137 k137_0 q137_0 := e_aload_aload_n 0 0 0 0 rfl (e_psh_ldc_w 1 17179869204 421 (e_iload_iload_n 4 0 1 1 rfl (e_invV_invokevirtual 5 1286147 423 3 141 0 rfl rfl rfl rfl rfl rfl (kE137_8))))
def kt_137 : Nat → Option ex_C := fun pc => @Bool.rec (fun _ => Nat → Option ex_C) (fun pc => @Bool.rec (fun _ => Option ex_C) none (some k137_8) (Nat.beq pc 8)) (fun pc => @Bool.rec (fun _ => Option ex_C) none (some k137_0) (Nat.beq pc 0)) (Nat.ble pc 0) pc
theorem ktE_137 : ex_CTT 0 [] cd_137 kt_137 cd_137 := (ex_ct2 (ex_ct1 kE137_0) (ex_ct1 kE137_8))
set_option maxHeartbeats 100000 in
def k138_7 : ex_C := c_ireturn  0
set_option maxHeartbeats 100000 in
theorem kE138_7 : ex_CE 0 [] cd_138 k138_7 q138_7 := e_ireturn 7 0 
set_option maxHeartbeats 100000 in
def k138_0 : ex_C := c_aload 0 (c_psh 17179869202 (c_iload 1 (c_invV [] cd_138 4 3 141 0 (k138_7))))
set_option maxHeartbeats 100000 in
theorem kE138_0 : ex_CE 0 [] cd_138 k138_0 q138_0 := e_aload_aload_n 0 0 0 0 rfl (e_psh_ldc 1 17179869202 231 (e_iload_iload_n 3 0 1 1 rfl (e_invV_invokevirtual 4 1286147 423 3 141 0 rfl rfl rfl rfl rfl rfl (kE138_7))))
def kt_138 : Nat → Option ex_C := fun pc => @Bool.rec (fun _ => Nat → Option ex_C) (fun pc => @Bool.rec (fun _ => Option ex_C) none (some k138_7) (Nat.beq pc 7)) (fun pc => @Bool.rec (fun _ => Option ex_C) none (some k138_0) (Nat.beq pc 0)) (Nat.ble pc 0) pc
theorem ktE_138 : ex_CTT 0 [] cd_138 kt_138 cd_138 := (ex_ct2 (ex_ct1 kE138_0) (ex_ct1 kE138_7))
set_option maxHeartbeats 100000 in
def k139_8 : ex_C := c_ireturn  0
set_option maxHeartbeats 100000 in
theorem kE139_8 : ex_CE 0 [] cd_139 k139_8 q139_8 := e_ireturn 8 0 
set_option maxHeartbeats 100000 in
def k139_0 : ex_C := c_aload 0 (c_psh 17179869198 (c_iload 1 (c_invV [] cd_139 5 3 141 0 (k139_8))))
set_option maxHeartbeats 100000 in
theorem kE139_0 : ex_CE 0 [] cd_139 k139_0 q139_0 := e_aload_aload_n 0 0 0 0 rfl (e_psh_ldc_w 1 17179869198 427 (e_iload_iload_n 4 0 1 1 rfl (e_invV_invokevirtual 5 1286147 423 3 141 0 rfl rfl rfl rfl rfl rfl (kE139_8))))
def kt_139 : Nat → Option ex_C := fun pc => @Bool.rec (fun _ => Nat → Option ex_C) (fun pc => @Bool.rec (fun _ => Option ex_C) none (some k139_8) (Nat.beq pc 8)) (fun pc => @Bool.rec (fun _ => Option ex_C) none (some k139_0) (Nat.beq pc 0)) (Nat.ble pc 0) pc
theorem ktE_139 : ex_CTT 0 [] cd_139 kt_139 cd_139 := (ex_ct2 (ex_ct1 kE139_0) (ex_ct1 kE139_8))
set_option maxHeartbeats 100000 in
def k140_8 : ex_C := c_ireturn  0
set_option maxHeartbeats 100000 in
theorem kE140_8 : ex_CE 0 [] cd_140 k140_8 q140_8 := e_ireturn 8 0 
set_option maxHeartbeats 100000 in
def k140_0 : ex_C := c_aload 0 (c_psh 17179869200 (c_iload 1 (c_invV [] cd_140 5 3 141 0 (k140_8))))
set_option maxHeartbeats 100000 in
theorem kE140_0 : ex_CE 0 [] cd_140 k140_0 q140_0 := e_aload_aload_n 0 0 0 0 rfl (e_psh_ldc_w 1 17179869200 429 (e_iload_iload_n 4 0 1 1 rfl (e_invV_invokevirtual 5 1286147 423 3 141 0 rfl rfl rfl rfl rfl rfl (kE140_8))))
def kt_140 : Nat → Option ex_C := fun pc => @Bool.rec (fun _ => Nat → Option ex_C) (fun pc => @Bool.rec (fun _ => Option ex_C) none (some k140_8) (Nat.beq pc 8)) (fun pc => @Bool.rec (fun _ => Option ex_C) none (some k140_0) (Nat.beq pc 0)) (Nat.ble pc 0) pc
theorem ktE_140 : ex_CTT 0 [] cd_140 kt_140 cd_140 := (ex_ct2 (ex_ct1 kE140_0) (ex_ct1 kE140_8))
set_option maxHeartbeats 100000 in
def k141_18 : ex_C := c_iload 3 (c_ireturn  0)
set_option maxHeartbeats 100000 in
theorem kE141_18 : ex_CE 0 [] cd_141 k141_18 q141_18 := e_iload_iload_n 18 0 3 3 rfl (e_ireturn 19 0 )
set_option maxHeartbeats 100000 in
def k141_5 : ex_C := c_istore 3 (c_iload 3 (c_if_ge 18 (c_newx 549755813890)))
set_option maxHeartbeats 100000 in
theorem kE141_5 : ex_CE 0 [] cd_141 k141_5 q141_5 := e_istore_istore_n 5 0 3 3 rfl (e_iload_iload_n 6 0 3 3 rfl (e_if_ge 7 18 11 (e_newx 10 1002 156 158 549755813890 rfl rfl rfl)))
set_option maxHeartbeats 100000 in
def k141_0 : ex_C := c_aload 1 (c_iload 2 (c_invV [] cd_141 2 2 166 18 (k141_5)))
set_option maxHeartbeats 100000 in
theorem kE141_0 : ex_CE 0 [] cd_141 k141_0 q141_0 := e_aload_aload_n 0 0 1 1 rfl (e_iload_iload_n 1 0 2 2 rfl (e_invV_invokevirtual 2 1491522 233 2 166 18 rfl rfl rfl rfl rfl rfl (kE141_5)))
def kt_141 : Nat → Option ex_C := fun pc => @Bool.rec (fun _ => Nat → Option ex_C) (fun pc => @Bool.rec (fun _ => Nat → Option ex_C) (fun pc => @Bool.rec (fun _ => Option ex_C) none (some k141_18) (Nat.beq pc 18)) (fun pc => @Bool.rec (fun _ => Option ex_C) none (some k141_5) (Nat.beq pc 5)) (Nat.ble pc 5) pc) (fun pc => @Bool.rec (fun _ => Option ex_C) none (some k141_0) (Nat.beq pc 0)) (Nat.ble pc 0) pc
theorem ktE_141 : ex_CTT 0 [] cd_141 kt_141 cd_141 := (ex_ct2 (ex_ct1 kE141_0) (ex_ct2 (ex_ct1 kE141_5) (ex_ct1 kE141_18)))
set_option maxHeartbeats 100000 in
def k142_61 : ex_C := c_return_  15
set_option maxHeartbeats 100000 in
theorem kE142_61 : ex_CE 15 [] cd_142 k142_61 q142_61 := e_return_ 61 0 
set_option maxHeartbeats 100000 in
def k142_49 : ex_C := c_aload 0 (c_gf 0 7 (c_aload 0 (c_gf 0 6 (c_iload 3 (c_invV [] cd_142 58 3 50 6 (k142_61))))))
set_option maxHeartbeats 100000 in
theorem kE142_49 : ex_CE 15 [] cd_142 k142_49 q142_49 := e_aload_aload_n 49 0 0 0 rfl (e_gf 50 86023 48 0 7 rfl rfl (e_aload_aload_n 53 0 0 0 rfl (e_gf 54 86022 41 0 6 rfl rfl (e_iload_iload_n 57 0 3 3 rfl (e_invV_invokevirtual 58 540867 211 3 50 6 rfl rfl rfl rfl rfl rfl (kE142_61))))))
set_option maxHeartbeats 100000 in
def k142_36 : ex_C := c_istore 3 (c_iload 3 (c_if_ge 49 (c_newx 549755813892)))
set_option maxHeartbeats 100000 in
theorem kE142_36 : ex_CE 15 [] cd_142 k142_36 q142_36 := e_istore_istore_n 36 0 3 3 rfl (e_iload_iload_n 37 0 3 3 rfl (e_if_ge 38 49 11 (e_newx 41 1004 172 174 549755813892 rfl rfl rfl)))
set_option maxHeartbeats 100000 in
def k142_29 : ex_C := c_aload 0 (c_gf 0 18 (c_invV [] cd_142 33 3 2 5 (k142_36)))
set_option maxHeartbeats 100000 in
theorem kE142_29 : ex_CE 15 [] cd_142 k142_29 q142_29 := e_aload_aload_n 29 0 0 0 rfl (e_gf 30 18 103 0 18 rfl rfl (e_invV_invokevirtual 33 147619 431 3 2 5 rfl rfl rfl rfl rfl rfl (kE142_36)))
set_option maxHeartbeats 100000 in
def k142_20 : ex_C := c_aload 0 (c_gf 0 6 (c_aload 0 (c_iload 1 (c_invV [] cd_142 26 2 137 0 (k142_29)))))
set_option maxHeartbeats 100000 in
theorem kE142_20 : ex_CE 15 [] cd_142 k142_20 q142_20 := e_aload_aload_n 20 0 0 0 rfl (e_gf 21 86022 41 0 6 rfl rfl (e_aload_aload_n 24 0 0 0 rfl (e_iload_iload_n 25 0 1 1 rfl (e_invV_invokevirtual 26 1253378 184 2 137 0 rfl rfl rfl rfl rfl rfl (kE142_29)))))
set_option maxHeartbeats 100000 in
def k142_19 : ex_C := c_return_  15
set_option maxHeartbeats 100000 in
theorem kE142_19 : ex_CE 15 [] cd_142 k142_19 q142_19 := e_return_ 19 0 
set_option maxHeartbeats 100000 in
def k142_6 : ex_C := c_istore 2 (c_iload 2 (c_if_lt 20 (c_aload 0 (c_gf 0 7 (c_iload 2 (c_invV [] cd_142 16 2 48 6 (k142_19)))))))
set_option maxHeartbeats 100000 in
theorem kE142_6 : ex_CE 15 [] cd_142 k142_6 q142_6 := e_istore_istore_n 6 0 2 2 rfl (e_iload_iload_n 7 0 2 2 rfl (e_if_lt 8 20 12 (e_aload_aload_n 11 0 0 0 rfl (e_gf 12 86023 48 0 7 rfl rfl (e_iload_iload_n 15 0 2 2 rfl (e_invV_invokevirtual 16 524482 280 2 48 6 rfl rfl rfl rfl rfl rfl (kE142_19)))))))
set_option maxHeartbeats 100000 in
def k142_0 : ex_C := c_psh 17179869202 (c_iload 1 (c_invV [] cd_142 3 2 166 18 (k142_6)))
set_option maxHeartbeats 100000 in
theorem kE142_0 : ex_CE 15 [] cd_142 k142_0 q142_0 := e_psh_ldc 0 17179869202 231 (e_iload_iload_n 2 0 1 1 rfl (e_invV_invokevirtual 3 1491522 233 2 166 18 rfl rfl rfl rfl rfl rfl (kE142_6)))
def kt_142 : Nat → Option ex_C := fun pc => @Bool.rec (fun _ => Nat → Option ex_C) (fun pc => @Bool.rec (fun _ => Nat → Option ex_C) (fun pc => @Bool.rec (fun _ => Nat → Option ex_C) (fun pc => @Bool.rec (fun _ => Option ex_C) none (some k142_61) (Nat.beq pc 61)) (fun pc => @Bool.rec (fun _ => Option ex_C) none (some k142_49) (Nat.beq pc 49)) (Nat.ble pc 49) pc) (fun pc => @Bool.rec (fun _ => Nat → Option ex_C) (fun pc => @Bool.rec (fun _ => Option ex_C) none (some k142_36) (Nat.beq pc 36)) (fun pc => @Bool.rec (fun _ => Option ex_C) none (some k142_29) (Nat.beq pc 29)) (Nat.ble pc 29) pc) (Nat.ble pc 36) pc) (fun pc => @Bool.rec (fun _ => Nat → Option ex_C) (fun pc => @Bool.rec (fun _ => Nat → Option ex_C) (fun pc => @Bool.rec (fun _ => Option ex_C) none (some k142_20) (Nat.beq pc 20)) (fun pc => @Bool.rec (fun _ => Option ex_C) none (some k142_19) (Nat.beq pc 19)) (Nat.ble pc 19) pc) (fun pc => @Bool.rec (fun _ => Nat → Option ex_C) (fun pc => @Bool.rec (fun _ => Option ex_C) none (some k142_6) (Nat.beq pc 6)) (fun pc => @Bool.rec (fun _ => Option ex_C) none (some k142_0) (Nat.beq pc 0)) (Nat.ble pc 0) pc) (Nat.ble pc 6) pc) (Nat.ble pc 20) pc
theorem ktE_142 : ex_CTT 15 [] cd_142 kt_142 cd_142 := (ex_ct2 (ex_ct2 (ex_ct2 (ex_ct1 kE142_0) (ex_ct1 kE142_6)) (ex_ct2 (ex_ct1 kE142_19) (ex_ct1 kE142_20))) (ex_ct2 (ex_ct2 (ex_ct1 kE142_29) (ex_ct1 kE142_36)) (ex_ct2 (ex_ct1 kE142_49) (ex_ct1 kE142_61))))
set_option maxHeartbeats 100000 in
def k143_112 : ex_C := c_return_  15
set_option maxHeartbeats 100000 in
theorem kE143_112 : ex_CE 15 [] cd_143 k143_112 q143_112 := e_return_ 112 0 
set_option maxHeartbeats 100000 in
def k143_92 : ex_C := c_aload 0 (c_gf 0 13 (c_gf 11 2 (c_psh 45 (c_icmp_eq 112 (c_newx 549755813891)))))
set_option maxHeartbeats 100000 in
theorem kE143_92 : ex_CE 15 [] cd_143 k143_92 q143_92 := e_aload_aload_n 92 0 0 0 rfl (e_gf 93 86029 86 0 13 rfl rfl (e_gf 96 8898 273 11 2 rfl rfl (e_psh_bipush 99 45 45 (e_icmp_eq 101 112 11 (e_newx 104 1003 150 152 549755813891 rfl rfl rfl)))))
set_option maxHeartbeats 100000 in
def k143_75 : ex_C := c_pf 11 2 2 (c_aload 0 (c_gf 0 13 (c_aload 0 (c_gf 0 5 (c_gf 2 7 (c_pf 11 0 3 (k143_92)))))))
set_option maxHeartbeats 100000 in
theorem kE143_75 : ex_CE 15 [] cd_143 k143_75 q143_75 := e_pf 75 8898 273 11 2 2 rfl rfl rfl (e_aload_aload_n 78 0 0 0 rfl (e_gf 79 86029 86 0 13 rfl rfl (e_aload_aload_n 82 0 0 0 rfl (e_gf 83 86021 34 0 5 rfl rfl (e_gf 86 135 434 2 7 rfl rfl (e_pf 89 707 277 11 0 3 rfl rfl rfl (kE143_92)))))))
set_option maxHeartbeats 100000 in
def k143_60 : ex_C := c_aload 0 (c_gf 0 13 (c_aload 0 (c_gf 0 5 (c_aload 1 (c_iload 3 (c_iload 4 (c_invV [] cd_143 72 4 59 2 (k143_75))))))))
set_option maxHeartbeats 100000 in
theorem kE143_60 : ex_CE 15 [] cd_143 k143_60 q143_60 := e_aload_aload_n 60 0 0 0 rfl (e_gf 61 86029 86 0 13 rfl rfl (e_aload_aload_n 64 0 0 0 rfl (e_gf 65 86021 34 0 5 rfl rfl (e_aload_aload_n 68 0 1 1 rfl (e_iload_iload_n 69 0 3 3 rfl (e_iload_iload 70 0 4 (e_invV_invokevirtual 72 614468 283 4 59 2 rfl rfl rfl rfl rfl rfl (kE143_75))))))))
set_option maxHeartbeats 100000 in
def k143_44 : ex_C := c_iload 2 (c_if_ne 60 (c_aload 0 (c_gf 0 13 (c_psh 102 (c_pf 11 2 2 (c_goto 92))))))
set_option maxHeartbeats 100000 in
theorem kE143_44 : ex_CE 15 [] cd_143 k143_44 q143_44 := e_iload_iload_n 44 0 2 2 rfl (e_if_ne 45 60 15 (e_aload_aload_n 48 0 0 0 rfl (e_gf 49 86029 86 0 13 rfl rfl (e_psh_bipush 52 102 102 (e_pf 54 8898 273 11 2 2 rfl rfl rfl (e_goto 57 92 35))))))
set_option maxHeartbeats 100000 in
def k143_0 : ex_C := c_aload 0 (c_gf 0 13 (c_dup   (c_gf 11 0 (c_psh 1 (c_iadd (c_pf 11 0 0 (c_aload 0 (c_gf 0 13 (c_psh 4294967295 (c_pf 11 0 3 (c_aload 1 (c_gf 6 7 (c_aload 0 (c_gf 0 17 (c_icmp_le 44 (c_aload 0 (c_gf 0 13 (c_psh 110 (c_pf 11 2 2 (c_goto 92))))))))))))))))))))
set_option maxHeartbeats 100000 in
theorem kE143_0 : ex_CE 15 [] cd_143 k143_0 q143_0 := e_aload_aload_n 0 0 0 0 rfl (e_gf 1 86029 86 0 13 rfl rfl (e_dup 4 0  (e_gf 5 704 397 11 0 rfl rfl (e_psh_iconst 8 1 1 (e_iadd 9 0 (e_pf 10 704 397 11 0 0 rfl rfl rfl (e_aload_aload_n 13 0 0 0 rfl (e_gf 14 86029 86 0 13 rfl rfl (e_psh_iconst 17 4294967295 (-1) (e_pf 18 707 277 11 0 3 rfl rfl rfl (e_aload_aload_n 21 0 1 1 rfl (e_gf 22 391 228 6 7 rfl rfl (e_aload_aload_n 25 0 0 0 rfl (e_gf 26 17 100 0 17 rfl rfl (e_icmp_le 29 44 15 (e_aload_aload_n 32 0 0 0 rfl (e_gf 33 86029 86 0 13 rfl rfl (e_psh_bipush 36 110 110 (e_pf 38 8898 273 11 2 2 rfl rfl rfl (e_goto 41 92 51))))))))))))))))))))
def kt_143 : Nat → Option ex_C := fun pc => @Bool.rec (fun _ => Nat → Option ex_C) (fun pc => @Bool.rec (fun _ => Nat → Option ex_C) (fun pc => @Bool.rec (fun _ => Nat → Option ex_C) (fun pc => @Bool.rec (fun _ => Option ex_C) none (some k143_112) (Nat.beq pc 112)) (fun pc => @Bool.rec (fun _ => Option ex_C) none (some k143_92) (Nat.beq pc 92)) (Nat.ble pc 92) pc) (fun pc => @Bool.rec (fun _ => Option ex_C) none (some k143_75) (Nat.beq pc 75)) (Nat.ble pc 75) pc) (fun pc => @Bool.rec (fun _ => Nat → Option ex_C) (fun pc => @Bool.rec (fun _ => Nat → Option ex_C) (fun pc => @Bool.rec (fun _ => Option ex_C) none (some k143_60) (Nat.beq pc 60)) (fun pc => @Bool.rec (fun _ => Option ex_C) none (some k143_44) (Nat.beq pc 44)) (Nat.ble pc 44) pc) (fun pc => @Bool.rec (fun _ => Option ex_C) none (some k143_0) (Nat.beq pc 0)) (Nat.ble pc 0) pc) (Nat.ble pc 60) pc
theorem ktE_143 : ex_CTT 15 [] cd_143 kt_143 cd_143 := (ex_ct2 (ex_ct2 (ex_ct1 kE143_0) (ex_ct2 (ex_ct1 kE143_44) (ex_ct1 kE143_60))) (ex_ct2 (ex_ct1 kE143_75) (ex_ct2 (ex_ct1 kE143_92) (ex_ct1 kE143_112))))
set_option maxHeartbeats 100000 in
def k144_49 : ex_C := c_return_  15
set_option maxHeartbeats 100000 in
theorem kE144_49 : ex_CE 15 [] cd_144 k144_49 q144_49 := e_return_ 49 0 
set_option maxHeartbeats 100000 in
def k144_41 : ex_C := c_aload 0 (c_gf 0 11 (c_iload 1 (c_invV [] cd_144 46 2 56 9 (k144_49))))
set_option maxHeartbeats 100000 in
theorem kE144_41 : ex_CE 15 [] cd_144 k144_41 q144_41 := e_aload_aload_n 41 0 0 0 rfl (e_gf 42 86027 72 0 11 rfl rfl (e_iload_iload_n 45 0 1 1 rfl (e_invV_invokevirtual 46 590114 437 2 56 9 rfl rfl rfl rfl rfl rfl (kE144_49))))
set_option maxHeartbeats 100000 in
def k144_27 : ex_C := c_aload 0 (c_gf 0 10 (c_aload 0 (c_gf 0 5 (c_gf 2 0 (c_invV [] cd_144 38 2 27 8 (k144_41))))))
set_option maxHeartbeats 100000 in
theorem kE144_27 : ex_CE 15 [] cd_144 k144_27 q144_27 := e_aload_aload_n 27 0 0 0 rfl (e_gf 28 86026 65 0 10 rfl rfl (e_aload_aload_n 31 0 0 0 rfl (e_gf 32 86021 34 0 5 rfl rfl (e_gf 35 86144 303 2 0 rfl rfl (e_invV_invokevirtual 38 352514 435 2 27 8 rfl rfl rfl rfl rfl rfl (kE144_41))))))
set_option maxHeartbeats 100000 in
def k144_0 : ex_C := c_aload 0 (c_gf 0 13 (c_dup   (c_gf 11 1 (c_psh 1 (c_iadd (c_pf 11 0 1 (c_aload 0 (c_gf 0 0 (c_aload 0 (c_gf 0 5 (c_gf 2 0 (c_invV [] cd_144 24 2 43 1 (k144_27)))))))))))))
set_option maxHeartbeats 100000 in
theorem kE144_0 : ex_CE 15 [] cd_144 k144_0 q144_0 := e_aload_aload_n 0 0 0 0 rfl (e_gf 1 86029 86 0 13 rfl rfl (e_dup 4 0  (e_gf 5 705 403 11 1 rfl rfl (e_psh_iconst 8 1 1 (e_iadd 9 0 (e_pf 10 705 403 11 0 1 rfl rfl rfl (e_aload_aload_n 13 0 0 0 rfl (e_gf 14 86016 10 0 0 rfl rfl (e_aload_aload_n 17 0 0 0 rfl (e_gf 18 86021 34 0 5 rfl rfl (e_gf 21 86144 303 2 0 rfl rfl (e_invV_invokevirtual 24 483362 357 2 43 1 rfl rfl rfl rfl rfl rfl (kE144_27)))))))))))))
def kt_144 : Nat → Option ex_C := fun pc => @Bool.rec (fun _ => Nat → Option ex_C) (fun pc => @Bool.rec (fun _ => Nat → Option ex_C) (fun pc => @Bool.rec (fun _ => Option ex_C) none (some k144_49) (Nat.beq pc 49)) (fun pc => @Bool.rec (fun _ => Option ex_C) none (some k144_41) (Nat.beq pc 41)) (Nat.ble pc 41) pc) (fun pc => @Bool.rec (fun _ => Nat → Option ex_C) (fun pc => @Bool.rec (fun _ => Option ex_C) none (some k144_27) (Nat.beq pc 27)) (fun pc => @Bool.rec (fun _ => Option ex_C) none (some k144_0) (Nat.beq pc 0)) (Nat.ble pc 0) pc) (Nat.ble pc 27) pc
theorem ktE_144 : ex_CTT 15 [] cd_144 kt_144 cd_144 := (ex_ct2 (ex_ct2 (ex_ct1 kE144_0) (ex_ct1 kE144_27)) (ex_ct2 (ex_ct1 kE144_41) (ex_ct1 kE144_49)))
set_option maxHeartbeats 100000 in
def k145_65 : ex_C := c_return_  15
set_option maxHeartbeats 100000 in
theorem kE145_65 : ex_CE 15 [] cd_145 k145_65 q145_65 := e_return_ 65 0 
set_option maxHeartbeats 100000 in
def k145_46 : ex_C := c_pop   (c_aload 0 (c_gf 0 5 (c_gf 2 3 (c_aload 0 (c_gf 0 5 (c_gf 2 0 (c_iload 1 (c_invV [] cd_145 62 3 71 4 (k145_65)))))))))
set_option maxHeartbeats 100000 in
theorem kE145_46 : ex_CE 15 [] cd_145 k145_46 q145_46 := e_pop 46 0  (e_aload_aload_n 47 0 0 0 rfl (e_gf 48 86021 34 0 5 rfl rfl (e_gf 51 86147 299 2 3 rfl rfl (e_aload_aload_n 54 0 0 0 rfl (e_gf 55 86021 34 0 5 rfl rfl (e_gf 58 86144 303 2 0 rfl rfl (e_iload_iload_n 61 0 1 1 rfl (e_invV_invokevirtual 62 712835 443 3 71 4 rfl rfl rfl rfl rfl rfl (kE145_65)))))))))
set_option maxHeartbeats 100000 in
def k145_28 : ex_C := c_aload 0 (c_gf 0 5 (c_gf 2 3 (c_aload 0 (c_gf 0 5 (c_gf 2 0 (c_psh 0 (c_invV [] cd_145 43 3 69 4 (k145_46))))))))
set_option maxHeartbeats 100000 in
theorem kE145_28 : ex_CE 15 [] cd_145 k145_28 q145_28 := e_aload_aload_n 28 0 0 0 rfl (e_gf 29 86021 34 0 5 rfl rfl (e_gf 32 86147 299 2 3 rfl rfl (e_aload_aload_n 35 0 0 0 rfl (e_gf 36 86021 34 0 5 rfl rfl (e_gf 39 86144 303 2 0 rfl rfl (e_psh_iconst 42 0 0 (e_invV_invokevirtual 43 696451 307 3 69 4 rfl rfl rfl rfl rfl rfl (kE145_46))))))))
set_option maxHeartbeats 100000 in
def k145_15 : ex_C := c_aload 0 (c_gf 0 5 (c_gf 2 3 (c_iload 2 (c_psh 0 (c_psh 0 (c_invV [] cd_145 25 4 68 4 (k145_28)))))))
set_option maxHeartbeats 100000 in
theorem kE145_15 : ex_CE 15 [] cd_145 k145_15 q145_15 := e_aload_aload_n 15 0 0 0 rfl (e_gf 16 86021 34 0 5 rfl rfl (e_gf 19 86147 299 2 3 rfl rfl (e_iload_iload_n 22 0 2 2 rfl (e_psh_iconst 23 0 0 (e_psh_iconst 24 0 0 (e_invV_invokevirtual 25 688260 439 4 68 4 rfl rfl rfl rfl rfl rfl (kE145_28)))))))
set_option maxHeartbeats 100000 in
def k145_0 : ex_C := c_aload 0 (c_gf 0 5 (c_aload 0 (c_gf 0 0 (c_aload 0 (c_gf 0 4 (c_invV [] cd_145 12 3 58 2 (k145_15)))))))
set_option maxHeartbeats 100000 in
theorem kE145_0 : ex_CE 15 [] cd_145 k145_0 q145_0 := e_aload_aload_n 0 0 0 0 rfl (e_gf 1 86021 34 0 5 rfl rfl (e_aload_aload_n 4 0 0 0 rfl (e_gf 5 86016 10 0 0 rfl rfl (e_aload_aload_n 8 0 0 0 rfl (e_gf 9 86020 26 0 4 rfl rfl (e_invV_invokevirtual 12 606275 242 3 58 2 rfl rfl rfl rfl rfl rfl (kE145_15)))))))
def kt_145 : Nat → Option ex_C := fun pc => @Bool.rec (fun _ => Nat → Option ex_C) (fun pc => @Bool.rec (fun _ => Nat → Option ex_C) (fun pc => @Bool.rec (fun _ => Nat → Option ex_C) (fun pc => @Bool.rec (fun _ => Option ex_C) none (some k145_65) (Nat.beq pc 65)) (fun pc => @Bool.rec (fun _ => Option ex_C) none (some k145_46) (Nat.beq pc 46)) (Nat.ble pc 46) pc) (fun pc => @Bool.rec (fun _ => Option ex_C) none (some k145_28) (Nat.beq pc 28)) (Nat.ble pc 28) pc) (fun pc => @Bool.rec (fun _ => Nat → Option ex_C) (fun pc => @Bool.rec (fun _ => Option ex_C) none (some k145_15) (Nat.beq pc 15)) (fun pc => @Bool.rec (fun _ => Option ex_C) none (some k145_0) (Nat.beq pc 0)) (Nat.ble pc 0) pc) (Nat.ble pc 15) pc
theorem ktE_145 : ex_CTT 15 [] cd_145 kt_145 cd_145 := (ex_ct2 (ex_ct2 (ex_ct1 kE145_0) (ex_ct1 kE145_15)) (ex_ct2 (ex_ct1 kE145_28) (ex_ct2 (ex_ct1 kE145_46) (ex_ct1 kE145_65))))
set_option maxHeartbeats 100000 in
def k146_104 : ex_C := c_psh 0 (c_ireturn  1)
set_option maxHeartbeats 100000 in
theorem kE146_104 : ex_CE 1 [] cd_146 k146_104 q146_104 := e_psh_iconst 104 0 0 (e_ireturn 105 0 )
set_option maxHeartbeats 100000 in
def k146_98 : ex_C := c_iinc 3 1 (c_goto 2)
set_option maxHeartbeats 100000 in
theorem kE146_98 : ex_CE 1 [] cd_146 k146_98 q146_98 := e_iinc 98 1 3 1 (e_goto 101 2 (-99))
set_option maxHeartbeats 100000 in
def k146_86 : ex_C := c_if_eq 98 (c_aload 0 (c_gf 0 15 (c_iload 2 (c_iload 3 (c_iastore (c_psh 1 (c_ireturn  1)))))))
set_option maxHeartbeats 100000 in
theorem kE146_86 : ex_CE 1 [] cd_146 k146_86 q146_86 := e_if_eq 86 98 12 (e_aload_aload_n 89 0 0 0 rfl (e_gf 90 86031 93 0 15 rfl rfl (e_iload_iload_n 93 0 2 2 rfl (e_iload_iload_n 94 0 3 3 rfl (e_iastore 95 0 (e_psh_iconst 96 1 1 (e_ireturn 97 0 )))))))
set_option maxHeartbeats 100000 in
def k146_47 : ex_C := c_psh 45 (c_icmp_ne 98 (c_aload 0 (c_aload 0 (c_gf 0 5 (c_gf 2 0 (c_gf 3 0 (c_aload 0 (c_gf 0 5 (c_gf 2 0 (c_gf 3 1 (c_aload 0 (c_gf 0 5 (c_gf 2 0 (c_gf 3 2 (c_invV [] cd_146 83 4 152 0 (k146_86))))))))))))))))
set_option maxHeartbeats 100000 in
theorem kE146_47 : ex_CE 1 [] cd_146 k146_47 q146_47 := e_psh_bipush 47 45 45 (e_icmp_ne 49 98 49 (e_aload_aload_n 52 0 0 0 rfl (e_aload_aload_n 53 0 0 0 rfl (e_gf 54 86021 34 0 5 rfl rfl (e_gf 57 86144 303 2 0 rfl rfl (e_gf 60 86208 447 3 0 rfl rfl (e_aload_aload_n 63 0 0 0 rfl (e_gf 64 86021 34 0 5 rfl rfl (e_gf 67 86144 303 2 0 rfl rfl (e_gf 70 86209 450 3 1 rfl rfl (e_aload_aload_n 73 0 0 0 rfl (e_gf 74 86021 34 0 5 rfl rfl (e_gf 77 86144 303 2 0 rfl rfl (e_gf 80 86210 451 3 2 rfl rfl (e_invV_invokevirtual 83 1376260 336 4 152 0 rfl rfl rfl rfl rfl rfl (kE146_86))))))))))))))))
set_option maxHeartbeats 100000 in
def k146_28 : ex_C := c_aload 0 (c_gf 0 5 (c_aload 0 (c_gf 0 7 (c_aload 0 (c_gf 0 7 (c_gf 6 5 (c_psh 0 (c_invV [] cd_146 44 4 59 2 (k146_47)))))))))
set_option maxHeartbeats 100000 in
theorem kE146_28 : ex_CE 1 [] cd_146 k146_28 q146_28 := e_aload_aload_n 28 0 0 0 rfl (e_gf 29 86021 34 0 5 rfl rfl (e_aload_aload_n 32 0 0 0 rfl (e_gf 33 86023 48 0 7 rfl rfl (e_aload_aload_n 36 0 0 0 rfl (e_gf 37 86023 48 0 7 rfl rfl (e_gf 40 389 225 6 5 rfl rfl (e_psh_iconst 43 0 0 (e_invV_invokevirtual 44 614468 283 4 59 2 rfl rfl rfl rfl rfl rfl (kE146_47)))))))))
set_option maxHeartbeats 100000 in
def k146_16 : ex_C := c_aload 0 (c_gf 0 5 (c_aload 1 (c_aload 0 (c_gf 0 4 (c_invV [] cd_146 25 3 58 2 (k146_28))))))
set_option maxHeartbeats 100000 in
theorem kE146_16 : ex_CE 1 [] cd_146 k146_16 q146_16 := e_aload_aload_n 16 0 0 0 rfl (e_gf 17 86021 34 0 5 rfl rfl (e_aload_aload_n 20 0 1 1 rfl (e_aload_aload_n 21 0 0 0 rfl (e_gf 22 86020 26 0 4 rfl rfl (e_invV_invokevirtual 25 606275 242 3 58 2 rfl rfl rfl rfl rfl rfl (kE146_28))))))
set_option maxHeartbeats 100000 in
def k146_2 : ex_C := c_iload 3 (c_psh 12 (c_icmp_ge 104 (c_aload 0 (c_gf 0 7 (c_iload 3 (c_invV [] cd_146 13 2 48 6 (k146_16)))))))
set_option maxHeartbeats 100000 in
theorem kE146_2 : ex_CE 1 [] cd_146 k146_2 q146_2 := e_iload_iload_n 2 0 3 3 rfl (e_psh_bipush 3 12 12 (e_icmp_ge 5 104 99 (e_aload_aload_n 8 0 0 0 rfl (e_gf 9 86023 48 0 7 rfl rfl (e_iload_iload_n 12 0 3 3 rfl (e_invV_invokevirtual 13 524482 280 2 48 6 rfl rfl rfl rfl rfl rfl (kE146_16)))))))
set_option maxHeartbeats 100000 in
def k146_0 : ex_C := c_psh 0 (c_istore 3 (k146_2))
set_option maxHeartbeats 100000 in
theorem kE146_0 : ex_CE 1 [] cd_146 k146_0 q146_0 := e_psh_iconst 0 0 0 (e_istore_istore_n 1 0 3 3 rfl (kE146_2))
def kt_146 : Nat → Option ex_C := fun pc => @Bool.rec (fun _ => Nat → Option ex_C) (fun pc => @Bool.rec (fun _ => Nat → Option ex_C) (fun pc => @Bool.rec (fun _ => Nat → Option ex_C) (fun pc => @Bool.rec (fun _ => Option ex_C) none (some k146_104) (Nat.beq pc 104)) (fun pc => @Bool.rec (fun _ => Option ex_C) none (some k146_98) (Nat.beq pc 98)) (Nat.ble pc 98) pc) (fun pc => @Bool.rec (fun _ => Nat → Option ex_C) (fun pc => @Bool.rec (fun _ => Option ex_C) none (some k146_86) (Nat.beq pc 86)) (fun pc => @Bool.rec (fun _ => Option ex_C) none (some k146_47) (Nat.beq pc 47)) (Nat.ble pc 47) pc) (Nat.ble pc 86) pc) (fun pc => @Bool.rec (fun _ => Nat → Option ex_C) (fun pc => @Bool.rec (fun _ => Nat → Option ex_C) (fun pc => @Bool.rec (fun _ => Option ex_C) none (some k146_28) (Nat.beq pc 28)) (fun pc => @Bool.rec (fun _ => Option ex_C) none (some k146_16) (Nat.beq pc 16)) (Nat.ble pc 16) pc) (fun pc => @Bool.rec (fun _ => Nat → Option ex_C) (fun pc => @Bool.rec (fun _ => Option ex_C) none (some k146_2) (Nat.beq pc 2)) (fun pc => @Bool.rec (fun _ => Option ex_C) none (some k146_0) (Nat.beq pc 0)) (Nat.ble pc 0) pc) (Nat.ble pc 2) pc) (Nat.ble pc 28) pc
theorem ktE_146 : ex_CTT 1 [] cd_146 kt_146 cd_146 := (ex_ct2 (ex_ct2 (ex_ct2 (ex_ct1 kE146_0) (ex_ct1 kE146_2)) (ex_ct2 (ex_ct1 kE146_16) (ex_ct1 kE146_28))) (ex_ct2 (ex_ct2 (ex_ct1 kE146_47) (ex_ct1 kE146_86)) (ex_ct2 (ex_ct1 kE146_98) (ex_ct1 kE146_104))))
set_option maxHeartbeats 100000 in
def k147_287 : ex_C := c_ireturn  1
set_option maxHeartbeats 100000 in
theorem kE147_287 : ex_CE 1 [] cd_147 k147_287 q147_287 := e_ireturn 287 0 
set_option maxHeartbeats 100000 in
def k147_286 : ex_C := c_psh 0 (k147_287)
set_option maxHeartbeats 100000 in
theorem kE147_286 : ex_CE 1 [] cd_147 k147_286 q147_286 := e_psh_iconst 286 0 0 (kE147_287)
set_option maxHeartbeats 100000 in
def k147_274 : ex_C := c_iload 2 (c_if_eq 286 (c_iload 3 (c_if_eq 286 (c_psh 1 (c_goto 287)))))
set_option maxHeartbeats 100000 in
theorem kE147_274 : ex_CE 1 [] cd_147 k147_274 q147_274 := e_iload_iload_n 274 0 2 2 rfl (e_if_eq 275 286 11 (e_iload_iload_n 278 0 3 3 rfl (e_if_eq 279 286 7 (e_psh_iconst 282 1 1 (e_goto 283 287 4)))))
set_option maxHeartbeats 100000 in
def k147_268 : ex_C := c_iinc 4 1 (c_goto 217)
set_option maxHeartbeats 100000 in
theorem kE147_268 : ex_CE 1 [] cd_147 k147_268 q147_268 := e_iinc 268 1 4 1 (e_goto 271 217 (-54))
set_option maxHeartbeats 100000 in
def k147_266 : ex_C := c_psh 0 (c_ireturn  1)
set_option maxHeartbeats 100000 in
theorem kE147_266 : ex_CE 1 [] cd_147 k147_266 q147_266 := e_psh_iconst 266 0 0 (e_ireturn 267 0 )
set_option maxHeartbeats 100000 in
def k147_263 : ex_C := c_if_ne 268 (k147_266)
set_option maxHeartbeats 100000 in
theorem kE147_263 : ex_CE 1 [] cd_147 k147_263 q147_263 := e_if_ne 263 268 5 (kE147_266)
set_option maxHeartbeats 100000 in
def k147_217 : ex_C := c_iload 4 (c_psh 8 (c_icmp_ge 274 (c_aload 0 (c_gf 0 14 (c_iload 4 (c_iaload (c_aload 0 (c_gf 0 5 (c_gf 2 0 (c_gf 3 8 (c_iload 4 (c_iaload (c_icmp_ne 266 (c_aload 0 (c_gf 0 2 (c_iload 4 (c_aload 0 (c_gf 0 5 (c_gf 2 0 (c_invV [] cd_147 260 3 44 1 (k147_263)))))))))))))))))))))
set_option maxHeartbeats 100000 in
theorem kE147_217 : ex_CE 1 [] cd_147 k147_217 q147_217 := e_iload_iload 217 0 4 (e_psh_bipush 219 8 8 (e_icmp_ge 221 274 53 (e_aload_aload_n 224 0 0 0 rfl (e_gf 225 86030 90 0 14 rfl rfl (e_iload_iload 228 0 4 (e_iaload 230 0 (e_aload_aload_n 231 0 0 0 rfl (e_gf 232 86021 34 0 5 rfl rfl (e_gf 235 86144 303 2 0 rfl rfl (e_gf 238 86216 452 3 8 rfl rfl (e_iload_iload 241 0 4 (e_iaload 243 0 (e_icmp_ne 244 266 22 (e_aload_aload_n 247 0 0 0 rfl (e_gf 248 86018 19 0 2 rfl rfl (e_iload_iload 251 0 4 (e_aload_aload_n 253 0 0 0 rfl (e_gf 254 86021 34 0 5 rfl rfl (e_gf 257 86144 303 2 0 rfl rfl (e_invV_invokevirtual 260 491555 455 3 44 1 rfl rfl rfl rfl rfl rfl (kE147_263)))))))))))))))))))))
set_option maxHeartbeats 100000 in
def k147_213 : ex_C := c_istore 3 (c_psh 0 (c_istore 4 (k147_217)))
set_option maxHeartbeats 100000 in
theorem kE147_213 : ex_CE 1 [] cd_147 k147_213 q147_213 := e_istore_istore_n 213 0 3 3 rfl (e_psh_iconst 214 0 0 (e_istore_istore 215 0 4 (kE147_217)))
set_option maxHeartbeats 100000 in
def k147_212 : ex_C := c_psh 0 (k147_213)
set_option maxHeartbeats 100000 in
theorem kE147_212 : ex_CE 1 [] cd_147 k147_212 q147_212 := e_psh_iconst 212 0 0 (kE147_213)
set_option maxHeartbeats 100000 in
def k147_203 : ex_C := c_psh 45 (c_icmp_ne 212 (c_psh 1 (c_goto 213)))
set_option maxHeartbeats 100000 in
theorem kE147_203 : ex_CE 1 [] cd_147 k147_203 q147_203 := e_psh_bipush 203 45 45 (e_icmp_ne 205 212 7 (e_psh_iconst 208 1 1 (e_goto 209 213 4)))
set_option maxHeartbeats 100000 in
def k147_184 : ex_C := c_aload 0 (c_gf 0 5 (c_aload 0 (c_gf 0 7 (c_aload 0 (c_gf 0 7 (c_gf 6 5 (c_psh 1 (c_invV [] cd_147 200 4 59 2 (k147_203)))))))))
set_option maxHeartbeats 100000 in
theorem kE147_184 : ex_CE 1 [] cd_147 k147_184 q147_184 := e_aload_aload_n 184 0 0 0 rfl (e_gf 185 86021 34 0 5 rfl rfl (e_aload_aload_n 188 0 0 0 rfl (e_gf 189 86023 48 0 7 rfl rfl (e_aload_aload_n 192 0 0 0 rfl (e_gf 193 86023 48 0 7 rfl rfl (e_gf 196 389 225 6 5 rfl rfl (e_psh_iconst 199 1 1 (e_invV_invokevirtual 200 614468 283 4 59 2 rfl rfl rfl rfl rfl rfl (kE147_203)))))))))
set_option maxHeartbeats 100000 in
def k147_169 : ex_C := c_aload 0 (c_gf 0 5 (c_aload 0 (c_gf 0 0 (c_aload 0 (c_gf 0 3 (c_invV [] cd_147 181 3 58 2 (k147_184)))))))
set_option maxHeartbeats 100000 in
theorem kE147_169 : ex_CE 1 [] cd_147 k147_169 q147_169 := e_aload_aload_n 169 0 0 0 rfl (e_gf 170 86021 34 0 5 rfl rfl (e_aload_aload_n 173 0 0 0 rfl (e_gf 174 86016 10 0 0 rfl rfl (e_aload_aload_n 177 0 0 0 rfl (e_gf 178 86019 22 0 3 rfl rfl (e_invV_invokevirtual 181 606275 242 3 58 2 rfl rfl rfl rfl rfl rfl (kE147_184)))))))
set_option maxHeartbeats 100000 in
def k147_136 : ex_C := c_iload 3 (c_psh 8 (c_icmp_ge 169 (c_aload 0 (c_gf 0 14 (c_iload 3 (c_dup2   (c_iaload (c_aload 0 (c_gf 0 5 (c_gf 2 0 (c_gf 3 8 (c_iload 3 (c_iaload (c_isub (c_iastore (c_iinc 3 1 (c_goto 136)))))))))))))))))
set_option maxHeartbeats 100000 in
theorem kE147_136 : ex_CE 1 [] cd_147 k147_136 q147_136 := e_iload_iload_n 136 0 3 3 rfl (e_psh_bipush 137 8 8 (e_icmp_ge 139 169 30 (e_aload_aload_n 142 0 0 0 rfl (e_gf 143 86030 90 0 14 rfl rfl (e_iload_iload_n 146 0 3 3 rfl (e_dup2 147 0  (e_iaload 148 0 (e_aload_aload_n 149 0 0 0 rfl (e_gf 150 86021 34 0 5 rfl rfl (e_gf 153 86144 303 2 0 rfl rfl (e_gf 156 86216 452 3 8 rfl rfl (e_iload_iload_n 159 0 3 3 rfl (e_iaload 160 0 (e_isub 161 0 (e_iastore 162 0 (e_iinc 163 1 3 1 (e_goto 166 136 (-30))))))))))))))))))
set_option maxHeartbeats 100000 in
def k147_133 : ex_C := c_istore 2 (c_psh 0 (c_istore 3 (k147_136)))
set_option maxHeartbeats 100000 in
theorem kE147_133 : ex_CE 1 [] cd_147 k147_133 q147_133 := e_istore_istore_n 133 0 2 2 rfl (e_psh_iconst 134 0 0 (e_istore_istore_n 135 0 3 3 rfl (kE147_136)))
set_option maxHeartbeats 100000 in
def k147_132 : ex_C := c_psh 0 (k147_133)
set_option maxHeartbeats 100000 in
theorem kE147_132 : ex_CE 1 [] cd_147 k147_132 q147_132 := e_psh_iconst 132 0 0 (kE147_133)
set_option maxHeartbeats 100000 in
def k147_123 : ex_C := c_psh 45 (c_icmp_ne 132 (c_psh 1 (c_goto 133)))
set_option maxHeartbeats 100000 in
theorem kE147_123 : ex_CE 1 [] cd_147 k147_123 q147_123 := e_psh_bipush 123 45 45 (e_icmp_ne 125 132 7 (e_psh_iconst 128 1 1 (e_goto 129 133 4)))
set_option maxHeartbeats 100000 in
def k147_110 : ex_C := c_aload 0 (c_gf 0 5 (c_aload 0 (c_gf 0 7 (c_psh 1 (c_psh 0 (c_invV [] cd_147 120 4 59 2 (k147_123)))))))
set_option maxHeartbeats 100000 in
theorem kE147_110 : ex_CE 1 [] cd_147 k147_110 q147_110 := e_aload_aload_n 110 0 0 0 rfl (e_gf 111 86021 34 0 5 rfl rfl (e_aload_aload_n 114 0 0 0 rfl (e_gf 115 86023 48 0 7 rfl rfl (e_psh_iconst 118 1 1 (e_psh_iconst 119 0 0 (e_invV_invokevirtual 120 614468 283 4 59 2 rfl rfl rfl rfl rfl rfl (kE147_123)))))))
set_option maxHeartbeats 100000 in
def k147_95 : ex_C := c_aload 0 (c_gf 0 5 (c_aload 0 (c_gf 0 0 (c_aload 0 (c_gf 0 3 (c_invV [] cd_147 107 3 58 2 (k147_110)))))))
set_option maxHeartbeats 100000 in
theorem kE147_95 : ex_CE 1 [] cd_147 k147_95 q147_95 := e_aload_aload_n 95 0 0 0 rfl (e_gf 96 86021 34 0 5 rfl rfl (e_aload_aload_n 99 0 0 0 rfl (e_gf 100 86016 10 0 0 rfl rfl (e_aload_aload_n 103 0 0 0 rfl (e_gf 104 86019 22 0 3 rfl rfl (e_invV_invokevirtual 107 606275 242 3 58 2 rfl rfl rfl rfl rfl rfl (kE147_110)))))))
set_option maxHeartbeats 100000 in
def k147_65 : ex_C := c_iload 2 (c_psh 8 (c_icmp_ge 95 (c_aload 0 (c_gf 0 14 (c_iload 2 (c_aload 0 (c_gf 0 5 (c_gf 2 0 (c_gf 3 8 (c_iload 2 (c_iaload (c_iastore (c_iinc 2 1 (c_goto 65))))))))))))))
set_option maxHeartbeats 100000 in
theorem kE147_65 : ex_CE 1 [] cd_147 k147_65 q147_65 := e_iload_iload_n 65 0 2 2 rfl (e_psh_bipush 66 8 8 (e_icmp_ge 68 95 27 (e_aload_aload_n 71 0 0 0 rfl (e_gf 72 86030 90 0 14 rfl rfl (e_iload_iload_n 75 0 2 2 rfl (e_aload_aload_n 76 0 0 0 rfl (e_gf 77 86021 34 0 5 rfl rfl (e_gf 80 86144 303 2 0 rfl rfl (e_gf 83 86216 452 3 8 rfl rfl (e_iload_iload_n 86 0 2 2 rfl (e_iaload 87 0 (e_iastore 88 0 (e_iinc 89 1 2 1 (e_goto 92 65 (-27)))))))))))))))
set_option maxHeartbeats 100000 in
def k147_63 : ex_C := c_psh 0 (c_istore 2 (k147_65))
set_option maxHeartbeats 100000 in
theorem kE147_63 : ex_CE 1 [] cd_147 k147_63 q147_63 := e_psh_iconst 63 0 0 (e_istore_istore_n 64 0 2 2 rfl (kE147_65))
set_option maxHeartbeats 100000 in
def k147_49 : ex_C := c_aload 0 (c_gf 0 2 (c_aload 0 (c_gf 0 5 (c_gf 2 0 (c_invV [] cd_147 60 2 43 1 (k147_63))))))
set_option maxHeartbeats 100000 in
theorem kE147_49 : ex_CE 1 [] cd_147 k147_49 q147_49 := e_aload_aload_n 49 0 0 0 rfl (e_gf 50 86018 19 0 2 rfl rfl (e_aload_aload_n 53 0 0 0 rfl (e_gf 54 86021 34 0 5 rfl rfl (e_gf 57 86144 303 2 0 rfl rfl (e_invV_invokevirtual 60 483362 357 2 43 1 rfl rfl rfl rfl rfl rfl (kE147_63))))))
set_option maxHeartbeats 100000 in
def k147_42 : ex_C := c_psh 45 (c_icmp_eq 49 (c_psh 1 (c_ireturn  1)))
set_option maxHeartbeats 100000 in
theorem kE147_42 : ex_CE 1 [] cd_147 k147_42 q147_42 := e_psh_bipush 42 45 45 (e_icmp_eq 44 49 5 (e_psh_iconst 47 1 1 (e_ireturn 48 0 )))
set_option maxHeartbeats 100000 in
def k147_23 : ex_C := c_aload 0 (c_gf 0 5 (c_aload 0 (c_gf 0 7 (c_aload 0 (c_gf 0 7 (c_gf 6 5 (c_psh 0 (c_invV [] cd_147 39 4 59 2 (k147_42)))))))))
set_option maxHeartbeats 100000 in
theorem kE147_23 : ex_CE 1 [] cd_147 k147_23 q147_23 := e_aload_aload_n 23 0 0 0 rfl (e_gf 24 86021 34 0 5 rfl rfl (e_aload_aload_n 27 0 0 0 rfl (e_gf 28 86023 48 0 7 rfl rfl (e_aload_aload_n 31 0 0 0 rfl (e_gf 32 86023 48 0 7 rfl rfl (e_gf 35 389 225 6 5 rfl rfl (e_psh_iconst 38 0 0 (e_invV_invokevirtual 39 614468 283 4 59 2 rfl rfl rfl rfl rfl rfl (kE147_42)))))))))
set_option maxHeartbeats 100000 in
def k147_8 : ex_C := c_aload 0 (c_gf 0 5 (c_aload 0 (c_gf 0 0 (c_aload 0 (c_gf 0 3 (c_invV [] cd_147 20 3 58 2 (k147_23)))))))
set_option maxHeartbeats 100000 in
theorem kE147_8 : ex_CE 1 [] cd_147 k147_8 q147_8 := e_aload_aload_n 8 0 0 0 rfl (e_gf 9 86021 34 0 5 rfl rfl (e_aload_aload_n 12 0 0 0 rfl (e_gf 13 86016 10 0 0 rfl rfl (e_aload_aload_n 16 0 0 0 rfl (e_gf 17 86019 22 0 3 rfl rfl (e_invV_invokevirtual 20 606275 242 3 58 2 rfl rfl rfl rfl rfl rfl (kE147_23)))))))
set_option maxHeartbeats 100000 in
def k147_0 : ex_C := c_aload 0 (c_gf 0 7 (c_iload 1 (c_invV [] cd_147 5 2 48 6 (k147_8))))
set_option maxHeartbeats 100000 in
theorem kE147_0 : ex_CE 1 [] cd_147 k147_0 q147_0 := e_aload_aload_n 0 0 0 0 rfl (e_gf 1 86023 48 0 7 rfl rfl (e_iload_iload_n 4 0 1 1 rfl (e_invV_invokevirtual 5 524482 280 2 48 6 rfl rfl rfl rfl rfl rfl (kE147_8))))
def kt_147 : Nat → Option ex_C := fun pc => @Bool.rec (fun _ => Nat → Option ex_C) (fun pc => @Bool.rec (fun _ => Nat → Option ex_C) (fun pc => @Bool.rec (fun _ => Nat → Option ex_C) (fun pc => @Bool.rec (fun _ => Nat → Option ex_C) (fun pc => @Bool.rec (fun _ => Nat → Option ex_C) (fun pc => @Bool.rec (fun _ => Option ex_C) none (some k147_287) (Nat.beq pc 287)) (fun pc => @Bool.rec (fun _ => Option ex_C) none (some k147_286) (Nat.beq pc 286)) (Nat.ble pc 286) pc) (fun pc => @Bool.rec (fun _ => Nat → Option ex_C) (fun pc => @Bool.rec (fun _ => Option ex_C) none (some k147_274) (Nat.beq pc 274)) (fun pc => @Bool.rec (fun _ => Option ex_C) none (some k147_268) (Nat.beq pc 268)) (Nat.ble pc 268) pc) (Nat.ble pc 274) pc) (fun pc => @Bool.rec (fun _ => Nat → Option ex_C) (fun pc => @Bool.rec (fun _ => Nat → Option ex_C) (fun pc => @Bool.rec (fun _ => Option ex_C) none (some k147_266) (Nat.beq pc 266)) (fun pc => @Bool.rec (fun _ => Option ex_C) none (some k147_263) (Nat.beq pc 263)) (Nat.ble pc 263) pc) (fun pc => @Bool.rec (fun _ => Option ex_C) none (some k147_217) (Nat.beq pc 217)) (Nat.ble pc 217) pc) (Nat.ble pc 266) pc) (fun pc => @Bool.rec (fun _ => Nat → Option ex_C) (fun pc => @Bool.rec (fun _ => Nat → Option ex_C) (fun pc => @Bool.rec (fun _ => Nat → Option ex_C) (fun pc => @Bool.rec (fun _ => Option ex_C) none (some k147_213) (Nat.beq pc 213)) (fun pc => @Bool.rec (fun _ => Option ex_C) none (some k147_212) (Nat.beq pc 212)) (Nat.ble pc 212) pc) (fun pc => @Bool.rec (fun _ => Option ex_C) none (some k147_203) (Nat.beq pc 203)) (Nat.ble pc 203) pc) (fun pc => @Bool.rec (fun _ => Nat → Option ex_C) (fun pc => @Bool.rec (fun _ => Nat → Option ex_C) (fun pc => @Bool.rec (fun _ => Option ex_C) none (some k147_184) (Nat.beq pc 184)) (fun pc => @Bool.rec (fun _ => Option ex_C) none (some k147_169) (Nat.beq pc 169)) (Nat.ble pc 169) pc) (fun pc => @Bool.rec (fun _ => Option ex_C) none (some k147_136) (Nat.beq pc 136)) (Nat.ble pc 136) pc) (Nat.ble pc 184) pc) (Nat.ble pc 213) pc) (fun pc => @Bool.rec (fun _ => Nat → Option ex_C) (fun pc => @Bool.rec (fun _ => Nat → Option ex_C) (fun pc => @Bool.rec (fun _ => Nat → Option ex_C) (fun pc => @Bool.rec (fun _ => Nat → Option ex_C) (fun pc => @Bool.rec (fun _ => Option ex_C) none (some k147_133) (Nat.beq pc 133)) (fun pc => @Bool.rec (fun _ => Option ex_C) none (some k147_132) (Nat.beq pc 132)) (Nat.ble pc 132) pc) (fun pc => @Bool.rec (fun _ => Option ex_C) none (some k147_123) (Nat.beq pc 123)) (Nat.ble pc 123) pc) (fun pc => @Bool.rec (fun _ => Nat → Option ex_C) (fun pc => @Bool.rec (fun _ => Nat → Option ex_C) (fun pc => @Bool.rec (fun _ => Option ex_C) none (some k147_110) (Nat.beq pc 110)) (fun pc => @Bool.rec (fun _ => Option ex_C) none (some k147_95) (Nat.beq pc 95)) (Nat.ble pc 95) pc) (fun pc => @Bool.rec (fun _ => Option ex_C) none (some k147_65) (Nat.beq pc 65)) (Nat.ble pc 65) pc) (Nat.ble pc 110) pc) (fun pc => @Bool.rec (fun _ => Nat → Option ex_C) (fun pc => @Bool.rec (fun _ => Nat → Option ex_C) (fun pc => @Bool.rec (fun _ => Nat → Option ex_C) (fun pc => @Bool.rec (fun _ => Option ex_C) none (some k147_63) (Nat.beq pc 63)) (fun pc => @Bool.rec (fun _ => Option ex_C) none (some k147_49) (Nat.beq pc 49)) (Nat.ble pc 49) pc) (fun pc => @Bool.rec (fun _ => Option ex_C) none (some k147_42) (Nat.beq pc 42)) (Nat.ble pc 42) pc) (fun pc => @Bool.rec (fun _ => Nat → Option ex_C) (fun pc => @Bool.rec (fun _ => Nat → Option ex_C) (fun pc => @Bool.rec (fun _ => Option ex_C) none (some k147_23) (Nat.beq pc 23)) (fun pc => @Bool.rec (fun _ => Option ex_C) none (some k147_8) (Nat.beq pc 8)) (Nat.ble pc 8) pc) (fun pc => @Bool.rec (fun _ => Option ex_C) none (some k147_0) (Nat.beq pc 0)) (Nat.ble pc 0) pc) (Nat.ble pc 23) pc) (Nat.ble pc 63) pc) (Nat.ble pc 133) pc
theorem ktE_147 : ex_CTT 1 [] cd_147 kt_147 cd_147 := (ex_ct2 (ex_ct2 (ex_ct2 (ex_ct2 (ex_ct1 kE147_0) (ex_ct2 (ex_ct1 kE147_8) (ex_ct1 kE147_23))) (ex_ct2 (ex_ct1 kE147_42) (ex_ct2 (ex_ct1 kE147_49) (ex_ct1 kE147_63)))) (ex_ct2 (ex_ct2 (ex_ct1 kE147_65) (ex_ct2 (ex_ct1 kE147_95) (ex_ct1 kE147_110))) (ex_ct2 (ex_ct1 kE147_123) (ex_ct2 (ex_ct1 kE147_132) (ex_ct1 kE147_133))))) (ex_ct2 (ex_ct2 (ex_ct2 (ex_ct1 kE147_136) (ex_ct2 (ex_ct1 kE147_169) (ex_ct1 kE147_184))) (ex_ct2 (ex_ct1 kE147_203) (ex_ct2 (ex_ct1 kE147_212) (ex_ct1 kE147_213)))) (ex_ct2 (ex_ct2 (ex_ct1 kE147_217) (ex_ct2 (ex_ct1 kE147_263) (ex_ct1 kE147_266))) (ex_ct2 (ex_ct2 (ex_ct1 kE147_268) (ex_ct1 kE147_274)) (ex_ct2 (ex_ct1 kE147_286) (ex_ct1 kE147_287))))))
set_option maxHeartbeats 100000 in
def k148_54 : ex_C := c_return_  15
set_option maxHeartbeats 100000 in
theorem kE148_54 : ex_CE 15 [] cd_148 k148_54 q148_54 := e_return_ 54 0 
set_option maxHeartbeats 100000 in
def k148_50 : ex_C := c_aload 0 (c_invV [] cd_148 51 1 149 0 (k148_54))
set_option maxHeartbeats 100000 in
theorem kE148_50 : ex_CE 15 [] cd_148 k148_50 q148_50 := e_aload_aload_n 50 0 0 0 rfl (e_invV_invokevirtual 51 1351681 153 1 149 0 rfl rfl rfl rfl rfl rfl (kE148_54))
set_option maxHeartbeats 100000 in
def k148_43 : ex_C := c_aload 0 (c_gf 0 10 (c_invV [] cd_148 47 1 26 8 (k148_50)))
set_option maxHeartbeats 100000 in
theorem kE148_43 : ex_CE 15 [] cd_148 k148_43 q148_43 := e_aload_aload_n 43 0 0 0 rfl (e_gf 44 86026 65 0 10 rfl rfl (e_invV_invokevirtual 47 344321 459 1 26 8 rfl rfl rfl rfl rfl rfl (kE148_50)))
set_option maxHeartbeats 100000 in
def k148_37 : ex_C := c_iinc 1 1 (c_goto 2)
set_option maxHeartbeats 100000 in
theorem kE148_37 : ex_CE 15 [] cd_148 k148_37 q148_37 := e_iinc 37 1 1 1 (e_goto 40 2 (-38))
set_option maxHeartbeats 100000 in
def k148_13 : ex_C := c_istore 2 (c_aload 0 (c_gf 0 0 (c_iload 1 (c_psh 17179869191 (c_iload 2 (c_iaload (c_psh 17179869192 (c_iload 2 (c_iaload (c_psh 17179869190 (c_iload 2 (c_iaload (c_invV [] cd_148 34 5 41 1 (k148_37))))))))))))))
set_option maxHeartbeats 100000 in
theorem kE148_13 : ex_CE 15 [] cd_148 k148_13 q148_13 := e_istore_istore_n 13 0 2 2 rfl (e_aload_aload_n 14 0 0 0 rfl (e_gf 15 86016 10 0 0 rfl rfl (e_iload_iload_n 18 0 1 1 rfl (e_psh_getstatic 19 17179869191 109 (e_iload_iload_n 22 0 2 2 rfl (e_iaload 23 0 (e_psh_getstatic 24 17179869192 112 (e_iload_iload_n 27 0 2 2 rfl (e_iaload 28 0 (e_psh_getstatic 29 17179869190 115 (e_iload_iload_n 32 0 2 2 rfl (e_iaload 33 0 (e_invV_invokevirtual 34 466981 118 5 41 1 rfl rfl rfl rfl rfl rfl (kE148_37))))))))))))))
set_option maxHeartbeats 100000 in
def k148_2 : ex_C := c_iload 1 (c_psh 8 (c_icmp_ge 43 (c_aload 0 (c_iload 1 (c_invV [] cd_148 10 2 150 0 (k148_13))))))
set_option maxHeartbeats 100000 in
theorem kE148_2 : ex_CE 15 [] cd_148 k148_2 q148_2 := e_iload_iload_n 2 0 1 1 rfl (e_psh_bipush 3 8 8 (e_icmp_ge 5 43 38 (e_aload_aload_n 8 0 0 0 rfl (e_iload_iload_n 9 0 1 1 rfl (e_invV_invokevirtual 10 1359874 406 2 150 0 rfl rfl rfl rfl rfl rfl (kE148_13))))))
set_option maxHeartbeats 100000 in
def k148_0 : ex_C := c_psh 0 (c_istore 1 (k148_2))
set_option maxHeartbeats 100000 in
theorem kE148_0 : ex_CE 15 [] cd_148 k148_0 q148_0 := e_psh_iconst 0 0 0 (e_istore_istore_n 1 0 1 1 rfl (kE148_2))
def kt_148 : Nat → Option ex_C := fun pc => @Bool.rec (fun _ => Nat → Option ex_C) (fun pc => @Bool.rec (fun _ => Nat → Option ex_C) (fun pc => @Bool.rec (fun _ => Nat → Option ex_C) (fun pc => @Bool.rec (fun _ => Option ex_C) none (some k148_54) (Nat.beq pc 54)) (fun pc => @Bool.rec (fun _ => Option ex_C) none (some k148_50) (Nat.beq pc 50)) (Nat.ble pc 50) pc) (fun pc => @Bool.rec (fun _ => Nat → Option ex_C) (fun pc => @Bool.rec (fun _ => Option ex_C) none (some k148_43) (Nat.beq pc 43)) (fun pc => @Bool.rec (fun _ => Option ex_C) none (some k148_37) (Nat.beq pc 37)) (Nat.ble pc 37) pc) (Nat.ble pc 43) pc) (fun pc => @Bool.rec (fun _ => Nat → Option ex_C) (fun pc => @Bool.rec (fun _ => Nat → Option ex_C) (fun pc => @Bool.rec (fun _ => Option ex_C) none (some k148_13) (Nat.beq pc 13)) (fun pc => @Bool.rec (fun _ => Option ex_C) none (some k148_2) (Nat.beq pc 2)) (Nat.ble pc 2) pc) (fun pc => @Bool.rec (fun _ => Option ex_C) none (some k148_0) (Nat.beq pc 0)) (Nat.ble pc 0) pc) (Nat.ble pc 13) pc
theorem ktE_148 : ex_CTT 15 [] cd_148 kt_148 cd_148 := (ex_ct2 (ex_ct2 (ex_ct1 kE148_0) (ex_ct2 (ex_ct1 kE148_2) (ex_ct1 kE148_13))) (ex_ct2 (ex_ct2 (ex_ct1 kE148_37) (ex_ct1 kE148_43)) (ex_ct2 (ex_ct1 kE148_50) (ex_ct1 kE148_54))))
set_option maxHeartbeats 100000 in
def k149_15 : ex_C := c_return_  15
set_option maxHeartbeats 100000 in
theorem kE149_15 : ex_CE 15 [] cd_149 k149_15 q149_15 := e_return_ 15 0 
set_option maxHeartbeats 100000 in
def k149_0 : ex_C := c_aload 0 (c_gf 0 9 (c_psh 0 (c_pf 7 0 3 (c_aload 0 (c_gf 0 8 (c_invV [] cd_149 12 1 46 6 (k149_15)))))))
set_option maxHeartbeats 100000 in
theorem kE149_0 : ex_CE 15 [] cd_149 k149_0 q149_0 := e_aload_aload_n 0 0 0 0 rfl (e_gf 1 86025 58 0 9 rfl rfl (e_psh_iconst 4 0 0 (e_pf 5 451 287 7 0 3 rfl rfl rfl (e_aload_aload_n 8 0 0 0 rfl (e_gf 9 86024 52 0 8 rfl rfl (e_invV_invokevirtual 12 508097 175 1 46 6 rfl rfl rfl rfl rfl rfl (kE149_15)))))))
def kt_149 : Nat → Option ex_C := fun pc => @Bool.rec (fun _ => Nat → Option ex_C) (fun pc => @Bool.rec (fun _ => Option ex_C) none (some k149_15) (Nat.beq pc 15)) (fun pc => @Bool.rec (fun _ => Option ex_C) none (some k149_0) (Nat.beq pc 0)) (Nat.ble pc 0) pc
theorem ktE_149 : ex_CTT 15 [] cd_149 kt_149 cd_149 := (ex_ct2 (ex_ct1 kE149_0) (ex_ct1 kE149_15))
set_option maxHeartbeats 100000 in
def k150_21 : ex_C := c_istore 2 (c_iload 2 (c_psh 7 (c_iand (c_ireturn  0))))
set_option maxHeartbeats 100000 in
theorem kE150_21 : ex_CE 0 [] cd_150 k150_21 q150_21 := e_istore_istore_n 21 0 2 2 rfl (e_iload_iload_n 22 0 2 2 rfl (e_psh_bipush 23 7 7 (e_iand 25 0 (e_ireturn 26 0 ))))
set_option maxHeartbeats 100000 in
def k150_10 : ex_C := c_iload 1 (c_psh 2 (c_aload 0 (c_gf 0 11 (c_gf 9 2 (c_imul (c_iadd (k150_21)))))))
set_option maxHeartbeats 100000 in
theorem kE150_10 : ex_CE 0 [] cd_150 k150_10 q150_10 := e_iload_iload_n 10 0 1 1 rfl (e_psh_iconst 11 2 2 (e_aload_aload_n 12 0 0 0 rfl (e_gf 13 86027 72 0 11 rfl rfl (e_gf 16 578 368 9 2 rfl rfl (e_imul 19 0 (e_iadd 20 0 (kE150_21)))))))
set_option maxHeartbeats 100000 in
def k150_0 : ex_C := c_iload 1 (c_psh 2 (c_irem   (c_if_ne 10 (c_iload 1 (c_goto 21)))))
set_option maxHeartbeats 100000 in
theorem kE150_0 : ex_CE 0 [] cd_150 k150_0 q150_0 := e_iload_iload_n 0 0 1 1 rfl (e_psh_iconst 1 2 2 (e_irem 2 0  (e_if_ne 3 10 7 (e_iload_iload_n 6 0 1 1 rfl (e_goto 7 21 14)))))
def kt_150 : Nat → Option ex_C := fun pc => @Bool.rec (fun _ => Nat → Option ex_C) (fun pc => @Bool.rec (fun _ => Nat → Option ex_C) (fun pc => @Bool.rec (fun _ => Option ex_C) none (some k150_21) (Nat.beq pc 21)) (fun pc => @Bool.rec (fun _ => Option ex_C) none (some k150_10) (Nat.beq pc 10)) (Nat.ble pc 10) pc) (fun pc => @Bool.rec (fun _ => Option ex_C) none (some k150_0) (Nat.beq pc 0)) (Nat.ble pc 0) pc
theorem ktE_150 : ex_CTT 0 [] cd_150 kt_150 cd_150 := (ex_ct2 (ex_ct1 kE150_0) (ex_ct2 (ex_ct1 kE150_10) (ex_ct1 kE150_21)))
set_option maxHeartbeats 100000 in
def k151_76 : ex_C := c_iload 1 (c_ireturn  0)
set_option maxHeartbeats 100000 in
theorem kE151_76 : ex_CE 0 [] cd_151 k151_76 q151_76 := e_iload_iload_n 76 0 1 1 rfl (e_ireturn 77 0 )
set_option maxHeartbeats 100000 in
def k151_70 : ex_C := c_iinc 2 1 (c_goto 4)
set_option maxHeartbeats 100000 in
theorem kE151_70 : ex_CE 0 [] cd_151 k151_70 q151_70 := e_iinc 70 1 2 1 (e_goto 73 4 (-69))
set_option maxHeartbeats 100000 in
def k151_67 : ex_C := c_iinc 1 1 (k151_70)
set_option maxHeartbeats 100000 in
theorem kE151_67 : ex_CE 0 [] cd_151 k151_67 q151_67 := e_iinc 67 1 1 1 (kE151_70)
set_option maxHeartbeats 100000 in
def k151_15 : ex_C := c_istore 3 (c_aload 0 (c_gf 0 0 (c_gf 1 0 (c_iload 2 (c_iaload (c_psh 17179869191 (c_iload 3 (c_iaload (c_icmp_ne 67 (c_aload 0 (c_gf 0 0 (c_gf 1 1 (c_iload 2 (c_iaload (c_psh 17179869192 (c_iload 3 (c_iaload (c_icmp_ne 67 (c_aload 0 (c_gf 0 0 (c_gf 1 2 (c_iload 2 (c_iaload (c_psh 17179869190 (c_iload 3 (c_iaload (c_icmp_eq 70 (k151_67))))))))))))))))))))))))))))
set_option maxHeartbeats 100000 in
theorem kE151_15 : ex_CE 0 [] cd_151 k151_15 q151_15 := e_istore_istore_n 15 0 3 3 rfl (e_aload_aload_n 16 0 0 0 rfl (e_gf 17 86016 10 0 0 rfl rfl (e_gf 20 86080 133 1 0 rfl rfl (e_iload_iload_n 23 0 2 2 rfl (e_iaload 24 0 (e_psh_getstatic 25 17179869191 109 (e_iload_iload_n 28 0 3 3 rfl (e_iaload 29 0 (e_icmp_ne 30 67 37 (e_aload_aload_n 33 0 0 0 rfl (e_gf 34 86016 10 0 0 rfl rfl (e_gf 37 86081 136 1 1 rfl rfl (e_iload_iload_n 40 0 2 2 rfl (e_iaload 41 0 (e_psh_getstatic 42 17179869192 112 (e_iload_iload_n 45 0 3 3 rfl (e_iaload 46 0 (e_icmp_ne 47 67 20 (e_aload_aload_n 50 0 0 0 rfl (e_gf 51 86016 10 0 0 rfl rfl (e_gf 54 86082 139 1 2 rfl rfl (e_iload_iload_n 57 0 2 2 rfl (e_iaload 58 0 (e_psh_getstatic 59 17179869190 115 (e_iload_iload_n 62 0 3 3 rfl (e_iaload 63 0 (e_icmp_eq 64 70 6 (kE151_67))))))))))))))))))))))))))))
set_option maxHeartbeats 100000 in
def k151_4 : ex_C := c_iload 2 (c_psh 8 (c_icmp_ge 76 (c_aload 0 (c_iload 2 (c_invV [] cd_151 12 2 150 0 (k151_15))))))
set_option maxHeartbeats 100000 in
theorem kE151_4 : ex_CE 0 [] cd_151 k151_4 q151_4 := e_iload_iload_n 4 0 2 2 rfl (e_psh_bipush 5 8 8 (e_icmp_ge 7 76 69 (e_aload_aload_n 10 0 0 0 rfl (e_iload_iload_n 11 0 2 2 rfl (e_invV_invokevirtual 12 1359874 406 2 150 0 rfl rfl rfl rfl rfl rfl (kE151_15))))))
set_option maxHeartbeats 100000 in
def k151_0 : ex_C := c_psh 0 (c_istore 1 (c_psh 0 (c_istore 2 (k151_4))))
set_option maxHeartbeats 100000 in
theorem kE151_0 : ex_CE 0 [] cd_151 k151_0 q151_0 := e_psh_iconst 0 0 0 (e_istore_istore_n 1 0 1 1 rfl (e_psh_iconst 2 0 0 (e_istore_istore_n 3 0 2 2 rfl (kE151_4))))
def kt_151 : Nat → Option ex_C := fun pc => @Bool.rec (fun _ => Nat → Option ex_C) (fun pc => @Bool.rec (fun _ => Nat → Option ex_C) (fun pc => @Bool.rec (fun _ => Nat → Option ex_C) (fun pc => @Bool.rec (fun _ => Option ex_C) none (some k151_76) (Nat.beq pc 76)) (fun pc => @Bool.rec (fun _ => Option ex_C) none (some k151_70) (Nat.beq pc 70)) (Nat.ble pc 70) pc) (fun pc => @Bool.rec (fun _ => Option ex_C) none (some k151_67) (Nat.beq pc 67)) (Nat.ble pc 67) pc) (fun pc => @Bool.rec (fun _ => Nat → Option ex_C) (fun pc => @Bool.rec (fun _ => Nat → Option ex_C) (fun pc => @Bool.rec (fun _ => Option ex_C) none (some k151_15) (Nat.beq pc 15)) (fun pc => @Bool.rec (fun _ => Option ex_C) none (some k151_4) (Nat.beq pc 4)) (Nat.ble pc 4) pc) (fun pc => @Bool.rec (fun _ => Option ex_C) none (some k151_0) (Nat.beq pc 0)) (Nat.ble pc 0) pc) (Nat.ble pc 15) pc
theorem ktE_151 : ex_CTT 0 [] cd_151 kt_151 cd_151 := (ex_ct2 (ex_ct2 (ex_ct1 kE151_0) (ex_ct2 (ex_ct1 kE151_4) (ex_ct1 kE151_15))) (ex_ct2 (ex_ct1 kE151_67) (ex_ct2 (ex_ct1 kE151_70) (ex_ct1 kE151_76))))
set_option maxHeartbeats 100000 in
def k152_122 : ex_C := c_psh 0 (c_ireturn  1)
set_option maxHeartbeats 100000 in
theorem kE152_122 : ex_CE 1 [] cd_152 k152_122 q152_122 := e_psh_iconst 122 0 0 (e_ireturn 123 0 )
set_option maxHeartbeats 100000 in
def k152_116 : ex_C := c_iinc 4 1 (c_goto 3)
set_option maxHeartbeats 100000 in
theorem kE152_116 : ex_CE 1 [] cd_152 k152_116 q152_116 := e_iinc 116 1 4 1 (e_goto 119 3 (-116))
set_option maxHeartbeats 100000 in
def k152_107 : ex_C := c_iload 5 (c_psh 8 (c_icmp_ne 116 (c_psh 1 (c_ireturn  1))))
set_option maxHeartbeats 100000 in
theorem kE152_107 : ex_CE 1 [] cd_152 k152_107 q152_107 := e_iload_iload 107 0 5 (e_psh_bipush 109 8 8 (e_icmp_ne 111 116 5 (e_psh_iconst 114 1 1 (e_ireturn 115 0 ))))
set_option maxHeartbeats 100000 in
def k152_101 : ex_C := c_iinc 6 1 (c_goto 15)
set_option maxHeartbeats 100000 in
theorem kE152_101 : ex_CE 1 [] cd_152 k152_101 q152_101 := e_iinc 101 1 6 1 (e_goto 104 15 (-89))
set_option maxHeartbeats 100000 in
def k152_49 : ex_C := c_psh 2 (c_iload 4 (c_imul (c_iadd (c_psh 7 (c_iand (c_istore 7 (c_aload 1 (c_iload 6 (c_iaload (c_psh 17179869191 (c_iload 7 (c_iaload (c_icmp_ne 101 (c_aload 2 (c_iload 6 (c_iaload (c_psh 17179869192 (c_iload 7 (c_iaload (c_icmp_ne 101 (c_aload 3 (c_iload 6 (c_iaload (c_psh 17179869190 (c_iload 7 (c_iaload (c_icmp_ne 101 (c_iinc 5 1 (k152_101)))))))))))))))))))))))))))))
set_option maxHeartbeats 100000 in
theorem kE152_49 : ex_CE 1 [] cd_152 k152_49 q152_49 := e_psh_iconst 49 2 2 (e_iload_iload 50 0 4 (e_imul 52 0 (e_iadd 53 0 (e_psh_bipush 54 7 7 (e_iand 56 0 (e_istore_istore 57 0 7 (e_aload_aload_n 59 0 1 1 rfl (e_iload_iload 60 0 6 (e_iaload 62 0 (e_psh_getstatic 63 17179869191 109 (e_iload_iload 66 0 7 (e_iaload 68 0 (e_icmp_ne 69 101 32 (e_aload_aload_n 72 0 2 2 rfl (e_iload_iload 73 0 6 (e_iaload 75 0 (e_psh_getstatic 76 17179869192 112 (e_iload_iload 79 0 7 (e_iaload 81 0 (e_icmp_ne 82 101 19 (e_aload_aload_n 85 0 3 3 rfl (e_iload_iload 86 0 6 (e_iaload 88 0 (e_psh_getstatic 89 17179869190 115 (e_iload_iload 92 0 7 (e_iaload 94 0 (e_icmp_ne 95 101 6 (e_iinc 98 1 5 1 (kE152_101)))))))))))))))))))))))))))))
set_option maxHeartbeats 100000 in
def k152_15 : ex_C := c_iload 6 (c_psh 8 (c_icmp_ge 107 (c_iload 6 (c_aload 1 (c_arraylength   (c_icmp_ge 107 (c_iload 6 (c_aload 2 (c_arraylength   (c_icmp_ge 107 (c_iload 6 (c_aload 3 (c_arraylength   (c_icmp_ge 107 (c_aload 0 (c_iload 6 (c_invV [] cd_152 46 2 150 0 (k152_49))))))))))))))))))
set_option maxHeartbeats 100000 in
theorem kE152_15 : ex_CE 1 [] cd_152 k152_15 q152_15 := e_iload_iload 15 0 6 (e_psh_bipush 17 8 8 (e_icmp_ge 19 107 88 (e_iload_iload 22 0 6 (e_aload_aload_n 24 0 1 1 rfl (e_arraylength 25 0  (e_icmp_ge 26 107 81 (e_iload_iload 29 0 6 (e_aload_aload_n 31 0 2 2 rfl (e_arraylength 32 0  (e_icmp_ge 33 107 74 (e_iload_iload 36 0 6 (e_aload_aload_n 38 0 3 3 rfl (e_arraylength 39 0  (e_icmp_ge 40 107 67 (e_aload_aload_n 43 0 0 0 rfl (e_iload_iload 44 0 6 (e_invV_invokevirtual 46 1359874 406 2 150 0 rfl rfl rfl rfl rfl rfl (kE152_49))))))))))))))))))
set_option maxHeartbeats 100000 in
def k152_3 : ex_C := c_iload 4 (c_psh 4 (c_icmp_ge 122 (c_psh 0 (c_istore 5 (c_psh 0 (c_istore 6 (k152_15)))))))
set_option maxHeartbeats 100000 in
theorem kE152_3 : ex_CE 1 [] cd_152 k152_3 q152_3 := e_iload_iload 3 0 4 (e_psh_iconst 5 4 4 (e_icmp_ge 6 122 116 (e_psh_iconst 9 0 0 (e_istore_istore 10 0 5 (e_psh_iconst 12 0 0 (e_istore_istore 13 0 6 (kE152_15)))))))
set_option maxHeartbeats 100000 in
def k152_0 : ex_C := c_psh 0 (c_istore 4 (k152_3))
set_option maxHeartbeats 100000 in
theorem kE152_0 : ex_CE 1 [] cd_152 k152_0 q152_0 := e_psh_iconst 0 0 0 (e_istore_istore 1 0 4 (kE152_3))
def kt_152 : Nat → Option ex_C := fun pc => @Bool.rec (fun _ => Nat → Option ex_C) (fun pc => @Bool.rec (fun _ => Nat → Option ex_C) (fun pc => @Bool.rec (fun _ => Nat → Option ex_C) (fun pc => @Bool.rec (fun _ => Option ex_C) none (some k152_122) (Nat.beq pc 122)) (fun pc => @Bool.rec (fun _ => Option ex_C) none (some k152_116) (Nat.beq pc 116)) (Nat.ble pc 116) pc) (fun pc => @Bool.rec (fun _ => Nat → Option ex_C) (fun pc => @Bool.rec (fun _ => Option ex_C) none (some k152_107) (Nat.beq pc 107)) (fun pc => @Bool.rec (fun _ => Option ex_C) none (some k152_101) (Nat.beq pc 101)) (Nat.ble pc 101) pc) (Nat.ble pc 107) pc) (fun pc => @Bool.rec (fun _ => Nat → Option ex_C) (fun pc => @Bool.rec (fun _ => Nat → Option ex_C) (fun pc => @Bool.rec (fun _ => Option ex_C) none (some k152_49) (Nat.beq pc 49)) (fun pc => @Bool.rec (fun _ => Option ex_C) none (some k152_15) (Nat.beq pc 15)) (Nat.ble pc 15) pc) (fun pc => @Bool.rec (fun _ => Nat → Option ex_C) (fun pc => @Bool.rec (fun _ => Option ex_C) none (some k152_3) (Nat.beq pc 3)) (fun pc => @Bool.rec (fun _ => Option ex_C) none (some k152_0) (Nat.beq pc 0)) (Nat.ble pc 0) pc) (Nat.ble pc 3) pc) (Nat.ble pc 49) pc
theorem ktE_152 : ex_CTT 1 [] cd_152 kt_152 cd_152 := (ex_ct2 (ex_ct2 (ex_ct2 (ex_ct1 kE152_0) (ex_ct1 kE152_3)) (ex_ct2 (ex_ct1 kE152_15) (ex_ct1 kE152_49))) (ex_ct2 (ex_ct2 (ex_ct1 kE152_101) (ex_ct1 kE152_107)) (ex_ct2 (ex_ct1 kE152_116) (ex_ct1 kE152_122))))
set_option maxHeartbeats 100000 in
def k153_56 : ex_C := c_iload 2 (c_ireturn  0)
set_option maxHeartbeats 100000 in
theorem kE153_56 : ex_CE 0 [] cd_153 k153_56 q153_56 := e_iload_iload_n 56 0 2 2 rfl (e_ireturn 57 0 )
set_option maxHeartbeats 100000 in
def k153_49 : ex_C := c_istore 2 (c_iinc 3 1 (c_goto 5))
set_option maxHeartbeats 100000 in
theorem kE153_49 : ex_CE 0 [] cd_153 k153_49 q153_49 := e_istore_istore_n 49 0 2 2 rfl (e_iinc 50 1 3 1 (e_goto 53 5 (-48)))
set_option maxHeartbeats 100000 in
def k153_43 : ex_C := c_iload 2 (c_iload 4 (c_invS [] cd_153 46 2 163 (k153_49)))
set_option maxHeartbeats 100000 in
theorem kE153_43 : ex_CE 0 [] cd_153 k153_43 q153_43 := e_iload_iload_n 43 0 2 2 rfl (e_iload_iload 44 0 4 (e_invS 46 1474530 464 2 163 rfl rfl rfl (kE153_49)))
set_option maxHeartbeats 100000 in
def k153_37 : ex_C := c_iinc 5 1 (c_goto 16)
set_option maxHeartbeats 100000 in
theorem kE153_37 : ex_CE 0 [] cd_153 k153_37 q153_37 := e_iinc 37 1 5 1 (e_goto 40 16 (-24))
set_option maxHeartbeats 100000 in
def k153_31 : ex_C := c_if_ne 37 (c_iinc 4 1 (k153_37))
set_option maxHeartbeats 100000 in
theorem kE153_31 : ex_CE 0 [] cd_153 k153_31 q153_31 := e_if_ne 31 37 6 (e_iinc 34 1 4 1 (kE153_37))
set_option maxHeartbeats 100000 in
def k153_16 : ex_C := c_iload 5 (c_psh 8 (c_icmp_ge 43 (c_aload 0 (c_iload 1 (c_iload 5 (c_iload 3 (c_invV [] cd_153 28 4 154 0 (k153_31))))))))
set_option maxHeartbeats 100000 in
theorem kE153_16 : ex_CE 0 [] cd_153 k153_16 q153_16 := e_iload_iload 16 0 5 (e_psh_bipush 18 8 8 (e_icmp_ge 20 43 23 (e_aload_aload_n 23 0 0 0 rfl (e_iload_iload_n 24 0 1 1 rfl (e_iload_iload 25 0 5 (e_iload_iload_n 27 0 3 3 rfl (e_invV_invokevirtual 28 1392644 460 4 154 0 rfl rfl rfl rfl rfl rfl (kE153_31))))))))
set_option maxHeartbeats 100000 in
def k153_5 : ex_C := c_iload 3 (c_psh 4 (c_icmp_ge 56 (c_psh 0 (c_istore 4 (c_psh 0 (c_istore 5 (k153_16)))))))
set_option maxHeartbeats 100000 in
theorem kE153_5 : ex_CE 0 [] cd_153 k153_5 q153_5 := e_iload_iload_n 5 0 3 3 rfl (e_psh_iconst 6 4 4 (e_icmp_ge 7 56 49 (e_psh_iconst 10 0 0 (e_istore_istore 11 0 4 (e_psh_iconst 13 0 0 (e_istore_istore 14 0 5 (kE153_16)))))))
set_option maxHeartbeats 100000 in
def k153_0 : ex_C := c_psh 8 (c_istore 2 (c_psh 0 (c_istore 3 (k153_5))))
set_option maxHeartbeats 100000 in
theorem kE153_0 : ex_CE 0 [] cd_153 k153_0 q153_0 := e_psh_bipush 0 8 8 (e_istore_istore_n 2 0 2 2 rfl (e_psh_iconst 3 0 0 (e_istore_istore_n 4 0 3 3 rfl (kE153_5))))
def kt_153 : Nat → Option ex_C := fun pc => @Bool.rec (fun _ => Nat → Option ex_C) (fun pc => @Bool.rec (fun _ => Nat → Option ex_C) (fun pc => @Bool.rec (fun _ => Nat → Option ex_C) (fun pc => @Bool.rec (fun _ => Option ex_C) none (some k153_56) (Nat.beq pc 56)) (fun pc => @Bool.rec (fun _ => Option ex_C) none (some k153_49) (Nat.beq pc 49)) (Nat.ble pc 49) pc) (fun pc => @Bool.rec (fun _ => Nat → Option ex_C) (fun pc => @Bool.rec (fun _ => Option ex_C) none (some k153_43) (Nat.beq pc 43)) (fun pc => @Bool.rec (fun _ => Option ex_C) none (some k153_37) (Nat.beq pc 37)) (Nat.ble pc 37) pc) (Nat.ble pc 43) pc) (fun pc => @Bool.rec (fun _ => Nat → Option ex_C) (fun pc => @Bool.rec (fun _ => Nat → Option ex_C) (fun pc => @Bool.rec (fun _ => Option ex_C) none (some k153_31) (Nat.beq pc 31)) (fun pc => @Bool.rec (fun _ => Option ex_C) none (some k153_16) (Nat.beq pc 16)) (Nat.ble pc 16) pc) (fun pc => @Bool.rec (fun _ => Nat → Option ex_C) (fun pc => @Bool.rec (fun _ => Option ex_C) none (some k153_5) (Nat.beq pc 5)) (fun pc => @Bool.rec (fun _ => Option ex_C) none (some k153_0) (Nat.beq pc 0)) (Nat.ble pc 0) pc) (Nat.ble pc 5) pc) (Nat.ble pc 31) pc
theorem ktE_153 : ex_CTT 0 [] cd_153 kt_153 cd_153 := (ex_ct2 (ex_ct2 (ex_ct2 (ex_ct1 kE153_0) (ex_ct1 kE153_5)) (ex_ct2 (ex_ct1 kE153_16) (ex_ct1 kE153_31))) (ex_ct2 (ex_ct2 (ex_ct1 kE153_37) (ex_ct1 kE153_43)) (ex_ct2 (ex_ct1 kE153_49) (ex_ct1 kE153_56))))
set_option maxHeartbeats 100000 in
def k154_137 : ex_C := c_psh 0 (c_ireturn  1)
set_option maxHeartbeats 100000 in
theorem kE154_137 : ex_CE 1 [] cd_154 k154_137 q154_137 := e_psh_iconst 137 0 0 (e_ireturn 138 0 )
set_option maxHeartbeats 100000 in
def k154_131 : ex_C := c_iinc 8 1 (c_goto 77)
set_option maxHeartbeats 100000 in
theorem kE154_131 : ex_CE 1 [] cd_154 k154_131 q154_131 := e_iinc 131 1 8 1 (e_goto 134 77 (-57))
set_option maxHeartbeats 100000 in
def k154_77 : ex_C := c_iload 8 (c_iload 7 (c_psh 8 (c_iadd (c_icmp_ge 137 (c_iload 8 (c_psh 17179869188 (c_arraylength   (c_icmp_ge 137 (c_psh 17179869188 (c_iload 8 (c_iaload (c_iload 4 (c_icmp_ne 131 (c_psh 17179869189 (c_iload 8 (c_iaload (c_iload 5 (c_icmp_ne 131 (c_psh 17179869187 (c_iload 8 (c_iaload (c_iload 6 (c_icmp_ne 131 (c_psh 1 (c_ireturn  1)))))))))))))))))))))))))
set_option maxHeartbeats 100000 in
theorem kE154_77 : ex_CE 1 [] cd_154 k154_77 q154_77 := e_iload_iload 77 0 8 (e_iload_iload 79 0 7 (e_psh_bipush 81 8 8 (e_iadd 83 0 (e_icmp_ge 84 137 53 (e_iload_iload 87 0 8 (e_psh_getstatic 89 17179869188 470 (e_arraylength 92 0  (e_icmp_ge 93 137 44 (e_psh_getstatic 96 17179869188 470 (e_iload_iload 99 0 8 (e_iaload 101 0 (e_iload_iload 102 0 4 (e_icmp_ne 104 131 27 (e_psh_getstatic 107 17179869189 473 (e_iload_iload 110 0 8 (e_iaload 112 0 (e_iload_iload 113 0 5 (e_icmp_ne 115 131 16 (e_psh_getstatic 118 17179869187 476 (e_iload_iload 121 0 8 (e_iaload 123 0 (e_iload_iload 124 0 6 (e_icmp_ne 126 131 5 (e_psh_iconst 129 1 1 (e_ireturn 130 0 )))))))))))))))))))))))))
set_option maxHeartbeats 100000 in
def k154_75 : ex_C := c_istore 8 (k154_77)
set_option maxHeartbeats 100000 in
theorem kE154_75 : ex_CE 1 [] cd_154 k154_75 q154_75 := e_istore_istore 75 0 8 (kE154_77)
set_option maxHeartbeats 100000 in
def k154_46 : ex_C := c_istore 5 (c_aload 0 (c_gf 0 0 (c_gf 1 2 (c_iload 2 (c_iaload (c_iload 3 (c_isub (c_psh 3 (c_iand (c_istore 6 (c_iload 1 (c_psh 8 (c_imul (c_istore 7 (c_psh 0 (c_iload 7 (c_invS [] cd_154 72 2 162 (k154_75))))))))))))))))))
set_option maxHeartbeats 100000 in
theorem kE154_46 : ex_CE 1 [] cd_154 k154_46 q154_46 := e_istore_istore 46 0 5 (e_aload_aload_n 48 0 0 0 rfl (e_gf 49 86016 10 0 0 rfl rfl (e_gf 52 86082 139 1 2 rfl rfl (e_iload_iload_n 55 0 2 2 rfl (e_iaload 56 0 (e_iload_iload_n 57 0 3 3 rfl (e_isub 58 0 (e_psh_iconst 59 3 3 (e_iand 60 0 (e_istore_istore 61 0 6 (e_iload_iload_n 63 0 1 1 rfl (e_psh_bipush 64 8 8 (e_imul 66 0 (e_istore_istore 67 0 7 (e_psh_iconst 69 0 0 (e_iload_iload 70 0 7 (e_invS 72 1466338 467 2 162 rfl rfl rfl (kE154_75))))))))))))))))))
set_option maxHeartbeats 100000 in
def k154_22 : ex_C := c_istore 4 (c_aload 0 (c_gf 0 0 (c_gf 1 0 (c_iload 2 (c_iaload (c_aload 0 (c_gf 0 0 (c_gf 1 1 (c_iload 2 (c_iaload (c_iload 3 (c_invS [] cd_154 43 3 156 (k154_46)))))))))))))
set_option maxHeartbeats 100000 in
theorem kE154_22 : ex_CE 1 [] cd_154 k154_22 q154_22 := e_istore_istore 22 0 4 (e_aload_aload_n 24 0 0 0 rfl (e_gf 25 86016 10 0 0 rfl rfl (e_gf 28 86080 133 1 0 rfl rfl (e_iload_iload_n 31 0 2 2 rfl (e_iaload 32 0 (e_aload_aload_n 33 0 0 0 rfl (e_gf 34 86016 10 0 0 rfl rfl (e_gf 37 86081 136 1 1 rfl rfl (e_iload_iload_n 40 0 2 2 rfl (e_iaload 41 0 (e_iload_iload_n 42 0 3 3 rfl (e_invS 43 1417187 169 3 156 rfl rfl rfl (kE154_46)))))))))))))
set_option maxHeartbeats 100000 in
def k154_0 : ex_C := c_aload 0 (c_gf 0 0 (c_gf 1 0 (c_iload 2 (c_iaload (c_aload 0 (c_gf 0 0 (c_gf 1 1 (c_iload 2 (c_iaload (c_iload 3 (c_invS [] cd_154 19 3 155 (k154_22))))))))))))
set_option maxHeartbeats 100000 in
theorem kE154_0 : ex_CE 1 [] cd_154 k154_0 q154_0 := e_aload_aload_n 0 0 0 0 rfl (e_gf 1 86016 10 0 0 rfl rfl (e_gf 4 86080 133 1 0 rfl rfl (e_iload_iload_n 7 0 2 2 rfl (e_iaload 8 0 (e_aload_aload_n 9 0 0 0 rfl (e_gf 10 86016 10 0 0 rfl rfl (e_gf 13 86081 136 1 1 rfl rfl (e_iload_iload_n 16 0 2 2 rfl (e_iaload 17 0 (e_iload_iload_n 18 0 3 3 rfl (e_invS 19 1408995 165 3 155 rfl rfl rfl (kE154_22))))))))))))
def kt_154 : Nat → Option ex_C := fun pc => @Bool.rec (fun _ => Nat → Option ex_C) (fun pc => @Bool.rec (fun _ => Nat → Option ex_C) (fun pc => @Bool.rec (fun _ => Nat → Option ex_C) (fun pc => @Bool.rec (fun _ => Option ex_C) none (some k154_137) (Nat.beq pc 137)) (fun pc => @Bool.rec (fun _ => Option ex_C) none (some k154_131) (Nat.beq pc 131)) (Nat.ble pc 131) pc) (fun pc => @Bool.rec (fun _ => Nat → Option ex_C) (fun pc => @Bool.rec (fun _ => Option ex_C) none (some k154_77) (Nat.beq pc 77)) (fun pc => @Bool.rec (fun _ => Option ex_C) none (some k154_75) (Nat.beq pc 75)) (Nat.ble pc 75) pc) (Nat.ble pc 77) pc) (fun pc => @Bool.rec (fun _ => Nat → Option ex_C) (fun pc => @Bool.rec (fun _ => Nat → Option ex_C) (fun pc => @Bool.rec (fun _ => Option ex_C) none (some k154_46) (Nat.beq pc 46)) (fun pc => @Bool.rec (fun _ => Option ex_C) none (some k154_22) (Nat.beq pc 22)) (Nat.ble pc 22) pc) (fun pc => @Bool.rec (fun _ => Option ex_C) none (some k154_0) (Nat.beq pc 0)) (Nat.ble pc 0) pc) (Nat.ble pc 46) pc
theorem ktE_154 : ex_CTT 1 [] cd_154 kt_154 cd_154 := (ex_ct2 (ex_ct2 (ex_ct1 kE154_0) (ex_ct2 (ex_ct1 kE154_22) (ex_ct1 kE154_46))) (ex_ct2 (ex_ct2 (ex_ct1 kE154_75) (ex_ct1 kE154_77)) (ex_ct2 (ex_ct1 kE154_131) (ex_ct1 kE154_137))))
set_option maxHeartbeats 100000 in
def k155_30 : ex_C := c_ireturn  0
set_option maxHeartbeats 100000 in
theorem kE155_30 : ex_CE 0 [] cd_155 k155_30 q155_30 := e_ireturn 30 0 
set_option maxHeartbeats 100000 in
def k155_29 : ex_C := c_iload 0 (k155_30)
set_option maxHeartbeats 100000 in
theorem kE155_29 : ex_CE 0 [] cd_155 k155_29 q155_29 := e_iload_iload_n 29 0 0 0 rfl (kE155_30)
set_option maxHeartbeats 100000 in
def k155_20 : ex_C := c_iload 2 (c_psh 3 (c_icmp_ne 29 (c_iload 1 (c_goto 30))))
set_option maxHeartbeats 100000 in
theorem kE155_20 : ex_CE 0 [] cd_155 k155_20 q155_20 := e_iload_iload_n 20 0 2 2 rfl (e_psh_iconst 21 3 3 (e_icmp_ne 22 29 7 (e_iload_iload_n 25 0 1 1 rfl (e_goto 26 30 4))))
set_option maxHeartbeats 100000 in
def k155_10 : ex_C := c_iload 2 (c_psh 2 (c_icmp_ne 20 (c_iload 0 (c_ineg   (c_goto 30)))))
set_option maxHeartbeats 100000 in
theorem kE155_10 : ex_CE 0 [] cd_155 k155_10 q155_10 := e_iload_iload_n 10 0 2 2 rfl (e_psh_iconst 11 2 2 (e_icmp_ne 12 20 8 (e_iload_iload_n 15 0 0 0 rfl (e_ineg 16 0  (e_goto 17 30 13)))))
set_option maxHeartbeats 100000 in
def k155_0 : ex_C := c_iload 2 (c_psh 1 (c_icmp_ne 10 (c_iload 1 (c_ineg   (c_goto 30)))))
set_option maxHeartbeats 100000 in
theorem kE155_0 : ex_CE 0 [] cd_155 k155_0 q155_0 := e_iload_iload_n 0 0 2 2 rfl (e_psh_iconst 1 1 1 (e_icmp_ne 2 10 8 (e_iload_iload_n 5 0 1 1 rfl (e_ineg 6 0  (e_goto 7 30 23)))))
def kt_155 : Nat → Option ex_C := fun pc => @Bool.rec (fun _ => Nat → Option ex_C) (fun pc => @Bool.rec (fun _ => Nat → Option ex_C) (fun pc => @Bool.rec (fun _ => Nat → Option ex_C) (fun pc => @Bool.rec (fun _ => Option ex_C) none (some k155_30) (Nat.beq pc 30)) (fun pc => @Bool.rec (fun _ => Option ex_C) none (some k155_29) (Nat.beq pc 29)) (Nat.ble pc 29) pc) (fun pc => @Bool.rec (fun _ => Option ex_C) none (some k155_20) (Nat.beq pc 20)) (Nat.ble pc 20) pc) (fun pc => @Bool.rec (fun _ => Nat → Option ex_C) (fun pc => @Bool.rec (fun _ => Option ex_C) none (some k155_10) (Nat.beq pc 10)) (fun pc => @Bool.rec (fun _ => Option ex_C) none (some k155_0) (Nat.beq pc 0)) (Nat.ble pc 0) pc) (Nat.ble pc 10) pc
theorem ktE_155 : ex_CTT 0 [] cd_155 kt_155 cd_155 := (ex_ct2 (ex_ct2 (ex_ct1 kE155_0) (ex_ct1 kE155_10)) (ex_ct2 (ex_ct1 kE155_20) (ex_ct2 (ex_ct1 kE155_29) (ex_ct1 kE155_30))))
set_option maxHeartbeats 100000 in
def k156_30 : ex_C := c_ireturn  0
set_option maxHeartbeats 100000 in
theorem kE156_30 : ex_CE 0 [] cd_156 k156_30 q156_30 := e_ireturn 30 0 
set_option maxHeartbeats 100000 in
def k156_29 : ex_C := c_iload 1 (k156_30)
set_option maxHeartbeats 100000 in
theorem kE156_29 : ex_CE 0 [] cd_156 k156_29 q156_29 := e_iload_iload_n 29 0 1 1 rfl (kE156_30)
set_option maxHeartbeats 100000 in
def k156_19 : ex_C := c_iload 2 (c_psh 3 (c_icmp_ne 29 (c_iload 0 (c_ineg   (c_goto 30)))))
set_option maxHeartbeats 100000 in
theorem kE156_19 : ex_CE 0 [] cd_156 k156_19 q156_19 := e_iload_iload_n 19 0 2 2 rfl (e_psh_iconst 20 3 3 (e_icmp_ne 21 29 8 (e_iload_iload_n 24 0 0 0 rfl (e_ineg 25 0  (e_goto 26 30 4)))))
set_option maxHeartbeats 100000 in
def k156_9 : ex_C := c_iload 2 (c_psh 2 (c_icmp_ne 19 (c_iload 1 (c_ineg   (c_goto 30)))))
set_option maxHeartbeats 100000 in
theorem kE156_9 : ex_CE 0 [] cd_156 k156_9 q156_9 := e_iload_iload_n 9 0 2 2 rfl (e_psh_iconst 10 2 2 (e_icmp_ne 11 19 8 (e_iload_iload_n 14 0 1 1 rfl (e_ineg 15 0  (e_goto 16 30 14)))))
set_option maxHeartbeats 100000 in
def k156_0 : ex_C := c_iload 2 (c_psh 1 (c_icmp_ne 9 (c_iload 0 (c_goto 30))))
set_option maxHeartbeats 100000 in
theorem kE156_0 : ex_CE 0 [] cd_156 k156_0 q156_0 := e_iload_iload_n 0 0 2 2 rfl (e_psh_iconst 1 1 1 (e_icmp_ne 2 9 7 (e_iload_iload_n 5 0 0 0 rfl (e_goto 6 30 24))))
def kt_156 : Nat → Option ex_C := fun pc => @Bool.rec (fun _ => Nat → Option ex_C) (fun pc => @Bool.rec (fun _ => Nat → Option ex_C) (fun pc => @Bool.rec (fun _ => Nat → Option ex_C) (fun pc => @Bool.rec (fun _ => Option ex_C) none (some k156_30) (Nat.beq pc 30)) (fun pc => @Bool.rec (fun _ => Option ex_C) none (some k156_29) (Nat.beq pc 29)) (Nat.ble pc 29) pc) (fun pc => @Bool.rec (fun _ => Option ex_C) none (some k156_19) (Nat.beq pc 19)) (Nat.ble pc 19) pc) (fun pc => @Bool.rec (fun _ => Nat → Option ex_C) (fun pc => @Bool.rec (fun _ => Option ex_C) none (some k156_9) (Nat.beq pc 9)) (fun pc => @Bool.rec (fun _ => Option ex_C) none (some k156_0) (Nat.beq pc 0)) (Nat.ble pc 0) pc) (Nat.ble pc 9) pc
theorem ktE_156 : ex_CTT 0 [] cd_156 kt_156 cd_156 := (ex_ct2 (ex_ct2 (ex_ct1 kE156_0) (ex_ct1 kE156_9)) (ex_ct2 (ex_ct1 kE156_19) (ex_ct2 (ex_ct1 kE156_29) (ex_ct1 kE156_30))))
set_option maxHeartbeats 100000 in
def k157_0 : ex_C := c_aload 0 (c_oinit (c_aload 0 (c_iload 1 (c_psh 48271 (c_imul (c_psh 12345 (c_iadd (c_pf 12 0 0 (c_return_  15)))))))))
set_option maxHeartbeats 100000 in
theorem kE157_0 : ex_CE 15 [] cd_157 k157_0 q157_0 := e_aload_aload_n 0 0 0 0 rfl (e_oinit (e_aload_aload_n 4 0 0 0 rfl (e_iload_iload_n 5 0 1 1 rfl (e_psh_ldc 6 48271 7 (e_imul 8 0 (e_psh_sipush 9 12345 12345 (e_iadd 12 0 (e_pf 13 768 8 12 0 0 rfl rfl rfl (e_return_ 16 0 )))))))))
def kt_157 : Nat → Option ex_C := fun pc => @Bool.rec (fun _ => Option ex_C) none (some k157_0) (Nat.beq pc 0)
theorem ktE_157 : ex_CTT 15 [] cd_157 kt_157 cd_157 := (ex_ct1 kE157_0)
set_option maxHeartbeats 100000 in
def k158_31 : ex_C := c_irem   (c_ireturn  0)
set_option maxHeartbeats 100000 in
theorem kE158_31 : ex_CE 0 [] cd_158 k158_31 q158_31 := e_irem 31 0  (e_ireturn 32 0 )
set_option maxHeartbeats 100000 in
def k158_0 : ex_C := c_aload 0 (c_aload 0 (c_gf 12 0 (c_psh 1103515245 (c_imul (c_psh 12345 (c_iadd (c_pf 12 0 0 (c_aload 0 (c_gf 12 0 (c_psh 16 (c_none)))))))))))
set_option maxHeartbeats 100000 in
theorem kE158_0 : ex_CE 0 [] cd_158 k158_0 q158_0 := e_aload_aload_n 0 0 0 0 rfl (e_aload_aload_n 1 0 0 0 rfl (e_gf 2 768 8 12 0 rfl rfl (e_psh_ldc 5 1103515245 14 (e_imul 7 0 (e_psh_sipush 8 12345 12345 (e_iadd 11 0 (e_pf 12 768 8 12 0 0 rfl rfl rfl (e_aload_aload_n 15 0 0 0 rfl (e_gf 16 768 8 12 0 rfl rfl (e_psh_bipush 19 16 16 (e_bad)))))))))))
def kt_158 : Nat → Option ex_C := fun pc => @Bool.rec (fun _ => Nat → Option ex_C) (fun pc => @Bool.rec (fun _ => Option ex_C) none (some k158_31) (Nat.beq pc 31)) (fun pc => @Bool.rec (fun _ => Option ex_C) none (some k158_0) (Nat.beq pc 0)) (Nat.ble pc 0) pc
theorem ktE_158 : ex_CTT 0 [] cd_158 kt_158 cd_158 := (ex_ct2 (ex_ct1 kE158_0) (ex_ct1 kE158_31))
set_option maxHeartbeats 100000 in
def k159_18 : ex_C := c_iload 2 (c_ireturn  0)
set_option maxHeartbeats 100000 in
theorem kE159_18 : ex_CE 0 [] cd_159 k159_18 q159_18 := e_iload_iload_n 18 0 2 2 rfl (e_ireturn 19 0 )
set_option maxHeartbeats 100000 in
def k159_0 : ex_C := c_iload 0 (c_iload 1 (c_irem   (c_istore 2 (c_iload 0 (c_iload 1 (c_ixor   (c_if_ge 18 (c_iload 2 (c_if_eq 18 (c_iload 2 (c_iload 1 (c_iadd (c_ireturn  0)))))))))))))
set_option maxHeartbeats 100000 in
theorem kE159_0 : ex_CE 0 [] cd_159 k159_0 q159_0 := e_iload_iload_n 0 0 0 0 rfl (e_iload_iload_n 1 0 1 1 rfl (e_irem 2 0  (e_istore_istore_n 3 0 2 2 rfl (e_iload_iload_n 4 0 0 0 rfl (e_iload_iload_n 5 0 1 1 rfl (e_ixor 6 0  (e_if_ge 7 18 11 (e_iload_iload_n 10 0 2 2 rfl (e_if_eq 11 18 7 (e_iload_iload_n 14 0 2 2 rfl (e_iload_iload_n 15 0 1 1 rfl (e_iadd 16 0 (e_ireturn 17 0 )))))))))))))
def kt_159 : Nat → Option ex_C := fun pc => @Bool.rec (fun _ => Nat → Option ex_C) (fun pc => @Bool.rec (fun _ => Option ex_C) none (some k159_18) (Nat.beq pc 18)) (fun pc => @Bool.rec (fun _ => Option ex_C) none (some k159_0) (Nat.beq pc 0)) (Nat.ble pc 0) pc
theorem ktE_159 : ex_CTT 0 [] cd_159 kt_159 cd_159 := (ex_ct2 (ex_ct1 kE159_0) (ex_ct1 kE159_18))
set_option maxHeartbeats 100000 in
def k160_10 : ex_C := c_ireturn  0
set_option maxHeartbeats 100000 in
theorem kE160_10 : ex_CE 0 [] cd_160 k160_10 q160_10 := e_ireturn 10 0 
set_option maxHeartbeats 100000 in
def k160_9 : ex_C := c_iload 0 (k160_10)
set_option maxHeartbeats 100000 in
theorem kE160_9 : ex_CE 0 [] cd_160 k160_9 q160_9 := e_iload_iload_n 9 0 0 0 rfl (kE160_10)
set_option maxHeartbeats 100000 in
def k160_0 : ex_C := c_iload 0 (c_if_ge 9 (c_iload 0 (c_ineg   (c_goto 10))))
set_option maxHeartbeats 100000 in
theorem kE160_0 : ex_CE 0 [] cd_160 k160_0 q160_0 := e_iload_iload_n 0 0 0 0 rfl (e_if_ge 1 9 8 (e_iload_iload_n 4 0 0 0 rfl (e_ineg 5 0  (e_goto 6 10 4))))
def kt_160 : Nat → Option ex_C := fun pc => @Bool.rec (fun _ => Nat → Option ex_C) (fun pc => @Bool.rec (fun _ => Nat → Option ex_C) (fun pc => @Bool.rec (fun _ => Option ex_C) none (some k160_10) (Nat.beq pc 10)) (fun pc => @Bool.rec (fun _ => Option ex_C) none (some k160_9) (Nat.beq pc 9)) (Nat.ble pc 9) pc) (fun pc => @Bool.rec (fun _ => Option ex_C) none (some k160_0) (Nat.beq pc 0)) (Nat.ble pc 0) pc
theorem ktE_160 : ex_CTT 0 [] cd_160 kt_160 cd_160 := (ex_ct2 (ex_ct1 kE160_0) (ex_ct2 (ex_ct1 kE160_9) (ex_ct1 kE160_10)))
set_option maxHeartbeats 100000 in
def k161_12 : ex_C := c_lreturn  3
set_option maxHeartbeats 100000 in
theorem kE161_12 : ex_CE 3 [] cd_161 k161_12 q161_12 := e_lreturn 12 0 
set_option maxHeartbeats 100000 in
def k161_11 : ex_C := c_lload 0 (k161_12)
set_option maxHeartbeats 100000 in
theorem kE161_11 : ex_CE 3 [] cd_161 k161_11 q161_11 := e_lload_lload_n 11 0 0 0 rfl (kE161_12)
set_option maxHeartbeats 100000 in
def k161_0 : ex_C := c_lload 0 (c_psh 412316860416 (c_lcmp   (c_if_ge 11 (c_lload 0 (c_none)))))
set_option maxHeartbeats 100000 in
theorem kE161_0 : ex_CE 3 [] cd_161 k161_0 q161_0 := e_lload_lload_n 0 0 0 0 rfl (e_psh_lconst 1 412316860416 0 (e_lcmp 2 0  (e_if_ge 3 11 8 (e_lload_lload_n 6 0 0 0 rfl (e_bad)))))
def kt_161 : Nat → Option ex_C := fun pc => @Bool.rec (fun _ => Nat → Option ex_C) (fun pc => @Bool.rec (fun _ => Nat → Option ex_C) (fun pc => @Bool.rec (fun _ => Option ex_C) none (some k161_12) (Nat.beq pc 12)) (fun pc => @Bool.rec (fun _ => Option ex_C) none (some k161_11) (Nat.beq pc 11)) (Nat.ble pc 11) pc) (fun pc => @Bool.rec (fun _ => Option ex_C) none (some k161_0) (Nat.beq pc 0)) (Nat.ble pc 0) pc
theorem ktE_161 : ex_CTT 3 [] cd_161 kt_161 cd_161 := (ex_ct2 (ex_ct1 kE161_0) (ex_ct2 (ex_ct1 kE161_11) (ex_ct1 kE161_12)))
set_option maxHeartbeats 100000 in
def k162_10 : ex_C := c_ireturn  0
set_option maxHeartbeats 100000 in
theorem kE162_10 : ex_CE 0 [] cd_162 k162_10 q162_10 := e_ireturn 10 0 
set_option maxHeartbeats 100000 in
def k162_9 : ex_C := c_iload 1 (k162_10)
set_option maxHeartbeats 100000 in
theorem kE162_9 : ex_CE 0 [] cd_162 k162_9 q162_9 := e_iload_iload_n 9 0 1 1 rfl (kE162_10)
set_option maxHeartbeats 100000 in
def k162_0 : ex_C := c_iload 0 (c_iload 1 (c_icmp_lt 9 (c_iload 0 (c_goto 10))))
set_option maxHeartbeats 100000 in
theorem kE162_0 : ex_CE 0 [] cd_162 k162_0 q162_0 := e_iload_iload_n 0 0 0 0 rfl (e_iload_iload_n 1 0 1 1 rfl (e_icmp_lt 2 9 7 (e_iload_iload_n 5 0 0 0 rfl (e_goto 6 10 4))))
def kt_162 : Nat → Option ex_C := fun pc => @Bool.rec (fun _ => Nat → Option ex_C) (fun pc => @Bool.rec (fun _ => Nat → Option ex_C) (fun pc => @Bool.rec (fun _ => Option ex_C) none (some k162_10) (Nat.beq pc 10)) (fun pc => @Bool.rec (fun _ => Option ex_C) none (some k162_9) (Nat.beq pc 9)) (Nat.ble pc 9) pc) (fun pc => @Bool.rec (fun _ => Option ex_C) none (some k162_0) (Nat.beq pc 0)) (Nat.ble pc 0) pc
theorem ktE_162 : ex_CTT 0 [] cd_162 kt_162 cd_162 := (ex_ct2 (ex_ct1 kE162_0) (ex_ct2 (ex_ct1 kE162_9) (ex_ct1 kE162_10)))
set_option maxHeartbeats 100000 in
def k163_10 : ex_C := c_ireturn  0
set_option maxHeartbeats 100000 in
theorem kE163_10 : ex_CE 0 [] cd_163 k163_10 q163_10 := e_ireturn 10 0 
set_option maxHeartbeats 100000 in
def k163_9 : ex_C := c_iload 1 (k163_10)
set_option maxHeartbeats 100000 in
theorem kE163_9 : ex_CE 0 [] cd_163 k163_9 q163_9 := e_iload_iload_n 9 0 1 1 rfl (kE163_10)
set_option maxHeartbeats 100000 in
def k163_0 : ex_C := c_iload 0 (c_iload 1 (c_icmp_gt 9 (c_iload 0 (c_goto 10))))
set_option maxHeartbeats 100000 in
theorem kE163_0 : ex_CE 0 [] cd_163 k163_0 q163_0 := e_iload_iload_n 0 0 0 0 rfl (e_iload_iload_n 1 0 1 1 rfl (e_icmp_gt 2 9 7 (e_iload_iload_n 5 0 0 0 rfl (e_goto 6 10 4))))
def kt_163 : Nat → Option ex_C := fun pc => @Bool.rec (fun _ => Nat → Option ex_C) (fun pc => @Bool.rec (fun _ => Nat → Option ex_C) (fun pc => @Bool.rec (fun _ => Option ex_C) none (some k163_10) (Nat.beq pc 10)) (fun pc => @Bool.rec (fun _ => Option ex_C) none (some k163_9) (Nat.beq pc 9)) (Nat.ble pc 9) pc) (fun pc => @Bool.rec (fun _ => Option ex_C) none (some k163_0) (Nat.beq pc 0)) (Nat.ble pc 0) pc
theorem ktE_163 : ex_CTT 0 [] cd_163 kt_163 cd_163 := (ex_ct2 (ex_ct1 kE163_0) (ex_ct2 (ex_ct1 kE163_9) (ex_ct1 kE163_10)))
set_option maxHeartbeats 100000 in
def k164_9 : ex_C := c_ishr   (c_ireturn  0)
set_option maxHeartbeats 100000 in
theorem kE164_9 : ex_CE 0 [] cd_164 k164_9 q164_9 := e_ishr 9 0  (e_ireturn 10 0 )
set_option maxHeartbeats 100000 in
def k164_0 : ex_C := c_aload 0 (c_gf 18 0 (c_arraylength   (c_aload 0 (c_invV [] cd_164 6 1 168 18 (k164_9)))))
set_option maxHeartbeats 100000 in
theorem kE164_0 : ex_CE 0 [] cd_164 k164_0 q164_0 := e_aload_aload_n 0 0 0 0 rfl (e_gf 1 87168 9 18 0 rfl rfl (e_arraylength 4 0  (e_aload_aload_n 5 0 0 0 rfl (e_invV_invokevirtual 6 1507905 335 1 168 18 rfl rfl rfl rfl rfl rfl (kE164_9)))))
def kt_164 : Nat → Option ex_C := fun pc => @Bool.rec (fun _ => Nat → Option ex_C) (fun pc => @Bool.rec (fun _ => Option ex_C) none (some k164_9) (Nat.beq pc 9)) (fun pc => @Bool.rec (fun _ => Option ex_C) none (some k164_0) (Nat.beq pc 0)) (Nat.ble pc 0) pc
theorem ktE_164 : ex_CTT 0 [] cd_164 kt_164 cd_164 := (ex_ct2 (ex_ct1 kE164_0) (ex_ct1 kE164_9))
set_option maxHeartbeats 100000 in
def k165_16 : ex_C := c_aload 0 (c_gf 18 0 (c_iload 1 (c_none)))
set_option maxHeartbeats 100000 in
theorem kE165_16 : ex_CE 2 [] cd_165 k165_16 q165_16 := e_aload_aload_n 16 0 0 0 rfl (e_gf 17 87168 9 18 0 rfl rfl (e_iload_iload_n 20 0 1 1 rfl (e_bad)))
set_option maxHeartbeats 100000 in
def k165_15 : ex_C := c_ireturn  2
set_option maxHeartbeats 100000 in
theorem kE165_15 : ex_CE 2 [] cd_165 k165_15 q165_15 := e_ireturn 15 0 
set_option maxHeartbeats 100000 in
def k165_4 : ex_C := c_if_eq 16 (c_aload 0 (c_gf 18 0 (c_iload 1 (c_invS [] cd_165 12 2 171 (k165_15)))))
set_option maxHeartbeats 100000 in
theorem kE165_4 : ex_CE 2 [] cd_165 k165_4 q165_4 := e_if_eq 4 16 12 (e_aload_aload_n 7 0 0 0 rfl (e_gf 8 87168 9 18 0 rfl rfl (e_iload_iload_n 11 0 1 1 rfl (e_invS 12 1540066 495 2 171 rfl rfl rfl (kE165_15)))))
set_option maxHeartbeats 100000 in
def k165_0 : ex_C := c_aload 0 (c_invV [] cd_165 1 1 169 18 (k165_4))
set_option maxHeartbeats 100000 in
theorem kE165_0 : ex_CE 2 [] cd_165 k165_0 q165_0 := e_aload_aload_n 0 0 0 0 rfl (e_invV_invokevirtual 1 1516097 492 1 169 18 rfl rfl rfl rfl rfl rfl (kE165_4))
def kt_165 : Nat → Option ex_C := fun pc => @Bool.rec (fun _ => Nat → Option ex_C) (fun pc => @Bool.rec (fun _ => Nat → Option ex_C) (fun pc => @Bool.rec (fun _ => Option ex_C) none (some k165_16) (Nat.beq pc 16)) (fun pc => @Bool.rec (fun _ => Option ex_C) none (some k165_15) (Nat.beq pc 15)) (Nat.ble pc 15) pc) (fun pc => @Bool.rec (fun _ => Nat → Option ex_C) (fun pc => @Bool.rec (fun _ => Option ex_C) none (some k165_4) (Nat.beq pc 4)) (fun pc => @Bool.rec (fun _ => Option ex_C) none (some k165_0) (Nat.beq pc 0)) (Nat.ble pc 0) pc) (Nat.ble pc 4) pc
theorem ktE_165 : ex_CTT 2 [] cd_165 kt_165 cd_165 := (ex_ct2 (ex_ct2 (ex_ct1 kE165_0) (ex_ct1 kE165_4)) (ex_ct2 (ex_ct1 kE165_15) (ex_ct1 kE165_16)))
set_option maxHeartbeats 100000 in
def k166_6 : ex_C := c_ireturn  0
set_option maxHeartbeats 100000 in
theorem kE166_6 : ex_CE 0 [] cd_166 k166_6 q166_6 := e_ireturn 6 0 
set_option maxHeartbeats 100000 in
def k166_0 : ex_C := c_aload 0 (c_iload 1 (c_psh 0 (c_invV [] cd_166 3 3 167 18 (k166_6))))
set_option maxHeartbeats 100000 in
theorem kE166_0 : ex_CE 0 [] cd_166 k166_0 q166_0 := e_aload_aload_n 0 0 0 0 rfl (e_iload_iload_n 1 0 1 1 rfl (e_psh_iconst 2 0 0 (e_invV_invokevirtual 3 1499715 633 3 167 18 rfl rfl rfl rfl rfl rfl (kE166_6))))
def kt_166 : Nat → Option ex_C := fun pc => @Bool.rec (fun _ => Nat → Option ex_C) (fun pc => @Bool.rec (fun _ => Option ex_C) none (some k166_6) (Nat.beq pc 6)) (fun pc => @Bool.rec (fun _ => Option ex_C) none (some k166_0) (Nat.beq pc 0)) (Nat.ble pc 0) pc
theorem ktE_166 : ex_CTT 0 [] cd_166 kt_166 cd_166 := (ex_ct2 (ex_ct1 kE166_0) (ex_ct1 kE166_6))
set_option maxHeartbeats 100000 in
def k167_36 : ex_C := c_ireturn  0
set_option maxHeartbeats 100000 in
theorem kE167_36 : ex_CE 0 [] cd_167 k167_36 q167_36 := e_ireturn 36 0 
set_option maxHeartbeats 100000 in
def k167_33 : ex_C := c_none
set_option maxHeartbeats 100000 in
theorem kE167_33 : ex_CE 0 [] cd_167 k167_33 q167_33 := e_bad
set_option maxHeartbeats 100000 in
def k167_23 : ex_C := c_aload 0 (c_gf 18 0 (c_iload 1 (c_iload 2 (c_aload 0 (c_invV [] cd_167 30 1 164 18 (k167_33))))))
set_option maxHeartbeats 100000 in
theorem kE167_23 : ex_CE 0 [] cd_167 k167_23 q167_23 := e_aload_aload_n 23 0 0 0 rfl (e_gf 24 87168 9 18 0 rfl rfl (e_iload_iload_n 27 0 1 1 rfl (e_iload_iload_n 28 0 2 2 rfl (e_aload_aload_n 29 0 0 0 rfl (e_invV_invokevirtual 30 1475137 505 1 164 18 rfl rfl rfl rfl rfl rfl (kE167_33))))))
set_option maxHeartbeats 100000 in
def k167_20 : ex_C := c_goto 36
set_option maxHeartbeats 100000 in
theorem kE167_20 : ex_CE 0 [] cd_167 k167_20 q167_20 := e_goto 20 36 16
set_option maxHeartbeats 100000 in
def k167_17 : ex_C := c_invS [] cd_167 17 4 173 (k167_20)
set_option maxHeartbeats 100000 in
theorem kE167_17 : ex_CE 0 [] cd_167 k167_17 q167_17 := e_invS 17 1556452 637 4 173 rfl rfl rfl (kE167_20)
set_option maxHeartbeats 100000 in
def k167_4 : ex_C := c_if_eq 23 (c_aload 0 (c_gf 18 0 (c_iload 1 (c_iload 2 (c_aload 0 (c_invV [] cd_167 14 1 164 18 (k167_17)))))))
set_option maxHeartbeats 100000 in
theorem kE167_4 : ex_CE 0 [] cd_167 k167_4 q167_4 := e_if_eq 4 23 19 (e_aload_aload_n 7 0 0 0 rfl (e_gf 8 87168 9 18 0 rfl rfl (e_iload_iload_n 11 0 1 1 rfl (e_iload_iload_n 12 0 2 2 rfl (e_aload_aload_n 13 0 0 0 rfl (e_invV_invokevirtual 14 1475137 505 1 164 18 rfl rfl rfl rfl rfl rfl (kE167_17)))))))
set_option maxHeartbeats 100000 in
def k167_0 : ex_C := c_aload 0 (c_invV [] cd_167 1 1 169 18 (k167_4))
set_option maxHeartbeats 100000 in
theorem kE167_0 : ex_CE 0 [] cd_167 k167_0 q167_0 := e_aload_aload_n 0 0 0 0 rfl (e_invV_invokevirtual 1 1516097 492 1 169 18 rfl rfl rfl rfl rfl rfl (kE167_4))
def kt_167 : Nat → Option ex_C := fun pc => @Bool.rec (fun _ => Nat → Option ex_C) (fun pc => @Bool.rec (fun _ => Nat → Option ex_C) (fun pc => @Bool.rec (fun _ => Nat → Option ex_C) (fun pc => @Bool.rec (fun _ => Option ex_C) none (some k167_36) (Nat.beq pc 36)) (fun pc => @Bool.rec (fun _ => Option ex_C) none (some k167_33) (Nat.beq pc 33)) (Nat.ble pc 33) pc) (fun pc => @Bool.rec (fun _ => Nat → Option ex_C) (fun pc => @Bool.rec (fun _ => Option ex_C) none (some k167_23) (Nat.beq pc 23)) (fun pc => @Bool.rec (fun _ => Option ex_C) none (some k167_20) (Nat.beq pc 20)) (Nat.ble pc 20) pc) (Nat.ble pc 23) pc) (fun pc => @Bool.rec (fun _ => Nat → Option ex_C) (fun pc => @Bool.rec (fun _ => Nat → Option ex_C) (fun pc => @Bool.rec (fun _ => Option ex_C) none (some k167_17) (Nat.beq pc 17)) (fun pc => @Bool.rec (fun _ => Option ex_C) none (some k167_4) (Nat.beq pc 4)) (Nat.ble pc 4) pc) (fun pc => @Bool.rec (fun _ => Option ex_C) none (some k167_0) (Nat.beq pc 0)) (Nat.ble pc 0) pc) (Nat.ble pc 17) pc
theorem ktE_167 : ex_CTT 0 [] cd_167 kt_167 cd_167 := (ex_ct2 (ex_ct2 (ex_ct1 kE167_0) (ex_ct2 (ex_ct1 kE167_4) (ex_ct1 kE167_17))) (ex_ct2 (ex_ct2 (ex_ct1 kE167_20) (ex_ct1 kE167_23)) (ex_ct2 (ex_ct1 kE167_33) (ex_ct1 kE167_36))))
set_option maxHeartbeats 100000 in
def k168_14 : ex_C := c_ireturn  4
set_option maxHeartbeats 100000 in
theorem kE168_14 : ex_CE 4 [] cd_168 k168_14 q168_14 := e_ireturn 14 0 
set_option maxHeartbeats 100000 in
def k168_13 : ex_C := c_psh 1 (k168_14)
set_option maxHeartbeats 100000 in
theorem kE168_13 : ex_CE 4 [] cd_168 k168_13 q168_13 := e_psh_iconst 13 1 1 (kE168_14)
set_option maxHeartbeats 100000 in
def k168_0 : ex_C := c_psh 1 (c_if_eq 13 (c_aload 0 (c_gf 18 1 (c_goto 14))))
set_option maxHeartbeats 100000 in
theorem kE168_0 : ex_CE 4 [] cd_168 k168_0 q168_0 := e_psh_getstatic 0 1 38 (e_if_eq 3 13 10 (e_aload_aload_n 6 0 0 0 rfl (e_gf 7 83073 15 18 1 rfl rfl (e_goto 10 14 4))))
def kt_168 : Nat → Option ex_C := fun pc => @Bool.rec (fun _ => Nat → Option ex_C) (fun pc => @Bool.rec (fun _ => Nat → Option ex_C) (fun pc => @Bool.rec (fun _ => Option ex_C) none (some k168_14) (Nat.beq pc 14)) (fun pc => @Bool.rec (fun _ => Option ex_C) none (some k168_13) (Nat.beq pc 13)) (Nat.ble pc 13) pc) (fun pc => @Bool.rec (fun _ => Option ex_C) none (some k168_0) (Nat.beq pc 0)) (Nat.ble pc 0) pc
theorem ktE_168 : ex_CTT 4 [] cd_168 kt_168 cd_168 := (ex_ct2 (ex_ct1 kE168_0) (ex_ct2 (ex_ct1 kE168_13) (ex_ct1 kE168_14)))
set_option maxHeartbeats 100000 in
def k169_18 : ex_C := c_ireturn  1
set_option maxHeartbeats 100000 in
theorem kE169_18 : ex_CE 1 [] cd_169 k169_18 q169_18 := e_ireturn 18 0 
set_option maxHeartbeats 100000 in
def k169_17 : ex_C := c_psh 0 (k169_18)
set_option maxHeartbeats 100000 in
theorem kE169_17 : ex_CE 1 [] cd_169 k169_17 q169_17 := e_psh_iconst 17 0 0 (kE169_18)
set_option maxHeartbeats 100000 in
def k169_0 : ex_C := c_psh 1 (c_if_eq 17 (c_aload 0 (c_gf 18 1 (c_if_ne 17 (c_psh 1 (c_goto 18))))))
set_option maxHeartbeats 100000 in
theorem kE169_0 : ex_CE 1 [] cd_169 k169_0 q169_0 := e_psh_getstatic 0 1 38 (e_if_eq 3 17 14 (e_aload_aload_n 6 0 0 0 rfl (e_gf 7 83073 15 18 1 rfl rfl (e_if_ne 10 17 7 (e_psh_iconst 13 1 1 (e_goto 14 18 4))))))
def kt_169 : Nat → Option ex_C := fun pc => @Bool.rec (fun _ => Nat → Option ex_C) (fun pc => @Bool.rec (fun _ => Nat → Option ex_C) (fun pc => @Bool.rec (fun _ => Option ex_C) none (some k169_18) (Nat.beq pc 18)) (fun pc => @Bool.rec (fun _ => Option ex_C) none (some k169_17) (Nat.beq pc 17)) (Nat.ble pc 17) pc) (fun pc => @Bool.rec (fun _ => Option ex_C) none (some k169_0) (Nat.beq pc 0)) (Nat.ble pc 0) pc
theorem ktE_169 : ex_CTT 1 [] cd_169 kt_169 cd_169 := (ex_ct2 (ex_ct1 kE169_0) (ex_ct2 (ex_ct1 kE169_17) (ex_ct1 kE169_18)))
set_option maxHeartbeats 100000 in
def k170_8 : ex_C := c_pop   (c_return_  15)
set_option maxHeartbeats 100000 in
theorem kE170_8 : ex_CE 15 [] cd_170 k170_8 q170_8 := e_pop 8 0  (e_return_ 9 0 )
set_option maxHeartbeats 100000 in
def k170_0 : ex_C := c_iload 0 (c_iload 1 (c_psh 17179869224 (c_invS [] cd_170 5 3 175 (k170_8))))
set_option maxHeartbeats 100000 in
theorem kE170_0 : ex_CE 15 [] cd_170 k170_0 q170_0 := e_iload_iload_n 0 0 0 0 rfl (e_iload_iload_n 1 0 1 1 rfl (e_psh_getstatic 2 17179869224 1053 (e_invS 5 1572835 1059 3 175 rfl rfl rfl (kE170_8))))
def kt_170 : Nat → Option ex_C := fun pc => @Bool.rec (fun _ => Nat → Option ex_C) (fun pc => @Bool.rec (fun _ => Option ex_C) none (some k170_8) (Nat.beq pc 8)) (fun pc => @Bool.rec (fun _ => Option ex_C) none (some k170_0) (Nat.beq pc 0)) (Nat.ble pc 0) pc
theorem ktE_170 : ex_CTT 15 [] cd_170 kt_170 cd_170 := (ex_ct2 (ex_ct1 kE170_0) (ex_ct1 kE170_8))
set_option maxHeartbeats 100000 in
def k171_6 : ex_C := c_aload 0 (c_iload 1 (c_baload (c_psh 255 (c_iand (c_i2c   (c_ireturn  2))))))
set_option maxHeartbeats 100000 in
theorem kE171_6 : ex_CE 2 [] cd_171 k171_6 q171_6 := e_aload_aload_n 6 0 0 0 rfl (e_iload_iload_n 7 0 1 1 rfl (e_baload 8 0 (e_psh_sipush 9 255 255 (e_iand 12 0 (e_i2c 13 0  (e_ireturn 14 0 ))))))
set_option maxHeartbeats 100000 in
def k171_0 : ex_C := c_iload 1 (c_aload 0 (c_arraylength   (c_invS [] cd_171 3 2 170 (k171_6))))
set_option maxHeartbeats 100000 in
theorem kE171_0 : ex_CE 2 [] cd_171 k171_0 q171_0 := e_iload_iload_n 0 0 1 1 rfl (e_aload_aload_n 1 0 0 0 rfl (e_arraylength 2 0  (e_invS 3 1531874 9 2 170 rfl rfl rfl (kE171_6))))
def kt_171 : Nat → Option ex_C := fun pc => @Bool.rec (fun _ => Nat → Option ex_C) (fun pc => @Bool.rec (fun _ => Option ex_C) none (some k171_6) (Nat.beq pc 6)) (fun pc => @Bool.rec (fun _ => Option ex_C) none (some k171_0) (Nat.beq pc 0)) (Nat.ble pc 0) pc
theorem ktE_171 : ex_CTT 2 [] cd_171 kt_171 cd_171 := (ex_ct2 (ex_ct1 kE171_0) (ex_ct1 kE171_6))
set_option maxHeartbeats 100000 in
def k172_16 : ex_C := c_ireturn  1
set_option maxHeartbeats 100000 in
theorem kE172_16 : ex_CE 1 [] cd_172 k172_16 q172_16 := e_ireturn 16 0 
set_option maxHeartbeats 100000 in
def k172_15 : ex_C := c_psh 0 (k172_16)
set_option maxHeartbeats 100000 in
theorem kE172_15 : ex_CE 1 [] cd_172 k172_15 q172_15 := e_psh_iconst 15 0 0 (kE172_16)
set_option maxHeartbeats 100000 in
def k172_0 : ex_C := c_iload 0 (c_if_lt 15 (c_iload 0 (c_psh 255 (c_icmp_gt 15 (c_psh 1 (c_goto 16))))))
set_option maxHeartbeats 100000 in
theorem kE172_0 : ex_CE 1 [] cd_172 k172_0 q172_0 := e_iload_iload_n 0 0 0 0 rfl (e_if_lt 1 15 14 (e_iload_iload_n 4 0 0 0 rfl (e_psh_sipush 5 255 255 (e_icmp_gt 8 15 7 (e_psh_iconst 11 1 1 (e_goto 12 16 4))))))
def kt_172 : Nat → Option ex_C := fun pc => @Bool.rec (fun _ => Nat → Option ex_C) (fun pc => @Bool.rec (fun _ => Nat → Option ex_C) (fun pc => @Bool.rec (fun _ => Option ex_C) none (some k172_16) (Nat.beq pc 16)) (fun pc => @Bool.rec (fun _ => Option ex_C) none (some k172_15) (Nat.beq pc 15)) (Nat.ble pc 15) pc) (fun pc => @Bool.rec (fun _ => Option ex_C) none (some k172_0) (Nat.beq pc 0)) (Nat.ble pc 0) pc
theorem ktE_172 : ex_CTT 1 [] cd_172 kt_172 cd_172 := (ex_ct2 (ex_ct1 kE172_0) (ex_ct2 (ex_ct1 kE172_15) (ex_ct1 kE172_16)))
set_option maxHeartbeats 100000 in
def k173_36 : ex_C := c_ireturn  0
set_option maxHeartbeats 100000 in
theorem kE173_36 : ex_CE 0 [] cd_173 k173_36 q173_36 := e_ireturn 36 0 
set_option maxHeartbeats 100000 in
def k173_29 : ex_C := c_aload 0 (c_iload 1 (c_iload 2 (c_iload 3 (c_invS [] cd_173 33 4 174 (k173_36)))))
set_option maxHeartbeats 100000 in
theorem kE173_29 : ex_CE 0 [] cd_173 k173_29 q173_29 := e_aload_aload_n 29 0 0 0 rfl (e_iload_iload_n 30 0 1 1 rfl (e_iload_iload_n 31 0 2 2 rfl (e_iload_iload_n 32 0 3 3 rfl (e_invS 33 1564644 95 4 174 rfl rfl rfl (kE173_36)))))
set_option maxHeartbeats 100000 in
def k173_21 : ex_C := c_istore 3 (c_iload 2 (c_iload 3 (c_icmp_lt 29 (c_psh 4294967295 (c_ireturn  0)))))
set_option maxHeartbeats 100000 in
theorem kE173_21 : ex_CE 0 [] cd_173 k173_21 q173_21 := e_istore_istore_n 21 0 3 3 rfl (e_iload_iload_n 22 0 2 2 rfl (e_iload_iload_n 23 0 3 3 rfl (e_icmp_lt 24 29 5 (e_psh_iconst 27 4294967295 (-1) (e_ireturn 28 0 )))))
set_option maxHeartbeats 100000 in
def k173_14 : ex_C := c_istore 2 (c_iload 3 (c_aload 0 (c_arraylength   (c_invS [] cd_173 18 2 163 (k173_21)))))
set_option maxHeartbeats 100000 in
theorem kE173_14 : ex_CE 0 [] cd_173 k173_14 q173_14 := e_istore_istore_n 14 0 2 2 rfl (e_iload_iload_n 15 0 3 3 rfl (e_aload_aload_n 16 0 0 0 rfl (e_arraylength 17 0  (e_invS 18 1474530 38 2 163 rfl rfl rfl (kE173_21)))))
set_option maxHeartbeats 100000 in
def k173_9 : ex_C := c_iload 2 (c_psh 0 (c_invS [] cd_173 11 2 162 (k173_14)))
set_option maxHeartbeats 100000 in
theorem kE173_9 : ex_CE 0 [] cd_173 k173_9 q173_9 := e_iload_iload_n 9 0 2 2 rfl (e_psh_iconst 10 0 0 (e_invS 11 1466338 92 2 162 rfl rfl rfl (kE173_14)))
set_option maxHeartbeats 100000 in
def k173_4 : ex_C := c_if_ne 9 (c_psh 4294967295 (c_ireturn  0))
set_option maxHeartbeats 100000 in
theorem kE173_4 : ex_CE 0 [] cd_173 k173_4 q173_4 := e_if_ne 4 9 5 (e_psh_iconst 7 4294967295 (-1) (e_ireturn 8 0 ))
set_option maxHeartbeats 100000 in
def k173_0 : ex_C := c_iload 1 (c_invS [] cd_173 1 1 172 (k173_4))
set_option maxHeartbeats 100000 in
theorem kE173_0 : ex_CE 0 [] cd_173 k173_0 q173_0 := e_iload_iload_n 0 0 1 1 rfl (e_invS 1 1548257 88 1 172 rfl rfl rfl (kE173_4))
def kt_173 : Nat → Option ex_C := fun pc => @Bool.rec (fun _ => Nat → Option ex_C) (fun pc => @Bool.rec (fun _ => Nat → Option ex_C) (fun pc => @Bool.rec (fun _ => Nat → Option ex_C) (fun pc => @Bool.rec (fun _ => Option ex_C) none (some k173_36) (Nat.beq pc 36)) (fun pc => @Bool.rec (fun _ => Option ex_C) none (some k173_29) (Nat.beq pc 29)) (Nat.ble pc 29) pc) (fun pc => @Bool.rec (fun _ => Nat → Option ex_C) (fun pc => @Bool.rec (fun _ => Option ex_C) none (some k173_21) (Nat.beq pc 21)) (fun pc => @Bool.rec (fun _ => Option ex_C) none (some k173_14) (Nat.beq pc 14)) (Nat.ble pc 14) pc) (Nat.ble pc 21) pc) (fun pc => @Bool.rec (fun _ => Nat → Option ex_C) (fun pc => @Bool.rec (fun _ => Nat → Option ex_C) (fun pc => @Bool.rec (fun _ => Option ex_C) none (some k173_9) (Nat.beq pc 9)) (fun pc => @Bool.rec (fun _ => Option ex_C) none (some k173_4) (Nat.beq pc 4)) (Nat.ble pc 4) pc) (fun pc => @Bool.rec (fun _ => Option ex_C) none (some k173_0) (Nat.beq pc 0)) (Nat.ble pc 0) pc) (Nat.ble pc 9) pc
theorem ktE_173 : ex_CTT 0 [] cd_173 kt_173 cd_173 := (ex_ct2 (ex_ct2 (ex_ct1 kE173_0) (ex_ct2 (ex_ct1 kE173_4) (ex_ct1 kE173_9))) (ex_ct2 (ex_ct2 (ex_ct1 kE173_14) (ex_ct1 kE173_21)) (ex_ct2 (ex_ct1 kE173_29) (ex_ct1 kE173_36))))
set_option maxHeartbeats 100000 in
def k174_31 : ex_C := c_psh 4294967295 (c_ireturn  0)
set_option maxHeartbeats 100000 in
theorem kE174_31 : ex_CE 0 [] cd_174 k174_31 q174_31 := e_psh_iconst 31 4294967295 (-1) (e_ireturn 32 0 )
set_option maxHeartbeats 100000 in
def k174_25 : ex_C := c_iinc 5 1 (c_goto 7)
set_option maxHeartbeats 100000 in
theorem kE174_25 : ex_CE 0 [] cd_174 k174_25 q174_25 := e_iinc 25 1 5 1 (e_goto 28 7 (-21))
set_option maxHeartbeats 100000 in
def k174_7 : ex_C := c_iload 5 (c_iload 3 (c_icmp_ge 31 (c_aload 0 (c_iload 5 (c_baload (c_iload 4 (c_icmp_ne 25 (c_iload 5 (c_ireturn  0)))))))))
set_option maxHeartbeats 100000 in
theorem kE174_7 : ex_CE 0 [] cd_174 k174_7 q174_7 := e_iload_iload 7 0 5 (e_iload_iload_n 9 0 3 3 rfl (e_icmp_ge 10 31 21 (e_aload_aload_n 13 0 0 0 rfl (e_iload_iload 14 0 5 (e_baload 16 0 (e_iload_iload 17 0 4 (e_icmp_ne 19 25 6 (e_iload_iload 22 0 5 (e_ireturn 24 0 )))))))))
set_option maxHeartbeats 100000 in
def k174_0 : ex_C := c_iload 1 (c_i2b   (c_istore 4 (c_iload 2 (c_istore 5 (k174_7)))))
set_option maxHeartbeats 100000 in
theorem kE174_0 : ex_CE 0 [] cd_174 k174_0 q174_0 := e_iload_iload_n 0 0 1 1 rfl (e_i2b 1 0  (e_istore_istore 2 0 4 (e_iload_iload_n 4 0 2 2 rfl (e_istore_istore 5 0 5 (kE174_7)))))
def kt_174 : Nat → Option ex_C := fun pc => @Bool.rec (fun _ => Nat → Option ex_C) (fun pc => @Bool.rec (fun _ => Nat → Option ex_C) (fun pc => @Bool.rec (fun _ => Option ex_C) none (some k174_31) (Nat.beq pc 31)) (fun pc => @Bool.rec (fun _ => Option ex_C) none (some k174_25) (Nat.beq pc 25)) (Nat.ble pc 25) pc) (fun pc => @Bool.rec (fun _ => Nat → Option ex_C) (fun pc => @Bool.rec (fun _ => Option ex_C) none (some k174_7) (Nat.beq pc 7)) (fun pc => @Bool.rec (fun _ => Option ex_C) none (some k174_0) (Nat.beq pc 0)) (Nat.ble pc 0) pc) (Nat.ble pc 7) pc
theorem ktE_174 : ex_CTT 0 [] cd_174 kt_174 cd_174 := (ex_ct2 (ex_ct2 (ex_ct1 kE174_0) (ex_ct1 kE174_7)) (ex_ct2 (ex_ct1 kE174_25) (ex_ct1 kE174_31)))
set_option maxHeartbeats 100000 in
def k175_16 : ex_C := c_iload 0 (c_ireturn  0)
set_option maxHeartbeats 100000 in
theorem kE175_16 : ex_CE 0 [] cd_175 k175_16 q175_16 := e_iload_iload_n 16 0 0 0 rfl (e_ireturn 17 0 )
set_option maxHeartbeats 100000 in
def k175_9 : ex_C := c_aload 2 (c_iload 0 (c_iload 1 (c_none)))
set_option maxHeartbeats 100000 in
theorem kE175_9 : ex_CE 0 [] cd_175 k175_9 q175_9 := e_aload_aload_n 9 0 2 2 rfl (e_iload_iload_n 10 0 0 0 rfl (e_iload_iload_n 11 0 1 1 rfl (e_bad)))
set_option maxHeartbeats 100000 in
def k175_0 : ex_C := c_iload 0 (c_if_lt 9 (c_iload 0 (c_iload 1 (c_icmp_lt 16 (k175_9)))))
set_option maxHeartbeats 100000 in
theorem kE175_0 : ex_CE 0 [] cd_175 k175_0 q175_0 := e_iload_iload_n 0 0 0 0 rfl (e_if_lt 1 9 8 (e_iload_iload_n 4 0 0 0 rfl (e_iload_iload_n 5 0 1 1 rfl (e_icmp_lt 6 16 10 (kE175_9)))))
def kt_175 : Nat → Option ex_C := fun pc => @Bool.rec (fun _ => Nat → Option ex_C) (fun pc => @Bool.rec (fun _ => Nat → Option ex_C) (fun pc => @Bool.rec (fun _ => Option ex_C) none (some k175_16) (Nat.beq pc 16)) (fun pc => @Bool.rec (fun _ => Option ex_C) none (some k175_9) (Nat.beq pc 9)) (Nat.ble pc 9) pc) (fun pc => @Bool.rec (fun _ => Option ex_C) none (some k175_0) (Nat.beq pc 0)) (Nat.ble pc 0) pc
theorem ktE_175 : ex_CTT 0 [] cd_175 kt_175 cd_175 := (ex_ct2 (ex_ct1 kE175_0) (ex_ct2 (ex_ct1 kE175_9) (ex_ct1 kE175_16)))
set_option maxHeartbeats 100000 in
def k176_24 : ex_C := c_ireturn  0
set_option maxHeartbeats 100000 in
theorem kE176_24 : ex_CE 0 [] cd_176 k176_24 q176_24 := e_ireturn 24 0 
set_option maxHeartbeats 100000 in
def k176_15 : ex_C := c_aload 0 (c_iload 1 (c_psh 65535 (c_iand (c_aload 0 (c_arraylength   (c_irem   (c_iaload (k176_24))))))))
set_option maxHeartbeats 100000 in
theorem kE176_15 : ex_CE 0 [] cd_176 k176_15 q176_15 := e_aload_aload_n 15 0 0 0 rfl (e_iload_iload_n 16 0 1 1 rfl (e_psh_ldc 17 65535 7 (e_iand 19 0 (e_aload_aload_n 20 0 0 0 rfl (e_arraylength 21 0  (e_irem 22 0  (e_iaload 23 0 (kE176_24))))))))
set_option maxHeartbeats 100000 in
def k176_0 : ex_C := c_aload 0 (c_arraylength   (c_if_ne 15 (c_psh 71 (c_iload 1 (c_imul (c_psh 13 (c_iadd (c_goto 24))))))))
set_option maxHeartbeats 100000 in
theorem kE176_0 : ex_CE 0 [] cd_176 k176_0 q176_0 := e_aload_aload_n 0 0 0 0 rfl (e_arraylength 1 0  (e_if_ne 2 15 13 (e_psh_bipush 5 71 71 (e_iload_iload_n 7 0 1 1 rfl (e_imul 8 0 (e_psh_bipush 9 13 13 (e_iadd 11 0 (e_goto 12 24 12))))))))
def kt_176 : Nat → Option ex_C := fun pc => @Bool.rec (fun _ => Nat → Option ex_C) (fun pc => @Bool.rec (fun _ => Nat → Option ex_C) (fun pc => @Bool.rec (fun _ => Option ex_C) none (some k176_24) (Nat.beq pc 24)) (fun pc => @Bool.rec (fun _ => Option ex_C) none (some k176_15) (Nat.beq pc 15)) (Nat.ble pc 15) pc) (fun pc => @Bool.rec (fun _ => Option ex_C) none (some k176_0) (Nat.beq pc 0)) (Nat.ble pc 0) pc
theorem ktE_176 : ex_CTT 0 [] cd_176 kt_176 cd_176 := (ex_ct2 (ex_ct1 kE176_0) (ex_ct2 (ex_ct1 kE176_15) (ex_ct1 kE176_24)))
set_option maxHeartbeats 100000 in
def k177_7 : ex_C := c_psh 4294967295 (c_ireturn  0)
set_option maxHeartbeats 100000 in
theorem kE177_7 : ex_CE 0 [(0, 5, 6, 1)] cd_177 k177_7 q177_7 := e_psh_iconst 7 4294967295 (-1) (e_ireturn 8 0 )
set_option maxHeartbeats 100000 in
def k177_6 : ex_C := c_astore 2 (k177_7)
set_option maxHeartbeats 100000 in
theorem kE177_6 : ex_CE 0 [(0, 5, 6, 1)] cd_177 k177_6 q177_6 := e_astore_astore_n 6 7 2 2 rfl (kE177_7)
set_option maxHeartbeats 100000 in
def k177_5 : ex_C := c_ireturn  0
set_option maxHeartbeats 100000 in
theorem kE177_5 : ex_CE 0 [(0, 5, 6, 1)] cd_177 k177_5 q177_5 := e_ireturn 5 0 
set_option maxHeartbeats 100000 in
def k177_0 : ex_C := c_aload 0 (c_iload 1 (c_invV [(0, 5, 6, 1)] cd_177 2 2 95 0 (k177_5)))
set_option maxHeartbeats 100000 in
theorem kE177_0 : ex_CE 0 [(0, 5, 6, 1)] cd_177 k177_0 q177_0 := e_aload_aload_n 0 0 0 0 rfl (e_iload_iload_n 1 0 1 1 rfl (e_invV_invokevirtual 2 909314 8 2 95 0 rfl rfl rfl rfl rfl rfl (kE177_5)))
def kt_177 : Nat → Option ex_C := fun pc => @Bool.rec (fun _ => Nat → Option ex_C) (fun pc => @Bool.rec (fun _ => Nat → Option ex_C) (fun pc => @Bool.rec (fun _ => Option ex_C) none (some k177_7) (Nat.beq pc 7)) (fun pc => @Bool.rec (fun _ => Option ex_C) none (some k177_6) (Nat.beq pc 6)) (Nat.ble pc 6) pc) (fun pc => @Bool.rec (fun _ => Nat → Option ex_C) (fun pc => @Bool.rec (fun _ => Option ex_C) none (some k177_5) (Nat.beq pc 5)) (fun pc => @Bool.rec (fun _ => Option ex_C) none (some k177_0) (Nat.beq pc 0)) (Nat.ble pc 0) pc) (Nat.ble pc 5) pc
theorem ktE_177 : ex_CTT 0 [(0, 5, 6, 1)] cd_177 kt_177 cd_177 := (ex_ct2 (ex_ct2 (ex_ct1 kE177_0) (ex_ct1 kE177_5)) (ex_ct2 (ex_ct1 kE177_6) (ex_ct1 kE177_7)))
set_option maxHeartbeats 100000 in
def k178_7 : ex_C := c_psh 4294967295 (c_ireturn  0)
set_option maxHeartbeats 100000 in
theorem kE178_7 : ex_CE 0 [(0, 5, 6, 1)] cd_178 k178_7 q178_7 := e_psh_iconst 7 4294967295 (-1) (e_ireturn 8 0 )
set_option maxHeartbeats 100000 in
def k178_6 : ex_C := c_astore 2 (k178_7)
set_option maxHeartbeats 100000 in
theorem kE178_6 : ex_CE 0 [(0, 5, 6, 1)] cd_178 k178_6 q178_6 := e_astore_astore_n 6 7 2 2 rfl (kE178_7)
set_option maxHeartbeats 100000 in
def k178_5 : ex_C := c_ireturn  0
set_option maxHeartbeats 100000 in
theorem kE178_5 : ex_CE 0 [(0, 5, 6, 1)] cd_178 k178_5 q178_5 := e_ireturn 5 0 
set_option maxHeartbeats 100000 in
def k178_0 : ex_C := c_aload 0 (c_iload 1 (c_invV [(0, 5, 6, 1)] cd_178 2 2 96 0 (k178_5)))
set_option maxHeartbeats 100000 in
theorem kE178_0 : ex_CE 0 [(0, 5, 6, 1)] cd_178 k178_0 q178_0 := e_aload_aload_n 0 0 0 0 rfl (e_iload_iload_n 1 0 1 1 rfl (e_invV_invokevirtual 2 917506 16 2 96 0 rfl rfl rfl rfl rfl rfl (kE178_5)))
def kt_178 : Nat → Option ex_C := fun pc => @Bool.rec (fun _ => Nat → Option ex_C) (fun pc => @Bool.rec (fun _ => Nat → Option ex_C) (fun pc => @Bool.rec (fun _ => Option ex_C) none (some k178_7) (Nat.beq pc 7)) (fun pc => @Bool.rec (fun _ => Option ex_C) none (some k178_6) (Nat.beq pc 6)) (Nat.ble pc 6) pc) (fun pc => @Bool.rec (fun _ => Nat → Option ex_C) (fun pc => @Bool.rec (fun _ => Option ex_C) none (some k178_5) (Nat.beq pc 5)) (fun pc => @Bool.rec (fun _ => Option ex_C) none (some k178_0) (Nat.beq pc 0)) (Nat.ble pc 0) pc) (Nat.ble pc 5) pc
theorem ktE_178 : ex_CTT 0 [(0, 5, 6, 1)] cd_178 kt_178 cd_178 := (ex_ct2 (ex_ct2 (ex_ct1 kE178_0) (ex_ct1 kE178_5)) (ex_ct2 (ex_ct1 kE178_6) (ex_ct1 kE178_7)))
set_option maxHeartbeats 100000 in
def k179_7 : ex_C := c_psh 4294967295 (c_ireturn  0)
set_option maxHeartbeats 100000 in
theorem kE179_7 : ex_CE 0 [(0, 5, 6, 1)] cd_179 k179_7 q179_7 := e_psh_iconst 7 4294967295 (-1) (e_ireturn 8 0 )
set_option maxHeartbeats 100000 in
def k179_6 : ex_C := c_astore 2 (k179_7)
set_option maxHeartbeats 100000 in
theorem kE179_6 : ex_CE 0 [(0, 5, 6, 1)] cd_179 k179_6 q179_6 := e_astore_astore_n 6 7 2 2 rfl (kE179_7)
set_option maxHeartbeats 100000 in
def k179_5 : ex_C := c_ireturn  0
set_option maxHeartbeats 100000 in
theorem kE179_5 : ex_CE 0 [(0, 5, 6, 1)] cd_179 k179_5 q179_5 := e_ireturn 5 0 
set_option maxHeartbeats 100000 in
def k179_0 : ex_C := c_aload 0 (c_iload 1 (c_invV [(0, 5, 6, 1)] cd_179 2 2 97 0 (k179_5)))
set_option maxHeartbeats 100000 in
theorem kE179_0 : ex_CE 0 [(0, 5, 6, 1)] cd_179 k179_0 q179_0 := e_aload_aload_n 0 0 0 0 rfl (e_iload_iload_n 1 0 1 1 rfl (e_invV_invokevirtual 2 925698 19 2 97 0 rfl rfl rfl rfl rfl rfl (kE179_5)))
def kt_179 : Nat → Option ex_C := fun pc => @Bool.rec (fun _ => Nat → Option ex_C) (fun pc => @Bool.rec (fun _ => Nat → Option ex_C) (fun pc => @Bool.rec (fun _ => Option ex_C) none (some k179_7) (Nat.beq pc 7)) (fun pc => @Bool.rec (fun _ => Option ex_C) none (some k179_6) (Nat.beq pc 6)) (Nat.ble pc 6) pc) (fun pc => @Bool.rec (fun _ => Nat → Option ex_C) (fun pc => @Bool.rec (fun _ => Option ex_C) none (some k179_5) (Nat.beq pc 5)) (fun pc => @Bool.rec (fun _ => Option ex_C) none (some k179_0) (Nat.beq pc 0)) (Nat.ble pc 0) pc) (Nat.ble pc 5) pc
theorem ktE_179 : ex_CTT 0 [(0, 5, 6, 1)] cd_179 kt_179 cd_179 := (ex_ct2 (ex_ct2 (ex_ct1 kE179_0) (ex_ct1 kE179_5)) (ex_ct2 (ex_ct1 kE179_6) (ex_ct1 kE179_7)))
set_option maxHeartbeats 100000 in
def k180_21 : ex_C := c_psh 4294967293 (c_ireturn  0)
set_option maxHeartbeats 100000 in
theorem kE180_21 : ex_CE 0 [(0, 9, 10, 1), (0, 9, 14, 2), (0, 9, 19, 3)] cd_180 k180_21 q180_21 := e_psh_bipush 21 4294967293 (-3) (e_ireturn 23 0 )
set_option maxHeartbeats 100000 in
def k180_19 : ex_C := c_astore 5 (k180_21)
set_option maxHeartbeats 100000 in
theorem kE180_19 : ex_CE 0 [(0, 9, 10, 1), (0, 9, 14, 2), (0, 9, 19, 3)] cd_180 k180_19 q180_19 := e_astore_astore 19 21 5 (kE180_21)
set_option maxHeartbeats 100000 in
def k180_16 : ex_C := c_psh 4294967294 (c_ireturn  0)
set_option maxHeartbeats 100000 in
theorem kE180_16 : ex_CE 0 [(0, 9, 10, 1), (0, 9, 14, 2), (0, 9, 19, 3)] cd_180 k180_16 q180_16 := e_psh_bipush 16 4294967294 (-2) (e_ireturn 18 0 )
set_option maxHeartbeats 100000 in
def k180_14 : ex_C := c_astore 5 (k180_16)
set_option maxHeartbeats 100000 in
theorem kE180_14 : ex_CE 0 [(0, 9, 10, 1), (0, 9, 14, 2), (0, 9, 19, 3)] cd_180 k180_14 q180_14 := e_astore_astore 14 16 5 (kE180_16)
set_option maxHeartbeats 100000 in
def k180_12 : ex_C := c_psh 4294967295 (c_ireturn  0)
set_option maxHeartbeats 100000 in
theorem kE180_12 : ex_CE 0 [(0, 9, 10, 1), (0, 9, 14, 2), (0, 9, 19, 3)] cd_180 k180_12 q180_12 := e_psh_iconst 12 4294967295 (-1) (e_ireturn 13 0 )
set_option maxHeartbeats 100000 in
def k180_10 : ex_C := c_astore 5 (k180_12)
set_option maxHeartbeats 100000 in
theorem kE180_10 : ex_CE 0 [(0, 9, 10, 1), (0, 9, 14, 2), (0, 9, 19, 3)] cd_180 k180_10 q180_10 := e_astore_astore 10 12 5 (kE180_12)
set_option maxHeartbeats 100000 in
def k180_9 : ex_C := c_ireturn  0
set_option maxHeartbeats 100000 in
theorem kE180_9 : ex_CE 0 [(0, 9, 10, 1), (0, 9, 14, 2), (0, 9, 19, 3)] cd_180 k180_9 q180_9 := e_ireturn 9 0 
set_option maxHeartbeats 100000 in
def k180_0 : ex_C := c_aload 0 (c_iload 1 (c_iload 2 (c_iload 3 (c_iload 4 (c_invV [(0, 9, 10, 1), (0, 9, 14, 2), (0, 9, 19, 3)] cd_180 6 5 98 0 (k180_9))))))
set_option maxHeartbeats 100000 in
theorem kE180_0 : ex_CE 0 [(0, 9, 10, 1), (0, 9, 14, 2), (0, 9, 19, 3)] cd_180 k180_0 q180_0 := e_aload_aload_n 0 0 0 0 rfl (e_iload_iload_n 1 0 1 1 rfl (e_iload_iload_n 2 0 2 2 rfl (e_iload_iload_n 3 0 3 3 rfl (e_iload_iload 4 0 4 (e_invV_invokevirtual 6 933893 22 5 98 0 rfl rfl rfl rfl rfl rfl (kE180_9))))))
def kt_180 : Nat → Option ex_C := fun pc => @Bool.rec (fun _ => Nat → Option ex_C) (fun pc => @Bool.rec (fun _ => Nat → Option ex_C) (fun pc => @Bool.rec (fun _ => Nat → Option ex_C) (fun pc => @Bool.rec (fun _ => Option ex_C) none (some k180_21) (Nat.beq pc 21)) (fun pc => @Bool.rec (fun _ => Option ex_C) none (some k180_19) (Nat.beq pc 19)) (Nat.ble pc 19) pc) (fun pc => @Bool.rec (fun _ => Nat → Option ex_C) (fun pc => @Bool.rec (fun _ => Option ex_C) none (some k180_16) (Nat.beq pc 16)) (fun pc => @Bool.rec (fun _ => Option ex_C) none (some k180_14) (Nat.beq pc 14)) (Nat.ble pc 14) pc) (Nat.ble pc 16) pc) (fun pc => @Bool.rec (fun _ => Nat → Option ex_C) (fun pc => @Bool.rec (fun _ => Nat → Option ex_C) (fun pc => @Bool.rec (fun _ => Option ex_C) none (some k180_12) (Nat.beq pc 12)) (fun pc => @Bool.rec (fun _ => Option ex_C) none (some k180_10) (Nat.beq pc 10)) (Nat.ble pc 10) pc) (fun pc => @Bool.rec (fun _ => Nat → Option ex_C) (fun pc => @Bool.rec (fun _ => Option ex_C) none (some k180_9) (Nat.beq pc 9)) (fun pc => @Bool.rec (fun _ => Option ex_C) none (some k180_0) (Nat.beq pc 0)) (Nat.ble pc 0) pc) (Nat.ble pc 9) pc) (Nat.ble pc 12) pc
theorem ktE_180 : ex_CTT 0 [(0, 9, 10, 1), (0, 9, 14, 2), (0, 9, 19, 3)] cd_180 kt_180 cd_180 := (ex_ct2 (ex_ct2 (ex_ct2 (ex_ct1 kE180_0) (ex_ct1 kE180_9)) (ex_ct2 (ex_ct1 kE180_10) (ex_ct1 kE180_12))) (ex_ct2 (ex_ct2 (ex_ct1 kE180_14) (ex_ct1 kE180_16)) (ex_ct2 (ex_ct1 kE180_19) (ex_ct1 kE180_21))))
set_option maxHeartbeats 100000 in
def k181_11 : ex_C := c_psh 4294967294 (c_ireturn  0)
set_option maxHeartbeats 100000 in
theorem kE181_11 : ex_CE 0 [(0, 6, 7, 1), (0, 6, 10, 2)] cd_181 k181_11 q181_11 := e_psh_bipush 11 4294967294 (-2) (e_ireturn 13 0 )
set_option maxHeartbeats 100000 in
def k181_10 : ex_C := c_astore 3 (k181_11)
set_option maxHeartbeats 100000 in
theorem kE181_10 : ex_CE 0 [(0, 6, 7, 1), (0, 6, 10, 2)] cd_181 k181_10 q181_10 := e_astore_astore_n 10 11 3 3 rfl (kE181_11)
set_option maxHeartbeats 100000 in
def k181_8 : ex_C := c_psh 4294967295 (c_ireturn  0)
set_option maxHeartbeats 100000 in
theorem kE181_8 : ex_CE 0 [(0, 6, 7, 1), (0, 6, 10, 2)] cd_181 k181_8 q181_8 := e_psh_iconst 8 4294967295 (-1) (e_ireturn 9 0 )
set_option maxHeartbeats 100000 in
def k181_7 : ex_C := c_astore 3 (k181_8)
set_option maxHeartbeats 100000 in
theorem kE181_7 : ex_CE 0 [(0, 6, 7, 1), (0, 6, 10, 2)] cd_181 k181_7 q181_7 := e_astore_astore_n 7 8 3 3 rfl (kE181_8)
set_option maxHeartbeats 100000 in
def k181_6 : ex_C := c_ireturn  0
set_option maxHeartbeats 100000 in
theorem kE181_6 : ex_CE 0 [(0, 6, 7, 1), (0, 6, 10, 2)] cd_181 k181_6 q181_6 := e_ireturn 6 0 
set_option maxHeartbeats 100000 in
def k181_0 : ex_C := c_aload 0 (c_iload 1 (c_iload 2 (c_invV [(0, 6, 7, 1), (0, 6, 10, 2)] cd_181 3 3 99 0 (k181_6))))
set_option maxHeartbeats 100000 in
theorem kE181_0 : ex_CE 0 [(0, 6, 7, 1), (0, 6, 10, 2)] cd_181 k181_0 q181_0 := e_aload_aload_n 0 0 0 0 rfl (e_iload_iload_n 1 0 1 1 rfl (e_iload_iload_n 2 0 2 2 rfl (e_invV_invokevirtual 3 942083 30 3 99 0 rfl rfl rfl rfl rfl rfl (kE181_6))))
def kt_181 : Nat → Option ex_C := fun pc => @Bool.rec (fun _ => Nat → Option ex_C) (fun pc => @Bool.rec (fun _ => Nat → Option ex_C) (fun pc => @Bool.rec (fun _ => Nat → Option ex_C) (fun pc => @Bool.rec (fun _ => Option ex_C) none (some k181_11) (Nat.beq pc 11)) (fun pc => @Bool.rec (fun _ => Option ex_C) none (some k181_10) (Nat.beq pc 10)) (Nat.ble pc 10) pc) (fun pc => @Bool.rec (fun _ => Option ex_C) none (some k181_8) (Nat.beq pc 8)) (Nat.ble pc 8) pc) (fun pc => @Bool.rec (fun _ => Nat → Option ex_C) (fun pc => @Bool.rec (fun _ => Nat → Option ex_C) (fun pc => @Bool.rec (fun _ => Option ex_C) none (some k181_7) (Nat.beq pc 7)) (fun pc => @Bool.rec (fun _ => Option ex_C) none (some k181_6) (Nat.beq pc 6)) (Nat.ble pc 6) pc) (fun pc => @Bool.rec (fun _ => Option ex_C) none (some k181_0) (Nat.beq pc 0)) (Nat.ble pc 0) pc) (Nat.ble pc 7) pc
theorem ktE_181 : ex_CTT 0 [(0, 6, 7, 1), (0, 6, 10, 2)] cd_181 kt_181 cd_181 := (ex_ct2 (ex_ct2 (ex_ct1 kE181_0) (ex_ct2 (ex_ct1 kE181_6) (ex_ct1 kE181_7))) (ex_ct2 (ex_ct1 kE181_8) (ex_ct2 (ex_ct1 kE181_10) (ex_ct1 kE181_11))))
set_option maxHeartbeats 100000 in
def k182_7 : ex_C := c_psh 4294967295 (c_ireturn  0)
set_option maxHeartbeats 100000 in
theorem kE182_7 : ex_CE 0 [(0, 5, 6, 2)] cd_182 k182_7 q182_7 := e_psh_iconst 7 4294967295 (-1) (e_ireturn 8 0 )
set_option maxHeartbeats 100000 in
def k182_6 : ex_C := c_astore 2 (k182_7)
set_option maxHeartbeats 100000 in
theorem kE182_6 : ex_CE 0 [(0, 5, 6, 2)] cd_182 k182_6 q182_6 := e_astore_astore_n 6 7 2 2 rfl (kE182_7)
set_option maxHeartbeats 100000 in
def k182_5 : ex_C := c_ireturn  0
set_option maxHeartbeats 100000 in
theorem kE182_5 : ex_CE 0 [(0, 5, 6, 2)] cd_182 k182_5 q182_5 := e_ireturn 5 0 
set_option maxHeartbeats 100000 in
def k182_0 : ex_C := c_aload 0 (c_iload 1 (c_invV [(0, 5, 6, 2)] cd_182 2 2 100 0 (k182_5)))
set_option maxHeartbeats 100000 in
theorem kE182_0 : ex_CE 0 [(0, 5, 6, 2)] cd_182 k182_0 q182_0 := e_aload_aload_n 0 0 0 0 rfl (e_iload_iload_n 1 0 1 1 rfl (e_invV_invokevirtual 2 950274 34 2 100 0 rfl rfl rfl rfl rfl rfl (kE182_5)))
def kt_182 : Nat → Option ex_C := fun pc => @Bool.rec (fun _ => Nat → Option ex_C) (fun pc => @Bool.rec (fun _ => Nat → Option ex_C) (fun pc => @Bool.rec (fun _ => Option ex_C) none (some k182_7) (Nat.beq pc 7)) (fun pc => @Bool.rec (fun _ => Option ex_C) none (some k182_6) (Nat.beq pc 6)) (Nat.ble pc 6) pc) (fun pc => @Bool.rec (fun _ => Nat → Option ex_C) (fun pc => @Bool.rec (fun _ => Option ex_C) none (some k182_5) (Nat.beq pc 5)) (fun pc => @Bool.rec (fun _ => Option ex_C) none (some k182_0) (Nat.beq pc 0)) (Nat.ble pc 0) pc) (Nat.ble pc 5) pc
theorem ktE_182 : ex_CTT 0 [(0, 5, 6, 2)] cd_182 kt_182 cd_182 := (ex_ct2 (ex_ct2 (ex_ct1 kE182_0) (ex_ct1 kE182_5)) (ex_ct2 (ex_ct1 kE182_6) (ex_ct1 kE182_7)))
set_option maxHeartbeats 100000 in
def k183_8 : ex_C := c_psh 4294967295 (c_ireturn  0)
set_option maxHeartbeats 100000 in
theorem kE183_8 : ex_CE 0 [(0, 6, 7, 4)] cd_183 k183_8 q183_8 := e_psh_iconst 8 4294967295 (-1) (e_ireturn 9 0 )
set_option maxHeartbeats 100000 in
def k183_7 : ex_C := c_astore 3 (k183_8)
set_option maxHeartbeats 100000 in
theorem kE183_7 : ex_CE 0 [(0, 6, 7, 4)] cd_183 k183_7 q183_7 := e_astore_astore_n 7 8 3 3 rfl (kE183_8)
set_option maxHeartbeats 100000 in
def k183_6 : ex_C := c_ireturn  0
set_option maxHeartbeats 100000 in
theorem kE183_6 : ex_CE 0 [(0, 6, 7, 4)] cd_183 k183_6 q183_6 := e_ireturn 6 0 
set_option maxHeartbeats 100000 in
def k183_0 : ex_C := c_aload 0 (c_iload 1 (c_iload 2 (c_invV [(0, 6, 7, 4)] cd_183 3 3 101 0 (k183_6))))
set_option maxHeartbeats 100000 in
theorem kE183_0 : ex_CE 0 [(0, 6, 7, 4)] cd_183 k183_0 q183_0 := e_aload_aload_n 0 0 0 0 rfl (e_iload_iload_n 1 0 1 1 rfl (e_iload_iload_n 2 0 2 2 rfl (e_invV_invokevirtual 3 958467 37 3 101 0 rfl rfl rfl rfl rfl rfl (kE183_6))))
def kt_183 : Nat → Option ex_C := fun pc => @Bool.rec (fun _ => Nat → Option ex_C) (fun pc => @Bool.rec (fun _ => Nat → Option ex_C) (fun pc => @Bool.rec (fun _ => Option ex_C) none (some k183_8) (Nat.beq pc 8)) (fun pc => @Bool.rec (fun _ => Option ex_C) none (some k183_7) (Nat.beq pc 7)) (Nat.ble pc 7) pc) (fun pc => @Bool.rec (fun _ => Nat → Option ex_C) (fun pc => @Bool.rec (fun _ => Option ex_C) none (some k183_6) (Nat.beq pc 6)) (fun pc => @Bool.rec (fun _ => Option ex_C) none (some k183_0) (Nat.beq pc 0)) (Nat.ble pc 0) pc) (Nat.ble pc 6) pc
theorem ktE_183 : ex_CTT 0 [(0, 6, 7, 4)] cd_183 kt_183 cd_183 := (ex_ct2 (ex_ct2 (ex_ct1 kE183_0) (ex_ct1 kE183_6)) (ex_ct2 (ex_ct1 kE183_7) (ex_ct1 kE183_8)))
set_option maxHeartbeats 100000 in
def k184_11 : ex_C := c_psh 4294967294 (c_ireturn  0)
set_option maxHeartbeats 100000 in
theorem kE184_11 : ex_CE 0 [(0, 6, 7, 1), (0, 6, 10, 2)] cd_184 k184_11 q184_11 := e_psh_bipush 11 4294967294 (-2) (e_ireturn 13 0 )
set_option maxHeartbeats 100000 in
def k184_10 : ex_C := c_astore 3 (k184_11)
set_option maxHeartbeats 100000 in
theorem kE184_10 : ex_CE 0 [(0, 6, 7, 1), (0, 6, 10, 2)] cd_184 k184_10 q184_10 := e_astore_astore_n 10 11 3 3 rfl (kE184_11)
set_option maxHeartbeats 100000 in
def k184_8 : ex_C := c_psh 4294967295 (c_ireturn  0)
set_option maxHeartbeats 100000 in
theorem kE184_8 : ex_CE 0 [(0, 6, 7, 1), (0, 6, 10, 2)] cd_184 k184_8 q184_8 := e_psh_iconst 8 4294967295 (-1) (e_ireturn 9 0 )
set_option maxHeartbeats 100000 in
def k184_7 : ex_C := c_astore 3 (k184_8)
set_option maxHeartbeats 100000 in
theorem kE184_7 : ex_CE 0 [(0, 6, 7, 1), (0, 6, 10, 2)] cd_184 k184_7 q184_7 := e_astore_astore_n 7 8 3 3 rfl (kE184_8)
set_option maxHeartbeats 100000 in
def k184_6 : ex_C := c_ireturn  0
set_option maxHeartbeats 100000 in
theorem kE184_6 : ex_CE 0 [(0, 6, 7, 1), (0, 6, 10, 2)] cd_184 k184_6 q184_6 := e_ireturn 6 0 
set_option maxHeartbeats 100000 in
def k184_0 : ex_C := c_aload 0 (c_iload 1 (c_iload 2 (c_invV [(0, 6, 7, 1), (0, 6, 10, 2)] cd_184 3 3 102 0 (k184_6))))
set_option maxHeartbeats 100000 in
theorem kE184_0 : ex_CE 0 [(0, 6, 7, 1), (0, 6, 10, 2)] cd_184 k184_0 q184_0 := e_aload_aload_n 0 0 0 0 rfl (e_iload_iload_n 1 0 1 1 rfl (e_iload_iload_n 2 0 2 2 rfl (e_invV_invokevirtual 3 966659 42 3 102 0 rfl rfl rfl rfl rfl rfl (kE184_6))))
def kt_184 : Nat → Option ex_C := fun pc => @Bool.rec (fun _ => Nat → Option ex_C) (fun pc => @Bool.rec (fun _ => Nat → Option ex_C) (fun pc => @Bool.rec (fun _ => Nat → Option ex_C) (fun pc => @Bool.rec (fun _ => Option ex_C) none (some k184_11) (Nat.beq pc 11)) (fun pc => @Bool.rec (fun _ => Option ex_C) none (some k184_10) (Nat.beq pc 10)) (Nat.ble pc 10) pc) (fun pc => @Bool.rec (fun _ => Option ex_C) none (some k184_8) (Nat.beq pc 8)) (Nat.ble pc 8) pc) (fun pc => @Bool.rec (fun _ => Nat → Option ex_C) (fun pc => @Bool.rec (fun _ => Nat → Option ex_C) (fun pc => @Bool.rec (fun _ => Option ex_C) none (some k184_7) (Nat.beq pc 7)) (fun pc => @Bool.rec (fun _ => Option ex_C) none (some k184_6) (Nat.beq pc 6)) (Nat.ble pc 6) pc) (fun pc => @Bool.rec (fun _ => Option ex_C) none (some k184_0) (Nat.beq pc 0)) (Nat.ble pc 0) pc) (Nat.ble pc 7) pc
theorem ktE_184 : ex_CTT 0 [(0, 6, 7, 1), (0, 6, 10, 2)] cd_184 kt_184 cd_184 := (ex_ct2 (ex_ct2 (ex_ct1 kE184_0) (ex_ct2 (ex_ct1 kE184_6) (ex_ct1 kE184_7))) (ex_ct2 (ex_ct1 kE184_8) (ex_ct2 (ex_ct1 kE184_10) (ex_ct1 kE184_11))))
set_option maxHeartbeats 100000 in
def k185_18 : ex_C := c_psh 4294967294 (c_ireturn  0)
set_option maxHeartbeats 100000 in
theorem kE185_18 : ex_CE 0 [(0, 11, 12, 2), (0, 11, 16, 5)] cd_185 k185_18 q185_18 := e_psh_bipush 18 4294967294 (-2) (e_ireturn 20 0 )
set_option maxHeartbeats 100000 in
def k185_16 : ex_C := c_astore 6 (k185_18)
set_option maxHeartbeats 100000 in
theorem kE185_16 : ex_CE 0 [(0, 11, 12, 2), (0, 11, 16, 5)] cd_185 k185_16 q185_16 := e_astore_astore 16 18 6 (kE185_18)
set_option maxHeartbeats 100000 in
def k185_14 : ex_C := c_psh 4294967295 (c_ireturn  0)
set_option maxHeartbeats 100000 in
theorem kE185_14 : ex_CE 0 [(0, 11, 12, 2), (0, 11, 16, 5)] cd_185 k185_14 q185_14 := e_psh_iconst 14 4294967295 (-1) (e_ireturn 15 0 )
set_option maxHeartbeats 100000 in
def k185_12 : ex_C := c_astore 6 (k185_14)
set_option maxHeartbeats 100000 in
theorem kE185_12 : ex_CE 0 [(0, 11, 12, 2), (0, 11, 16, 5)] cd_185 k185_12 q185_12 := e_astore_astore 12 14 6 (kE185_14)
set_option maxHeartbeats 100000 in
def k185_11 : ex_C := c_ireturn  0
set_option maxHeartbeats 100000 in
theorem kE185_11 : ex_CE 0 [(0, 11, 12, 2), (0, 11, 16, 5)] cd_185 k185_11 q185_11 := e_ireturn 11 0 
set_option maxHeartbeats 100000 in
def k185_0 : ex_C := c_aload 0 (c_iload 1 (c_iload 2 (c_iload 3 (c_iload 4 (c_iload 5 (c_invV [(0, 11, 12, 2), (0, 11, 16, 5)] cd_185 8 6 103 0 (k185_11)))))))
set_option maxHeartbeats 100000 in
theorem kE185_0 : ex_CE 0 [(0, 11, 12, 2), (0, 11, 16, 5)] cd_185 k185_0 q185_0 := e_aload_aload_n 0 0 0 0 rfl (e_iload_iload_n 1 0 1 1 rfl (e_iload_iload_n 2 0 2 2 rfl (e_iload_iload_n 3 0 3 3 rfl (e_iload_iload 4 0 4 (e_iload_iload 6 0 5 (e_invV_invokevirtual 8 974854 57 6 103 0 rfl rfl rfl rfl rfl rfl (kE185_11)))))))
def kt_185 : Nat → Option ex_C := fun pc => @Bool.rec (fun _ => Nat → Option ex_C) (fun pc => @Bool.rec (fun _ => Nat → Option ex_C) (fun pc => @Bool.rec (fun _ => Nat → Option ex_C) (fun pc => @Bool.rec (fun _ => Option ex_C) none (some k185_18) (Nat.beq pc 18)) (fun pc => @Bool.rec (fun _ => Option ex_C) none (some k185_16) (Nat.beq pc 16)) (Nat.ble pc 16) pc) (fun pc => @Bool.rec (fun _ => Option ex_C) none (some k185_14) (Nat.beq pc 14)) (Nat.ble pc 14) pc) (fun pc => @Bool.rec (fun _ => Nat → Option ex_C) (fun pc => @Bool.rec (fun _ => Nat → Option ex_C) (fun pc => @Bool.rec (fun _ => Option ex_C) none (some k185_12) (Nat.beq pc 12)) (fun pc => @Bool.rec (fun _ => Option ex_C) none (some k185_11) (Nat.beq pc 11)) (Nat.ble pc 11) pc) (fun pc => @Bool.rec (fun _ => Option ex_C) none (some k185_0) (Nat.beq pc 0)) (Nat.ble pc 0) pc) (Nat.ble pc 12) pc
theorem ktE_185 : ex_CTT 0 [(0, 11, 12, 2), (0, 11, 16, 5)] cd_185 kt_185 cd_185 := (ex_ct2 (ex_ct2 (ex_ct1 kE185_0) (ex_ct2 (ex_ct1 kE185_11) (ex_ct1 kE185_12))) (ex_ct2 (ex_ct1 kE185_14) (ex_ct2 (ex_ct1 kE185_16) (ex_ct1 kE185_18))))
set_option maxHeartbeats 100000 in
def k186_10 : ex_C := c_psh 4294967294 (c_ireturn  0)
set_option maxHeartbeats 100000 in
theorem kE186_10 : ex_CE 0 [(0, 5, 6, 2), (0, 5, 9, 4)] cd_186 k186_10 q186_10 := e_psh_bipush 10 4294967294 (-2) (e_ireturn 12 0 )
set_option maxHeartbeats 100000 in
def k186_9 : ex_C := c_astore 2 (k186_10)
set_option maxHeartbeats 100000 in
theorem kE186_9 : ex_CE 0 [(0, 5, 6, 2), (0, 5, 9, 4)] cd_186 k186_9 q186_9 := e_astore_astore_n 9 10 2 2 rfl (kE186_10)
set_option maxHeartbeats 100000 in
def k186_7 : ex_C := c_psh 4294967295 (c_ireturn  0)
set_option maxHeartbeats 100000 in
theorem kE186_7 : ex_CE 0 [(0, 5, 6, 2), (0, 5, 9, 4)] cd_186 k186_7 q186_7 := e_psh_iconst 7 4294967295 (-1) (e_ireturn 8 0 )
set_option maxHeartbeats 100000 in
def k186_6 : ex_C := c_astore 2 (k186_7)
set_option maxHeartbeats 100000 in
theorem kE186_6 : ex_CE 0 [(0, 5, 6, 2), (0, 5, 9, 4)] cd_186 k186_6 q186_6 := e_astore_astore_n 6 7 2 2 rfl (kE186_7)
set_option maxHeartbeats 100000 in
def k186_5 : ex_C := c_ireturn  0
set_option maxHeartbeats 100000 in
theorem kE186_5 : ex_CE 0 [(0, 5, 6, 2), (0, 5, 9, 4)] cd_186 k186_5 q186_5 := e_ireturn 5 0 
set_option maxHeartbeats 100000 in
def k186_0 : ex_C := c_aload 0 (c_iload 1 (c_invV [(0, 5, 6, 2), (0, 5, 9, 4)] cd_186 2 2 104 0 (k186_5)))
set_option maxHeartbeats 100000 in
theorem kE186_0 : ex_CE 0 [(0, 5, 6, 2), (0, 5, 9, 4)] cd_186 k186_0 q186_0 := e_aload_aload_n 0 0 0 0 rfl (e_iload_iload_n 1 0 1 1 rfl (e_invV_invokevirtual 2 983042 69 2 104 0 rfl rfl rfl rfl rfl rfl (kE186_5)))
def kt_186 : Nat → Option ex_C := fun pc => @Bool.rec (fun _ => Nat → Option ex_C) (fun pc => @Bool.rec (fun _ => Nat → Option ex_C) (fun pc => @Bool.rec (fun _ => Nat → Option ex_C) (fun pc => @Bool.rec (fun _ => Option ex_C) none (some k186_10) (Nat.beq pc 10)) (fun pc => @Bool.rec (fun _ => Option ex_C) none (some k186_9) (Nat.beq pc 9)) (Nat.ble pc 9) pc) (fun pc => @Bool.rec (fun _ => Option ex_C) none (some k186_7) (Nat.beq pc 7)) (Nat.ble pc 7) pc) (fun pc => @Bool.rec (fun _ => Nat → Option ex_C) (fun pc => @Bool.rec (fun _ => Nat → Option ex_C) (fun pc => @Bool.rec (fun _ => Option ex_C) none (some k186_6) (Nat.beq pc 6)) (fun pc => @Bool.rec (fun _ => Option ex_C) none (some k186_5) (Nat.beq pc 5)) (Nat.ble pc 5) pc) (fun pc => @Bool.rec (fun _ => Option ex_C) none (some k186_0) (Nat.beq pc 0)) (Nat.ble pc 0) pc) (Nat.ble pc 6) pc
theorem ktE_186 : ex_CTT 0 [(0, 5, 6, 2), (0, 5, 9, 4)] cd_186 kt_186 cd_186 := (ex_ct2 (ex_ct2 (ex_ct1 kE186_0) (ex_ct2 (ex_ct1 kE186_5) (ex_ct1 kE186_6))) (ex_ct2 (ex_ct1 kE186_7) (ex_ct2 (ex_ct1 kE186_9) (ex_ct1 kE186_10))))
set_option maxHeartbeats 100000 in
def k187_23 : ex_C := c_psh 4294967293 (c_ireturn  0)
set_option maxHeartbeats 100000 in
theorem kE187_23 : ex_CE 0 [(0, 11, 12, 2), (0, 11, 16, 4), (0, 11, 21, 3)] cd_187 k187_23 q187_23 := e_psh_bipush 23 4294967293 (-3) (e_ireturn 25 0 )
set_option maxHeartbeats 100000 in
def k187_21 : ex_C := c_astore 6 (k187_23)
set_option maxHeartbeats 100000 in
theorem kE187_21 : ex_CE 0 [(0, 11, 12, 2), (0, 11, 16, 4), (0, 11, 21, 3)] cd_187 k187_21 q187_21 := e_astore_astore 21 23 6 (kE187_23)
set_option maxHeartbeats 100000 in
def k187_18 : ex_C := c_psh 4294967294 (c_ireturn  0)
set_option maxHeartbeats 100000 in
theorem kE187_18 : ex_CE 0 [(0, 11, 12, 2), (0, 11, 16, 4), (0, 11, 21, 3)] cd_187 k187_18 q187_18 := e_psh_bipush 18 4294967294 (-2) (e_ireturn 20 0 )
set_option maxHeartbeats 100000 in
def k187_16 : ex_C := c_astore 6 (k187_18)
set_option maxHeartbeats 100000 in
theorem kE187_16 : ex_CE 0 [(0, 11, 12, 2), (0, 11, 16, 4), (0, 11, 21, 3)] cd_187 k187_16 q187_16 := e_astore_astore 16 18 6 (kE187_18)
set_option maxHeartbeats 100000 in
def k187_14 : ex_C := c_psh 4294967295 (c_ireturn  0)
set_option maxHeartbeats 100000 in
theorem kE187_14 : ex_CE 0 [(0, 11, 12, 2), (0, 11, 16, 4), (0, 11, 21, 3)] cd_187 k187_14 q187_14 := e_psh_iconst 14 4294967295 (-1) (e_ireturn 15 0 )
set_option maxHeartbeats 100000 in
def k187_12 : ex_C := c_astore 6 (k187_14)
set_option maxHeartbeats 100000 in
theorem kE187_12 : ex_CE 0 [(0, 11, 12, 2), (0, 11, 16, 4), (0, 11, 21, 3)] cd_187 k187_12 q187_12 := e_astore_astore 12 14 6 (kE187_14)
set_option maxHeartbeats 100000 in
def k187_11 : ex_C := c_ireturn  0
set_option maxHeartbeats 100000 in
theorem kE187_11 : ex_CE 0 [(0, 11, 12, 2), (0, 11, 16, 4), (0, 11, 21, 3)] cd_187 k187_11 q187_11 := e_ireturn 11 0 
set_option maxHeartbeats 100000 in
def k187_0 : ex_C := c_aload 0 (c_iload 1 (c_iload 2 (c_iload 3 (c_iload 4 (c_iload 5 (c_invV [(0, 11, 12, 2), (0, 11, 16, 4), (0, 11, 21, 3)] cd_187 8 6 105 0 (k187_11)))))))
set_option maxHeartbeats 100000 in
theorem kE187_0 : ex_CE 0 [(0, 11, 12, 2), (0, 11, 16, 4), (0, 11, 21, 3)] cd_187 k187_0 q187_0 := e_aload_aload_n 0 0 0 0 rfl (e_iload_iload_n 1 0 1 1 rfl (e_iload_iload_n 2 0 2 2 rfl (e_iload_iload_n 3 0 3 3 rfl (e_iload_iload 4 0 4 (e_iload_iload 6 0 5 (e_invV_invokevirtual 8 991238 78 6 105 0 rfl rfl rfl rfl rfl rfl (kE187_11)))))))
def kt_187 : Nat → Option ex_C := fun pc => @Bool.rec (fun _ => Nat → Option ex_C) (fun pc => @Bool.rec (fun _ => Nat → Option ex_C) (fun pc => @Bool.rec (fun _ => Nat → Option ex_C) (fun pc => @Bool.rec (fun _ => Option ex_C) none (some k187_23) (Nat.beq pc 23)) (fun pc => @Bool.rec (fun _ => Option ex_C) none (some k187_21) (Nat.beq pc 21)) (Nat.ble pc 21) pc) (fun pc => @Bool.rec (fun _ => Nat → Option ex_C) (fun pc => @Bool.rec (fun _ => Option ex_C) none (some k187_18) (Nat.beq pc 18)) (fun pc => @Bool.rec (fun _ => Option ex_C) none (some k187_16) (Nat.beq pc 16)) (Nat.ble pc 16) pc) (Nat.ble pc 18) pc) (fun pc => @Bool.rec (fun _ => Nat → Option ex_C) (fun pc => @Bool.rec (fun _ => Nat → Option ex_C) (fun pc => @Bool.rec (fun _ => Option ex_C) none (some k187_14) (Nat.beq pc 14)) (fun pc => @Bool.rec (fun _ => Option ex_C) none (some k187_12) (Nat.beq pc 12)) (Nat.ble pc 12) pc) (fun pc => @Bool.rec (fun _ => Nat → Option ex_C) (fun pc => @Bool.rec (fun _ => Option ex_C) none (some k187_11) (Nat.beq pc 11)) (fun pc => @Bool.rec (fun _ => Option ex_C) none (some k187_0) (Nat.beq pc 0)) (Nat.ble pc 0) pc) (Nat.ble pc 11) pc) (Nat.ble pc 14) pc
theorem ktE_187 : ex_CTT 0 [(0, 11, 12, 2), (0, 11, 16, 4), (0, 11, 21, 3)] cd_187 kt_187 cd_187 := (ex_ct2 (ex_ct2 (ex_ct2 (ex_ct1 kE187_0) (ex_ct1 kE187_11)) (ex_ct2 (ex_ct1 kE187_12) (ex_ct1 kE187_14))) (ex_ct2 (ex_ct2 (ex_ct1 kE187_16) (ex_ct1 kE187_18)) (ex_ct2 (ex_ct1 kE187_21) (ex_ct1 kE187_23))))
set_option maxHeartbeats 100000 in
def k188_9 : ex_C := c_psh 4294967294 (c_ireturn  0)
set_option maxHeartbeats 100000 in
theorem kE188_9 : ex_CE 0 [(0, 4, 5, 5), (0, 4, 8, 3)] cd_188 k188_9 q188_9 := e_psh_bipush 9 4294967294 (-2) (e_ireturn 11 0 )
set_option maxHeartbeats 100000 in
def k188_8 : ex_C := c_astore 1 (k188_9)
set_option maxHeartbeats 100000 in
theorem kE188_8 : ex_CE 0 [(0, 4, 5, 5), (0, 4, 8, 3)] cd_188 k188_8 q188_8 := e_astore_astore_n 8 9 1 1 rfl (kE188_9)
set_option maxHeartbeats 100000 in
def k188_6 : ex_C := c_psh 4294967295 (c_ireturn  0)
set_option maxHeartbeats 100000 in
theorem kE188_6 : ex_CE 0 [(0, 4, 5, 5), (0, 4, 8, 3)] cd_188 k188_6 q188_6 := e_psh_iconst 6 4294967295 (-1) (e_ireturn 7 0 )
set_option maxHeartbeats 100000 in
def k188_5 : ex_C := c_astore 1 (k188_6)
set_option maxHeartbeats 100000 in
theorem kE188_5 : ex_CE 0 [(0, 4, 5, 5), (0, 4, 8, 3)] cd_188 k188_5 q188_5 := e_astore_astore_n 5 6 1 1 rfl (kE188_6)
set_option maxHeartbeats 100000 in
def k188_4 : ex_C := c_ireturn  0
set_option maxHeartbeats 100000 in
theorem kE188_4 : ex_CE 0 [(0, 4, 5, 5), (0, 4, 8, 3)] cd_188 k188_4 q188_4 := e_ireturn 4 0 
set_option maxHeartbeats 100000 in
def k188_0 : ex_C := c_aload 0 (c_invV [(0, 4, 5, 5), (0, 4, 8, 3)] cd_188 1 1 106 0 (k188_4))
set_option maxHeartbeats 100000 in
theorem kE188_0 : ex_CE 0 [(0, 4, 5, 5), (0, 4, 8, 3)] cd_188 k188_0 q188_0 := e_aload_aload_n 0 0 0 0 rfl (e_invV_invokevirtual 1 999425 82 1 106 0 rfl rfl rfl rfl rfl rfl (kE188_4))
def kt_188 : Nat → Option ex_C := fun pc => @Bool.rec (fun _ => Nat → Option ex_C) (fun pc => @Bool.rec (fun _ => Nat → Option ex_C) (fun pc => @Bool.rec (fun _ => Nat → Option ex_C) (fun pc => @Bool.rec (fun _ => Option ex_C) none (some k188_9) (Nat.beq pc 9)) (fun pc => @Bool.rec (fun _ => Option ex_C) none (some k188_8) (Nat.beq pc 8)) (Nat.ble pc 8) pc) (fun pc => @Bool.rec (fun _ => Option ex_C) none (some k188_6) (Nat.beq pc 6)) (Nat.ble pc 6) pc) (fun pc => @Bool.rec (fun _ => Nat → Option ex_C) (fun pc => @Bool.rec (fun _ => Nat → Option ex_C) (fun pc => @Bool.rec (fun _ => Option ex_C) none (some k188_5) (Nat.beq pc 5)) (fun pc => @Bool.rec (fun _ => Option ex_C) none (some k188_4) (Nat.beq pc 4)) (Nat.ble pc 4) pc) (fun pc => @Bool.rec (fun _ => Option ex_C) none (some k188_0) (Nat.beq pc 0)) (Nat.ble pc 0) pc) (Nat.ble pc 5) pc
theorem ktE_188 : ex_CTT 0 [(0, 4, 5, 5), (0, 4, 8, 3)] cd_188 kt_188 cd_188 := (ex_ct2 (ex_ct2 (ex_ct1 kE188_0) (ex_ct2 (ex_ct1 kE188_4) (ex_ct1 kE188_5))) (ex_ct2 (ex_ct1 kE188_6) (ex_ct2 (ex_ct1 kE188_8) (ex_ct1 kE188_9))))
set_option maxHeartbeats 100000 in
def k189_6 : ex_C := c_psh 4294967295 (c_ireturn  0)
set_option maxHeartbeats 100000 in
theorem kE189_6 : ex_CE 0 [(0, 4, 5, 4)] cd_189 k189_6 q189_6 := e_psh_iconst 6 4294967295 (-1) (e_ireturn 7 0 )
set_option maxHeartbeats 100000 in
def k189_5 : ex_C := c_astore 1 (k189_6)
set_option maxHeartbeats 100000 in
theorem kE189_5 : ex_CE 0 [(0, 4, 5, 4)] cd_189 k189_5 q189_5 := e_astore_astore_n 5 6 1 1 rfl (kE189_6)
set_option maxHeartbeats 100000 in
def k189_4 : ex_C := c_ireturn  0
set_option maxHeartbeats 100000 in
theorem kE189_4 : ex_CE 0 [(0, 4, 5, 4)] cd_189 k189_4 q189_4 := e_ireturn 4 0 
set_option maxHeartbeats 100000 in
def k189_0 : ex_C := c_aload 0 (c_invV [(0, 4, 5, 4)] cd_189 1 1 109 0 (k189_4))
set_option maxHeartbeats 100000 in
theorem kE189_0 : ex_CE 0 [(0, 4, 5, 4)] cd_189 k189_0 q189_0 := e_aload_aload_n 0 0 0 0 rfl (e_invV_invokevirtual 1 1024001 86 1 109 0 rfl rfl rfl rfl rfl rfl (kE189_4))
def kt_189 : Nat → Option ex_C := fun pc => @Bool.rec (fun _ => Nat → Option ex_C) (fun pc => @Bool.rec (fun _ => Nat → Option ex_C) (fun pc => @Bool.rec (fun _ => Option ex_C) none (some k189_6) (Nat.beq pc 6)) (fun pc => @Bool.rec (fun _ => Option ex_C) none (some k189_5) (Nat.beq pc 5)) (Nat.ble pc 5) pc) (fun pc => @Bool.rec (fun _ => Nat → Option ex_C) (fun pc => @Bool.rec (fun _ => Option ex_C) none (some k189_4) (Nat.beq pc 4)) (fun pc => @Bool.rec (fun _ => Option ex_C) none (some k189_0) (Nat.beq pc 0)) (Nat.ble pc 0) pc) (Nat.ble pc 4) pc
theorem ktE_189 : ex_CTT 0 [(0, 4, 5, 4)] cd_189 kt_189 cd_189 := (ex_ct2 (ex_ct2 (ex_ct1 kE189_0) (ex_ct1 kE189_4)) (ex_ct2 (ex_ct1 kE189_5) (ex_ct1 kE189_6)))
set_option maxHeartbeats 100000 in
def k190_18 : ex_C := c_psh 4294967295 (c_ireturn  0)
set_option maxHeartbeats 100000 in
theorem kE190_18 : ex_CE 0 [(0, 15, 16, 2)] cd_190 k190_18 q190_18 := e_psh_iconst 18 4294967295 (-1) (e_ireturn 19 0 )
set_option maxHeartbeats 100000 in
def k190_16 : ex_C := c_astore 4 (k190_18)
set_option maxHeartbeats 100000 in
theorem kE190_16 : ex_CE 0 [(0, 15, 16, 2)] cd_190 k190_16 q190_16 := e_astore_astore 16 18 4 (kE190_18)
set_option maxHeartbeats 100000 in
def k190_15 : ex_C := c_ireturn  0
set_option maxHeartbeats 100000 in
theorem kE190_15 : ex_CE 0 [(0, 15, 16, 2)] cd_190 k190_15 q190_15 := e_ireturn 15 0 
set_option maxHeartbeats 100000 in
def k190_14 : ex_C := c_psh 0 (k190_15)
set_option maxHeartbeats 100000 in
theorem kE190_14 : ex_CE 0 [(0, 15, 16, 2)] cd_190 k190_14 q190_14 := e_psh_iconst 14 0 0 (kE190_15)
set_option maxHeartbeats 100000 in
def k190_7 : ex_C := c_if_eq 14 (c_psh 1 (c_goto 15))
set_option maxHeartbeats 100000 in
theorem kE190_7 : ex_CE 0 [(0, 15, 16, 2)] cd_190 k190_7 q190_7 := e_if_eq 7 14 7 (e_psh_iconst 10 1 1 (e_goto 11 15 4))
set_option maxHeartbeats 100000 in
def k190_0 : ex_C := c_aload 0 (c_iload 1 (c_iload 2 (c_iload 3 (c_invV [(0, 15, 16, 2)] cd_190 4 4 110 0 (k190_7)))))
set_option maxHeartbeats 100000 in
theorem kE190_0 : ex_CE 0 [(0, 15, 16, 2)] cd_190 k190_0 q190_0 := e_aload_aload_n 0 0 0 0 rfl (e_iload_iload_n 1 0 1 1 rfl (e_iload_iload_n 2 0 2 2 rfl (e_iload_iload_n 3 0 3 3 rfl (e_invV_invokevirtual 4 1032196 89 4 110 0 rfl rfl rfl rfl rfl rfl (kE190_7)))))
def kt_190 : Nat → Option ex_C := fun pc => @Bool.rec (fun _ => Nat → Option ex_C) (fun pc => @Bool.rec (fun _ => Nat → Option ex_C) (fun pc => @Bool.rec (fun _ => Nat → Option ex_C) (fun pc => @Bool.rec (fun _ => Option ex_C) none (some k190_18) (Nat.beq pc 18)) (fun pc => @Bool.rec (fun _ => Option ex_C) none (some k190_16) (Nat.beq pc 16)) (Nat.ble pc 16) pc) (fun pc => @Bool.rec (fun _ => Option ex_C) none (some k190_15) (Nat.beq pc 15)) (Nat.ble pc 15) pc) (fun pc => @Bool.rec (fun _ => Nat → Option ex_C) (fun pc => @Bool.rec (fun _ => Nat → Option ex_C) (fun pc => @Bool.rec (fun _ => Option ex_C) none (some k190_14) (Nat.beq pc 14)) (fun pc => @Bool.rec (fun _ => Option ex_C) none (some k190_7) (Nat.beq pc 7)) (Nat.ble pc 7) pc) (fun pc => @Bool.rec (fun _ => Option ex_C) none (some k190_0) (Nat.beq pc 0)) (Nat.ble pc 0) pc) (Nat.ble pc 14) pc
theorem ktE_190 : ex_CTT 0 [(0, 15, 16, 2)] cd_190 kt_190 cd_190 := (ex_ct2 (ex_ct2 (ex_ct1 kE190_0) (ex_ct2 (ex_ct1 kE190_7) (ex_ct1 kE190_14))) (ex_ct2 (ex_ct1 kE190_15) (ex_ct2 (ex_ct1 kE190_16) (ex_ct1 kE190_18))))
set_option maxHeartbeats 100000 in
def k191_6 : ex_C := c_psh 4294967295 (c_ireturn  0)
set_option maxHeartbeats 100000 in
theorem kE191_6 : ex_CE 0 [(0, 4, 5, 4)] cd_191 k191_6 q191_6 := e_psh_iconst 6 4294967295 (-1) (e_ireturn 7 0 )
set_option maxHeartbeats 100000 in
def k191_5 : ex_C := c_astore 1 (k191_6)
set_option maxHeartbeats 100000 in
theorem kE191_5 : ex_CE 0 [(0, 4, 5, 4)] cd_191 k191_5 q191_5 := e_astore_astore_n 5 6 1 1 rfl (kE191_6)
set_option maxHeartbeats 100000 in
def k191_4 : ex_C := c_ireturn  0
set_option maxHeartbeats 100000 in
theorem kE191_4 : ex_CE 0 [(0, 4, 5, 4)] cd_191 k191_4 q191_4 := e_ireturn 4 0 
set_option maxHeartbeats 100000 in
def k191_0 : ex_C := c_aload 0 (c_invV [(0, 4, 5, 4)] cd_191 1 1 111 0 (k191_4))
set_option maxHeartbeats 100000 in
theorem kE191_0 : ex_CE 0 [(0, 4, 5, 4)] cd_191 k191_0 q191_0 := e_aload_aload_n 0 0 0 0 rfl (e_invV_invokevirtual 1 1040385 93 1 111 0 rfl rfl rfl rfl rfl rfl (kE191_4))
def kt_191 : Nat → Option ex_C := fun pc => @Bool.rec (fun _ => Nat → Option ex_C) (fun pc => @Bool.rec (fun _ => Nat → Option ex_C) (fun pc => @Bool.rec (fun _ => Option ex_C) none (some k191_6) (Nat.beq pc 6)) (fun pc => @Bool.rec (fun _ => Option ex_C) none (some k191_5) (Nat.beq pc 5)) (Nat.ble pc 5) pc) (fun pc => @Bool.rec (fun _ => Nat → Option ex_C) (fun pc => @Bool.rec (fun _ => Option ex_C) none (some k191_4) (Nat.beq pc 4)) (fun pc => @Bool.rec (fun _ => Option ex_C) none (some k191_0) (Nat.beq pc 0)) (Nat.ble pc 0) pc) (Nat.ble pc 4) pc
theorem ktE_191 : ex_CTT 0 [(0, 4, 5, 4)] cd_191 kt_191 cd_191 := (ex_ct2 (ex_ct2 (ex_ct1 kE191_0) (ex_ct1 kE191_4)) (ex_ct2 (ex_ct1 kE191_5) (ex_ct1 kE191_6)))
set_option maxHeartbeats 100000 in
def k192_7 : ex_C := c_psh 4294967295 (c_ireturn  0)
set_option maxHeartbeats 100000 in
theorem kE192_7 : ex_CE 0 [(0, 5, 6, 1)] cd_192 k192_7 q192_7 := e_psh_iconst 7 4294967295 (-1) (e_ireturn 8 0 )
set_option maxHeartbeats 100000 in
def k192_6 : ex_C := c_astore 2 (k192_7)
set_option maxHeartbeats 100000 in
theorem kE192_6 : ex_CE 0 [(0, 5, 6, 1)] cd_192 k192_6 q192_6 := e_astore_astore_n 6 7 2 2 rfl (kE192_7)
set_option maxHeartbeats 100000 in
def k192_5 : ex_C := c_ireturn  0
set_option maxHeartbeats 100000 in
theorem kE192_5 : ex_CE 0 [(0, 5, 6, 1)] cd_192 k192_5 q192_5 := e_ireturn 5 0 
set_option maxHeartbeats 100000 in
def k192_0 : ex_C := c_aload 0 (c_iload 1 (c_invV [(0, 5, 6, 1)] cd_192 2 2 113 0 (k192_5)))
set_option maxHeartbeats 100000 in
theorem kE192_0 : ex_CE 0 [(0, 5, 6, 1)] cd_192 k192_0 q192_0 := e_aload_aload_n 0 0 0 0 rfl (e_iload_iload_n 1 0 1 1 rfl (e_invV_invokevirtual 2 1056770 96 2 113 0 rfl rfl rfl rfl rfl rfl (kE192_5)))
def kt_192 : Nat → Option ex_C := fun pc => @Bool.rec (fun _ => Nat → Option ex_C) (fun pc => @Bool.rec (fun _ => Nat → Option ex_C) (fun pc => @Bool.rec (fun _ => Option ex_C) none (some k192_7) (Nat.beq pc 7)) (fun pc => @Bool.rec (fun _ => Option ex_C) none (some k192_6) (Nat.beq pc 6)) (Nat.ble pc 6) pc) (fun pc => @Bool.rec (fun _ => Nat → Option ex_C) (fun pc => @Bool.rec (fun _ => Option ex_C) none (some k192_5) (Nat.beq pc 5)) (fun pc => @Bool.rec (fun _ => Option ex_C) none (some k192_0) (Nat.beq pc 0)) (Nat.ble pc 0) pc) (Nat.ble pc 5) pc
theorem ktE_192 : ex_CTT 0 [(0, 5, 6, 1)] cd_192 kt_192 cd_192 := (ex_ct2 (ex_ct2 (ex_ct1 kE192_0) (ex_ct1 kE192_5)) (ex_ct2 (ex_ct1 kE192_6) (ex_ct1 kE192_7)))
set_option maxHeartbeats 100000 in
def k193_19 : ex_C := c_psh 4294967293 (c_ireturn  0)
set_option maxHeartbeats 100000 in
theorem kE193_19 : ex_CE 0 [(0, 7, 8, 1), (0, 7, 12, 2), (0, 7, 17, 4)] cd_193 k193_19 q193_19 := e_psh_bipush 19 4294967293 (-3) (e_ireturn 21 0 )
set_option maxHeartbeats 100000 in
def k193_17 : ex_C := c_astore 4 (k193_19)
set_option maxHeartbeats 100000 in
theorem kE193_17 : ex_CE 0 [(0, 7, 8, 1), (0, 7, 12, 2), (0, 7, 17, 4)] cd_193 k193_17 q193_17 := e_astore_astore 17 19 4 (kE193_19)
set_option maxHeartbeats 100000 in
def k193_14 : ex_C := c_psh 4294967294 (c_ireturn  0)
set_option maxHeartbeats 100000 in
theorem kE193_14 : ex_CE 0 [(0, 7, 8, 1), (0, 7, 12, 2), (0, 7, 17, 4)] cd_193 k193_14 q193_14 := e_psh_bipush 14 4294967294 (-2) (e_ireturn 16 0 )
set_option maxHeartbeats 100000 in
def k193_12 : ex_C := c_astore 4 (k193_14)
set_option maxHeartbeats 100000 in
theorem kE193_12 : ex_CE 0 [(0, 7, 8, 1), (0, 7, 12, 2), (0, 7, 17, 4)] cd_193 k193_12 q193_12 := e_astore_astore 12 14 4 (kE193_14)
set_option maxHeartbeats 100000 in
def k193_10 : ex_C := c_psh 4294967295 (c_ireturn  0)
set_option maxHeartbeats 100000 in
theorem kE193_10 : ex_CE 0 [(0, 7, 8, 1), (0, 7, 12, 2), (0, 7, 17, 4)] cd_193 k193_10 q193_10 := e_psh_iconst 10 4294967295 (-1) (e_ireturn 11 0 )
set_option maxHeartbeats 100000 in
def k193_8 : ex_C := c_astore 4 (k193_10)
set_option maxHeartbeats 100000 in
theorem kE193_8 : ex_CE 0 [(0, 7, 8, 1), (0, 7, 12, 2), (0, 7, 17, 4)] cd_193 k193_8 q193_8 := e_astore_astore 8 10 4 (kE193_10)
set_option maxHeartbeats 100000 in
def k193_7 : ex_C := c_ireturn  0
set_option maxHeartbeats 100000 in
theorem kE193_7 : ex_CE 0 [(0, 7, 8, 1), (0, 7, 12, 2), (0, 7, 17, 4)] cd_193 k193_7 q193_7 := e_ireturn 7 0 
set_option maxHeartbeats 100000 in
def k193_0 : ex_C := c_aload 0 (c_iload 1 (c_iload 2 (c_iload 3 (c_invV [(0, 7, 8, 1), (0, 7, 12, 2), (0, 7, 17, 4)] cd_193 4 4 114 0 (k193_7)))))
set_option maxHeartbeats 100000 in
theorem kE193_0 : ex_CE 0 [(0, 7, 8, 1), (0, 7, 12, 2), (0, 7, 17, 4)] cd_193 k193_0 q193_0 := e_aload_aload_n 0 0 0 0 rfl (e_iload_iload_n 1 0 1 1 rfl (e_iload_iload_n 2 0 2 2 rfl (e_iload_iload_n 3 0 3 3 rfl (e_invV_invokevirtual 4 1064964 104 4 114 0 rfl rfl rfl rfl rfl rfl (kE193_7)))))
def kt_193 : Nat → Option ex_C := fun pc => @Bool.rec (fun _ => Nat → Option ex_C) (fun pc => @Bool.rec (fun _ => Nat → Option ex_C) (fun pc => @Bool.rec (fun _ => Nat → Option ex_C) (fun pc => @Bool.rec (fun _ => Option ex_C) none (some k193_19) (Nat.beq pc 19)) (fun pc => @Bool.rec (fun _ => Option ex_C) none (some k193_17) (Nat.beq pc 17)) (Nat.ble pc 17) pc) (fun pc => @Bool.rec (fun _ => Nat → Option ex_C) (fun pc => @Bool.rec (fun _ => Option ex_C) none (some k193_14) (Nat.beq pc 14)) (fun pc => @Bool.rec (fun _ => Option ex_C) none (some k193_12) (Nat.beq pc 12)) (Nat.ble pc 12) pc) (Nat.ble pc 14) pc) (fun pc => @Bool.rec (fun _ => Nat → Option ex_C) (fun pc => @Bool.rec (fun _ => Nat → Option ex_C) (fun pc => @Bool.rec (fun _ => Option ex_C) none (some k193_10) (Nat.beq pc 10)) (fun pc => @Bool.rec (fun _ => Option ex_C) none (some k193_8) (Nat.beq pc 8)) (Nat.ble pc 8) pc) (fun pc => @Bool.rec (fun _ => Nat → Option ex_C) (fun pc => @Bool.rec (fun _ => Option ex_C) none (some k193_7) (Nat.beq pc 7)) (fun pc => @Bool.rec (fun _ => Option ex_C) none (some k193_0) (Nat.beq pc 0)) (Nat.ble pc 0) pc) (Nat.ble pc 7) pc) (Nat.ble pc 10) pc
theorem ktE_193 : ex_CTT 0 [(0, 7, 8, 1), (0, 7, 12, 2), (0, 7, 17, 4)] cd_193 kt_193 cd_193 := (ex_ct2 (ex_ct2 (ex_ct2 (ex_ct1 kE193_0) (ex_ct1 kE193_7)) (ex_ct2 (ex_ct1 kE193_8) (ex_ct1 kE193_10))) (ex_ct2 (ex_ct2 (ex_ct1 kE193_12) (ex_ct1 kE193_14)) (ex_ct2 (ex_ct1 kE193_17) (ex_ct1 kE193_19))))
set_option maxHeartbeats 100000 in
def k194_10 : ex_C := c_psh 4294967294 (c_ireturn  0)
set_option maxHeartbeats 100000 in
theorem kE194_10 : ex_CE 0 [(0, 5, 6, 1), (0, 5, 9, 4)] cd_194 k194_10 q194_10 := e_psh_bipush 10 4294967294 (-2) (e_ireturn 12 0 )
set_option maxHeartbeats 100000 in
def k194_9 : ex_C := c_astore 2 (k194_10)
set_option maxHeartbeats 100000 in
theorem kE194_9 : ex_CE 0 [(0, 5, 6, 1), (0, 5, 9, 4)] cd_194 k194_9 q194_9 := e_astore_astore_n 9 10 2 2 rfl (kE194_10)
set_option maxHeartbeats 100000 in
def k194_7 : ex_C := c_psh 4294967295 (c_ireturn  0)
set_option maxHeartbeats 100000 in
theorem kE194_7 : ex_CE 0 [(0, 5, 6, 1), (0, 5, 9, 4)] cd_194 k194_7 q194_7 := e_psh_iconst 7 4294967295 (-1) (e_ireturn 8 0 )
set_option maxHeartbeats 100000 in
def k194_6 : ex_C := c_astore 2 (k194_7)
set_option maxHeartbeats 100000 in
theorem kE194_6 : ex_CE 0 [(0, 5, 6, 1), (0, 5, 9, 4)] cd_194 k194_6 q194_6 := e_astore_astore_n 6 7 2 2 rfl (kE194_7)
set_option maxHeartbeats 100000 in
def k194_5 : ex_C := c_ireturn  0
set_option maxHeartbeats 100000 in
theorem kE194_5 : ex_CE 0 [(0, 5, 6, 1), (0, 5, 9, 4)] cd_194 k194_5 q194_5 := e_ireturn 5 0 
set_option maxHeartbeats 100000 in
def k194_0 : ex_C := c_aload 0 (c_iload 1 (c_invV [(0, 5, 6, 1), (0, 5, 9, 4)] cd_194 2 2 115 0 (k194_5)))
set_option maxHeartbeats 100000 in
theorem kE194_0 : ex_CE 0 [(0, 5, 6, 1), (0, 5, 9, 4)] cd_194 k194_0 q194_0 := e_aload_aload_n 0 0 0 0 rfl (e_iload_iload_n 1 0 1 1 rfl (e_invV_invokevirtual 2 1073154 108 2 115 0 rfl rfl rfl rfl rfl rfl (kE194_5)))
def kt_194 : Nat → Option ex_C := fun pc => @Bool.rec (fun _ => Nat → Option ex_C) (fun pc => @Bool.rec (fun _ => Nat → Option ex_C) (fun pc => @Bool.rec (fun _ => Nat → Option ex_C) (fun pc => @Bool.rec (fun _ => Option ex_C) none (some k194_10) (Nat.beq pc 10)) (fun pc => @Bool.rec (fun _ => Option ex_C) none (some k194_9) (Nat.beq pc 9)) (Nat.ble pc 9) pc) (fun pc => @Bool.rec (fun _ => Option ex_C) none (some k194_7) (Nat.beq pc 7)) (Nat.ble pc 7) pc) (fun pc => @Bool.rec (fun _ => Nat → Option ex_C) (fun pc => @Bool.rec (fun _ => Nat → Option ex_C) (fun pc => @Bool.rec (fun _ => Option ex_C) none (some k194_6) (Nat.beq pc 6)) (fun pc => @Bool.rec (fun _ => Option ex_C) none (some k194_5) (Nat.beq pc 5)) (Nat.ble pc 5) pc) (fun pc => @Bool.rec (fun _ => Option ex_C) none (some k194_0) (Nat.beq pc 0)) (Nat.ble pc 0) pc) (Nat.ble pc 6) pc
theorem ktE_194 : ex_CTT 0 [(0, 5, 6, 1), (0, 5, 9, 4)] cd_194 kt_194 cd_194 := (ex_ct2 (ex_ct2 (ex_ct1 kE194_0) (ex_ct2 (ex_ct1 kE194_5) (ex_ct1 kE194_6))) (ex_ct2 (ex_ct1 kE194_7) (ex_ct2 (ex_ct1 kE194_9) (ex_ct1 kE194_10))))
set_option maxHeartbeats 100000 in
def k195_7 : ex_C := c_psh 4294967295 (c_ireturn  0)
set_option maxHeartbeats 100000 in
theorem kE195_7 : ex_CE 0 [(0, 5, 6, 2)] cd_195 k195_7 q195_7 := e_psh_iconst 7 4294967295 (-1) (e_ireturn 8 0 )
set_option maxHeartbeats 100000 in
def k195_6 : ex_C := c_astore 2 (k195_7)
set_option maxHeartbeats 100000 in
theorem kE195_6 : ex_CE 0 [(0, 5, 6, 2)] cd_195 k195_6 q195_6 := e_astore_astore_n 6 7 2 2 rfl (kE195_7)
set_option maxHeartbeats 100000 in
def k195_5 : ex_C := c_ireturn  0
set_option maxHeartbeats 100000 in
theorem kE195_5 : ex_CE 0 [(0, 5, 6, 2)] cd_195 k195_5 q195_5 := e_ireturn 5 0 
set_option maxHeartbeats 100000 in
def k195_0 : ex_C := c_aload 0 (c_iload 1 (c_invV [(0, 5, 6, 2)] cd_195 2 2 117 0 (k195_5)))
set_option maxHeartbeats 100000 in
theorem kE195_0 : ex_CE 0 [(0, 5, 6, 2)] cd_195 k195_0 q195_0 := e_aload_aload_n 0 0 0 0 rfl (e_iload_iload_n 1 0 1 1 rfl (e_invV_invokevirtual 2 1089538 111 2 117 0 rfl rfl rfl rfl rfl rfl (kE195_5)))
def kt_195 : Nat → Option ex_C := fun pc => @Bool.rec (fun _ => Nat → Option ex_C) (fun pc => @Bool.rec (fun _ => Nat → Option ex_C) (fun pc => @Bool.rec (fun _ => Option ex_C) none (some k195_7) (Nat.beq pc 7)) (fun pc => @Bool.rec (fun _ => Option ex_C) none (some k195_6) (Nat.beq pc 6)) (Nat.ble pc 6) pc) (fun pc => @Bool.rec (fun _ => Nat → Option ex_C) (fun pc => @Bool.rec (fun _ => Option ex_C) none (some k195_5) (Nat.beq pc 5)) (fun pc => @Bool.rec (fun _ => Option ex_C) none (some k195_0) (Nat.beq pc 0)) (Nat.ble pc 0) pc) (Nat.ble pc 5) pc
theorem ktE_195 : ex_CTT 0 [(0, 5, 6, 2)] cd_195 kt_195 cd_195 := (ex_ct2 (ex_ct2 (ex_ct1 kE195_0) (ex_ct1 kE195_5)) (ex_ct2 (ex_ct1 kE195_6) (ex_ct1 kE195_7)))
set_option maxHeartbeats 100000 in
def k196_10 : ex_C := c_psh 4294967294 (c_ireturn  0)
set_option maxHeartbeats 100000 in
theorem kE196_10 : ex_CE 0 [(0, 5, 6, 2), (0, 5, 9, 4)] cd_196 k196_10 q196_10 := e_psh_bipush 10 4294967294 (-2) (e_ireturn 12 0 )
set_option maxHeartbeats 100000 in
def k196_9 : ex_C := c_astore 2 (k196_10)
set_option maxHeartbeats 100000 in
theorem kE196_9 : ex_CE 0 [(0, 5, 6, 2), (0, 5, 9, 4)] cd_196 k196_9 q196_9 := e_astore_astore_n 9 10 2 2 rfl (kE196_10)
set_option maxHeartbeats 100000 in
def k196_7 : ex_C := c_psh 4294967295 (c_ireturn  0)
set_option maxHeartbeats 100000 in
theorem kE196_7 : ex_CE 0 [(0, 5, 6, 2), (0, 5, 9, 4)] cd_196 k196_7 q196_7 := e_psh_iconst 7 4294967295 (-1) (e_ireturn 8 0 )
set_option maxHeartbeats 100000 in
def k196_6 : ex_C := c_astore 2 (k196_7)
set_option maxHeartbeats 100000 in
theorem kE196_6 : ex_CE 0 [(0, 5, 6, 2), (0, 5, 9, 4)] cd_196 k196_6 q196_6 := e_astore_astore_n 6 7 2 2 rfl (kE196_7)
set_option maxHeartbeats 100000 in
def k196_5 : ex_C := c_ireturn  0
set_option maxHeartbeats 100000 in
theorem kE196_5 : ex_CE 0 [(0, 5, 6, 2), (0, 5, 9, 4)] cd_196 k196_5 q196_5 := e_ireturn 5 0 
set_option maxHeartbeats 100000 in
def k196_0 : ex_C := c_aload 0 (c_iload 1 (c_invV [(0, 5, 6, 2), (0, 5, 9, 4)] cd_196 2 2 122 0 (k196_5)))
set_option maxHeartbeats 100000 in
theorem kE196_0 : ex_CE 0 [(0, 5, 6, 2), (0, 5, 9, 4)] cd_196 k196_0 q196_0 := e_aload_aload_n 0 0 0 0 rfl (e_iload_iload_n 1 0 1 1 rfl (e_invV_invokevirtual 2 1130498 117 2 122 0 rfl rfl rfl rfl rfl rfl (kE196_5)))
def kt_196 : Nat → Option ex_C := fun pc => @Bool.rec (fun _ => Nat → Option ex_C) (fun pc => @Bool.rec (fun _ => Nat → Option ex_C) (fun pc => @Bool.rec (fun _ => Nat → Option ex_C) (fun pc => @Bool.rec (fun _ => Option ex_C) none (some k196_10) (Nat.beq pc 10)) (fun pc => @Bool.rec (fun _ => Option ex_C) none (some k196_9) (Nat.beq pc 9)) (Nat.ble pc 9) pc) (fun pc => @Bool.rec (fun _ => Option ex_C) none (some k196_7) (Nat.beq pc 7)) (Nat.ble pc 7) pc) (fun pc => @Bool.rec (fun _ => Nat → Option ex_C) (fun pc => @Bool.rec (fun _ => Nat → Option ex_C) (fun pc => @Bool.rec (fun _ => Option ex_C) none (some k196_6) (Nat.beq pc 6)) (fun pc => @Bool.rec (fun _ => Option ex_C) none (some k196_5) (Nat.beq pc 5)) (Nat.ble pc 5) pc) (fun pc => @Bool.rec (fun _ => Option ex_C) none (some k196_0) (Nat.beq pc 0)) (Nat.ble pc 0) pc) (Nat.ble pc 6) pc
theorem ktE_196 : ex_CTT 0 [(0, 5, 6, 2), (0, 5, 9, 4)] cd_196 kt_196 cd_196 := (ex_ct2 (ex_ct2 (ex_ct1 kE196_0) (ex_ct2 (ex_ct1 kE196_5) (ex_ct1 kE196_6))) (ex_ct2 (ex_ct1 kE196_7) (ex_ct2 (ex_ct1 kE196_9) (ex_ct1 kE196_10))))
set_option maxHeartbeats 100000 in
def k197_9 : ex_C := c_psh 4294967294 (c_ireturn  0)
set_option maxHeartbeats 100000 in
theorem kE197_9 : ex_CE 0 [(0, 4, 5, 3), (0, 4, 8, 5)] cd_197 k197_9 q197_9 := e_psh_bipush 9 4294967294 (-2) (e_ireturn 11 0 )
set_option maxHeartbeats 100000 in
def k197_8 : ex_C := c_astore 1 (k197_9)
set_option maxHeartbeats 100000 in
theorem kE197_8 : ex_CE 0 [(0, 4, 5, 3), (0, 4, 8, 5)] cd_197 k197_8 q197_8 := e_astore_astore_n 8 9 1 1 rfl (kE197_9)
set_option maxHeartbeats 100000 in
def k197_6 : ex_C := c_psh 4294967295 (c_ireturn  0)
set_option maxHeartbeats 100000 in
theorem kE197_6 : ex_CE 0 [(0, 4, 5, 3), (0, 4, 8, 5)] cd_197 k197_6 q197_6 := e_psh_iconst 6 4294967295 (-1) (e_ireturn 7 0 )
set_option maxHeartbeats 100000 in
def k197_5 : ex_C := c_astore 1 (k197_6)
set_option maxHeartbeats 100000 in
theorem kE197_5 : ex_CE 0 [(0, 4, 5, 3), (0, 4, 8, 5)] cd_197 k197_5 q197_5 := e_astore_astore_n 5 6 1 1 rfl (kE197_6)
set_option maxHeartbeats 100000 in
def k197_4 : ex_C := c_ireturn  0
set_option maxHeartbeats 100000 in
theorem kE197_4 : ex_CE 0 [(0, 4, 5, 3), (0, 4, 8, 5)] cd_197 k197_4 q197_4 := e_ireturn 4 0 
set_option maxHeartbeats 100000 in
def k197_0 : ex_C := c_aload 0 (c_invV [(0, 4, 5, 3), (0, 4, 8, 5)] cd_197 1 1 124 0 (k197_4))
set_option maxHeartbeats 100000 in
theorem kE197_0 : ex_CE 0 [(0, 4, 5, 3), (0, 4, 8, 5)] cd_197 k197_0 q197_0 := e_aload_aload_n 0 0 0 0 rfl (e_invV_invokevirtual 1 1146881 126 1 124 0 rfl rfl rfl rfl rfl rfl (kE197_4))
def kt_197 : Nat → Option ex_C := fun pc => @Bool.rec (fun _ => Nat → Option ex_C) (fun pc => @Bool.rec (fun _ => Nat → Option ex_C) (fun pc => @Bool.rec (fun _ => Nat → Option ex_C) (fun pc => @Bool.rec (fun _ => Option ex_C) none (some k197_9) (Nat.beq pc 9)) (fun pc => @Bool.rec (fun _ => Option ex_C) none (some k197_8) (Nat.beq pc 8)) (Nat.ble pc 8) pc) (fun pc => @Bool.rec (fun _ => Option ex_C) none (some k197_6) (Nat.beq pc 6)) (Nat.ble pc 6) pc) (fun pc => @Bool.rec (fun _ => Nat → Option ex_C) (fun pc => @Bool.rec (fun _ => Nat → Option ex_C) (fun pc => @Bool.rec (fun _ => Option ex_C) none (some k197_5) (Nat.beq pc 5)) (fun pc => @Bool.rec (fun _ => Option ex_C) none (some k197_4) (Nat.beq pc 4)) (Nat.ble pc 4) pc) (fun pc => @Bool.rec (fun _ => Option ex_C) none (some k197_0) (Nat.beq pc 0)) (Nat.ble pc 0) pc) (Nat.ble pc 5) pc
theorem ktE_197 : ex_CTT 0 [(0, 4, 5, 3), (0, 4, 8, 5)] cd_197 kt_197 cd_197 := (ex_ct2 (ex_ct2 (ex_ct1 kE197_0) (ex_ct2 (ex_ct1 kE197_4) (ex_ct1 kE197_5))) (ex_ct2 (ex_ct1 kE197_6) (ex_ct2 (ex_ct1 kE197_8) (ex_ct1 kE197_9))))
set_option maxHeartbeats 100000 in
def k198_7 : ex_C := c_psh 4294967295 (c_ireturn  0)
set_option maxHeartbeats 100000 in
theorem kE198_7 : ex_CE 0 [(0, 5, 6, 2)] cd_198 k198_7 q198_7 := e_psh_iconst 7 4294967295 (-1) (e_ireturn 8 0 )
set_option maxHeartbeats 100000 in
def k198_6 : ex_C := c_astore 2 (k198_7)
set_option maxHeartbeats 100000 in
theorem kE198_6 : ex_CE 0 [(0, 5, 6, 2)] cd_198 k198_6 q198_6 := e_astore_astore_n 6 7 2 2 rfl (kE198_7)
set_option maxHeartbeats 100000 in
def k198_5 : ex_C := c_ireturn  0
set_option maxHeartbeats 100000 in
theorem kE198_5 : ex_CE 0 [(0, 5, 6, 2)] cd_198 k198_5 q198_5 := e_ireturn 5 0 
set_option maxHeartbeats 100000 in
def k198_0 : ex_C := c_aload 0 (c_iload 1 (c_invV [(0, 5, 6, 2)] cd_198 2 2 126 0 (k198_5)))
set_option maxHeartbeats 100000 in
theorem kE198_0 : ex_CE 0 [(0, 5, 6, 2)] cd_198 k198_0 q198_0 := e_aload_aload_n 0 0 0 0 rfl (e_iload_iload_n 1 0 1 1 rfl (e_invV_invokevirtual 2 1163266 129 2 126 0 rfl rfl rfl rfl rfl rfl (kE198_5)))
def kt_198 : Nat → Option ex_C := fun pc => @Bool.rec (fun _ => Nat → Option ex_C) (fun pc => @Bool.rec (fun _ => Nat → Option ex_C) (fun pc => @Bool.rec (fun _ => Option ex_C) none (some k198_7) (Nat.beq pc 7)) (fun pc => @Bool.rec (fun _ => Option ex_C) none (some k198_6) (Nat.beq pc 6)) (Nat.ble pc 6) pc) (fun pc => @Bool.rec (fun _ => Nat → Option ex_C) (fun pc => @Bool.rec (fun _ => Option ex_C) none (some k198_5) (Nat.beq pc 5)) (fun pc => @Bool.rec (fun _ => Option ex_C) none (some k198_0) (Nat.beq pc 0)) (Nat.ble pc 0) pc) (Nat.ble pc 5) pc
theorem ktE_198 : ex_CTT 0 [(0, 5, 6, 2)] cd_198 kt_198 cd_198 := (ex_ct2 (ex_ct2 (ex_ct1 kE198_0) (ex_ct1 kE198_5)) (ex_ct2 (ex_ct1 kE198_6) (ex_ct1 kE198_7)))
set_option maxHeartbeats 100000 in
def k199_6 : ex_C := c_psh 4294967295 (c_ireturn  0)
set_option maxHeartbeats 100000 in
theorem kE199_6 : ex_CE 0 [(0, 4, 5, 5)] cd_199 k199_6 q199_6 := e_psh_iconst 6 4294967295 (-1) (e_ireturn 7 0 )
set_option maxHeartbeats 100000 in
def k199_5 : ex_C := c_astore 1 (k199_6)
set_option maxHeartbeats 100000 in
theorem kE199_5 : ex_CE 0 [(0, 4, 5, 5)] cd_199 k199_5 q199_5 := e_astore_astore_n 5 6 1 1 rfl (kE199_6)
set_option maxHeartbeats 100000 in
def k199_4 : ex_C := c_ireturn  0
set_option maxHeartbeats 100000 in
theorem kE199_4 : ex_CE 0 [(0, 4, 5, 5)] cd_199 k199_4 q199_4 := e_ireturn 4 0 
set_option maxHeartbeats 100000 in
def k199_0 : ex_C := c_aload 0 (c_invV [(0, 4, 5, 5)] cd_199 1 1 127 0 (k199_4))
set_option maxHeartbeats 100000 in
theorem kE199_0 : ex_CE 0 [(0, 4, 5, 5)] cd_199 k199_0 q199_0 := e_aload_aload_n 0 0 0 0 rfl (e_invV_invokevirtual 1 1171457 132 1 127 0 rfl rfl rfl rfl rfl rfl (kE199_4))
def kt_199 : Nat → Option ex_C := fun pc => @Bool.rec (fun _ => Nat → Option ex_C) (fun pc => @Bool.rec (fun _ => Nat → Option ex_C) (fun pc => @Bool.rec (fun _ => Option ex_C) none (some k199_6) (Nat.beq pc 6)) (fun pc => @Bool.rec (fun _ => Option ex_C) none (some k199_5) (Nat.beq pc 5)) (Nat.ble pc 5) pc) (fun pc => @Bool.rec (fun _ => Nat → Option ex_C) (fun pc => @Bool.rec (fun _ => Option ex_C) none (some k199_4) (Nat.beq pc 4)) (fun pc => @Bool.rec (fun _ => Option ex_C) none (some k199_0) (Nat.beq pc 0)) (Nat.ble pc 0) pc) (Nat.ble pc 4) pc
theorem ktE_199 : ex_CTT 0 [(0, 4, 5, 5)] cd_199 kt_199 cd_199 := (ex_ct2 (ex_ct2 (ex_ct1 kE199_0) (ex_ct1 kE199_4)) (ex_ct2 (ex_ct1 kE199_5) (ex_ct1 kE199_6)))
set_option maxHeartbeats 100000 in
def k200_11 : ex_C := c_psh 4294967294 (c_ireturn  0)
set_option maxHeartbeats 100000 in
theorem kE200_11 : ex_CE 0 [(0, 6, 7, 1), (0, 6, 10, 2)] cd_200 k200_11 q200_11 := e_psh_bipush 11 4294967294 (-2) (e_ireturn 13 0 )
set_option maxHeartbeats 100000 in
def k200_10 : ex_C := c_astore 3 (k200_11)
set_option maxHeartbeats 100000 in
theorem kE200_10 : ex_CE 0 [(0, 6, 7, 1), (0, 6, 10, 2)] cd_200 k200_10 q200_10 := e_astore_astore_n 10 11 3 3 rfl (kE200_11)
set_option maxHeartbeats 100000 in
def k200_8 : ex_C := c_psh 4294967295 (c_ireturn  0)
set_option maxHeartbeats 100000 in
theorem kE200_8 : ex_CE 0 [(0, 6, 7, 1), (0, 6, 10, 2)] cd_200 k200_8 q200_8 := e_psh_iconst 8 4294967295 (-1) (e_ireturn 9 0 )
set_option maxHeartbeats 100000 in
def k200_7 : ex_C := c_astore 3 (k200_8)
set_option maxHeartbeats 100000 in
theorem kE200_7 : ex_CE 0 [(0, 6, 7, 1), (0, 6, 10, 2)] cd_200 k200_7 q200_7 := e_astore_astore_n 7 8 3 3 rfl (kE200_8)
set_option maxHeartbeats 100000 in
def k200_6 : ex_C := c_ireturn  0
set_option maxHeartbeats 100000 in
theorem kE200_6 : ex_CE 0 [(0, 6, 7, 1), (0, 6, 10, 2)] cd_200 k200_6 q200_6 := e_ireturn 6 0 
set_option maxHeartbeats 100000 in
def k200_0 : ex_C := c_aload 0 (c_iload 1 (c_iload 2 (c_invV [(0, 6, 7, 1), (0, 6, 10, 2)] cd_200 3 3 128 0 (k200_6))))
set_option maxHeartbeats 100000 in
theorem kE200_0 : ex_CE 0 [(0, 6, 7, 1), (0, 6, 10, 2)] cd_200 k200_0 q200_0 := e_aload_aload_n 0 0 0 0 rfl (e_iload_iload_n 1 0 1 1 rfl (e_iload_iload_n 2 0 2 2 rfl (e_invV_invokevirtual 3 1179651 138 3 128 0 rfl rfl rfl rfl rfl rfl (kE200_6))))
def kt_200 : Nat → Option ex_C := fun pc => @Bool.rec (fun _ => Nat → Option ex_C) (fun pc => @Bool.rec (fun _ => Nat → Option ex_C) (fun pc => @Bool.rec (fun _ => Nat → Option ex_C) (fun pc => @Bool.rec (fun _ => Option ex_C) none (some k200_11) (Nat.beq pc 11)) (fun pc => @Bool.rec (fun _ => Option ex_C) none (some k200_10) (Nat.beq pc 10)) (Nat.ble pc 10) pc) (fun pc => @Bool.rec (fun _ => Option ex_C) none (some k200_8) (Nat.beq pc 8)) (Nat.ble pc 8) pc) (fun pc => @Bool.rec (fun _ => Nat → Option ex_C) (fun pc => @Bool.rec (fun _ => Nat → Option ex_C) (fun pc => @Bool.rec (fun _ => Option ex_C) none (some k200_7) (Nat.beq pc 7)) (fun pc => @Bool.rec (fun _ => Option ex_C) none (some k200_6) (Nat.beq pc 6)) (Nat.ble pc 6) pc) (fun pc => @Bool.rec (fun _ => Option ex_C) none (some k200_0) (Nat.beq pc 0)) (Nat.ble pc 0) pc) (Nat.ble pc 7) pc
theorem ktE_200 : ex_CTT 0 [(0, 6, 7, 1), (0, 6, 10, 2)] cd_200 kt_200 cd_200 := (ex_ct2 (ex_ct2 (ex_ct1 kE200_0) (ex_ct2 (ex_ct1 kE200_6) (ex_ct1 kE200_7))) (ex_ct2 (ex_ct1 kE200_8) (ex_ct2 (ex_ct1 kE200_10) (ex_ct1 kE200_11))))
set_option maxHeartbeats 100000 in
def k201_6 : ex_C := c_none
set_option maxHeartbeats 100000 in
theorem kE201_6 : ex_CE 7 [(0, 4, 5, 6)] cd_201 k201_6 q201_6 := e_bad
set_option maxHeartbeats 100000 in
def k201_5 : ex_C := c_astore 1 (k201_6)
set_option maxHeartbeats 100000 in
theorem kE201_5 : ex_CE 7 [(0, 4, 5, 6)] cd_201 k201_5 q201_5 := e_astore_astore_n 5 6 1 1 rfl (kE201_6)
set_option maxHeartbeats 100000 in
def k201_4 : ex_C := c_freturn  7
set_option maxHeartbeats 100000 in
theorem kE201_4 : ex_CE 7 [(0, 4, 5, 6)] cd_201 k201_4 q201_4 := e_freturn 4 0 
set_option maxHeartbeats 100000 in
def k201_0 : ex_C := c_aload 0 (c_invV [(0, 4, 5, 6)] cd_201 1 1 130 0 (k201_4))
set_option maxHeartbeats 100000 in
theorem kE201_0 : ex_CE 7 [(0, 4, 5, 6)] cd_201 k201_0 q201_0 := e_aload_aload_n 0 0 0 0 rfl (e_invV_invokevirtual 1 1196033 141 1 130 0 rfl rfl rfl rfl rfl rfl (kE201_4))
def kt_201 : Nat → Option ex_C := fun pc => @Bool.rec (fun _ => Nat → Option ex_C) (fun pc => @Bool.rec (fun _ => Nat → Option ex_C) (fun pc => @Bool.rec (fun _ => Option ex_C) none (some k201_6) (Nat.beq pc 6)) (fun pc => @Bool.rec (fun _ => Option ex_C) none (some k201_5) (Nat.beq pc 5)) (Nat.ble pc 5) pc) (fun pc => @Bool.rec (fun _ => Nat → Option ex_C) (fun pc => @Bool.rec (fun _ => Option ex_C) none (some k201_4) (Nat.beq pc 4)) (fun pc => @Bool.rec (fun _ => Option ex_C) none (some k201_0) (Nat.beq pc 0)) (Nat.ble pc 0) pc) (Nat.ble pc 4) pc
theorem ktE_201 : ex_CTT 7 [(0, 4, 5, 6)] cd_201 kt_201 cd_201 := (ex_ct2 (ex_ct2 (ex_ct1 kE201_0) (ex_ct1 kE201_4)) (ex_ct2 (ex_ct1 kE201_5) (ex_ct1 kE201_6)))
set_option maxHeartbeats 100000 in
def k202_439 : ex_C := c_ireturn  0
set_option maxHeartbeats 100000 in
theorem kE202_439 : ex_CE 0 [] cd_202 k202_439 q202_439 := e_ireturn 439 0 
set_option maxHeartbeats 100000 in
def k202_437 : ex_C := c_psh 4294967197 (k202_439)
set_option maxHeartbeats 100000 in
theorem kE202_437 : ex_CE 0 [] cd_202 k202_437 q202_437 := e_psh_bipush 437 4294967197 (-99) (kE202_439)
set_option maxHeartbeats 100000 in
def k202_430 : ex_C := c_if_eq 437 (c_psh 0 (c_goto 439))
set_option maxHeartbeats 100000 in
theorem kE202_430 : ex_CE 0 [] cd_202 k202_430 q202_430 := e_if_eq 430 437 7 (e_psh_iconst 433 0 0 (e_goto 434 439 5))
set_option maxHeartbeats 100000 in
def k202_426 : ex_C := c_iadd (c_invS [] cd_202 427 6 204 (k202_430))
set_option maxHeartbeats 100000 in
theorem kE202_426 : ex_CE 0 [] cd_202 k202_426 q202_426 := e_iadd 426 0 (e_invS 427 1810406 198 6 204 rfl rfl rfl (kE202_430))
set_option maxHeartbeats 100000 in
def k202_419 : ex_C := c_iadd (c_psh 1 (c_aload 2 (c_psh 3 (c_invV [] cd_202 423 2 158 12 (k202_426)))))
set_option maxHeartbeats 100000 in
theorem kE202_419 : ex_CE 0 [] cd_202 k202_419 q202_419 := e_iadd 419 0 (e_psh_iconst 420 1 1 (e_aload_aload_n 421 0 2 2 rfl (e_psh_iconst 422 3 3 (e_invV_invokevirtual 423 1425794 148 2 158 12 rfl rfl rfl rfl rfl rfl (kE202_426)))))
set_option maxHeartbeats 100000 in
def k202_413 : ex_C := c_psh 1 (c_aload 2 (c_psh 2 (c_invV [] cd_202 416 2 158 12 (k202_419))))
set_option maxHeartbeats 100000 in
theorem kE202_413 : ex_CE 0 [] cd_202 k202_413 q202_413 := e_psh_iconst 413 1 1 (e_aload_aload_n 414 0 2 2 rfl (e_psh_iconst 415 2 2 (e_invV_invokevirtual 416 1425794 148 2 158 12 rfl rfl rfl rfl rfl rfl (kE202_419))))
set_option maxHeartbeats 100000 in
def k202_410 : ex_C := c_invV [] cd_202 410 2 165 18 (k202_413)
set_option maxHeartbeats 100000 in
theorem kE202_410 : ex_CE 0 [] cd_202 k202_410 q202_410 := e_invV_invokevirtual 410 1483330 171 2 165 18 rfl rfl rfl rfl rfl rfl (kE202_413)
set_option maxHeartbeats 100000 in
def k202_400 : ex_C := c_iload 5 (c_psh 17179869216 (c_aload 2 (c_psh 12 (c_invV [] cd_202 407 2 158 12 (k202_410)))))
set_option maxHeartbeats 100000 in
theorem kE202_400 : ex_CE 0 [] cd_202 k202_400 q202_400 := e_iload_iload 400 0 5 (e_psh_ldc 402 17179869216 196 (e_aload_aload_n 404 0 2 2 rfl (e_psh_bipush 405 12 12 (e_invV_invokevirtual 407 1425794 148 2 158 12 rfl rfl rfl rfl rfl rfl (kE202_410)))))
set_option maxHeartbeats 100000 in
def k202_398 : ex_C := c_iload 4 (k202_400)
set_option maxHeartbeats 100000 in
theorem kE202_398 : ex_CE 0 [] cd_202 k202_398 q202_398 := e_iload_iload 398 0 4 (kE202_400)
set_option maxHeartbeats 100000 in
def k202_386 : ex_C := c_istore 5 (c_aload 0 (c_iload 3 (c_if_eq 398 (c_psh 122 (c_goto 400)))))
set_option maxHeartbeats 100000 in
theorem kE202_386 : ex_CE 0 [] cd_202 k202_386 q202_386 := e_istore_istore 386 0 5 (e_aload_aload_n 388 0 0 0 rfl (e_iload_iload_n 389 0 3 3 rfl (e_if_eq 390 398 8 (e_psh_bipush 393 122 122 (e_goto 395 400 5)))))
set_option maxHeartbeats 100000 in
def k202_383 : ex_C := c_invV [] cd_202 383 2 165 18 (k202_386)
set_option maxHeartbeats 100000 in
theorem kE202_383 : ex_CE 0 [] cd_202 k202_383 q202_383 := e_invV_invokevirtual 383 1483330 171 2 165 18 rfl rfl rfl rfl rfl rfl (kE202_386)
set_option maxHeartbeats 100000 in
def k202_375 : ex_C := c_psh 17179869214 (c_aload 2 (c_psh 9 (c_invV [] cd_202 380 2 158 12 (k202_383))))
set_option maxHeartbeats 100000 in
theorem kE202_375 : ex_CE 0 [] cd_202 k202_375 q202_375 := e_psh_ldc 375 17179869214 194 (e_aload_aload_n 377 0 2 2 rfl (e_psh_bipush 378 9 9 (e_invV_invokevirtual 380 1425794 148 2 158 12 rfl rfl rfl rfl rfl rfl (kE202_383))))
set_option maxHeartbeats 100000 in
def k202_361 : ex_C := c_istore 4 (c_iload 4 (c_psh 97 (c_icmp_ge 375 (c_psh 97 (c_goto 386)))))
set_option maxHeartbeats 100000 in
theorem kE202_361 : ex_CE 0 [] cd_202 k202_361 q202_361 := e_istore_istore 361 0 4 (e_iload_iload 363 0 4 (e_psh_bipush 365 97 97 (e_icmp_ge 367 375 8 (e_psh_bipush 370 97 97 (e_goto 372 386 14)))))
set_option maxHeartbeats 100000 in
def k202_358 : ex_C := c_invV [] cd_202 358 2 165 18 (k202_361)
set_option maxHeartbeats 100000 in
theorem kE202_358 : ex_CE 0 [] cd_202 k202_358 q202_358 := e_invV_invokevirtual 358 1483330 171 2 165 18 rfl rfl rfl rfl rfl rfl (kE202_361)
set_option maxHeartbeats 100000 in
def k202_350 : ex_C := c_psh 17179869206 (c_aload 2 (c_psh 13 (c_invV [] cd_202 355 2 158 12 (k202_358))))
set_option maxHeartbeats 100000 in
theorem kE202_350 : ex_CE 0 [] cd_202 k202_350 q202_350 := e_psh_ldc 350 17179869206 169 (e_aload_aload_n 352 0 2 2 rfl (e_psh_bipush 353 13 13 (e_invV_invokevirtual 355 1425794 148 2 158 12 rfl rfl rfl rfl rfl rfl (kE202_358))))
set_option maxHeartbeats 100000 in
def k202_345 : ex_C := c_iadd (c_i2c   (c_goto 361))
set_option maxHeartbeats 100000 in
theorem kE202_345 : ex_CE 0 [] cd_202 k202_345 q202_345 := e_iadd 345 0 (e_i2c 346 0  (e_goto 347 361 14))
set_option maxHeartbeats 100000 in
def k202_335 : ex_C := c_if_ne 350 (c_psh 65 (c_aload 2 (c_psh 3 (c_invV [] cd_202 342 2 158 12 (k202_345)))))
set_option maxHeartbeats 100000 in
theorem kE202_335 : ex_CE 0 [] cd_202 k202_335 q202_335 := e_if_ne 335 350 15 (e_psh_bipush 338 65 65 (e_aload_aload_n 340 0 2 2 rfl (e_psh_iconst 341 3 3 (e_invV_invokevirtual 342 1425794 148 2 158 12 rfl rfl rfl rfl rfl rfl (kE202_345)))))
set_option maxHeartbeats 100000 in
def k202_330 : ex_C := c_aload 2 (c_psh 5 (c_invV [] cd_202 332 2 158 12 (k202_335)))
set_option maxHeartbeats 100000 in
theorem kE202_330 : ex_CE 0 [] cd_202 k202_330 q202_330 := e_aload_aload_n 330 0 2 2 rfl (e_psh_iconst 331 5 5 (e_invV_invokevirtual 332 1425794 148 2 158 12 rfl rfl rfl rfl rfl rfl (kE202_335)))
set_option maxHeartbeats 100000 in
def k202_329 : ex_C := c_ireturn  0
set_option maxHeartbeats 100000 in
theorem kE202_329 : ex_CE 0 [] cd_202 k202_329 q202_329 := e_ireturn 329 0 
set_option maxHeartbeats 100000 in
def k202_325 : ex_C := c_aload 0 (c_invS [] cd_202 326 1 188 (k202_329))
set_option maxHeartbeats 100000 in
theorem kE202_325 : ex_CE 0 [] cd_202 k202_325 q202_325 := e_aload_aload_n 325 0 0 0 rfl (e_invS 326 1679329 192 1 188 rfl rfl rfl (kE202_329))
set_option maxHeartbeats 100000 in
def k202_324 : ex_C := c_ireturn  0
set_option maxHeartbeats 100000 in
theorem kE202_324 : ex_CE 0 [] cd_202 k202_324 q202_324 := e_ireturn 324 0 
set_option maxHeartbeats 100000 in
def k202_322 : ex_C := c_psh 4294967197 (k202_324)
set_option maxHeartbeats 100000 in
theorem kE202_322 : ex_CE 0 [] cd_202 k202_322 q202_322 := e_psh_bipush 322 4294967197 (-99) (kE202_324)
set_option maxHeartbeats 100000 in
def k202_315 : ex_C := c_if_eq 322 (c_psh 0 (c_goto 324))
set_option maxHeartbeats 100000 in
theorem kE202_315 : ex_CE 0 [] cd_202 k202_315 q202_315 := e_if_eq 315 322 7 (e_psh_iconst 318 0 0 (e_goto 319 324 5))
set_option maxHeartbeats 100000 in
def k202_311 : ex_C := c_aload 0 (c_invS [] cd_202 312 1 203 (k202_315))
set_option maxHeartbeats 100000 in
theorem kE202_311 : ex_CE 0 [] cd_202 k202_311 q202_311 := e_aload_aload_n 311 0 0 0 rfl (e_invS 312 1802209 188 1 203 rfl rfl rfl (kE202_315))
set_option maxHeartbeats 100000 in
def k202_310 : ex_C := c_ireturn  0
set_option maxHeartbeats 100000 in
theorem kE202_310 : ex_CE 0 [] cd_202 k202_310 q202_310 := e_ireturn 310 0 
set_option maxHeartbeats 100000 in
def k202_306 : ex_C := c_aload 0 (c_invS [] cd_202 307 1 199 (k202_310))
set_option maxHeartbeats 100000 in
theorem kE202_306 : ex_CE 0 [] cd_202 k202_306 q202_306 := e_aload_aload_n 306 0 0 0 rfl (e_invS 307 1769441 185 1 199 rfl rfl rfl (kE202_310))
set_option maxHeartbeats 100000 in
def k202_303 : ex_C := c_goto 310
set_option maxHeartbeats 100000 in
theorem kE202_303 : ex_CE 0 [] cd_202 k202_303 q202_303 := e_goto 303 310 7
set_option maxHeartbeats 100000 in
def k202_300 : ex_C := c_invS [] cd_202 300 2 198 (k202_303)
set_option maxHeartbeats 100000 in
theorem kE202_300 : ex_CE 0 [] cd_202 k202_300 q202_300 := e_invS 300 1761250 183 2 198 rfl rfl rfl (kE202_303)
set_option maxHeartbeats 100000 in
def k202_299 : ex_C := c_iadd (k202_300)
set_option maxHeartbeats 100000 in
theorem kE202_299 : ex_CE 0 [] cd_202 k202_299 q202_299 := e_iadd 299 0 (kE202_300)
set_option maxHeartbeats 100000 in
def k202_292 : ex_C := c_psh 4 (c_aload 2 (c_psh 13 (c_invV [] cd_202 296 2 158 12 (k202_299))))
set_option maxHeartbeats 100000 in
theorem kE202_292 : ex_CE 0 [] cd_202 k202_292 q202_292 := e_psh_iconst 292 4 4 (e_aload_aload_n 293 0 2 2 rfl (e_psh_bipush 294 13 13 (e_invV_invokevirtual 296 1425794 148 2 158 12 rfl rfl rfl rfl rfl rfl (kE202_299))))
set_option maxHeartbeats 100000 in
def k202_280 : ex_C := c_if_ne 306 (c_aload 0 (c_iload 3 (c_if_eq 292 (c_psh 3 (c_goto 300)))))
set_option maxHeartbeats 100000 in
theorem kE202_280 : ex_CE 0 [] cd_202 k202_280 q202_280 := e_if_ne 280 306 26 (e_aload_aload_n 283 0 0 0 rfl (e_iload_iload_n 284 0 3 3 rfl (e_if_eq 285 292 7 (e_psh_iconst 288 3 3 (e_goto 289 300 11)))))
set_option maxHeartbeats 100000 in
def k202_275 : ex_C := c_aload 2 (c_psh 2 (c_invV [] cd_202 277 2 158 12 (k202_280)))
set_option maxHeartbeats 100000 in
theorem kE202_275 : ex_CE 0 [] cd_202 k202_275 q202_275 := e_aload_aload_n 275 0 2 2 rfl (e_psh_iconst 276 2 2 (e_invV_invokevirtual 277 1425794 148 2 158 12 rfl rfl rfl rfl rfl rfl (kE202_280)))
set_option maxHeartbeats 100000 in
def k202_274 : ex_C := c_ireturn  0
set_option maxHeartbeats 100000 in
theorem kE202_274 : ex_CE 0 [] cd_202 k202_274 q202_274 := e_ireturn 274 0 
set_option maxHeartbeats 100000 in
def k202_271 : ex_C := c_invS [] cd_202 271 6 185 (k202_274)
set_option maxHeartbeats 100000 in
theorem kE202_271 : ex_CE 0 [] cd_202 k202_271 q202_271 := e_invS 271 1654758 180 6 185 rfl rfl rfl (kE202_274)
set_option maxHeartbeats 100000 in
def k202_268 : ex_C := c_invV [] cd_202 268 2 165 18 (k202_271)
set_option maxHeartbeats 100000 in
theorem kE202_268 : ex_CE 0 [] cd_202 k202_268 q202_268 := e_invV_invokevirtual 268 1483330 171 2 165 18 rfl rfl rfl rfl rfl rfl (kE202_271)
set_option maxHeartbeats 100000 in
def k202_260 : ex_C := c_psh 17179869210 (c_aload 2 (c_psh 6 (c_invV [] cd_202 265 2 158 12 (k202_268))))
set_option maxHeartbeats 100000 in
theorem kE202_260 : ex_CE 0 [] cd_202 k202_260 q202_260 := e_psh_ldc 260 17179869210 178 (e_aload_aload_n 262 0 2 2 rfl (e_psh_bipush 263 6 6 (e_invV_invokevirtual 265 1425794 148 2 158 12 rfl rfl rfl rfl rfl rfl (kE202_268))))
set_option maxHeartbeats 100000 in
def k202_257 : ex_C := c_invV [] cd_202 257 2 165 18 (k202_260)
set_option maxHeartbeats 100000 in
theorem kE202_257 : ex_CE 0 [] cd_202 k202_257 q202_257 := e_invV_invokevirtual 257 1483330 171 2 165 18 rfl rfl rfl rfl rfl rfl (kE202_260)
set_option maxHeartbeats 100000 in
def k202_250 : ex_C := c_psh 17179869208 (c_aload 2 (c_psh 5 (c_invV [] cd_202 254 2 158 12 (k202_257))))
set_option maxHeartbeats 100000 in
theorem kE202_250 : ex_CE 0 [] cd_202 k202_250 q202_250 := e_psh_ldc 250 17179869208 176 (e_aload_aload_n 252 0 2 2 rfl (e_psh_iconst 253 5 5 (e_invV_invokevirtual 254 1425794 148 2 158 12 rfl rfl rfl rfl rfl rfl (kE202_257))))
set_option maxHeartbeats 100000 in
def k202_247 : ex_C := c_invV [] cd_202 247 2 165 18 (k202_250)
set_option maxHeartbeats 100000 in
theorem kE202_247 : ex_CE 0 [] cd_202 k202_247 q202_247 := e_invV_invokevirtual 247 1483330 171 2 165 18 rfl rfl rfl rfl rfl rfl (kE202_250)
set_option maxHeartbeats 100000 in
def k202_238 : ex_C := c_iadd (c_psh 17179869206 (c_aload 2 (c_psh 13 (c_invV [] cd_202 244 2 158 12 (k202_247)))))
set_option maxHeartbeats 100000 in
theorem kE202_238 : ex_CE 0 [] cd_202 k202_238 q202_238 := e_iadd 238 0 (e_psh_ldc 239 17179869206 169 (e_aload_aload_n 241 0 2 2 rfl (e_psh_bipush 242 13 13 (e_invV_invokevirtual 244 1425794 148 2 158 12 rfl rfl rfl rfl rfl rfl (kE202_247)))))
set_option maxHeartbeats 100000 in
def k202_229 : ex_C := c_psh 1990 (c_aload 2 (c_psh 20 (c_invV [] cd_202 235 2 158 12 (k202_238))))
set_option maxHeartbeats 100000 in
theorem kE202_229 : ex_CE 0 [] cd_202 k202_229 q202_229 := e_psh_sipush 229 1990 1990 (e_aload_aload_n 232 0 2 2 rfl (e_psh_bipush 233 20 20 (e_invV_invokevirtual 235 1425794 148 2 158 12 rfl rfl rfl rfl rfl rfl (kE202_238))))
set_option maxHeartbeats 100000 in
def k202_227 : ex_C := c_iadd (c_i2c   (k202_229))
set_option maxHeartbeats 100000 in
theorem kE202_227 : ex_CE 0 [] cd_202 k202_227 q202_227 := e_iadd 227 0 (e_i2c 228 0  (kE202_229))
set_option maxHeartbeats 100000 in
def k202_220 : ex_C := c_psh 65 (c_aload 2 (c_psh 3 (c_invV [] cd_202 224 2 158 12 (k202_227))))
set_option maxHeartbeats 100000 in
theorem kE202_220 : ex_CE 0 [] cd_202 k202_220 q202_220 := e_psh_bipush 220 65 65 (e_aload_aload_n 222 0 2 2 rfl (e_psh_iconst 223 3 3 (e_invV_invokevirtual 224 1425794 148 2 158 12 rfl rfl rfl rfl rfl rfl (kE202_227))))
set_option maxHeartbeats 100000 in
def k202_210 : ex_C := c_aload 0 (c_iload 3 (c_if_eq 220 (c_psh 90 (c_goto 229))))
set_option maxHeartbeats 100000 in
theorem kE202_210 : ex_CE 0 [] cd_202 k202_210 q202_210 := e_aload_aload_n 210 0 0 0 rfl (e_iload_iload_n 211 0 3 3 rfl (e_if_eq 212 220 8 (e_psh_bipush 215 90 90 (e_goto 217 229 12))))
set_option maxHeartbeats 100000 in
def k202_209 : ex_C := c_ireturn  0
set_option maxHeartbeats 100000 in
theorem kE202_209 : ex_CE 0 [] cd_202 k202_209 q202_209 := e_ireturn 209 0 
set_option maxHeartbeats 100000 in
def k202_206 : ex_C := c_invS [] cd_202 206 3 184 (k202_209)
set_option maxHeartbeats 100000 in
theorem kE202_206 : ex_CE 0 [] cd_202 k202_206 q202_206 := e_invS 206 1646563 167 3 184 rfl rfl rfl (kE202_209)
set_option maxHeartbeats 100000 in
def k202_205 : ex_C := c_psh 3 (k202_206)
set_option maxHeartbeats 100000 in
theorem kE202_205 : ex_CE 0 [] cd_202 k202_205 q202_205 := e_psh_iconst 205 3 3 (kE202_206)
set_option maxHeartbeats 100000 in
def k202_202 : ex_C := c_goto 206
set_option maxHeartbeats 100000 in
theorem kE202_202 : ex_CE 0 [] cd_202 k202_202 q202_202 := e_goto 202 206 4
set_option maxHeartbeats 100000 in
def k202_194 : ex_C := c_if_ne 205 (c_aload 2 (c_psh 4 (c_invV [] cd_202 199 2 158 12 (k202_202))))
set_option maxHeartbeats 100000 in
theorem kE202_194 : ex_CE 0 [] cd_202 k202_194 q202_194 := e_if_ne 194 205 11 (e_aload_aload_n 197 0 2 2 rfl (e_psh_iconst 198 4 4 (e_invV_invokevirtual 199 1425794 148 2 158 12 rfl rfl rfl rfl rfl rfl (kE202_202))))
set_option maxHeartbeats 100000 in
def k202_189 : ex_C := c_aload 2 (c_psh 3 (c_invV [] cd_202 191 2 158 12 (k202_194)))
set_option maxHeartbeats 100000 in
theorem kE202_189 : ex_CE 0 [] cd_202 k202_189 q202_189 := e_aload_aload_n 189 0 2 2 rfl (e_psh_iconst 190 3 3 (e_invV_invokevirtual 191 1425794 148 2 158 12 rfl rfl rfl rfl rfl rfl (kE202_194)))
set_option maxHeartbeats 100000 in
def k202_181 : ex_C := c_iload 3 (c_if_eq 189 (c_psh 4 (c_goto 206)))
set_option maxHeartbeats 100000 in
theorem kE202_181 : ex_CE 0 [] cd_202 k202_181 q202_181 := e_iload_iload_n 181 0 3 3 rfl (e_if_eq 182 189 7 (e_psh_iconst 185 4 4 (e_goto 186 206 20)))
set_option maxHeartbeats 100000 in
def k202_174 : ex_C := c_aload 0 (c_aload 2 (c_psh 8 (c_invV [] cd_202 178 2 158 12 (k202_181))))
set_option maxHeartbeats 100000 in
theorem kE202_174 : ex_CE 0 [] cd_202 k202_174 q202_174 := e_aload_aload_n 174 0 0 0 rfl (e_aload_aload_n 175 0 2 2 rfl (e_psh_bipush 176 8 8 (e_invV_invokevirtual 178 1425794 148 2 158 12 rfl rfl rfl rfl rfl rfl (kE202_181))))
set_option maxHeartbeats 100000 in
def k202_173 : ex_C := c_ireturn  0
set_option maxHeartbeats 100000 in
theorem kE202_173 : ex_CE 0 [] cd_202 k202_173 q202_173 := e_ireturn 173 0 
set_option maxHeartbeats 100000 in
def k202_172 : ex_C := c_psh 0 (k202_173)
set_option maxHeartbeats 100000 in
theorem kE202_172 : ex_CE 0 [] cd_202 k202_172 q202_172 := e_psh_iconst 172 0 0 (kE202_173)
set_option maxHeartbeats 100000 in
def k202_169 : ex_C := c_goto 173
set_option maxHeartbeats 100000 in
theorem kE202_169 : ex_CE 0 [] cd_202 k202_169 q202_169 := e_goto 169 173 4
set_option maxHeartbeats 100000 in
def k202_162 : ex_C := c_if_ne 172 (c_aload 0 (c_invV [] cd_202 166 1 94 0 (k202_169)))
set_option maxHeartbeats 100000 in
theorem kE202_162 : ex_CE 0 [] cd_202 k202_162 q202_162 := e_if_ne 162 172 10 (e_aload_aload_n 165 0 0 0 rfl (e_invV_invokevirtual 166 901121 164 1 94 0 rfl rfl rfl rfl rfl rfl (kE202_169)))
set_option maxHeartbeats 100000 in
def k202_157 : ex_C := c_aload 2 (c_psh 3 (c_invV [] cd_202 159 2 158 12 (k202_162)))
set_option maxHeartbeats 100000 in
theorem kE202_157 : ex_CE 0 [] cd_202 k202_157 q202_157 := e_aload_aload_n 157 0 2 2 rfl (e_psh_iconst 158 3 3 (e_invV_invokevirtual 159 1425794 148 2 158 12 rfl rfl rfl rfl rfl rfl (kE202_162)))
set_option maxHeartbeats 100000 in
def k202_156 : ex_C := c_ireturn  0
set_option maxHeartbeats 100000 in
theorem kE202_156 : ex_CE 0 [] cd_202 k202_156 q202_156 := e_ireturn 156 0 
set_option maxHeartbeats 100000 in
def k202_153 : ex_C := c_invS [] cd_202 153 2 182 (k202_156)
set_option maxHeartbeats 100000 in
theorem kE202_153 : ex_CE 0 [] cd_202 k202_153 q202_153 := e_invS 153 1630178 161 2 182 rfl rfl rfl (kE202_156)
set_option maxHeartbeats 100000 in
def k202_152 : ex_C := c_iadd (k202_153)
set_option maxHeartbeats 100000 in
theorem kE202_152 : ex_CE 0 [] cd_202 k202_152 q202_152 := e_iadd 152 0 (kE202_153)
set_option maxHeartbeats 100000 in
def k202_146 : ex_C := c_psh 1 (c_aload 2 (c_psh 3 (c_invV [] cd_202 149 2 158 12 (k202_152))))
set_option maxHeartbeats 100000 in
theorem kE202_146 : ex_CE 0 [] cd_202 k202_146 q202_146 := e_psh_iconst 146 1 1 (e_aload_aload_n 147 0 2 2 rfl (e_psh_iconst 148 3 3 (e_invV_invokevirtual 149 1425794 148 2 158 12 rfl rfl rfl rfl rfl rfl (kE202_152))))
set_option maxHeartbeats 100000 in
def k202_137 : ex_C := c_aload 0 (c_iload 3 (c_if_eq 146 (c_psh 4 (c_goto 153))))
set_option maxHeartbeats 100000 in
theorem kE202_137 : ex_CE 0 [] cd_202 k202_137 q202_137 := e_aload_aload_n 137 0 0 0 rfl (e_iload_iload_n 138 0 3 3 rfl (e_if_eq 139 146 7 (e_psh_iconst 142 4 4 (e_goto 143 153 10))))
set_option maxHeartbeats 100000 in
def k202_136 : ex_C := c_ireturn  0
set_option maxHeartbeats 100000 in
theorem kE202_136 : ex_CE 0 [] cd_202 k202_136 q202_136 := e_ireturn 136 0 
set_option maxHeartbeats 100000 in
def k202_133 : ex_C := c_invS [] cd_202 133 3 181 (k202_136)
set_option maxHeartbeats 100000 in
theorem kE202_133 : ex_CE 0 [] cd_202 k202_133 q202_133 := e_invS 133 1621987 158 3 181 rfl rfl rfl (kE202_136)
set_option maxHeartbeats 100000 in
def k202_127 : ex_C := c_aload 2 (c_psh 8 (c_invV [] cd_202 130 2 158 12 (k202_133)))
set_option maxHeartbeats 100000 in
theorem kE202_127 : ex_CE 0 [] cd_202 k202_127 q202_127 := e_aload_aload_n 127 0 2 2 rfl (e_psh_bipush 128 8 8 (e_invV_invokevirtual 130 1425794 148 2 158 12 rfl rfl rfl rfl rfl rfl (kE202_133)))
set_option maxHeartbeats 100000 in
def k202_118 : ex_C := c_iload 3 (c_if_eq 127 (c_psh 8 (c_goto 133)))
set_option maxHeartbeats 100000 in
theorem kE202_118 : ex_CE 0 [] cd_202 k202_118 q202_118 := e_iload_iload_n 118 0 3 3 rfl (e_if_eq 119 127 8 (e_psh_bipush 122 8 8 (e_goto 124 133 9)))
set_option maxHeartbeats 100000 in
def k202_111 : ex_C := c_aload 0 (c_aload 2 (c_psh 8 (c_invV [] cd_202 115 2 158 12 (k202_118))))
set_option maxHeartbeats 100000 in
theorem kE202_111 : ex_CE 0 [] cd_202 k202_111 q202_111 := e_aload_aload_n 111 0 0 0 rfl (e_aload_aload_n 112 0 2 2 rfl (e_psh_bipush 113 8 8 (e_invV_invokevirtual 115 1425794 148 2 158 12 rfl rfl rfl rfl rfl rfl (kE202_118))))
set_option maxHeartbeats 100000 in
def k202_110 : ex_C := c_ireturn  0
set_option maxHeartbeats 100000 in
theorem kE202_110 : ex_CE 0 [] cd_202 k202_110 q202_110 := e_ireturn 110 0 
set_option maxHeartbeats 100000 in
def k202_107 : ex_C := c_invS [] cd_202 107 5 180 (k202_110)
set_option maxHeartbeats 100000 in
theorem kE202_107 : ex_CE 0 [] cd_202 k202_107 q202_107 := e_invS 107 1613797 153 5 180 rfl rfl rfl (kE202_110)
set_option maxHeartbeats 100000 in
def k202_99 : ex_C := c_imul (c_psh 3 (c_isub (c_aload 2 (c_psh 4 (c_invV [] cd_202 104 2 158 12 (k202_107))))))
set_option maxHeartbeats 100000 in
theorem kE202_99 : ex_CE 0 [] cd_202 k202_99 q202_99 := e_imul 99 0 (e_psh_iconst 100 3 3 (e_isub 101 0 (e_aload_aload_n 102 0 2 2 rfl (e_psh_iconst 103 4 4 (e_invV_invokevirtual 104 1425794 148 2 158 12 rfl rfl rfl rfl rfl rfl (kE202_107))))))
set_option maxHeartbeats 100000 in
def k202_90 : ex_C := c_imul (c_psh 3 (c_isub (c_psh 2 (c_aload 2 (c_psh 4 (c_invV [] cd_202 96 2 158 12 (k202_99)))))))
set_option maxHeartbeats 100000 in
theorem kE202_90 : ex_CE 0 [] cd_202 k202_90 q202_90 := e_imul 90 0 (e_psh_iconst 91 3 3 (e_isub 92 0 (e_psh_iconst 93 2 2 (e_aload_aload_n 94 0 2 2 rfl (e_psh_iconst 95 4 4 (e_invV_invokevirtual 96 1425794 148 2 158 12 rfl rfl rfl rfl rfl rfl (kE202_99)))))))
set_option maxHeartbeats 100000 in
def k202_84 : ex_C := c_psh 2 (c_aload 2 (c_psh 4 (c_invV [] cd_202 87 2 158 12 (k202_90))))
set_option maxHeartbeats 100000 in
theorem kE202_84 : ex_CE 0 [] cd_202 k202_84 q202_84 := e_psh_iconst 84 2 2 (e_aload_aload_n 85 0 2 2 rfl (e_psh_iconst 86 4 4 (e_invV_invokevirtual 87 1425794 148 2 158 12 rfl rfl rfl rfl rfl rfl (kE202_90))))
set_option maxHeartbeats 100000 in
def k202_78 : ex_C := c_aload 2 (c_psh 8 (c_invV [] cd_202 81 2 158 12 (k202_84)))
set_option maxHeartbeats 100000 in
theorem kE202_78 : ex_CE 0 [] cd_202 k202_78 q202_78 := e_aload_aload_n 78 0 2 2 rfl (e_psh_bipush 79 8 8 (e_invV_invokevirtual 81 1425794 148 2 158 12 rfl rfl rfl rfl rfl rfl (kE202_84)))
set_option maxHeartbeats 100000 in
def k202_68 : ex_C := c_aload 0 (c_iload 3 (c_if_eq 78 (c_psh 8 (c_goto 84))))
set_option maxHeartbeats 100000 in
theorem kE202_68 : ex_CE 0 [] cd_202 k202_68 q202_68 := e_aload_aload_n 68 0 0 0 rfl (e_iload_iload_n 69 0 3 3 rfl (e_if_eq 70 78 8 (e_psh_bipush 73 8 8 (e_goto 75 84 9))))
set_option maxHeartbeats 100000 in
def k202_14 : ex_C := c_istore 3 (c_iload 1 (c_psh 16 (c_irem   (c_tableswitch 311 0 8 #[49, 92, 118, 138, 155, 191, 256, 292, 306] 922744474204210264979781914903411510618834142528881553476190133802672356950406291889172262868542799909503236583294747744016994037399882))))
set_option maxHeartbeats 100000 in
theorem kE202_14 : ex_CE 0 [] cd_202 k202_14 q202_14 := e_istore_istore_n 14 0 3 3 rfl (e_iload_iload_n 15 0 1 1 rfl (e_psh_bipush 16 16 16 (e_irem 18 0  (e_tableswitch 19 922744474204210264979781914903411510618834142528881553476190133802672356950406291889172262868542799909503236583294747744016994037399882 311 0 8 #[49, 92, 118, 138, 155, 191, 256, 292, 306]))))
set_option maxHeartbeats 100000 in
def k202_13 : ex_C := c_psh 0 (k202_14)
set_option maxHeartbeats 100000 in
theorem kE202_13 : ex_CE 0 [] cd_202 k202_13 q202_13 := e_psh_iconst 13 0 0 (kE202_14)
set_option maxHeartbeats 100000 in
def k202_6 : ex_C := c_if_ne 13 (c_psh 1 (c_goto 14))
set_option maxHeartbeats 100000 in
theorem kE202_6 : ex_CE 0 [] cd_202 k202_6 q202_6 := e_if_ne 6 13 7 (e_psh_iconst 9 1 1 (e_goto 10 14 4))
set_option maxHeartbeats 100000 in
def k202_0 : ex_C := c_aload 2 (c_psh 50 (c_invV [] cd_202 3 2 158 12 (k202_6)))
set_option maxHeartbeats 100000 in
theorem kE202_0 : ex_CE 0 [] cd_202 k202_0 q202_0 := e_aload_aload_n 0 0 2 2 rfl (e_psh_bipush 1 50 50 (e_invV_invokevirtual 3 1425794 148 2 158 12 rfl rfl rfl rfl rfl rfl (kE202_6)))
def kt_202 : Nat → Option ex_C := fun pc => @Bool.rec (fun _ => Nat → Option ex_C) (fun pc => @Bool.rec (fun _ => Nat → Option ex_C) (fun pc => @Bool.rec (fun _ => Nat → Option ex_C) (fun pc => @Bool.rec (fun _ => Nat → Option ex_C) (fun pc => @Bool.rec (fun _ => Nat → Option ex_C) (fun pc => @Bool.rec (fun _ => Nat → Option ex_C) (fun pc => @Bool.rec (fun _ => Nat → Option ex_C) (fun pc => @Bool.rec (fun _ => Option ex_C) none (some k202_439) (Nat.beq pc 439)) (fun pc => @Bool.rec (fun _ => Option ex_C) none (some k202_437) (Nat.beq pc 437)) (Nat.ble pc 437) pc) (fun pc => @Bool.rec (fun _ => Option ex_C) none (some k202_430) (Nat.beq pc 430)) (Nat.ble pc 430) pc) (fun pc => @Bool.rec (fun _ => Nat → Option ex_C) (fun pc => @Bool.rec (fun _ => Option ex_C) none (some k202_426) (Nat.beq pc 426)) (fun pc => @Bool.rec (fun _ => Option ex_C) none (some k202_419) (Nat.beq pc 419)) (Nat.ble pc 419) pc) (Nat.ble pc 426) pc) (fun pc => @Bool.rec (fun _ => Nat → Option ex_C) (fun pc => @Bool.rec (fun _ => Nat → Option ex_C) (fun pc => @Bool.rec (fun _ => Nat → Option ex_C) (fun pc => @Bool.rec (fun _ => Option ex_C) none (some k202_413) (Nat.beq pc 413)) (fun pc => @Bool.rec (fun _ => Option ex_C) none (some k202_410) (Nat.beq pc 410)) (Nat.ble pc 410) pc) (fun pc => @Bool.rec (fun _ => Option ex_C) none (some k202_400) (Nat.beq pc 400)) (Nat.ble pc 400) pc) (fun pc => @Bool.rec (fun _ => Nat → Option ex_C) (fun pc => @Bool.rec (fun _ => Option ex_C) none (some k202_398) (Nat.beq pc 398)) (fun pc => @Bool.rec (fun _ => Option ex_C) none (some k202_386) (Nat.beq pc 386)) (Nat.ble pc 386) pc) (Nat.ble pc 398) pc) (Nat.ble pc 413) pc) (fun pc => @Bool.rec (fun _ => Nat → Option ex_C) (fun pc => @Bool.rec (fun _ => Nat → Option ex_C) (fun pc => @Bool.rec (fun _ => Nat → Option ex_C) (fun pc => @Bool.rec (fun _ => Nat → Option ex_C) (fun pc => @Bool.rec (fun _ => Option ex_C) none (some k202_383) (Nat.beq pc 383)) (fun pc => @Bool.rec (fun _ => Option ex_C) none (some k202_375) (Nat.beq pc 375)) (Nat.ble pc 375) pc) (fun pc => @Bool.rec (fun _ => Option ex_C) none (some k202_361) (Nat.beq pc 361)) (Nat.ble pc 361) pc) (fun pc => @Bool.rec (fun _ => Nat → Option ex_C) (fun pc => @Bool.rec (fun _ => Option ex_C) none (some k202_358) (Nat.beq pc 358)) (fun pc => @Bool.rec (fun _ => Option ex_C) none (some k202_350) (Nat.beq pc 350)) (Nat.ble pc 350) pc) (Nat.ble pc 358) pc) (fun pc => @Bool.rec (fun _ => Nat → Option ex_C) (fun pc => @Bool.rec (fun _ => Nat → Option ex_C) (fun pc => @Bool.rec (fun _ => Nat → Option ex_C) (fun pc => @Bool.rec (fun _ => Option ex_C) none (some k202_345) (Nat.beq pc 345)) (fun pc => @Bool.rec (fun _ => Option ex_C) none (some k202_335) (Nat.beq pc 335)) (Nat.ble pc 335) pc) (fun pc => @Bool.rec (fun _ => Option ex_C) none (some k202_330) (Nat.beq pc 330)) (Nat.ble pc 330) pc) (fun pc => @Bool.rec (fun _ => Nat → Option ex_C) (fun pc => @Bool.rec (fun _ => Option ex_C) none (some k202_329) (Nat.beq pc 329)) (fun pc => @Bool.rec (fun _ => Option ex_C) none (some k202_325) (Nat.beq pc 325)) (Nat.ble pc 325) pc) (Nat.ble pc 329) pc) (Nat.ble pc 345) pc) (Nat.ble pc 383) pc) (fun pc => @Bool.rec (fun _ => Nat → Option ex_C) (fun pc => @Bool.rec (fun _ => Nat → Option ex_C) (fun pc => @Bool.rec (fun _ => Nat → Option ex_C) (fun pc => @Bool.rec (fun _ => Nat → Option ex_C) (fun pc => @Bool.rec (fun _ => Nat → Option ex_C) (fun pc => @Bool.rec (fun _ => Option ex_C) none (some k202_324) (Nat.beq pc 324)) (fun pc => @Bool.rec (fun _ => Option ex_C) none (some k202_322) (Nat.beq pc 322)) (Nat.ble pc 322) pc) (fun pc => @Bool.rec (fun _ => Option ex_C) none (some k202_315) (Nat.beq pc 315)) (Nat.ble pc 315) pc) (fun pc => @Bool.rec (fun _ => Nat → Option ex_C) (fun pc => @Bool.rec (fun _ => Option ex_C) none (some k202_311) (Nat.beq pc 311)) (fun pc => @Bool.rec (fun _ => Option ex_C) none (some k202_310) (Nat.beq pc 310)) (Nat.ble pc 310) pc) (Nat.ble pc 311) pc) (fun pc => @Bool.rec (fun _ => Nat → Option ex_C) (fun pc => @Bool.rec (fun _ => Nat → Option ex_C) (fun pc => @Bool.rec (fun _ => Nat → Option ex_C) (fun pc => @Bool.rec (fun _ => Option ex_C) none (some k202_306) (Nat.beq pc 306)) (fun pc => @Bool.rec (fun _ => Option ex_C) none (some k202_303) (Nat.beq pc 303)) (Nat.ble pc 303) pc) (fun pc => @Bool.rec (fun _ => Option ex_C) none (some k202_300) (Nat.beq pc 300)) (Nat.ble pc 300) pc) (fun pc => @Bool.rec (fun _ => Nat → Option ex_C) (fun pc => @Bool.rec (fun _ => Option ex_C) none (some k202_299) (Nat.beq pc 299)) (fun pc => @Bool.rec (fun _ => Option ex_C) none (some k202_292) (Nat.beq pc 292)) (Nat.ble pc 292) pc) (Nat.ble pc 299) pc) (Nat.ble pc 306) pc) (fun pc => @Bool.rec (fun _ => Nat → Option ex_C) (fun pc => @Bool.rec (fun _ => Nat → Option ex_C) (fun pc => @Bool.rec (fun _ => Nat → Option ex_C) (fun pc => @Bool.rec (fun _ => Nat → Option ex_C) (fun pc => @Bool.rec (fun _ => Option ex_C) none (some k202_280) (Nat.beq pc 280)) (fun pc => @Bool.rec (fun _ => Option ex_C) none (some k202_275) (Nat.beq pc 275)) (Nat.ble pc 275) pc) (fun pc => @Bool.rec (fun _ => Option ex_C) none (some k202_274) (Nat.beq pc 274)) (Nat.ble pc 274) pc) (fun pc => @Bool.rec (fun _ => Nat → Option ex_C) (fun pc => @Bool.rec (fun _ => Option ex_C) none (some k202_271) (Nat.beq pc 271)) (fun pc => @Bool.rec (fun _ => Option ex_C) none (some k202_268) (Nat.beq pc 268)) (Nat.ble pc 268) pc) (Nat.ble pc 271) pc) (fun pc => @Bool.rec (fun _ => Nat → Option ex_C) (fun pc => @Bool.rec (fun _ => Nat → Option ex_C) (fun pc => @Bool.rec (fun _ => Option ex_C) none (some k202_260) (Nat.beq pc 260)) (fun pc => @Bool.rec (fun _ => Option ex_C) none (some k202_257) (Nat.beq pc 257)) (Nat.ble pc 257) pc) (fun pc => @Bool.rec (fun _ => Nat → Option ex_C) (fun pc => @Bool.rec (fun _ => Option ex_C) none (some k202_250) (Nat.beq pc 250)) (fun pc => @Bool.rec (fun _ => Option ex_C) none (some k202_247) (Nat.beq pc 247)) (Nat.ble pc 247) pc) (Nat.ble pc 250) pc) (Nat.ble pc 260) pc) (Nat.ble pc 280) pc) (Nat.ble pc 324) pc) (fun pc => @Bool.rec (fun _ => Nat → Option ex_C) (fun pc => @Bool.rec (fun _ => Nat → Option ex_C) (fun pc => @Bool.rec (fun _ => Nat → Option ex_C) (fun pc => @Bool.rec (fun _ => Nat → Option ex_C) (fun pc => @Bool.rec (fun _ => Nat → Option ex_C) (fun pc => @Bool.rec (fun _ => Nat → Option ex_C) (fun pc => @Bool.rec (fun _ => Option ex_C) none (some k202_238) (Nat.beq pc 238)) (fun pc => @Bool.rec (fun _ => Option ex_C) none (some k202_229) (Nat.beq pc 229)) (Nat.ble pc 229) pc) (fun pc => @Bool.rec (fun _ => Option ex_C) none (some k202_227) (Nat.beq pc 227)) (Nat.ble pc 227) pc) (fun pc => @Bool.rec (fun _ => Nat → Option ex_C) (fun pc => @Bool.rec (fun _ => Option ex_C) none (some k202_220) (Nat.beq pc 220)) (fun pc => @Bool.rec (fun _ => Option ex_C) none (some k202_210) (Nat.beq pc 210)) (Nat.ble pc 210) pc) (Nat.ble pc 220) pc) (fun pc => @Bool.rec (fun _ => Nat → Option ex_C) (fun pc => @Bool.rec (fun _ => Nat → Option ex_C) (fun pc => @Bool.rec (fun _ => Nat → Option ex_C) (fun pc => @Bool.rec (fun _ => Option ex_C) none (some k202_209) (Nat.beq pc 209)) (fun pc => @Bool.rec (fun _ => Option ex_C) none (some k202_206) (Nat.beq pc 206)) (Nat.ble pc 206) pc) (fun pc => @Bool.rec (fun _ => Option ex_C) none (some k202_205) (Nat.beq pc 205)) (Nat.ble pc 205) pc) (fun pc => @Bool.rec (fun _ => Nat → Option ex_C) (fun pc => @Bool.rec (fun _ => Option ex_C) none (some k202_202) (Nat.beq pc 202)) (fun pc => @Bool.rec (fun _ => Option ex_C) none (some k202_194) (Nat.beq pc 194)) (Nat.ble pc 194) pc) (Nat.ble pc 202) pc) (Nat.ble pc 209) pc) (fun pc => @Bool.rec (fun _ => Nat → Option ex_C) (fun pc => @Bool.rec (fun _ => Nat → Option ex_C) (fun pc => @Bool.rec (fun _ => Nat → Option ex_C) (fun pc => @Bool.rec (fun _ => Nat → Option ex_C) (fun pc => @Bool.rec (fun _ => Option ex_C) none (some k202_189) (Nat.beq pc 189)) (fun pc => @Bool.rec (fun _ => Option ex_C) none (some k202_181) (Nat.beq pc 181)) (Nat.ble pc 181) pc) (fun pc => @Bool.rec (fun _ => Option ex_C) none (some k202_174) (Nat.beq pc 174)) (Nat.ble pc 174) pc) (fun pc => @Bool.rec (fun _ => Nat → Option ex_C) (fun pc => @Bool.rec (fun _ => Option ex_C) none (some k202_173) (Nat.beq pc 173)) (fun pc => @Bool.rec (fun _ => Option ex_C) none (some k202_172) (Nat.beq pc 172)) (Nat.ble pc 172) pc) (Nat.ble pc 173) pc) (fun pc => @Bool.rec (fun _ => Nat → Option ex_C) (fun pc => @Bool.rec (fun _ => Nat → Option ex_C) (fun pc => @Bool.rec (fun _ => Nat → Option ex_C) (fun pc => @Bool.rec (fun _ => Option ex_C) none (some k202_169) (Nat.beq pc 169)) (fun pc => @Bool.rec (fun _ => Option ex_C) none (some k202_162) (Nat.beq pc 162)) (Nat.ble pc 162) pc) (fun pc => @Bool.rec (fun _ => Option ex_C) none (some k202_157) (Nat.beq pc 157)) (Nat.ble pc 157) pc) (fun pc => @Bool.rec (fun _ => Nat → Option ex_C) (fun pc => @Bool.rec (fun _ => Option ex_C) none (some k202_156) (Nat.beq pc 156)) (fun pc => @Bool.rec (fun _ => Option ex_C) none (some k202_153) (Nat.beq pc 153)) (Nat.ble pc 153) pc) (Nat.ble pc 156) pc) (Nat.ble pc 169) pc) (Nat.ble pc 189) pc) (fun pc => @Bool.rec (fun _ => Nat → Option ex_C) (fun pc => @Bool.rec (fun _ => Nat → Option ex_C) (fun pc => @Bool.rec (fun _ => Nat → Option ex_C) (fun pc => @Bool.rec (fun _ => Nat → Option ex_C) (fun pc => @Bool.rec (fun _ => Nat → Option ex_C) (fun pc => @Bool.rec (fun _ => Option ex_C) none (some k202_152) (Nat.beq pc 152)) (fun pc => @Bool.rec (fun _ => Option ex_C) none (some k202_146) (Nat.beq pc 146)) (Nat.ble pc 146) pc) (fun pc => @Bool.rec (fun _ => Option ex_C) none (some k202_137) (Nat.beq pc 137)) (Nat.ble pc 137) pc) (fun pc => @Bool.rec (fun _ => Nat → Option ex_C) (fun pc => @Bool.rec (fun _ => Option ex_C) none (some k202_136) (Nat.beq pc 136)) (fun pc => @Bool.rec (fun _ => Option ex_C) none (some k202_133) (Nat.beq pc 133)) (Nat.ble pc 133) pc) (Nat.ble pc 136) pc) (fun pc => @Bool.rec (fun _ => Nat → Option ex_C) (fun pc => @Bool.rec (fun _ => Nat → Option ex_C) (fun pc => @Bool.rec (fun _ => Nat → Option ex_C) (fun pc => @Bool.rec (fun _ => Option ex_C) none (some k202_127) (Nat.beq pc 127)) (fun pc => @Bool.rec (fun _ => Option ex_C) none (some k202_118) (Nat.beq pc 118)) (Nat.ble pc 118) pc) (fun pc => @Bool.rec (fun _ => Option ex_C) none (some k202_111) (Nat.beq pc 111)) (Nat.ble pc 111) pc) (fun pc => @Bool.rec (fun _ => Nat → Option ex_C) (fun pc => @Bool.rec (fun _ => Option ex_C) none (some k202_110) (Nat.beq pc 110)) (fun pc => @Bool.rec (fun _ => Option ex_C) none (some k202_107) (Nat.beq pc 107)) (Nat.ble pc 107) pc) (Nat.ble pc 110) pc) (Nat.ble pc 127) pc) (fun pc => @Bool.rec (fun _ => Nat → Option ex_C) (fun pc => @Bool.rec (fun _ => Nat → Option ex_C) (fun pc => @Bool.rec (fun _ => Nat → Option ex_C) (fun pc => @Bool.rec (fun _ => Nat → Option ex_C) (fun pc => @Bool.rec (fun _ => Option ex_C) none (some k202_99) (Nat.beq pc 99)) (fun pc => @Bool.rec (fun _ => Option ex_C) none (some k202_90) (Nat.beq pc 90)) (Nat.ble pc 90) pc) (fun pc => @Bool.rec (fun _ => Option ex_C) none (some k202_84) (Nat.beq pc 84)) (Nat.ble pc 84) pc) (fun pc => @Bool.rec (fun _ => Nat → Option ex_C) (fun pc => @Bool.rec (fun _ => Option ex_C) none (some k202_78) (Nat.beq pc 78)) (fun pc => @Bool.rec (fun _ => Option ex_C) none (some k202_68) (Nat.beq pc 68)) (Nat.ble pc 68) pc) (Nat.ble pc 78) pc) (fun pc => @Bool.rec (fun _ => Nat → Option ex_C) (fun pc => @Bool.rec (fun _ => Nat → Option ex_C) (fun pc => @Bool.rec (fun _ => Option ex_C) none (some k202_14) (Nat.beq pc 14)) (fun pc => @Bool.rec (fun _ => Option ex_C) none (some k202_13) (Nat.beq pc 13)) (Nat.ble pc 13) pc) (fun pc => @Bool.rec (fun _ => Nat → Option ex_C) (fun pc => @Bool.rec (fun _ => Option ex_C) none (some k202_6) (Nat.beq pc 6)) (fun pc => @Bool.rec (fun _ => Option ex_C) none (some k202_0) (Nat.beq pc 0)) (Nat.ble pc 0) pc) (Nat.ble pc 6) pc) (Nat.ble pc 14) pc) (Nat.ble pc 99) pc) (Nat.ble pc 152) pc) (Nat.ble pc 238) pc
theorem ktE_202 : ex_CTT 0 [] cd_202 kt_202 cd_202 := (ex_ct2 (ex_ct2 (ex_ct2 (ex_ct2 (ex_ct2 (ex_ct2 (ex_ct1 kE202_0) (ex_ct1 kE202_6)) (ex_ct2 (ex_ct1 kE202_13) (ex_ct1 kE202_14))) (ex_ct2 (ex_ct2 (ex_ct1 kE202_68) (ex_ct1 kE202_78)) (ex_ct2 (ex_ct1 kE202_84) (ex_ct2 (ex_ct1 kE202_90) (ex_ct1 kE202_99))))) (ex_ct2 (ex_ct2 (ex_ct2 (ex_ct1 kE202_107) (ex_ct1 kE202_110)) (ex_ct2 (ex_ct1 kE202_111) (ex_ct2 (ex_ct1 kE202_118) (ex_ct1 kE202_127)))) (ex_ct2 (ex_ct2 (ex_ct1 kE202_133) (ex_ct1 kE202_136)) (ex_ct2 (ex_ct1 kE202_137) (ex_ct2 (ex_ct1 kE202_146) (ex_ct1 kE202_152)))))) (ex_ct2 (ex_ct2 (ex_ct2 (ex_ct2 (ex_ct1 kE202_153) (ex_ct1 kE202_156)) (ex_ct2 (ex_ct1 kE202_157) (ex_ct2 (ex_ct1 kE202_162) (ex_ct1 kE202_169)))) (ex_ct2 (ex_ct2 (ex_ct1 kE202_172) (ex_ct1 kE202_173)) (ex_ct2 (ex_ct1 kE202_174) (ex_ct2 (ex_ct1 kE202_181) (ex_ct1 kE202_189))))) (ex_ct2 (ex_ct2 (ex_ct2 (ex_ct1 kE202_194) (ex_ct1 kE202_202)) (ex_ct2 (ex_ct1 kE202_205) (ex_ct2 (ex_ct1 kE202_206) (ex_ct1 kE202_209)))) (ex_ct2 (ex_ct2 (ex_ct1 kE202_210) (ex_ct1 kE202_220)) (ex_ct2 (ex_ct1 kE202_227) (ex_ct2 (ex_ct1 kE202_229) (ex_ct1 kE202_238))))))) (ex_ct2 (ex_ct2 (ex_ct2 (ex_ct2 (ex_ct2 (ex_ct1 kE202_247) (ex_ct1 kE202_250)) (ex_ct2 (ex_ct1 kE202_257) (ex_ct1 kE202_260))) (ex_ct2 (ex_ct2 (ex_ct1 kE202_268) (ex_ct1 kE202_271)) (ex_ct2 (ex_ct1 kE202_274) (ex_ct2 (ex_ct1 kE202_275) (ex_ct1 kE202_280))))) (ex_ct2 (ex_ct2 (ex_ct2 (ex_ct1 kE202_292) (ex_ct1 kE202_299)) (ex_ct2 (ex_ct1 kE202_300) (ex_ct2 (ex_ct1 kE202_303) (ex_ct1 kE202_306)))) (ex_ct2 (ex_ct2 (ex_ct1 kE202_310) (ex_ct1 kE202_311)) (ex_ct2 (ex_ct1 kE202_315) (ex_ct2 (ex_ct1 kE202_322) (ex_ct1 kE202_324)))))) (ex_ct2 (ex_ct2 (ex_ct2 (ex_ct2 (ex_ct1 kE202_325) (ex_ct1 kE202_329)) (ex_ct2 (ex_ct1 kE202_330) (ex_ct2 (ex_ct1 kE202_335) (ex_ct1 kE202_345)))) (ex_ct2 (ex_ct2 (ex_ct1 kE202_350) (ex_ct1 kE202_358)) (ex_ct2 (ex_ct1 kE202_361) (ex_ct2 (ex_ct1 kE202_375) (ex_ct1 kE202_383))))) (ex_ct2 (ex_ct2 (ex_ct2 (ex_ct1 kE202_386) (ex_ct1 kE202_398)) (ex_ct2 (ex_ct1 kE202_400) (ex_ct2 (ex_ct1 kE202_410) (ex_ct1 kE202_413)))) (ex_ct2 (ex_ct2 (ex_ct1 kE202_419) (ex_ct1 kE202_426)) (ex_ct2 (ex_ct1 kE202_430) (ex_ct2 (ex_ct1 kE202_437) (ex_ct1 kE202_439))))))))
set_option maxHeartbeats 100000 in
def k203_62 : ex_C := c_ireturn  1
set_option maxHeartbeats 100000 in
theorem kE203_62 : ex_CE 1 [] cd_203 k203_62 q203_62 := e_ireturn 62 0 
set_option maxHeartbeats 100000 in
def k203_61 : ex_C := c_psh 0 (k203_62)
set_option maxHeartbeats 100000 in
theorem kE203_61 : ex_CE 1 [] cd_203 k203_61 q203_61 := e_psh_iconst 61 0 0 (kE203_62)
set_option maxHeartbeats 100000 in
def k203_54 : ex_C := c_if_ne 61 (c_psh 1 (c_goto 62))
set_option maxHeartbeats 100000 in
theorem kE203_54 : ex_CE 1 [] cd_203 k203_54 q203_54 := e_if_ne 54 61 7 (e_psh_iconst 57 1 1 (e_goto 58 62 4))
set_option maxHeartbeats 100000 in
def k203_43 : ex_C := c_iload 3 (c_iload 1 (c_psh 1 (c_isub (c_icmp_ne 61 (c_aload 0 (c_invV [] cd_203 51 1 107 0 (k203_54)))))))
set_option maxHeartbeats 100000 in
theorem kE203_43 : ex_CE 1 [] cd_203 k203_43 q203_43 := e_iload_iload_n 43 0 3 3 rfl (e_iload_iload_n 44 0 1 1 rfl (e_psh_iconst 45 1 1 (e_isub 46 0 (e_icmp_ne 47 61 14 (e_aload_aload_n 50 0 0 0 rfl (e_invV_invokevirtual 51 1007617 215 1 107 0 rfl rfl rfl rfl rfl rfl (kE203_54)))))))
set_option maxHeartbeats 100000 in
def k203_39 : ex_C := c_psh 0 (c_goto 62)
set_option maxHeartbeats 100000 in
theorem kE203_39 : ex_CE 1 [] cd_203 k203_39 q203_39 := e_psh_iconst 39 0 0 (e_goto 40 62 22)
set_option maxHeartbeats 100000 in
def k203_29 : ex_C := c_none
set_option maxHeartbeats 100000 in
theorem kE203_29 : ex_CE 1 [] cd_203 k203_29 q203_29 := e_bad
set_option maxHeartbeats 100000 in
def k203_14 : ex_C := c_istore 3 (c_iload 1 (c_if_ne 43 (c_iload 3 (c_psh 4294967295 (c_icmp_ne 39 (c_aload 2 (c_aload 0 (c_invS [] cd_203 26 1 205 (k203_29)))))))))
set_option maxHeartbeats 100000 in
theorem kE203_14 : ex_CE 1 [] cd_203 k203_14 q203_14 := e_istore_istore_n 14 0 3 3 rfl (e_iload_iload_n 15 0 1 1 rfl (e_if_ne 16 43 27 (e_iload_iload_n 19 0 3 3 rfl (e_psh_iconst 20 4294967295 (-1) (e_icmp_ne 21 39 18 (e_aload_aload_n 24 0 2 2 rfl (e_aload_aload_n 25 0 0 0 rfl (e_invS 26 1818593 205 1 205 rfl rfl rfl (kE203_29)))))))))
set_option maxHeartbeats 100000 in
def k203_9 : ex_C := c_astore 2 (c_aload 0 (c_invS [] cd_203 11 1 191 (k203_14)))
set_option maxHeartbeats 100000 in
theorem kE203_9 : ex_CE 1 [] cd_203 k203_9 q203_9 := e_astore_astore_n 9 0 2 2 rfl (e_aload_aload_n 10 0 0 0 rfl (e_invS 11 1703905 209 1 191 rfl rfl rfl (kE203_14)))
set_option maxHeartbeats 100000 in
def k203_4 : ex_C := c_istore 1 (c_aload 0 (c_invS [] cd_203 6 1 205 (k203_9)))
set_option maxHeartbeats 100000 in
theorem kE203_4 : ex_CE 1 [] cd_203 k203_4 q203_4 := e_istore_istore_n 4 0 1 1 rfl (e_aload_aload_n 5 0 0 0 rfl (e_invS 6 1818593 205 1 205 rfl rfl rfl (kE203_9)))
set_option maxHeartbeats 100000 in
def k203_0 : ex_C := c_aload 0 (c_invV [] cd_203 1 1 112 0 (k203_4))
set_option maxHeartbeats 100000 in
theorem kE203_0 : ex_CE 1 [] cd_203 k203_0 q203_0 := e_aload_aload_n 0 0 0 0 rfl (e_invV_invokevirtual 1 1048577 202 1 112 0 rfl rfl rfl rfl rfl rfl (kE203_4))
def kt_203 : Nat → Option ex_C := fun pc => @Bool.rec (fun _ => Nat → Option ex_C) (fun pc => @Bool.rec (fun _ => Nat → Option ex_C) (fun pc => @Bool.rec (fun _ => Nat → Option ex_C) (fun pc => @Bool.rec (fun _ => Nat → Option ex_C) (fun pc => @Bool.rec (fun _ => Option ex_C) none (some k203_62) (Nat.beq pc 62)) (fun pc => @Bool.rec (fun _ => Option ex_C) none (some k203_61) (Nat.beq pc 61)) (Nat.ble pc 61) pc) (fun pc => @Bool.rec (fun _ => Option ex_C) none (some k203_54) (Nat.beq pc 54)) (Nat.ble pc 54) pc) (fun pc => @Bool.rec (fun _ => Nat → Option ex_C) (fun pc => @Bool.rec (fun _ => Option ex_C) none (some k203_43) (Nat.beq pc 43)) (fun pc => @Bool.rec (fun _ => Option ex_C) none (some k203_39) (Nat.beq pc 39)) (Nat.ble pc 39) pc) (Nat.ble pc 43) pc) (fun pc => @Bool.rec (fun _ => Nat → Option ex_C) (fun pc => @Bool.rec (fun _ => Nat → Option ex_C) (fun pc => @Bool.rec (fun _ => Nat → Option ex_C) (fun pc => @Bool.rec (fun _ => Option ex_C) none (some k203_29) (Nat.beq pc 29)) (fun pc => @Bool.rec (fun _ => Option ex_C) none (some k203_14) (Nat.beq pc 14)) (Nat.ble pc 14) pc) (fun pc => @Bool.rec (fun _ => Option ex_C) none (some k203_9) (Nat.beq pc 9)) (Nat.ble pc 9) pc) (fun pc => @Bool.rec (fun _ => Nat → Option ex_C) (fun pc => @Bool.rec (fun _ => Option ex_C) none (some k203_4) (Nat.beq pc 4)) (fun pc => @Bool.rec (fun _ => Option ex_C) none (some k203_0) (Nat.beq pc 0)) (Nat.ble pc 0) pc) (Nat.ble pc 4) pc) (Nat.ble pc 29) pc
theorem ktE_203 : ex_CTT 1 [] cd_203 kt_203 cd_203 := (ex_ct2 (ex_ct2 (ex_ct2 (ex_ct1 kE203_0) (ex_ct1 kE203_4)) (ex_ct2 (ex_ct1 kE203_9) (ex_ct2 (ex_ct1 kE203_14) (ex_ct1 kE203_29)))) (ex_ct2 (ex_ct2 (ex_ct1 kE203_39) (ex_ct1 kE203_43)) (ex_ct2 (ex_ct1 kE203_54) (ex_ct2 (ex_ct1 kE203_61) (ex_ct1 kE203_62)))))
set_option maxHeartbeats 100000 in
def k204_296 : ex_C := c_ireturn  1
set_option maxHeartbeats 100000 in
theorem kE204_296 : ex_CE 1 [] cd_204 k204_296 q204_296 := e_ireturn 296 0 
set_option maxHeartbeats 100000 in
def k204_295 : ex_C := c_psh 0 (k204_296)
set_option maxHeartbeats 100000 in
theorem kE204_295 : ex_CE 1 [] cd_204 k204_295 q204_295 := e_psh_iconst 295 0 0 (kE204_296)
set_option maxHeartbeats 100000 in
def k204_291 : ex_C := c_psh 1 (c_goto 296)
set_option maxHeartbeats 100000 in
theorem kE204_291 : ex_CE 1 [] cd_204 k204_291 q204_291 := e_psh_iconst 291 1 1 (e_goto 292 296 4)
set_option maxHeartbeats 100000 in
def k204_266 : ex_C := c_istore 12 (c_iload 12 (c_if_eq 295 (c_iload 1 (c_psh 97 (c_icmp_lt 291 (c_iload 4 (c_iload 5 (c_icmp_lt 291 (c_iload 10 (c_if_eq 295 (k204_291)))))))))))
set_option maxHeartbeats 100000 in
theorem kE204_266 : ex_CE 1 [] cd_204 k204_266 q204_266 := e_istore_istore 266 0 12 (e_iload_iload 268 0 12 (e_if_eq 270 295 25 (e_iload_iload_n 273 0 1 1 rfl (e_psh_bipush 274 97 97 (e_icmp_lt 276 291 15 (e_iload_iload 279 0 4 (e_iload_iload 281 0 5 (e_icmp_lt 283 291 8 (e_iload_iload 286 0 10 (e_if_eq 288 295 7 (kE204_291)))))))))))
set_option maxHeartbeats 100000 in
def k204_265 : ex_C := c_psh 0 (k204_266)
set_option maxHeartbeats 100000 in
theorem kE204_265 : ex_CE 1 [] cd_204 k204_265 q204_265 := e_psh_iconst 265 0 0 (kE204_266)
set_option maxHeartbeats 100000 in
def k204_255 : ex_C := c_iload 11 (c_isub (c_icmp_ne 265 (c_psh 1 (c_goto 266))))
set_option maxHeartbeats 100000 in
theorem kE204_255 : ex_CE 1 [] cd_204 k204_255 q204_255 := e_iload_iload 255 0 11 (e_isub 257 0 (e_icmp_ne 258 265 7 (e_psh_iconst 261 1 1 (e_goto 262 266 4))))
set_option maxHeartbeats 100000 in
def k204_250 : ex_C := c_aload 0 (c_iload 1 (c_invS [] cd_204 252 2 186 (k204_255)))
set_option maxHeartbeats 100000 in
theorem kE204_250 : ex_CE 1 [] cd_204 k204_250 q204_250 := e_aload_aload_n 250 0 0 0 rfl (e_iload_iload_n 251 0 1 1 rfl (e_invS 252 1662946 244 2 186 rfl rfl rfl (kE204_255)))
set_option maxHeartbeats 100000 in
def k204_242 : ex_C := c_iload 1 (c_icmp_ne 265 (c_aload 0 (c_invV [] cd_204 247 1 107 0 (k204_250))))
set_option maxHeartbeats 100000 in
theorem kE204_242 : ex_CE 1 [] cd_204 k204_242 q204_242 := e_iload_iload_n 242 0 1 1 rfl (e_icmp_ne 243 265 22 (e_aload_aload_n 246 0 0 0 rfl (e_invV_invokevirtual 247 1007617 215 1 107 0 rfl rfl rfl rfl rfl rfl (kE204_250))))
set_option maxHeartbeats 100000 in
def k204_234 : ex_C := c_icmp_ne 265 (c_aload 0 (c_psh 0 (c_invS [] cd_204 239 2 192 (k204_242))))
set_option maxHeartbeats 100000 in
theorem kE204_234 : ex_CE 1 [] cd_204 k204_234 q204_234 := e_icmp_ne 234 265 31 (e_aload_aload_n 237 0 0 0 rfl (e_psh_iconst 238 0 0 (e_invS 239 1712098 242 2 192 rfl rfl rfl (kE204_242))))
set_option maxHeartbeats 100000 in
def k204_225 : ex_C := c_psh 20 (c_iload 9 (c_psh 1 (c_iadd (c_invS [] cd_204 231 2 163 (k204_234)))))
set_option maxHeartbeats 100000 in
theorem kE204_225 : ex_CE 1 [] cd_204 k204_225 q204_225 := e_psh_bipush 225 20 20 (e_iload_iload 227 0 9 (e_psh_iconst 229 1 1 (e_iadd 230 0 (e_invS 231 1474530 237 2 163 rfl rfl rfl (kE204_234)))))
set_option maxHeartbeats 100000 in
def k204_215 : ex_C := c_lload 7 (c_lcmp   (c_if_lt 265 (c_aload 0 (c_invV [] cd_204 222 1 112 0 (k204_225)))))
set_option maxHeartbeats 100000 in
theorem kE204_215 : ex_CE 1 [] cd_204 k204_215 q204_215 := e_lload_lload 215 0 7 (e_lcmp 217 0  (e_if_lt 218 265 47 (e_aload_aload_n 221 0 0 0 rfl (e_invV_invokevirtual 222 1048577 202 1 112 0 rfl rfl rfl rfl rfl rfl (kE204_225)))))
set_option maxHeartbeats 100000 in
def k204_207 : ex_C := c_psh 4294967295 (c_icmp_ne 265 (c_aload 0 (c_invV [] cd_204 212 1 129 0 (k204_215))))
set_option maxHeartbeats 100000 in
theorem kE204_207 : ex_CE 1 [] cd_204 k204_207 q204_207 := e_psh_iconst 207 4294967295 (-1) (e_icmp_ne 208 265 57 (e_aload_aload_n 211 0 0 0 rfl (e_invV_invokevirtual 212 1187841 218 1 129 0 rfl rfl rfl rfl rfl rfl (kE204_215))))
set_option maxHeartbeats 100000 in
def k204_198 : ex_C := c_psh 45 (c_icmp_ne 265 (c_aload 0 (c_invS [] cd_204 204 1 189 (k204_207))))
set_option maxHeartbeats 100000 in
theorem kE204_198 : ex_CE 1 [] cd_204 k204_198 q204_198 := e_psh_bipush 198 45 45 (e_icmp_ne 200 265 65 (e_aload_aload_n 203 0 0 0 rfl (e_invS 204 1687521 235 1 189 rfl rfl rfl (kE204_207))))
set_option maxHeartbeats 100000 in
def k204_194 : ex_C := c_aload 0 (c_invV [] cd_204 195 1 108 0 (k204_198))
set_option maxHeartbeats 100000 in
theorem kE204_194 : ex_CE 1 [] cd_204 k204_194 q204_194 := e_aload_aload_n 194 0 0 0 rfl (e_invV_invokevirtual 195 1015809 231 1 108 0 rfl rfl rfl rfl rfl rfl (kE204_198))
set_option maxHeartbeats 100000 in
def k204_193 : ex_C := c_ireturn  1
set_option maxHeartbeats 100000 in
theorem kE204_193 : ex_CE 1 [] cd_204 k204_193 q204_193 := e_ireturn 193 0 
set_option maxHeartbeats 100000 in
def k204_192 : ex_C := c_psh 0 (k204_193)
set_option maxHeartbeats 100000 in
theorem kE204_192 : ex_CE 1 [] cd_204 k204_192 q204_192 := e_psh_iconst 192 0 0 (kE204_193)
set_option maxHeartbeats 100000 in
def k204_188 : ex_C := c_psh 1 (c_goto 193)
set_option maxHeartbeats 100000 in
theorem kE204_188 : ex_CE 1 [] cd_204 k204_188 q204_188 := e_psh_iconst 188 1 1 (e_goto 189 193 4)
set_option maxHeartbeats 100000 in
def k204_183 : ex_C := c_psh 110 (c_icmp_ne 192 (k204_188))
set_option maxHeartbeats 100000 in
theorem kE204_183 : ex_CE 1 [] cd_204 k204_183 q204_183 := e_psh_bipush 183 110 110 (e_icmp_ne 185 192 7 (kE204_188))
set_option maxHeartbeats 100000 in
def k204_155 : ex_C := c_iload 9 (c_icmp_ne 192 (c_iload 4 (c_iload 5 (c_icmp_lt 188 (c_iload 11 (c_psh 4294967293 (c_icmp_ne 188 (c_iload 10 (c_if_eq 188 (c_aload 0 (c_invV [] cd_204 180 1 108 0 (k204_183))))))))))))
set_option maxHeartbeats 100000 in
theorem kE204_155 : ex_CE 1 [] cd_204 k204_155 q204_155 := e_iload_iload 155 0 9 (e_icmp_ne 157 192 35 (e_iload_iload 160 0 4 (e_iload_iload 162 0 5 (e_icmp_lt 164 188 24 (e_iload_iload 167 0 11 (e_psh_bipush 169 4294967293 (-3) (e_icmp_ne 171 188 17 (e_iload_iload 174 0 10 (e_if_eq 176 188 12 (e_aload_aload_n 179 0 0 0 rfl (e_invV_invokevirtual 180 1015809 231 1 108 0 rfl rfl rfl rfl rfl rfl (kE204_183))))))))))))
set_option maxHeartbeats 100000 in
def k204_145 : ex_C := c_lload 7 (c_lcmp   (c_if_ne 192 (c_aload 0 (c_invV [] cd_204 152 1 112 0 (k204_155)))))
set_option maxHeartbeats 100000 in
theorem kE204_145 : ex_CE 1 [] cd_204 k204_145 q204_145 := e_lload_lload 145 0 7 (e_lcmp 147 0  (e_if_ne 148 192 44 (e_aload_aload_n 151 0 0 0 rfl (e_invV_invokevirtual 152 1048577 202 1 112 0 rfl rfl rfl rfl rfl rfl (kE204_155)))))
set_option maxHeartbeats 100000 in
def k204_133 : ex_C := c_aload 6 (c_none)
set_option maxHeartbeats 100000 in
theorem kE204_133 : ex_CE 1 [] cd_204 k204_133 q204_133 := e_aload_aload 133 0 6 (e_bad)
set_option maxHeartbeats 100000 in
def k204_122 : ex_C := c_istore 12 (c_iload 12 (c_if_eq 192 (c_aload 0 (c_invS [] cd_204 130 1 205 (k204_133)))))
set_option maxHeartbeats 100000 in
theorem kE204_122 : ex_CE 1 [] cd_204 k204_122 q204_122 := e_istore_istore 122 0 12 (e_iload_iload 124 0 12 (e_if_eq 126 192 66 (e_aload_aload_n 129 0 0 0 rfl (e_invS 130 1818593 205 1 205 rfl rfl rfl (kE204_133)))))
set_option maxHeartbeats 100000 in
def k204_121 : ex_C := c_psh 0 (k204_122)
set_option maxHeartbeats 100000 in
theorem kE204_121 : ex_CE 1 [] cd_204 k204_121 q204_121 := e_psh_iconst 121 0 0 (kE204_122)
set_option maxHeartbeats 100000 in
def k204_117 : ex_C := c_psh 1 (c_goto 122)
set_option maxHeartbeats 100000 in
theorem kE204_117 : ex_CE 1 [] cd_204 k204_117 q204_117 := e_psh_iconst 117 1 1 (e_goto 118 122 4)
set_option maxHeartbeats 100000 in
def k204_113 : ex_C := c_psh 4294967295 (c_icmp_ne 121 (k204_117))
set_option maxHeartbeats 100000 in
theorem kE204_113 : ex_CE 1 [] cd_204 k204_113 q204_113 := e_psh_iconst 113 4294967295 (-1) (e_icmp_ne 114 121 7 (kE204_117))
set_option maxHeartbeats 100000 in
def k204_104 : ex_C := c_psh 98 (c_icmp_eq 117 (c_aload 0 (c_invS [] cd_204 110 1 189 (k204_113))))
set_option maxHeartbeats 100000 in
theorem kE204_104 : ex_CE 1 [] cd_204 k204_104 q204_104 := e_psh_bipush 104 98 98 (e_icmp_eq 106 117 11 (e_aload_aload_n 109 0 0 0 rfl (e_invS 110 1687521 235 1 189 rfl rfl rfl (kE204_113))))
set_option maxHeartbeats 100000 in
def k204_95 : ex_C := c_psh 112 (c_icmp_eq 117 (c_aload 0 (c_invV [] cd_204 101 1 108 0 (k204_104))))
set_option maxHeartbeats 100000 in
theorem kE204_95 : ex_CE 1 [] cd_204 k204_95 q204_95 := e_psh_bipush 95 112 112 (e_icmp_eq 97 117 20 (e_aload_aload_n 100 0 0 0 rfl (e_invV_invokevirtual 101 1015809 231 1 108 0 rfl rfl rfl rfl rfl rfl (kE204_104))))
set_option maxHeartbeats 100000 in
def k204_86 : ex_C := c_psh 45 (c_icmp_eq 121 (c_aload 0 (c_invV [] cd_204 92 1 108 0 (k204_95))))
set_option maxHeartbeats 100000 in
theorem kE204_86 : ex_CE 1 [] cd_204 k204_86 q204_86 := e_psh_bipush 86 45 45 (e_icmp_eq 88 121 33 (e_aload_aload_n 91 0 0 0 rfl (e_invV_invokevirtual 92 1015809 231 1 108 0 rfl rfl rfl rfl rfl rfl (kE204_95))))
set_option maxHeartbeats 100000 in
def k204_68 : ex_C := c_istore 11 (c_iload 11 (c_if_ge 194 (c_iload 11 (c_psh 4294967293 (c_icmp_ne 117 (c_aload 0 (c_invV [] cd_204 83 1 108 0 (k204_86))))))))
set_option maxHeartbeats 100000 in
theorem kE204_68 : ex_CE 1 [] cd_204 k204_68 q204_68 := e_istore_istore 68 0 11 (e_iload_iload 70 0 11 (e_if_ge 72 194 122 (e_iload_iload 75 0 11 (e_psh_bipush 77 4294967293 (-3) (e_icmp_ne 79 117 38 (e_aload_aload_n 82 0 0 0 rfl (e_invV_invokevirtual 83 1015809 231 1 108 0 rfl rfl rfl rfl rfl rfl (kE204_86))))))))
set_option maxHeartbeats 100000 in
def k204_55 : ex_C := c_istore 10 (c_aload 0 (c_iload 1 (c_iload 2 (c_iload 3 (c_iload 4 (c_iload 5 (c_invS [] cd_204 65 6 187 (k204_68))))))))
set_option maxHeartbeats 100000 in
theorem kE204_55 : ex_CE 1 [] cd_204 k204_55 q204_55 := e_istore_istore 55 0 10 (e_aload_aload_n 57 0 0 0 rfl (e_iload_iload_n 58 0 1 1 rfl (e_iload_iload_n 59 0 2 2 rfl (e_iload_iload_n 60 0 3 3 rfl (e_iload_iload 61 0 4 (e_iload_iload 63 0 5 (e_invS 65 1671142 228 6 187 rfl rfl rfl (kE204_68))))))))
set_option maxHeartbeats 100000 in
def k204_54 : ex_C := c_psh 0 (k204_55)
set_option maxHeartbeats 100000 in
theorem kE204_54 : ex_CE 1 [] cd_204 k204_54 q204_54 := e_psh_iconst 54 0 0 (kE204_55)
set_option maxHeartbeats 100000 in
def k204_46 : ex_C := c_psh 1 (c_icmp_ne 54 (c_psh 1 (c_goto 55)))
set_option maxHeartbeats 100000 in
theorem kE204_46 : ex_CE 1 [] cd_204 k204_46 q204_46 := e_psh_iconst 46 1 1 (e_icmp_ne 47 54 7 (e_psh_iconst 50 1 1 (e_goto 51 55 4)))
set_option maxHeartbeats 100000 in
def k204_36 : ex_C := c_if_lt 54 (c_aload 0 (c_iload 1 (c_iload 2 (c_iload 3 (c_invS [] cd_204 43 4 190 (k204_46))))))
set_option maxHeartbeats 100000 in
theorem kE204_36 : ex_CE 1 [] cd_204 k204_36 q204_36 := e_if_lt 36 54 18 (e_aload_aload_n 39 0 0 0 rfl (e_iload_iload_n 40 0 1 1 rfl (e_iload_iload_n 41 0 2 2 rfl (e_iload_iload_n 42 0 3 3 rfl (e_invS 43 1695716 225 4 190 rfl rfl rfl (kE204_46))))))
set_option maxHeartbeats 100000 in
def k204_16 : ex_C := c_istore 9 (c_iload 1 (c_psh 97 (c_icmp_lt 54 (c_iload 1 (c_psh 120 (c_icmp_gt 54 (c_psh 17179869206 (c_iload 1 (c_invV [] cd_204 33 2 166 18 (k204_36))))))))))
set_option maxHeartbeats 100000 in
theorem kE204_16 : ex_CE 1 [] cd_204 k204_16 q204_16 := e_istore_istore 16 0 9 (e_iload_iload_n 18 0 1 1 rfl (e_psh_bipush 19 97 97 (e_icmp_lt 21 54 33 (e_iload_iload_n 24 0 1 1 rfl (e_psh_bipush 25 120 120 (e_icmp_gt 27 54 27 (e_psh_ldc 30 17179869206 169 (e_iload_iload_n 32 0 1 1 rfl (e_invV_invokevirtual 33 1491522 222 2 166 18 rfl rfl rfl rfl rfl rfl (kE204_36))))))))))
set_option maxHeartbeats 100000 in
def k204_10 : ex_C := c_lstore 7  (c_aload 0 (c_invV [] cd_204 13 1 112 0 (k204_16)))
set_option maxHeartbeats 100000 in
theorem kE204_10 : ex_CE 1 [] cd_204 k204_10 q204_10 := e_lstore 10 0 7 (e_aload_aload_n 12 0 0 0 rfl (e_invV_invokevirtual 13 1048577 202 1 112 0 rfl rfl rfl rfl rfl rfl (kE204_16)))
set_option maxHeartbeats 100000 in
def k204_4 : ex_C := c_astore 6 (c_aload 0 (c_invV [] cd_204 7 1 129 0 (k204_10)))
set_option maxHeartbeats 100000 in
theorem kE204_4 : ex_CE 1 [] cd_204 k204_4 q204_4 := e_astore_astore 4 0 6 (e_aload_aload_n 6 0 0 0 rfl (e_invV_invokevirtual 7 1187841 218 1 129 0 rfl rfl rfl rfl rfl rfl (kE204_10)))
set_option maxHeartbeats 100000 in
def k204_0 : ex_C := c_aload 0 (c_invS [] cd_204 1 1 205 (k204_4))
set_option maxHeartbeats 100000 in
theorem kE204_0 : ex_CE 1 [] cd_204 k204_0 q204_0 := e_aload_aload_n 0 0 0 0 rfl (e_invS 1 1818593 205 1 205 rfl rfl rfl (kE204_4))
def kt_204 : Nat → Option ex_C := fun pc => @Bool.rec (fun _ => Nat → Option ex_C) (fun pc => @Bool.rec (fun _ => Nat → Option ex_C) (fun pc => @Bool.rec (fun _ => Nat → Option ex_C) (fun pc => @Bool.rec (fun _ => Nat → Option ex_C) (fun pc => @Bool.rec (fun _ => Nat → Option ex_C) (fun pc => @Bool.rec (fun _ => Nat → Option ex_C) (fun pc => @Bool.rec (fun _ => Option ex_C) none (some k204_296) (Nat.beq pc 296)) (fun pc => @Bool.rec (fun _ => Option ex_C) none (some k204_295) (Nat.beq pc 295)) (Nat.ble pc 295) pc) (fun pc => @Bool.rec (fun _ => Option ex_C) none (some k204_291) (Nat.beq pc 291)) (Nat.ble pc 291) pc) (fun pc => @Bool.rec (fun _ => Nat → Option ex_C) (fun pc => @Bool.rec (fun _ => Option ex_C) none (some k204_266) (Nat.beq pc 266)) (fun pc => @Bool.rec (fun _ => Option ex_C) none (some k204_265) (Nat.beq pc 265)) (Nat.ble pc 265) pc) (Nat.ble pc 266) pc) (fun pc => @Bool.rec (fun _ => Nat → Option ex_C) (fun pc => @Bool.rec (fun _ => Nat → Option ex_C) (fun pc => @Bool.rec (fun _ => Nat → Option ex_C) (fun pc => @Bool.rec (fun _ => Option ex_C) none (some k204_255) (Nat.beq pc 255)) (fun pc => @Bool.rec (fun _ => Option ex_C) none (some k204_250) (Nat.beq pc 250)) (Nat.ble pc 250) pc) (fun pc => @Bool.rec (fun _ => Option ex_C) none (some k204_242) (Nat.beq pc 242)) (Nat.ble pc 242) pc) (fun pc => @Bool.rec (fun _ => Nat → Option ex_C) (fun pc => @Bool.rec (fun _ => Option ex_C) none (some k204_234) (Nat.beq pc 234)) (fun pc => @Bool.rec (fun _ => Option ex_C) none (some k204_225) (Nat.beq pc 225)) (Nat.ble pc 225) pc) (Nat.ble pc 234) pc) (Nat.ble pc 255) pc) (fun pc => @Bool.rec (fun _ => Nat → Option ex_C) (fun pc => @Bool.rec (fun _ => Nat → Option ex_C) (fun pc => @Bool.rec (fun _ => Nat → Option ex_C) (fun pc => @Bool.rec (fun _ => Nat → Option ex_C) (fun pc => @Bool.rec (fun _ => Option ex_C) none (some k204_215) (Nat.beq pc 215)) (fun pc => @Bool.rec (fun _ => Option ex_C) none (some k204_207) (Nat.beq pc 207)) (Nat.ble pc 207) pc) (fun pc => @Bool.rec (fun _ => Option ex_C) none (some k204_198) (Nat.beq pc 198)) (Nat.ble pc 198) pc) (fun pc => @Bool.rec (fun _ => Nat → Option ex_C) (fun pc => @Bool.rec (fun _ => Option ex_C) none (some k204_194) (Nat.beq pc 194)) (fun pc => @Bool.rec (fun _ => Option ex_C) none (some k204_193) (Nat.beq pc 193)) (Nat.ble pc 193) pc) (Nat.ble pc 194) pc) (fun pc => @Bool.rec (fun _ => Nat → Option ex_C) (fun pc => @Bool.rec (fun _ => Nat → Option ex_C) (fun pc => @Bool.rec (fun _ => Option ex_C) none (some k204_192) (Nat.beq pc 192)) (fun pc => @Bool.rec (fun _ => Option ex_C) none (some k204_188) (Nat.beq pc 188)) (Nat.ble pc 188) pc) (fun pc => @Bool.rec (fun _ => Nat → Option ex_C) (fun pc => @Bool.rec (fun _ => Option ex_C) none (some k204_183) (Nat.beq pc 183)) (fun pc => @Bool.rec (fun _ => Option ex_C) none (some k204_155) (Nat.beq pc 155)) (Nat.ble pc 155) pc) (Nat.ble pc 183) pc) (Nat.ble pc 192) pc) (Nat.ble pc 215) pc) (fun pc => @Bool.rec (fun _ => Nat → Option ex_C) (fun pc => @Bool.rec (fun _ => Nat → Option ex_C) (fun pc => @Bool.rec (fun _ => Nat → Option ex_C) (fun pc => @Bool.rec (fun _ => Nat → Option ex_C) (fun pc => @Bool.rec (fun _ => Nat → Option ex_C) (fun pc => @Bool.rec (fun _ => Option ex_C) none (some k204_145) (Nat.beq pc 145)) (fun pc => @Bool.rec (fun _ => Option ex_C) none (some k204_133) (Nat.beq pc 133)) (Nat.ble pc 133) pc) (fun pc => @Bool.rec (fun _ => Option ex_C) none (some k204_122) (Nat.beq pc 122)) (Nat.ble pc 122) pc) (fun pc => @Bool.rec (fun _ => Nat → Option ex_C) (fun pc => @Bool.rec (fun _ => Option ex_C) none (some k204_121) (Nat.beq pc 121)) (fun pc => @Bool.rec (fun _ => Option ex_C) none (some k204_117) (Nat.beq pc 117)) (Nat.ble pc 117) pc) (Nat.ble pc 121) pc) (fun pc => @Bool.rec (fun _ => Nat → Option ex_C) (fun pc => @Bool.rec (fun _ => Nat → Option ex_C) (fun pc => @Bool.rec (fun _ => Option ex_C) none (some k204_113) (Nat.beq pc 113)) (fun pc => @Bool.rec (fun _ => Option ex_C) none (some k204_104) (Nat.beq pc 104)) (Nat.ble pc 104) pc) (fun pc => @Bool.rec (fun _ => Nat → Option ex_C) (fun pc => @Bool.rec (fun _ => Option ex_C) none (some k204_95) (Nat.beq pc 95)) (fun pc => @Bool.rec (fun _ => Option ex_C) none (some k204_86) (Nat.beq pc 86)) (Nat.ble pc 86) pc) (Nat.ble pc 95) pc) (Nat.ble pc 113) pc) (fun pc => @Bool.rec (fun _ => Nat → Option ex_C) (fun pc => @Bool.rec (fun _ => Nat → Option ex_C) (fun pc => @Bool.rec (fun _ => Nat → Option ex_C) (fun pc => @Bool.rec (fun _ => Nat → Option ex_C) (fun pc => @Bool.rec (fun _ => Option ex_C) none (some k204_68) (Nat.beq pc 68)) (fun pc => @Bool.rec (fun _ => Option ex_C) none (some k204_55) (Nat.beq pc 55)) (Nat.ble pc 55) pc) (fun pc => @Bool.rec (fun _ => Option ex_C) none (some k204_54) (Nat.beq pc 54)) (Nat.ble pc 54) pc) (fun pc => @Bool.rec (fun _ => Nat → Option ex_C) (fun pc => @Bool.rec (fun _ => Option ex_C) none (some k204_46) (Nat.beq pc 46)) (fun pc => @Bool.rec (fun _ => Option ex_C) none (some k204_36) (Nat.beq pc 36)) (Nat.ble pc 36) pc) (Nat.ble pc 46) pc) (fun pc => @Bool.rec (fun _ => Nat → Option ex_C) (fun pc => @Bool.rec (fun _ => Nat → Option ex_C) (fun pc => @Bool.rec (fun _ => Option ex_C) none (some k204_16) (Nat.beq pc 16)) (fun pc => @Bool.rec (fun _ => Option ex_C) none (some k204_10) (Nat.beq pc 10)) (Nat.ble pc 10) pc) (fun pc => @Bool.rec (fun _ => Nat → Option ex_C) (fun pc => @Bool.rec (fun _ => Option ex_C) none (some k204_4) (Nat.beq pc 4)) (fun pc => @Bool.rec (fun _ => Option ex_C) none (some k204_0) (Nat.beq pc 0)) (Nat.ble pc 0) pc) (Nat.ble pc 4) pc) (Nat.ble pc 16) pc) (Nat.ble pc 68) pc) (Nat.ble pc 145) pc
theorem ktE_204 : ex_CTT 1 [] cd_204 kt_204 cd_204 := (ex_ct2 (ex_ct2 (ex_ct2 (ex_ct2 (ex_ct2 (ex_ct1 kE204_0) (ex_ct1 kE204_4)) (ex_ct2 (ex_ct1 kE204_10) (ex_ct1 kE204_16))) (ex_ct2 (ex_ct2 (ex_ct1 kE204_36) (ex_ct1 kE204_46)) (ex_ct2 (ex_ct1 kE204_54) (ex_ct2 (ex_ct1 kE204_55) (ex_ct1 kE204_68))))) (ex_ct2 (ex_ct2 (ex_ct2 (ex_ct1 kE204_86) (ex_ct1 kE204_95)) (ex_ct2 (ex_ct1 kE204_104) (ex_ct1 kE204_113))) (ex_ct2 (ex_ct2 (ex_ct1 kE204_117) (ex_ct1 kE204_121)) (ex_ct2 (ex_ct1 kE204_122) (ex_ct2 (ex_ct1 kE204_133) (ex_ct1 kE204_145)))))) (ex_ct2 (ex_ct2 (ex_ct2 (ex_ct2 (ex_ct1 kE204_155) (ex_ct1 kE204_183)) (ex_ct2 (ex_ct1 kE204_188) (ex_ct1 kE204_192))) (ex_ct2 (ex_ct2 (ex_ct1 kE204_193) (ex_ct1 kE204_194)) (ex_ct2 (ex_ct1 kE204_198) (ex_ct2 (ex_ct1 kE204_207) (ex_ct1 kE204_215))))) (ex_ct2 (ex_ct2 (ex_ct2 (ex_ct1 kE204_225) (ex_ct1 kE204_234)) (ex_ct2 (ex_ct1 kE204_242) (ex_ct2 (ex_ct1 kE204_250) (ex_ct1 kE204_255)))) (ex_ct2 (ex_ct2 (ex_ct1 kE204_265) (ex_ct1 kE204_266)) (ex_ct2 (ex_ct1 kE204_291) (ex_ct2 (ex_ct1 kE204_295) (ex_ct1 kE204_296)))))))
set_option maxHeartbeats 100000 in
def k205_63 : ex_C := c_aload 1 (c_none)
set_option maxHeartbeats 100000 in
theorem kE205_63 : ex_CE 5 [] cd_205 k205_63 q205_63 := e_aload_aload_n 63 0 1 1 rfl (e_bad)
set_option maxHeartbeats 100000 in
def k205_48 : ex_C := c_none
set_option maxHeartbeats 100000 in
theorem kE205_48 : ex_CE 5 [] cd_205 k205_48 q205_48 := e_bad
set_option maxHeartbeats 100000 in
def k205_35 : ex_C := c_none
set_option maxHeartbeats 100000 in
theorem kE205_35 : ex_CE 5 [] cd_205 k205_35 q205_35 := e_bad
set_option maxHeartbeats 100000 in
def k205_22 : ex_C := c_none
set_option maxHeartbeats 100000 in
theorem kE205_22 : ex_CE 5 [] cd_205 k205_22 q205_22 := e_bad
set_option maxHeartbeats 100000 in
def k205_10 : ex_C := c_iload 2 (c_psh 8 (c_icmp_ge 63 (c_aload 1 (c_aload 0 (c_iload 2 (c_invS [] cd_205 19 2 177 (k205_22)))))))
set_option maxHeartbeats 100000 in
theorem kE205_10 : ex_CE 5 [] cd_205 k205_10 q205_10 := e_iload_iload_n 10 0 2 2 rfl (e_psh_bipush 11 8 8 (e_icmp_ge 13 63 50 (e_aload_aload_n 16 0 1 1 rfl (e_aload_aload_n 17 0 0 0 rfl (e_iload_iload_n 18 0 2 2 rfl (e_invS 19 1589218 250 2 177 rfl rfl rfl (kE205_22)))))))
set_option maxHeartbeats 100000 in
def k205_0 : ex_C := c_newo 4722366482869645214733 4 (c_dup   (c_none))
set_option maxHeartbeats 100000 in
theorem kE205_0 : ex_CE 5 [] cd_205 k205_0 q205_0 := e_newo 0 13 247 4722366482869645214733 4 rfl rfl rfl (e_dup 3 0  (e_bad))
def kt_205 : Nat → Option ex_C := fun pc => @Bool.rec (fun _ => Nat → Option ex_C) (fun pc => @Bool.rec (fun _ => Nat → Option ex_C) (fun pc => @Bool.rec (fun _ => Nat → Option ex_C) (fun pc => @Bool.rec (fun _ => Option ex_C) none (some k205_63) (Nat.beq pc 63)) (fun pc => @Bool.rec (fun _ => Option ex_C) none (some k205_48) (Nat.beq pc 48)) (Nat.ble pc 48) pc) (fun pc => @Bool.rec (fun _ => Option ex_C) none (some k205_35) (Nat.beq pc 35)) (Nat.ble pc 35) pc) (fun pc => @Bool.rec (fun _ => Nat → Option ex_C) (fun pc => @Bool.rec (fun _ => Nat → Option ex_C) (fun pc => @Bool.rec (fun _ => Option ex_C) none (some k205_22) (Nat.beq pc 22)) (fun pc => @Bool.rec (fun _ => Option ex_C) none (some k205_10) (Nat.beq pc 10)) (Nat.ble pc 10) pc) (fun pc => @Bool.rec (fun _ => Option ex_C) none (some k205_0) (Nat.beq pc 0)) (Nat.ble pc 0) pc) (Nat.ble pc 22) pc
theorem ktE_205 : ex_CTT 5 [] cd_205 kt_205 cd_205 := (ex_ct2 (ex_ct2 (ex_ct1 kE205_0) (ex_ct2 (ex_ct1 kE205_10) (ex_ct1 kE205_22))) (ex_ct2 (ex_ct1 kE205_35) (ex_ct2 (ex_ct1 kE205_48) (ex_ct1 kE205_63))))
set_option maxHeartbeats 100000 in
def k206_126 : ex_C := c_none
set_option maxHeartbeats 100000 in
theorem kE206_126 : ex_CE 5 [] cd_206 k206_126 q206_126 := e_bad
set_option maxHeartbeats 100000 in
def k206_113 : ex_C := c_none
set_option maxHeartbeats 100000 in
theorem kE206_113 : ex_CE 5 [] cd_206 k206_113 q206_113 := e_bad
set_option maxHeartbeats 100000 in
def k206_98 : ex_C := c_none
set_option maxHeartbeats 100000 in
theorem kE206_98 : ex_CE 5 [] cd_206 k206_98 q206_98 := e_bad
set_option maxHeartbeats 100000 in
def k206_83 : ex_C := c_none
set_option maxHeartbeats 100000 in
theorem kE206_83 : ex_CE 5 [] cd_206 k206_83 q206_83 := e_bad
set_option maxHeartbeats 100000 in
def k206_70 : ex_C := c_none
set_option maxHeartbeats 100000 in
theorem kE206_70 : ex_CE 5 [] cd_206 k206_70 q206_70 := e_bad
set_option maxHeartbeats 100000 in
def k206_57 : ex_C := c_none
set_option maxHeartbeats 100000 in
theorem kE206_57 : ex_CE 5 [] cd_206 k206_57 q206_57 := e_bad
set_option maxHeartbeats 100000 in
def k206_44 : ex_C := c_none
set_option maxHeartbeats 100000 in
theorem kE206_44 : ex_CE 5 [] cd_206 k206_44 q206_44 := e_bad
set_option maxHeartbeats 100000 in
def k206_31 : ex_C := c_none
set_option maxHeartbeats 100000 in
theorem kE206_31 : ex_CE 5 [] cd_206 k206_31 q206_31 := e_bad
set_option maxHeartbeats 100000 in
def k206_18 : ex_C := c_none
set_option maxHeartbeats 100000 in
theorem kE206_18 : ex_CE 5 [] cd_206 k206_18 q206_18 := e_bad
set_option maxHeartbeats 100000 in
def k206_11 : ex_C := c_none
set_option maxHeartbeats 100000 in
theorem kE206_11 : ex_CE 5 [] cd_206 k206_11 q206_11 := e_bad
set_option maxHeartbeats 100000 in
def k206_0 : ex_C := c_newo 4722366482869645214733 4 (c_dup   (c_none))
set_option maxHeartbeats 100000 in
theorem kE206_0 : ex_CE 5 [] cd_206 k206_0 q206_0 := e_newo 0 13 247 4722366482869645214733 4 rfl rfl rfl (e_dup 3 0  (e_bad))
def kt_206 : Nat → Option ex_C := fun pc => @Bool.rec (fun _ => Nat → Option ex_C) (fun pc => @Bool.rec (fun _ => Nat → Option ex_C) (fun pc => @Bool.rec (fun _ => Nat → Option ex_C) (fun pc => @Bool.rec (fun _ => Nat → Option ex_C) (fun pc => @Bool.rec (fun _ => Option ex_C) none (some k206_126) (Nat.beq pc 126)) (fun pc => @Bool.rec (fun _ => Option ex_C) none (some k206_113) (Nat.beq pc 113)) (Nat.ble pc 113) pc) (fun pc => @Bool.rec (fun _ => Option ex_C) none (some k206_98) (Nat.beq pc 98)) (Nat.ble pc 98) pc) (fun pc => @Bool.rec (fun _ => Nat → Option ex_C) (fun pc => @Bool.rec (fun _ => Nat → Option ex_C) (fun pc => @Bool.rec (fun _ => Option ex_C) none (some k206_83) (Nat.beq pc 83)) (fun pc => @Bool.rec (fun _ => Option ex_C) none (some k206_70) (Nat.beq pc 70)) (Nat.ble pc 70) pc) (fun pc => @Bool.rec (fun _ => Option ex_C) none (some k206_57) (Nat.beq pc 57)) (Nat.ble pc 57) pc) (Nat.ble pc 83) pc) (fun pc => @Bool.rec (fun _ => Nat → Option ex_C) (fun pc => @Bool.rec (fun _ => Nat → Option ex_C) (fun pc => @Bool.rec (fun _ => Nat → Option ex_C) (fun pc => @Bool.rec (fun _ => Option ex_C) none (some k206_44) (Nat.beq pc 44)) (fun pc => @Bool.rec (fun _ => Option ex_C) none (some k206_31) (Nat.beq pc 31)) (Nat.ble pc 31) pc) (fun pc => @Bool.rec (fun _ => Option ex_C) none (some k206_18) (Nat.beq pc 18)) (Nat.ble pc 18) pc) (fun pc => @Bool.rec (fun _ => Nat → Option ex_C) (fun pc => @Bool.rec (fun _ => Option ex_C) none (some k206_11) (Nat.beq pc 11)) (fun pc => @Bool.rec (fun _ => Option ex_C) none (some k206_0) (Nat.beq pc 0)) (Nat.ble pc 0) pc) (Nat.ble pc 11) pc) (Nat.ble pc 44) pc
theorem ktE_206 : ex_CTT 5 [] cd_206 kt_206 cd_206 := (ex_ct2 (ex_ct2 (ex_ct2 (ex_ct1 kE206_0) (ex_ct1 kE206_11)) (ex_ct2 (ex_ct1 kE206_18) (ex_ct2 (ex_ct1 kE206_31) (ex_ct1 kE206_44)))) (ex_ct2 (ex_ct2 (ex_ct1 kE206_57) (ex_ct2 (ex_ct1 kE206_70) (ex_ct1 kE206_83))) (ex_ct2 (ex_ct1 kE206_98) (ex_ct2 (ex_ct1 kE206_113) (ex_ct1 kE206_126)))))
set_option maxHeartbeats 100000 in
def k207_341 : ex_C := c_iload 1 (c_ireturn  1)
set_option maxHeartbeats 100000 in
theorem kE207_341 : ex_CE 1 [] cd_207 k207_341 q207_341 := e_iload_iload_n 341 0 1 1 rfl (e_ireturn 342 0 )
set_option maxHeartbeats 100000 in
def k207_333 : ex_C := c_iand (c_istore 1 (c_iinc 4 1 (c_goto 294)))
set_option maxHeartbeats 100000 in
theorem kE207_333 : ex_CE 1 [] cd_207 k207_333 q207_333 := e_iand 333 0 (e_istore_istore_n 334 0 1 1 rfl (e_iinc 335 1 4 1 (e_goto 338 294 (-44))))
set_option maxHeartbeats 100000 in
def k207_332 : ex_C := c_psh 0 (k207_333)
set_option maxHeartbeats 100000 in
theorem kE207_332 : ex_CE 1 [] cd_207 k207_332 q207_332 := e_psh_iconst 332 0 0 (kE207_333)
set_option maxHeartbeats 100000 in
def k207_325 : ex_C := c_icmp_ne 332 (c_psh 1 (c_goto 333))
set_option maxHeartbeats 100000 in
theorem kE207_325 : ex_CE 1 [] cd_207 k207_325 q207_325 := e_icmp_ne 325 332 7 (e_psh_iconst 328 1 1 (e_goto 329 333 4))
set_option maxHeartbeats 100000 in
def k207_313 : ex_C := c_aload 0 (c_iload 4 (c_psh 1 (c_iadd (c_psh 4 (c_irem   (c_iload 4 (c_invS [] cd_207 322 3 200 (k207_325))))))))
set_option maxHeartbeats 100000 in
theorem kE207_313 : ex_CE 1 [] cd_207 k207_313 q207_313 := e_aload_aload_n 313 0 0 0 rfl (e_iload_iload 314 0 4 (e_psh_iconst 316 1 1 (e_iadd 317 0 (e_psh_iconst 318 4 4 (e_irem 319 0  (e_iload_iload 320 0 4 (e_invS 322 1777635 287 3 200 rfl rfl rfl (kE207_325))))))))
set_option maxHeartbeats 100000 in
def k207_294 : ex_C := c_iload 4 (c_psh 4 (c_icmp_ge 341 (c_iload 1 (c_aload 0 (c_iload 4 (c_iload 4 (c_psh 1 (c_iadd (c_psh 4 (c_irem   (c_invS [] cd_207 310 3 200 (k207_313))))))))))))
set_option maxHeartbeats 100000 in
theorem kE207_294 : ex_CE 1 [] cd_207 k207_294 q207_294 := e_iload_iload 294 0 4 (e_psh_iconst 296 4 4 (e_icmp_ge 297 341 44 (e_iload_iload_n 300 0 1 1 rfl (e_aload_aload_n 301 0 0 0 rfl (e_iload_iload 302 0 4 (e_iload_iload 304 0 4 (e_psh_iconst 306 1 1 (e_iadd 307 0 (e_psh_iconst 308 4 4 (e_irem 309 0  (e_invS 310 1777635 287 3 200 rfl rfl rfl (kE207_313))))))))))))
set_option maxHeartbeats 100000 in
def k207_289 : ex_C := c_iand (c_istore 1 (c_psh 0 (c_istore 4 (k207_294))))
set_option maxHeartbeats 100000 in
theorem kE207_289 : ex_CE 1 [] cd_207 k207_289 q207_289 := e_iand 289 0 (e_istore_istore_n 290 0 1 1 rfl (e_psh_iconst 291 0 0 (e_istore_istore 292 0 4 (kE207_294))))
set_option maxHeartbeats 100000 in
def k207_288 : ex_C := c_psh 0 (k207_289)
set_option maxHeartbeats 100000 in
theorem kE207_288 : ex_CE 1 [] cd_207 k207_288 q207_288 := e_psh_iconst 288 0 0 (kE207_289)
set_option maxHeartbeats 100000 in
def k207_284 : ex_C := c_psh 1 (c_goto 289)
set_option maxHeartbeats 100000 in
theorem kE207_284 : ex_CE 1 [] cd_207 k207_284 q207_284 := e_psh_iconst 284 1 1 (e_goto 285 289 4)
set_option maxHeartbeats 100000 in
def k207_279 : ex_C := c_psh 8 (c_icmp_gt 288 (k207_284))
set_option maxHeartbeats 100000 in
theorem kE207_279 : ex_CE 1 [] cd_207 k207_279 q207_279 := e_psh_bipush 279 8 8 (e_icmp_gt 281 288 7 (kE207_284))
set_option maxHeartbeats 100000 in
def k207_268 : ex_C := c_none
set_option maxHeartbeats 100000 in
theorem kE207_268 : ex_CE 1 [] cd_207 k207_268 q207_268 := e_bad
set_option maxHeartbeats 100000 in
def k207_264 : ex_C := c_aload 0 (c_invV [] cd_207 265 1 131 0 (k207_268))
set_option maxHeartbeats 100000 in
theorem kE207_264 : ex_CE 1 [] cd_207 k207_264 q207_264 := e_aload_aload_n 264 0 0 0 rfl (e_invV_invokevirtual 265 1204225 314 1 131 0 rfl rfl rfl rfl rfl rfl (kE207_268))
set_option maxHeartbeats 100000 in
def k207_261 : ex_C := c_if_ne 288 (k207_264)
set_option maxHeartbeats 100000 in
theorem kE207_261 : ex_CE 1 [] cd_207 k207_261 q207_261 := e_if_ne 261 288 27 (kE207_264)
set_option maxHeartbeats 100000 in
def k207_252 : ex_C := c_if_eq 264 (c_aload 0 (c_psh 115 (c_invS [] cd_207 258 2 195 (k207_261))))
set_option maxHeartbeats 100000 in
theorem kE207_252 : ex_CE 1 [] cd_207 k207_252 q207_252 := e_if_eq 252 264 12 (e_aload_aload_n 255 0 0 0 rfl (e_psh_bipush 256 115 115 (e_invS 258 1736674 309 2 195 rfl rfl rfl (kE207_261))))
set_option maxHeartbeats 100000 in
def k207_243 : ex_C := c_psh 8 (c_icmp_gt 288 (c_aload 0 (c_invV [] cd_207 249 1 118 0 (k207_252))))
set_option maxHeartbeats 100000 in
theorem kE207_243 : ex_CE 1 [] cd_207 k207_243 q207_243 := e_psh_bipush 243 8 8 (e_icmp_gt 245 288 43 (e_aload_aload_n 248 0 0 0 rfl (e_invV_invokevirtual 249 1097729 311 1 118 0 rfl rfl rfl rfl rfl rfl (kE207_252))))
set_option maxHeartbeats 100000 in
def k207_236 : ex_C := c_iload 1 (c_aload 0 (c_psh 115 (c_invS [] cd_207 240 2 195 (k207_243))))
set_option maxHeartbeats 100000 in
theorem kE207_236 : ex_CE 1 [] cd_207 k207_236 q207_236 := e_iload_iload_n 236 0 1 1 rfl (e_aload_aload_n 237 0 0 0 rfl (e_psh_bipush 238 115 115 (e_invS 240 1736674 309 2 195 rfl rfl rfl (kE207_243))))
set_option maxHeartbeats 100000 in
def k207_234 : ex_C := c_iand (c_istore 1 (k207_236))
set_option maxHeartbeats 100000 in
theorem kE207_234 : ex_CE 1 [] cd_207 k207_234 q207_234 := e_iand 234 0 (e_istore_istore_n 235 0 1 1 rfl (kE207_236))
set_option maxHeartbeats 100000 in
def k207_233 : ex_C := c_psh 0 (k207_234)
set_option maxHeartbeats 100000 in
theorem kE207_233 : ex_CE 1 [] cd_207 k207_233 q207_233 := e_psh_iconst 233 0 0 (kE207_234)
set_option maxHeartbeats 100000 in
def k207_226 : ex_C := c_if_ne 233 (c_psh 1 (c_goto 234))
set_option maxHeartbeats 100000 in
theorem kE207_226 : ex_CE 1 [] cd_207 k207_226 q207_226 := e_if_ne 226 233 7 (e_psh_iconst 229 1 1 (e_goto 230 234 4))
set_option maxHeartbeats 100000 in
def k207_213 : ex_C := c_istore 3 (c_iload 3 (c_psh 45 (c_icmp_eq 236 (c_iload 1 (c_aload 0 (c_iload 3 (c_invS [] cd_207 223 2 195 (k207_226))))))))
set_option maxHeartbeats 100000 in
theorem kE207_213 : ex_CE 1 [] cd_207 k207_213 q207_213 := e_istore_istore_n 213 0 3 3 rfl (e_iload_iload_n 214 0 3 3 rfl (e_psh_bipush 215 45 45 (e_icmp_eq 217 236 19 (e_iload_iload_n 220 0 1 1 rfl (e_aload_aload_n 221 0 0 0 rfl (e_iload_iload_n 222 0 3 3 rfl (e_invS 223 1736674 309 2 195 rfl rfl rfl (kE207_226))))))))
set_option maxHeartbeats 100000 in
def k207_209 : ex_C := c_aload 0 (c_invV [] cd_207 210 1 116 0 (k207_213))
set_option maxHeartbeats 100000 in
theorem kE207_209 : ex_CE 1 [] cd_207 k207_209 q207_209 := e_aload_aload_n 209 0 0 0 rfl (e_invV_invokevirtual 210 1081345 289 1 116 0 rfl rfl rfl rfl rfl rfl (kE207_213))
set_option maxHeartbeats 100000 in
def k207_201 : ex_C := c_iand (c_istore 1 (c_iinc 3 1 (c_goto 15)))
set_option maxHeartbeats 100000 in
theorem kE207_201 : ex_CE 1 [] cd_207 k207_201 q207_201 := e_iand 201 0 (e_istore_istore_n 202 0 1 1 rfl (e_iinc 203 1 3 1 (e_goto 206 15 (-191))))
set_option maxHeartbeats 100000 in
def k207_200 : ex_C := c_psh 0 (k207_201)
set_option maxHeartbeats 100000 in
theorem kE207_200 : ex_CE 1 [] cd_207 k207_200 q207_200 := e_psh_iconst 200 0 0 (kE207_201)
set_option maxHeartbeats 100000 in
def k207_193 : ex_C := c_icmp_ne 200 (c_psh 1 (c_goto 201))
set_option maxHeartbeats 100000 in
theorem kE207_193 : ex_CE 1 [] cd_207 k207_193 q207_193 := e_icmp_ne 193 200 7 (e_psh_iconst 196 1 1 (e_goto 197 201 4))
set_option maxHeartbeats 100000 in
def k207_192 : ex_C := c_psh 0 (k207_193)
set_option maxHeartbeats 100000 in
theorem kE207_192 : ex_CE 1 [] cd_207 k207_192 q207_192 := e_psh_iconst 192 0 0 (kE207_193)
set_option maxHeartbeats 100000 in
def k207_185 : ex_C := c_if_ge 192 (c_psh 1 (c_goto 193))
set_option maxHeartbeats 100000 in
theorem kE207_185 : ex_CE 1 [] cd_207 k207_185 q207_185 := e_if_ge 185 192 7 (e_psh_iconst 188 1 1 (e_goto 189 193 4))
set_option maxHeartbeats 100000 in
def k207_180 : ex_C := c_aload 0 (c_iload 3 (c_invS [] cd_207 182 2 194 (k207_185)))
set_option maxHeartbeats 100000 in
theorem kE207_180 : ex_CE 1 [] cd_207 k207_180 q207_180 := e_aload_aload_n 180 0 0 0 rfl (e_iload_iload_n 181 0 3 3 rfl (e_invS 182 1728482 307 2 194 rfl rfl rfl (kE207_185)))
set_option maxHeartbeats 100000 in
def k207_179 : ex_C := c_psh 0 (k207_180)
set_option maxHeartbeats 100000 in
theorem kE207_179 : ex_CE 1 [] cd_207 k207_179 q207_179 := e_psh_iconst 179 0 0 (kE207_180)
set_option maxHeartbeats 100000 in
def k207_170 : ex_C := c_iload 5 (c_if_ge 179 (c_psh 1 (c_goto 180)))
set_option maxHeartbeats 100000 in
theorem kE207_170 : ex_CE 1 [] cd_207 k207_170 q207_170 := e_iload_iload 170 0 5 (e_if_ge 172 179 7 (e_psh_iconst 175 1 1 (e_goto 176 180 4)))
set_option maxHeartbeats 100000 in
def k207_167 : ex_C := c_icmp_ne 200 (k207_170)
set_option maxHeartbeats 100000 in
theorem kE207_167 : ex_CE 1 [] cd_207 k207_167 q207_167 := e_icmp_ne 167 200 33 (kE207_170)
set_option maxHeartbeats 100000 in
def k207_162 : ex_C := c_aload 0 (c_iload 3 (c_invS [] cd_207 164 2 194 (k207_167)))
set_option maxHeartbeats 100000 in
theorem kE207_162 : ex_CE 1 [] cd_207 k207_162 q207_162 := e_aload_aload_n 162 0 0 0 rfl (e_iload_iload_n 163 0 3 3 rfl (e_invS 164 1728482 307 2 194 rfl rfl rfl (kE207_167)))
set_option maxHeartbeats 100000 in
def k207_152 : ex_C := c_iload 3 (c_icmp_ne 200 (c_aload 0 (c_iload 5 (c_invS [] cd_207 159 2 194 (k207_162)))))
set_option maxHeartbeats 100000 in
theorem kE207_152 : ex_CE 1 [] cd_207 k207_152 q207_152 := e_iload_iload_n 152 0 3 3 rfl (e_icmp_ne 153 200 47 (e_aload_aload_n 156 0 0 0 rfl (e_iload_iload 157 0 5 (e_invS 159 1728482 307 2 194 rfl rfl rfl (kE207_162)))))
set_option maxHeartbeats 100000 in
def k207_139 : ex_C := c_iload 5 (c_if_lt 170 (c_aload 0 (c_iload 5 (c_psh 0 (c_psh 2 (c_invS [] cd_207 149 4 193 (k207_152)))))))
set_option maxHeartbeats 100000 in
theorem kE207_139 : ex_CE 1 [] cd_207 k207_139 q207_139 := e_iload_iload 139 0 5 (e_if_lt 141 170 29 (e_aload_aload_n 144 0 0 0 rfl (e_iload_iload 145 0 5 (e_psh_iconst 147 0 0 (e_psh_iconst 148 2 2 (e_invS 149 1720292 304 4 193 rfl rfl rfl (kE207_152)))))))
set_option maxHeartbeats 100000 in
def k207_135 : ex_C := c_iload 3 (c_icmp_ne 200 (k207_139))
set_option maxHeartbeats 100000 in
theorem kE207_135 : ex_CE 1 [] cd_207 k207_135 q207_135 := e_iload_iload_n 135 0 3 3 rfl (e_icmp_ne 136 200 64 (kE207_139))
set_option maxHeartbeats 100000 in
def k207_119 : ex_C := c_istore 5 (c_iload 1 (c_iload 4 (c_if_lt 139 (c_aload 0 (c_iload 4 (c_psh 1 (c_psh 2 (c_invS [] cd_207 132 4 193 (k207_135)))))))))
set_option maxHeartbeats 100000 in
theorem kE207_119 : ex_CE 1 [] cd_207 k207_119 q207_119 := e_istore_istore 119 0 5 (e_iload_iload_n 121 0 1 1 rfl (e_iload_iload 122 0 4 (e_if_lt 124 139 15 (e_aload_aload_n 127 0 0 0 rfl (e_iload_iload 128 0 4 (e_psh_iconst 130 1 1 (e_psh_iconst 131 2 2 (e_invS 132 1720292 304 4 193 rfl rfl rfl (kE207_135)))))))))
set_option maxHeartbeats 100000 in
def k207_110 : ex_C := c_istore 4 (c_aload 0 (c_iload 3 (c_psh 0 (c_psh 2 (c_invS [] cd_207 116 4 193 (k207_119))))))
set_option maxHeartbeats 100000 in
theorem kE207_110 : ex_CE 1 [] cd_207 k207_110 q207_110 := e_istore_istore 110 0 4 (e_aload_aload_n 112 0 0 0 rfl (e_iload_iload_n 113 0 3 3 rfl (e_psh_iconst 114 0 0 (e_psh_iconst 115 2 2 (e_invS 116 1720292 304 4 193 rfl rfl rfl (kE207_119))))))
set_option maxHeartbeats 100000 in
def k207_101 : ex_C := c_iand (c_istore 1 (c_aload 0 (c_iload 3 (c_psh 1 (c_psh 2 (c_invS [] cd_207 107 4 193 (k207_110)))))))
set_option maxHeartbeats 100000 in
theorem kE207_101 : ex_CE 1 [] cd_207 k207_101 q207_101 := e_iand 101 0 (e_istore_istore_n 102 0 1 1 rfl (e_aload_aload_n 103 0 0 0 rfl (e_iload_iload_n 104 0 3 3 rfl (e_psh_iconst 105 1 1 (e_psh_iconst 106 2 2 (e_invS 107 1720292 304 4 193 rfl rfl rfl (kE207_110)))))))
set_option maxHeartbeats 100000 in
def k207_100 : ex_C := c_psh 0 (k207_101)
set_option maxHeartbeats 100000 in
theorem kE207_100 : ex_CE 1 [] cd_207 k207_100 q207_100 := e_psh_iconst 100 0 0 (kE207_101)
set_option maxHeartbeats 100000 in
def k207_92 : ex_C := c_psh 4 (c_icmp_ge 100 (c_psh 1 (c_goto 101)))
set_option maxHeartbeats 100000 in
theorem kE207_92 : ex_CE 1 [] cd_207 k207_92 q207_92 := e_psh_iconst 92 4 4 (e_icmp_ge 93 100 7 (e_psh_iconst 96 1 1 (e_goto 97 101 4)))
set_option maxHeartbeats 100000 in
def k207_84 : ex_C := c_if_lt 100 (c_aload 0 (c_iload 3 (c_invS [] cd_207 89 2 179 (k207_92))))
set_option maxHeartbeats 100000 in
theorem kE207_84 : ex_CE 1 [] cd_207 k207_84 q207_84 := e_if_lt 84 100 16 (e_aload_aload_n 87 0 0 0 rfl (e_iload_iload_n 88 0 3 3 rfl (e_invS 89 1605602 261 2 179 rfl rfl rfl (kE207_92))))
set_option maxHeartbeats 100000 in
def k207_75 : ex_C := c_iload 3 (c_icmp_ne 100 (c_aload 0 (c_iload 3 (c_invS [] cd_207 81 2 179 (k207_84)))))
set_option maxHeartbeats 100000 in
theorem kE207_75 : ex_CE 1 [] cd_207 k207_75 q207_75 := e_iload_iload_n 75 0 3 3 rfl (e_icmp_ne 76 100 24 (e_aload_aload_n 79 0 0 0 rfl (e_iload_iload_n 80 0 3 3 rfl (e_invS 81 1605602 261 2 179 rfl rfl rfl (kE207_84)))))
set_option maxHeartbeats 100000 in
def k207_72 : ex_C := c_invS [] cd_207 72 3 183 (k207_75)
set_option maxHeartbeats 100000 in
theorem kE207_72 : ex_CE 1 [] cd_207 k207_72 q207_72 := e_invS 72 1638371 302 3 183 rfl rfl rfl (kE207_75)
set_option maxHeartbeats 100000 in
def k207_67 : ex_C := c_aload 0 (c_iload 3 (c_invS [] cd_207 69 2 178 (k207_72)))
set_option maxHeartbeats 100000 in
theorem kE207_67 : ex_CE 1 [] cd_207 k207_67 q207_67 := e_aload_aload_n 67 0 0 0 rfl (e_iload_iload_n 68 0 3 3 rfl (e_invS 69 1597410 259 2 178 rfl rfl rfl (kE207_72)))
set_option maxHeartbeats 100000 in
def k207_49 : ex_C := c_none
set_option maxHeartbeats 100000 in
theorem kE207_49 : ex_CE 1 [] cd_207 k207_49 q207_49 := e_bad
set_option maxHeartbeats 100000 in
def k207_35 : ex_C := c_none
set_option maxHeartbeats 100000 in
theorem kE207_35 : ex_CE 1 [] cd_207 k207_35 q207_35 := e_bad
set_option maxHeartbeats 100000 in
def k207_15 : ex_C := c_iload 3 (c_psh 8 (c_icmp_ge 209 (c_iload 1 (c_aload 2 (c_newo 4722366482869645214733 4 (c_dup   (c_none)))))))
set_option maxHeartbeats 100000 in
theorem kE207_15 : ex_CE 1 [] cd_207 k207_15 q207_15 := e_iload_iload_n 15 0 3 3 rfl (e_psh_bipush 16 8 8 (e_icmp_ge 18 209 191 (e_iload_iload_n 21 0 1 1 rfl (e_aload_aload_n 22 0 2 2 rfl (e_newo 23 13 247 4722366482869645214733 4 rfl rfl rfl (e_dup 26 0  (e_bad)))))))
set_option maxHeartbeats 100000 in
def k207_4 : ex_C := c_istore 1 (c_newo 4722366482869645213966 1 (c_dup   (c_none)))
set_option maxHeartbeats 100000 in
theorem kE207_4 : ex_CE 1 [] cd_207 k207_4 q207_4 := e_istore_istore_n 4 0 1 1 rfl (e_newo 5 14 296 4722366482869645213966 1 rfl rfl rfl (e_dup 8 0  (e_bad)))
set_option maxHeartbeats 100000 in
def k207_0 : ex_C := c_aload 0 (c_invV [] cd_207 1 1 132 0 (k207_4))
set_option maxHeartbeats 100000 in
theorem kE207_0 : ex_CE 1 [] cd_207 k207_0 q207_0 := e_aload_aload_n 0 0 0 0 rfl (e_invV_invokevirtual 1 1212417 292 1 132 0 rfl rfl rfl rfl rfl rfl (kE207_4))
def kt_207 : Nat → Option ex_C := fun pc => @Bool.rec (fun _ => Nat → Option ex_C) (fun pc => @Bool.rec (fun _ => Nat → Option ex_C) (fun pc => @Bool.rec (fun _ => Nat → Option ex_C) (fun pc => @Bool.rec (fun _ => Nat → Option ex_C) (fun pc => @Bool.rec (fun _ => Nat → Option ex_C) (fun pc => @Bool.rec (fun _ => Nat → Option ex_C) (fun pc => @Bool.rec (fun _ => Option ex_C) none (some k207_341) (Nat.beq pc 341)) (fun pc => @Bool.rec (fun _ => Option ex_C) none (some k207_333) (Nat.beq pc 333)) (Nat.ble pc 333) pc) (fun pc => @Bool.rec (fun _ => Option ex_C) none (some k207_332) (Nat.beq pc 332)) (Nat.ble pc 332) pc) (fun pc => @Bool.rec (fun _ => Nat → Option ex_C) (fun pc => @Bool.rec (fun _ => Nat → Option ex_C) (fun pc => @Bool.rec (fun _ => Option ex_C) none (some k207_325) (Nat.beq pc 325)) (fun pc => @Bool.rec (fun _ => Option ex_C) none (some k207_313) (Nat.beq pc 313)) (Nat.ble pc 313) pc) (fun pc => @Bool.rec (fun _ => Option ex_C) none (some k207_294) (Nat.beq pc 294)) (Nat.ble pc 294) pc) (Nat.ble pc 325) pc) (fun pc => @Bool.rec (fun _ => Nat → Option ex_C) (fun pc => @Bool.rec (fun _ => Nat → Option ex_C) (fun pc => @Bool.rec (fun _ => Nat → Option ex_C) (fun pc => @Bool.rec (fun _ => Option ex_C) none (some k207_289) (Nat.beq pc 289)) (fun pc => @Bool.rec (fun _ => Option ex_C) none (some k207_288) (Nat.beq pc 288)) (Nat.ble pc 288) pc) (fun pc => @Bool.rec (fun _ => Option ex_C) none (some k207_284) (Nat.beq pc 284)) (Nat.ble pc 284) pc) (fun pc => @Bool.rec (fun _ => Nat → Option ex_C) (fun pc => @Bool.rec (fun _ => Nat → Option ex_C) (fun pc => @Bool.rec (fun _ => Option ex_C) none (some k207_279) (Nat.beq pc 279)) (fun pc => @Bool.rec (fun _ => Option ex_C) none (some k207_268) (Nat.beq pc 268)) (Nat.ble pc 268) pc) (fun pc => @Bool.rec (fun _ => Option ex_C) none (some k207_264) (Nat.beq pc 264)) (Nat.ble pc 264) pc) (Nat.ble pc 279) pc) (Nat.ble pc 289) pc) (fun pc => @Bool.rec (fun _ => Nat → Option ex_C) (fun pc => @Bool.rec (fun _ => Nat → Option ex_C) (fun pc => @Bool.rec (fun _ => Nat → Option ex_C) (fun pc => @Bool.rec (fun _ => Nat → Option ex_C) (fun pc => @Bool.rec (fun _ => Option ex_C) none (some k207_261) (Nat.beq pc 261)) (fun pc => @Bool.rec (fun _ => Option ex_C) none (some k207_252) (Nat.beq pc 252)) (Nat.ble pc 252) pc) (fun pc => @Bool.rec (fun _ => Option ex_C) none (some k207_243) (Nat.beq pc 243)) (Nat.ble pc 243) pc) (fun pc => @Bool.rec (fun _ => Nat → Option ex_C) (fun pc => @Bool.rec (fun _ => Nat → Option ex_C) (fun pc => @Bool.rec (fun _ => Option ex_C) none (some k207_236) (Nat.beq pc 236)) (fun pc => @Bool.rec (fun _ => Option ex_C) none (some k207_234) (Nat.beq pc 234)) (Nat.ble pc 234) pc) (fun pc => @Bool.rec (fun _ => Option ex_C) none (some k207_233) (Nat.beq pc 233)) (Nat.ble pc 233) pc) (Nat.ble pc 236) pc) (fun pc => @Bool.rec (fun _ => Nat → Option ex_C) (fun pc => @Bool.rec (fun _ => Nat → Option ex_C) (fun pc => @Bool.rec (fun _ => Nat → Option ex_C) (fun pc => @Bool.rec (fun _ => Option ex_C) none (some k207_226) (Nat.beq pc 226)) (fun pc => @Bool.rec (fun _ => Option ex_C) none (some k207_213) (Nat.beq pc 213)) (Nat.ble pc 213) pc) (fun pc => @Bool.rec (fun _ => Option ex_C) none (some k207_209) (Nat.beq pc 209)) (Nat.ble pc 209) pc) (fun pc => @Bool.rec (fun _ => Nat → Option ex_C) (fun pc => @Bool.rec (fun _ => Nat → Option ex_C) (fun pc => @Bool.rec (fun _ => Option ex_C) none (some k207_201) (Nat.beq pc 201)) (fun pc => @Bool.rec (fun _ => Option ex_C) none (some k207_200) (Nat.beq pc 200)) (Nat.ble pc 200) pc) (fun pc => @Bool.rec (fun _ => Option ex_C) none (some k207_193) (Nat.beq pc 193)) (Nat.ble pc 193) pc) (Nat.ble pc 201) pc) (Nat.ble pc 226) pc) (Nat.ble pc 261) pc) (fun pc => @Bool.rec (fun _ => Nat → Option ex_C) (fun pc => @Bool.rec (fun _ => Nat → Option ex_C) (fun pc => @Bool.rec (fun _ => Nat → Option ex_C) (fun pc => @Bool.rec (fun _ => Nat → Option ex_C) (fun pc => @Bool.rec (fun _ => Nat → Option ex_C) (fun pc => @Bool.rec (fun _ => Option ex_C) none (some k207_192) (Nat.beq pc 192)) (fun pc => @Bool.rec (fun _ => Option ex_C) none (some k207_185) (Nat.beq pc 185)) (Nat.ble pc 185) pc) (fun pc => @Bool.rec (fun _ => Option ex_C) none (some k207_180) (Nat.beq pc 180)) (Nat.ble pc 180) pc) (fun pc => @Bool.rec (fun _ => Nat → Option ex_C) (fun pc => @Bool.rec (fun _ => Nat → Option ex_C) (fun pc => @Bool.rec (fun _ => Option ex_C) none (some k207_179) (Nat.beq pc 179)) (fun pc => @Bool.rec (fun _ => Option ex_C) none (some k207_170) (Nat.beq pc 170)) (Nat.ble pc 170) pc) (fun pc => @Bool.rec (fun _ => Option ex_C) none (some k207_167) (Nat.beq pc 167)) (Nat.ble pc 167) pc) (Nat.ble pc 179) pc) (fun pc => @Bool.rec (fun _ => Nat → Option ex_C) (fun pc => @Bool.rec (fun _ => Nat → Option ex_C) (fun pc => @Bool.rec (fun _ => Nat → Option ex_C) (fun pc => @Bool.rec (fun _ => Option ex_C) none (some k207_162) (Nat.beq pc 162)) (fun pc => @Bool.rec (fun _ => Option ex_C) none (some k207_152) (Nat.beq pc 152)) (Nat.ble pc 152) pc) (fun pc => @Bool.rec (fun _ => Option ex_C) none (some k207_139) (Nat.beq pc 139)) (Nat.ble pc 139) pc) (fun pc => @Bool.rec (fun _ => Nat → Option ex_C) (fun pc => @Bool.rec (fun _ => Nat → Option ex_C) (fun pc => @Bool.rec (fun _ => Option ex_C) none (some k207_135) (Nat.beq pc 135)) (fun pc => @Bool.rec (fun _ => Option ex_C) none (some k207_119) (Nat.beq pc 119)) (Nat.ble pc 119) pc) (fun pc => @Bool.rec (fun _ => Option ex_C) none (some k207_110) (Nat.beq pc 110)) (Nat.ble pc 110) pc) (Nat.ble pc 135) pc) (Nat.ble pc 162) pc) (fun pc => @Bool.rec (fun _ => Nat → Option ex_C) (fun pc => @Bool.rec (fun _ => Nat → Option ex_C) (fun pc => @Bool.rec (fun _ => Nat → Option ex_C) (fun pc => @Bool.rec (fun _ => Nat → Option ex_C) (fun pc => @Bool.rec (fun _ => Option ex_C) none (some k207_101) (Nat.beq pc 101)) (fun pc => @Bool.rec (fun _ => Option ex_C) none (some k207_100) (Nat.beq pc 100)) (Nat.ble pc 100) pc) (fun pc => @Bool.rec (fun _ => Option ex_C) none (some k207_92) (Nat.beq pc 92)) (Nat.ble pc 92) pc) (fun pc => @Bool.rec (fun _ => Nat → Option ex_C) (fun pc => @Bool.rec (fun _ => Nat → Option ex_C) (fun pc => @Bool.rec (fun _ => Option ex_C) none (some k207_84) (Nat.beq pc 84)) (fun pc => @Bool.rec (fun _ => Option ex_C) none (some k207_75) (Nat.beq pc 75)) (Nat.ble pc 75) pc) (fun pc => @Bool.rec (fun _ => Option ex_C) none (some k207_72) (Nat.beq pc 72)) (Nat.ble pc 72) pc) (Nat.ble pc 84) pc) (fun pc => @Bool.rec (fun _ => Nat → Option ex_C) (fun pc => @Bool.rec (fun _ => Nat → Option ex_C) (fun pc => @Bool.rec (fun _ => Nat → Option ex_C) (fun pc => @Bool.rec (fun _ => Option ex_C) none (some k207_67) (Nat.beq pc 67)) (fun pc => @Bool.rec (fun _ => Option ex_C) none (some k207_49) (Nat.beq pc 49)) (Nat.ble pc 49) pc) (fun pc => @Bool.rec (fun _ => Option ex_C) none (some k207_35) (Nat.beq pc 35)) (Nat.ble pc 35) pc) (fun pc => @Bool.rec (fun _ => Nat → Option ex_C) (fun pc => @Bool.rec (fun _ => Nat → Option ex_C) (fun pc => @Bool.rec (fun _ => Option ex_C) none (some k207_15) (Nat.beq pc 15)) (fun pc => @Bool.rec (fun _ => Option ex_C) none (some k207_4) (Nat.beq pc 4)) (Nat.ble pc 4) pc) (fun pc => @Bool.rec (fun _ => Option ex_C) none (some k207_0) (Nat.beq pc 0)) (Nat.ble pc 0) pc) (Nat.ble pc 15) pc) (Nat.ble pc 67) pc) (Nat.ble pc 101) pc) (Nat.ble pc 192) pc
theorem ktE_207 : ex_CTT 1 [] cd_207 kt_207 cd_207 := (ex_ct2 (ex_ct2 (ex_ct2 (ex_ct2 (ex_ct2 (ex_ct1 kE207_0) (ex_ct2 (ex_ct1 kE207_4) (ex_ct1 kE207_15))) (ex_ct2 (ex_ct1 kE207_35) (ex_ct2 (ex_ct1 kE207_49) (ex_ct1 kE207_67)))) (ex_ct2 (ex_ct2 (ex_ct1 kE207_72) (ex_ct2 (ex_ct1 kE207_75) (ex_ct1 kE207_84))) (ex_ct2 (ex_ct1 kE207_92) (ex_ct2 (ex_ct1 kE207_100) (ex_ct1 kE207_101))))) (ex_ct2 (ex_ct2 (ex_ct2 (ex_ct1 kE207_110) (ex_ct2 (ex_ct1 kE207_119) (ex_ct1 kE207_135))) (ex_ct2 (ex_ct1 kE207_139) (ex_ct2 (ex_ct1 kE207_152) (ex_ct1 kE207_162)))) (ex_ct2 (ex_ct2 (ex_ct1 kE207_167) (ex_ct2 (ex_ct1 kE207_170) (ex_ct1 kE207_179))) (ex_ct2 (ex_ct1 kE207_180) (ex_ct2 (ex_ct1 kE207_185) (ex_ct1 kE207_192)))))) (ex_ct2 (ex_ct2 (ex_ct2 (ex_ct2 (ex_ct1 kE207_193) (ex_ct2 (ex_ct1 kE207_200) (ex_ct1 kE207_201))) (ex_ct2 (ex_ct1 kE207_209) (ex_ct2 (ex_ct1 kE207_213) (ex_ct1 kE207_226)))) (ex_ct2 (ex_ct2 (ex_ct1 kE207_233) (ex_ct2 (ex_ct1 kE207_234) (ex_ct1 kE207_236))) (ex_ct2 (ex_ct1 kE207_243) (ex_ct2 (ex_ct1 kE207_252) (ex_ct1 kE207_261))))) (ex_ct2 (ex_ct2 (ex_ct2 (ex_ct1 kE207_264) (ex_ct2 (ex_ct1 kE207_268) (ex_ct1 kE207_279))) (ex_ct2 (ex_ct1 kE207_284) (ex_ct2 (ex_ct1 kE207_288) (ex_ct1 kE207_289)))) (ex_ct2 (ex_ct2 (ex_ct1 kE207_294) (ex_ct2 (ex_ct1 kE207_313) (ex_ct1 kE207_325))) (ex_ct2 (ex_ct1 kE207_332) (ex_ct2 (ex_ct1 kE207_333) (ex_ct1 kE207_341)))))))
set_option maxHeartbeats 100000 in
def k208_352 : ex_C := c_iload 4 (c_ireturn  1)
set_option maxHeartbeats 100000 in
theorem kE208_352 : ex_CE 1 [] cd_208 k208_352 q208_352 := e_iload_iload 352 0 4 (e_ireturn 354 0 )
set_option maxHeartbeats 100000 in
def k208_343 : ex_C := c_iand (c_istore 4 (c_iinc 5 1 (c_goto 42)))
set_option maxHeartbeats 100000 in
theorem kE208_343 : ex_CE 1 [] cd_208 k208_343 q208_343 := e_iand 343 0 (e_istore_istore 344 0 4 (e_iinc 346 1 5 1 (e_goto 349 42 (-307))))
set_option maxHeartbeats 100000 in
def k208_342 : ex_C := c_psh 0 (k208_343)
set_option maxHeartbeats 100000 in
theorem kE208_342 : ex_CE 1 [] cd_208 k208_342 q208_342 := e_psh_iconst 342 0 0 (kE208_343)
set_option maxHeartbeats 100000 in
def k208_335 : ex_C := c_icmp_ne 342 (c_psh 1 (c_goto 343))
set_option maxHeartbeats 100000 in
theorem kE208_335 : ex_CE 1 [] cd_208 k208_335 q208_335 := e_icmp_ne 335 342 7 (e_psh_iconst 338 1 1 (e_goto 339 343 4))
set_option maxHeartbeats 100000 in
def k208_331 : ex_C := c_aload 3 (c_invV [] cd_208 332 1 116 0 (k208_335))
set_option maxHeartbeats 100000 in
theorem kE208_331 : ex_CE 1 [] cd_208 k208_331 q208_331 := e_aload_aload_n 331 0 3 3 rfl (e_invV_invokevirtual 332 1081345 289 1 116 0 rfl rfl rfl rfl rfl rfl (kE208_335))
set_option maxHeartbeats 100000 in
def k208_321 : ex_C := c_none
set_option maxHeartbeats 100000 in
theorem kE208_321 : ex_CE 1 [] cd_208 k208_321 q208_321 := e_bad
set_option maxHeartbeats 100000 in
def k208_317 : ex_C := c_aload 2 (c_invS [] cd_208 318 1 205 (k208_321))
set_option maxHeartbeats 100000 in
theorem kE208_317 : ex_CE 1 [] cd_208 k208_317 q208_317 := e_aload_aload_n 317 0 2 2 rfl (e_invS 318 1818593 205 1 205 rfl rfl rfl (kE208_321))
set_option maxHeartbeats 100000 in
def k208_311 : ex_C := c_iload 4 (c_aload 1 (c_invS [] cd_208 314 1 205 (k208_317)))
set_option maxHeartbeats 100000 in
theorem kE208_311 : ex_CE 1 [] cd_208 k208_311 q208_311 := e_iload_iload 311 0 4 (e_aload_aload_n 313 0 1 1 rfl (e_invS 314 1818593 205 1 205 rfl rfl rfl (kE208_317)))
set_option maxHeartbeats 100000 in
def k208_302 : ex_C := c_iand (c_istore 4 (c_iinc 11 1 (c_goto 237)))
set_option maxHeartbeats 100000 in
theorem kE208_302 : ex_CE 1 [] cd_208 k208_302 q208_302 := e_iand 302 0 (e_istore_istore 303 0 4 (e_iinc 305 1 11 1 (e_goto 308 237 (-71))))
set_option maxHeartbeats 100000 in
def k208_301 : ex_C := c_psh 0 (k208_302)
set_option maxHeartbeats 100000 in
theorem kE208_301 : ex_CE 1 [] cd_208 k208_301 q208_301 := e_psh_iconst 301 0 0 (kE208_302)
set_option maxHeartbeats 100000 in
def k208_290 : ex_C := c_psh 3 (c_iadd (c_psh 4 (c_irem   (c_icmp_ne 301 (c_psh 1 (c_goto 302))))))
set_option maxHeartbeats 100000 in
theorem kE208_290 : ex_CE 1 [] cd_208 k208_290 q208_290 := e_psh_iconst 290 3 3 (e_iadd 291 0 (e_psh_iconst 292 4 4 (e_irem 293 0  (e_icmp_ne 294 301 7 (e_psh_iconst 297 1 1 (e_goto 298 302 4))))))
set_option maxHeartbeats 100000 in
def k208_284 : ex_C := c_aload 1 (c_iload 11 (c_invS [] cd_208 287 2 179 (k208_290)))
set_option maxHeartbeats 100000 in
theorem kE208_284 : ex_CE 1 [] cd_208 k208_284 q208_284 := e_aload_aload_n 284 0 1 1 rfl (e_iload_iload 285 0 11 (e_invS 287 1605602 261 2 179 rfl rfl rfl (kE208_290)))
set_option maxHeartbeats 100000 in
def k208_275 : ex_C := c_icmp_ne 301 (c_aload 3 (c_iload 11 (c_invS [] cd_208 281 2 179 (k208_284))))
set_option maxHeartbeats 100000 in
theorem kE208_275 : ex_CE 1 [] cd_208 k208_275 q208_275 := e_icmp_ne 275 301 26 (e_aload_aload_n 278 0 3 3 rfl (e_iload_iload 279 0 11 (e_invS 281 1605602 261 2 179 rfl rfl rfl (kE208_284))))
set_option maxHeartbeats 100000 in
def k208_269 : ex_C := c_aload 1 (c_iload 11 (c_invS [] cd_208 272 2 177 (k208_275)))
set_option maxHeartbeats 100000 in
theorem kE208_269 : ex_CE 1 [] cd_208 k208_269 q208_269 := e_aload_aload_n 269 0 1 1 rfl (e_iload_iload 270 0 11 (e_invS 272 1589218 250 2 177 rfl rfl rfl (kE208_275)))
set_option maxHeartbeats 100000 in
def k208_259 : ex_C := c_isub (c_icmp_ne 301 (c_aload 3 (c_iload 11 (c_invS [] cd_208 266 2 178 (k208_269)))))
set_option maxHeartbeats 100000 in
theorem kE208_259 : ex_CE 1 [] cd_208 k208_259 q208_259 := e_isub 259 0 (e_icmp_ne 260 301 41 (e_aload_aload_n 263 0 3 3 rfl (e_iload_iload 264 0 11 (e_invS 266 1597410 259 2 178 rfl rfl rfl (kE208_269)))))
set_option maxHeartbeats 100000 in
def k208_252 : ex_C := c_psh 0 (c_aload 1 (c_iload 11 (c_invS [] cd_208 256 2 178 (k208_259))))
set_option maxHeartbeats 100000 in
theorem kE208_252 : ex_CE 1 [] cd_208 k208_252 q208_252 := e_psh_iconst 252 0 0 (e_aload_aload_n 253 0 1 1 rfl (e_iload_iload 254 0 11 (e_invS 256 1597410 259 2 178 rfl rfl rfl (kE208_259))))
set_option maxHeartbeats 100000 in
def k208_237 : ex_C := c_iload 11 (c_psh 8 (c_icmp_ge 311 (c_iload 4 (c_aload 3 (c_iload 11 (c_invS [] cd_208 249 2 177 (k208_252)))))))
set_option maxHeartbeats 100000 in
theorem kE208_237 : ex_CE 1 [] cd_208 k208_237 q208_237 := e_iload_iload 237 0 11 (e_psh_bipush 239 8 8 (e_icmp_ge 241 311 70 (e_iload_iload 244 0 4 (e_aload_aload_n 246 0 3 3 rfl (e_iload_iload 247 0 11 (e_invS 249 1589218 250 2 177 rfl rfl rfl (kE208_252)))))))
set_option maxHeartbeats 100000 in
def k208_234 : ex_C := c_psh 0 (c_istore 11 (k208_237))
set_option maxHeartbeats 100000 in
theorem kE208_234 : ex_CE 1 [] cd_208 k208_234 q208_234 := e_psh_iconst 234 0 0 (e_istore_istore 235 0 11 (kE208_237))
set_option maxHeartbeats 100000 in
def k208_231 : ex_C := c_iand (c_istore 4 (k208_234))
set_option maxHeartbeats 100000 in
theorem kE208_231 : ex_CE 1 [] cd_208 k208_231 q208_231 := e_iand 231 0 (e_istore_istore 232 0 4 (kE208_234))
set_option maxHeartbeats 100000 in
def k208_230 : ex_C := c_psh 0 (k208_231)
set_option maxHeartbeats 100000 in
theorem kE208_230 : ex_CE 1 [] cd_208 k208_230 q208_230 := e_psh_iconst 230 0 0 (kE208_231)
set_option maxHeartbeats 100000 in
def k208_221 : ex_C := c_iload 9 (c_icmp_ne 230 (c_psh 1 (c_goto 231)))
set_option maxHeartbeats 100000 in
theorem kE208_221 : ex_CE 1 [] cd_208 k208_221 q208_221 := e_iload_iload 221 0 9 (e_icmp_ne 223 230 7 (e_psh_iconst 226 1 1 (e_goto 227 231 4)))
set_option maxHeartbeats 100000 in
def k208_202 : ex_C := c_iload 11 (c_psh 4294967293 (c_icmp_ne 230 (c_aload 2 (c_iload 6 (c_iload 7 (c_psh 45 (c_psh 1 (c_psh 1 (c_invS [] cd_208 218 6 187 (k208_221))))))))))
set_option maxHeartbeats 100000 in
theorem kE208_202 : ex_CE 1 [] cd_208 k208_202 q208_202 := e_iload_iload 202 0 11 (e_psh_bipush 204 4294967293 (-3) (e_icmp_ne 206 230 24 (e_aload_aload_n 209 0 2 2 rfl (e_iload_iload 210 0 6 (e_iload_iload 212 0 7 (e_psh_bipush 214 45 45 (e_psh_iconst 216 1 1 (e_psh_iconst 217 1 1 (e_invS 218 1671142 228 6 187 rfl rfl rfl (kE208_221))))))))))
set_option maxHeartbeats 100000 in
def k208_198 : ex_C := c_psh 0 (c_goto 231)
set_option maxHeartbeats 100000 in
theorem kE208_198 : ex_CE 1 [] cd_208 k208_198 q208_198 := e_psh_iconst 198 0 0 (e_goto 199 231 32)
set_option maxHeartbeats 100000 in
def k208_194 : ex_C := c_psh 1 (c_goto 231)
set_option maxHeartbeats 100000 in
theorem kE208_194 : ex_CE 1 [] cd_208 k208_194 q208_194 := e_psh_iconst 194 1 1 (e_goto 195 231 36)
set_option maxHeartbeats 100000 in
def k208_187 : ex_C := c_iload 8 (c_psh 1 (c_isub (c_icmp_ne 198 (k208_194))))
set_option maxHeartbeats 100000 in
theorem kE208_187 : ex_CE 1 [] cd_208 k208_187 q208_187 := e_iload_iload 187 0 8 (e_psh_iconst 189 1 1 (e_isub 190 0 (e_icmp_ne 191 198 7 (kE208_194))))
set_option maxHeartbeats 100000 in
def k208_167 : ex_C := c_istore 11 (c_iload 4 (c_iload 11 (c_psh 1 (c_icmp_ne 202 (c_iload 8 (c_psh 1 (c_icmp_eq 194 (c_aload 2 (c_invS [] cd_208 184 1 188 (k208_187))))))))))
set_option maxHeartbeats 100000 in
theorem kE208_167 : ex_CE 1 [] cd_208 k208_167 q208_167 := e_istore_istore 167 0 11 (e_iload_iload 169 0 4 (e_iload_iload 171 0 11 (e_psh_iconst 173 1 1 (e_icmp_ne 174 202 28 (e_iload_iload 177 0 8 (e_psh_iconst 179 1 1 (e_icmp_eq 180 194 14 (e_aload_aload_n 183 0 2 2 rfl (e_invS 184 1679329 192 1 188 rfl rfl rfl (kE208_187))))))))))
set_option maxHeartbeats 100000 in
def k208_146 : ex_C := c_iand (c_istore 4 (c_iload 9 (c_if_le 234 (c_aload 2 (c_iload 6 (c_iload 7 (c_psh 45 (c_psh 1 (c_iload 8 (c_invS [] cd_208 164 6 187 (k208_167)))))))))))
set_option maxHeartbeats 100000 in
theorem kE208_146 : ex_CE 1 [] cd_208 k208_146 q208_146 := e_iand 146 0 (e_istore_istore 147 0 4 (e_iload_iload 149 0 9 (e_if_le 151 234 83 (e_aload_aload_n 154 0 2 2 rfl (e_iload_iload 155 0 6 (e_iload_iload 157 0 7 (e_psh_bipush 159 45 45 (e_psh_iconst 161 1 1 (e_iload_iload 162 0 8 (e_invS 164 1671142 228 6 187 rfl rfl rfl (kE208_167)))))))))))
set_option maxHeartbeats 100000 in
def k208_145 : ex_C := c_psh 0 (k208_146)
set_option maxHeartbeats 100000 in
theorem kE208_145 : ex_CE 1 [] cd_208 k208_145 q208_145 := e_psh_iconst 145 0 0 (kE208_146)
set_option maxHeartbeats 100000 in
def k208_130 : ex_C := c_istore 10 (c_iload 4 (c_iload 9 (c_iload 10 (c_icmp_ne 145 (c_psh 1 (c_goto 146))))))
set_option maxHeartbeats 100000 in
theorem kE208_130 : ex_CE 1 [] cd_208 k208_130 q208_130 := e_istore_istore 130 0 10 (e_iload_iload 132 0 4 (e_iload_iload 134 0 9 (e_iload_iload 136 0 10 (e_icmp_ne 138 145 7 (e_psh_iconst 141 1 1 (e_goto 142 146 4))))))
set_option maxHeartbeats 100000 in
def k208_116 : ex_C := c_istore 9 (c_aload 3 (c_iload 6 (c_iload 7 (c_psh 45 (c_psh 1 (c_psh 1 (c_invS [] cd_208 127 6 187 (k208_130))))))))
set_option maxHeartbeats 100000 in
theorem kE208_116 : ex_CE 1 [] cd_208 k208_116 q208_116 := e_istore_istore 116 0 9 (e_aload_aload_n 118 0 3 3 rfl (e_iload_iload 119 0 6 (e_iload_iload 121 0 7 (e_psh_bipush 123 45 45 (e_psh_iconst 125 1 1 (e_psh_iconst 126 1 1 (e_invS 127 1671142 228 6 187 rfl rfl rfl (kE208_130))))))))
set_option maxHeartbeats 100000 in
def k208_102 : ex_C := c_istore 8 (c_aload 1 (c_iload 6 (c_iload 7 (c_psh 45 (c_psh 1 (c_psh 1 (c_invS [] cd_208 113 6 187 (k208_116))))))))
set_option maxHeartbeats 100000 in
theorem kE208_102 : ex_CE 1 [] cd_208 k208_102 q208_102 := e_istore_istore 102 0 8 (e_aload_aload_n 104 0 1 1 rfl (e_iload_iload 105 0 6 (e_iload_iload 107 0 7 (e_psh_bipush 109 45 45 (e_psh_iconst 111 1 1 (e_psh_iconst 112 1 1 (e_invS 113 1671142 228 6 187 rfl rfl rfl (kE208_116))))))))
set_option maxHeartbeats 100000 in
def k208_94 : ex_C := c_istore 7 (c_aload 1 (c_iload 6 (c_invS [] cd_208 99 2 186 (k208_102))))
set_option maxHeartbeats 100000 in
theorem kE208_94 : ex_CE 1 [] cd_208 k208_94 q208_94 := e_istore_istore 94 0 7 (e_aload_aload_n 96 0 1 1 rfl (e_iload_iload 97 0 6 (e_invS 99 1662946 244 2 186 rfl rfl rfl (kE208_102))))
set_option maxHeartbeats 100000 in
def k208_91 : ex_C := c_invV [] cd_208 91 2 165 18 (k208_94)
set_option maxHeartbeats 100000 in
theorem kE208_91 : ex_CE 1 [] cd_208 k208_91 q208_91 := e_invV_invokevirtual 91 1483330 171 2 165 18 rfl rfl rfl rfl rfl rfl (kE208_94)
set_option maxHeartbeats 100000 in
def k208_81 : ex_C := c_istore 6 (c_psh 17179869222 (c_aload 0 (c_psh 4 (c_invV [] cd_208 88 2 158 12 (k208_91)))))
set_option maxHeartbeats 100000 in
theorem kE208_81 : ex_CE 1 [] cd_208 k208_81 q208_81 := e_istore_istore 81 0 6 (e_psh_ldc_w 83 17179869222 319 (e_aload_aload_n 86 0 0 0 rfl (e_psh_iconst 87 4 4 (e_invV_invokevirtual 88 1425794 148 2 158 12 rfl rfl rfl rfl rfl rfl (kE208_91)))))
set_option maxHeartbeats 100000 in
def k208_79 : ex_C := c_iload 6 (k208_81)
set_option maxHeartbeats 100000 in
theorem kE208_79 : ex_CE 1 [] cd_208 k208_79 q208_79 := e_iload_iload 79 0 6 (kE208_81)
set_option maxHeartbeats 100000 in
def k208_65 : ex_C := c_istore 6 (c_iload 6 (c_psh 114 (c_icmp_ne 79 (c_psh 117 (c_goto 81)))))
set_option maxHeartbeats 100000 in
theorem kE208_65 : ex_CE 1 [] cd_208 k208_65 q208_65 := e_istore_istore 65 0 6 (e_iload_iload 67 0 6 (e_psh_bipush 69 114 114 (e_icmp_ne 71 79 8 (e_psh_bipush 74 117 117 (e_goto 76 81 5)))))
set_option maxHeartbeats 100000 in
def k208_62 : ex_C := c_invV [] cd_208 62 2 165 18 (k208_65)
set_option maxHeartbeats 100000 in
theorem kE208_62 : ex_CE 1 [] cd_208 k208_62 q208_62 := e_invV_invokevirtual 62 1483330 171 2 165 18 rfl rfl rfl rfl rfl rfl (kE208_65)
set_option maxHeartbeats 100000 in
def k208_50 : ex_C := c_iadd (c_icmp_ge 352 (c_psh 17179869206 (c_aload 0 (c_psh 13 (c_invV [] cd_208 59 2 158 12 (k208_62))))))
set_option maxHeartbeats 100000 in
theorem kE208_50 : ex_CE 1 [] cd_208 k208_50 q208_50 := e_iadd 50 0 (e_icmp_ge 51 352 301 (e_psh_ldc 54 17179869206 169 (e_aload_aload_n 56 0 0 0 rfl (e_psh_bipush 57 13 13 (e_invV_invokevirtual 59 1425794 148 2 158 12 rfl rfl rfl rfl rfl rfl (kE208_62))))))
set_option maxHeartbeats 100000 in
def k208_42 : ex_C := c_iload 5 (c_psh 2 (c_aload 0 (c_psh 4 (c_invV [] cd_208 47 2 158 12 (k208_50)))))
set_option maxHeartbeats 100000 in
theorem kE208_42 : ex_CE 1 [] cd_208 k208_42 q208_42 := e_iload_iload 42 0 5 (e_psh_iconst 44 2 2 (e_aload_aload_n 45 0 0 0 rfl (e_psh_iconst 46 4 4 (e_invV_invokevirtual 47 1425794 148 2 158 12 rfl rfl rfl rfl rfl rfl (kE208_50)))))
set_option maxHeartbeats 100000 in
def k208_37 : ex_C := c_istore 4 (c_psh 0 (c_istore 5 (k208_42)))
set_option maxHeartbeats 100000 in
theorem kE208_37 : ex_CE 1 [] cd_208 k208_37 q208_37 := e_istore_istore 37 0 4 (e_psh_iconst 39 0 0 (e_istore_istore 40 0 5 (kE208_42)))
set_option maxHeartbeats 100000 in
def k208_36 : ex_C := c_psh 0 (k208_37)
set_option maxHeartbeats 100000 in
theorem kE208_36 : ex_CE 1 [] cd_208 k208_36 q208_36 := e_psh_iconst 36 0 0 (kE208_37)
set_option maxHeartbeats 100000 in
def k208_29 : ex_C := c_if_lt 36 (c_psh 1 (c_goto 37))
set_option maxHeartbeats 100000 in
theorem kE208_29 : ex_CE 1 [] cd_208 k208_29 q208_29 := e_if_lt 29 36 7 (e_psh_iconst 32 1 1 (e_goto 33 37 4))
set_option maxHeartbeats 100000 in
def k208_23 : ex_C := c_astore 3 (c_aload 3 (c_psh 1 (c_invS [] cd_208 26 2 182 (k208_29))))
set_option maxHeartbeats 100000 in
theorem kE208_23 : ex_CE 1 [] cd_208 k208_23 q208_23 := e_astore_astore_n 23 0 3 3 rfl (e_aload_aload_n 24 0 3 3 rfl (e_psh_iconst 25 1 1 (e_invS 26 1630178 161 2 182 rfl rfl rfl (kE208_29))))
set_option maxHeartbeats 100000 in
def k208_15 : ex_C := c_astore 2 (c_newo 19595533242647191781454004514724566450794478804541099277511875405477475196136147608352725256010085123745495662259283085781850675250584309923053400425954493913961915178202681080957752268091229414029792000 19 (c_dup   (c_invP [] cd_208 20 1 93 (k208_23))))
set_option maxHeartbeats 100000 in
theorem kE208_15 : ex_CE 1 [] cd_208 k208_15 q208_15 := e_astore_astore_n 15 0 2 2 rfl (e_newo 16 0 9 19595533242647191781454004514724566450794478804541099277511875405477475196136147608352725256010085123745495662259283085781850675250584309923053400425954493913961915178202681080957752268091229414029792000 19 rfl rfl rfl (e_dup 19 0  (e_invP 20 901057 318 1 93 rfl rfl rfl rfl (kE208_23))))
set_option maxHeartbeats 100000 in
def k208_7 : ex_C := c_astore 1 (c_newo 19595533242647191781454004514724566450794478804541099277511875405477475196136147608352725256010085123745495662259283085781850675250584309923053400425954493913961915178202681080957752268091229414029792000 19 (c_dup   (c_invP [] cd_208 12 1 93 (k208_15))))
set_option maxHeartbeats 100000 in
theorem kE208_7 : ex_CE 1 [] cd_208 k208_7 q208_7 := e_astore_astore_n 7 0 1 1 rfl (e_newo 8 0 9 19595533242647191781454004514724566450794478804541099277511875405477475196136147608352725256010085123745495662259283085781850675250584309923053400425954493913961915178202681080957752268091229414029792000 19 rfl rfl rfl (e_dup 11 0  (e_invP 12 901057 318 1 93 rfl rfl rfl rfl (kE208_15))))
set_option maxHeartbeats 100000 in
def k208_0 : ex_C := c_newo 19595533242647191781454004514724566450794478804541099277511875405477475196136147608352725256010085123745495662259283085781850675250584309923053400425954493913961915178202681080957752268091229414029792000 19 (c_dup   (c_invP [] cd_208 4 1 93 (k208_7)))
set_option maxHeartbeats 100000 in
theorem kE208_0 : ex_CE 1 [] cd_208 k208_0 q208_0 := e_newo 0 0 9 19595533242647191781454004514724566450794478804541099277511875405477475196136147608352725256010085123745495662259283085781850675250584309923053400425954493913961915178202681080957752268091229414029792000 19 rfl rfl rfl (e_dup 3 0  (e_invP 4 901057 318 1 93 rfl rfl rfl rfl (kE208_7)))
def kt_208 : Nat → Option ex_C := fun pc => @Bool.rec (fun _ => Nat → Option ex_C) (fun pc => @Bool.rec (fun _ => Nat → Option ex_C) (fun pc => @Bool.rec (fun _ => Nat → Option ex_C) (fun pc => @Bool.rec (fun _ => Nat → Option ex_C) (fun pc => @Bool.rec (fun _ => Nat → Option ex_C) (fun pc => @Bool.rec (fun _ => Nat → Option ex_C) (fun pc => @Bool.rec (fun _ => Option ex_C) none (some k208_352) (Nat.beq pc 352)) (fun pc => @Bool.rec (fun _ => Option ex_C) none (some k208_343) (Nat.beq pc 343)) (Nat.ble pc 343) pc) (fun pc => @Bool.rec (fun _ => Option ex_C) none (some k208_342) (Nat.beq pc 342)) (Nat.ble pc 342) pc) (fun pc => @Bool.rec (fun _ => Nat → Option ex_C) (fun pc => @Bool.rec (fun _ => Nat → Option ex_C) (fun pc => @Bool.rec (fun _ => Option ex_C) none (some k208_335) (Nat.beq pc 335)) (fun pc => @Bool.rec (fun _ => Option ex_C) none (some k208_331) (Nat.beq pc 331)) (Nat.ble pc 331) pc) (fun pc => @Bool.rec (fun _ => Option ex_C) none (some k208_321) (Nat.beq pc 321)) (Nat.ble pc 321) pc) (Nat.ble pc 335) pc) (fun pc => @Bool.rec (fun _ => Nat → Option ex_C) (fun pc => @Bool.rec (fun _ => Nat → Option ex_C) (fun pc => @Bool.rec (fun _ => Nat → Option ex_C) (fun pc => @Bool.rec (fun _ => Option ex_C) none (some k208_317) (Nat.beq pc 317)) (fun pc => @Bool.rec (fun _ => Option ex_C) none (some k208_311) (Nat.beq pc 311)) (Nat.ble pc 311) pc) (fun pc => @Bool.rec (fun _ => Option ex_C) none (some k208_302) (Nat.beq pc 302)) (Nat.ble pc 302) pc) (fun pc => @Bool.rec (fun _ => Nat → Option ex_C) (fun pc => @Bool.rec (fun _ => Nat → Option ex_C) (fun pc => @Bool.rec (fun _ => Option ex_C) none (some k208_301) (Nat.beq pc 301)) (fun pc => @Bool.rec (fun _ => Option ex_C) none (some k208_290) (Nat.beq pc 290)) (Nat.ble pc 290) pc) (fun pc => @Bool.rec (fun _ => Option ex_C) none (some k208_284) (Nat.beq pc 284)) (Nat.ble pc 284) pc) (Nat.ble pc 301) pc) (Nat.ble pc 317) pc) (fun pc => @Bool.rec (fun _ => Nat → Option ex_C) (fun pc => @Bool.rec (fun _ => Nat → Option ex_C) (fun pc => @Bool.rec (fun _ => Nat → Option ex_C) (fun pc => @Bool.rec (fun _ => Nat → Option ex_C) (fun pc => @Bool.rec (fun _ => Option ex_C) none (some k208_275) (Nat.beq pc 275)) (fun pc => @Bool.rec (fun _ => Option ex_C) none (some k208_269) (Nat.beq pc 269)) (Nat.ble pc 269) pc) (fun pc => @Bool.rec (fun _ => Option ex_C) none (some k208_259) (Nat.beq pc 259)) (Nat.ble pc 259) pc) (fun pc => @Bool.rec (fun _ => Nat → Option ex_C) (fun pc => @Bool.rec (fun _ => Nat → Option ex_C) (fun pc => @Bool.rec (fun _ => Option ex_C) none (some k208_252) (Nat.beq pc 252)) (fun pc => @Bool.rec (fun _ => Option ex_C) none (some k208_237) (Nat.beq pc 237)) (Nat.ble pc 237) pc) (fun pc => @Bool.rec (fun _ => Option ex_C) none (some k208_234) (Nat.beq pc 234)) (Nat.ble pc 234) pc) (Nat.ble pc 252) pc) (fun pc => @Bool.rec (fun _ => Nat → Option ex_C) (fun pc => @Bool.rec (fun _ => Nat → Option ex_C) (fun pc => @Bool.rec (fun _ => Nat → Option ex_C) (fun pc => @Bool.rec (fun _ => Option ex_C) none (some k208_231) (Nat.beq pc 231)) (fun pc => @Bool.rec (fun _ => Option ex_C) none (some k208_230) (Nat.beq pc 230)) (Nat.ble pc 230) pc) (fun pc => @Bool.rec (fun _ => Option ex_C) none (some k208_221) (Nat.beq pc 221)) (Nat.ble pc 221) pc) (fun pc => @Bool.rec (fun _ => Nat → Option ex_C) (fun pc => @Bool.rec (fun _ => Option ex_C) none (some k208_202) (Nat.beq pc 202)) (fun pc => @Bool.rec (fun _ => Option ex_C) none (some k208_198) (Nat.beq pc 198)) (Nat.ble pc 198) pc) (Nat.ble pc 202) pc) (Nat.ble pc 231) pc) (Nat.ble pc 275) pc) (fun pc => @Bool.rec (fun _ => Nat → Option ex_C) (fun pc => @Bool.rec (fun _ => Nat → Option ex_C) (fun pc => @Bool.rec (fun _ => Nat → Option ex_C) (fun pc => @Bool.rec (fun _ => Nat → Option ex_C) (fun pc => @Bool.rec (fun _ => Nat → Option ex_C) (fun pc => @Bool.rec (fun _ => Option ex_C) none (some k208_194) (Nat.beq pc 194)) (fun pc => @Bool.rec (fun _ => Option ex_C) none (some k208_187) (Nat.beq pc 187)) (Nat.ble pc 187) pc) (fun pc => @Bool.rec (fun _ => Option ex_C) none (some k208_167) (Nat.beq pc 167)) (Nat.ble pc 167) pc) (fun pc => @Bool.rec (fun _ => Nat → Option ex_C) (fun pc => @Bool.rec (fun _ => Nat → Option ex_C) (fun pc => @Bool.rec (fun _ => Option ex_C) none (some k208_146) (Nat.beq pc 146)) (fun pc => @Bool.rec (fun _ => Option ex_C) none (some k208_145) (Nat.beq pc 145)) (Nat.ble pc 145) pc) (fun pc => @Bool.rec (fun _ => Option ex_C) none (some k208_130) (Nat.beq pc 130)) (Nat.ble pc 130) pc) (Nat.ble pc 146) pc) (fun pc => @Bool.rec (fun _ => Nat → Option ex_C) (fun pc => @Bool.rec (fun _ => Nat → Option ex_C) (fun pc => @Bool.rec (fun _ => Nat → Option ex_C) (fun pc => @Bool.rec (fun _ => Option ex_C) none (some k208_116) (Nat.beq pc 116)) (fun pc => @Bool.rec (fun _ => Option ex_C) none (some k208_102) (Nat.beq pc 102)) (Nat.ble pc 102) pc) (fun pc => @Bool.rec (fun _ => Option ex_C) none (some k208_94) (Nat.beq pc 94)) (Nat.ble pc 94) pc) (fun pc => @Bool.rec (fun _ => Nat → Option ex_C) (fun pc => @Bool.rec (fun _ => Nat → Option ex_C) (fun pc => @Bool.rec (fun _ => Option ex_C) none (some k208_91) (Nat.beq pc 91)) (fun pc => @Bool.rec (fun _ => Option ex_C) none (some k208_81) (Nat.beq pc 81)) (Nat.ble pc 81) pc) (fun pc => @Bool.rec (fun _ => Option ex_C) none (some k208_79) (Nat.beq pc 79)) (Nat.ble pc 79) pc) (Nat.ble pc 91) pc) (Nat.ble pc 116) pc) (fun pc => @Bool.rec (fun _ => Nat → Option ex_C) (fun pc => @Bool.rec (fun _ => Nat → Option ex_C) (fun pc => @Bool.rec (fun _ => Nat → Option ex_C) (fun pc => @Bool.rec (fun _ => Nat → Option ex_C) (fun pc => @Bool.rec (fun _ => Option ex_C) none (some k208_65) (Nat.beq pc 65)) (fun pc => @Bool.rec (fun _ => Option ex_C) none (some k208_62) (Nat.beq pc 62)) (Nat.ble pc 62) pc) (fun pc => @Bool.rec (fun _ => Option ex_C) none (some k208_50) (Nat.beq pc 50)) (Nat.ble pc 50) pc) (fun pc => @Bool.rec (fun _ => Nat → Option ex_C) (fun pc => @Bool.rec (fun _ => Nat → Option ex_C) (fun pc => @Bool.rec (fun _ => Option ex_C) none (some k208_42) (Nat.beq pc 42)) (fun pc => @Bool.rec (fun _ => Option ex_C) none (some k208_37) (Nat.beq pc 37)) (Nat.ble pc 37) pc) (fun pc => @Bool.rec (fun _ => Option ex_C) none (some k208_36) (Nat.beq pc 36)) (Nat.ble pc 36) pc) (Nat.ble pc 42) pc) (fun pc => @Bool.rec (fun _ => Nat → Option ex_C) (fun pc => @Bool.rec (fun _ => Nat → Option ex_C) (fun pc => @Bool.rec (fun _ => Nat → Option ex_C) (fun pc => @Bool.rec (fun _ => Option ex_C) none (some k208_29) (Nat.beq pc 29)) (fun pc => @Bool.rec (fun _ => Option ex_C) none (some k208_23) (Nat.beq pc 23)) (Nat.ble pc 23) pc) (fun pc => @Bool.rec (fun _ => Option ex_C) none (some k208_15) (Nat.beq pc 15)) (Nat.ble pc 15) pc) (fun pc => @Bool.rec (fun _ => Nat → Option ex_C) (fun pc => @Bool.rec (fun _ => Option ex_C) none (some k208_7) (Nat.beq pc 7)) (fun pc => @Bool.rec (fun _ => Option ex_C) none (some k208_0) (Nat.beq pc 0)) (Nat.ble pc 0) pc) (Nat.ble pc 7) pc) (Nat.ble pc 29) pc) (Nat.ble pc 65) pc) (Nat.ble pc 194) pc
theorem ktE_208 : ex_CTT 1 [] cd_208 kt_208 cd_208 := (ex_ct2 (ex_ct2 (ex_ct2 (ex_ct2 (ex_ct2 (ex_ct1 kE208_0) (ex_ct1 kE208_7)) (ex_ct2 (ex_ct1 kE208_15) (ex_ct2 (ex_ct1 kE208_23) (ex_ct1 kE208_29)))) (ex_ct2 (ex_ct2 (ex_ct1 kE208_36) (ex_ct2 (ex_ct1 kE208_37) (ex_ct1 kE208_42))) (ex_ct2 (ex_ct1 kE208_50) (ex_ct2 (ex_ct1 kE208_62) (ex_ct1 kE208_65))))) (ex_ct2 (ex_ct2 (ex_ct2 (ex_ct1 kE208_79) (ex_ct2 (ex_ct1 kE208_81) (ex_ct1 kE208_91))) (ex_ct2 (ex_ct1 kE208_94) (ex_ct2 (ex_ct1 kE208_102) (ex_ct1 kE208_116)))) (ex_ct2 (ex_ct2 (ex_ct1 kE208_130) (ex_ct2 (ex_ct1 kE208_145) (ex_ct1 kE208_146))) (ex_ct2 (ex_ct1 kE208_167) (ex_ct2 (ex_ct1 kE208_187) (ex_ct1 kE208_194)))))) (ex_ct2 (ex_ct2 (ex_ct2 (ex_ct2 (ex_ct1 kE208_198) (ex_ct1 kE208_202)) (ex_ct2 (ex_ct1 kE208_221) (ex_ct2 (ex_ct1 kE208_230) (ex_ct1 kE208_231)))) (ex_ct2 (ex_ct2 (ex_ct1 kE208_234) (ex_ct2 (ex_ct1 kE208_237) (ex_ct1 kE208_252))) (ex_ct2 (ex_ct1 kE208_259) (ex_ct2 (ex_ct1 kE208_269) (ex_ct1 kE208_275))))) (ex_ct2 (ex_ct2 (ex_ct2 (ex_ct1 kE208_284) (ex_ct2 (ex_ct1 kE208_290) (ex_ct1 kE208_301))) (ex_ct2 (ex_ct1 kE208_302) (ex_ct2 (ex_ct1 kE208_311) (ex_ct1 kE208_317)))) (ex_ct2 (ex_ct2 (ex_ct1 kE208_321) (ex_ct2 (ex_ct1 kE208_331) (ex_ct1 kE208_335))) (ex_ct2 (ex_ct1 kE208_342) (ex_ct2 (ex_ct1 kE208_343) (ex_ct1 kE208_352)))))))
set_option maxHeartbeats 100000 in
def k209_318 : ex_C := c_iload 3 (c_ireturn  1)
set_option maxHeartbeats 100000 in
theorem kE209_318 : ex_CE 1 [] cd_209 k209_318 q209_318 := e_iload_iload_n 318 0 3 3 rfl (e_ireturn 319 0 )
set_option maxHeartbeats 100000 in
def k209_311 : ex_C := c_istore 3 (c_iinc 5 1 (c_goto 212))
set_option maxHeartbeats 100000 in
theorem kE209_311 : ex_CE 1 [] cd_209 k209_311 q209_311 := e_istore_istore_n 311 0 3 3 rfl (e_iinc 312 1 5 1 (e_goto 315 212 (-103)))
set_option maxHeartbeats 100000 in
def k209_307 : ex_C := c_aload 1 (c_invS [] cd_209 308 1 207 (k209_311))
set_option maxHeartbeats 100000 in
theorem kE209_307 : ex_CE 1 [] cd_209 k209_307 q209_307 := e_aload_aload_n 307 0 1 1 rfl (e_invS 308 1834977 349 1 207 rfl rfl rfl (kE209_311))
set_option maxHeartbeats 100000 in
def k209_305 : ex_C := c_psh 0 (c_ireturn  1)
set_option maxHeartbeats 100000 in
theorem kE209_305 : ex_CE 1 [] cd_209 k209_305 q209_305 := e_psh_iconst 305 0 0 (e_ireturn 306 0 )
set_option maxHeartbeats 100000 in
def k209_299 : ex_C := c_none
set_option maxHeartbeats 100000 in
theorem kE209_299 : ex_CE 1 [] cd_209 k209_299 q209_299 := e_bad
set_option maxHeartbeats 100000 in
def k209_269 : ex_C := c_istore 9 (c_iload 9 (c_psh 4294967197 (c_icmp_eq 305 (c_iload 9 (c_if_ge 307 (c_iload 6 (c_psh 16 (c_irem   (c_psh 8 (c_icmp_eq 307 (c_aload 8 (c_aload 1 (c_invS [] cd_209 296 1 206 (k209_299))))))))))))))
set_option maxHeartbeats 100000 in
theorem kE209_269 : ex_CE 1 [] cd_209 k209_269 q209_269 := e_istore_istore 269 0 9 (e_iload_iload 271 0 9 (e_psh_bipush 273 4294967197 (-99) (e_icmp_eq 275 305 30 (e_iload_iload 278 0 9 (e_if_ge 280 307 27 (e_iload_iload 283 0 6 (e_psh_bipush 285 16 16 (e_irem 287 0  (e_psh_bipush 288 8 8 (e_icmp_eq 290 307 17 (e_aload_aload 293 0 8 (e_aload_aload_n 295 0 1 1 rfl (e_invS 296 1826785 342 1 206 rfl rfl rfl (kE209_299))))))))))))))
set_option maxHeartbeats 100000 in
def k209_259 : ex_C := c_astore 8 (c_aload 1 (c_iload 6 (c_aload 7 (c_invS [] cd_209 266 3 202 (k209_269)))))
set_option maxHeartbeats 100000 in
theorem kE209_259 : ex_CE 1 [] cd_209 k209_259 q209_259 := e_astore_astore 259 0 8 (e_aload_aload_n 261 0 1 1 rfl (e_iload_iload 262 0 6 (e_aload_aload 264 0 7 (e_invS 266 1794019 345 3 202 rfl rfl rfl (kE209_269)))))
set_option maxHeartbeats 100000 in
def k209_250 : ex_C := c_astore 7 (c_iinc 4 2 (c_aload 1 (c_invS [] cd_209 256 1 206 (k209_259))))
set_option maxHeartbeats 100000 in
theorem kE209_250 : ex_CE 1 [] cd_209 k209_250 q209_250 := e_astore_astore 250 0 7 (e_iinc 252 2 4 2 (e_aload_aload_n 255 0 1 1 rfl (e_invS 256 1826785 342 1 206 rfl rfl rfl (kE209_259))))
set_option maxHeartbeats 100000 in
def k209_247 : ex_C := c_invP [] cd_209 247 2 157 (k209_250)
set_option maxHeartbeats 100000 in
theorem kE209_247 : ex_CE 1 [] cd_209 k209_247 q209_247 := e_invP 247 1425346 335 2 157 rfl rfl rfl rfl (kE209_250)
set_option maxHeartbeats 100000 in
def k209_229 : ex_C := c_psh 255 (c_iand (c_istore 6 (c_newo 268 1 (c_dup   (c_aload 0 (c_iload 4 (c_psh 1 (c_iadd (c_invS [] cd_209 244 2 176 (k209_247))))))))))
set_option maxHeartbeats 100000 in
theorem kE209_229 : ex_CE 1 [] cd_209 k209_229 q209_229 := e_psh_sipush 229 255 255 (e_iand 232 0 (e_istore_istore 233 0 6 (e_newo 235 12 149 268 1 rfl rfl rfl (e_dup 238 0  (e_aload_aload_n 239 0 0 0 rfl (e_iload_iload 240 0 4 (e_psh_iconst 242 1 1 (e_iadd 243 0 (e_invS 244 1581026 331 2 176 rfl rfl rfl (kE209_247))))))))))
set_option maxHeartbeats 100000 in
def k209_212 : ex_C := c_iload 3 (c_if_eq 318 (c_iload 5 (c_psh 32 (c_icmp_ge 318 (c_aload 0 (c_iload 4 (c_invS [] cd_209 226 2 176 (k209_229))))))))
set_option maxHeartbeats 100000 in
theorem kE209_212 : ex_CE 1 [] cd_209 k209_212 q209_212 := e_iload_iload_n 212 0 3 3 rfl (e_if_eq 213 318 105 (e_iload_iload 216 0 5 (e_psh_bipush 218 32 32 (e_icmp_ge 220 318 98 (e_aload_aload_n 223 0 0 0 rfl (e_iload_iload 224 0 4 (e_invS 226 1581026 331 2 176 rfl rfl rfl (kE209_229))))))))
set_option maxHeartbeats 100000 in
def k209_205 : ex_C := c_istore 3 (c_psh 1 (c_istore 4 (c_psh 0 (c_istore 5 (k209_212)))))
set_option maxHeartbeats 100000 in
theorem kE209_205 : ex_CE 1 [] cd_209 k209_205 q209_205 := e_istore_istore_n 205 0 3 3 rfl (e_psh_iconst 206 1 1 (e_istore_istore 207 0 4 (e_psh_iconst 209 0 0 (e_istore_istore 210 0 5 (kE209_212)))))
set_option maxHeartbeats 100000 in
def k209_200 : ex_C := c_astore 2 (c_aload 2 (c_invS [] cd_209 202 1 208 (k209_205)))
set_option maxHeartbeats 100000 in
theorem kE209_200 : ex_CE 1 [] cd_209 k209_200 q209_200 := e_astore_astore_n 200 0 2 2 rfl (e_aload_aload_n 201 0 2 2 rfl (e_invS 202 1843169 338 1 208 rfl rfl rfl (kE209_205)))
set_option maxHeartbeats 100000 in
def k209_197 : ex_C := c_invP [] cd_209 197 2 157 (k209_200)
set_option maxHeartbeats 100000 in
theorem kE209_197 : ex_CE 1 [] cd_209 k209_197 q209_197 := e_invP 197 1425346 335 2 157 rfl rfl rfl rfl (kE209_200)
set_option maxHeartbeats 100000 in
def k209_188 : ex_C := c_newo 268 1 (c_dup   (c_aload 0 (c_psh 0 (c_invS [] cd_209 194 2 176 (k209_197)))))
set_option maxHeartbeats 100000 in
theorem kE209_188 : ex_CE 1 [] cd_209 k209_188 q209_188 := e_newo 188 12 149 268 1 rfl rfl rfl (e_dup 191 0  (e_aload_aload_n 192 0 0 0 rfl (e_psh_iconst 193 0 0 (e_invS 194 1581026 331 2 176 rfl rfl rfl (kE209_197)))))
set_option maxHeartbeats 100000 in
def k209_186 : ex_C := c_psh 0 (c_ireturn  1)
set_option maxHeartbeats 100000 in
theorem kE209_186 : ex_CE 1 [] cd_209 k209_186 q209_186 := e_psh_iconst 186 0 0 (e_ireturn 187 0 )
set_option maxHeartbeats 100000 in
def k209_182 : ex_C := c_psh 4294967295 (c_icmp_eq 188 (k209_186))
set_option maxHeartbeats 100000 in
theorem kE209_182 : ex_CE 1 [] cd_209 k209_182 q209_182 := e_psh_iconst 182 4294967295 (-1) (e_icmp_eq 183 188 5 (kE209_186))
set_option maxHeartbeats 100000 in
def k209_173 : ex_C := c_if_ne 186 (c_aload 1 (c_psh 122 (c_invS [] cd_209 179 2 195 (k209_182))))
set_option maxHeartbeats 100000 in
theorem kE209_173 : ex_CE 1 [] cd_209 k209_173 q209_173 := e_if_ne 173 186 13 (e_aload_aload_n 176 0 1 1 rfl (e_psh_bipush 177 122 122 (e_invS 179 1736674 309 2 195 rfl rfl rfl (kE209_182))))
set_option maxHeartbeats 100000 in
def k209_164 : ex_C := c_psh 4294967295 (c_icmp_ne 186 (c_aload 1 (c_psh 0 (c_invS [] cd_209 170 2 196 (k209_173)))))
set_option maxHeartbeats 100000 in
theorem kE209_164 : ex_CE 1 [] cd_209 k209_164 q209_164 := e_psh_iconst 164 4294967295 (-1) (e_icmp_ne 165 186 21 (e_aload_aload_n 168 0 1 1 rfl (e_psh_iconst 169 0 0 (e_invS 170 1744866 329 2 196 rfl rfl rfl (kE209_173)))))
set_option maxHeartbeats 100000 in
def k209_156 : ex_C := c_if_eq 186 (c_aload 1 (c_psh 3 (c_invS [] cd_209 161 2 196 (k209_164))))
set_option maxHeartbeats 100000 in
theorem kE209_156 : ex_CE 1 [] cd_209 k209_156 q209_156 := e_if_eq 156 186 30 (e_aload_aload_n 159 0 1 1 rfl (e_psh_iconst 160 3 3 (e_invS 161 1744866 329 2 196 rfl rfl rfl (kE209_164))))
set_option maxHeartbeats 100000 in
def k209_149 : ex_C := c_if_eq 186 (c_aload 1 (c_invV [] cd_209 153 1 119 0 (k209_156)))
set_option maxHeartbeats 100000 in
theorem kE209_149 : ex_CE 1 [] cd_209 k209_149 q209_149 := e_if_eq 149 186 37 (e_aload_aload_n 152 0 1 1 rfl (e_invV_invokevirtual 153 1105921 326 1 119 0 rfl rfl rfl rfl rfl rfl (kE209_156)))
set_option maxHeartbeats 100000 in
def k209_140 : ex_C := c_psh 115 (c_icmp_ne 186 (c_aload 1 (c_invV [] cd_209 146 1 118 0 (k209_149))))
set_option maxHeartbeats 100000 in
theorem kE209_140 : ex_CE 1 [] cd_209 k209_140 q209_140 := e_psh_bipush 140 115 115 (e_icmp_ne 142 186 44 (e_aload_aload_n 145 0 1 1 rfl (e_invV_invokevirtual 146 1097729 311 1 118 0 rfl rfl rfl rfl rfl rfl (kE209_149))))
set_option maxHeartbeats 100000 in
def k209_130 : ex_C := c_none
set_option maxHeartbeats 100000 in
theorem kE209_130 : ex_CE 1 [] cd_209 k209_130 q209_130 := e_bad
set_option maxHeartbeats 100000 in
def k209_122 : ex_C := c_psh 4294967295 (c_icmp_ne 186 (c_aload 1 (c_invS [] cd_209 127 1 201 (k209_130))))
set_option maxHeartbeats 100000 in
theorem kE209_122 : ex_CE 1 [] cd_209 k209_122 q209_122 := e_psh_iconst 122 4294967295 (-1) (e_icmp_ne 123 186 63 (e_aload_aload_n 126 0 1 1 rfl (e_invS 127 1785825 323 1 201 rfl rfl rfl (kE209_130))))
set_option maxHeartbeats 100000 in
def k209_113 : ex_C := c_psh 4294967294 (c_icmp_ne 186 (c_aload 1 (c_invS [] cd_209 119 1 199 (k209_122))))
set_option maxHeartbeats 100000 in
theorem kE209_113 : ex_CE 1 [] cd_209 k209_113 q209_113 := e_psh_bipush 113 4294967294 (-2) (e_icmp_ne 115 186 71 (e_aload_aload_n 118 0 1 1 rfl (e_invS 119 1769441 185 1 199 rfl rfl rfl (kE209_122))))
set_option maxHeartbeats 100000 in
def k209_105 : ex_C := c_psh 4294967295 (c_icmp_ne 186 (c_aload 1 (c_invS [] cd_209 110 1 197 (k209_113))))
set_option maxHeartbeats 100000 in
theorem kE209_105 : ex_CE 1 [] cd_209 k209_105 q209_105 := e_psh_iconst 105 4294967295 (-1) (e_icmp_ne 106 186 80 (e_aload_aload_n 109 0 1 1 rfl (e_invS 110 1753057 321 1 197 rfl rfl rfl (kE209_113))))
set_option maxHeartbeats 100000 in
def k209_96 : ex_C := c_psh 45 (c_icmp_ne 186 (c_aload 1 (c_invS [] cd_209 102 1 189 (k209_105))))
set_option maxHeartbeats 100000 in
theorem kE209_96 : ex_CE 1 [] cd_209 k209_96 q209_96 := e_psh_bipush 96 45 45 (e_icmp_ne 98 186 88 (e_aload_aload_n 101 0 1 1 rfl (e_invS 102 1687521 235 1 189 rfl rfl rfl (kE209_105))))
set_option maxHeartbeats 100000 in
def k209_88 : ex_C := c_psh 4294967295 (c_icmp_ne 186 (c_aload 1 (c_invV [] cd_209 93 1 108 0 (k209_96))))
set_option maxHeartbeats 100000 in
theorem kE209_88 : ex_CE 1 [] cd_209 k209_88 q209_88 := e_psh_iconst 88 4294967295 (-1) (e_icmp_ne 89 186 97 (e_aload_aload_n 92 0 1 1 rfl (e_invV_invokevirtual 93 1015809 231 1 108 0 rfl rfl rfl rfl rfl rfl (kE209_96))))
set_option maxHeartbeats 100000 in
def k209_79 : ex_C := c_psh 4294967295 (c_icmp_ne 186 (c_aload 1 (c_psh 0 (c_invS [] cd_209 85 2 192 (k209_88)))))
set_option maxHeartbeats 100000 in
theorem kE209_79 : ex_CE 1 [] cd_209 k209_79 q209_79 := e_psh_iconst 79 4294967295 (-1) (e_icmp_ne 80 186 106 (e_aload_aload_n 83 0 1 1 rfl (e_psh_iconst 84 0 0 (e_invS 85 1712098 242 2 192 rfl rfl rfl (kE209_88)))))
set_option maxHeartbeats 100000 in
def k209_71 : ex_C := c_psh 4294967295 (c_icmp_ne 186 (c_aload 1 (c_invS [] cd_209 76 1 191 (k209_79))))
set_option maxHeartbeats 100000 in
theorem kE209_71 : ex_CE 1 [] cd_209 k209_71 q209_71 := e_psh_iconst 71 4294967295 (-1) (e_icmp_ne 72 186 114 (e_aload_aload_n 75 0 1 1 rfl (e_invS 76 1703905 209 1 191 rfl rfl rfl (kE209_79))))
set_option maxHeartbeats 100000 in
def k209_63 : ex_C := c_psh 4294967295 (c_icmp_ne 186 (c_aload 1 (c_invS [] cd_209 68 1 188 (k209_71))))
set_option maxHeartbeats 100000 in
theorem kE209_63 : ex_CE 1 [] cd_209 k209_63 q209_63 := e_psh_iconst 63 4294967295 (-1) (e_icmp_ne 64 186 122 (e_aload_aload_n 67 0 1 1 rfl (e_invS 68 1679329 192 1 188 rfl rfl rfl (kE209_71))))
set_option maxHeartbeats 100000 in
def k209_46 : ex_C := c_psh 4294967294 (c_icmp_ne 186 (c_aload 1 (c_psh 65 (c_psh 104 (c_psh 45 (c_psh 1 (c_psh 1 (c_invS [] cd_209 60 6 187 (k209_63)))))))))
set_option maxHeartbeats 100000 in
theorem kE209_46 : ex_CE 1 [] cd_209 k209_46 q209_46 := e_psh_bipush 46 4294967294 (-2) (e_icmp_ne 48 186 138 (e_aload_aload_n 51 0 1 1 rfl (e_psh_bipush 52 65 65 (e_psh_bipush 54 104 104 (e_psh_bipush 56 45 45 (e_psh_iconst 58 1 1 (e_psh_iconst 59 1 1 (e_invS 60 1671142 228 6 187 rfl rfl rfl (kE209_63)))))))))
set_option maxHeartbeats 100000 in
def k209_30 : ex_C := c_psh 4294967295 (c_icmp_ne 186 (c_aload 1 (c_psh 65 (c_psh 97 (c_psh 45 (c_psh 1 (c_psh 1 (c_invS [] cd_209 43 6 187 (k209_46)))))))))
set_option maxHeartbeats 100000 in
theorem kE209_30 : ex_CE 1 [] cd_209 k209_30 q209_30 := e_psh_iconst 30 4294967295 (-1) (e_icmp_ne 31 186 155 (e_aload_aload_n 34 0 1 1 rfl (e_psh_bipush 35 65 65 (e_psh_bipush 37 97 97 (e_psh_bipush 39 45 45 (e_psh_iconst 41 1 1 (e_psh_iconst 42 1 1 (e_invS 43 1671142 228 6 187 rfl rfl rfl (kE209_46)))))))))
set_option maxHeartbeats 100000 in
def k209_14 : ex_C := c_psh 4294967295 (c_icmp_ne 186 (c_aload 1 (c_psh 122 (c_psh 97 (c_psh 45 (c_psh 1 (c_psh 1 (c_invS [] cd_209 27 6 187 (k209_30)))))))))
set_option maxHeartbeats 100000 in
theorem kE209_14 : ex_CE 1 [] cd_209 k209_14 q209_14 := e_psh_iconst 14 4294967295 (-1) (e_icmp_ne 15 186 171 (e_aload_aload_n 18 0 1 1 rfl (e_psh_bipush 19 122 122 (e_psh_bipush 21 97 97 (e_psh_bipush 23 45 45 (e_psh_iconst 25 1 1 (e_psh_iconst 26 1 1 (e_invS 27 1671142 228 6 187 rfl rfl rfl (kE209_30)))))))))
set_option maxHeartbeats 100000 in
def k209_7 : ex_C := c_astore 1 (c_aload 1 (c_psh 8 (c_invS [] cd_209 11 2 177 (k209_14))))
set_option maxHeartbeats 100000 in
theorem kE209_7 : ex_CE 1 [] cd_209 k209_7 q209_7 := e_astore_astore_n 7 0 1 1 rfl (e_aload_aload_n 8 0 1 1 rfl (e_psh_bipush 9 8 8 (e_invS 11 1589218 250 2 177 rfl rfl rfl (kE209_14))))
set_option maxHeartbeats 100000 in
def k209_0 : ex_C := c_newo 19595533242647191781454004514724566450794478804541099277511875405477475196136147608352725256010085123745495662259283085781850675250584309923053400425954493913961915178202681080957752268091229414029792000 19 (c_dup   (c_invP [] cd_209 4 1 93 (k209_7)))
set_option maxHeartbeats 100000 in
theorem kE209_0 : ex_CE 1 [] cd_209 k209_0 q209_0 := e_newo 0 0 9 19595533242647191781454004514724566450794478804541099277511875405477475196136147608352725256010085123745495662259283085781850675250584309923053400425954493913961915178202681080957752268091229414029792000 19 rfl rfl rfl (e_dup 3 0  (e_invP 4 901057 318 1 93 rfl rfl rfl rfl (kE209_7)))
def kt_209 : Nat → Option ex_C := fun pc => @Bool.rec (fun _ => Nat → Option ex_C) (fun pc => @Bool.rec (fun _ => Nat → Option ex_C) (fun pc => @Bool.rec (fun _ => Nat → Option ex_C) (fun pc => @Bool.rec (fun _ => Nat → Option ex_C) (fun pc => @Bool.rec (fun _ => Nat → Option ex_C) (fun pc => @Bool.rec (fun _ => Nat → Option ex_C) (fun pc => @Bool.rec (fun _ => Option ex_C) none (some k209_318) (Nat.beq pc 318)) (fun pc => @Bool.rec (fun _ => Option ex_C) none (some k209_311) (Nat.beq pc 311)) (Nat.ble pc 311) pc) (fun pc => @Bool.rec (fun _ => Option ex_C) none (some k209_307) (Nat.beq pc 307)) (Nat.ble pc 307) pc) (fun pc => @Bool.rec (fun _ => Nat → Option ex_C) (fun pc => @Bool.rec (fun _ => Option ex_C) none (some k209_305) (Nat.beq pc 305)) (fun pc => @Bool.rec (fun _ => Option ex_C) none (some k209_299) (Nat.beq pc 299)) (Nat.ble pc 299) pc) (Nat.ble pc 305) pc) (fun pc => @Bool.rec (fun _ => Nat → Option ex_C) (fun pc => @Bool.rec (fun _ => Nat → Option ex_C) (fun pc => @Bool.rec (fun _ => Option ex_C) none (some k209_269) (Nat.beq pc 269)) (fun pc => @Bool.rec (fun _ => Option ex_C) none (some k209_259) (Nat.beq pc 259)) (Nat.ble pc 259) pc) (fun pc => @Bool.rec (fun _ => Nat → Option ex_C) (fun pc => @Bool.rec (fun _ => Option ex_C) none (some k209_250) (Nat.beq pc 250)) (fun pc => @Bool.rec (fun _ => Option ex_C) none (some k209_247) (Nat.beq pc 247)) (Nat.ble pc 247) pc) (Nat.ble pc 250) pc) (Nat.ble pc 269) pc) (fun pc => @Bool.rec (fun _ => Nat → Option ex_C) (fun pc => @Bool.rec (fun _ => Nat → Option ex_C) (fun pc => @Bool.rec (fun _ => Nat → Option ex_C) (fun pc => @Bool.rec (fun _ => Nat → Option ex_C) (fun pc => @Bool.rec (fun _ => Option ex_C) none (some k209_229) (Nat.beq pc 229)) (fun pc => @Bool.rec (fun _ => Option ex_C) none (some k209_212) (Nat.beq pc 212)) (Nat.ble pc 212) pc) (fun pc => @Bool.rec (fun _ => Option ex_C) none (some k209_205) (Nat.beq pc 205)) (Nat.ble pc 205) pc) (fun pc => @Bool.rec (fun _ => Nat → Option ex_C) (fun pc => @Bool.rec (fun _ => Option ex_C) none (some k209_200) (Nat.beq pc 200)) (fun pc => @Bool.rec (fun _ => Option ex_C) none (some k209_197) (Nat.beq pc 197)) (Nat.ble pc 197) pc) (Nat.ble pc 200) pc) (fun pc => @Bool.rec (fun _ => Nat → Option ex_C) (fun pc => @Bool.rec (fun _ => Nat → Option ex_C) (fun pc => @Bool.rec (fun _ => Option ex_C) none (some k209_188) (Nat.beq pc 188)) (fun pc => @Bool.rec (fun _ => Option ex_C) none (some k209_186) (Nat.beq pc 186)) (Nat.ble pc 186) pc) (fun pc => @Bool.rec (fun _ => Nat → Option ex_C) (fun pc => @Bool.rec (fun _ => Option ex_C) none (some k209_182) (Nat.beq pc 182)) (fun pc => @Bool.rec (fun _ => Option ex_C) none (some k209_173) (Nat.beq pc 173)) (Nat.ble pc 173) pc) (Nat.ble pc 182) pc) (Nat.ble pc 188) pc) (Nat.ble pc 229) pc) (fun pc => @Bool.rec (fun _ => Nat → Option ex_C) (fun pc => @Bool.rec (fun _ => Nat → Option ex_C) (fun pc => @Bool.rec (fun _ => Nat → Option ex_C) (fun pc => @Bool.rec (fun _ => Nat → Option ex_C) (fun pc => @Bool.rec (fun _ => Nat → Option ex_C) (fun pc => @Bool.rec (fun _ => Option ex_C) none (some k209_164) (Nat.beq pc 164)) (fun pc => @Bool.rec (fun _ => Option ex_C) none (some k209_156) (Nat.beq pc 156)) (Nat.ble pc 156) pc) (fun pc => @Bool.rec (fun _ => Option ex_C) none (some k209_149) (Nat.beq pc 149)) (Nat.ble pc 149) pc) (fun pc => @Bool.rec (fun _ => Nat → Option ex_C) (fun pc => @Bool.rec (fun _ => Option ex_C) none (some k209_140) (Nat.beq pc 140)) (fun pc => @Bool.rec (fun _ => Option ex_C) none (some k209_130) (Nat.beq pc 130)) (Nat.ble pc 130) pc) (Nat.ble pc 140) pc) (fun pc => @Bool.rec (fun _ => Nat → Option ex_C) (fun pc => @Bool.rec (fun _ => Nat → Option ex_C) (fun pc => @Bool.rec (fun _ => Option ex_C) none (some k209_122) (Nat.beq pc 122)) (fun pc => @Bool.rec (fun _ => Option ex_C) none (some k209_113) (Nat.beq pc 113)) (Nat.ble pc 113) pc) (fun pc => @Bool.rec (fun _ => Nat → Option ex_C) (fun pc => @Bool.rec (fun _ => Option ex_C) none (some k209_105) (Nat.beq pc 105)) (fun pc => @Bool.rec (fun _ => Option ex_C) none (some k209_96) (Nat.beq pc 96)) (Nat.ble pc 96) pc) (Nat.ble pc 105) pc) (Nat.ble pc 122) pc) (fun pc => @Bool.rec (fun _ => Nat → Option ex_C) (fun pc => @Bool.rec (fun _ => Nat → Option ex_C) (fun pc => @Bool.rec (fun _ => Nat → Option ex_C) (fun pc => @Bool.rec (fun _ => Nat → Option ex_C) (fun pc => @Bool.rec (fun _ => Option ex_C) none (some k209_88) (Nat.beq pc 88)) (fun pc => @Bool.rec (fun _ => Option ex_C) none (some k209_79) (Nat.beq pc 79)) (Nat.ble pc 79) pc) (fun pc => @Bool.rec (fun _ => Option ex_C) none (some k209_71) (Nat.beq pc 71)) (Nat.ble pc 71) pc) (fun pc => @Bool.rec (fun _ => Nat → Option ex_C) (fun pc => @Bool.rec (fun _ => Option ex_C) none (some k209_63) (Nat.beq pc 63)) (fun pc => @Bool.rec (fun _ => Option ex_C) none (some k209_46) (Nat.beq pc 46)) (Nat.ble pc 46) pc) (Nat.ble pc 63) pc) (fun pc => @Bool.rec (fun _ => Nat → Option ex_C) (fun pc => @Bool.rec (fun _ => Nat → Option ex_C) (fun pc => @Bool.rec (fun _ => Option ex_C) none (some k209_30) (Nat.beq pc 30)) (fun pc => @Bool.rec (fun _ => Option ex_C) none (some k209_14) (Nat.beq pc 14)) (Nat.ble pc 14) pc) (fun pc => @Bool.rec (fun _ => Nat → Option ex_C) (fun pc => @Bool.rec (fun _ => Option ex_C) none (some k209_7) (Nat.beq pc 7)) (fun pc => @Bool.rec (fun _ => Option ex_C) none (some k209_0) (Nat.beq pc 0)) (Nat.ble pc 0) pc) (Nat.ble pc 7) pc) (Nat.ble pc 30) pc) (Nat.ble pc 88) pc) (Nat.ble pc 164) pc
theorem ktE_209 : ex_CTT 1 [] cd_209 kt_209 cd_209 := (ex_ct2 (ex_ct2 (ex_ct2 (ex_ct2 (ex_ct2 (ex_ct1 kE209_0) (ex_ct1 kE209_7)) (ex_ct2 (ex_ct1 kE209_14) (ex_ct1 kE209_30))) (ex_ct2 (ex_ct2 (ex_ct1 kE209_46) (ex_ct1 kE209_63)) (ex_ct2 (ex_ct1 kE209_71) (ex_ct2 (ex_ct1 kE209_79) (ex_ct1 kE209_88))))) (ex_ct2 (ex_ct2 (ex_ct2 (ex_ct1 kE209_96) (ex_ct1 kE209_105)) (ex_ct2 (ex_ct1 kE209_113) (ex_ct1 kE209_122))) (ex_ct2 (ex_ct2 (ex_ct1 kE209_130) (ex_ct1 kE209_140)) (ex_ct2 (ex_ct1 kE209_149) (ex_ct2 (ex_ct1 kE209_156) (ex_ct1 kE209_164)))))) (ex_ct2 (ex_ct2 (ex_ct2 (ex_ct2 (ex_ct1 kE209_173) (ex_ct1 kE209_182)) (ex_ct2 (ex_ct1 kE209_186) (ex_ct1 kE209_188))) (ex_ct2 (ex_ct2 (ex_ct1 kE209_197) (ex_ct1 kE209_200)) (ex_ct2 (ex_ct1 kE209_205) (ex_ct2 (ex_ct1 kE209_212) (ex_ct1 kE209_229))))) (ex_ct2 (ex_ct2 (ex_ct2 (ex_ct1 kE209_247) (ex_ct1 kE209_250)) (ex_ct2 (ex_ct1 kE209_259) (ex_ct1 kE209_269))) (ex_ct2 (ex_ct2 (ex_ct1 kE209_299) (ex_ct1 kE209_305)) (ex_ct2 (ex_ct1 kE209_307) (ex_ct2 (ex_ct1 kE209_311) (ex_ct1 kE209_318)))))))
end
