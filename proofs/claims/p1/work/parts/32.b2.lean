noncomputable section
set_option maxHeartbeats 100000 in
def k134_60 : ex_C := c_ireturn  2
set_option maxHeartbeats 100000 in
theorem kE134_60 : ex_CE 2 [] cd_134 k134_60 q134_60 := e_ireturn 60 0 
set_option maxHeartbeats 100000 in
def k134_58 : ex_C := c_psh 45 (k134_60)
set_option maxHeartbeats 100000 in
theorem kE134_58 : ex_CE 2 [] cd_134 k134_58 q134_58 := e_psh_bipush 58 45 45 (kE134_60)
set_option maxHeartbeats 100000 in
def k134_29 : ex_C := c_aload 0 (c_gf 0 15 (c_iload 1 (c_iaload (c_istore 2 (c_iload 2 (c_if_lt 58 (c_iload 2 (c_psh 17179869203 (c_invV [] cd_134 43 1 303 18 (c_icmp_ge 58 (c_psh 17179869203 (c_iload 2 (c_invV [] cd_134 52 2 304 18 (c_goto 60))))))))))))))
set_option maxHeartbeats 100000 in
theorem kE134_29 : ex_CE 2 [] cd_134 k134_29 q134_29 := e_aload_aload_n 29 0 0 0 rfl (e_gf 30 86031 93 0 15 rfl rfl (e_iload_iload_n 33 0 1 1 rfl (e_iaload 34 0 (e_istore_istore_n 35 0 2 2 rfl (e_iload_iload_n 36 0 2 2 rfl (e_if_lt 37 58 21 (e_iload_iload_n 40 0 2 2 rfl (e_psh_ldc 41 17179869203 231 (e_invV_invokevirtual 43 2613825 327 1 303 18 rfl rfl rfl rfl rfl rfl (e_icmp_ge 46 58 12 (e_psh_ldc 49 17179869203 231 (e_iload_iload_n 51 0 2 2 rfl (e_invV_invokevirtual 52 2622018 333 2 304 18 rfl rfl rfl rfl rfl rfl (e_goto 55 60 5))))))))))))))
set_option maxHeartbeats 100000 in
def k134_21 : ex_C := c_newx 549755813889
set_option maxHeartbeats 100000 in
theorem kE134_21 : ex_CE 2 [] cd_134 k134_21 q134_21 := e_newx 21 1001 292 294 549755813889 rfl rfl rfl
set_option maxHeartbeats 100000 in
def k134_0 : ex_C := c_iload 1 (c_if_lt 21 (c_iload 1 (c_aload 0 (c_gf 0 16 (c_icmp_ge 21 (c_iload 1 (c_aload 0 (c_gf 0 15 (c_arraylength   (c_icmp_lt 29 (k134_21)))))))))))
set_option maxHeartbeats 100000 in
theorem kE134_0 : ex_CE 2 [] cd_134 k134_0 q134_0 := e_iload_iload_n 0 0 1 1 rfl (e_if_lt 1 21 20 (e_iload_iload_n 4 0 1 1 rfl (e_aload_aload_n 5 0 0 0 rfl (e_gf 6 16 96 0 16 rfl rfl (e_icmp_ge 9 21 12 (e_iload_iload_n 12 0 1 1 rfl (e_aload_aload_n 13 0 0 0 rfl (e_gf 14 86031 93 0 15 rfl rfl (e_arraylength 17 0  (e_icmp_lt 18 29 11 (kE134_21)))))))))))
def kt_134 : Nat → Option ex_C := fun pc => @Bool.rec (fun _ => Nat → Option ex_C) (fun pc => @Bool.rec (fun _ => Nat → Option ex_C) (fun pc => @Bool.rec (fun _ => Nat → Option ex_C) (fun pc => @Bool.rec (fun _ => Option ex_C) none (some k134_60) (Nat.beq pc 60)) (fun pc => @Bool.rec (fun _ => Option ex_C) none (some k134_58) (Nat.beq pc 58)) (Nat.ble pc 58) pc) (fun pc => @Bool.rec (fun _ => Option ex_C) none (some k134_29) (Nat.beq pc 29)) (Nat.ble pc 29) pc) (fun pc => @Bool.rec (fun _ => Nat → Option ex_C) (fun pc => @Bool.rec (fun _ => Option ex_C) none (some k134_21) (Nat.beq pc 21)) (fun pc => @Bool.rec (fun _ => Option ex_C) none (some k134_0) (Nat.beq pc 0)) (Nat.ble pc 0) pc) (Nat.ble pc 21) pc
theorem ktE_134 : ex_CTT 2 [] cd_134 kt_134 cd_134 := (ex_ct2 (ex_ct2 (ex_ct1 kE134_0) (ex_ct1 kE134_21)) (ex_ct2 (ex_ct1 kE134_29) (ex_ct2 (ex_ct1 kE134_58) (ex_ct1 kE134_60))))
set_option maxHeartbeats 100000 in
def k135_21 : ex_C := c_aload 0 (c_gf 0 11 (c_gf 9 1 (c_istore 2 (c_aload 0 (c_gf 0 11 (c_iload 1 (c_invV [] cd_135 34 2 56 9 (c_iload 2 (c_ireturn  0)))))))))
set_option maxHeartbeats 100000 in
theorem kE135_21 : ex_CE 0 [] cd_135 k135_21 q135_21 := e_aload_aload_n 21 0 0 0 rfl (e_gf 22 86027 72 0 11 rfl rfl (e_gf 25 577 361 9 1 rfl rfl (e_istore_istore_n 28 0 2 2 rfl (e_aload_aload_n 29 0 0 0 rfl (e_gf 30 86027 72 0 11 rfl rfl (e_iload_iload_n 33 0 1 1 rfl (e_invV_invokevirtual 34 590114 362 2 56 9 rfl rfl rfl rfl rfl rfl (e_iload_iload_n 37 0 2 2 rfl (e_ireturn 38 0 )))))))))
set_option maxHeartbeats 100000 in
def k135_13 : ex_C := c_newx 549755813890
set_option maxHeartbeats 100000 in
theorem kE135_13 : ex_CE 0 [] cd_135 k135_13 q135_13 := e_newx 13 1002 156 158 549755813890 rfl rfl rfl
set_option maxHeartbeats 100000 in
def k135_0 : ex_C := c_iload 1 (c_psh 8 (c_icmp_lt 13 (c_iload 1 (c_psh 128 (c_icmp_le 21 (k135_13))))))
set_option maxHeartbeats 100000 in
theorem kE135_0 : ex_CE 0 [] cd_135 k135_0 q135_0 := e_iload_iload_n 0 0 1 1 rfl (e_psh_bipush 1 8 8 (e_icmp_lt 3 13 10 (e_iload_iload_n 6 0 1 1 rfl (e_psh_sipush 7 128 128 (e_icmp_le 10 21 11 (kE135_13))))))
def kt_135 : Nat → Option ex_C := fun pc => @Bool.rec (fun _ => Nat → Option ex_C) (fun pc => @Bool.rec (fun _ => Nat → Option ex_C) (fun pc => @Bool.rec (fun _ => Option ex_C) none (some k135_21) (Nat.beq pc 21)) (fun pc => @Bool.rec (fun _ => Option ex_C) none (some k135_13) (Nat.beq pc 13)) (Nat.ble pc 13) pc) (fun pc => @Bool.rec (fun _ => Option ex_C) none (some k135_0) (Nat.beq pc 0)) (Nat.ble pc 0) pc
theorem ktE_135 : ex_CTT 0 [] cd_135 kt_135 cd_135 := (ex_ct2 (ex_ct1 kE135_0) (ex_ct2 (ex_ct1 kE135_13) (ex_ct1 kE135_21)))
set_option maxHeartbeats 100000 in
def k136_0 : ex_C := c_aload 0 (c_gf 0 11 (c_gf 9 1 (c_ireturn  0)))
set_option maxHeartbeats 100000 in
theorem kE136_0 : ex_CE 0 [] cd_136 k136_0 q136_0 := e_aload_aload_n 0 0 0 0 rfl (e_gf 1 86027 72 0 11 rfl rfl (e_gf 4 577 361 9 1 rfl rfl (e_ireturn 7 0 )))
def kt_136 : Nat → Option ex_C := fun pc => @Bool.rec (fun _ => Option ex_C) none (some k136_0) (Nat.beq pc 0)
theorem ktE_136 : ex_CTT 0 [] cd_136 kt_136 cd_136 := (ex_ct1 kE136_0)
set_option maxHeartbeats 100000 in
def k137_33 : ex_C := c_aload 0 (c_gf 0 11 (c_gf 9 0 (c_aload 0 (c_gf 0 11 (c_gf 9 1 (c_isub (c_istore 1 (c_aload 0 (c_gf 0 11 (c_aload 0 (c_gf 0 11 (c_gf 9 2 (c_psh 1 (c_iadd (c_psh 3 (c_iand (c_pf 9 0 2 (c_aload 0 (c_gf 0 11 (c_aload 0 (c_gf 0 11 (c_gf 9 0 (c_invV [] cd_137 78 2 56 9 (c_aload 0 (c_invV [] cd_137 82 1 162 0 (c_iload 1 (c_ireturn  0)))))))))))))))))))))))))))
set_option maxHeartbeats 100000 in
theorem kE137_33 : ex_CE 0 [] cd_137 k137_33 q137_33 := e_aload_aload_n 33 0 0 0 rfl (e_gf 34 86027 72 0 11 rfl rfl (e_gf 37 576 365 9 0 rfl rfl (e_aload_aload_n 40 0 0 0 rfl (e_gf 41 86027 72 0 11 rfl rfl (e_gf 44 577 361 9 1 rfl rfl (e_isub 47 0 (e_istore_istore_n 48 0 1 1 rfl (e_aload_aload_n 49 0 0 0 rfl (e_gf 50 86027 72 0 11 rfl rfl (e_aload_aload_n 53 0 0 0 rfl (e_gf 54 86027 72 0 11 rfl rfl (e_gf 57 578 368 9 2 rfl rfl (e_psh_iconst 60 1 1 (e_iadd 61 0 (e_psh_iconst 62 3 3 (e_iand 63 0 (e_pf 64 578 368 9 0 2 rfl rfl rfl (e_aload_aload_n 67 0 0 0 rfl (e_gf 68 86027 72 0 11 rfl rfl (e_aload_aload_n 71 0 0 0 rfl (e_gf 72 86027 72 0 11 rfl rfl (e_gf 75 576 365 9 0 rfl rfl (e_invV_invokevirtual 78 590114 362 2 56 9 rfl rfl rfl rfl rfl rfl (e_aload_aload_n 81 0 0 0 rfl (e_invV_invokevirtual 82 1458177 126 1 162 0 rfl rfl rfl rfl rfl rfl (e_iload_iload_n 85 0 1 1 rfl (e_ireturn 86 0 )))))))))))))))))))))))))))
set_option maxHeartbeats 100000 in
def k137_15 : ex_C := c_aload 0 (c_gf 0 11 (c_gf 9 0 (c_if_ne 33 (c_newx 549755813893))))
set_option maxHeartbeats 100000 in
theorem kE137_15 : ex_CE 0 [] cd_137 k137_15 q137_15 := e_aload_aload_n 15 0 0 0 rfl (e_gf 16 86027 72 0 11 rfl rfl (e_gf 19 576 365 9 0 rfl rfl (e_if_ne 22 33 11 (e_newx 25 1005 178 180 549755813893 rfl rfl rfl))))
set_option maxHeartbeats 100000 in
def k137_0 : ex_C := c_aload 0 (c_invV [] cd_137 1 1 165 0 (c_if_le 15 (c_newx 549755813891)))
set_option maxHeartbeats 100000 in
theorem kE137_0 : ex_CE 0 [] cd_137 k137_0 q137_0 := e_aload_aload_n 0 0 0 0 rfl (e_invV_invokevirtual 1 1482753 122 1 165 0 rfl rfl rfl rfl rfl rfl (e_if_le 4 15 11 (e_newx 7 1003 150 152 549755813891 rfl rfl rfl)))
def kt_137 : Nat → Option ex_C := fun pc => @Bool.rec (fun _ => Nat → Option ex_C) (fun pc => @Bool.rec (fun _ => Nat → Option ex_C) (fun pc => @Bool.rec (fun _ => Option ex_C) none (some k137_33) (Nat.beq pc 33)) (fun pc => @Bool.rec (fun _ => Option ex_C) none (some k137_15) (Nat.beq pc 15)) (Nat.ble pc 15) pc) (fun pc => @Bool.rec (fun _ => Option ex_C) none (some k137_0) (Nat.beq pc 0)) (Nat.ble pc 0) pc
theorem ktE_137 : ex_CTT 0 [] cd_137 kt_137 cd_137 := (ex_ct2 (ex_ct1 kE137_0) (ex_ct2 (ex_ct1 kE137_15) (ex_ct1 kE137_33)))
set_option maxHeartbeats 100000 in
def k138_0 : ex_C := c_aload 0 (c_gf 0 11 (c_gf 9 2 (c_ireturn  0)))
set_option maxHeartbeats 100000 in
theorem kE138_0 : ex_CE 0 [] cd_138 k138_0 q138_0 := e_aload_aload_n 0 0 0 0 rfl (e_gf 1 86027 72 0 11 rfl rfl (e_gf 4 578 368 9 2 rfl rfl (e_ireturn 7 0 )))
def kt_138 : Nat → Option ex_C := fun pc => @Bool.rec (fun _ => Option ex_C) none (some k138_0) (Nat.beq pc 0)
theorem ktE_138 : ex_CTT 0 [] cd_138 kt_138 cd_138 := (ex_ct1 kE138_0)
set_option maxHeartbeats 100000 in
def k139_19 : ex_C := c_aload 0 (c_gf 0 12 (c_gf 10 4 (c_istore 2 (c_aload 0 (c_gf 0 12 (c_iload 1 (c_invV [] cd_139 32 2 30 10 (c_iload 2 (c_ireturn  0)))))))))
set_option maxHeartbeats 100000 in
theorem kE139_19 : ex_CE 0 [] cd_139 k139_19 q139_19 := e_aload_aload_n 19 0 0 0 rfl (e_gf 20 86028 79 0 12 rfl rfl (e_gf 23 644 371 10 4 rfl rfl (e_istore_istore_n 26 0 2 2 rfl (e_aload_aload_n 27 0 0 0 rfl (e_gf 28 86028 79 0 12 rfl rfl (e_iload_iload_n 31 0 1 1 rfl (e_invV_invokevirtual 32 377154 374 2 30 10 rfl rfl rfl rfl rfl rfl (e_iload_iload_n 35 0 2 2 rfl (e_ireturn 36 0 )))))))))
set_option maxHeartbeats 100000 in
def k139_11 : ex_C := c_newx 549755813890
set_option maxHeartbeats 100000 in
theorem kE139_11 : ex_CE 0 [] cd_139 k139_11 q139_11 := e_newx 11 1002 156 158 549755813890 rfl rfl rfl
set_option maxHeartbeats 100000 in
def k139_0 : ex_C := c_iload 1 (c_psh 4 (c_icmp_lt 11 (c_iload 1 (c_psh 16 (c_icmp_le 19 (k139_11))))))
set_option maxHeartbeats 100000 in
theorem kE139_0 : ex_CE 0 [] cd_139 k139_0 q139_0 := e_iload_iload_n 0 0 1 1 rfl (e_psh_iconst 1 4 4 (e_icmp_lt 2 11 9 (e_iload_iload_n 5 0 1 1 rfl (e_psh_bipush 6 16 16 (e_icmp_le 8 19 11 (kE139_11))))))
def kt_139 : Nat → Option ex_C := fun pc => @Bool.rec (fun _ => Nat → Option ex_C) (fun pc => @Bool.rec (fun _ => Nat → Option ex_C) (fun pc => @Bool.rec (fun _ => Option ex_C) none (some k139_19) (Nat.beq pc 19)) (fun pc => @Bool.rec (fun _ => Option ex_C) none (some k139_11) (Nat.beq pc 11)) (Nat.ble pc 11) pc) (fun pc => @Bool.rec (fun _ => Option ex_C) none (some k139_0) (Nat.beq pc 0)) (Nat.ble pc 0) pc
theorem ktE_139 : ex_CTT 0 [] cd_139 kt_139 cd_139 := (ex_ct2 (ex_ct1 kE139_0) (ex_ct2 (ex_ct1 kE139_11) (ex_ct1 kE139_19)))
set_option maxHeartbeats 100000 in
def k140_30 : ex_C := c_aload 0 (c_gf 0 12 (c_invV [] cd_140 34 1 31 10 (c_ireturn  0)))
set_option maxHeartbeats 100000 in
theorem kE140_30 : ex_CE 0 [] cd_140 k140_30 q140_30 := e_aload_aload_n 30 0 0 0 rfl (e_gf 31 86028 79 0 12 rfl rfl (e_invV_invokevirtual 34 385345 380 1 31 10 rfl rfl rfl rfl rfl rfl (e_ireturn 37 0 )))
set_option maxHeartbeats 100000 in
def k140_22 : ex_C := c_newx 549755813893
set_option maxHeartbeats 100000 in
theorem kE140_22 : ex_CE 0 [] cd_140 k140_22 q140_22 := e_newx 22 1005 178 180 549755813893 rfl rfl rfl
set_option maxHeartbeats 100000 in
def k140_0 : ex_C := c_aload 0 (c_gf 0 12 (c_gf 10 3 (c_if_eq 22 (c_aload 0 (c_gf 0 12 (c_gf 10 4 (c_psh 30 (c_icmp_lt 30 (k140_22)))))))))
set_option maxHeartbeats 100000 in
theorem kE140_0 : ex_CE 0 [] cd_140 k140_0 q140_0 := e_aload_aload_n 0 0 0 0 rfl (e_gf 1 86028 79 0 12 rfl rfl (e_gf 4 643 377 10 3 rfl rfl (e_if_eq 7 22 15 (e_aload_aload_n 10 0 0 0 rfl (e_gf 11 86028 79 0 12 rfl rfl (e_gf 14 644 371 10 4 rfl rfl (e_psh_bipush 17 30 30 (e_icmp_lt 19 30 11 (kE140_22)))))))))
def kt_140 : Nat → Option ex_C := fun pc => @Bool.rec (fun _ => Nat → Option ex_C) (fun pc => @Bool.rec (fun _ => Nat → Option ex_C) (fun pc => @Bool.rec (fun _ => Option ex_C) none (some k140_30) (Nat.beq pc 30)) (fun pc => @Bool.rec (fun _ => Option ex_C) none (some k140_22) (Nat.beq pc 22)) (Nat.ble pc 22) pc) (fun pc => @Bool.rec (fun _ => Option ex_C) none (some k140_0) (Nat.beq pc 0)) (Nat.ble pc 0) pc
theorem ktE_140 : ex_CTT 0 [] cd_140 kt_140 cd_140 := (ex_ct2 (ex_ct1 kE140_0) (ex_ct2 (ex_ct1 kE140_22) (ex_ct1 kE140_30)))
set_option maxHeartbeats 100000 in
def k141_29 : ex_C := c_aload 0 (c_iload 2 (c_invV [] cd_141 31 2 150 0 (c_aload 0 (c_gf 0 12 (c_gf 10 0 (c_iload 1 (c_aaload   (c_iload 2 (c_iaload (c_ireturn  0))))))))))
set_option maxHeartbeats 100000 in
theorem kE141_29 : ex_CE 0 [] cd_141 k141_29 q141_29 := e_aload_aload_n 29 0 0 0 rfl (e_iload_iload_n 30 0 2 2 rfl (e_invV_invokevirtual 31 1359874 383 2 150 0 rfl rfl rfl rfl rfl rfl (e_aload_aload_n 34 0 0 0 rfl (e_gf 35 86028 79 0 12 rfl rfl (e_gf 38 86656 386 10 0 rfl rfl (e_iload_iload_n 41 0 1 1 rfl (e_aaload 42 0  (e_iload_iload_n 43 0 2 2 rfl (e_iaload 44 0 (e_ireturn 45 0 ))))))))))
set_option maxHeartbeats 100000 in
def k141_21 : ex_C := c_newx 549755813889
set_option maxHeartbeats 100000 in
theorem kE141_21 : ex_CE 0 [] cd_141 k141_21 q141_21 := e_newx 21 1001 292 294 549755813889 rfl rfl rfl
set_option maxHeartbeats 100000 in
def k141_0 : ex_C := c_iload 1 (c_if_lt 21 (c_iload 1 (c_aload 0 (c_gf 0 12 (c_gf 10 4 (c_icmp_ge 21 (c_iload 1 (c_psh 30 (c_icmp_lt 29 (k141_21))))))))))
set_option maxHeartbeats 100000 in
theorem kE141_0 : ex_CE 0 [] cd_141 k141_0 q141_0 := e_iload_iload_n 0 0 1 1 rfl (e_if_lt 1 21 20 (e_iload_iload_n 4 0 1 1 rfl (e_aload_aload_n 5 0 0 0 rfl (e_gf 6 86028 79 0 12 rfl rfl (e_gf 9 644 371 10 4 rfl rfl (e_icmp_ge 12 21 9 (e_iload_iload_n 15 0 1 1 rfl (e_psh_bipush 16 30 30 (e_icmp_lt 18 29 11 (kE141_21))))))))))
def kt_141 : Nat → Option ex_C := fun pc => @Bool.rec (fun _ => Nat → Option ex_C) (fun pc => @Bool.rec (fun _ => Nat → Option ex_C) (fun pc => @Bool.rec (fun _ => Option ex_C) none (some k141_29) (Nat.beq pc 29)) (fun pc => @Bool.rec (fun _ => Option ex_C) none (some k141_21) (Nat.beq pc 21)) (Nat.ble pc 21) pc) (fun pc => @Bool.rec (fun _ => Option ex_C) none (some k141_0) (Nat.beq pc 0)) (Nat.ble pc 0) pc
theorem ktE_141 : ex_CTT 0 [] cd_141 kt_141 cd_141 := (ex_ct2 (ex_ct1 kE141_0) (ex_ct2 (ex_ct1 kE141_21) (ex_ct1 kE141_29)))
set_option maxHeartbeats 100000 in
def k142_23 : ex_C := c_aload 0 (c_gf 0 12 (c_gf 10 1 (c_iload 1 (c_aaload   (c_iload 2 (c_iaload (c_ireturn  0)))))))
set_option maxHeartbeats 100000 in
theorem kE142_23 : ex_CE 0 [] cd_142 k142_23 q142_23 := e_aload_aload_n 23 0 0 0 rfl (e_gf 24 86028 79 0 12 rfl rfl (e_gf 27 86657 390 10 1 rfl rfl (e_iload_iload_n 30 0 1 1 rfl (e_aaload 31 0  (e_iload_iload_n 32 0 2 2 rfl (e_iaload 33 0 (e_ireturn 34 0 )))))))
set_option maxHeartbeats 100000 in
def k142_0 : ex_C := c_aload 0 (c_iload 1 (c_invV [] cd_142 2 2 150 0 (c_aload 0 (c_iload 2 (c_invV [] cd_142 7 2 150 0 (c_iload 1 (c_iload 2 (c_icmp_ne 23 (c_newx 549755813890)))))))))
set_option maxHeartbeats 100000 in
theorem kE142_0 : ex_CE 0 [] cd_142 k142_0 q142_0 := e_aload_aload_n 0 0 0 0 rfl (e_iload_iload_n 1 0 1 1 rfl (e_invV_invokevirtual 2 1359874 383 2 150 0 rfl rfl rfl rfl rfl rfl (e_aload_aload_n 5 0 0 0 rfl (e_iload_iload_n 6 0 2 2 rfl (e_invV_invokevirtual 7 1359874 383 2 150 0 rfl rfl rfl rfl rfl rfl (e_iload_iload_n 10 0 1 1 rfl (e_iload_iload_n 11 0 2 2 rfl (e_icmp_ne 12 23 11 (e_newx 15 1002 156 158 549755813890 rfl rfl rfl)))))))))
def kt_142 : Nat → Option ex_C := fun pc => @Bool.rec (fun _ => Nat → Option ex_C) (fun pc => @Bool.rec (fun _ => Option ex_C) none (some k142_23) (Nat.beq pc 23)) (fun pc => @Bool.rec (fun _ => Option ex_C) none (some k142_0) (Nat.beq pc 0)) (Nat.ble pc 0) pc
theorem ktE_142 : ex_CTT 0 [] cd_142 kt_142 cd_142 := (ex_ct2 (ex_ct1 kE142_0) (ex_ct1 kE142_23))
set_option maxHeartbeats 100000 in
def k143_0 : ex_C := c_aload 0 (c_gf 0 11 (c_gf 9 3 (c_lreturn  3)))
set_option maxHeartbeats 100000 in
theorem kE143_0 : ex_CE 3 [] cd_143 k143_0 q143_0 := e_aload_aload_n 0 0 0 0 rfl (e_gf 1 86027 72 0 11 rfl rfl (e_gf 4 12867 393 9 3 rfl rfl (e_lreturn 7 0 )))
def kt_143 : Nat → Option ex_C := fun pc => @Bool.rec (fun _ => Option ex_C) none (some k143_0) (Nat.beq pc 0)
theorem ktE_143 : ex_CTT 3 [] cd_143 kt_143 cd_143 := (ex_ct1 kE143_0)
set_option maxHeartbeats 100000 in
def k144_18 : ex_C := c_aload 0 (c_gf 0 13 (c_gf 11 1 (c_none)))
set_option maxHeartbeats 100000 in
theorem kE144_18 : ex_CE 7 [] cd_144 k144_18 q144_18 := e_aload_aload_n 18 0 0 0 rfl (e_gf 19 86029 86 0 13 rfl rfl (e_gf 22 705 403 11 1 rfl rfl (e_bad)))
set_option maxHeartbeats 100000 in
def k144_0 : ex_C := c_aload 0 (c_gf 0 13 (c_gf 11 0 (c_if_ne 18 (c_newx 549755813894))))
set_option maxHeartbeats 100000 in
theorem kE144_0 : ex_CE 7 [] cd_144 k144_0 q144_0 := e_aload_aload_n 0 0 0 0 rfl (e_gf 1 86029 86 0 13 rfl rfl (e_gf 4 704 397 11 0 rfl rfl (e_if_ne 7 18 11 (e_newx 10 1006 400 402 549755813894 rfl rfl rfl))))
def kt_144 : Nat → Option ex_C := fun pc => @Bool.rec (fun _ => Nat → Option ex_C) (fun pc => @Bool.rec (fun _ => Option ex_C) none (some k144_18) (Nat.beq pc 18)) (fun pc => @Bool.rec (fun _ => Option ex_C) none (some k144_0) (Nat.beq pc 0)) (Nat.ble pc 0) pc
theorem ktE_144 : ex_CTT 7 [] cd_144 kt_144 cd_144 := (ex_ct2 (ex_ct1 kE144_0) (ex_ct1 kE144_18))
set_option maxHeartbeats 100000 in
def k145_69 : ex_C := c_lload 1 (c_l2d   (c_psh 34359738370 (c_ddiv   (c_dreturn  8))))
set_option maxHeartbeats 100000 in
theorem kE145_69 : ex_CE 8 [] cd_145 k145_69 q145_69 := e_lload_lload_n 69 0 1 1 rfl (e_l2d 70 0  (e_psh_ldc2_w 71 34359738370 412 (e_ddiv 74 0  (e_dreturn 75 0 ))))
set_option maxHeartbeats 100000 in
def k145_4 : ex_C := c_iload 3 (c_psh 8 (c_icmp_ge 69 (c_aload 0 (c_iload 3 (c_invV [] cd_145 12 2 164 0 (c_istore 4 (c_lload 1 (c_aload 0 (c_gf 0 0 (c_gf 1 0 (c_iload 3 (c_iaload (c_i2l   (c_psh 17179869191 (c_iload 4 (c_iaload (c_i2l   (c_lsub   (c_invS [] cd_145 36 1 300 (c_aload 0 (c_gf 0 0 (c_gf 1 1 (c_iload 3 (c_iaload (c_i2l   (c_psh 17179869192 (c_iload 4 (c_iaload (c_i2l   (c_lsub   (c_invS [] cd_145 57 1 300 (c_ladd   (c_ladd   (c_lstore_n 1  (c_iinc 3 1 (c_goto 4))))))))))))))))))))))))))))))))))))
set_option maxHeartbeats 100000 in
theorem kE145_4 : ex_CE 8 [] cd_145 k145_4 q145_4 := e_iload_iload_n 4 0 3 3 rfl (e_psh_bipush 5 8 8 (e_icmp_ge 7 69 62 (e_aload_aload_n 10 0 0 0 rfl (e_iload_iload_n 11 0 3 3 rfl (e_invV_invokevirtual 12 1474562 406 2 164 0 rfl rfl rfl rfl rfl rfl (e_istore_istore 15 0 4 (e_lload_lload_n 17 0 1 1 rfl (e_aload_aload_n 18 0 0 0 rfl (e_gf 19 86016 10 0 0 rfl rfl (e_gf 22 86080 133 1 0 rfl rfl (e_iload_iload_n 25 0 3 3 rfl (e_iaload 26 0 (e_i2l 27 0  (e_psh_getstatic 28 17179869191 109 (e_iload_iload 31 0 4 (e_iaload 33 0 (e_i2l 34 0  (e_lsub 35 0  (e_invS 36 2596833 409 1 300 rfl rfl rfl (e_aload_aload_n 39 0 0 0 rfl (e_gf 40 86016 10 0 0 rfl rfl (e_gf 43 86081 136 1 1 rfl rfl (e_iload_iload_n 46 0 3 3 rfl (e_iaload 47 0 (e_i2l 48 0  (e_psh_getstatic 49 17179869192 112 (e_iload_iload 52 0 4 (e_iaload 54 0 (e_i2l 55 0  (e_lsub 56 0  (e_invS 57 2596833 409 1 300 rfl rfl rfl (e_ladd 60 0  (e_ladd 61 0  (e_lstore_n 62 0 1 (e_iinc 63 1 3 1 (e_goto 66 4 (-62)))))))))))))))))))))))))))))))))))))
set_option maxHeartbeats 100000 in
def k145_0 : ex_C := c_psh 412316860416 (c_lstore_n 1  (c_psh 0 (c_istore 3 (k145_4))))
set_option maxHeartbeats 100000 in
theorem kE145_0 : ex_CE 8 [] cd_145 k145_0 q145_0 := e_psh_lconst 0 412316860416 0 (e_lstore_n 1 0 1 (e_psh_iconst 2 0 0 (e_istore_istore_n 3 0 3 3 rfl (kE145_4))))
def kt_145 : Nat → Option ex_C := fun pc => @Bool.rec (fun _ => Nat → Option ex_C) (fun pc => @Bool.rec (fun _ => Nat → Option ex_C) (fun pc => @Bool.rec (fun _ => Option ex_C) none (some k145_69) (Nat.beq pc 69)) (fun pc => @Bool.rec (fun _ => Option ex_C) none (some k145_4) (Nat.beq pc 4)) (Nat.ble pc 4) pc) (fun pc => @Bool.rec (fun _ => Option ex_C) none (some k145_0) (Nat.beq pc 0)) (Nat.ble pc 0) pc
theorem ktE_145 : ex_CTT 8 [] cd_145 kt_145 cd_145 := (ex_ct2 (ex_ct1 kE145_0) (ex_ct2 (ex_ct1 kE145_4) (ex_ct1 kE145_69)))
set_option maxHeartbeats 100000 in
def k146_72 : ex_C := c_aload 0 (c_gf 0 12 (c_invV [] cd_146 76 1 35 10 (c_ireturn  1)))
set_option maxHeartbeats 100000 in
theorem kE146_72 : ex_CE 1 [] cd_146 k146_72 q146_72 := e_aload_aload_n 72 0 0 0 rfl (e_gf 73 86028 79 0 12 rfl rfl (e_invV_invokevirtual 76 418113 418 1 35 10 rfl rfl rfl rfl rfl rfl (e_ireturn 79 0 )))
set_option maxHeartbeats 100000 in
def k146_66 : ex_C := c_iinc 1 1 (c_goto 47)
set_option maxHeartbeats 100000 in
theorem kE146_66 : ex_CE 1 [] cd_146 k146_66 q146_66 := e_iinc 66 1 1 1 (e_goto 69 47 (-22))
set_option maxHeartbeats 100000 in
def k146_47 : ex_C := c_iload 1 (c_psh 17179869203 (c_invV [] cd_146 50 1 303 18 (c_icmp_ge 72 (c_aload 0 (c_iload 1 (c_invV [] cd_146 58 2 161 0 (c_if_ne 66 (c_psh 0 (c_ireturn  1)))))))))
set_option maxHeartbeats 100000 in
theorem kE146_47 : ex_CE 1 [] cd_146 k146_47 q146_47 := e_iload_iload_n 47 0 1 1 rfl (e_psh_ldc 48 17179869203 231 (e_invV_invokevirtual 50 2613825 327 1 303 18 rfl rfl rfl rfl rfl rfl (e_icmp_ge 53 72 19 (e_aload_aload_n 56 0 0 0 rfl (e_iload_iload_n 57 0 1 1 rfl (e_invV_invokevirtual 58 1449986 414 2 161 0 rfl rfl rfl rfl rfl rfl (e_if_ne 61 66 5 (e_psh_iconst 64 0 0 (e_ireturn 65 0 )))))))))
set_option maxHeartbeats 100000 in
def k146_45 : ex_C := c_psh 0 (c_istore 1 (k146_47))
set_option maxHeartbeats 100000 in
theorem kE146_45 : ex_CE 1 [] cd_146 k146_45 q146_45 := e_psh_iconst 45 0 0 (e_istore_istore_n 46 0 1 1 rfl (kE146_47))
set_option maxHeartbeats 100000 in
def k146_39 : ex_C := c_iinc 1 1 (c_goto 2)
set_option maxHeartbeats 100000 in
theorem kE146_39 : ex_CE 1 [] cd_146 k146_39 q146_39 := e_iinc 39 1 1 1 (e_goto 42 2 (-40))
set_option maxHeartbeats 100000 in
def k146_2 : ex_C := c_iload 1 (c_psh 8 (c_icmp_ge 45 (c_aload 0 (c_gf 0 0 (c_aload 0 (c_gf 0 0 (c_gf 1 0 (c_iload 1 (c_iaload (c_aload 0 (c_gf 0 0 (c_gf 1 1 (c_iload 1 (c_iaload (c_invV [] cd_146 30 3 43 1 (c_iload 1 (c_icmp_eq 39 (c_psh 0 (c_ireturn  1)))))))))))))))))))
set_option maxHeartbeats 100000 in
theorem kE146_2 : ex_CE 1 [] cd_146 k146_2 q146_2 := e_iload_iload_n 2 0 1 1 rfl (e_psh_bipush 3 8 8 (e_icmp_ge 5 45 40 (e_aload_aload_n 8 0 0 0 rfl (e_gf 9 86016 10 0 0 rfl rfl (e_aload_aload_n 12 0 0 0 rfl (e_gf 13 86016 10 0 0 rfl rfl (e_gf 16 86080 133 1 0 rfl rfl (e_iload_iload_n 19 0 1 1 rfl (e_iaload 20 0 (e_aload_aload_n 21 0 0 0 rfl (e_gf 22 86016 10 0 0 rfl rfl (e_gf 25 86081 136 1 1 rfl rfl (e_iload_iload_n 28 0 1 1 rfl (e_iaload 29 0 (e_invV_invokevirtual 30 483363 146 3 43 1 rfl rfl rfl rfl rfl rfl (e_iload_iload_n 33 0 1 1 rfl (e_icmp_eq 34 39 5 (e_psh_iconst 37 0 0 (e_ireturn 38 0 )))))))))))))))))))
set_option maxHeartbeats 100000 in
def k146_0 : ex_C := c_psh 0 (c_istore 1 (k146_2))
set_option maxHeartbeats 100000 in
theorem kE146_0 : ex_CE 1 [] cd_146 k146_0 q146_0 := e_psh_iconst 0 0 0 (e_istore_istore_n 1 0 1 1 rfl (kE146_2))
def kt_146 : Nat → Option ex_C := fun pc => @Bool.rec (fun _ => Nat → Option ex_C) (fun pc => @Bool.rec (fun _ => Nat → Option ex_C) (fun pc => @Bool.rec (fun _ => Nat → Option ex_C) (fun pc => @Bool.rec (fun _ => Option ex_C) none (some k146_72) (Nat.beq pc 72)) (fun pc => @Bool.rec (fun _ => Option ex_C) none (some k146_66) (Nat.beq pc 66)) (Nat.ble pc 66) pc) (fun pc => @Bool.rec (fun _ => Nat → Option ex_C) (fun pc => @Bool.rec (fun _ => Option ex_C) none (some k146_47) (Nat.beq pc 47)) (fun pc => @Bool.rec (fun _ => Option ex_C) none (some k146_45) (Nat.beq pc 45)) (Nat.ble pc 45) pc) (Nat.ble pc 47) pc) (fun pc => @Bool.rec (fun _ => Nat → Option ex_C) (fun pc => @Bool.rec (fun _ => Nat → Option ex_C) (fun pc => @Bool.rec (fun _ => Option ex_C) none (some k146_39) (Nat.beq pc 39)) (fun pc => @Bool.rec (fun _ => Option ex_C) none (some k146_2) (Nat.beq pc 2)) (Nat.ble pc 2) pc) (fun pc => @Bool.rec (fun _ => Option ex_C) none (some k146_0) (Nat.beq pc 0)) (Nat.ble pc 0) pc) (Nat.ble pc 39) pc
theorem ktE_146 : ex_CTT 1 [] cd_146 kt_146 cd_146 := (ex_ct2 (ex_ct2 (ex_ct1 kE146_0) (ex_ct2 (ex_ct1 kE146_2) (ex_ct1 kE146_39))) (ex_ct2 (ex_ct2 (ex_ct1 kE146_45) (ex_ct1 kE146_47)) (ex_ct2 (ex_ct1 kE146_66) (ex_ct1 kE146_72))))
set_option maxHeartbeats 100000 in
def k147_18 : ex_C := c_return_  15
set_option maxHeartbeats 100000 in
theorem kE147_18 : ex_CE 15 [] cd_147 k147_18 q147_18 := e_return_ 18 0 
set_option maxHeartbeats 100000 in
def k147_10 : ex_C := c_newx 549755813889
set_option maxHeartbeats 100000 in
theorem kE147_10 : ex_CE 15 [] cd_147 k147_10 q147_10 := e_newx 10 1001 292 294 549755813889 rfl rfl rfl
set_option maxHeartbeats 100000 in
def k147_0 : ex_C := c_iload 1 (c_if_lt 10 (c_iload 1 (c_psh 8 (c_icmp_lt 18 (k147_10)))))
set_option maxHeartbeats 100000 in
theorem kE147_0 : ex_CE 15 [] cd_147 k147_0 q147_0 := e_iload_iload_n 0 0 1 1 rfl (e_if_lt 1 10 9 (e_iload_iload_n 4 0 1 1 rfl (e_psh_bipush 5 8 8 (e_icmp_lt 7 18 11 (kE147_10)))))
def kt_147 : Nat → Option ex_C := fun pc => @Bool.rec (fun _ => Nat → Option ex_C) (fun pc => @Bool.rec (fun _ => Nat → Option ex_C) (fun pc => @Bool.rec (fun _ => Option ex_C) none (some k147_18) (Nat.beq pc 18)) (fun pc => @Bool.rec (fun _ => Option ex_C) none (some k147_10) (Nat.beq pc 10)) (Nat.ble pc 10) pc) (fun pc => @Bool.rec (fun _ => Option ex_C) none (some k147_0) (Nat.beq pc 0)) (Nat.ble pc 0) pc
theorem ktE_147 : ex_CTT 15 [] cd_147 kt_147 cd_147 := (ex_ct2 (ex_ct1 kE147_0) (ex_ct2 (ex_ct1 kE147_10) (ex_ct1 kE147_18)))
set_option maxHeartbeats 100000 in
def k148_41 : ex_C := c_return_  15
set_option maxHeartbeats 100000 in
theorem kE148_41 : ex_CE 15 [] cd_148 k148_41 q148_41 := e_return_ 41 0 
set_option maxHeartbeats 100000 in
def k148_33 : ex_C := c_newx 549755813890
set_option maxHeartbeats 100000 in
theorem kE148_33 : ex_CE 15 [] cd_148 k148_33 q148_33 := e_newx 33 1002 156 158 549755813890 rfl rfl rfl
set_option maxHeartbeats 100000 in
def k148_0 : ex_C := c_iload 1 (c_psh 4294967287 (c_icmp_lt 33 (c_iload 1 (c_psh 9 (c_icmp_gt 33 (c_iload 2 (c_psh 4294967287 (c_icmp_lt 33 (c_iload 2 (c_psh 9 (c_icmp_gt 33 (c_iload 3 (c_if_lt 33 (c_iload 3 (c_psh 3 (c_icmp_le 41 (k148_33)))))))))))))))))
set_option maxHeartbeats 100000 in
theorem kE148_0 : ex_CE 15 [] cd_148 k148_0 q148_0 := e_iload_iload_n 0 0 1 1 rfl (e_psh_bipush 1 4294967287 (-9) (e_icmp_lt 3 33 30 (e_iload_iload_n 6 0 1 1 rfl (e_psh_bipush 7 9 9 (e_icmp_gt 9 33 24 (e_iload_iload_n 12 0 2 2 rfl (e_psh_bipush 13 4294967287 (-9) (e_icmp_lt 15 33 18 (e_iload_iload_n 18 0 2 2 rfl (e_psh_bipush 19 9 9 (e_icmp_gt 21 33 12 (e_iload_iload_n 24 0 3 3 rfl (e_if_lt 25 33 8 (e_iload_iload_n 28 0 3 3 rfl (e_psh_iconst 29 3 3 (e_icmp_le 30 41 11 (kE148_33)))))))))))))))))
def kt_148 : Nat → Option ex_C := fun pc => @Bool.rec (fun _ => Nat → Option ex_C) (fun pc => @Bool.rec (fun _ => Nat → Option ex_C) (fun pc => @Bool.rec (fun _ => Option ex_C) none (some k148_41) (Nat.beq pc 41)) (fun pc => @Bool.rec (fun _ => Option ex_C) none (some k148_33) (Nat.beq pc 33)) (Nat.ble pc 33) pc) (fun pc => @Bool.rec (fun _ => Option ex_C) none (some k148_0) (Nat.beq pc 0)) (Nat.ble pc 0) pc
theorem ktE_148 : ex_CTT 15 [] cd_148 kt_148 cd_148 := (ex_ct2 (ex_ct1 kE148_0) (ex_ct2 (ex_ct1 kE148_33) (ex_ct1 kE148_41)))
set_option maxHeartbeats 100000 in
def k149_22 : ex_C := c_return_  15
set_option maxHeartbeats 100000 in
theorem kE149_22 : ex_CE 15 [] cd_149 k149_22 q149_22 := e_return_ 22 0 
set_option maxHeartbeats 100000 in
def k149_14 : ex_C := c_newx 549755813890
set_option maxHeartbeats 100000 in
theorem kE149_14 : ex_CE 15 [] cd_149 k149_14 q149_14 := e_newx 14 1002 156 158 549755813890 rfl rfl rfl
set_option maxHeartbeats 100000 in
def k149_0 : ex_C := c_iload 1 (c_psh 1900 (c_icmp_lt 14 (c_iload 1 (c_psh 2100 (c_icmp_le 22 (k149_14))))))
set_option maxHeartbeats 100000 in
theorem kE149_0 : ex_CE 15 [] cd_149 k149_0 q149_0 := e_iload_iload_n 0 0 1 1 rfl (e_psh_sipush 1 1900 1900 (e_icmp_lt 4 14 10 (e_iload_iload_n 7 0 1 1 rfl (e_psh_sipush 8 2100 2100 (e_icmp_le 11 22 11 (kE149_14))))))
def kt_149 : Nat → Option ex_C := fun pc => @Bool.rec (fun _ => Nat → Option ex_C) (fun pc => @Bool.rec (fun _ => Nat → Option ex_C) (fun pc => @Bool.rec (fun _ => Option ex_C) none (some k149_22) (Nat.beq pc 22)) (fun pc => @Bool.rec (fun _ => Option ex_C) none (some k149_14) (Nat.beq pc 14)) (Nat.ble pc 14) pc) (fun pc => @Bool.rec (fun _ => Option ex_C) none (some k149_0) (Nat.beq pc 0)) (Nat.ble pc 0) pc
theorem ktE_149 : ex_CTT 15 [] cd_149 kt_149 cd_149 := (ex_ct2 (ex_ct1 kE149_0) (ex_ct2 (ex_ct1 kE149_14) (ex_ct1 kE149_22)))
set_option maxHeartbeats 100000 in
def k150_29 : ex_C := c_return_  15
set_option maxHeartbeats 100000 in
theorem kE150_29 : ex_CE 15 [] cd_150 k150_29 q150_29 := e_return_ 29 0 
set_option maxHeartbeats 100000 in
def k150_21 : ex_C := c_newx 549755813889
set_option maxHeartbeats 100000 in
theorem kE150_21 : ex_CE 15 [] cd_150 k150_21 q150_21 := e_newx 21 1001 292 294 549755813889 rfl rfl rfl
set_option maxHeartbeats 100000 in
def k150_0 : ex_C := c_iload 1 (c_if_lt 21 (c_iload 1 (c_aload 0 (c_gf 0 12 (c_gf 10 3 (c_icmp_ge 21 (c_iload 1 (c_psh 16 (c_icmp_lt 29 (k150_21))))))))))
set_option maxHeartbeats 100000 in
theorem kE150_0 : ex_CE 15 [] cd_150 k150_0 q150_0 := e_iload_iload_n 0 0 1 1 rfl (e_if_lt 1 21 20 (e_iload_iload_n 4 0 1 1 rfl (e_aload_aload_n 5 0 0 0 rfl (e_gf 6 86028 79 0 12 rfl rfl (e_gf 9 643 377 10 3 rfl rfl (e_icmp_ge 12 21 9 (e_iload_iload_n 15 0 1 1 rfl (e_psh_bipush 16 16 16 (e_icmp_lt 18 29 11 (kE150_21))))))))))
def kt_150 : Nat → Option ex_C := fun pc => @Bool.rec (fun _ => Nat → Option ex_C) (fun pc => @Bool.rec (fun _ => Nat → Option ex_C) (fun pc => @Bool.rec (fun _ => Option ex_C) none (some k150_29) (Nat.beq pc 29)) (fun pc => @Bool.rec (fun _ => Option ex_C) none (some k150_21) (Nat.beq pc 21)) (Nat.ble pc 21) pc) (fun pc => @Bool.rec (fun _ => Option ex_C) none (some k150_0) (Nat.beq pc 0)) (Nat.ble pc 0) pc
theorem ktE_150 : ex_CTT 15 [] cd_150 kt_150 cd_150 := (ex_ct2 (ex_ct1 kE150_0) (ex_ct2 (ex_ct1 kE150_21) (ex_ct1 kE150_29)))
set_option maxHeartbeats 100000 in
def k151_0 : ex_C := c_aload 0 (c_psh 17179869205 (c_iload 1 (c_invV [] cd_151 5 3 155 0 (c_ireturn  0))))
set_option maxHeartbeats 100000 in
theorem kE151_0 : ex_CE 0 [] cd_151 k151_0 q151_0 := e_aload_aload_n 0 0 0 0 rfl (e_psh_ldc_w 1 17179869205 421 (e_iload_iload_n 4 0 1 1 rfl (e_invV_invokevirtual 5 1400835 423 3 155 0 rfl rfl rfl rfl rfl rfl (e_ireturn 8 0 ))))
def kt_151 : Nat → Option ex_C := fun pc => @Bool.rec (fun _ => Option ex_C) none (some k151_0) (Nat.beq pc 0)
theorem ktE_151 : ex_CTT 0 [] cd_151 kt_151 cd_151 := (ex_ct1 kE151_0)
set_option maxHeartbeats 100000 in
def k152_0 : ex_C := c_aload 0 (c_psh 17179869203 (c_iload 1 (c_invV [] cd_152 4 3 155 0 (c_ireturn  0))))
set_option maxHeartbeats 100000 in
theorem kE152_0 : ex_CE 0 [] cd_152 k152_0 q152_0 := e_aload_aload_n 0 0 0 0 rfl (e_psh_ldc 1 17179869203 231 (e_iload_iload_n 3 0 1 1 rfl (e_invV_invokevirtual 4 1400835 423 3 155 0 rfl rfl rfl rfl rfl rfl (e_ireturn 7 0 ))))
def kt_152 : Nat → Option ex_C := fun pc => @Bool.rec (fun _ => Option ex_C) none (some k152_0) (Nat.beq pc 0)
theorem ktE_152 : ex_CTT 0 [] cd_152 kt_152 cd_152 := (ex_ct1 kE152_0)
set_option maxHeartbeats 100000 in
def k153_0 : ex_C := c_aload 0 (c_psh 17179869207 (c_iload 1 (c_invV [] cd_153 5 3 155 0 (c_ireturn  0))))
set_option maxHeartbeats 100000 in
theorem kE153_0 : ex_CE 0 [] cd_153 k153_0 q153_0 := e_aload_aload_n 0 0 0 0 rfl (e_psh_ldc_w 1 17179869207 427 (e_iload_iload_n 4 0 1 1 rfl (e_invV_invokevirtual 5 1400835 423 3 155 0 rfl rfl rfl rfl rfl rfl (e_ireturn 8 0 ))))
def kt_153 : Nat → Option ex_C := fun pc => @Bool.rec (fun _ => Option ex_C) none (some k153_0) (Nat.beq pc 0)
theorem ktE_153 : ex_CTT 0 [] cd_153 kt_153 cd_153 := (ex_ct1 kE153_0)
set_option maxHeartbeats 100000 in
def k154_0 : ex_C := c_aload 0 (c_psh 17179869209 (c_iload 1 (c_invV [] cd_154 5 3 155 0 (c_ireturn  0))))
set_option maxHeartbeats 100000 in
theorem kE154_0 : ex_CE 0 [] cd_154 k154_0 q154_0 := e_aload_aload_n 0 0 0 0 rfl (e_psh_ldc_w 1 17179869209 429 (e_iload_iload_n 4 0 1 1 rfl (e_invV_invokevirtual 5 1400835 423 3 155 0 rfl rfl rfl rfl rfl rfl (e_ireturn 8 0 ))))
def kt_154 : Nat → Option ex_C := fun pc => @Bool.rec (fun _ => Option ex_C) none (some k154_0) (Nat.beq pc 0)
theorem ktE_154 : ex_CTT 0 [] cd_154 kt_154 cd_154 := (ex_ct1 kE154_0)
set_option maxHeartbeats 100000 in
def k155_18 : ex_C := c_iload 3 (c_ireturn  0)
set_option maxHeartbeats 100000 in
theorem kE155_18 : ex_CE 0 [] cd_155 k155_18 q155_18 := e_iload_iload_n 18 0 3 3 rfl (e_ireturn 19 0 )
set_option maxHeartbeats 100000 in
def k155_0 : ex_C := c_aload 1 (c_iload 2 (c_invV [] cd_155 2 2 305 18 (c_istore 3 (c_iload 3 (c_if_ge 18 (c_newx 549755813890))))))
set_option maxHeartbeats 100000 in
theorem kE155_0 : ex_CE 0 [] cd_155 k155_0 q155_0 := e_aload_aload_n 0 0 1 1 rfl (e_iload_iload_n 1 0 2 2 rfl (e_invV_invokevirtual 2 2630210 233 2 305 18 rfl rfl rfl rfl rfl rfl (e_istore_istore_n 5 0 3 3 rfl (e_iload_iload_n 6 0 3 3 rfl (e_if_ge 7 18 11 (e_newx 10 1002 156 158 549755813890 rfl rfl rfl))))))
def kt_155 : Nat → Option ex_C := fun pc => @Bool.rec (fun _ => Nat → Option ex_C) (fun pc => @Bool.rec (fun _ => Option ex_C) none (some k155_18) (Nat.beq pc 18)) (fun pc => @Bool.rec (fun _ => Option ex_C) none (some k155_0) (Nat.beq pc 0)) (Nat.ble pc 0) pc
theorem ktE_155 : ex_CTT 0 [] cd_155 kt_155 cd_155 := (ex_ct2 (ex_ct1 kE155_0) (ex_ct1 kE155_18))
set_option maxHeartbeats 100000 in
def k156_49 : ex_C := c_aload 0 (c_gf 0 7 (c_aload 0 (c_gf 0 6 (c_iload 3 (c_invV [] cd_156 58 3 51 6 (c_return_  15))))))
set_option maxHeartbeats 100000 in
theorem kE156_49 : ex_CE 15 [] cd_156 k156_49 q156_49 := e_aload_aload_n 49 0 0 0 rfl (e_gf 50 86023 48 0 7 rfl rfl (e_aload_aload_n 53 0 0 0 rfl (e_gf 54 86022 41 0 6 rfl rfl (e_iload_iload_n 57 0 3 3 rfl (e_invV_invokevirtual 58 549059 211 3 51 6 rfl rfl rfl rfl rfl rfl (e_return_ 61 0 ))))))
set_option maxHeartbeats 100000 in
def k156_20 : ex_C := c_aload 0 (c_gf 0 6 (c_aload 0 (c_iload 1 (c_invV [] cd_156 26 2 151 0 (c_aload 0 (c_gf 0 18 (c_invV [] cd_156 33 3 2 5 (c_istore 3 (c_iload 3 (c_if_ge 49 (c_newx 549755813892)))))))))))
set_option maxHeartbeats 100000 in
theorem kE156_20 : ex_CE 15 [] cd_156 k156_20 q156_20 := e_aload_aload_n 20 0 0 0 rfl (e_gf 21 86022 41 0 6 rfl rfl (e_aload_aload_n 24 0 0 0 rfl (e_iload_iload_n 25 0 1 1 rfl (e_invV_invokevirtual 26 1368066 184 2 151 0 rfl rfl rfl rfl rfl rfl (e_aload_aload_n 29 0 0 0 rfl (e_gf 30 18 103 0 18 rfl rfl (e_invV_invokevirtual 33 147619 431 3 2 5 rfl rfl rfl rfl rfl rfl (e_istore_istore_n 36 0 3 3 rfl (e_iload_iload_n 37 0 3 3 rfl (e_if_ge 38 49 11 (e_newx 41 1004 172 174 549755813892 rfl rfl rfl)))))))))))
set_option maxHeartbeats 100000 in
def k156_0 : ex_C := c_psh 17179869203 (c_iload 1 (c_invV [] cd_156 3 2 305 18 (c_istore 2 (c_iload 2 (c_if_lt 20 (c_aload 0 (c_gf 0 7 (c_iload 2 (c_invV [] cd_156 16 2 49 6 (c_return_  15))))))))))
set_option maxHeartbeats 100000 in
theorem kE156_0 : ex_CE 15 [] cd_156 k156_0 q156_0 := e_psh_ldc 0 17179869203 231 (e_iload_iload_n 2 0 1 1 rfl (e_invV_invokevirtual 3 2630210 233 2 305 18 rfl rfl rfl rfl rfl rfl (e_istore_istore_n 6 0 2 2 rfl (e_iload_iload_n 7 0 2 2 rfl (e_if_lt 8 20 12 (e_aload_aload_n 11 0 0 0 rfl (e_gf 12 86023 48 0 7 rfl rfl (e_iload_iload_n 15 0 2 2 rfl (e_invV_invokevirtual 16 532674 280 2 49 6 rfl rfl rfl rfl rfl rfl (e_return_ 19 0 ))))))))))
def kt_156 : Nat → Option ex_C := fun pc => @Bool.rec (fun _ => Nat → Option ex_C) (fun pc => @Bool.rec (fun _ => Nat → Option ex_C) (fun pc => @Bool.rec (fun _ => Option ex_C) none (some k156_49) (Nat.beq pc 49)) (fun pc => @Bool.rec (fun _ => Option ex_C) none (some k156_20) (Nat.beq pc 20)) (Nat.ble pc 20) pc) (fun pc => @Bool.rec (fun _ => Option ex_C) none (some k156_0) (Nat.beq pc 0)) (Nat.ble pc 0) pc
theorem ktE_156 : ex_CTT 15 [] cd_156 kt_156 cd_156 := (ex_ct2 (ex_ct1 kE156_0) (ex_ct2 (ex_ct1 kE156_20) (ex_ct1 kE156_49)))
set_option maxHeartbeats 100000 in
def k157_112 : ex_C := c_return_  15
set_option maxHeartbeats 100000 in
theorem kE157_112 : ex_CE 15 [] cd_157 k157_112 q157_112 := e_return_ 112 0 
set_option maxHeartbeats 100000 in
def k157_92 : ex_C := c_aload 0 (c_gf 0 13 (c_gf 11 2 (c_psh 45 (c_icmp_eq 112 (c_newx 549755813891)))))
set_option maxHeartbeats 100000 in
theorem kE157_92 : ex_CE 15 [] cd_157 k157_92 q157_92 := e_aload_aload_n 92 0 0 0 rfl (e_gf 93 86029 86 0 13 rfl rfl (e_gf 96 8898 273 11 2 rfl rfl (e_psh_bipush 99 45 45 (e_icmp_eq 101 112 11 (e_newx 104 1003 150 152 549755813891 rfl rfl rfl)))))
set_option maxHeartbeats 100000 in
def k157_60 : ex_C := c_aload 0 (c_gf 0 13 (c_aload 0 (c_gf 0 5 (c_aload 1 (c_iload 3 (c_iload 4 (c_invV [] cd_157 72 4 60 2 (c_pf 11 2 2 (c_aload 0 (c_gf 0 13 (c_aload 0 (c_gf 0 5 (c_gf 2 7 (c_pf 11 0 3 (k157_92)))))))))))))))
set_option maxHeartbeats 100000 in
theorem kE157_60 : ex_CE 15 [] cd_157 k157_60 q157_60 := e_aload_aload_n 60 0 0 0 rfl (e_gf 61 86029 86 0 13 rfl rfl (e_aload_aload_n 64 0 0 0 rfl (e_gf 65 86021 34 0 5 rfl rfl (e_aload_aload_n 68 0 1 1 rfl (e_iload_iload_n 69 0 3 3 rfl (e_iload_iload 70 0 4 (e_invV_invokevirtual 72 622660 283 4 60 2 rfl rfl rfl rfl rfl rfl (e_pf 75 8898 273 11 2 2 rfl rfl rfl (e_aload_aload_n 78 0 0 0 rfl (e_gf 79 86029 86 0 13 rfl rfl (e_aload_aload_n 82 0 0 0 rfl (e_gf 83 86021 34 0 5 rfl rfl (e_gf 86 135 434 2 7 rfl rfl (e_pf 89 707 277 11 0 3 rfl rfl rfl (kE157_92)))))))))))))))
set_option maxHeartbeats 100000 in
def k157_44 : ex_C := c_iload 2 (c_if_ne 60 (c_aload 0 (c_gf 0 13 (c_psh 102 (c_pf 11 2 2 (c_goto 92))))))
set_option maxHeartbeats 100000 in
theorem kE157_44 : ex_CE 15 [] cd_157 k157_44 q157_44 := e_iload_iload_n 44 0 2 2 rfl (e_if_ne 45 60 15 (e_aload_aload_n 48 0 0 0 rfl (e_gf 49 86029 86 0 13 rfl rfl (e_psh_bipush 52 102 102 (e_pf 54 8898 273 11 2 2 rfl rfl rfl (e_goto 57 92 35))))))
set_option maxHeartbeats 100000 in
def k157_0 : ex_C := c_aload 0 (c_gf 0 13 (c_dup   (c_gf 11 0 (c_psh 1 (c_iadd (c_pf 11 0 0 (c_aload 0 (c_gf 0 13 (c_psh 4294967295 (c_pf 11 0 3 (c_aload 1 (c_gf 6 7 (c_aload 0 (c_gf 0 17 (c_icmp_le 44 (c_aload 0 (c_gf 0 13 (c_psh 110 (c_pf 11 2 2 (c_goto 92))))))))))))))))))))
set_option maxHeartbeats 100000 in
theorem kE157_0 : ex_CE 15 [] cd_157 k157_0 q157_0 := e_aload_aload_n 0 0 0 0 rfl (e_gf 1 86029 86 0 13 rfl rfl (e_dup 4 0  (e_gf 5 704 397 11 0 rfl rfl (e_psh_iconst 8 1 1 (e_iadd 9 0 (e_pf 10 704 397 11 0 0 rfl rfl rfl (e_aload_aload_n 13 0 0 0 rfl (e_gf 14 86029 86 0 13 rfl rfl (e_psh_iconst 17 4294967295 (-1) (e_pf 18 707 277 11 0 3 rfl rfl rfl (e_aload_aload_n 21 0 1 1 rfl (e_gf 22 391 228 6 7 rfl rfl (e_aload_aload_n 25 0 0 0 rfl (e_gf 26 17 100 0 17 rfl rfl (e_icmp_le 29 44 15 (e_aload_aload_n 32 0 0 0 rfl (e_gf 33 86029 86 0 13 rfl rfl (e_psh_bipush 36 110 110 (e_pf 38 8898 273 11 2 2 rfl rfl rfl (e_goto 41 92 51))))))))))))))))))))
def kt_157 : Nat → Option ex_C := fun pc => @Bool.rec (fun _ => Nat → Option ex_C) (fun pc => @Bool.rec (fun _ => Nat → Option ex_C) (fun pc => @Bool.rec (fun _ => Nat → Option ex_C) (fun pc => @Bool.rec (fun _ => Option ex_C) none (some k157_112) (Nat.beq pc 112)) (fun pc => @Bool.rec (fun _ => Option ex_C) none (some k157_92) (Nat.beq pc 92)) (Nat.ble pc 92) pc) (fun pc => @Bool.rec (fun _ => Option ex_C) none (some k157_60) (Nat.beq pc 60)) (Nat.ble pc 60) pc) (fun pc => @Bool.rec (fun _ => Nat → Option ex_C) (fun pc => @Bool.rec (fun _ => Option ex_C) none (some k157_44) (Nat.beq pc 44)) (fun pc => @Bool.rec (fun _ => Option ex_C) none (some k157_0) (Nat.beq pc 0)) (Nat.ble pc 0) pc) (Nat.ble pc 44) pc
theorem ktE_157 : ex_CTT 15 [] cd_157 kt_157 cd_157 := (ex_ct2 (ex_ct2 (ex_ct1 kE157_0) (ex_ct1 kE157_44)) (ex_ct2 (ex_ct1 kE157_60) (ex_ct2 (ex_ct1 kE157_92) (ex_ct1 kE157_112))))
set_option maxHeartbeats 100000 in
def k158_0 : ex_C := c_aload 0 (c_gf 0 13 (c_dup   (c_gf 11 1 (c_psh 1 (c_iadd (c_pf 11 0 1 (c_aload 0 (c_gf 0 0 (c_aload 0 (c_gf 0 5 (c_gf 2 0 (c_invV [] cd_158 24 2 44 1 (c_aload 0 (c_gf 0 10 (c_aload 0 (c_gf 0 5 (c_gf 2 0 (c_invV [] cd_158 38 2 28 8 (c_aload 0 (c_gf 0 11 (c_iload 1 (c_invV [] cd_158 46 2 57 9 (c_return_  15)))))))))))))))))))))))
set_option maxHeartbeats 100000 in
theorem kE158_0 : ex_CE 15 [] cd_158 k158_0 q158_0 := e_aload_aload_n 0 0 0 0 rfl (e_gf 1 86029 86 0 13 rfl rfl (e_dup 4 0  (e_gf 5 705 403 11 1 rfl rfl (e_psh_iconst 8 1 1 (e_iadd 9 0 (e_pf 10 705 403 11 0 1 rfl rfl rfl (e_aload_aload_n 13 0 0 0 rfl (e_gf 14 86016 10 0 0 rfl rfl (e_aload_aload_n 17 0 0 0 rfl (e_gf 18 86021 34 0 5 rfl rfl (e_gf 21 86144 303 2 0 rfl rfl (e_invV_invokevirtual 24 491554 357 2 44 1 rfl rfl rfl rfl rfl rfl (e_aload_aload_n 27 0 0 0 rfl (e_gf 28 86026 65 0 10 rfl rfl (e_aload_aload_n 31 0 0 0 rfl (e_gf 32 86021 34 0 5 rfl rfl (e_gf 35 86144 303 2 0 rfl rfl (e_invV_invokevirtual 38 360706 435 2 28 8 rfl rfl rfl rfl rfl rfl (e_aload_aload_n 41 0 0 0 rfl (e_gf 42 86027 72 0 11 rfl rfl (e_iload_iload_n 45 0 1 1 rfl (e_invV_invokevirtual 46 598306 437 2 57 9 rfl rfl rfl rfl rfl rfl (e_return_ 49 0 )))))))))))))))))))))))
def kt_158 : Nat → Option ex_C := fun pc => @Bool.rec (fun _ => Option ex_C) none (some k158_0) (Nat.beq pc 0)
theorem ktE_158 : ex_CTT 15 [] cd_158 kt_158 cd_158 := (ex_ct1 kE158_0)
set_option maxHeartbeats 100000 in
def k159_0 : ex_C := c_aload 0 (c_gf 0 5 (c_aload 0 (c_gf 0 0 (c_aload 0 (c_gf 0 4 (c_invV [] cd_159 12 3 59 2 (c_aload 0 (c_gf 0 5 (c_gf 2 3 (c_iload 2 (c_psh 0 (c_psh 0 (c_invV [] cd_159 25 4 69 4 (c_aload 0 (c_gf 0 5 (c_gf 2 3 (c_aload 0 (c_gf 0 5 (c_gf 2 0 (c_psh 0 (c_invV [] cd_159 43 3 70 4 (c_pop   (c_aload 0 (c_gf 0 5 (c_gf 2 3 (c_aload 0 (c_gf 0 5 (c_gf 2 0 (c_iload 1 (c_invV [] cd_159 62 3 72 4 (c_return_  15)))))))))))))))))))))))))))))))
set_option maxHeartbeats 100000 in
theorem kE159_0 : ex_CE 15 [] cd_159 k159_0 q159_0 := e_aload_aload_n 0 0 0 0 rfl (e_gf 1 86021 34 0 5 rfl rfl (e_aload_aload_n 4 0 0 0 rfl (e_gf 5 86016 10 0 0 rfl rfl (e_aload_aload_n 8 0 0 0 rfl (e_gf 9 86020 26 0 4 rfl rfl (e_invV_invokevirtual 12 614467 242 3 59 2 rfl rfl rfl rfl rfl rfl (e_aload_aload_n 15 0 0 0 rfl (e_gf 16 86021 34 0 5 rfl rfl (e_gf 19 86147 299 2 3 rfl rfl (e_iload_iload_n 22 0 2 2 rfl (e_psh_iconst 23 0 0 (e_psh_iconst 24 0 0 (e_invV_invokevirtual 25 696452 439 4 69 4 rfl rfl rfl rfl rfl rfl (e_aload_aload_n 28 0 0 0 rfl (e_gf 29 86021 34 0 5 rfl rfl (e_gf 32 86147 299 2 3 rfl rfl (e_aload_aload_n 35 0 0 0 rfl (e_gf 36 86021 34 0 5 rfl rfl (e_gf 39 86144 303 2 0 rfl rfl (e_psh_iconst 42 0 0 (e_invV_invokevirtual 43 704643 307 3 70 4 rfl rfl rfl rfl rfl rfl (e_pop 46 0  (e_aload_aload_n 47 0 0 0 rfl (e_gf 48 86021 34 0 5 rfl rfl (e_gf 51 86147 299 2 3 rfl rfl (e_aload_aload_n 54 0 0 0 rfl (e_gf 55 86021 34 0 5 rfl rfl (e_gf 58 86144 303 2 0 rfl rfl (e_iload_iload_n 61 0 1 1 rfl (e_invV_invokevirtual 62 721027 443 3 72 4 rfl rfl rfl rfl rfl rfl (e_return_ 65 0 )))))))))))))))))))))))))))))))
def kt_159 : Nat → Option ex_C := fun pc => @Bool.rec (fun _ => Option ex_C) none (some k159_0) (Nat.beq pc 0)
theorem ktE_159 : ex_CTT 15 [] cd_159 kt_159 cd_159 := (ex_ct1 kE159_0)
set_option maxHeartbeats 100000 in
def k160_104 : ex_C := c_psh 0 (c_ireturn  1)
set_option maxHeartbeats 100000 in
theorem kE160_104 : ex_CE 1 [] cd_160 k160_104 q160_104 := e_psh_iconst 104 0 0 (e_ireturn 105 0 )
set_option maxHeartbeats 100000 in
def k160_98 : ex_C := c_iinc 3 1 (c_goto 2)
set_option maxHeartbeats 100000 in
theorem kE160_98 : ex_CE 1 [] cd_160 k160_98 q160_98 := e_iinc 98 1 3 1 (e_goto 101 2 (-99))
set_option maxHeartbeats 100000 in
def k160_2 : ex_C := c_iload 3 (c_psh 12 (c_icmp_ge 104 (c_aload 0 (c_gf 0 7 (c_iload 3 (c_invV [] cd_160 13 2 49 6 (c_aload 0 (c_gf 0 5 (c_aload 1 (c_aload 0 (c_gf 0 4 (c_invV [] cd_160 25 3 59 2 (c_aload 0 (c_gf 0 5 (c_aload 0 (c_gf 0 7 (c_aload 0 (c_gf 0 7 (c_gf 6 5 (c_psh 0 (c_invV [] cd_160 44 4 60 2 (c_psh 45 (c_icmp_ne 98 (c_aload 0 (c_aload 0 (c_gf 0 5 (c_gf 2 0 (c_gf 3 0 (c_aload 0 (c_gf 0 5 (c_gf 2 0 (c_gf 3 1 (c_aload 0 (c_gf 0 5 (c_gf 2 0 (c_gf 3 2 (c_invV [] cd_160 83 4 166 0 (c_if_eq 98 (c_aload 0 (c_gf 0 15 (c_iload 2 (c_iload 3 (c_iastore (c_psh 1 (c_ireturn  1)))))))))))))))))))))))))))))))))))))))))))))
set_option maxHeartbeats 100000 in
theorem kE160_2 : ex_CE 1 [] cd_160 k160_2 q160_2 := e_iload_iload_n 2 0 3 3 rfl (e_psh_bipush 3 12 12 (e_icmp_ge 5 104 99 (e_aload_aload_n 8 0 0 0 rfl (e_gf 9 86023 48 0 7 rfl rfl (e_iload_iload_n 12 0 3 3 rfl (e_invV_invokevirtual 13 532674 280 2 49 6 rfl rfl rfl rfl rfl rfl (e_aload_aload_n 16 0 0 0 rfl (e_gf 17 86021 34 0 5 rfl rfl (e_aload_aload_n 20 0 1 1 rfl (e_aload_aload_n 21 0 0 0 rfl (e_gf 22 86020 26 0 4 rfl rfl (e_invV_invokevirtual 25 614467 242 3 59 2 rfl rfl rfl rfl rfl rfl (e_aload_aload_n 28 0 0 0 rfl (e_gf 29 86021 34 0 5 rfl rfl (e_aload_aload_n 32 0 0 0 rfl (e_gf 33 86023 48 0 7 rfl rfl (e_aload_aload_n 36 0 0 0 rfl (e_gf 37 86023 48 0 7 rfl rfl (e_gf 40 389 225 6 5 rfl rfl (e_psh_iconst 43 0 0 (e_invV_invokevirtual 44 622660 283 4 60 2 rfl rfl rfl rfl rfl rfl (e_psh_bipush 47 45 45 (e_icmp_ne 49 98 49 (e_aload_aload_n 52 0 0 0 rfl (e_aload_aload_n 53 0 0 0 rfl (e_gf 54 86021 34 0 5 rfl rfl (e_gf 57 86144 303 2 0 rfl rfl (e_gf 60 86208 447 3 0 rfl rfl (e_aload_aload_n 63 0 0 0 rfl (e_gf 64 86021 34 0 5 rfl rfl (e_gf 67 86144 303 2 0 rfl rfl (e_gf 70 86209 450 3 1 rfl rfl (e_aload_aload_n 73 0 0 0 rfl (e_gf 74 86021 34 0 5 rfl rfl (e_gf 77 86144 303 2 0 rfl rfl (e_gf 80 86210 451 3 2 rfl rfl (e_invV_invokevirtual 83 1490948 336 4 166 0 rfl rfl rfl rfl rfl rfl (e_if_eq 86 98 12 (e_aload_aload_n 89 0 0 0 rfl (e_gf 90 86031 93 0 15 rfl rfl (e_iload_iload_n 93 0 2 2 rfl (e_iload_iload_n 94 0 3 3 rfl (e_iastore 95 0 (e_psh_iconst 96 1 1 (e_ireturn 97 0 )))))))))))))))))))))))))))))))))))))))))))))
set_option maxHeartbeats 100000 in
def k160_0 : ex_C := c_psh 0 (c_istore 3 (k160_2))
set_option maxHeartbeats 100000 in
theorem kE160_0 : ex_CE 1 [] cd_160 k160_0 q160_0 := e_psh_iconst 0 0 0 (e_istore_istore_n 1 0 3 3 rfl (kE160_2))
def kt_160 : Nat → Option ex_C := fun pc => @Bool.rec (fun _ => Nat → Option ex_C) (fun pc => @Bool.rec (fun _ => Nat → Option ex_C) (fun pc => @Bool.rec (fun _ => Option ex_C) none (some k160_104) (Nat.beq pc 104)) (fun pc => @Bool.rec (fun _ => Option ex_C) none (some k160_98) (Nat.beq pc 98)) (Nat.ble pc 98) pc) (fun pc => @Bool.rec (fun _ => Nat → Option ex_C) (fun pc => @Bool.rec (fun _ => Option ex_C) none (some k160_2) (Nat.beq pc 2)) (fun pc => @Bool.rec (fun _ => Option ex_C) none (some k160_0) (Nat.beq pc 0)) (Nat.ble pc 0) pc) (Nat.ble pc 2) pc
theorem ktE_160 : ex_CTT 1 [] cd_160 kt_160 cd_160 := (ex_ct2 (ex_ct2 (ex_ct1 kE160_0) (ex_ct1 kE160_2)) (ex_ct2 (ex_ct1 kE160_98) (ex_ct1 kE160_104)))
set_option maxHeartbeats 100000 in
def k161_287 : ex_C := c_ireturn  1
set_option maxHeartbeats 100000 in
theorem kE161_287 : ex_CE 1 [] cd_161 k161_287 q161_287 := e_ireturn 287 0 
set_option maxHeartbeats 100000 in
def k161_286 : ex_C := c_psh 0 (k161_287)
set_option maxHeartbeats 100000 in
theorem kE161_286 : ex_CE 1 [] cd_161 k161_286 q161_286 := e_psh_iconst 286 0 0 (kE161_287)
set_option maxHeartbeats 100000 in
def k161_274 : ex_C := c_iload 2 (c_if_eq 286 (c_iload 3 (c_if_eq 286 (c_psh 1 (c_goto 287)))))
set_option maxHeartbeats 100000 in
theorem kE161_274 : ex_CE 1 [] cd_161 k161_274 q161_274 := e_iload_iload_n 274 0 2 2 rfl (e_if_eq 275 286 11 (e_iload_iload_n 278 0 3 3 rfl (e_if_eq 279 286 7 (e_psh_iconst 282 1 1 (e_goto 283 287 4)))))
set_option maxHeartbeats 100000 in
def k161_268 : ex_C := c_iinc 4 1 (c_goto 217)
set_option maxHeartbeats 100000 in
theorem kE161_268 : ex_CE 1 [] cd_161 k161_268 q161_268 := e_iinc 268 1 4 1 (e_goto 271 217 (-54))
set_option maxHeartbeats 100000 in
def k161_266 : ex_C := c_psh 0 (c_ireturn  1)
set_option maxHeartbeats 100000 in
theorem kE161_266 : ex_CE 1 [] cd_161 k161_266 q161_266 := e_psh_iconst 266 0 0 (e_ireturn 267 0 )
set_option maxHeartbeats 100000 in
def k161_217 : ex_C := c_iload 4 (c_psh 8 (c_icmp_ge 274 (c_aload 0 (c_gf 0 14 (c_iload 4 (c_iaload (c_aload 0 (c_gf 0 5 (c_gf 2 0 (c_gf 3 8 (c_iload 4 (c_iaload (c_icmp_ne 266 (c_aload 0 (c_gf 0 2 (c_iload 4 (c_aload 0 (c_gf 0 5 (c_gf 2 0 (c_invV [] cd_161 260 3 45 1 (c_if_ne 268 (k161_266))))))))))))))))))))))
set_option maxHeartbeats 100000 in
theorem kE161_217 : ex_CE 1 [] cd_161 k161_217 q161_217 := e_iload_iload 217 0 4 (e_psh_bipush 219 8 8 (e_icmp_ge 221 274 53 (e_aload_aload_n 224 0 0 0 rfl (e_gf 225 86030 90 0 14 rfl rfl (e_iload_iload 228 0 4 (e_iaload 230 0 (e_aload_aload_n 231 0 0 0 rfl (e_gf 232 86021 34 0 5 rfl rfl (e_gf 235 86144 303 2 0 rfl rfl (e_gf 238 86216 452 3 8 rfl rfl (e_iload_iload 241 0 4 (e_iaload 243 0 (e_icmp_ne 244 266 22 (e_aload_aload_n 247 0 0 0 rfl (e_gf 248 86018 19 0 2 rfl rfl (e_iload_iload 251 0 4 (e_aload_aload_n 253 0 0 0 rfl (e_gf 254 86021 34 0 5 rfl rfl (e_gf 257 86144 303 2 0 rfl rfl (e_invV_invokevirtual 260 499747 455 3 45 1 rfl rfl rfl rfl rfl rfl (e_if_ne 263 268 5 (kE161_266))))))))))))))))))))))
set_option maxHeartbeats 100000 in
def k161_213 : ex_C := c_istore 3 (c_psh 0 (c_istore 4 (k161_217)))
set_option maxHeartbeats 100000 in
theorem kE161_213 : ex_CE 1 [] cd_161 k161_213 q161_213 := e_istore_istore_n 213 0 3 3 rfl (e_psh_iconst 214 0 0 (e_istore_istore 215 0 4 (kE161_217)))
set_option maxHeartbeats 100000 in
def k161_212 : ex_C := c_psh 0 (k161_213)
set_option maxHeartbeats 100000 in
theorem kE161_212 : ex_CE 1 [] cd_161 k161_212 q161_212 := e_psh_iconst 212 0 0 (kE161_213)
set_option maxHeartbeats 100000 in
def k161_169 : ex_C := c_aload 0 (c_gf 0 5 (c_aload 0 (c_gf 0 0 (c_aload 0 (c_gf 0 3 (c_invV [] cd_161 181 3 59 2 (c_aload 0 (c_gf 0 5 (c_aload 0 (c_gf 0 7 (c_aload 0 (c_gf 0 7 (c_gf 6 5 (c_psh 1 (c_invV [] cd_161 200 4 60 2 (c_psh 45 (c_icmp_ne 212 (c_psh 1 (c_goto 213)))))))))))))))))))
set_option maxHeartbeats 100000 in
theorem kE161_169 : ex_CE 1 [] cd_161 k161_169 q161_169 := e_aload_aload_n 169 0 0 0 rfl (e_gf 170 86021 34 0 5 rfl rfl (e_aload_aload_n 173 0 0 0 rfl (e_gf 174 86016 10 0 0 rfl rfl (e_aload_aload_n 177 0 0 0 rfl (e_gf 178 86019 22 0 3 rfl rfl (e_invV_invokevirtual 181 614467 242 3 59 2 rfl rfl rfl rfl rfl rfl (e_aload_aload_n 184 0 0 0 rfl (e_gf 185 86021 34 0 5 rfl rfl (e_aload_aload_n 188 0 0 0 rfl (e_gf 189 86023 48 0 7 rfl rfl (e_aload_aload_n 192 0 0 0 rfl (e_gf 193 86023 48 0 7 rfl rfl (e_gf 196 389 225 6 5 rfl rfl (e_psh_iconst 199 1 1 (e_invV_invokevirtual 200 622660 283 4 60 2 rfl rfl rfl rfl rfl rfl (e_psh_bipush 203 45 45 (e_icmp_ne 205 212 7 (e_psh_iconst 208 1 1 (e_goto 209 213 4)))))))))))))))))))
set_option maxHeartbeats 100000 in
def k161_136 : ex_C := c_iload 3 (c_psh 8 (c_icmp_ge 169 (c_aload 0 (c_gf 0 14 (c_iload 3 (c_dup2   (c_iaload (c_aload 0 (c_gf 0 5 (c_gf 2 0 (c_gf 3 8 (c_iload 3 (c_iaload (c_isub (c_iastore (c_iinc 3 1 (c_goto 136)))))))))))))))))
set_option maxHeartbeats 100000 in
theorem kE161_136 : ex_CE 1 [] cd_161 k161_136 q161_136 := e_iload_iload_n 136 0 3 3 rfl (e_psh_bipush 137 8 8 (e_icmp_ge 139 169 30 (e_aload_aload_n 142 0 0 0 rfl (e_gf 143 86030 90 0 14 rfl rfl (e_iload_iload_n 146 0 3 3 rfl (e_dup2 147 0  (e_iaload 148 0 (e_aload_aload_n 149 0 0 0 rfl (e_gf 150 86021 34 0 5 rfl rfl (e_gf 153 86144 303 2 0 rfl rfl (e_gf 156 86216 452 3 8 rfl rfl (e_iload_iload_n 159 0 3 3 rfl (e_iaload 160 0 (e_isub 161 0 (e_iastore 162 0 (e_iinc 163 1 3 1 (e_goto 166 136 (-30))))))))))))))))))
set_option maxHeartbeats 100000 in
def k161_133 : ex_C := c_istore 2 (c_psh 0 (c_istore 3 (k161_136)))
set_option maxHeartbeats 100000 in
theorem kE161_133 : ex_CE 1 [] cd_161 k161_133 q161_133 := e_istore_istore_n 133 0 2 2 rfl (e_psh_iconst 134 0 0 (e_istore_istore_n 135 0 3 3 rfl (kE161_136)))
set_option maxHeartbeats 100000 in
def k161_132 : ex_C := c_psh 0 (k161_133)
set_option maxHeartbeats 100000 in
theorem kE161_132 : ex_CE 1 [] cd_161 k161_132 q161_132 := e_psh_iconst 132 0 0 (kE161_133)
set_option maxHeartbeats 100000 in
def k161_95 : ex_C := c_aload 0 (c_gf 0 5 (c_aload 0 (c_gf 0 0 (c_aload 0 (c_gf 0 3 (c_invV [] cd_161 107 3 59 2 (c_aload 0 (c_gf 0 5 (c_aload 0 (c_gf 0 7 (c_psh 1 (c_psh 0 (c_invV [] cd_161 120 4 60 2 (c_psh 45 (c_icmp_ne 132 (c_psh 1 (c_goto 133)))))))))))))))))
set_option maxHeartbeats 100000 in
theorem kE161_95 : ex_CE 1 [] cd_161 k161_95 q161_95 := e_aload_aload_n 95 0 0 0 rfl (e_gf 96 86021 34 0 5 rfl rfl (e_aload_aload_n 99 0 0 0 rfl (e_gf 100 86016 10 0 0 rfl rfl (e_aload_aload_n 103 0 0 0 rfl (e_gf 104 86019 22 0 3 rfl rfl (e_invV_invokevirtual 107 614467 242 3 59 2 rfl rfl rfl rfl rfl rfl (e_aload_aload_n 110 0 0 0 rfl (e_gf 111 86021 34 0 5 rfl rfl (e_aload_aload_n 114 0 0 0 rfl (e_gf 115 86023 48 0 7 rfl rfl (e_psh_iconst 118 1 1 (e_psh_iconst 119 0 0 (e_invV_invokevirtual 120 622660 283 4 60 2 rfl rfl rfl rfl rfl rfl (e_psh_bipush 123 45 45 (e_icmp_ne 125 132 7 (e_psh_iconst 128 1 1 (e_goto 129 133 4)))))))))))))))))
set_option maxHeartbeats 100000 in
def k161_65 : ex_C := c_iload 2 (c_psh 8 (c_icmp_ge 95 (c_aload 0 (c_gf 0 14 (c_iload 2 (c_aload 0 (c_gf 0 5 (c_gf 2 0 (c_gf 3 8 (c_iload 2 (c_iaload (c_iastore (c_iinc 2 1 (c_goto 65))))))))))))))
set_option maxHeartbeats 100000 in
theorem kE161_65 : ex_CE 1 [] cd_161 k161_65 q161_65 := e_iload_iload_n 65 0 2 2 rfl (e_psh_bipush 66 8 8 (e_icmp_ge 68 95 27 (e_aload_aload_n 71 0 0 0 rfl (e_gf 72 86030 90 0 14 rfl rfl (e_iload_iload_n 75 0 2 2 rfl (e_aload_aload_n 76 0 0 0 rfl (e_gf 77 86021 34 0 5 rfl rfl (e_gf 80 86144 303 2 0 rfl rfl (e_gf 83 86216 452 3 8 rfl rfl (e_iload_iload_n 86 0 2 2 rfl (e_iaload 87 0 (e_iastore 88 0 (e_iinc 89 1 2 1 (e_goto 92 65 (-27)))))))))))))))
set_option maxHeartbeats 100000 in
def k161_49 : ex_C := c_aload 0 (c_gf 0 2 (c_aload 0 (c_gf 0 5 (c_gf 2 0 (c_invV [] cd_161 60 2 44 1 (c_psh 0 (c_istore 2 (k161_65))))))))
set_option maxHeartbeats 100000 in
theorem kE161_49 : ex_CE 1 [] cd_161 k161_49 q161_49 := e_aload_aload_n 49 0 0 0 rfl (e_gf 50 86018 19 0 2 rfl rfl (e_aload_aload_n 53 0 0 0 rfl (e_gf 54 86021 34 0 5 rfl rfl (e_gf 57 86144 303 2 0 rfl rfl (e_invV_invokevirtual 60 491554 357 2 44 1 rfl rfl rfl rfl rfl rfl (e_psh_iconst 63 0 0 (e_istore_istore_n 64 0 2 2 rfl (kE161_65))))))))
set_option maxHeartbeats 100000 in
def k161_0 : ex_C := c_aload 0 (c_gf 0 7 (c_iload 1 (c_invV [] cd_161 5 2 49 6 (c_aload 0 (c_gf 0 5 (c_aload 0 (c_gf 0 0 (c_aload 0 (c_gf 0 3 (c_invV [] cd_161 20 3 59 2 (c_aload 0 (c_gf 0 5 (c_aload 0 (c_gf 0 7 (c_aload 0 (c_gf 0 7 (c_gf 6 5 (c_psh 0 (c_invV [] cd_161 39 4 60 2 (c_psh 45 (c_icmp_eq 49 (c_psh 1 (c_ireturn  1)))))))))))))))))))))))
set_option maxHeartbeats 100000 in
theorem kE161_0 : ex_CE 1 [] cd_161 k161_0 q161_0 := e_aload_aload_n 0 0 0 0 rfl (e_gf 1 86023 48 0 7 rfl rfl (e_iload_iload_n 4 0 1 1 rfl (e_invV_invokevirtual 5 532674 280 2 49 6 rfl rfl rfl rfl rfl rfl (e_aload_aload_n 8 0 0 0 rfl (e_gf 9 86021 34 0 5 rfl rfl (e_aload_aload_n 12 0 0 0 rfl (e_gf 13 86016 10 0 0 rfl rfl (e_aload_aload_n 16 0 0 0 rfl (e_gf 17 86019 22 0 3 rfl rfl (e_invV_invokevirtual 20 614467 242 3 59 2 rfl rfl rfl rfl rfl rfl (e_aload_aload_n 23 0 0 0 rfl (e_gf 24 86021 34 0 5 rfl rfl (e_aload_aload_n 27 0 0 0 rfl (e_gf 28 86023 48 0 7 rfl rfl (e_aload_aload_n 31 0 0 0 rfl (e_gf 32 86023 48 0 7 rfl rfl (e_gf 35 389 225 6 5 rfl rfl (e_psh_iconst 38 0 0 (e_invV_invokevirtual 39 622660 283 4 60 2 rfl rfl rfl rfl rfl rfl (e_psh_bipush 42 45 45 (e_icmp_eq 44 49 5 (e_psh_iconst 47 1 1 (e_ireturn 48 0 )))))))))))))))))))))))
def kt_161 : Nat → Option ex_C := fun pc => @Bool.rec (fun _ => Nat → Option ex_C) (fun pc => @Bool.rec (fun _ => Nat → Option ex_C) (fun pc => @Bool.rec (fun _ => Nat → Option ex_C) (fun pc => @Bool.rec (fun _ => Nat → Option ex_C) (fun pc => @Bool.rec (fun _ => Option ex_C) none (some k161_287) (Nat.beq pc 287)) (fun pc => @Bool.rec (fun _ => Option ex_C) none (some k161_286) (Nat.beq pc 286)) (Nat.ble pc 286) pc) (fun pc => @Bool.rec (fun _ => Nat → Option ex_C) (fun pc => @Bool.rec (fun _ => Option ex_C) none (some k161_274) (Nat.beq pc 274)) (fun pc => @Bool.rec (fun _ => Option ex_C) none (some k161_268) (Nat.beq pc 268)) (Nat.ble pc 268) pc) (Nat.ble pc 274) pc) (fun pc => @Bool.rec (fun _ => Nat → Option ex_C) (fun pc => @Bool.rec (fun _ => Nat → Option ex_C) (fun pc => @Bool.rec (fun _ => Option ex_C) none (some k161_266) (Nat.beq pc 266)) (fun pc => @Bool.rec (fun _ => Option ex_C) none (some k161_217) (Nat.beq pc 217)) (Nat.ble pc 217) pc) (fun pc => @Bool.rec (fun _ => Nat → Option ex_C) (fun pc => @Bool.rec (fun _ => Option ex_C) none (some k161_213) (Nat.beq pc 213)) (fun pc => @Bool.rec (fun _ => Option ex_C) none (some k161_212) (Nat.beq pc 212)) (Nat.ble pc 212) pc) (Nat.ble pc 213) pc) (Nat.ble pc 266) pc) (fun pc => @Bool.rec (fun _ => Nat → Option ex_C) (fun pc => @Bool.rec (fun _ => Nat → Option ex_C) (fun pc => @Bool.rec (fun _ => Nat → Option ex_C) (fun pc => @Bool.rec (fun _ => Option ex_C) none (some k161_169) (Nat.beq pc 169)) (fun pc => @Bool.rec (fun _ => Option ex_C) none (some k161_136) (Nat.beq pc 136)) (Nat.ble pc 136) pc) (fun pc => @Bool.rec (fun _ => Nat → Option ex_C) (fun pc => @Bool.rec (fun _ => Option ex_C) none (some k161_133) (Nat.beq pc 133)) (fun pc => @Bool.rec (fun _ => Option ex_C) none (some k161_132) (Nat.beq pc 132)) (Nat.ble pc 132) pc) (Nat.ble pc 133) pc) (fun pc => @Bool.rec (fun _ => Nat → Option ex_C) (fun pc => @Bool.rec (fun _ => Nat → Option ex_C) (fun pc => @Bool.rec (fun _ => Option ex_C) none (some k161_95) (Nat.beq pc 95)) (fun pc => @Bool.rec (fun _ => Option ex_C) none (some k161_65) (Nat.beq pc 65)) (Nat.ble pc 65) pc) (fun pc => @Bool.rec (fun _ => Nat → Option ex_C) (fun pc => @Bool.rec (fun _ => Option ex_C) none (some k161_49) (Nat.beq pc 49)) (fun pc => @Bool.rec (fun _ => Option ex_C) none (some k161_0) (Nat.beq pc 0)) (Nat.ble pc 0) pc) (Nat.ble pc 49) pc) (Nat.ble pc 95) pc) (Nat.ble pc 169) pc
theorem ktE_161 : ex_CTT 1 [] cd_161 kt_161 cd_161 := (ex_ct2 (ex_ct2 (ex_ct2 (ex_ct2 (ex_ct1 kE161_0) (ex_ct1 kE161_49)) (ex_ct2 (ex_ct1 kE161_65) (ex_ct1 kE161_95))) (ex_ct2 (ex_ct2 (ex_ct1 kE161_132) (ex_ct1 kE161_133)) (ex_ct2 (ex_ct1 kE161_136) (ex_ct1 kE161_169)))) (ex_ct2 (ex_ct2 (ex_ct2 (ex_ct1 kE161_212) (ex_ct1 kE161_213)) (ex_ct2 (ex_ct1 kE161_217) (ex_ct1 kE161_266))) (ex_ct2 (ex_ct2 (ex_ct1 kE161_268) (ex_ct1 kE161_274)) (ex_ct2 (ex_ct1 kE161_286) (ex_ct1 kE161_287)))))
set_option maxHeartbeats 100000 in
def k162_43 : ex_C := c_aload 0 (c_gf 0 10 (c_invV [] cd_162 47 1 27 8 (c_aload 0 (c_invV [] cd_162 51 1 163 0 (c_return_  15)))))
set_option maxHeartbeats 100000 in
theorem kE162_43 : ex_CE 15 [] cd_162 k162_43 q162_43 := e_aload_aload_n 43 0 0 0 rfl (e_gf 44 86026 65 0 10 rfl rfl (e_invV_invokevirtual 47 352513 459 1 27 8 rfl rfl rfl rfl rfl rfl (e_aload_aload_n 50 0 0 0 rfl (e_invV_invokevirtual 51 1466369 153 1 163 0 rfl rfl rfl rfl rfl rfl (e_return_ 54 0 )))))
set_option maxHeartbeats 100000 in
def k162_2 : ex_C := c_iload 1 (c_psh 8 (c_icmp_ge 43 (c_aload 0 (c_iload 1 (c_invV [] cd_162 10 2 164 0 (c_istore 2 (c_aload 0 (c_gf 0 0 (c_iload 1 (c_psh 17179869191 (c_iload 2 (c_iaload (c_psh 17179869192 (c_iload 2 (c_iaload (c_psh 17179869190 (c_iload 2 (c_iaload (c_invV [] cd_162 34 5 42 1 (c_iinc 1 1 (c_goto 2)))))))))))))))))))))
set_option maxHeartbeats 100000 in
theorem kE162_2 : ex_CE 15 [] cd_162 k162_2 q162_2 := e_iload_iload_n 2 0 1 1 rfl (e_psh_bipush 3 8 8 (e_icmp_ge 5 43 38 (e_aload_aload_n 8 0 0 0 rfl (e_iload_iload_n 9 0 1 1 rfl (e_invV_invokevirtual 10 1474562 406 2 164 0 rfl rfl rfl rfl rfl rfl (e_istore_istore_n 13 0 2 2 rfl (e_aload_aload_n 14 0 0 0 rfl (e_gf 15 86016 10 0 0 rfl rfl (e_iload_iload_n 18 0 1 1 rfl (e_psh_getstatic 19 17179869191 109 (e_iload_iload_n 22 0 2 2 rfl (e_iaload 23 0 (e_psh_getstatic 24 17179869192 112 (e_iload_iload_n 27 0 2 2 rfl (e_iaload 28 0 (e_psh_getstatic 29 17179869190 115 (e_iload_iload_n 32 0 2 2 rfl (e_iaload 33 0 (e_invV_invokevirtual 34 475173 118 5 42 1 rfl rfl rfl rfl rfl rfl (e_iinc 37 1 1 1 (e_goto 40 2 (-38))))))))))))))))))))))
set_option maxHeartbeats 100000 in
def k162_0 : ex_C := c_psh 0 (c_istore 1 (k162_2))
set_option maxHeartbeats 100000 in
theorem kE162_0 : ex_CE 15 [] cd_162 k162_0 q162_0 := e_psh_iconst 0 0 0 (e_istore_istore_n 1 0 1 1 rfl (kE162_2))
def kt_162 : Nat → Option ex_C := fun pc => @Bool.rec (fun _ => Nat → Option ex_C) (fun pc => @Bool.rec (fun _ => Nat → Option ex_C) (fun pc => @Bool.rec (fun _ => Option ex_C) none (some k162_43) (Nat.beq pc 43)) (fun pc => @Bool.rec (fun _ => Option ex_C) none (some k162_2) (Nat.beq pc 2)) (Nat.ble pc 2) pc) (fun pc => @Bool.rec (fun _ => Option ex_C) none (some k162_0) (Nat.beq pc 0)) (Nat.ble pc 0) pc
theorem ktE_162 : ex_CTT 15 [] cd_162 kt_162 cd_162 := (ex_ct2 (ex_ct1 kE162_0) (ex_ct2 (ex_ct1 kE162_2) (ex_ct1 kE162_43)))
set_option maxHeartbeats 100000 in
def k163_0 : ex_C := c_aload 0 (c_gf 0 9 (c_psh 0 (c_pf 7 0 3 (c_aload 0 (c_gf 0 8 (c_invV [] cd_163 12 1 47 6 (c_return_  15)))))))
set_option maxHeartbeats 100000 in
theorem kE163_0 : ex_CE 15 [] cd_163 k163_0 q163_0 := e_aload_aload_n 0 0 0 0 rfl (e_gf 1 86025 58 0 9 rfl rfl (e_psh_iconst 4 0 0 (e_pf 5 451 287 7 0 3 rfl rfl rfl (e_aload_aload_n 8 0 0 0 rfl (e_gf 9 86024 52 0 8 rfl rfl (e_invV_invokevirtual 12 516289 175 1 47 6 rfl rfl rfl rfl rfl rfl (e_return_ 15 0 )))))))
def kt_163 : Nat → Option ex_C := fun pc => @Bool.rec (fun _ => Option ex_C) none (some k163_0) (Nat.beq pc 0)
theorem ktE_163 : ex_CTT 15 [] cd_163 kt_163 cd_163 := (ex_ct1 kE163_0)
set_option maxHeartbeats 100000 in
def k164_21 : ex_C := c_istore 2 (c_iload 2 (c_psh 7 (c_iand (c_ireturn  0))))
set_option maxHeartbeats 100000 in
theorem kE164_21 : ex_CE 0 [] cd_164 k164_21 q164_21 := e_istore_istore_n 21 0 2 2 rfl (e_iload_iload_n 22 0 2 2 rfl (e_psh_bipush 23 7 7 (e_iand 25 0 (e_ireturn 26 0 ))))
set_option maxHeartbeats 100000 in
def k164_10 : ex_C := c_iload 1 (c_psh 2 (c_aload 0 (c_gf 0 11 (c_gf 9 2 (c_imul (c_iadd (k164_21)))))))
set_option maxHeartbeats 100000 in
theorem kE164_10 : ex_CE 0 [] cd_164 k164_10 q164_10 := e_iload_iload_n 10 0 1 1 rfl (e_psh_iconst 11 2 2 (e_aload_aload_n 12 0 0 0 rfl (e_gf 13 86027 72 0 11 rfl rfl (e_gf 16 578 368 9 2 rfl rfl (e_imul 19 0 (e_iadd 20 0 (kE164_21)))))))
set_option maxHeartbeats 100000 in
def k164_0 : ex_C := c_iload 1 (c_psh 2 (c_irem   (c_if_ne 10 (c_iload 1 (c_goto 21)))))
set_option maxHeartbeats 100000 in
theorem kE164_0 : ex_CE 0 [] cd_164 k164_0 q164_0 := e_iload_iload_n 0 0 1 1 rfl (e_psh_iconst 1 2 2 (e_irem 2 0  (e_if_ne 3 10 7 (e_iload_iload_n 6 0 1 1 rfl (e_goto 7 21 14)))))
def kt_164 : Nat → Option ex_C := fun pc => @Bool.rec (fun _ => Nat → Option ex_C) (fun pc => @Bool.rec (fun _ => Nat → Option ex_C) (fun pc => @Bool.rec (fun _ => Option ex_C) none (some k164_21) (Nat.beq pc 21)) (fun pc => @Bool.rec (fun _ => Option ex_C) none (some k164_10) (Nat.beq pc 10)) (Nat.ble pc 10) pc) (fun pc => @Bool.rec (fun _ => Option ex_C) none (some k164_0) (Nat.beq pc 0)) (Nat.ble pc 0) pc
theorem ktE_164 : ex_CTT 0 [] cd_164 kt_164 cd_164 := (ex_ct2 (ex_ct1 kE164_0) (ex_ct2 (ex_ct1 kE164_10) (ex_ct1 kE164_21)))
set_option maxHeartbeats 100000 in
def k165_76 : ex_C := c_iload 1 (c_ireturn  0)
set_option maxHeartbeats 100000 in
theorem kE165_76 : ex_CE 0 [] cd_165 k165_76 q165_76 := e_iload_iload_n 76 0 1 1 rfl (e_ireturn 77 0 )
set_option maxHeartbeats 100000 in
def k165_70 : ex_C := c_iinc 2 1 (c_goto 4)
set_option maxHeartbeats 100000 in
theorem kE165_70 : ex_CE 0 [] cd_165 k165_70 q165_70 := e_iinc 70 1 2 1 (e_goto 73 4 (-69))
set_option maxHeartbeats 100000 in
def k165_67 : ex_C := c_iinc 1 1 (k165_70)
set_option maxHeartbeats 100000 in
theorem kE165_67 : ex_CE 0 [] cd_165 k165_67 q165_67 := e_iinc 67 1 1 1 (kE165_70)
set_option maxHeartbeats 100000 in
def k165_4 : ex_C := c_iload 2 (c_psh 8 (c_icmp_ge 76 (c_aload 0 (c_iload 2 (c_invV [] cd_165 12 2 164 0 (c_istore 3 (c_aload 0 (c_gf 0 0 (c_gf 1 0 (c_iload 2 (c_iaload (c_psh 17179869191 (c_iload 3 (c_iaload (c_icmp_ne 67 (c_aload 0 (c_gf 0 0 (c_gf 1 1 (c_iload 2 (c_iaload (c_psh 17179869192 (c_iload 3 (c_iaload (c_icmp_ne 67 (c_aload 0 (c_gf 0 0 (c_gf 1 2 (c_iload 2 (c_iaload (c_psh 17179869190 (c_iload 3 (c_iaload (c_icmp_eq 70 (k165_67))))))))))))))))))))))))))))))))))
set_option maxHeartbeats 100000 in
theorem kE165_4 : ex_CE 0 [] cd_165 k165_4 q165_4 := e_iload_iload_n 4 0 2 2 rfl (e_psh_bipush 5 8 8 (e_icmp_ge 7 76 69 (e_aload_aload_n 10 0 0 0 rfl (e_iload_iload_n 11 0 2 2 rfl (e_invV_invokevirtual 12 1474562 406 2 164 0 rfl rfl rfl rfl rfl rfl (e_istore_istore_n 15 0 3 3 rfl (e_aload_aload_n 16 0 0 0 rfl (e_gf 17 86016 10 0 0 rfl rfl (e_gf 20 86080 133 1 0 rfl rfl (e_iload_iload_n 23 0 2 2 rfl (e_iaload 24 0 (e_psh_getstatic 25 17179869191 109 (e_iload_iload_n 28 0 3 3 rfl (e_iaload 29 0 (e_icmp_ne 30 67 37 (e_aload_aload_n 33 0 0 0 rfl (e_gf 34 86016 10 0 0 rfl rfl (e_gf 37 86081 136 1 1 rfl rfl (e_iload_iload_n 40 0 2 2 rfl (e_iaload 41 0 (e_psh_getstatic 42 17179869192 112 (e_iload_iload_n 45 0 3 3 rfl (e_iaload 46 0 (e_icmp_ne 47 67 20 (e_aload_aload_n 50 0 0 0 rfl (e_gf 51 86016 10 0 0 rfl rfl (e_gf 54 86082 139 1 2 rfl rfl (e_iload_iload_n 57 0 2 2 rfl (e_iaload 58 0 (e_psh_getstatic 59 17179869190 115 (e_iload_iload_n 62 0 3 3 rfl (e_iaload 63 0 (e_icmp_eq 64 70 6 (kE165_67))))))))))))))))))))))))))))))))))
set_option maxHeartbeats 100000 in
def k165_0 : ex_C := c_psh 0 (c_istore 1 (c_psh 0 (c_istore 2 (k165_4))))
set_option maxHeartbeats 100000 in
theorem kE165_0 : ex_CE 0 [] cd_165 k165_0 q165_0 := e_psh_iconst 0 0 0 (e_istore_istore_n 1 0 1 1 rfl (e_psh_iconst 2 0 0 (e_istore_istore_n 3 0 2 2 rfl (kE165_4))))
def kt_165 : Nat → Option ex_C := fun pc => @Bool.rec (fun _ => Nat → Option ex_C) (fun pc => @Bool.rec (fun _ => Nat → Option ex_C) (fun pc => @Bool.rec (fun _ => Nat → Option ex_C) (fun pc => @Bool.rec (fun _ => Option ex_C) none (some k165_76) (Nat.beq pc 76)) (fun pc => @Bool.rec (fun _ => Option ex_C) none (some k165_70) (Nat.beq pc 70)) (Nat.ble pc 70) pc) (fun pc => @Bool.rec (fun _ => Option ex_C) none (some k165_67) (Nat.beq pc 67)) (Nat.ble pc 67) pc) (fun pc => @Bool.rec (fun _ => Nat → Option ex_C) (fun pc => @Bool.rec (fun _ => Option ex_C) none (some k165_4) (Nat.beq pc 4)) (fun pc => @Bool.rec (fun _ => Option ex_C) none (some k165_0) (Nat.beq pc 0)) (Nat.ble pc 0) pc) (Nat.ble pc 4) pc
theorem ktE_165 : ex_CTT 0 [] cd_165 kt_165 cd_165 := (ex_ct2 (ex_ct2 (ex_ct1 kE165_0) (ex_ct1 kE165_4)) (ex_ct2 (ex_ct1 kE165_67) (ex_ct2 (ex_ct1 kE165_70) (ex_ct1 kE165_76))))
set_option maxHeartbeats 100000 in
def k166_122 : ex_C := c_psh 0 (c_ireturn  1)
set_option maxHeartbeats 100000 in
theorem kE166_122 : ex_CE 1 [] cd_166 k166_122 q166_122 := e_psh_iconst 122 0 0 (e_ireturn 123 0 )
set_option maxHeartbeats 100000 in
def k166_116 : ex_C := c_iinc 4 1 (c_goto 3)
set_option maxHeartbeats 100000 in
theorem kE166_116 : ex_CE 1 [] cd_166 k166_116 q166_116 := e_iinc 116 1 4 1 (e_goto 119 3 (-116))
set_option maxHeartbeats 100000 in
def k166_107 : ex_C := c_iload 5 (c_psh 8 (c_icmp_ne 116 (c_psh 1 (c_ireturn  1))))
set_option maxHeartbeats 100000 in
theorem kE166_107 : ex_CE 1 [] cd_166 k166_107 q166_107 := e_iload_iload 107 0 5 (e_psh_bipush 109 8 8 (e_icmp_ne 111 116 5 (e_psh_iconst 114 1 1 (e_ireturn 115 0 ))))
set_option maxHeartbeats 100000 in
def k166_101 : ex_C := c_iinc 6 1 (c_goto 15)
set_option maxHeartbeats 100000 in
theorem kE166_101 : ex_CE 1 [] cd_166 k166_101 q166_101 := e_iinc 101 1 6 1 (e_goto 104 15 (-89))
set_option maxHeartbeats 100000 in
def k166_15 : ex_C := c_iload 6 (c_psh 8 (c_icmp_ge 107 (c_iload 6 (c_aload 1 (c_arraylength   (c_icmp_ge 107 (c_iload 6 (c_aload 2 (c_arraylength   (c_icmp_ge 107 (c_iload 6 (c_aload 3 (c_arraylength   (c_icmp_ge 107 (c_aload 0 (c_iload 6 (c_invV [] cd_166 46 2 164 0 (c_psh 2 (c_iload 4 (c_imul (c_iadd (c_psh 7 (c_iand (c_istore 7 (c_aload 1 (c_iload 6 (c_iaload (c_psh 17179869191 (c_iload 7 (c_iaload (c_icmp_ne 101 (c_aload 2 (c_iload 6 (c_iaload (c_psh 17179869192 (c_iload 7 (c_iaload (c_icmp_ne 101 (c_aload 3 (c_iload 6 (c_iaload (c_psh 17179869190 (c_iload 7 (c_iaload (c_icmp_ne 101 (c_iinc 5 1 (k166_101)))))))))))))))))))))))))))))))))))))))))))))))
set_option maxHeartbeats 100000 in
theorem kE166_15 : ex_CE 1 [] cd_166 k166_15 q166_15 := e_iload_iload 15 0 6 (e_psh_bipush 17 8 8 (e_icmp_ge 19 107 88 (e_iload_iload 22 0 6 (e_aload_aload_n 24 0 1 1 rfl (e_arraylength 25 0  (e_icmp_ge 26 107 81 (e_iload_iload 29 0 6 (e_aload_aload_n 31 0 2 2 rfl (e_arraylength 32 0  (e_icmp_ge 33 107 74 (e_iload_iload 36 0 6 (e_aload_aload_n 38 0 3 3 rfl (e_arraylength 39 0  (e_icmp_ge 40 107 67 (e_aload_aload_n 43 0 0 0 rfl (e_iload_iload 44 0 6 (e_invV_invokevirtual 46 1474562 406 2 164 0 rfl rfl rfl rfl rfl rfl (e_psh_iconst 49 2 2 (e_iload_iload 50 0 4 (e_imul 52 0 (e_iadd 53 0 (e_psh_bipush 54 7 7 (e_iand 56 0 (e_istore_istore 57 0 7 (e_aload_aload_n 59 0 1 1 rfl (e_iload_iload 60 0 6 (e_iaload 62 0 (e_psh_getstatic 63 17179869191 109 (e_iload_iload 66 0 7 (e_iaload 68 0 (e_icmp_ne 69 101 32 (e_aload_aload_n 72 0 2 2 rfl (e_iload_iload 73 0 6 (e_iaload 75 0 (e_psh_getstatic 76 17179869192 112 (e_iload_iload 79 0 7 (e_iaload 81 0 (e_icmp_ne 82 101 19 (e_aload_aload_n 85 0 3 3 rfl (e_iload_iload 86 0 6 (e_iaload 88 0 (e_psh_getstatic 89 17179869190 115 (e_iload_iload 92 0 7 (e_iaload 94 0 (e_icmp_ne 95 101 6 (e_iinc 98 1 5 1 (kE166_101)))))))))))))))))))))))))))))))))))))))))))))))
set_option maxHeartbeats 100000 in
def k166_3 : ex_C := c_iload 4 (c_psh 4 (c_icmp_ge 122 (c_psh 0 (c_istore 5 (c_psh 0 (c_istore 6 (k166_15)))))))
set_option maxHeartbeats 100000 in
theorem kE166_3 : ex_CE 1 [] cd_166 k166_3 q166_3 := e_iload_iload 3 0 4 (e_psh_iconst 5 4 4 (e_icmp_ge 6 122 116 (e_psh_iconst 9 0 0 (e_istore_istore 10 0 5 (e_psh_iconst 12 0 0 (e_istore_istore 13 0 6 (kE166_15)))))))
set_option maxHeartbeats 100000 in
def k166_0 : ex_C := c_psh 0 (c_istore 4 (k166_3))
set_option maxHeartbeats 100000 in
theorem kE166_0 : ex_CE 1 [] cd_166 k166_0 q166_0 := e_psh_iconst 0 0 0 (e_istore_istore 1 0 4 (kE166_3))
def kt_166 : Nat → Option ex_C := fun pc => @Bool.rec (fun _ => Nat → Option ex_C) (fun pc => @Bool.rec (fun _ => Nat → Option ex_C) (fun pc => @Bool.rec (fun _ => Nat → Option ex_C) (fun pc => @Bool.rec (fun _ => Option ex_C) none (some k166_122) (Nat.beq pc 122)) (fun pc => @Bool.rec (fun _ => Option ex_C) none (some k166_116) (Nat.beq pc 116)) (Nat.ble pc 116) pc) (fun pc => @Bool.rec (fun _ => Nat → Option ex_C) (fun pc => @Bool.rec (fun _ => Option ex_C) none (some k166_107) (Nat.beq pc 107)) (fun pc => @Bool.rec (fun _ => Option ex_C) none (some k166_101) (Nat.beq pc 101)) (Nat.ble pc 101) pc) (Nat.ble pc 107) pc) (fun pc => @Bool.rec (fun _ => Nat → Option ex_C) (fun pc => @Bool.rec (fun _ => Nat → Option ex_C) (fun pc => @Bool.rec (fun _ => Option ex_C) none (some k166_15) (Nat.beq pc 15)) (fun pc => @Bool.rec (fun _ => Option ex_C) none (some k166_3) (Nat.beq pc 3)) (Nat.ble pc 3) pc) (fun pc => @Bool.rec (fun _ => Option ex_C) none (some k166_0) (Nat.beq pc 0)) (Nat.ble pc 0) pc) (Nat.ble pc 15) pc
theorem ktE_166 : ex_CTT 1 [] cd_166 kt_166 cd_166 := (ex_ct2 (ex_ct2 (ex_ct1 kE166_0) (ex_ct2 (ex_ct1 kE166_3) (ex_ct1 kE166_15))) (ex_ct2 (ex_ct2 (ex_ct1 kE166_101) (ex_ct1 kE166_107)) (ex_ct2 (ex_ct1 kE166_116) (ex_ct1 kE166_122))))
set_option maxHeartbeats 100000 in
def k167_56 : ex_C := c_iload 2 (c_ireturn  0)
set_option maxHeartbeats 100000 in
theorem kE167_56 : ex_CE 0 [] cd_167 k167_56 q167_56 := e_iload_iload_n 56 0 2 2 rfl (e_ireturn 57 0 )
set_option maxHeartbeats 100000 in
def k167_43 : ex_C := c_iload 2 (c_iload 4 (c_invS [] cd_167 46 2 302 (c_istore 2 (c_iinc 3 1 (c_goto 5)))))
set_option maxHeartbeats 100000 in
theorem kE167_43 : ex_CE 0 [] cd_167 k167_43 q167_43 := e_iload_iload_n 43 0 2 2 rfl (e_iload_iload 44 0 4 (e_invS 46 2613218 464 2 302 rfl rfl rfl (e_istore_istore_n 49 0 2 2 rfl (e_iinc 50 1 3 1 (e_goto 53 5 (-48))))))
set_option maxHeartbeats 100000 in
def k167_37 : ex_C := c_iinc 5 1 (c_goto 16)
set_option maxHeartbeats 100000 in
theorem kE167_37 : ex_CE 0 [] cd_167 k167_37 q167_37 := e_iinc 37 1 5 1 (e_goto 40 16 (-24))
set_option maxHeartbeats 100000 in
def k167_16 : ex_C := c_iload 5 (c_psh 8 (c_icmp_ge 43 (c_aload 0 (c_iload 1 (c_iload 5 (c_iload 3 (c_invV [] cd_167 28 4 168 0 (c_if_ne 37 (c_iinc 4 1 (k167_37))))))))))
set_option maxHeartbeats 100000 in
theorem kE167_16 : ex_CE 0 [] cd_167 k167_16 q167_16 := e_iload_iload 16 0 5 (e_psh_bipush 18 8 8 (e_icmp_ge 20 43 23 (e_aload_aload_n 23 0 0 0 rfl (e_iload_iload_n 24 0 1 1 rfl (e_iload_iload 25 0 5 (e_iload_iload_n 27 0 3 3 rfl (e_invV_invokevirtual 28 1507332 460 4 168 0 rfl rfl rfl rfl rfl rfl (e_if_ne 31 37 6 (e_iinc 34 1 4 1 (kE167_37))))))))))
set_option maxHeartbeats 100000 in
def k167_5 : ex_C := c_iload 3 (c_psh 4 (c_icmp_ge 56 (c_psh 0 (c_istore 4 (c_psh 0 (c_istore 5 (k167_16)))))))
set_option maxHeartbeats 100000 in
theorem kE167_5 : ex_CE 0 [] cd_167 k167_5 q167_5 := e_iload_iload_n 5 0 3 3 rfl (e_psh_iconst 6 4 4 (e_icmp_ge 7 56 49 (e_psh_iconst 10 0 0 (e_istore_istore 11 0 4 (e_psh_iconst 13 0 0 (e_istore_istore 14 0 5 (kE167_16)))))))
set_option maxHeartbeats 100000 in
def k167_0 : ex_C := c_psh 8 (c_istore 2 (c_psh 0 (c_istore 3 (k167_5))))
set_option maxHeartbeats 100000 in
theorem kE167_0 : ex_CE 0 [] cd_167 k167_0 q167_0 := e_psh_bipush 0 8 8 (e_istore_istore_n 2 0 2 2 rfl (e_psh_iconst 3 0 0 (e_istore_istore_n 4 0 3 3 rfl (kE167_5))))
def kt_167 : Nat → Option ex_C := fun pc => @Bool.rec (fun _ => Nat → Option ex_C) (fun pc => @Bool.rec (fun _ => Nat → Option ex_C) (fun pc => @Bool.rec (fun _ => Nat → Option ex_C) (fun pc => @Bool.rec (fun _ => Option ex_C) none (some k167_56) (Nat.beq pc 56)) (fun pc => @Bool.rec (fun _ => Option ex_C) none (some k167_43) (Nat.beq pc 43)) (Nat.ble pc 43) pc) (fun pc => @Bool.rec (fun _ => Option ex_C) none (some k167_37) (Nat.beq pc 37)) (Nat.ble pc 37) pc) (fun pc => @Bool.rec (fun _ => Nat → Option ex_C) (fun pc => @Bool.rec (fun _ => Nat → Option ex_C) (fun pc => @Bool.rec (fun _ => Option ex_C) none (some k167_16) (Nat.beq pc 16)) (fun pc => @Bool.rec (fun _ => Option ex_C) none (some k167_5) (Nat.beq pc 5)) (Nat.ble pc 5) pc) (fun pc => @Bool.rec (fun _ => Option ex_C) none (some k167_0) (Nat.beq pc 0)) (Nat.ble pc 0) pc) (Nat.ble pc 16) pc
theorem ktE_167 : ex_CTT 0 [] cd_167 kt_167 cd_167 := (ex_ct2 (ex_ct2 (ex_ct1 kE167_0) (ex_ct2 (ex_ct1 kE167_5) (ex_ct1 kE167_16))) (ex_ct2 (ex_ct1 kE167_37) (ex_ct2 (ex_ct1 kE167_43) (ex_ct1 kE167_56))))
set_option maxHeartbeats 100000 in
def k168_137 : ex_C := c_psh 0 (c_ireturn  1)
set_option maxHeartbeats 100000 in
theorem kE168_137 : ex_CE 1 [] cd_168 k168_137 q168_137 := e_psh_iconst 137 0 0 (e_ireturn 138 0 )
set_option maxHeartbeats 100000 in
def k168_131 : ex_C := c_iinc 8 1 (c_goto 77)
set_option maxHeartbeats 100000 in
theorem kE168_131 : ex_CE 1 [] cd_168 k168_131 q168_131 := e_iinc 131 1 8 1 (e_goto 134 77 (-57))
set_option maxHeartbeats 100000 in
def k168_77 : ex_C := c_iload 8 (c_iload 7 (c_psh 8 (c_iadd (c_icmp_ge 137 (c_iload 8 (c_psh 17179869188 (c_arraylength   (c_icmp_ge 137 (c_psh 17179869188 (c_iload 8 (c_iaload (c_iload 4 (c_icmp_ne 131 (c_psh 17179869189 (c_iload 8 (c_iaload (c_iload 5 (c_icmp_ne 131 (c_psh 17179869187 (c_iload 8 (c_iaload (c_iload 6 (c_icmp_ne 131 (c_psh 1 (c_ireturn  1)))))))))))))))))))))))))
set_option maxHeartbeats 100000 in
theorem kE168_77 : ex_CE 1 [] cd_168 k168_77 q168_77 := e_iload_iload 77 0 8 (e_iload_iload 79 0 7 (e_psh_bipush 81 8 8 (e_iadd 83 0 (e_icmp_ge 84 137 53 (e_iload_iload 87 0 8 (e_psh_getstatic 89 17179869188 470 (e_arraylength 92 0  (e_icmp_ge 93 137 44 (e_psh_getstatic 96 17179869188 470 (e_iload_iload 99 0 8 (e_iaload 101 0 (e_iload_iload 102 0 4 (e_icmp_ne 104 131 27 (e_psh_getstatic 107 17179869189 473 (e_iload_iload 110 0 8 (e_iaload 112 0 (e_iload_iload 113 0 5 (e_icmp_ne 115 131 16 (e_psh_getstatic 118 17179869187 476 (e_iload_iload 121 0 8 (e_iaload 123 0 (e_iload_iload 124 0 6 (e_icmp_ne 126 131 5 (e_psh_iconst 129 1 1 (e_ireturn 130 0 )))))))))))))))))))))))))
set_option maxHeartbeats 100000 in
def k168_0 : ex_C := c_aload 0 (c_gf 0 0 (c_gf 1 0 (c_iload 2 (c_iaload (c_aload 0 (c_gf 0 0 (c_gf 1 1 (c_iload 2 (c_iaload (c_iload 3 (c_invS [] cd_168 19 3 169 (c_istore 4 (c_aload 0 (c_gf 0 0 (c_gf 1 0 (c_iload 2 (c_iaload (c_aload 0 (c_gf 0 0 (c_gf 1 1 (c_iload 2 (c_iaload (c_iload 3 (c_invS [] cd_168 43 3 170 (c_istore 5 (c_aload 0 (c_gf 0 0 (c_gf 1 2 (c_iload 2 (c_iaload (c_iload 3 (c_isub (c_psh 3 (c_iand (c_istore 6 (c_iload 1 (c_psh 8 (c_imul (c_istore 7 (c_psh 0 (c_iload 7 (c_invS [] cd_168 72 2 301 (c_istore 8 (k168_77))))))))))))))))))))))))))))))))))))))))))))
set_option maxHeartbeats 100000 in
theorem kE168_0 : ex_CE 1 [] cd_168 k168_0 q168_0 := e_aload_aload_n 0 0 0 0 rfl (e_gf 1 86016 10 0 0 rfl rfl (e_gf 4 86080 133 1 0 rfl rfl (e_iload_iload_n 7 0 2 2 rfl (e_iaload 8 0 (e_aload_aload_n 9 0 0 0 rfl (e_gf 10 86016 10 0 0 rfl rfl (e_gf 13 86081 136 1 1 rfl rfl (e_iload_iload_n 16 0 2 2 rfl (e_iaload 17 0 (e_iload_iload_n 18 0 3 3 rfl (e_invS 19 1523683 165 3 169 rfl rfl rfl (e_istore_istore 22 0 4 (e_aload_aload_n 24 0 0 0 rfl (e_gf 25 86016 10 0 0 rfl rfl (e_gf 28 86080 133 1 0 rfl rfl (e_iload_iload_n 31 0 2 2 rfl (e_iaload 32 0 (e_aload_aload_n 33 0 0 0 rfl (e_gf 34 86016 10 0 0 rfl rfl (e_gf 37 86081 136 1 1 rfl rfl (e_iload_iload_n 40 0 2 2 rfl (e_iaload 41 0 (e_iload_iload_n 42 0 3 3 rfl (e_invS 43 1531875 169 3 170 rfl rfl rfl (e_istore_istore 46 0 5 (e_aload_aload_n 48 0 0 0 rfl (e_gf 49 86016 10 0 0 rfl rfl (e_gf 52 86082 139 1 2 rfl rfl (e_iload_iload_n 55 0 2 2 rfl (e_iaload 56 0 (e_iload_iload_n 57 0 3 3 rfl (e_isub 58 0 (e_psh_iconst 59 3 3 (e_iand 60 0 (e_istore_istore 61 0 6 (e_iload_iload_n 63 0 1 1 rfl (e_psh_bipush 64 8 8 (e_imul 66 0 (e_istore_istore 67 0 7 (e_psh_iconst 69 0 0 (e_iload_iload 70 0 7 (e_invS 72 2605026 467 2 301 rfl rfl rfl (e_istore_istore 75 0 8 (kE168_77))))))))))))))))))))))))))))))))))))))))))))
def kt_168 : Nat → Option ex_C := fun pc => @Bool.rec (fun _ => Nat → Option ex_C) (fun pc => @Bool.rec (fun _ => Nat → Option ex_C) (fun pc => @Bool.rec (fun _ => Option ex_C) none (some k168_137) (Nat.beq pc 137)) (fun pc => @Bool.rec (fun _ => Option ex_C) none (some k168_131) (Nat.beq pc 131)) (Nat.ble pc 131) pc) (fun pc => @Bool.rec (fun _ => Nat → Option ex_C) (fun pc => @Bool.rec (fun _ => Option ex_C) none (some k168_77) (Nat.beq pc 77)) (fun pc => @Bool.rec (fun _ => Option ex_C) none (some k168_0) (Nat.beq pc 0)) (Nat.ble pc 0) pc) (Nat.ble pc 77) pc
theorem ktE_168 : ex_CTT 1 [] cd_168 kt_168 cd_168 := (ex_ct2 (ex_ct2 (ex_ct1 kE168_0) (ex_ct1 kE168_77)) (ex_ct2 (ex_ct1 kE168_131) (ex_ct1 kE168_137)))
set_option maxHeartbeats 100000 in
def k169_30 : ex_C := c_ireturn  0
set_option maxHeartbeats 100000 in
theorem kE169_30 : ex_CE 0 [] cd_169 k169_30 q169_30 := e_ireturn 30 0 
set_option maxHeartbeats 100000 in
def k169_29 : ex_C := c_iload 0 (k169_30)
set_option maxHeartbeats 100000 in
theorem kE169_29 : ex_CE 0 [] cd_169 k169_29 q169_29 := e_iload_iload_n 29 0 0 0 rfl (kE169_30)
set_option maxHeartbeats 100000 in
def k169_20 : ex_C := c_iload 2 (c_psh 3 (c_icmp_ne 29 (c_iload 1 (c_goto 30))))
set_option maxHeartbeats 100000 in
theorem kE169_20 : ex_CE 0 [] cd_169 k169_20 q169_20 := e_iload_iload_n 20 0 2 2 rfl (e_psh_iconst 21 3 3 (e_icmp_ne 22 29 7 (e_iload_iload_n 25 0 1 1 rfl (e_goto 26 30 4))))
set_option maxHeartbeats 100000 in
def k169_10 : ex_C := c_iload 2 (c_psh 2 (c_icmp_ne 20 (c_iload 0 (c_ineg   (c_goto 30)))))
set_option maxHeartbeats 100000 in
theorem kE169_10 : ex_CE 0 [] cd_169 k169_10 q169_10 := e_iload_iload_n 10 0 2 2 rfl (e_psh_iconst 11 2 2 (e_icmp_ne 12 20 8 (e_iload_iload_n 15 0 0 0 rfl (e_ineg 16 0  (e_goto 17 30 13)))))
set_option maxHeartbeats 100000 in
def k169_0 : ex_C := c_iload 2 (c_psh 1 (c_icmp_ne 10 (c_iload 1 (c_ineg   (c_goto 30)))))
set_option maxHeartbeats 100000 in
theorem kE169_0 : ex_CE 0 [] cd_169 k169_0 q169_0 := e_iload_iload_n 0 0 2 2 rfl (e_psh_iconst 1 1 1 (e_icmp_ne 2 10 8 (e_iload_iload_n 5 0 1 1 rfl (e_ineg 6 0  (e_goto 7 30 23)))))
def kt_169 : Nat → Option ex_C := fun pc => @Bool.rec (fun _ => Nat → Option ex_C) (fun pc => @Bool.rec (fun _ => Nat → Option ex_C) (fun pc => @Bool.rec (fun _ => Nat → Option ex_C) (fun pc => @Bool.rec (fun _ => Option ex_C) none (some k169_30) (Nat.beq pc 30)) (fun pc => @Bool.rec (fun _ => Option ex_C) none (some k169_29) (Nat.beq pc 29)) (Nat.ble pc 29) pc) (fun pc => @Bool.rec (fun _ => Option ex_C) none (some k169_20) (Nat.beq pc 20)) (Nat.ble pc 20) pc) (fun pc => @Bool.rec (fun _ => Nat → Option ex_C) (fun pc => @Bool.rec (fun _ => Option ex_C) none (some k169_10) (Nat.beq pc 10)) (fun pc => @Bool.rec (fun _ => Option ex_C) none (some k169_0) (Nat.beq pc 0)) (Nat.ble pc 0) pc) (Nat.ble pc 10) pc
theorem ktE_169 : ex_CTT 0 [] cd_169 kt_169 cd_169 := (ex_ct2 (ex_ct2 (ex_ct1 kE169_0) (ex_ct1 kE169_10)) (ex_ct2 (ex_ct1 kE169_20) (ex_ct2 (ex_ct1 kE169_29) (ex_ct1 kE169_30))))
set_option maxHeartbeats 100000 in
def k170_30 : ex_C := c_ireturn  0
set_option maxHeartbeats 100000 in
theorem kE170_30 : ex_CE 0 [] cd_170 k170_30 q170_30 := e_ireturn 30 0 
set_option maxHeartbeats 100000 in
def k170_29 : ex_C := c_iload 1 (k170_30)
set_option maxHeartbeats 100000 in
theorem kE170_29 : ex_CE 0 [] cd_170 k170_29 q170_29 := e_iload_iload_n 29 0 1 1 rfl (kE170_30)
set_option maxHeartbeats 100000 in
def k170_19 : ex_C := c_iload 2 (c_psh 3 (c_icmp_ne 29 (c_iload 0 (c_ineg   (c_goto 30)))))
set_option maxHeartbeats 100000 in
theorem kE170_19 : ex_CE 0 [] cd_170 k170_19 q170_19 := e_iload_iload_n 19 0 2 2 rfl (e_psh_iconst 20 3 3 (e_icmp_ne 21 29 8 (e_iload_iload_n 24 0 0 0 rfl (e_ineg 25 0  (e_goto 26 30 4)))))
set_option maxHeartbeats 100000 in
def k170_9 : ex_C := c_iload 2 (c_psh 2 (c_icmp_ne 19 (c_iload 1 (c_ineg   (c_goto 30)))))
set_option maxHeartbeats 100000 in
theorem kE170_9 : ex_CE 0 [] cd_170 k170_9 q170_9 := e_iload_iload_n 9 0 2 2 rfl (e_psh_iconst 10 2 2 (e_icmp_ne 11 19 8 (e_iload_iload_n 14 0 1 1 rfl (e_ineg 15 0  (e_goto 16 30 14)))))
set_option maxHeartbeats 100000 in
def k170_0 : ex_C := c_iload 2 (c_psh 1 (c_icmp_ne 9 (c_iload 0 (c_goto 30))))
set_option maxHeartbeats 100000 in
theorem kE170_0 : ex_CE 0 [] cd_170 k170_0 q170_0 := e_iload_iload_n 0 0 2 2 rfl (e_psh_iconst 1 1 1 (e_icmp_ne 2 9 7 (e_iload_iload_n 5 0 0 0 rfl (e_goto 6 30 24))))
def kt_170 : Nat → Option ex_C := fun pc => @Bool.rec (fun _ => Nat → Option ex_C) (fun pc => @Bool.rec (fun _ => Nat → Option ex_C) (fun pc => @Bool.rec (fun _ => Nat → Option ex_C) (fun pc => @Bool.rec (fun _ => Option ex_C) none (some k170_30) (Nat.beq pc 30)) (fun pc => @Bool.rec (fun _ => Option ex_C) none (some k170_29) (Nat.beq pc 29)) (Nat.ble pc 29) pc) (fun pc => @Bool.rec (fun _ => Option ex_C) none (some k170_19) (Nat.beq pc 19)) (Nat.ble pc 19) pc) (fun pc => @Bool.rec (fun _ => Nat → Option ex_C) (fun pc => @Bool.rec (fun _ => Option ex_C) none (some k170_9) (Nat.beq pc 9)) (fun pc => @Bool.rec (fun _ => Option ex_C) none (some k170_0) (Nat.beq pc 0)) (Nat.ble pc 0) pc) (Nat.ble pc 9) pc
theorem ktE_170 : ex_CTT 0 [] cd_170 kt_170 cd_170 := (ex_ct2 (ex_ct2 (ex_ct1 kE170_0) (ex_ct1 kE170_9)) (ex_ct2 (ex_ct1 kE170_19) (ex_ct2 (ex_ct1 kE170_29) (ex_ct1 kE170_30))))
set_option maxHeartbeats 100000 in
def k171_0 : ex_C := c_aload 0 (c_oinit (c_aload 0 (c_newo 5192296858534827628530496329220880 3 (c_dup   (c_invP [] cd_171 9 1 330 (c_pf 13 5 2 (c_aload 0 (c_iload 1 (c_pf 13 2 0 (c_aload 0 (c_iload 2 (c_pf 13 2 1 (c_return_  15)))))))))))))
set_option maxHeartbeats 100000 in
theorem kE171_0 : ex_CE 15 [] cd_171 k171_0 q171_0 := e_aload_aload_n 0 0 0 0 rfl (e_oinit (e_aload_aload_n 4 0 0 0 rfl (e_newo 5 16 9 5192296858534827628530496329220880 3 rfl rfl rfl (e_dup 8 0  (e_invP 9 2842561 11 1 330 rfl rfl rfl rfl (e_pf 12 86850 12 13 5 2 rfl rfl rfl (e_aload_aload_n 15 0 0 0 rfl (e_iload_iload_n 16 0 1 1 rfl (e_pf 17 74560 18 13 2 0 rfl rfl rfl (e_aload_aload_n 20 0 0 0 rfl (e_iload_iload_n 21 0 2 2 rfl (e_pf 22 74561 22 13 2 1 rfl rfl rfl (e_return_ 25 0 )))))))))))))
def kt_171 : Nat → Option ex_C := fun pc => @Bool.rec (fun _ => Option ex_C) none (some k171_0) (Nat.beq pc 0)
theorem ktE_171 : ex_CTT 15 [] cd_171 kt_171 cd_171 := (ex_ct1 kE171_0)
set_option maxHeartbeats 100000 in
def k172_49 : ex_C := c_iload 1 (c_ireturn  0)
set_option maxHeartbeats 100000 in
theorem kE172_49 : ex_CE 0 [] cd_172 k172_49 q172_49 := e_iload_iload_n 49 0 1 1 rfl (e_ireturn 50 0 )
set_option maxHeartbeats 100000 in
def k172_12 : ex_C := c_aload 2 (c_invV [] cd_172 13 1 327 17 (c_if_eq 49 (c_aload 2 (c_invV [] cd_172 22 1 328 17 (c_checkcast 41 66 (c_astore 3 (c_iload 1 (c_psh 17179869198 (c_psh 17179869217 (c_aload 3 (c_psh 0 (c_caload   (c_invV [] cd_172 40 2 305 18 (c_iaload (c_iadd (c_istore 1 (c_goto 12)))))))))))))))))
set_option maxHeartbeats 100000 in
theorem kE172_12 : ex_CE 0 [] cd_172 k172_12 q172_12 := e_aload_aload_n 12 0 2 2 rfl (e_invV_invokeinterface 13 2810401 31 1 1 327 17 rfl rfl rfl rfl rfl rfl (e_if_eq 18 49 31 (e_aload_aload_n 21 0 2 2 rfl (e_invV_invokeinterface 22 2818593 37 1 1 328 17 rfl rfl rfl rfl rfl rfl (e_checkcast 27 66 41 (e_astore_astore_n 30 0 3 3 rfl (e_iload_iload_n 31 0 1 1 rfl (e_psh_getstatic 32 17179869198 43 (e_psh_ldc 35 17179869217 47 (e_aload_aload_n 37 0 3 3 rfl (e_psh_iconst 38 0 0 (e_caload 39 0  (e_invV_invokevirtual 40 2630210 49 2 305 18 rfl rfl rfl rfl rfl rfl (e_iaload 43 0 (e_iadd 44 0 (e_istore_istore_n 45 0 1 1 rfl (e_goto 46 12 (-34))))))))))))))))))
set_option maxHeartbeats 100000 in
def k172_0 : ex_C := c_psh 0 (c_istore 1 (c_aload 0 (c_gf 13 2 (c_invV [] cd_172 6 1 344 16 (c_astore 2 (k172_12))))))
set_option maxHeartbeats 100000 in
theorem kE172_0 : ex_CE 0 [] cd_172 k172_0 q172_0 := e_psh_iconst 0 0 0 (e_istore_istore_n 1 0 1 1 rfl (e_aload_aload_n 2 0 0 0 rfl (e_gf 3 86850 12 13 2 rfl rfl (e_invV_invokeinterface 6 2949633 25 1 1 344 16 rfl rfl rfl rfl rfl rfl (e_astore_astore_n 11 0 2 2 rfl (kE172_12))))))
def kt_172 : Nat → Option ex_C := fun pc => @Bool.rec (fun _ => Nat → Option ex_C) (fun pc => @Bool.rec (fun _ => Nat → Option ex_C) (fun pc => @Bool.rec (fun _ => Option ex_C) none (some k172_49) (Nat.beq pc 49)) (fun pc => @Bool.rec (fun _ => Option ex_C) none (some k172_12) (Nat.beq pc 12)) (Nat.ble pc 12) pc) (fun pc => @Bool.rec (fun _ => Option ex_C) none (some k172_0) (Nat.beq pc 0)) (Nat.ble pc 0) pc
theorem ktE_172 : ex_CTT 0 [] cd_172 kt_172 cd_172 := (ex_ct2 (ex_ct1 kE172_0) (ex_ct2 (ex_ct1 kE172_12) (ex_ct1 kE172_49)))
set_option maxHeartbeats 100000 in
def k173_51 : ex_C := c_iload 1 (c_ireturn  0)
set_option maxHeartbeats 100000 in
theorem kE173_51 : ex_CE 0 [] cd_173 k173_51 q173_51 := e_iload_iload_n 51 0 1 1 rfl (e_ireturn 52 0 )
set_option maxHeartbeats 100000 in
def k173_12 : ex_C := c_aload 2 (c_invV [] cd_173 13 1 327 17 (c_if_eq 51 (c_aload 2 (c_invV [] cd_173 22 1 328 17 (c_checkcast 41 66 (c_astore 3 (c_iload 1 (c_psh 17179869197 (c_psh 17179869217 (c_aload 3 (c_psh 0 (c_caload   (c_invV [] cd_173 40 2 305 18 (c_iaload (c_invS [] cd_173 44 2 301 (c_istore 1 (c_goto 12)))))))))))))))))
set_option maxHeartbeats 100000 in
theorem kE173_12 : ex_CE 0 [] cd_173 k173_12 q173_12 := e_aload_aload_n 12 0 2 2 rfl (e_invV_invokeinterface 13 2810401 31 1 1 327 17 rfl rfl rfl rfl rfl rfl (e_if_eq 18 51 33 (e_aload_aload_n 21 0 2 2 rfl (e_invV_invokeinterface 22 2818593 37 1 1 328 17 rfl rfl rfl rfl rfl rfl (e_checkcast 27 66 41 (e_astore_astore_n 30 0 3 3 rfl (e_iload_iload_n 31 0 1 1 rfl (e_psh_getstatic 32 17179869197 55 (e_psh_ldc 35 17179869217 47 (e_aload_aload_n 37 0 3 3 rfl (e_psh_iconst 38 0 0 (e_caload 39 0  (e_invV_invokevirtual 40 2630210 49 2 305 18 rfl rfl rfl rfl rfl rfl (e_iaload 43 0 (e_invS 44 2605026 58 2 301 rfl rfl rfl (e_istore_istore_n 47 0 1 1 rfl (e_goto 48 12 (-36))))))))))))))))))
set_option maxHeartbeats 100000 in
def k173_0 : ex_C := c_psh 0 (c_istore 1 (c_aload 0 (c_gf 13 2 (c_invV [] cd_173 6 1 344 16 (c_astore 2 (k173_12))))))
set_option maxHeartbeats 100000 in
theorem kE173_0 : ex_CE 0 [] cd_173 k173_0 q173_0 := e_psh_iconst 0 0 0 (e_istore_istore_n 1 0 1 1 rfl (e_aload_aload_n 2 0 0 0 rfl (e_gf 3 86850 12 13 2 rfl rfl (e_invV_invokeinterface 6 2949633 25 1 1 344 16 rfl rfl rfl rfl rfl rfl (e_astore_astore_n 11 0 2 2 rfl (kE173_12))))))
def kt_173 : Nat → Option ex_C := fun pc => @Bool.rec (fun _ => Nat → Option ex_C) (fun pc => @Bool.rec (fun _ => Nat → Option ex_C) (fun pc => @Bool.rec (fun _ => Option ex_C) none (some k173_51) (Nat.beq pc 51)) (fun pc => @Bool.rec (fun _ => Option ex_C) none (some k173_12) (Nat.beq pc 12)) (Nat.ble pc 12) pc) (fun pc => @Bool.rec (fun _ => Option ex_C) none (some k173_0) (Nat.beq pc 0)) (Nat.ble pc 0) pc
theorem ktE_173 : ex_CTT 0 [] cd_173 kt_173 cd_173 := (ex_ct2 (ex_ct1 kE173_0) (ex_ct2 (ex_ct1 kE173_12) (ex_ct1 kE173_51)))
set_option maxHeartbeats 100000 in
def k174_102 : ex_C := c_return_  15
set_option maxHeartbeats 100000 in
theorem kE174_102 : ex_CE 15 [] cd_174 k174_102 q174_102 := e_return_ 102 0 
set_option maxHeartbeats 100000 in
def k174_0 : ex_C := c_aload 0 (c_oinit (c_aload 0 (c_psh 2 (c_pf 14 0 11 (c_aload 0 (c_psh 45 (c_pf 14 2 12 (c_aload 0 (c_aload 1 (c_pf 14 5 0 (c_aload 0 (c_iload 2 (c_pf 14 0 1 (c_aload 0 (c_iload 2 (c_newarr 64 0 (c_pf 14 5 2 (c_aload 0 (c_iload 2 (c_newarr 64 0 (c_pf 14 5 3 (c_aload 0 (c_iload 2 (c_newarr 64 0 (c_pf 14 5 4 (c_aload 0 (c_iload 2 (c_newarr 64 0 (c_pf 14 5 5 (c_aload 0 (c_iload 2 (c_newarr 64 0 (c_pf 14 5 6 (c_aload 0 (c_iload 2 (c_newarr 64 0 (c_pf 14 5 7 (c_aload 0 (c_iload 2 (c_newarr 65 0 (c_pf 14 5 8 (c_aload 1 (c_ifnull 27 102 (c_aload 0 (c_aload 1 (c_gf 14 9 (c_pf 14 1 9 (c_aload 0 (c_aload 1 (c_gf 14 10 (c_pf 14 1 10 (c_aload 0 (c_aload 1 (c_gf 14 11 (c_pf 14 0 11 (k174_102))))))))))))))))))))))))))))))))))))))))))))))))))))))))
set_option maxHeartbeats 100000 in
theorem kE174_0 : ex_CE 15 [] cd_174 k174_0 q174_0 := e_aload_aload_n 0 0 0 0 rfl (e_oinit (e_aload_aload_n 4 0 0 0 rfl (e_psh_iconst 5 2 2 (e_pf 6 907 9 14 0 11 rfl rfl rfl (e_aload_aload_n 9 0 0 0 rfl (e_psh_bipush 10 45 45 (e_pf 12 9100 15 14 2 12 rfl rfl rfl (e_aload_aload_n 15 0 0 0 rfl (e_aload_aload_n 16 0 1 1 rfl (e_pf 17 86912 19 14 5 0 rfl rfl rfl (e_aload_aload_n 20 0 0 0 rfl (e_iload_iload_n 21 0 2 2 rfl (e_pf 22 66433 23 14 0 1 rfl rfl rfl (e_aload_aload_n 25 0 0 0 rfl (e_iload_iload_n 26 0 2 2 rfl (e_newarr 27 64 0 rfl (e_pf 29 86914 26 14 5 2 rfl rfl rfl (e_aload_aload_n 32 0 0 0 rfl (e_iload_iload_n 33 0 2 2 rfl (e_newarr 34 64 0 rfl (e_pf 36 86915 30 14 5 3 rfl rfl rfl (e_aload_aload_n 39 0 0 0 rfl (e_iload_iload_n 40 0 2 2 rfl (e_newarr 41 64 0 rfl (e_pf 43 86916 33 14 5 4 rfl rfl rfl (e_aload_aload_n 46 0 0 0 rfl (e_iload_iload_n 47 0 2 2 rfl (e_newarr 48 64 0 rfl (e_pf 50 86917 36 14 5 5 rfl rfl rfl (e_aload_aload_n 53 0 0 0 rfl (e_iload_iload_n 54 0 2 2 rfl (e_newarr 55 64 0 rfl (e_pf 57 86918 39 14 5 6 rfl rfl rfl (e_aload_aload_n 60 0 0 0 rfl (e_iload_iload_n 61 0 2 2 rfl (e_newarr 62 64 0 rfl (e_pf 64 86919 42 14 5 7 rfl rfl rfl (e_aload_aload_n 67 0 0 0 rfl (e_iload_iload_n 68 0 2 2 rfl (e_newarr 69 65 0 rfl (e_pf 71 86920 45 14 5 8 rfl rfl rfl (e_aload_aload_n 74 0 1 1 rfl (e_ifnull 75 102 27 (e_aload_aload_n 78 0 0 0 rfl (e_aload_aload_n 79 0 1 1 rfl (e_gf 80 5001 49 14 9 rfl rfl (e_pf 83 5001 49 14 1 9 rfl rfl rfl (e_aload_aload_n 86 0 0 0 rfl (e_aload_aload_n 87 0 1 1 rfl (e_gf 88 5002 53 14 10 rfl rfl (e_pf 91 5002 53 14 1 10 rfl rfl rfl (e_aload_aload_n 94 0 0 0 rfl (e_aload_aload_n 95 0 1 1 rfl (e_gf 96 907 9 14 11 rfl rfl (e_pf 99 907 9 14 0 11 rfl rfl rfl (kE174_102))))))))))))))))))))))))))))))))))))))))))))))))))))))))
def kt_174 : Nat → Option ex_C := fun pc => @Bool.rec (fun _ => Nat → Option ex_C) (fun pc => @Bool.rec (fun _ => Option ex_C) none (some k174_102) (Nat.beq pc 102)) (fun pc => @Bool.rec (fun _ => Option ex_C) none (some k174_0) (Nat.beq pc 0)) (Nat.ble pc 0) pc
theorem ktE_174 : ex_CTT 15 [] cd_174 kt_174 cd_174 := (ex_ct2 (ex_ct1 kE174_0) (ex_ct1 kE174_102))
set_option maxHeartbeats 100000 in
def k175_38 : ex_C := c_psh 4294967295 (c_ireturn  0)
set_option maxHeartbeats 100000 in
theorem kE175_38 : ex_CE 0 [] cd_175 k175_38 q175_38 := e_psh_iconst 38 4294967295 (-1) (e_ireturn 39 0 )
set_option maxHeartbeats 100000 in
def k175_32 : ex_C := c_iinc 3 1 (c_goto 2)
set_option maxHeartbeats 100000 in
theorem kE175_32 : ex_CE 0 [] cd_175 k175_32 q175_32 := e_iinc 32 1 3 1 (e_goto 35 2 (-33))
set_option maxHeartbeats 100000 in
def k175_2 : ex_C := c_iload 3 (c_aload 0 (c_gf 14 1 (c_icmp_ge 38 (c_aload 0 (c_gf 14 2 (c_iload 3 (c_iaload (c_iload 1 (c_icmp_ne 32 (c_aload 0 (c_gf 14 3 (c_iload 3 (c_iaload (c_iload 2 (c_icmp_ne 32 (c_iload 3 (c_ireturn  0)))))))))))))))))
set_option maxHeartbeats 100000 in
theorem kE175_2 : ex_CE 0 [] cd_175 k175_2 q175_2 := e_iload_iload_n 2 0 3 3 rfl (e_aload_aload_n 3 0 0 0 rfl (e_gf 4 66433 23 14 1 rfl rfl (e_icmp_ge 7 38 31 (e_aload_aload_n 10 0 0 0 rfl (e_gf 11 86914 26 14 2 rfl rfl (e_iload_iload_n 14 0 3 3 rfl (e_iaload 15 0 (e_iload_iload_n 16 0 1 1 rfl (e_icmp_ne 17 32 15 (e_aload_aload_n 20 0 0 0 rfl (e_gf 21 86915 30 14 3 rfl rfl (e_iload_iload_n 24 0 3 3 rfl (e_iaload 25 0 (e_iload_iload_n 26 0 2 2 rfl (e_icmp_ne 27 32 5 (e_iload_iload_n 30 0 3 3 rfl (e_ireturn 31 0 )))))))))))))))))
set_option maxHeartbeats 100000 in
def k175_0 : ex_C := c_psh 0 (c_istore 3 (k175_2))
set_option maxHeartbeats 100000 in
theorem kE175_0 : ex_CE 0 [] cd_175 k175_0 q175_0 := e_psh_iconst 0 0 0 (e_istore_istore_n 1 0 3 3 rfl (kE175_2))
def kt_175 : Nat → Option ex_C := fun pc => @Bool.rec (fun _ => Nat → Option ex_C) (fun pc => @Bool.rec (fun _ => Nat → Option ex_C) (fun pc => @Bool.rec (fun _ => Option ex_C) none (some k175_38) (Nat.beq pc 38)) (fun pc => @Bool.rec (fun _ => Option ex_C) none (some k175_32) (Nat.beq pc 32)) (Nat.ble pc 32) pc) (fun pc => @Bool.rec (fun _ => Nat → Option ex_C) (fun pc => @Bool.rec (fun _ => Option ex_C) none (some k175_2) (Nat.beq pc 2)) (fun pc => @Bool.rec (fun _ => Option ex_C) none (some k175_0) (Nat.beq pc 0)) (Nat.ble pc 0) pc) (Nat.ble pc 2) pc
theorem ktE_175 : ex_CTT 0 [] cd_175 kt_175 cd_175 := (ex_ct2 (ex_ct2 (ex_ct1 kE175_0) (ex_ct1 kE175_2)) (ex_ct2 (ex_ct1 kE175_32) (ex_ct1 kE175_38)))
set_option maxHeartbeats 100000 in
def k176_0 : ex_C := c_aload 0 (c_oinit (c_aload 0 (c_newo 5192296858534827628530496329220880 3 (c_dup   (c_invP [] cd_176 9 1 330 (c_pf 15 5 1 (c_aload 0 (c_psh 0 (c_pf 15 0 2 (c_aload 0 (c_iload 1 (c_pf 15 0 0 (c_return_  15)))))))))))))
set_option maxHeartbeats 100000 in
theorem kE176_0 : ex_CE 15 [] cd_176 k176_0 q176_0 := e_aload_aload_n 0 0 0 0 rfl (e_oinit (e_aload_aload_n 4 0 0 0 rfl (e_newo 5 16 7 5192296858534827628530496329220880 3 rfl rfl rfl (e_dup 8 0  (e_invP 9 2842561 9 1 330 rfl rfl rfl rfl (e_pf 12 86977 10 15 5 1 rfl rfl rfl (e_aload_aload_n 15 0 0 0 rfl (e_psh_iconst 16 0 0 (e_pf 17 962 16 15 0 2 rfl rfl rfl (e_aload_aload_n 20 0 0 0 rfl (e_iload_iload_n 21 0 1 1 rfl (e_pf 22 66496 20 15 0 0 rfl rfl rfl (e_return_ 25 0 )))))))))))))
def kt_176 : Nat → Option ex_C := fun pc => @Bool.rec (fun _ => Option ex_C) none (some k176_0) (Nat.beq pc 0)
theorem ktE_176 : ex_CTT 15 [] cd_176 kt_176 cd_176 := (ex_ct1 kE176_0)
set_option maxHeartbeats 100000 in
def k177_251 : ex_C := c_aload 0 (c_aload 0 (c_invV [] cd_177 253 1 183 12 (c_invV [] cd_177 256 2 184 12 (c_return_  15))))
set_option maxHeartbeats 100000 in
theorem kE177_251 : ex_CE 15 [] cd_177 k177_251 q177_251 := e_aload_aload_n 251 0 0 0 rfl (e_aload_aload_n 252 0 0 0 rfl (e_invV_invokevirtual 253 1630593 89 1 183 12 rfl rfl rfl rfl rfl rfl (e_invV_invokevirtual 256 1638786 93 2 184 12 rfl rfl rfl rfl rfl rfl (e_return_ 259 0 ))))
set_option maxHeartbeats 100000 in
def k177_222 : ex_C := c_iload 1 (c_psh 8 (c_icmp_ge 251 (c_aload 0 (c_gf 12 9 (c_newo 5192296858534827628530496329220880 3 (c_dup   (c_invP [] cd_177 236 1 330 (c_invV [] cd_177 239 2 339 16 (c_pop   (c_iinc 1 1 (c_goto 222)))))))))))
set_option maxHeartbeats 100000 in
theorem kE177_222 : ex_CE 15 [] cd_177 k177_222 q177_222 := e_iload_iload_n 222 0 1 1 rfl (e_psh_bipush 223 8 8 (e_icmp_ge 225 251 26 (e_aload_aload_n 228 0 0 0 rfl (e_gf 229 86793 41 12 9 rfl rfl (e_newo 232 16 22 5192296858534827628530496329220880 3 rfl rfl rfl (e_dup 235 0  (e_invP 236 2842561 24 1 330 rfl rfl rfl rfl (e_invV_invokeinterface 239 2908674 83 2 2 339 16 rfl rfl rfl rfl rfl rfl (e_pop 244 0  (e_iinc 245 1 1 1 (e_goto 248 222 (-26))))))))))))
set_option maxHeartbeats 100000 in
def k177_0 : ex_C := c_aload 0 (c_oinit (c_aload 0 (c_psh 8 (c_newarr 64 0 (c_pf 12 5 0 (c_aload 0 (c_psh 8 (c_newarr 64 0 (c_pf 12 5 1 (c_aload 0 (c_psh 8 (c_newarr 64 0 (c_pf 12 5 2 (c_aload 0 (c_psh 8 (c_newarr 64 0 (c_dup   (c_psh 0 (c_psh 3 (c_iastore (c_dup   (c_psh 1 (c_psh 3 (c_iastore (c_dup   (c_psh 2 (c_psh 3 (c_iastore (c_dup   (c_psh 3 (c_psh 3 (c_iastore (c_dup   (c_psh 4 (c_psh 3 (c_iastore (c_dup   (c_psh 5 (c_psh 3 (c_iastore (c_dup   (c_psh 6 (c_psh 3 (c_iastore (c_dup   (c_psh 7 (c_psh 3 (c_iastore (c_pf 12 5 3 (c_aload 0 (c_newo 5192296858534827628530496329220880 3 (c_dup   (c_invP [] cd_177 75 1 330 (c_pf 12 5 4 (c_aload 0 (c_newo 5192296858534827628530496329220880 3 (c_dup   (c_invP [] cd_177 86 1 330 (c_pf 12 5 5 (c_aload 0 (c_newo 5192296858534827628530496329220880 3 (c_dup   (c_invP [] cd_177 97 1 330 (c_pf 12 5 6 (c_aload 0 (c_newo 5192296858534827628530496329220880 3 (c_dup   (c_invP [] cd_177 108 1 330 (c_pf 12 5 7 (c_aload 0 (c_newo 5192296858534827628530496329220880 3 (c_dup   (c_invP [] cd_177 119 1 330 (c_pf 12 5 8 (c_aload 0 (c_newo 5192296858534827628530496329220880 3 (c_dup   (c_invP [] cd_177 130 1 330 (c_pf 12 5 9 (c_aload 0 (c_psh 8 (c_newarr 64 0 (c_pf 12 5 10 (c_aload 0 (c_psh 8 (c_newarr 64 0 (c_pf 12 5 11 (c_aload 0 (c_psh 8 (c_newarr 64 0 (c_pf 12 5 12 (c_aload 0 (c_psh 3 (c_pf 12 0 14 (c_aload 0 (c_psh 2000 (c_pf 12 0 15 (c_aload 0 (c_psh 4294967295 (c_pf 12 0 21 (c_aload 0 (c_psh 45 (c_pf 12 2 26 (c_aload 0 (c_aconst_null   (c_pf 12 5 27 (c_aload 0 (c_psh 8 (c_newarr 64 0 (c_pf 12 5 33 (c_aload 0 (c_psh 8 (c_newarr 64 0 (c_pf 12 5 34 (c_aload 0 (c_psh 8 (c_newarr 64 0 (c_pf 12 5 35 (c_aload 0 (c_psh 8 (c_newarr 64 0 (c_pf 12 5 36 (c_psh 0 (c_istore 1 (k177_222)))))))))))))))))))))))))))))))))))))))))))))))))))))))))))))))))))))))))))))))))))))))))))))))))))))))))))))))))))))))))))))
set_option maxHeartbeats 100000 in
theorem kE177_0 : ex_CE 15 [] cd_177 k177_0 q177_0 := e_aload_aload_n 0 0 0 0 rfl (e_oinit (e_aload_aload_n 4 0 0 0 rfl (e_psh_bipush 5 8 8 (e_newarr 7 64 0 rfl (e_pf 9 86784 7 12 5 0 rfl rfl rfl (e_aload_aload_n 12 0 0 0 rfl (e_psh_bipush 13 8 8 (e_newarr 15 64 0 rfl (e_pf 17 86785 13 12 5 1 rfl rfl rfl (e_aload_aload_n 20 0 0 0 rfl (e_psh_bipush 21 8 8 (e_newarr 23 64 0 rfl (e_pf 25 86786 16 12 5 2 rfl rfl rfl (e_aload_aload_n 28 0 0 0 rfl (e_psh_bipush 29 8 8 (e_newarr 31 64 0 rfl (e_dup 33 0  (e_psh_iconst 34 0 0 (e_psh_iconst 35 3 3 (e_iastore 36 0 (e_dup 37 0  (e_psh_iconst 38 1 1 (e_psh_iconst 39 3 3 (e_iastore 40 0 (e_dup 41 0  (e_psh_iconst 42 2 2 (e_psh_iconst 43 3 3 (e_iastore 44 0 (e_dup 45 0  (e_psh_iconst 46 3 3 (e_psh_iconst 47 3 3 (e_iastore 48 0 (e_dup 49 0  (e_psh_iconst 50 4 4 (e_psh_iconst 51 3 3 (e_iastore 52 0 (e_dup 53 0  (e_psh_iconst 54 5 5 (e_psh_iconst 55 3 3 (e_iastore 56 0 (e_dup 57 0  (e_psh_bipush 58 6 6 (e_psh_iconst 60 3 3 (e_iastore 61 0 (e_dup 62 0  (e_psh_bipush 63 7 7 (e_psh_iconst 65 3 3 (e_iastore 66 0 (e_pf 67 86787 19 12 5 3 rfl rfl rfl (e_aload_aload_n 70 0 0 0 rfl (e_newo 71 16 22 5192296858534827628530496329220880 3 rfl rfl rfl (e_dup 74 0  (e_invP 75 2842561 24 1 330 rfl rfl rfl rfl (e_pf 78 86788 25 12 5 4 rfl rfl rfl (e_aload_aload_n 81 0 0 0 rfl (e_newo 82 16 22 5192296858534827628530496329220880 3 rfl rfl rfl (e_dup 85 0  (e_invP 86 2842561 24 1 330 rfl rfl rfl rfl (e_pf 89 86789 29 12 5 5 rfl rfl rfl (e_aload_aload_n 92 0 0 0 rfl (e_newo 93 16 22 5192296858534827628530496329220880 3 rfl rfl rfl (e_dup 96 0  (e_invP 97 2842561 24 1 330 rfl rfl rfl rfl (e_pf 100 86790 32 12 5 6 rfl rfl rfl (e_aload_aload_n 103 0 0 0 rfl (e_newo 104 16 22 5192296858534827628530496329220880 3 rfl rfl rfl (e_dup 107 0  (e_invP 108 2842561 24 1 330 rfl rfl rfl rfl (e_pf 111 86791 35 12 5 7 rfl rfl rfl (e_aload_aload_n 114 0 0 0 rfl (e_newo 115 16 22 5192296858534827628530496329220880 3 rfl rfl rfl (e_dup 118 0  (e_invP 119 2842561 24 1 330 rfl rfl rfl rfl (e_pf 122 86792 38 12 5 8 rfl rfl rfl (e_aload_aload_n 125 0 0 0 rfl (e_newo 126 16 22 5192296858534827628530496329220880 3 rfl rfl rfl (e_dup 129 0  (e_invP 130 2842561 24 1 330 rfl rfl rfl rfl (e_pf 133 86793 41 12 5 9 rfl rfl rfl (e_aload_aload_n 136 0 0 0 rfl (e_psh_bipush 137 8 8 (e_newarr 139 64 0 rfl (e_pf 141 86794 44 12 5 10 rfl rfl rfl (e_aload_aload_n 144 0 0 0 rfl (e_psh_bipush 145 8 8 (e_newarr 147 64 0 rfl (e_pf 149 86795 47 12 5 11 rfl rfl rfl (e_aload_aload_n 152 0 0 0 rfl (e_psh_bipush 153 8 8 (e_newarr 155 64 0 rfl (e_pf 157 86796 50 12 5 12 rfl rfl rfl (e_aload_aload_n 160 0 0 0 rfl (e_psh_iconst 161 3 3 (e_pf 162 782 53 12 0 14 rfl rfl rfl (e_aload_aload_n 165 0 0 0 rfl (e_psh_sipush 166 2000 2000 (e_pf 169 783 57 12 0 15 rfl rfl rfl (e_aload_aload_n 172 0 0 0 rfl (e_psh_iconst 173 4294967295 (-1) (e_pf 174 789 60 12 0 21 rfl rfl rfl (e_aload_aload_n 177 0 0 0 rfl (e_psh_bipush 178 45 45 (e_pf 180 8986 63 12 2 26 rfl rfl rfl (e_aload_aload_n 183 0 0 0 rfl (e_aconst_null 184 0  (e_pf 185 21275 67 12 5 27 rfl rfl rfl (e_aload_aload_n 188 0 0 0 rfl (e_psh_bipush 189 8 8 (e_newarr 191 64 0 rfl (e_pf 193 21281 71 12 5 33 rfl rfl rfl (e_aload_aload_n 196 0 0 0 rfl (e_psh_bipush 197 8 8 (e_newarr 199 64 0 rfl (e_pf 201 21282 74 12 5 34 rfl rfl rfl (e_aload_aload_n 204 0 0 0 rfl (e_psh_bipush 205 8 8 (e_newarr 207 64 0 rfl (e_pf 209 21283 77 12 5 35 rfl rfl rfl (e_aload_aload_n 212 0 0 0 rfl (e_psh_bipush 213 8 8 (e_newarr 215 64 0 rfl (e_pf 217 21284 80 12 5 36 rfl rfl rfl (e_psh_iconst 220 0 0 (e_istore_istore_n 221 0 1 1 rfl (kE177_222)))))))))))))))))))))))))))))))))))))))))))))))))))))))))))))))))))))))))))))))))))))))))))))))))))))))))))))))))))))))))))))
def kt_177 : Nat → Option ex_C := fun pc => @Bool.rec (fun _ => Nat → Option ex_C) (fun pc => @Bool.rec (fun _ => Nat → Option ex_C) (fun pc => @Bool.rec (fun _ => Option ex_C) none (some k177_251) (Nat.beq pc 251)) (fun pc => @Bool.rec (fun _ => Option ex_C) none (some k177_222) (Nat.beq pc 222)) (Nat.ble pc 222) pc) (fun pc => @Bool.rec (fun _ => Option ex_C) none (some k177_0) (Nat.beq pc 0)) (Nat.ble pc 0) pc
theorem ktE_177 : ex_CTT 15 [] cd_177 kt_177 cd_177 := (ex_ct2 (ex_ct1 kE177_0) (ex_ct2 (ex_ct1 kE177_222) (ex_ct1 kE177_251)))
set_option maxHeartbeats 100000 in
def k178_0 : ex_C := c_aload 0 (c_gf 12 13 (c_ireturn  0))
set_option maxHeartbeats 100000 in
theorem kE178_0 : ex_CE 0 [] cd_178 k178_0 q178_0 := e_aload_aload_n 0 0 0 0 rfl (e_gf 1 781 97 12 13 rfl rfl (e_ireturn 4 0 ))
def kt_178 : Nat → Option ex_C := fun pc => @Bool.rec (fun _ => Option ex_C) none (some k178_0) (Nat.beq pc 0)
theorem ktE_178 : ex_CTT 0 [] cd_178 kt_178 cd_178 := (ex_ct1 kE178_0)
set_option maxHeartbeats 100000 in
def k179_0 : ex_C := c_aload 0 (c_iload 1 (c_pf 12 0 13 (c_psh 0 (c_ireturn  0))))
set_option maxHeartbeats 100000 in
theorem kE179_0 : ex_CE 0 [] cd_179 k179_0 q179_0 := e_aload_aload_n 0 0 0 0 rfl (e_iload_iload_n 1 0 1 1 rfl (e_pf 2 781 97 12 0 13 rfl rfl rfl (e_psh_iconst 5 0 0 (e_ireturn 6 0 ))))
def kt_179 : Nat → Option ex_C := fun pc => @Bool.rec (fun _ => Option ex_C) none (some k179_0) (Nat.beq pc 0)
theorem ktE_179 : ex_CTT 0 [] cd_179 kt_179 cd_179 := (ex_ct1 kE179_0)
set_option maxHeartbeats 100000 in
def k180_18 : ex_C := c_ireturn  1
set_option maxHeartbeats 100000 in
theorem kE180_18 : ex_CE 1 [] cd_180 k180_18 q180_18 := e_ireturn 18 0 
set_option maxHeartbeats 100000 in
def k180_17 : ex_C := c_psh 0 (k180_18)
set_option maxHeartbeats 100000 in
theorem kE180_17 : ex_CE 1 [] cd_180 k180_17 q180_17 := e_psh_iconst 17 0 0 (kE180_18)
set_option maxHeartbeats 100000 in
def k180_0 : ex_C := c_lload 0 (c_lload 2 (c_lcmp   (c_if_lt 17 (c_lload 0 (c_lload 4 (c_lcmp   (c_if_gt 17 (c_psh 1 (c_goto 18)))))))))
set_option maxHeartbeats 100000 in
theorem kE180_0 : ex_CE 1 [] cd_180 k180_0 q180_0 := e_lload_lload_n 0 0 0 0 rfl (e_lload_lload_n 1 0 2 2 rfl (e_lcmp 2 0  (e_if_lt 3 17 14 (e_lload_lload_n 6 0 0 0 rfl (e_lload_lload 7 0 4 (e_lcmp 9 0  (e_if_gt 10 17 7 (e_psh_iconst 13 1 1 (e_goto 14 18 4)))))))))
def kt_180 : Nat → Option ex_C := fun pc => @Bool.rec (fun _ => Nat → Option ex_C) (fun pc => @Bool.rec (fun _ => Nat → Option ex_C) (fun pc => @Bool.rec (fun _ => Option ex_C) none (some k180_18) (Nat.beq pc 18)) (fun pc => @Bool.rec (fun _ => Option ex_C) none (some k180_17) (Nat.beq pc 17)) (Nat.ble pc 17) pc) (fun pc => @Bool.rec (fun _ => Option ex_C) none (some k180_0) (Nat.beq pc 0)) (Nat.ble pc 0) pc
theorem ktE_180 : ex_CTT 1 [] cd_180 kt_180 cd_180 := (ex_ct2 (ex_ct1 kE180_0) (ex_ct2 (ex_ct1 kE180_17) (ex_ct1 kE180_18)))
set_option maxHeartbeats 100000 in
def k181_22 : ex_C := c_ireturn  1
set_option maxHeartbeats 100000 in
theorem kE181_22 : ex_CE 1 [] cd_181 k181_22 q181_22 := e_ireturn 22 0 
set_option maxHeartbeats 100000 in
def k181_21 : ex_C := c_psh 0 (k181_22)
set_option maxHeartbeats 100000 in
theorem kE181_21 : ex_CE 1 [] cd_181 k181_21 q181_21 := e_psh_iconst 21 0 0 (kE181_22)
set_option maxHeartbeats 100000 in
def k181_10 : ex_C := c_pf 12 0 13 (c_iload 1 (c_if_ne 21 (c_psh 1 (c_goto 22))))
set_option maxHeartbeats 100000 in
theorem kE181_10 : ex_CE 1 [] cd_181 k181_10 q181_10 := e_pf 10 781 97 12 0 13 rfl rfl rfl (e_iload_iload_n 13 0 1 1 rfl (e_if_ne 14 21 7 (e_psh_iconst 17 1 1 (e_goto 18 22 4))))
set_option maxHeartbeats 100000 in
def k181_9 : ex_C := c_iload 2 (k181_10)
set_option maxHeartbeats 100000 in
theorem kE181_9 : ex_CE 1 [] cd_181 k181_9 q181_9 := e_iload_iload_n 9 0 2 2 rfl (kE181_10)
set_option maxHeartbeats 100000 in
def k181_0 : ex_C := c_aload 0 (c_iload 1 (c_if_eq 9 (c_psh 0 (c_goto 10))))
set_option maxHeartbeats 100000 in
theorem kE181_0 : ex_CE 1 [] cd_181 k181_0 q181_0 := e_aload_aload_n 0 0 0 0 rfl (e_iload_iload_n 1 0 1 1 rfl (e_if_eq 2 9 7 (e_psh_iconst 5 0 0 (e_goto 6 10 4))))
def kt_181 : Nat → Option ex_C := fun pc => @Bool.rec (fun _ => Nat → Option ex_C) (fun pc => @Bool.rec (fun _ => Nat → Option ex_C) (fun pc => @Bool.rec (fun _ => Nat → Option ex_C) (fun pc => @Bool.rec (fun _ => Option ex_C) none (some k181_22) (Nat.beq pc 22)) (fun pc => @Bool.rec (fun _ => Option ex_C) none (some k181_21) (Nat.beq pc 21)) (Nat.ble pc 21) pc) (fun pc => @Bool.rec (fun _ => Option ex_C) none (some k181_10) (Nat.beq pc 10)) (Nat.ble pc 10) pc) (fun pc => @Bool.rec (fun _ => Nat → Option ex_C) (fun pc => @Bool.rec (fun _ => Option ex_C) none (some k181_9) (Nat.beq pc 9)) (fun pc => @Bool.rec (fun _ => Option ex_C) none (some k181_0) (Nat.beq pc 0)) (Nat.ble pc 0) pc) (Nat.ble pc 9) pc
theorem ktE_181 : ex_CTT 1 [] cd_181 kt_181 cd_181 := (ex_ct2 (ex_ct2 (ex_ct1 kE181_0) (ex_ct1 kE181_9)) (ex_ct2 (ex_ct1 kE181_10) (ex_ct2 (ex_ct1 kE181_21) (ex_ct1 kE181_22))))
set_option maxHeartbeats 100000 in
def k182_0 : ex_C := c_aload 0 (c_iload 1 (c_i2l   (c_psh 412316860416 (c_psh 412316860423 (c_invS [] cd_182 7 3 180 (c_psh 1 (c_invV [] cd_182 11 3 181 12 (c_ireturn  1))))))))
set_option maxHeartbeats 100000 in
theorem kE182_0 : ex_CE 1 [] cd_182 k182_0 q182_0 := e_aload_aload_n 0 0 0 0 rfl (e_iload_iload_n 1 0 1 1 rfl (e_i2l 2 0  (e_psh_lconst 3 412316860416 0 (e_psh_ldc2_w 4 412316860423 100 (e_invS 7 1613795 102 3 180 rfl rfl rfl (e_psh_iconst 10 1 1 (e_invV_invokevirtual 11 1614211 106 3 181 12 rfl rfl rfl rfl rfl rfl (e_ireturn 14 0 ))))))))
def kt_182 : Nat → Option ex_C := fun pc => @Bool.rec (fun _ => Option ex_C) none (some k182_0) (Nat.beq pc 0)
theorem ktE_182 : ex_CTT 1 [] cd_182 kt_182 cd_182 := (ex_ct1 kE182_0)
set_option maxHeartbeats 100000 in
def k183_115 : ex_C := c_aload 1 (c_areturn  5)
set_option maxHeartbeats 100000 in
theorem kE183_115 : ex_CE 5 [] cd_183 k183_115 q183_115 := e_aload_aload_n 115 0 1 1 rfl (e_areturn 116 0 )
set_option maxHeartbeats 100000 in
def k183_81 : ex_C := c_aload 1 (c_psh 3 (c_iload 2 (c_imul (c_iload 4 (c_iastore (c_aload 1 (c_psh 3 (c_iload 2 (c_imul (c_psh 1 (c_iadd (c_iload 5 (c_iastore (c_aload 1 (c_psh 3 (c_iload 2 (c_imul (c_psh 2 (c_iadd (c_psh 4 (c_iload 3 (c_isub (c_psh 4 (c_irem   (c_iastore (c_iinc 2 1 (c_goto 7)))))))))))))))))))))))))))
set_option maxHeartbeats 100000 in
theorem kE183_81 : ex_CE 5 [] cd_183 k183_81 q183_81 := e_aload_aload_n 81 0 1 1 rfl (e_psh_iconst 82 3 3 (e_iload_iload_n 83 0 2 2 rfl (e_imul 84 0 (e_iload_iload 85 0 4 (e_iastore 87 0 (e_aload_aload_n 88 0 1 1 rfl (e_psh_iconst 89 3 3 (e_iload_iload_n 90 0 2 2 rfl (e_imul 91 0 (e_psh_iconst 92 1 1 (e_iadd 93 0 (e_iload_iload 94 0 5 (e_iastore 96 0 (e_aload_aload_n 97 0 1 1 rfl (e_psh_iconst 98 3 3 (e_iload_iload_n 99 0 2 2 rfl (e_imul 100 0 (e_psh_iconst 101 2 2 (e_iadd 102 0 (e_psh_iconst 103 4 4 (e_iload_iload_n 104 0 3 3 rfl (e_isub 105 0 (e_psh_iconst 106 4 4 (e_irem 107 0  (e_iastore 108 0 (e_iinc 109 1 2 1 (e_goto 112 7 (-105))))))))))))))))))))))))))))
set_option maxHeartbeats 100000 in
def k183_56 : ex_C := c_iload 6 (c_iload 3 (c_icmp_ge 81 (c_iload 4 (c_istore 7 (c_iload 5 (c_ineg   (c_istore 4 (c_iload 7 (c_istore 5 (c_iinc 6 1 (c_goto 56)))))))))))
set_option maxHeartbeats 100000 in
theorem kE183_56 : ex_CE 5 [] cd_183 k183_56 q183_56 := e_iload_iload 56 0 6 (e_iload_iload_n 58 0 3 3 rfl (e_icmp_ge 59 81 22 (e_iload_iload 62 0 4 (e_istore_istore 64 0 7 (e_iload_iload 66 0 5 (e_ineg 68 0  (e_istore_istore 69 0 4 (e_iload_iload 71 0 7 (e_istore_istore 73 0 5 (e_iinc 75 1 6 1 (e_goto 78 56 (-22))))))))))))
set_option maxHeartbeats 100000 in
def k183_47 : ex_C := c_istore 4 (c_psh 4294967293 (c_istore 5 (c_psh 0 (c_istore 6 (k183_56)))))
set_option maxHeartbeats 100000 in
theorem kE183_47 : ex_CE 5 [] cd_183 k183_47 q183_47 := e_istore_istore 47 0 4 (e_psh_bipush 49 4294967293 (-3) (e_istore_istore 51 0 5 (e_psh_iconst 53 0 0 (e_istore_istore 54 0 6 (kE183_56)))))
set_option maxHeartbeats 100000 in
def k183_46 : ex_C := c_psh 1 (k183_47)
set_option maxHeartbeats 100000 in
theorem kE183_46 : ex_CE 5 [] cd_183 k183_46 q183_46 := e_psh_iconst 46 1 1 (kE183_47)
set_option maxHeartbeats 100000 in
def k183_35 : ex_C := c_istore 3 (c_iload 2 (c_psh 2 (c_irem   (c_if_ne 46 (c_psh 4294967295 (c_goto 47))))))
set_option maxHeartbeats 100000 in
theorem kE183_35 : ex_CE 5 [] cd_183 k183_35 q183_35 := e_istore_istore_n 35 0 3 3 rfl (e_iload_iload_n 36 0 2 2 rfl (e_psh_iconst 37 2 2 (e_irem 38 0  (e_if_ne 39 46 7 (e_psh_iconst 42 4294967295 (-1) (e_goto 43 47 4))))))
set_option maxHeartbeats 100000 in
def k183_25 : ex_C := c_iload 2 (c_psh 2 (c_idiv   (c_aload 0 (c_gf 12 16 (c_iadd (c_psh 4 (c_irem   (k183_35))))))))
set_option maxHeartbeats 100000 in
theorem kE183_25 : ex_CE 5 [] cd_183 k183_25 q183_25 := e_iload_iload_n 25 0 2 2 rfl (e_psh_iconst 26 2 2 (e_idiv 27 0  (e_aload_aload_n 28 0 0 0 rfl (e_gf 29 784 110 12 16 rfl rfl (e_iadd 32 0 (e_psh_iconst 33 4 4 (e_irem 34 0  (kE183_35))))))))
set_option maxHeartbeats 100000 in
def k183_7 : ex_C := c_iload 2 (c_psh 8 (c_icmp_ge 115 (c_iload 2 (c_psh 2 (c_irem   (c_if_ne 25 (c_iload 2 (c_psh 2 (c_idiv   (c_goto 35))))))))))
set_option maxHeartbeats 100000 in
theorem kE183_7 : ex_CE 5 [] cd_183 k183_7 q183_7 := e_iload_iload_n 7 0 2 2 rfl (e_psh_bipush 8 8 8 (e_icmp_ge 10 115 105 (e_iload_iload_n 13 0 2 2 rfl (e_psh_iconst 14 2 2 (e_irem 15 0  (e_if_ne 16 25 9 (e_iload_iload_n 19 0 2 2 rfl (e_psh_iconst 20 2 2 (e_idiv 21 0  (e_goto 22 35 13))))))))))
set_option maxHeartbeats 100000 in
def k183_0 : ex_C := c_psh 24 (c_newarr 64 0 (c_astore 1 (c_psh 0 (c_istore 2 (k183_7)))))
set_option maxHeartbeats 100000 in
theorem kE183_0 : ex_CE 5 [] cd_183 k183_0 q183_0 := e_psh_bipush 0 24 24 (e_newarr 2 64 0 rfl (e_astore_astore_n 4 0 1 1 rfl (e_psh_iconst 5 0 0 (e_istore_istore_n 6 0 2 2 rfl (kE183_7)))))
def kt_183 : Nat → Option ex_C := fun pc => @Bool.rec (fun _ => Nat → Option ex_C) (fun pc => @Bool.rec (fun _ => Nat → Option ex_C) (fun pc => @Bool.rec (fun _ => Nat → Option ex_C) (fun pc => @Bool.rec (fun _ => Nat → Option ex_C) (fun pc => @Bool.rec (fun _ => Option ex_C) none (some k183_115) (Nat.beq pc 115)) (fun pc => @Bool.rec (fun _ => Option ex_C) none (some k183_81) (Nat.beq pc 81)) (Nat.ble pc 81) pc) (fun pc => @Bool.rec (fun _ => Option ex_C) none (some k183_56) (Nat.beq pc 56)) (Nat.ble pc 56) pc) (fun pc => @Bool.rec (fun _ => Nat → Option ex_C) (fun pc => @Bool.rec (fun _ => Option ex_C) none (some k183_47) (Nat.beq pc 47)) (fun pc => @Bool.rec (fun _ => Option ex_C) none (some k183_46) (Nat.beq pc 46)) (Nat.ble pc 46) pc) (Nat.ble pc 47) pc) (fun pc => @Bool.rec (fun _ => Nat → Option ex_C) (fun pc => @Bool.rec (fun _ => Nat → Option ex_C) (fun pc => @Bool.rec (fun _ => Option ex_C) none (some k183_35) (Nat.beq pc 35)) (fun pc => @Bool.rec (fun _ => Option ex_C) none (some k183_25) (Nat.beq pc 25)) (Nat.ble pc 25) pc) (fun pc => @Bool.rec (fun _ => Nat → Option ex_C) (fun pc => @Bool.rec (fun _ => Option ex_C) none (some k183_7) (Nat.beq pc 7)) (fun pc => @Bool.rec (fun _ => Option ex_C) none (some k183_0) (Nat.beq pc 0)) (Nat.ble pc 0) pc) (Nat.ble pc 7) pc) (Nat.ble pc 35) pc
theorem ktE_183 : ex_CTT 5 [] cd_183 kt_183 cd_183 := (ex_ct2 (ex_ct2 (ex_ct2 (ex_ct1 kE183_0) (ex_ct1 kE183_7)) (ex_ct2 (ex_ct1 kE183_25) (ex_ct1 kE183_35))) (ex_ct2 (ex_ct2 (ex_ct1 kE183_46) (ex_ct1 kE183_47)) (ex_ct2 (ex_ct1 kE183_56) (ex_ct2 (ex_ct1 kE183_81) (ex_ct1 kE183_115)))))
set_option maxHeartbeats 100000 in
def k184_51 : ex_C := c_return_  15
set_option maxHeartbeats 100000 in
theorem kE184_51 : ex_CE 15 [] cd_184 k184_51 q184_51 := e_return_ 51 0 
set_option maxHeartbeats 100000 in
def k184_2 : ex_C := c_iload 2 (c_psh 8 (c_icmp_ge 51 (c_aload 0 (c_gf 12 0 (c_iload 2 (c_aload 1 (c_psh 3 (c_iload 2 (c_imul (c_iaload (c_iastore (c_aload 0 (c_gf 12 1 (c_iload 2 (c_aload 1 (c_psh 3 (c_iload 2 (c_imul (c_psh 1 (c_iadd (c_iaload (c_iastore (c_aload 0 (c_gf 12 2 (c_iload 2 (c_aload 1 (c_psh 3 (c_iload 2 (c_imul (c_psh 2 (c_iadd (c_iaload (c_iastore (c_iinc 2 1 (c_goto 2)))))))))))))))))))))))))))))))))))
set_option maxHeartbeats 100000 in
theorem kE184_2 : ex_CE 15 [] cd_184 k184_2 q184_2 := e_iload_iload_n 2 0 2 2 rfl (e_psh_bipush 3 8 8 (e_icmp_ge 5 51 46 (e_aload_aload_n 8 0 0 0 rfl (e_gf 9 86784 7 12 0 rfl rfl (e_iload_iload_n 12 0 2 2 rfl (e_aload_aload_n 13 0 1 1 rfl (e_psh_iconst 14 3 3 (e_iload_iload_n 15 0 2 2 rfl (e_imul 16 0 (e_iaload 17 0 (e_iastore 18 0 (e_aload_aload_n 19 0 0 0 rfl (e_gf 20 86785 13 12 1 rfl rfl (e_iload_iload_n 23 0 2 2 rfl (e_aload_aload_n 24 0 1 1 rfl (e_psh_iconst 25 3 3 (e_iload_iload_n 26 0 2 2 rfl (e_imul 27 0 (e_psh_iconst 28 1 1 (e_iadd 29 0 (e_iaload 30 0 (e_iastore 31 0 (e_aload_aload_n 32 0 0 0 rfl (e_gf 33 86786 16 12 2 rfl rfl (e_iload_iload_n 36 0 2 2 rfl (e_aload_aload_n 37 0 1 1 rfl (e_psh_iconst 38 3 3 (e_iload_iload_n 39 0 2 2 rfl (e_imul 40 0 (e_psh_iconst 41 2 2 (e_iadd 42 0 (e_iaload 43 0 (e_iastore 44 0 (e_iinc 45 1 2 1 (e_goto 48 2 (-46))))))))))))))))))))))))))))))))))))
set_option maxHeartbeats 100000 in
def k184_0 : ex_C := c_psh 0 (c_istore 2 (k184_2))
set_option maxHeartbeats 100000 in
theorem kE184_0 : ex_CE 15 [] cd_184 k184_0 q184_0 := e_psh_iconst 0 0 0 (e_istore_istore_n 1 0 2 2 rfl (kE184_2))
def kt_184 : Nat → Option ex_C := fun pc => @Bool.rec (fun _ => Nat → Option ex_C) (fun pc => @Bool.rec (fun _ => Nat → Option ex_C) (fun pc => @Bool.rec (fun _ => Option ex_C) none (some k184_51) (Nat.beq pc 51)) (fun pc => @Bool.rec (fun _ => Option ex_C) none (some k184_2) (Nat.beq pc 2)) (Nat.ble pc 2) pc) (fun pc => @Bool.rec (fun _ => Option ex_C) none (some k184_0) (Nat.beq pc 0)) (Nat.ble pc 0) pc
theorem ktE_184 : ex_CTT 15 [] cd_184 kt_184 cd_184 := (ex_ct2 (ex_ct1 kE184_0) (ex_ct2 (ex_ct1 kE184_2) (ex_ct1 kE184_51)))
set_option maxHeartbeats 100000 in
def k185_56 : ex_C := c_aload 1 (c_areturn  5)
set_option maxHeartbeats 100000 in
theorem kE185_56 : ex_CE 5 [] cd_185 k185_56 q185_56 := e_aload_aload_n 56 0 1 1 rfl (e_areturn 57 0 )
set_option maxHeartbeats 100000 in
def k185_7 : ex_C := c_iload 2 (c_psh 8 (c_icmp_ge 56 (c_aload 1 (c_psh 3 (c_iload 2 (c_imul (c_aload 0 (c_gf 12 0 (c_iload 2 (c_iaload (c_iastore (c_aload 1 (c_psh 3 (c_iload 2 (c_imul (c_psh 1 (c_iadd (c_aload 0 (c_gf 12 1 (c_iload 2 (c_iaload (c_iastore (c_aload 1 (c_psh 3 (c_iload 2 (c_imul (c_psh 2 (c_iadd (c_aload 0 (c_gf 12 2 (c_iload 2 (c_iaload (c_iastore (c_iinc 2 1 (c_goto 7)))))))))))))))))))))))))))))))))))
set_option maxHeartbeats 100000 in
theorem kE185_7 : ex_CE 5 [] cd_185 k185_7 q185_7 := e_iload_iload_n 7 0 2 2 rfl (e_psh_bipush 8 8 8 (e_icmp_ge 10 56 46 (e_aload_aload_n 13 0 1 1 rfl (e_psh_iconst 14 3 3 (e_iload_iload_n 15 0 2 2 rfl (e_imul 16 0 (e_aload_aload_n 17 0 0 0 rfl (e_gf 18 86784 7 12 0 rfl rfl (e_iload_iload_n 21 0 2 2 rfl (e_iaload 22 0 (e_iastore 23 0 (e_aload_aload_n 24 0 1 1 rfl (e_psh_iconst 25 3 3 (e_iload_iload_n 26 0 2 2 rfl (e_imul 27 0 (e_psh_iconst 28 1 1 (e_iadd 29 0 (e_aload_aload_n 30 0 0 0 rfl (e_gf 31 86785 13 12 1 rfl rfl (e_iload_iload_n 34 0 2 2 rfl (e_iaload 35 0 (e_iastore 36 0 (e_aload_aload_n 37 0 1 1 rfl (e_psh_iconst 38 3 3 (e_iload_iload_n 39 0 2 2 rfl (e_imul 40 0 (e_psh_iconst 41 2 2 (e_iadd 42 0 (e_aload_aload_n 43 0 0 0 rfl (e_gf 44 86786 16 12 2 rfl rfl (e_iload_iload_n 47 0 2 2 rfl (e_iaload 48 0 (e_iastore 49 0 (e_iinc 50 1 2 1 (e_goto 53 7 (-46))))))))))))))))))))))))))))))))))))
set_option maxHeartbeats 100000 in
def k185_0 : ex_C := c_psh 24 (c_newarr 64 0 (c_astore 1 (c_psh 0 (c_istore 2 (k185_7)))))
set_option maxHeartbeats 100000 in
theorem kE185_0 : ex_CE 5 [] cd_185 k185_0 q185_0 := e_psh_bipush 0 24 24 (e_newarr 2 64 0 rfl (e_astore_astore_n 4 0 1 1 rfl (e_psh_iconst 5 0 0 (e_istore_istore_n 6 0 2 2 rfl (kE185_7)))))
def kt_185 : Nat → Option ex_C := fun pc => @Bool.rec (fun _ => Nat → Option ex_C) (fun pc => @Bool.rec (fun _ => Nat → Option ex_C) (fun pc => @Bool.rec (fun _ => Option ex_C) none (some k185_56) (Nat.beq pc 56)) (fun pc => @Bool.rec (fun _ => Option ex_C) none (some k185_7) (Nat.beq pc 7)) (Nat.ble pc 7) pc) (fun pc => @Bool.rec (fun _ => Option ex_C) none (some k185_0) (Nat.beq pc 0)) (Nat.ble pc 0) pc
theorem ktE_185 : ex_CTT 5 [] cd_185 kt_185 cd_185 := (ex_ct2 (ex_ct1 kE185_0) (ex_ct2 (ex_ct1 kE185_7) (ex_ct1 kE185_56)))
set_option maxHeartbeats 100000 in
def k186_92 : ex_C := c_aload 2 (c_areturn  5)
set_option maxHeartbeats 100000 in
theorem kE186_92 : ex_CE 5 [] cd_186 k186_92 q186_92 := e_aload_aload_n 92 0 2 2 rfl (e_areturn 93 0 )
set_option maxHeartbeats 100000 in
def k186_86 : ex_C := c_iinc 3 1 (c_goto 10)
set_option maxHeartbeats 100000 in
theorem kE186_86 : ex_CE 5 [] cd_186 k186_86 q186_86 := e_iinc 86 1 3 1 (e_goto 89 10 (-79))
set_option maxHeartbeats 100000 in
def k186_18 : ex_C := c_iload 4 (c_aload 0 (c_arraylength   (c_psh 3 (c_idiv   (c_icmp_ge 86 (c_aload 2 (c_psh 3 (c_iload 4 (c_imul (c_iaload (c_istore 5 (c_aload 2 (c_psh 3 (c_iload 4 (c_imul (c_aload 2 (c_psh 3 (c_iload 4 (c_imul (c_psh 1 (c_iadd (c_iaload (c_ineg   (c_iastore (c_aload 2 (c_psh 3 (c_iload 4 (c_imul (c_psh 1 (c_iadd (c_iload 5 (c_iastore (c_aload 2 (c_psh 3 (c_iload 4 (c_imul (c_psh 2 (c_iadd (c_aload 2 (c_psh 3 (c_iload 4 (c_imul (c_psh 2 (c_iadd (c_iaload (c_psh 3 (c_iadd (c_psh 4 (c_irem   (c_iastore (c_iinc 4 1 (c_goto 18))))))))))))))))))))))))))))))))))))))))))))))))))))
set_option maxHeartbeats 100000 in
theorem kE186_18 : ex_CE 5 [] cd_186 k186_18 q186_18 := e_iload_iload 18 0 4 (e_aload_aload_n 20 0 0 0 rfl (e_arraylength 21 0  (e_psh_iconst 22 3 3 (e_idiv 23 0  (e_icmp_ge 24 86 62 (e_aload_aload_n 27 0 2 2 rfl (e_psh_iconst 28 3 3 (e_iload_iload 29 0 4 (e_imul 31 0 (e_iaload 32 0 (e_istore_istore 33 0 5 (e_aload_aload_n 35 0 2 2 rfl (e_psh_iconst 36 3 3 (e_iload_iload 37 0 4 (e_imul 39 0 (e_aload_aload_n 40 0 2 2 rfl (e_psh_iconst 41 3 3 (e_iload_iload 42 0 4 (e_imul 44 0 (e_psh_iconst 45 1 1 (e_iadd 46 0 (e_iaload 47 0 (e_ineg 48 0  (e_iastore 49 0 (e_aload_aload_n 50 0 2 2 rfl (e_psh_iconst 51 3 3 (e_iload_iload 52 0 4 (e_imul 54 0 (e_psh_iconst 55 1 1 (e_iadd 56 0 (e_iload_iload 57 0 5 (e_iastore 59 0 (e_aload_aload_n 60 0 2 2 rfl (e_psh_iconst 61 3 3 (e_iload_iload 62 0 4 (e_imul 64 0 (e_psh_iconst 65 2 2 (e_iadd 66 0 (e_aload_aload_n 67 0 2 2 rfl (e_psh_iconst 68 3 3 (e_iload_iload 69 0 4 (e_imul 71 0 (e_psh_iconst 72 2 2 (e_iadd 73 0 (e_iaload 74 0 (e_psh_iconst 75 3 3 (e_iadd 76 0 (e_psh_iconst 77 4 4 (e_irem 78 0  (e_iastore 79 0 (e_iinc 80 1 4 1 (e_goto 83 18 (-65)))))))))))))))))))))))))))))))))))))))))))))))))))))
set_option maxHeartbeats 100000 in
def k186_10 : ex_C := c_iload 3 (c_iload 1 (c_icmp_ge 92 (c_psh 0 (c_istore 4 (k186_18)))))
set_option maxHeartbeats 100000 in
theorem kE186_10 : ex_CE 5 [] cd_186 k186_10 q186_10 := e_iload_iload_n 10 0 3 3 rfl (e_iload_iload_n 11 0 1 1 rfl (e_icmp_ge 12 92 80 (e_psh_iconst 15 0 0 (e_istore_istore 16 0 4 (kE186_18)))))
set_option maxHeartbeats 100000 in
def k186_0 : ex_C := c_aload 0 (c_clone (c_checkcast 114 64 (c_astore 2 (c_psh 0 (c_istore 3 (k186_10))))))
set_option maxHeartbeats 100000 in
theorem kE186_0 : ex_CE 5 [] cd_186 k186_0 q186_0 := e_aload_aload_n 0 0 0 0 rfl (e_clone (e_checkcast 4 64 114 (e_astore_astore_n 7 0 2 2 rfl (e_psh_iconst 8 0 0 (e_istore_istore_n 9 0 3 3 rfl (kE186_10))))))
def kt_186 : Nat → Option ex_C := fun pc => @Bool.rec (fun _ => Nat → Option ex_C) (fun pc => @Bool.rec (fun _ => Nat → Option ex_C) (fun pc => @Bool.rec (fun _ => Nat → Option ex_C) (fun pc => @Bool.rec (fun _ => Option ex_C) none (some k186_92) (Nat.beq pc 92)) (fun pc => @Bool.rec (fun _ => Option ex_C) none (some k186_86) (Nat.beq pc 86)) (Nat.ble pc 86) pc) (fun pc => @Bool.rec (fun _ => Option ex_C) none (some k186_18) (Nat.beq pc 18)) (Nat.ble pc 18) pc) (fun pc => @Bool.rec (fun _ => Nat → Option ex_C) (fun pc => @Bool.rec (fun _ => Option ex_C) none (some k186_10) (Nat.beq pc 10)) (fun pc => @Bool.rec (fun _ => Option ex_C) none (some k186_0) (Nat.beq pc 0)) (Nat.ble pc 0) pc) (Nat.ble pc 10) pc
theorem ktE_186 : ex_CTT 5 [] cd_186 kt_186 cd_186 := (ex_ct2 (ex_ct2 (ex_ct1 kE186_0) (ex_ct1 kE186_10)) (ex_ct2 (ex_ct1 kE186_18) (ex_ct2 (ex_ct1 kE186_86) (ex_ct1 kE186_92))))
set_option maxHeartbeats 100000 in
def k187_46 : ex_C := c_iload 2 (c_ireturn  1)
set_option maxHeartbeats 100000 in
theorem kE187_46 : ex_CE 1 [] cd_187 k187_46 q187_46 := e_iload_iload_n 46 0 2 2 rfl (e_ireturn 47 0 )
set_option maxHeartbeats 100000 in
def k187_39 : ex_C := c_istore 2 (c_iinc 3 1 (c_goto 15))
set_option maxHeartbeats 100000 in
theorem kE187_39 : ex_CE 1 [] cd_187 k187_39 q187_39 := e_istore_istore_n 39 0 2 2 rfl (e_iinc 40 1 3 1 (e_goto 43 15 (-28)))
set_option maxHeartbeats 100000 in
def k187_38 : ex_C := c_psh 0 (k187_39)
set_option maxHeartbeats 100000 in
theorem kE187_38 : ex_CE 1 [] cd_187 k187_38 q187_38 := e_psh_iconst 38 0 0 (kE187_39)
set_option maxHeartbeats 100000 in
def k187_15 : ex_C := c_iload 2 (c_if_eq 46 (c_iload 3 (c_aload 0 (c_arraylength   (c_icmp_ge 46 (c_aload 0 (c_iload 3 (c_iaload (c_aload 1 (c_iload 3 (c_iaload (c_icmp_ne 38 (c_psh 1 (c_goto 39))))))))))))))
set_option maxHeartbeats 100000 in
theorem kE187_15 : ex_CE 1 [] cd_187 k187_15 q187_15 := e_iload_iload_n 15 0 2 2 rfl (e_if_eq 16 46 30 (e_iload_iload_n 19 0 3 3 rfl (e_aload_aload_n 20 0 0 0 rfl (e_arraylength 21 0  (e_icmp_ge 22 46 24 (e_aload_aload_n 25 0 0 0 rfl (e_iload_iload_n 26 0 3 3 rfl (e_iaload 27 0 (e_aload_aload_n 28 0 1 1 rfl (e_iload_iload_n 29 0 3 3 rfl (e_iaload 30 0 (e_icmp_ne 31 38 7 (e_psh_iconst 34 1 1 (e_goto 35 39 4))))))))))))))
set_option maxHeartbeats 100000 in
def k187_12 : ex_C := c_istore 2 (c_psh 0 (c_istore 3 (k187_15)))
set_option maxHeartbeats 100000 in
theorem kE187_12 : ex_CE 1 [] cd_187 k187_12 q187_12 := e_istore_istore_n 12 0 2 2 rfl (e_psh_iconst 13 0 0 (e_istore_istore_n 14 0 3 3 rfl (kE187_15)))
set_option maxHeartbeats 100000 in
def k187_11 : ex_C := c_psh 0 (k187_12)
set_option maxHeartbeats 100000 in
theorem kE187_11 : ex_CE 1 [] cd_187 k187_11 q187_11 := e_psh_iconst 11 0 0 (kE187_12)
set_option maxHeartbeats 100000 in
def k187_0 : ex_C := c_aload 0 (c_arraylength   (c_aload 1 (c_arraylength   (c_icmp_ne 11 (c_psh 1 (c_goto 12))))))
set_option maxHeartbeats 100000 in
theorem kE187_0 : ex_CE 1 [] cd_187 k187_0 q187_0 := e_aload_aload_n 0 0 0 0 rfl (e_arraylength 1 0  (e_aload_aload_n 2 0 1 1 rfl (e_arraylength 3 0  (e_icmp_ne 4 11 7 (e_psh_iconst 7 1 1 (e_goto 8 12 4))))))
def kt_187 : Nat → Option ex_C := fun pc => @Bool.rec (fun _ => Nat → Option ex_C) (fun pc => @Bool.rec (fun _ => Nat → Option ex_C) (fun pc => @Bool.rec (fun _ => Nat → Option ex_C) (fun pc => @Bool.rec (fun _ => Option ex_C) none (some k187_46) (Nat.beq pc 46)) (fun pc => @Bool.rec (fun _ => Option ex_C) none (some k187_39) (Nat.beq pc 39)) (Nat.ble pc 39) pc) (fun pc => @Bool.rec (fun _ => Nat → Option ex_C) (fun pc => @Bool.rec (fun _ => Option ex_C) none (some k187_38) (Nat.beq pc 38)) (fun pc => @Bool.rec (fun _ => Option ex_C) none (some k187_15) (Nat.beq pc 15)) (Nat.ble pc 15) pc) (Nat.ble pc 38) pc) (fun pc => @Bool.rec (fun _ => Nat → Option ex_C) (fun pc => @Bool.rec (fun _ => Nat → Option ex_C) (fun pc => @Bool.rec (fun _ => Option ex_C) none (some k187_12) (Nat.beq pc 12)) (fun pc => @Bool.rec (fun _ => Option ex_C) none (some k187_11) (Nat.beq pc 11)) (Nat.ble pc 11) pc) (fun pc => @Bool.rec (fun _ => Option ex_C) none (some k187_0) (Nat.beq pc 0)) (Nat.ble pc 0) pc) (Nat.ble pc 12) pc
theorem ktE_187 : ex_CTT 1 [] cd_187 kt_187 cd_187 := (ex_ct2 (ex_ct2 (ex_ct1 kE187_0) (ex_ct2 (ex_ct1 kE187_11) (ex_ct1 kE187_12))) (ex_ct2 (ex_ct2 (ex_ct1 kE187_15) (ex_ct1 kE187_38)) (ex_ct2 (ex_ct1 kE187_39) (ex_ct1 kE187_46))))
set_option maxHeartbeats 100000 in
def k188_30 : ex_C := c_iload 2 (c_ireturn  1)
set_option maxHeartbeats 100000 in
theorem kE188_30 : ex_CE 1 [] cd_188 k188_30 q188_30 := e_iload_iload_n 30 0 2 2 rfl (e_ireturn 31 0 )
set_option maxHeartbeats 100000 in
def k188_4 : ex_C := c_iload 3 (c_psh 4 (c_icmp_ge 30 (c_iload 2 (c_aload 1 (c_iload 3 (c_invS [] cd_188 12 2 186 (c_aload 0 (c_invV [] cd_188 16 1 183 12 (c_invS [] cd_188 19 2 187 (c_ior   (c_istore 2 (c_iinc 3 1 (c_goto 4)))))))))))))
set_option maxHeartbeats 100000 in
theorem kE188_4 : ex_CE 1 [] cd_188 k188_4 q188_4 := e_iload_iload_n 4 0 3 3 rfl (e_psh_iconst 5 4 4 (e_icmp_ge 6 30 24 (e_iload_iload_n 9 0 2 2 rfl (e_aload_aload_n 10 0 1 1 rfl (e_iload_iload_n 11 0 3 3 rfl (e_invS 12 1662946 118 2 186 rfl rfl rfl (e_aload_aload_n 15 0 0 0 rfl (e_invV_invokevirtual 16 1630593 89 1 183 12 rfl rfl rfl rfl rfl rfl (e_invS 19 1671138 122 2 187 rfl rfl rfl (e_ior 22 0  (e_istore_istore_n 23 0 2 2 rfl (e_iinc 24 1 3 1 (e_goto 27 4 (-23))))))))))))))
set_option maxHeartbeats 100000 in
def k188_0 : ex_C := c_psh 0 (c_istore 2 (c_psh 0 (c_istore 3 (k188_4))))
set_option maxHeartbeats 100000 in
theorem kE188_0 : ex_CE 1 [] cd_188 k188_0 q188_0 := e_psh_iconst 0 0 0 (e_istore_istore_n 1 0 2 2 rfl (e_psh_iconst 2 0 0 (e_istore_istore_n 3 0 3 3 rfl (kE188_4))))
def kt_188 : Nat → Option ex_C := fun pc => @Bool.rec (fun _ => Nat → Option ex_C) (fun pc => @Bool.rec (fun _ => Nat → Option ex_C) (fun pc => @Bool.rec (fun _ => Option ex_C) none (some k188_30) (Nat.beq pc 30)) (fun pc => @Bool.rec (fun _ => Option ex_C) none (some k188_4) (Nat.beq pc 4)) (Nat.ble pc 4) pc) (fun pc => @Bool.rec (fun _ => Option ex_C) none (some k188_0) (Nat.beq pc 0)) (Nat.ble pc 0) pc
theorem ktE_188 : ex_CTT 1 [] cd_188 kt_188 cd_188 := (ex_ct2 (ex_ct1 kE188_0) (ex_ct2 (ex_ct1 kE188_4) (ex_ct1 kE188_30)))
set_option maxHeartbeats 100000 in
def k189_0 : ex_C := c_aload 0 (c_aconst_null   (c_pf 12 5 27 (c_aload 0 (c_gf 12 5 (c_invV [] cd_189 9 1 342 16 (c_aload 0 (c_gf 12 7 (c_invV [] cd_189 18 1 342 16 (c_return_  15)))))))))
set_option maxHeartbeats 100000 in
theorem kE189_0 : ex_CE 15 [] cd_189 k189_0 q189_0 := e_aload_aload_n 0 0 0 0 rfl (e_aconst_null 1 0  (e_pf 2 21275 67 12 5 27 rfl rfl rfl (e_aload_aload_n 5 0 0 0 rfl (e_gf 6 86789 29 12 5 rfl rfl (e_invV_invokeinterface 9 2933249 126 1 1 342 16 rfl rfl rfl rfl rfl rfl (e_aload_aload_n 14 0 0 0 rfl (e_gf 15 86791 35 12 7 rfl rfl (e_invV_invokeinterface 18 2933249 126 1 1 342 16 rfl rfl rfl rfl rfl rfl (e_return_ 23 0 )))))))))
def kt_189 : Nat → Option ex_C := fun pc => @Bool.rec (fun _ => Option ex_C) none (some k189_0) (Nat.beq pc 0)
theorem ktE_189 : ex_CTT 15 [] cd_189 kt_189 cd_189 := (ex_ct1 kE189_0)
set_option maxHeartbeats 100000 in
def k190_138 : ex_C := c_aload 0 (c_psh 0 (c_pf 12 0 23 (c_aload 0 (c_psh 0 (c_pf 12 0 24 (c_iload 3 (c_ireturn  0)))))))
set_option maxHeartbeats 100000 in
theorem kE190_138 : ex_CE 0 [] cd_190 k190_138 q190_138 := e_aload_aload_n 138 0 0 0 rfl (e_psh_iconst 139 0 0 (e_pf 140 791 135 12 0 23 rfl rfl rfl (e_aload_aload_n 143 0 0 0 rfl (e_psh_iconst 144 0 0 (e_pf 145 792 138 12 0 24 rfl rfl rfl (e_iload_iload_n 148 0 3 3 rfl (e_ireturn 149 0 )))))))
set_option maxHeartbeats 100000 in
def k190_101 : ex_C := c_iload 4 (c_psh 8 (c_icmp_ge 138 (c_aload 0 (c_gf 12 10 (c_iload 4 (c_psh 0 (c_iastore (c_aload 0 (c_gf 12 11 (c_iload 4 (c_psh 0 (c_iastore (c_aload 0 (c_gf 12 12 (c_iload 4 (c_psh 0 (c_iastore (c_iinc 4 1 (c_goto 101)))))))))))))))))))
set_option maxHeartbeats 100000 in
theorem kE190_101 : ex_CE 0 [] cd_190 k190_101 q190_101 := e_iload_iload 101 0 4 (e_psh_bipush 103 8 8 (e_icmp_ge 105 138 33 (e_aload_aload_n 108 0 0 0 rfl (e_gf 109 86794 44 12 10 rfl rfl (e_iload_iload 112 0 4 (e_psh_iconst 114 0 0 (e_iastore 115 0 (e_aload_aload_n 116 0 0 0 rfl (e_gf 117 86795 47 12 11 rfl rfl (e_iload_iload 120 0 4 (e_psh_iconst 122 0 0 (e_iastore 123 0 (e_aload_aload_n 124 0 0 0 rfl (e_gf 125 86796 50 12 12 rfl rfl (e_iload_iload 128 0 4 (e_psh_iconst 130 0 0 (e_iastore 131 0 (e_iinc 132 1 4 1 (e_goto 135 101 (-34))))))))))))))))))))
set_option maxHeartbeats 100000 in
def k190_89 : ex_C := c_aload 0 (c_aload 1 (c_invV [] cd_190 91 2 184 12 (c_aload 0 (c_invV [] cd_190 95 1 189 12 (c_psh 0 (c_istore 4 (k190_101)))))))
set_option maxHeartbeats 100000 in
theorem kE190_89 : ex_CE 0 [] cd_190 k190_89 q190_89 := e_aload_aload_n 89 0 0 0 rfl (e_aload_aload_n 90 0 1 1 rfl (e_invV_invokevirtual 91 1638786 93 2 184 12 rfl rfl rfl rfl rfl rfl (e_aload_aload_n 94 0 0 0 rfl (e_invV_invokevirtual 95 1679745 132 1 189 12 rfl rfl rfl rfl rfl rfl (e_psh_iconst 98 0 0 (e_istore_istore 99 0 4 (kE190_101)))))))
set_option maxHeartbeats 100000 in
def k190_81 : ex_C := c_iadd (c_istore 3 (c_iinc 4 1 (c_goto 15)))
set_option maxHeartbeats 100000 in
theorem kE190_81 : ex_CE 0 [] cd_190 k190_81 q190_81 := e_iadd 81 0 (e_istore_istore_n 82 0 3 3 rfl (e_iinc 83 1 4 1 (e_goto 86 15 (-71))))
set_option maxHeartbeats 100000 in
def k190_80 : ex_C := c_psh 1 (k190_81)
set_option maxHeartbeats 100000 in
theorem kE190_80 : ex_CE 0 [] cd_190 k190_80 q190_80 := e_psh_iconst 80 1 1 (kE190_81)
set_option maxHeartbeats 100000 in
def k190_15 : ex_C := c_iload 4 (c_psh 8 (c_icmp_ge 89 (c_iload 3 (c_aload 1 (c_psh 3 (c_iload 4 (c_imul (c_iaload (c_aload 2 (c_psh 3 (c_iload 4 (c_imul (c_iaload (c_icmp_ne 80 (c_aload 1 (c_psh 3 (c_iload 4 (c_imul (c_psh 1 (c_iadd (c_iaload (c_aload 2 (c_psh 3 (c_iload 4 (c_imul (c_psh 1 (c_iadd (c_iaload (c_icmp_ne 80 (c_aload 1 (c_psh 3 (c_iload 4 (c_imul (c_psh 2 (c_iadd (c_iaload (c_aload 2 (c_psh 3 (c_iload 4 (c_imul (c_psh 2 (c_iadd (c_iaload (c_icmp_ne 80 (c_psh 0 (c_goto 81))))))))))))))))))))))))))))))))))))))))))))))
set_option maxHeartbeats 100000 in
theorem kE190_15 : ex_CE 0 [] cd_190 k190_15 q190_15 := e_iload_iload 15 0 4 (e_psh_bipush 17 8 8 (e_icmp_ge 19 89 70 (e_iload_iload_n 22 0 3 3 rfl (e_aload_aload_n 23 0 1 1 rfl (e_psh_iconst 24 3 3 (e_iload_iload 25 0 4 (e_imul 27 0 (e_iaload 28 0 (e_aload_aload_n 29 0 2 2 rfl (e_psh_iconst 30 3 3 (e_iload_iload 31 0 4 (e_imul 33 0 (e_iaload 34 0 (e_icmp_ne 35 80 45 (e_aload_aload_n 38 0 1 1 rfl (e_psh_iconst 39 3 3 (e_iload_iload 40 0 4 (e_imul 42 0 (e_psh_iconst 43 1 1 (e_iadd 44 0 (e_iaload 45 0 (e_aload_aload_n 46 0 2 2 rfl (e_psh_iconst 47 3 3 (e_iload_iload 48 0 4 (e_imul 50 0 (e_psh_iconst 51 1 1 (e_iadd 52 0 (e_iaload 53 0 (e_icmp_ne 54 80 26 (e_aload_aload_n 57 0 1 1 rfl (e_psh_iconst 58 3 3 (e_iload_iload 59 0 4 (e_imul 61 0 (e_psh_iconst 62 2 2 (e_iadd 63 0 (e_iaload 64 0 (e_aload_aload_n 65 0 2 2 rfl (e_psh_iconst 66 3 3 (e_iload_iload 67 0 4 (e_imul 69 0 (e_psh_iconst 70 2 2 (e_iadd 71 0 (e_iaload 72 0 (e_icmp_ne 73 80 7 (e_psh_iconst 76 0 0 (e_goto 77 81 4))))))))))))))))))))))))))))))))))))))))))))))
set_option maxHeartbeats 100000 in
def k190_0 : ex_C := c_aload 0 (c_invV [] cd_190 1 1 183 12 (c_astore 1 (c_aload 0 (c_invV [] cd_190 6 1 185 12 (c_astore 2 (c_psh 0 (c_istore 3 (c_psh 0 (c_istore 4 (k190_15))))))))))
set_option maxHeartbeats 100000 in
theorem kE190_0 : ex_CE 0 [] cd_190 k190_0 q190_0 := e_aload_aload_n 0 0 0 0 rfl (e_invV_invokevirtual 1 1630593 89 1 183 12 rfl rfl rfl rfl rfl rfl (e_astore_astore_n 4 0 1 1 rfl (e_aload_aload_n 5 0 0 0 rfl (e_invV_invokevirtual 6 1646977 129 1 185 12 rfl rfl rfl rfl rfl rfl (e_astore_astore_n 9 0 2 2 rfl (e_psh_iconst 10 0 0 (e_istore_istore_n 11 0 3 3 rfl (e_psh_iconst 12 0 0 (e_istore_istore 13 0 4 (kE190_15))))))))))
def kt_190 : Nat → Option ex_C := fun pc => @Bool.rec (fun _ => Nat → Option ex_C) (fun pc => @Bool.rec (fun _ => Nat → Option ex_C) (fun pc => @Bool.rec (fun _ => Nat → Option ex_C) (fun pc => @Bool.rec (fun _ => Option ex_C) none (some k190_138) (Nat.beq pc 138)) (fun pc => @Bool.rec (fun _ => Option ex_C) none (some k190_101) (Nat.beq pc 101)) (Nat.ble pc 101) pc) (fun pc => @Bool.rec (fun _ => Nat → Option ex_C) (fun pc => @Bool.rec (fun _ => Option ex_C) none (some k190_89) (Nat.beq pc 89)) (fun pc => @Bool.rec (fun _ => Option ex_C) none (some k190_81) (Nat.beq pc 81)) (Nat.ble pc 81) pc) (Nat.ble pc 89) pc) (fun pc => @Bool.rec (fun _ => Nat → Option ex_C) (fun pc => @Bool.rec (fun _ => Nat → Option ex_C) (fun pc => @Bool.rec (fun _ => Option ex_C) none (some k190_80) (Nat.beq pc 80)) (fun pc => @Bool.rec (fun _ => Option ex_C) none (some k190_15) (Nat.beq pc 15)) (Nat.ble pc 15) pc) (fun pc => @Bool.rec (fun _ => Option ex_C) none (some k190_0) (Nat.beq pc 0)) (Nat.ble pc 0) pc) (Nat.ble pc 80) pc
theorem ktE_190 : ex_CTT 0 [] cd_190 kt_190 cd_190 := (ex_ct2 (ex_ct2 (ex_ct1 kE190_0) (ex_ct2 (ex_ct1 kE190_15) (ex_ct1 kE190_80))) (ex_ct2 (ex_ct2 (ex_ct1 kE190_81) (ex_ct1 kE190_89)) (ex_ct2 (ex_ct1 kE190_101) (ex_ct1 kE190_138))))
set_option maxHeartbeats 100000 in
def k191_18 : ex_C := c_ireturn  0
set_option maxHeartbeats 100000 in
theorem kE191_18 : ex_CE 0 [] cd_191 k191_18 q191_18 := e_ireturn 18 0 
set_option maxHeartbeats 100000 in
def k191_12 : ex_C := c_aload 0 (c_gf 12 0 (c_iload 1 (c_iaload (k191_18))))
set_option maxHeartbeats 100000 in
theorem kE191_12 : ex_CE 0 [] cd_191 k191_12 q191_12 := e_aload_aload_n 12 0 0 0 rfl (e_gf 13 86784 7 12 0 rfl rfl (e_iload_iload_n 16 0 1 1 rfl (e_iaload 17 0 (kE191_18))))
set_option maxHeartbeats 100000 in
def k191_0 : ex_C := c_aload 0 (c_iload 1 (c_invV [] cd_191 2 2 182 12 (c_if_eq 12 (c_psh 0 (c_goto 18)))))
set_option maxHeartbeats 100000 in
theorem kE191_0 : ex_CE 0 [] cd_191 k191_0 q191_0 := e_aload_aload_n 0 0 0 0 rfl (e_iload_iload_n 1 0 1 1 rfl (e_invV_invokevirtual 2 1622402 141 2 182 12 rfl rfl rfl rfl rfl rfl (e_if_eq 5 12 7 (e_psh_iconst 8 0 0 (e_goto 9 18 9)))))
def kt_191 : Nat → Option ex_C := fun pc => @Bool.rec (fun _ => Nat → Option ex_C) (fun pc => @Bool.rec (fun _ => Nat → Option ex_C) (fun pc => @Bool.rec (fun _ => Option ex_C) none (some k191_18) (Nat.beq pc 18)) (fun pc => @Bool.rec (fun _ => Option ex_C) none (some k191_12) (Nat.beq pc 12)) (Nat.ble pc 12) pc) (fun pc => @Bool.rec (fun _ => Option ex_C) none (some k191_0) (Nat.beq pc 0)) (Nat.ble pc 0) pc
theorem ktE_191 : ex_CTT 0 [] cd_191 kt_191 cd_191 := (ex_ct2 (ex_ct1 kE191_0) (ex_ct2 (ex_ct1 kE191_12) (ex_ct1 kE191_18)))
set_option maxHeartbeats 100000 in
def k192_18 : ex_C := c_ireturn  0
set_option maxHeartbeats 100000 in
theorem kE192_18 : ex_CE 0 [] cd_192 k192_18 q192_18 := e_ireturn 18 0 
set_option maxHeartbeats 100000 in
def k192_12 : ex_C := c_aload 0 (c_gf 12 1 (c_iload 1 (c_iaload (k192_18))))
set_option maxHeartbeats 100000 in
theorem kE192_12 : ex_CE 0 [] cd_192 k192_12 q192_12 := e_aload_aload_n 12 0 0 0 rfl (e_gf 13 86785 13 12 1 rfl rfl (e_iload_iload_n 16 0 1 1 rfl (e_iaload 17 0 (kE192_18))))
set_option maxHeartbeats 100000 in
def k192_0 : ex_C := c_aload 0 (c_iload 1 (c_invV [] cd_192 2 2 182 12 (c_if_eq 12 (c_psh 0 (c_goto 18)))))
set_option maxHeartbeats 100000 in
theorem kE192_0 : ex_CE 0 [] cd_192 k192_0 q192_0 := e_aload_aload_n 0 0 0 0 rfl (e_iload_iload_n 1 0 1 1 rfl (e_invV_invokevirtual 2 1622402 141 2 182 12 rfl rfl rfl rfl rfl rfl (e_if_eq 5 12 7 (e_psh_iconst 8 0 0 (e_goto 9 18 9)))))
def kt_192 : Nat → Option ex_C := fun pc => @Bool.rec (fun _ => Nat → Option ex_C) (fun pc => @Bool.rec (fun _ => Nat → Option ex_C) (fun pc => @Bool.rec (fun _ => Option ex_C) none (some k192_18) (Nat.beq pc 18)) (fun pc => @Bool.rec (fun _ => Option ex_C) none (some k192_12) (Nat.beq pc 12)) (Nat.ble pc 12) pc) (fun pc => @Bool.rec (fun _ => Option ex_C) none (some k192_0) (Nat.beq pc 0)) (Nat.ble pc 0) pc
theorem ktE_192 : ex_CTT 0 [] cd_192 kt_192 cd_192 := (ex_ct2 (ex_ct1 kE192_0) (ex_ct2 (ex_ct1 kE192_12) (ex_ct1 kE192_18)))
set_option maxHeartbeats 100000 in
def k193_18 : ex_C := c_ireturn  0
set_option maxHeartbeats 100000 in
theorem kE193_18 : ex_CE 0 [] cd_193 k193_18 q193_18 := e_ireturn 18 0 
set_option maxHeartbeats 100000 in
def k193_12 : ex_C := c_aload 0 (c_gf 12 2 (c_iload 1 (c_iaload (k193_18))))
set_option maxHeartbeats 100000 in
theorem kE193_12 : ex_CE 0 [] cd_193 k193_12 q193_12 := e_aload_aload_n 12 0 0 0 rfl (e_gf 13 86786 16 12 2 rfl rfl (e_iload_iload_n 16 0 1 1 rfl (e_iaload 17 0 (kE193_18))))
set_option maxHeartbeats 100000 in
def k193_0 : ex_C := c_aload 0 (c_iload 1 (c_invV [] cd_193 2 2 182 12 (c_if_eq 12 (c_psh 0 (c_goto 18)))))
set_option maxHeartbeats 100000 in
theorem kE193_0 : ex_CE 0 [] cd_193 k193_0 q193_0 := e_aload_aload_n 0 0 0 0 rfl (e_iload_iload_n 1 0 1 1 rfl (e_invV_invokevirtual 2 1622402 141 2 182 12 rfl rfl rfl rfl rfl rfl (e_if_eq 5 12 7 (e_psh_iconst 8 0 0 (e_goto 9 18 9)))))
def kt_193 : Nat → Option ex_C := fun pc => @Bool.rec (fun _ => Nat → Option ex_C) (fun pc => @Bool.rec (fun _ => Nat → Option ex_C) (fun pc => @Bool.rec (fun _ => Option ex_C) none (some k193_18) (Nat.beq pc 18)) (fun pc => @Bool.rec (fun _ => Option ex_C) none (some k193_12) (Nat.beq pc 12)) (Nat.ble pc 12) pc) (fun pc => @Bool.rec (fun _ => Option ex_C) none (some k193_0) (Nat.beq pc 0)) (Nat.ble pc 0) pc
theorem ktE_193 : ex_CTT 0 [] cd_193 kt_193 cd_193 := (ex_ct2 (ex_ct1 kE193_0) (ex_ct2 (ex_ct1 kE193_12) (ex_ct1 kE193_18)))
set_option maxHeartbeats 100000 in
def k194_36 : ex_C := c_psh 4294967295 (c_ireturn  0)
set_option maxHeartbeats 100000 in
theorem kE194_36 : ex_CE 0 [] cd_194 k194_36 q194_36 := e_psh_iconst 36 4294967295 (-1) (e_ireturn 37 0 )
set_option maxHeartbeats 100000 in
def k194_30 : ex_C := c_iinc 3 1 (c_goto 2)
set_option maxHeartbeats 100000 in
theorem kE194_30 : ex_CE 0 [] cd_194 k194_30 q194_30 := e_iinc 30 1 3 1 (e_goto 33 2 (-31))
set_option maxHeartbeats 100000 in
def k194_2 : ex_C := c_iload 3 (c_psh 8 (c_icmp_ge 36 (c_aload 0 (c_gf 12 0 (c_iload 3 (c_iaload (c_iload 1 (c_icmp_ne 30 (c_aload 0 (c_gf 12 1 (c_iload 3 (c_iaload (c_iload 2 (c_icmp_ne 30 (c_iload 3 (c_ireturn  0))))))))))))))))
set_option maxHeartbeats 100000 in
theorem kE194_2 : ex_CE 0 [] cd_194 k194_2 q194_2 := e_iload_iload_n 2 0 3 3 rfl (e_psh_bipush 3 8 8 (e_icmp_ge 5 36 31 (e_aload_aload_n 8 0 0 0 rfl (e_gf 9 86784 7 12 0 rfl rfl (e_iload_iload_n 12 0 3 3 rfl (e_iaload 13 0 (e_iload_iload_n 14 0 1 1 rfl (e_icmp_ne 15 30 15 (e_aload_aload_n 18 0 0 0 rfl (e_gf 19 86785 13 12 1 rfl rfl (e_iload_iload_n 22 0 3 3 rfl (e_iaload 23 0 (e_iload_iload_n 24 0 2 2 rfl (e_icmp_ne 25 30 5 (e_iload_iload_n 28 0 3 3 rfl (e_ireturn 29 0 ))))))))))))))))
set_option maxHeartbeats 100000 in
def k194_0 : ex_C := c_psh 0 (c_istore 3 (k194_2))
set_option maxHeartbeats 100000 in
theorem kE194_0 : ex_CE 0 [] cd_194 k194_0 q194_0 := e_psh_iconst 0 0 0 (e_istore_istore_n 1 0 3 3 rfl (kE194_2))
def kt_194 : Nat → Option ex_C := fun pc => @Bool.rec (fun _ => Nat → Option ex_C) (fun pc => @Bool.rec (fun _ => Nat → Option ex_C) (fun pc => @Bool.rec (fun _ => Option ex_C) none (some k194_36) (Nat.beq pc 36)) (fun pc => @Bool.rec (fun _ => Option ex_C) none (some k194_30) (Nat.beq pc 30)) (Nat.ble pc 30) pc) (fun pc => @Bool.rec (fun _ => Nat → Option ex_C) (fun pc => @Bool.rec (fun _ => Option ex_C) none (some k194_2) (Nat.beq pc 2)) (fun pc => @Bool.rec (fun _ => Option ex_C) none (some k194_0) (Nat.beq pc 0)) (Nat.ble pc 0) pc) (Nat.ble pc 2) pc
theorem ktE_194 : ex_CTT 0 [] cd_194 kt_194 cd_194 := (ex_ct2 (ex_ct2 (ex_ct1 kE194_0) (ex_ct1 kE194_2)) (ex_ct2 (ex_ct1 kE194_30) (ex_ct1 kE194_36)))
set_option maxHeartbeats 100000 in
def k195_45 : ex_C := c_ireturn  1
set_option maxHeartbeats 100000 in
theorem kE195_45 : ex_CE 1 [] cd_195 k195_45 q195_45 := e_ireturn 45 0 
set_option maxHeartbeats 100000 in
def k195_44 : ex_C := c_psh 0 (k195_45)
set_option maxHeartbeats 100000 in
theorem kE195_44 : ex_CE 1 [] cd_195 k195_44 q195_44 := e_psh_iconst 44 0 0 (kE195_45)
set_option maxHeartbeats 100000 in
def k195_0 : ex_C := c_iload 0 (c_i2l   (c_psh 412316860407 (c_psh 412316860425 (c_invS [] cd_195 8 3 180 (c_if_eq 44 (c_iload 1 (c_i2l   (c_psh 412316860407 (c_psh 412316860425 (c_invS [] cd_195 22 3 180 (c_if_eq 44 (c_iload 2 (c_i2l   (c_psh 412316860416 (c_psh 412316860419 (c_invS [] cd_195 34 3 180 (c_if_eq 44 (c_psh 1 (c_goto 45)))))))))))))))))))
set_option maxHeartbeats 100000 in
theorem kE195_0 : ex_CE 1 [] cd_195 k195_0 q195_0 := e_iload_iload_n 0 0 0 0 rfl (e_i2l 1 0  (e_psh_ldc2_w 2 412316860407 145 (e_psh_ldc2_w 5 412316860425 147 (e_invS 8 1613795 102 3 180 rfl rfl rfl (e_if_eq 11 44 33 (e_iload_iload_n 14 0 1 1 rfl (e_i2l 15 0  (e_psh_ldc2_w 16 412316860407 145 (e_psh_ldc2_w 19 412316860425 147 (e_invS 22 1613795 102 3 180 rfl rfl rfl (e_if_eq 25 44 19 (e_iload_iload_n 28 0 2 2 rfl (e_i2l 29 0  (e_psh_lconst 30 412316860416 0 (e_psh_ldc2_w 31 412316860419 149 (e_invS 34 1613795 102 3 180 rfl rfl rfl (e_if_eq 37 44 7 (e_psh_iconst 40 1 1 (e_goto 41 45 4)))))))))))))))))))
def kt_195 : Nat → Option ex_C := fun pc => @Bool.rec (fun _ => Nat → Option ex_C) (fun pc => @Bool.rec (fun _ => Nat → Option ex_C) (fun pc => @Bool.rec (fun _ => Option ex_C) none (some k195_45) (Nat.beq pc 45)) (fun pc => @Bool.rec (fun _ => Option ex_C) none (some k195_44) (Nat.beq pc 44)) (Nat.ble pc 44) pc) (fun pc => @Bool.rec (fun _ => Option ex_C) none (some k195_0) (Nat.beq pc 0)) (Nat.ble pc 0) pc
theorem ktE_195 : ex_CTT 1 [] cd_195 kt_195 cd_195 := (ex_ct2 (ex_ct1 kE195_0) (ex_ct2 (ex_ct1 kE195_44) (ex_ct1 kE195_45)))
set_option maxHeartbeats 100000 in
def k196_60 : ex_C := c_aload 0 (c_gf 12 2 (c_iload 1 (c_iaload (c_istore 6 (c_aload 0 (c_gf 12 0 (c_iload 1 (c_iload 2 (c_iastore (c_aload 0 (c_gf 12 1 (c_iload 1 (c_iload 3 (c_iastore (c_aload 0 (c_gf 12 2 (c_iload 1 (c_iload 4 (c_iastore (c_aload 0 (c_invV [] cd_196 91 1 189 12 (c_iload 6 (c_ireturn  0)))))))))))))))))))))))
set_option maxHeartbeats 100000 in
theorem kE196_60 : ex_CE 0 [] cd_196 k196_60 q196_60 := e_aload_aload_n 60 0 0 0 rfl (e_gf 61 86786 16 12 2 rfl rfl (e_iload_iload_n 64 0 1 1 rfl (e_iaload 65 0 (e_istore_istore 66 0 6 (e_aload_aload_n 68 0 0 0 rfl (e_gf 69 86784 7 12 0 rfl rfl (e_iload_iload_n 72 0 1 1 rfl (e_iload_iload_n 73 0 2 2 rfl (e_iastore 74 0 (e_aload_aload_n 75 0 0 0 rfl (e_gf 76 86785 13 12 1 rfl rfl (e_iload_iload_n 79 0 1 1 rfl (e_iload_iload_n 80 0 3 3 rfl (e_iastore 81 0 (e_aload_aload_n 82 0 0 0 rfl (e_gf 83 86786 16 12 2 rfl rfl (e_iload_iload_n 86 0 1 1 rfl (e_iload_iload 87 0 4 (e_iastore 89 0 (e_aload_aload_n 90 0 0 0 rfl (e_invV_invokevirtual 91 1679745 132 1 189 12 rfl rfl rfl rfl rfl rfl (e_iload_iload 94 0 6 (e_ireturn 96 0 )))))))))))))))))))))))
set_option maxHeartbeats 100000 in
def k196_51 : ex_C := c_psh 3 (c_invV [] cd_196 52 3 181 12 (c_if_eq 60 (c_psh 0 (c_ireturn  0))))
set_option maxHeartbeats 100000 in
theorem kE196_51 : ex_CE 0 [] cd_196 k196_51 q196_51 := e_psh_iconst 51 3 3 (e_invV_invokevirtual 52 1614211 106 3 181 12 rfl rfl rfl rfl rfl rfl (e_if_eq 55 60 5 (e_psh_iconst 58 0 0 (e_ireturn 59 0 ))))
set_option maxHeartbeats 100000 in
def k196_50 : ex_C := c_psh 0 (k196_51)
set_option maxHeartbeats 100000 in
theorem kE196_50 : ex_CE 0 [] cd_196 k196_50 q196_50 := e_psh_iconst 50 0 0 (kE196_51)
set_option maxHeartbeats 100000 in
def k196_46 : ex_C := c_psh 1 (c_goto 51)
set_option maxHeartbeats 100000 in
theorem kE196_46 : ex_CE 0 [] cd_196 k196_46 q196_46 := e_psh_iconst 46 1 1 (e_goto 47 51 4)
set_option maxHeartbeats 100000 in
def k196_25 : ex_C := c_aload 0 (c_iload 2 (c_iload 3 (c_invV [] cd_196 28 3 194 12 (c_istore 5 (c_aload 0 (c_iload 5 (c_psh 4294967295 (c_icmp_eq 46 (c_iload 5 (c_iload 1 (c_icmp_ne 50 (k196_46))))))))))))
set_option maxHeartbeats 100000 in
theorem kE196_25 : ex_CE 0 [] cd_196 k196_25 q196_25 := e_aload_aload_n 25 0 0 0 rfl (e_iload_iload_n 26 0 2 2 rfl (e_iload_iload_n 27 0 3 3 rfl (e_invV_invokevirtual 28 1720707 155 3 194 12 rfl rfl rfl rfl rfl rfl (e_istore_istore 31 0 5 (e_aload_aload_n 33 0 0 0 rfl (e_iload_iload 34 0 5 (e_psh_iconst 36 4294967295 (-1) (e_icmp_eq 37 46 9 (e_iload_iload 40 0 5 (e_iload_iload_n 42 0 1 1 rfl (e_icmp_ne 43 50 7 (kE196_46))))))))))))
set_option maxHeartbeats 100000 in
def k196_23 : ex_C := c_psh 0 (c_ireturn  0)
set_option maxHeartbeats 100000 in
theorem kE196_23 : ex_CE 0 [] cd_196 k196_23 q196_23 := e_psh_iconst 23 0 0 (e_ireturn 24 0 )
set_option maxHeartbeats 100000 in
def k196_0 : ex_C := c_aload 0 (c_iload 1 (c_invV [] cd_196 2 2 182 12 (c_if_ne 23 (c_aload 0 (c_iload 2 (c_iload 3 (c_iload 4 (c_invS [] cd_196 13 3 195 (c_psh 2 (c_invV [] cd_196 17 3 181 12 (c_if_eq 25 (k196_23))))))))))))
set_option maxHeartbeats 100000 in
theorem kE196_0 : ex_CE 0 [] cd_196 k196_0 q196_0 := e_aload_aload_n 0 0 0 0 rfl (e_iload_iload_n 1 0 1 1 rfl (e_invV_invokevirtual 2 1622402 141 2 182 12 rfl rfl rfl rfl rfl rfl (e_if_ne 5 23 18 (e_aload_aload_n 8 0 0 0 rfl (e_iload_iload_n 9 0 2 2 rfl (e_iload_iload_n 10 0 3 3 rfl (e_iload_iload 11 0 4 (e_invS 13 1736675 151 3 195 rfl rfl rfl (e_psh_iconst 16 2 2 (e_invV_invokevirtual 17 1614211 106 3 181 12 rfl rfl rfl rfl rfl rfl (e_if_eq 20 25 5 (kE196_23))))))))))))
def kt_196 : Nat → Option ex_C := fun pc => @Bool.rec (fun _ => Nat → Option ex_C) (fun pc => @Bool.rec (fun _ => Nat → Option ex_C) (fun pc => @Bool.rec (fun _ => Nat → Option ex_C) (fun pc => @Bool.rec (fun _ => Option ex_C) none (some k196_60) (Nat.beq pc 60)) (fun pc => @Bool.rec (fun _ => Option ex_C) none (some k196_51) (Nat.beq pc 51)) (Nat.ble pc 51) pc) (fun pc => @Bool.rec (fun _ => Nat → Option ex_C) (fun pc => @Bool.rec (fun _ => Option ex_C) none (some k196_50) (Nat.beq pc 50)) (fun pc => @Bool.rec (fun _ => Option ex_C) none (some k196_46) (Nat.beq pc 46)) (Nat.ble pc 46) pc) (Nat.ble pc 50) pc) (fun pc => @Bool.rec (fun _ => Nat → Option ex_C) (fun pc => @Bool.rec (fun _ => Nat → Option ex_C) (fun pc => @Bool.rec (fun _ => Option ex_C) none (some k196_25) (Nat.beq pc 25)) (fun pc => @Bool.rec (fun _ => Option ex_C) none (some k196_23) (Nat.beq pc 23)) (Nat.ble pc 23) pc) (fun pc => @Bool.rec (fun _ => Option ex_C) none (some k196_0) (Nat.beq pc 0)) (Nat.ble pc 0) pc) (Nat.ble pc 25) pc
theorem ktE_196 : ex_CTT 0 [] cd_196 kt_196 cd_196 := (ex_ct2 (ex_ct2 (ex_ct1 kE196_0) (ex_ct2 (ex_ct1 kE196_23) (ex_ct1 kE196_25))) (ex_ct2 (ex_ct2 (ex_ct1 kE196_46) (ex_ct1 kE196_50)) (ex_ct2 (ex_ct1 kE196_51) (ex_ct1 kE196_60))))
set_option maxHeartbeats 100000 in
def k197_57 : ex_C := c_aload 0 (c_gf 12 0 (c_iload 1 (c_iaload (c_istore 3 (c_aload 0 (c_gf 12 1 (c_iload 1 (c_iaload (c_istore 4 (c_aload 0 (c_gf 12 2 (c_iload 1 (c_iaload (c_istore 5 (c_aload 0 (c_gf 12 0 (c_iload 1 (c_aload 0 (c_gf 12 0 (c_iload 2 (c_iaload (c_iastore (c_aload 0 (c_gf 12 1 (c_iload 1 (c_aload 0 (c_gf 12 1 (c_iload 2 (c_iaload (c_iastore (c_aload 0 (c_gf 12 2 (c_iload 1 (c_aload 0 (c_gf 12 2 (c_iload 2 (c_iaload (c_iastore (c_aload 0 (c_gf 12 0 (c_iload 2 (c_iload 3 (c_iastore (c_aload 0 (c_gf 12 1 (c_iload 2 (c_iload 4 (c_iastore (c_aload 0 (c_gf 12 2 (c_iload 2 (c_iload 5 (c_iastore (c_aload 0 (c_invV [] cd_197 140 1 189 12 (c_aload 0 (c_gf 12 0 (c_iload 1 (c_iaload (c_iload 3 (c_isub (c_invS [] cd_197 151 1 299 (c_aload 0 (c_gf 12 1 (c_iload 1 (c_iaload (c_iload 4 (c_isub (c_invS [] cd_197 163 1 299 (c_iadd (c_ireturn  0)))))))))))))))))))))))))))))))))))))))))))))))))))))))))))))))))))))))
set_option maxHeartbeats 100000 in
theorem kE197_57 : ex_CE 0 [] cd_197 k197_57 q197_57 := e_aload_aload_n 57 0 0 0 rfl (e_gf 58 86784 7 12 0 rfl rfl (e_iload_iload_n 61 0 1 1 rfl (e_iaload 62 0 (e_istore_istore_n 63 0 3 3 rfl (e_aload_aload_n 64 0 0 0 rfl (e_gf 65 86785 13 12 1 rfl rfl (e_iload_iload_n 68 0 1 1 rfl (e_iaload 69 0 (e_istore_istore 70 0 4 (e_aload_aload_n 72 0 0 0 rfl (e_gf 73 86786 16 12 2 rfl rfl (e_iload_iload_n 76 0 1 1 rfl (e_iaload 77 0 (e_istore_istore 78 0 5 (e_aload_aload_n 80 0 0 0 rfl (e_gf 81 86784 7 12 0 rfl rfl (e_iload_iload_n 84 0 1 1 rfl (e_aload_aload_n 85 0 0 0 rfl (e_gf 86 86784 7 12 0 rfl rfl (e_iload_iload_n 89 0 2 2 rfl (e_iaload 90 0 (e_iastore 91 0 (e_aload_aload_n 92 0 0 0 rfl (e_gf 93 86785 13 12 1 rfl rfl (e_iload_iload_n 96 0 1 1 rfl (e_aload_aload_n 97 0 0 0 rfl (e_gf 98 86785 13 12 1 rfl rfl (e_iload_iload_n 101 0 2 2 rfl (e_iaload 102 0 (e_iastore 103 0 (e_aload_aload_n 104 0 0 0 rfl (e_gf 105 86786 16 12 2 rfl rfl (e_iload_iload_n 108 0 1 1 rfl (e_aload_aload_n 109 0 0 0 rfl (e_gf 110 86786 16 12 2 rfl rfl (e_iload_iload_n 113 0 2 2 rfl (e_iaload 114 0 (e_iastore 115 0 (e_aload_aload_n 116 0 0 0 rfl (e_gf 117 86784 7 12 0 rfl rfl (e_iload_iload_n 120 0 2 2 rfl (e_iload_iload_n 121 0 3 3 rfl (e_iastore 122 0 (e_aload_aload_n 123 0 0 0 rfl (e_gf 124 86785 13 12 1 rfl rfl (e_iload_iload_n 127 0 2 2 rfl (e_iload_iload 128 0 4 (e_iastore 130 0 (e_aload_aload_n 131 0 0 0 rfl (e_gf 132 86786 16 12 2 rfl rfl (e_iload_iload_n 135 0 2 2 rfl (e_iload_iload 136 0 5 (e_iastore 138 0 (e_aload_aload_n 139 0 0 0 rfl (e_invV_invokevirtual 140 1679745 132 1 189 12 rfl rfl rfl rfl rfl rfl (e_aload_aload_n 143 0 0 0 rfl (e_gf 144 86784 7 12 0 rfl rfl (e_iload_iload_n 147 0 1 1 rfl (e_iaload 148 0 (e_iload_iload_n 149 0 3 3 rfl (e_isub 150 0 (e_invS 151 2588641 159 1 299 rfl rfl rfl (e_aload_aload_n 154 0 0 0 rfl (e_gf 155 86785 13 12 1 rfl rfl (e_iload_iload_n 158 0 1 1 rfl (e_iaload 159 0 (e_iload_iload 160 0 4 (e_isub 162 0 (e_invS 163 2588641 159 1 299 rfl rfl rfl (e_iadd 166 0 (e_ireturn 167 0 )))))))))))))))))))))))))))))))))))))))))))))))))))))))))))))))))))))))
set_option maxHeartbeats 100000 in
def k197_55 : ex_C := c_psh 0 (c_ireturn  0)
set_option maxHeartbeats 100000 in
theorem kE197_55 : ex_CE 0 [] cd_197 k197_55 q197_55 := e_psh_iconst 55 0 0 (e_ireturn 56 0 )
set_option maxHeartbeats 100000 in
def k197_48 : ex_C := c_psh 2 (c_invV [] cd_197 49 3 181 12 (c_if_eq 57 (k197_55)))
set_option maxHeartbeats 100000 in
theorem kE197_48 : ex_CE 0 [] cd_197 k197_48 q197_48 := e_psh_iconst 48 2 2 (e_invV_invokevirtual 49 1614211 106 3 181 12 rfl rfl rfl rfl rfl rfl (e_if_eq 52 57 5 (kE197_55)))
set_option maxHeartbeats 100000 in
def k197_47 : ex_C := c_psh 0 (k197_48)
set_option maxHeartbeats 100000 in
theorem kE197_47 : ex_CE 0 [] cd_197 k197_47 q197_47 := e_psh_iconst 47 0 0 (kE197_48)
set_option maxHeartbeats 100000 in
def k197_30 : ex_C := c_psh 1 (c_invV [] cd_197 31 3 181 12 (c_if_ne 55 (c_aload 0 (c_iload 1 (c_iload 2 (c_icmp_eq 47 (c_psh 1 (c_goto 48))))))))
set_option maxHeartbeats 100000 in
theorem kE197_30 : ex_CE 0 [] cd_197 k197_30 q197_30 := e_psh_iconst 30 1 1 (e_invV_invokevirtual 31 1614211 106 3 181 12 rfl rfl rfl rfl rfl rfl (e_if_ne 34 55 21 (e_aload_aload_n 37 0 0 0 rfl (e_iload_iload_n 38 0 1 1 rfl (e_iload_iload_n 39 0 2 2 rfl (e_icmp_eq 40 47 7 (e_psh_iconst 43 1 1 (e_goto 44 48 4))))))))
set_option maxHeartbeats 100000 in
def k197_29 : ex_C := c_psh 0 (k197_30)
set_option maxHeartbeats 100000 in
theorem kE197_29 : ex_CE 0 [] cd_197 k197_29 q197_29 := e_psh_iconst 29 0 0 (kE197_30)
set_option maxHeartbeats 100000 in
def k197_0 : ex_C := c_aload 0 (c_iload 1 (c_i2l   (c_psh 412316860416 (c_psh 412316860423 (c_invS [] cd_197 7 3 180 (c_if_eq 29 (c_iload 2 (c_i2l   (c_psh 412316860416 (c_psh 412316860423 (c_invS [] cd_197 19 3 180 (c_if_eq 29 (c_psh 1 (c_goto 30))))))))))))))
set_option maxHeartbeats 100000 in
theorem kE197_0 : ex_CE 0 [] cd_197 k197_0 q197_0 := e_aload_aload_n 0 0 0 0 rfl (e_iload_iload_n 1 0 1 1 rfl (e_i2l 2 0  (e_psh_lconst 3 412316860416 0 (e_psh_ldc2_w 4 412316860423 100 (e_invS 7 1613795 102 3 180 rfl rfl rfl (e_if_eq 10 29 19 (e_iload_iload_n 13 0 2 2 rfl (e_i2l 14 0  (e_psh_lconst 15 412316860416 0 (e_psh_ldc2_w 16 412316860423 100 (e_invS 19 1613795 102 3 180 rfl rfl rfl (e_if_eq 22 29 7 (e_psh_iconst 25 1 1 (e_goto 26 30 4))))))))))))))
def kt_197 : Nat → Option ex_C := fun pc => @Bool.rec (fun _ => Nat → Option ex_C) (fun pc => @Bool.rec (fun _ => Nat → Option ex_C) (fun pc => @Bool.rec (fun _ => Nat → Option ex_C) (fun pc => @Bool.rec (fun _ => Option ex_C) none (some k197_57) (Nat.beq pc 57)) (fun pc => @Bool.rec (fun _ => Option ex_C) none (some k197_55) (Nat.beq pc 55)) (Nat.ble pc 55) pc) (fun pc => @Bool.rec (fun _ => Nat → Option ex_C) (fun pc => @Bool.rec (fun _ => Option ex_C) none (some k197_48) (Nat.beq pc 48)) (fun pc => @Bool.rec (fun _ => Option ex_C) none (some k197_47) (Nat.beq pc 47)) (Nat.ble pc 47) pc) (Nat.ble pc 48) pc) (fun pc => @Bool.rec (fun _ => Nat → Option ex_C) (fun pc => @Bool.rec (fun _ => Nat → Option ex_C) (fun pc => @Bool.rec (fun _ => Option ex_C) none (some k197_30) (Nat.beq pc 30)) (fun pc => @Bool.rec (fun _ => Option ex_C) none (some k197_29) (Nat.beq pc 29)) (Nat.ble pc 29) pc) (fun pc => @Bool.rec (fun _ => Option ex_C) none (some k197_0) (Nat.beq pc 0)) (Nat.ble pc 0) pc) (Nat.ble pc 30) pc
theorem ktE_197 : ex_CTT 0 [] cd_197 kt_197 cd_197 := (ex_ct2 (ex_ct2 (ex_ct1 kE197_0) (ex_ct2 (ex_ct1 kE197_29) (ex_ct1 kE197_30))) (ex_ct2 (ex_ct2 (ex_ct1 kE197_47) (ex_ct1 kE197_48)) (ex_ct2 (ex_ct1 kE197_55) (ex_ct1 kE197_57))))
set_option maxHeartbeats 100000 in
def k198_19 : ex_C := c_aload 0 (c_aload 0 (c_invV [] cd_198 21 1 185 12 (c_iload 1 (c_invS [] cd_198 25 2 186 (c_invV [] cd_198 28 2 184 12 (c_aload 0 (c_invV [] cd_198 32 1 189 12 (c_aload 0 (c_gf 12 2 (c_psh 0 (c_iaload (c_ireturn  0))))))))))))
set_option maxHeartbeats 100000 in
theorem kE198_19 : ex_CE 0 [] cd_198 k198_19 q198_19 := e_aload_aload_n 19 0 0 0 rfl (e_aload_aload_n 20 0 0 0 rfl (e_invV_invokevirtual 21 1646977 129 1 185 12 rfl rfl rfl rfl rfl rfl (e_iload_iload_n 24 0 1 1 rfl (e_invS 25 1662946 118 2 186 rfl rfl rfl (e_invV_invokevirtual 28 1638786 93 2 184 12 rfl rfl rfl rfl rfl rfl (e_aload_aload_n 31 0 0 0 rfl (e_invV_invokevirtual 32 1679745 132 1 189 12 rfl rfl rfl rfl rfl rfl (e_aload_aload_n 35 0 0 0 rfl (e_gf 36 86786 16 12 2 rfl rfl (e_psh_iconst 39 0 0 (e_iaload 40 0 (e_ireturn 41 0 ))))))))))))
set_option maxHeartbeats 100000 in
def k198_0 : ex_C := c_aload 0 (c_iload 1 (c_i2l   (c_psh 412316860417 (c_psh 412316860419 (c_invS [] cd_198 7 3 180 (c_psh 1 (c_invV [] cd_198 11 3 181 12 (c_if_eq 19 (c_psh 0 (c_ireturn  0))))))))))
set_option maxHeartbeats 100000 in
theorem kE198_0 : ex_CE 0 [] cd_198 k198_0 q198_0 := e_aload_aload_n 0 0 0 0 rfl (e_iload_iload_n 1 0 1 1 rfl (e_i2l 2 0  (e_psh_lconst 3 412316860417 1 (e_psh_ldc2_w 4 412316860419 149 (e_invS 7 1613795 102 3 180 rfl rfl rfl (e_psh_iconst 10 1 1 (e_invV_invokevirtual 11 1614211 106 3 181 12 rfl rfl rfl rfl rfl rfl (e_if_eq 14 19 5 (e_psh_iconst 17 0 0 (e_ireturn 18 0 ))))))))))
def kt_198 : Nat → Option ex_C := fun pc => @Bool.rec (fun _ => Nat → Option ex_C) (fun pc => @Bool.rec (fun _ => Option ex_C) none (some k198_19) (Nat.beq pc 19)) (fun pc => @Bool.rec (fun _ => Option ex_C) none (some k198_0) (Nat.beq pc 0)) (Nat.ble pc 0) pc
theorem ktE_198 : ex_CTT 0 [] cd_198 kt_198 cd_198 := (ex_ct2 (ex_ct1 kE198_0) (ex_ct1 kE198_19))
set_option maxHeartbeats 100000 in
def k199_30 : ex_C := c_ireturn  0
set_option maxHeartbeats 100000 in
theorem kE199_30 : ex_CE 0 [] cd_199 k199_30 q199_30 := e_ireturn 30 0 
set_option maxHeartbeats 100000 in
def k199_29 : ex_C := c_iload 3 (k199_30)
set_option maxHeartbeats 100000 in
theorem kE199_29 : ex_CE 0 [] cd_199 k199_29 q199_29 := e_iload_iload_n 29 0 3 3 rfl (kE199_30)
set_option maxHeartbeats 100000 in
def k199_18 : ex_C := c_psh 1 (c_invV [] cd_199 19 3 181 12 (c_if_eq 29 (c_psh 0 (c_goto 30))))
set_option maxHeartbeats 100000 in
theorem kE199_18 : ex_CE 0 [] cd_199 k199_18 q199_18 := e_psh_iconst 18 1 1 (e_invV_invokevirtual 19 1614211 106 3 181 12 rfl rfl rfl rfl rfl rfl (e_if_eq 22 29 7 (e_psh_iconst 25 0 0 (e_goto 26 30 4))))
set_option maxHeartbeats 100000 in
def k199_17 : ex_C := c_psh 0 (k199_18)
set_option maxHeartbeats 100000 in
theorem kE199_17 : ex_CE 0 [] cd_199 k199_17 q199_17 := e_psh_iconst 17 0 0 (kE199_18)
set_option maxHeartbeats 100000 in
def k199_0 : ex_C := c_aload 0 (c_iload 1 (c_iload 2 (c_invV [] cd_199 3 3 194 12 (c_istore 3 (c_aload 0 (c_iload 3 (c_psh 4294967295 (c_icmp_eq 17 (c_psh 1 (c_goto 18))))))))))
set_option maxHeartbeats 100000 in
theorem kE199_0 : ex_CE 0 [] cd_199 k199_0 q199_0 := e_aload_aload_n 0 0 0 0 rfl (e_iload_iload_n 1 0 1 1 rfl (e_iload_iload_n 2 0 2 2 rfl (e_invV_invokevirtual 3 1720707 155 3 194 12 rfl rfl rfl rfl rfl rfl (e_istore_istore_n 6 0 3 3 rfl (e_aload_aload_n 7 0 0 0 rfl (e_iload_iload_n 8 0 3 3 rfl (e_psh_iconst 9 4294967295 (-1) (e_icmp_eq 10 17 7 (e_psh_iconst 13 1 1 (e_goto 14 18 4))))))))))
def kt_199 : Nat → Option ex_C := fun pc => @Bool.rec (fun _ => Nat → Option ex_C) (fun pc => @Bool.rec (fun _ => Nat → Option ex_C) (fun pc => @Bool.rec (fun _ => Nat → Option ex_C) (fun pc => @Bool.rec (fun _ => Option ex_C) none (some k199_30) (Nat.beq pc 30)) (fun pc => @Bool.rec (fun _ => Option ex_C) none (some k199_29) (Nat.beq pc 29)) (Nat.ble pc 29) pc) (fun pc => @Bool.rec (fun _ => Option ex_C) none (some k199_18) (Nat.beq pc 18)) (Nat.ble pc 18) pc) (fun pc => @Bool.rec (fun _ => Nat → Option ex_C) (fun pc => @Bool.rec (fun _ => Option ex_C) none (some k199_17) (Nat.beq pc 17)) (fun pc => @Bool.rec (fun _ => Option ex_C) none (some k199_0) (Nat.beq pc 0)) (Nat.ble pc 0) pc) (Nat.ble pc 17) pc
theorem ktE_199 : ex_CTT 0 [] cd_199 kt_199 cd_199 := (ex_ct2 (ex_ct2 (ex_ct1 kE199_0) (ex_ct1 kE199_17)) (ex_ct2 (ex_ct1 kE199_18) (ex_ct2 (ex_ct1 kE199_29) (ex_ct1 kE199_30))))
set_option maxHeartbeats 100000 in
def k200_27 : ex_C := c_aload 0 (c_gf 12 3 (c_iload 1 (c_iaload (c_istore 3 (c_aload 0 (c_gf 12 3 (c_iload 1 (c_iload 2 (c_iastore (c_aload 0 (c_aconst_null   (c_pf 12 5 27 (c_iload 3 (c_ireturn  0))))))))))))))
set_option maxHeartbeats 100000 in
theorem kE200_27 : ex_CE 0 [] cd_200 k200_27 q200_27 := e_aload_aload_n 27 0 0 0 rfl (e_gf 28 86787 19 12 3 rfl rfl (e_iload_iload_n 31 0 1 1 rfl (e_iaload 32 0 (e_istore_istore_n 33 0 3 3 rfl (e_aload_aload_n 34 0 0 0 rfl (e_gf 35 86787 19 12 3 rfl rfl (e_iload_iload_n 38 0 1 1 rfl (e_iload_iload_n 39 0 2 2 rfl (e_iastore 40 0 (e_aload_aload_n 41 0 0 0 rfl (e_aconst_null 42 0  (e_pf 43 21275 67 12 5 27 rfl rfl rfl (e_iload_iload_n 46 0 3 3 rfl (e_ireturn 47 0 ))))))))))))))
set_option maxHeartbeats 100000 in
def k200_25 : ex_C := c_psh 0 (c_ireturn  0)
set_option maxHeartbeats 100000 in
theorem kE200_25 : ex_CE 0 [] cd_200 k200_25 q200_25 := e_psh_iconst 25 0 0 (e_ireturn 26 0 )
set_option maxHeartbeats 100000 in
def k200_0 : ex_C := c_aload 0 (c_iload 1 (c_invV [] cd_200 2 2 182 12 (c_if_ne 25 (c_aload 0 (c_iload 2 (c_i2l   (c_psh 412316860416 (c_psh 412316860419 (c_invS [] cd_200 15 3 180 (c_psh 2 (c_invV [] cd_200 19 3 181 12 (c_if_eq 27 (k200_25)))))))))))))
set_option maxHeartbeats 100000 in
theorem kE200_0 : ex_CE 0 [] cd_200 k200_0 q200_0 := e_aload_aload_n 0 0 0 0 rfl (e_iload_iload_n 1 0 1 1 rfl (e_invV_invokevirtual 2 1622402 141 2 182 12 rfl rfl rfl rfl rfl rfl (e_if_ne 5 25 20 (e_aload_aload_n 8 0 0 0 rfl (e_iload_iload_n 9 0 2 2 rfl (e_i2l 10 0  (e_psh_lconst 11 412316860416 0 (e_psh_ldc2_w 12 412316860419 149 (e_invS 15 1613795 102 3 180 rfl rfl rfl (e_psh_iconst 18 2 2 (e_invV_invokevirtual 19 1614211 106 3 181 12 rfl rfl rfl rfl rfl rfl (e_if_eq 22 27 5 (kE200_25)))))))))))))
def kt_200 : Nat → Option ex_C := fun pc => @Bool.rec (fun _ => Nat → Option ex_C) (fun pc => @Bool.rec (fun _ => Nat → Option ex_C) (fun pc => @Bool.rec (fun _ => Option ex_C) none (some k200_27) (Nat.beq pc 27)) (fun pc => @Bool.rec (fun _ => Option ex_C) none (some k200_25) (Nat.beq pc 25)) (Nat.ble pc 25) pc) (fun pc => @Bool.rec (fun _ => Option ex_C) none (some k200_0) (Nat.beq pc 0)) (Nat.ble pc 0) pc
theorem ktE_200 : ex_CTT 0 [] cd_200 kt_200 cd_200 := (ex_ct2 (ex_ct1 kE200_0) (ex_ct2 (ex_ct1 kE200_25) (ex_ct1 kE200_27)))
set_option maxHeartbeats 100000 in
def k201_118 : ex_C := c_aload 0 (c_gf 12 4 (c_psh 3 (c_newarr 64 0 (c_dup   (c_psh 0 (c_iload 1 (c_iastore (c_dup   (c_psh 1 (c_iload 2 (c_iastore (c_dup   (c_psh 2 (c_iload 3 (c_iastore (c_invV [] cd_201 137 2 339 16 (c_pop   (c_aload 0 (c_aconst_null   (c_pf 12 5 27 (c_aload 0 (c_gf 12 4 (c_invV [] cd_201 152 1 333 16 (c_ireturn  0))))))))))))))))))))))))
set_option maxHeartbeats 100000 in
theorem kE201_118 : ex_CE 0 [] cd_201 k201_118 q201_118 := e_aload_aload_n 118 0 0 0 rfl (e_gf 119 86788 25 12 4 rfl rfl (e_psh_iconst 122 3 3 (e_newarr 123 64 0 rfl (e_dup 125 0  (e_psh_iconst 126 0 0 (e_iload_iload_n 127 0 1 1 rfl (e_iastore 128 0 (e_dup 129 0  (e_psh_iconst 130 1 1 (e_iload_iload_n 131 0 2 2 rfl (e_iastore 132 0 (e_dup 133 0  (e_psh_iconst 134 2 2 (e_iload_iload_n 135 0 3 3 rfl (e_iastore 136 0 (e_invV_invokeinterface 137 2908674 83 2 2 339 16 rfl rfl rfl rfl rfl rfl (e_pop 142 0  (e_aload_aload_n 143 0 0 0 rfl (e_aconst_null 144 0  (e_pf 145 21275 67 12 5 27 rfl rfl rfl (e_aload_aload_n 148 0 0 0 rfl (e_gf 149 86788 25 12 4 rfl rfl (e_invV_invokeinterface 152 2859521 178 1 1 333 16 rfl rfl rfl rfl rfl rfl (e_ireturn 157 0 ))))))))))))))))))))))))
set_option maxHeartbeats 100000 in
def k201_116 : ex_C := c_psh 0 (c_ireturn  0)
set_option maxHeartbeats 100000 in
theorem kE201_116 : ex_CE 0 [] cd_201 k201_116 q201_116 := e_psh_iconst 116 0 0 (e_ireturn 117 0 )
set_option maxHeartbeats 100000 in
def k201_109 : ex_C := c_psh 3 (c_invV [] cd_201 110 3 181 12 (c_if_eq 118 (k201_116)))
set_option maxHeartbeats 100000 in
theorem kE201_109 : ex_CE 0 [] cd_201 k201_109 q201_109 := e_psh_iconst 109 3 3 (e_invV_invokevirtual 110 1614211 106 3 181 12 rfl rfl rfl rfl rfl rfl (e_if_eq 113 118 5 (kE201_116)))
set_option maxHeartbeats 100000 in
def k201_108 : ex_C := c_psh 0 (k201_109)
set_option maxHeartbeats 100000 in
theorem kE201_108 : ex_CE 0 [] cd_201 k201_108 q201_108 := e_psh_iconst 108 0 0 (kE201_109)
set_option maxHeartbeats 100000 in
def k201_65 : ex_C := c_aload 0 (c_iload 1 (c_iload 2 (c_iload 3 (c_invS [] cd_201 69 3 195 (c_psh 1 (c_invV [] cd_201 73 3 181 12 (c_if_ne 116 (c_aload 0 (c_iload 4 (c_psh 2 (c_invV [] cd_201 83 3 181 12 (c_if_ne 116 (c_aload 0 (c_aload 0 (c_gf 12 4 (c_invV [] cd_201 94 1 333 16 (c_psh 8 (c_icmp_ge 108 (c_psh 1 (c_goto 109))))))))))))))))))))
set_option maxHeartbeats 100000 in
theorem kE201_65 : ex_CE 0 [] cd_201 k201_65 q201_65 := e_aload_aload_n 65 0 0 0 rfl (e_iload_iload_n 66 0 1 1 rfl (e_iload_iload_n 67 0 2 2 rfl (e_iload_iload_n 68 0 3 3 rfl (e_invS 69 1736675 151 3 195 rfl rfl rfl (e_psh_iconst 72 1 1 (e_invV_invokevirtual 73 1614211 106 3 181 12 rfl rfl rfl rfl rfl rfl (e_if_ne 76 116 40 (e_aload_aload_n 79 0 0 0 rfl (e_iload_iload 80 0 4 (e_psh_iconst 82 2 2 (e_invV_invokevirtual 83 1614211 106 3 181 12 rfl rfl rfl rfl rfl rfl (e_if_ne 86 116 30 (e_aload_aload_n 89 0 0 0 rfl (e_aload_aload_n 90 0 0 0 rfl (e_gf 91 86788 25 12 4 rfl rfl (e_invV_invokeinterface 94 2859521 178 1 1 333 16 rfl rfl rfl rfl rfl rfl (e_psh_bipush 99 8 8 (e_icmp_ge 101 108 7 (e_psh_iconst 104 1 1 (e_goto 105 109 4))))))))))))))))))))
set_option maxHeartbeats 100000 in
def k201_59 : ex_C := c_iand (c_istore 4 (c_goto 14))
set_option maxHeartbeats 100000 in
theorem kE201_59 : ex_CE 0 [] cd_201 k201_59 q201_59 := e_iand 59 0 (e_istore_istore 60 0 4 (e_goto 62 14 (-48)))
set_option maxHeartbeats 100000 in
def k201_58 : ex_C := c_psh 0 (k201_59)
set_option maxHeartbeats 100000 in
theorem kE201_58 : ex_CE 0 [] cd_201 k201_58 q201_58 := e_psh_iconst 58 0 0 (kE201_59)
set_option maxHeartbeats 100000 in
def k201_54 : ex_C := c_psh 1 (c_goto 59)
set_option maxHeartbeats 100000 in
theorem kE201_54 : ex_CE 0 [] cd_201 k201_54 q201_54 := e_psh_iconst 54 1 1 (e_goto 55 59 4)
set_option maxHeartbeats 100000 in
def k201_14 : ex_C := c_aload 5 (c_invV [] cd_201 16 1 327 17 (c_if_eq 65 (c_aload 5 (c_invV [] cd_201 26 1 328 17 (c_checkcast 114 64 (c_astore 6 (c_iload 4 (c_aload 6 (c_psh 0 (c_iaload (c_iload 1 (c_icmp_ne 54 (c_aload 6 (c_psh 1 (c_iaload (c_iload 2 (c_icmp_eq 58 (k201_54))))))))))))))))))
set_option maxHeartbeats 100000 in
theorem kE201_14 : ex_CE 0 [] cd_201 k201_14 q201_14 := e_aload_aload 14 0 5 (e_invV_invokeinterface 16 2810401 169 1 1 327 17 rfl rfl rfl rfl rfl rfl (e_if_eq 21 65 44 (e_aload_aload 24 0 5 (e_invV_invokeinterface 26 2818593 175 1 1 328 17 rfl rfl rfl rfl rfl rfl (e_checkcast 31 64 114 (e_astore_astore 34 0 6 (e_iload_iload 36 0 4 (e_aload_aload 38 0 6 (e_psh_iconst 40 0 0 (e_iaload 41 0 (e_iload_iload_n 42 0 1 1 rfl (e_icmp_ne 43 54 11 (e_aload_aload 46 0 6 (e_psh_iconst 48 1 1 (e_iaload 49 0 (e_iload_iload_n 50 0 2 2 rfl (e_icmp_eq 51 58 7 (kE201_54))))))))))))))))))
set_option maxHeartbeats 100000 in
def k201_0 : ex_C := c_psh 1 (c_istore 4 (c_aload 0 (c_gf 12 4 (c_invV [] cd_201 7 1 344 16 (c_astore 5 (k201_14))))))
set_option maxHeartbeats 100000 in
theorem kE201_0 : ex_CE 0 [] cd_201 k201_0 q201_0 := e_psh_iconst 0 1 1 (e_istore_istore 1 0 4 (e_aload_aload_n 3 0 0 0 rfl (e_gf 4 86788 25 12 4 rfl rfl (e_invV_invokeinterface 7 2949633 165 1 1 344 16 rfl rfl rfl rfl rfl rfl (e_astore_astore 12 0 5 (kE201_14))))))
def kt_201 : Nat → Option ex_C := fun pc => @Bool.rec (fun _ => Nat → Option ex_C) (fun pc => @Bool.rec (fun _ => Nat → Option ex_C) (fun pc => @Bool.rec (fun _ => Nat → Option ex_C) (fun pc => @Bool.rec (fun _ => Nat → Option ex_C) (fun pc => @Bool.rec (fun _ => Option ex_C) none (some k201_118) (Nat.beq pc 118)) (fun pc => @Bool.rec (fun _ => Option ex_C) none (some k201_116) (Nat.beq pc 116)) (Nat.ble pc 116) pc) (fun pc => @Bool.rec (fun _ => Option ex_C) none (some k201_109) (Nat.beq pc 109)) (Nat.ble pc 109) pc) (fun pc => @Bool.rec (fun _ => Nat → Option ex_C) (fun pc => @Bool.rec (fun _ => Option ex_C) none (some k201_108) (Nat.beq pc 108)) (fun pc => @Bool.rec (fun _ => Option ex_C) none (some k201_65) (Nat.beq pc 65)) (Nat.ble pc 65) pc) (Nat.ble pc 108) pc) (fun pc => @Bool.rec (fun _ => Nat → Option ex_C) (fun pc => @Bool.rec (fun _ => Nat → Option ex_C) (fun pc => @Bool.rec (fun _ => Nat → Option ex_C) (fun pc => @Bool.rec (fun _ => Option ex_C) none (some k201_59) (Nat.beq pc 59)) (fun pc => @Bool.rec (fun _ => Option ex_C) none (some k201_58) (Nat.beq pc 58)) (Nat.ble pc 58) pc) (fun pc => @Bool.rec (fun _ => Option ex_C) none (some k201_54) (Nat.beq pc 54)) (Nat.ble pc 54) pc) (fun pc => @Bool.rec (fun _ => Nat → Option ex_C) (fun pc => @Bool.rec (fun _ => Option ex_C) none (some k201_14) (Nat.beq pc 14)) (fun pc => @Bool.rec (fun _ => Option ex_C) none (some k201_0) (Nat.beq pc 0)) (Nat.ble pc 0) pc) (Nat.ble pc 14) pc) (Nat.ble pc 59) pc
theorem ktE_201 : ex_CTT 0 [] cd_201 kt_201 cd_201 := (ex_ct2 (ex_ct2 (ex_ct2 (ex_ct1 kE201_0) (ex_ct1 kE201_14)) (ex_ct2 (ex_ct1 kE201_54) (ex_ct2 (ex_ct1 kE201_58) (ex_ct1 kE201_59)))) (ex_ct2 (ex_ct2 (ex_ct1 kE201_65) (ex_ct1 kE201_108)) (ex_ct2 (ex_ct1 kE201_109) (ex_ct2 (ex_ct1 kE201_116) (ex_ct1 kE201_118)))))
set_option maxHeartbeats 100000 in
def k202_0 : ex_C := c_aload 0 (c_gf 12 4 (c_invV [] cd_202 4 1 333 16 (c_istore 1 (c_aload 0 (c_gf 12 4 (c_invV [] cd_202 14 1 342 16 (c_aload 0 (c_aconst_null   (c_pf 12 5 27 (c_iload 1 (c_ireturn  0)))))))))))
set_option maxHeartbeats 100000 in
theorem kE202_0 : ex_CE 0 [] cd_202 k202_0 q202_0 := e_aload_aload_n 0 0 0 0 rfl (e_gf 1 86788 25 12 4 rfl rfl (e_invV_invokeinterface 4 2859521 178 1 1 333 16 rfl rfl rfl rfl rfl rfl (e_istore_istore_n 9 0 1 1 rfl (e_aload_aload_n 10 0 0 0 rfl (e_gf 11 86788 25 12 4 rfl rfl (e_invV_invokeinterface 14 2933249 126 1 1 342 16 rfl rfl rfl rfl rfl rfl (e_aload_aload_n 19 0 0 0 rfl (e_aconst_null 20 0  (e_pf 21 21275 67 12 5 27 rfl rfl rfl (e_iload_iload_n 24 0 1 1 rfl (e_ireturn 25 0 )))))))))))
def kt_202 : Nat → Option ex_C := fun pc => @Bool.rec (fun _ => Option ex_C) none (some k202_0) (Nat.beq pc 0)
theorem ktE_202 : ex_CTT 0 [] cd_202 kt_202 cd_202 := (ex_ct1 kE202_0)
set_option maxHeartbeats 100000 in
def k203_19 : ex_C := c_aload 0 (c_gf 12 14 (c_istore 2 (c_aload 0 (c_iload 1 (c_pf 12 0 14 (c_iload 2 (c_ireturn  0)))))))
set_option maxHeartbeats 100000 in
theorem kE203_19 : ex_CE 0 [] cd_203 k203_19 q203_19 := e_aload_aload_n 19 0 0 0 rfl (e_gf 20 782 53 12 14 rfl rfl (e_istore_istore_n 23 0 2 2 rfl (e_aload_aload_n 24 0 0 0 rfl (e_iload_iload_n 25 0 1 1 rfl (e_pf 26 782 53 12 0 14 rfl rfl rfl (e_iload_iload_n 29 0 2 2 rfl (e_ireturn 30 0 )))))))
set_option maxHeartbeats 100000 in
def k203_0 : ex_C := c_aload 0 (c_iload 1 (c_i2l   (c_psh 412316860417 (c_psh 412316860419 (c_invS [] cd_203 7 3 180 (c_psh 1 (c_invV [] cd_203 11 3 181 12 (c_if_eq 19 (c_psh 0 (c_ireturn  0))))))))))
set_option maxHeartbeats 100000 in
theorem kE203_0 : ex_CE 0 [] cd_203 k203_0 q203_0 := e_aload_aload_n 0 0 0 0 rfl (e_iload_iload_n 1 0 1 1 rfl (e_i2l 2 0  (e_psh_lconst 3 412316860417 1 (e_psh_ldc2_w 4 412316860419 149 (e_invS 7 1613795 102 3 180 rfl rfl rfl (e_psh_iconst 10 1 1 (e_invV_invokevirtual 11 1614211 106 3 181 12 rfl rfl rfl rfl rfl rfl (e_if_eq 14 19 5 (e_psh_iconst 17 0 0 (e_ireturn 18 0 ))))))))))
def kt_203 : Nat → Option ex_C := fun pc => @Bool.rec (fun _ => Nat → Option ex_C) (fun pc => @Bool.rec (fun _ => Option ex_C) none (some k203_19) (Nat.beq pc 19)) (fun pc => @Bool.rec (fun _ => Option ex_C) none (some k203_0) (Nat.beq pc 0)) (Nat.ble pc 0) pc
theorem ktE_203 : ex_CTT 0 [] cd_203 kt_203 cd_203 := (ex_ct2 (ex_ct1 kE203_0) (ex_ct1 kE203_19))
set_option maxHeartbeats 100000 in
def k204_21 : ex_C := c_aload 0 (c_gf 12 15 (c_istore 2 (c_aload 0 (c_iload 1 (c_pf 12 0 15 (c_aload 0 (c_aconst_null   (c_pf 12 5 27 (c_iload 2 (c_ireturn  0))))))))))
set_option maxHeartbeats 100000 in
theorem kE204_21 : ex_CE 0 [] cd_204 k204_21 q204_21 := e_aload_aload_n 21 0 0 0 rfl (e_gf 22 783 57 12 15 rfl rfl (e_istore_istore_n 25 0 2 2 rfl (e_aload_aload_n 26 0 0 0 rfl (e_iload_iload_n 27 0 1 1 rfl (e_pf 28 783 57 12 0 15 rfl rfl rfl (e_aload_aload_n 31 0 0 0 rfl (e_aconst_null 32 0  (e_pf 33 21275 67 12 5 27 rfl rfl rfl (e_iload_iload_n 36 0 2 2 rfl (e_ireturn 37 0 ))))))))))
set_option maxHeartbeats 100000 in
def k204_0 : ex_C := c_aload 0 (c_iload 1 (c_i2l   (c_psh 412316862316 (c_psh 412316862516 (c_invS [] cd_204 9 3 180 (c_psh 1 (c_invV [] cd_204 13 3 181 12 (c_if_eq 21 (c_psh 0 (c_ireturn  0))))))))))
set_option maxHeartbeats 100000 in
theorem kE204_0 : ex_CE 0 [] cd_204 k204_0 q204_0 := e_aload_aload_n 0 0 0 0 rfl (e_iload_iload_n 1 0 1 1 rfl (e_i2l 2 0  (e_psh_ldc2_w 3 412316862316 182 (e_psh_ldc2_w 6 412316862516 184 (e_invS 9 1613795 102 3 180 rfl rfl rfl (e_psh_iconst 12 1 1 (e_invV_invokevirtual 13 1614211 106 3 181 12 rfl rfl rfl rfl rfl rfl (e_if_eq 16 21 5 (e_psh_iconst 19 0 0 (e_ireturn 20 0 ))))))))))
def kt_204 : Nat → Option ex_C := fun pc => @Bool.rec (fun _ => Nat → Option ex_C) (fun pc => @Bool.rec (fun _ => Option ex_C) none (some k204_21) (Nat.beq pc 21)) (fun pc => @Bool.rec (fun _ => Option ex_C) none (some k204_0) (Nat.beq pc 0)) (Nat.ble pc 0) pc
theorem ktE_204 : ex_CTT 0 [] cd_204 kt_204 cd_204 := (ex_ct2 (ex_ct1 kE204_0) (ex_ct1 kE204_21))
set_option maxHeartbeats 100000 in
def k205_17 : ex_C := c_ireturn  1
set_option maxHeartbeats 100000 in
theorem kE205_17 : ex_CE 1 [] cd_205 k205_17 q205_17 := e_ireturn 17 0 
set_option maxHeartbeats 100000 in
def k205_16 : ex_C := c_psh 0 (k205_17)
set_option maxHeartbeats 100000 in
theorem kE205_16 : ex_CE 1 [] cd_205 k205_16 q205_16 := e_psh_iconst 16 0 0 (kE205_17)
set_option maxHeartbeats 100000 in
def k205_0 : ex_C := c_iload 0 (c_psh 65 (c_icmp_lt 16 (c_iload 0 (c_psh 72 (c_icmp_gt 16 (c_psh 1 (c_goto 17)))))))
set_option maxHeartbeats 100000 in
theorem kE205_0 : ex_CE 1 [] cd_205 k205_0 q205_0 := e_iload_iload_n 0 0 0 0 rfl (e_psh_bipush 1 65 65 (e_icmp_lt 3 16 13 (e_iload_iload_n 6 0 0 0 rfl (e_psh_bipush 7 72 72 (e_icmp_gt 9 16 7 (e_psh_iconst 12 1 1 (e_goto 13 17 4)))))))
def kt_205 : Nat → Option ex_C := fun pc => @Bool.rec (fun _ => Nat → Option ex_C) (fun pc => @Bool.rec (fun _ => Nat → Option ex_C) (fun pc => @Bool.rec (fun _ => Option ex_C) none (some k205_17) (Nat.beq pc 17)) (fun pc => @Bool.rec (fun _ => Option ex_C) none (some k205_16) (Nat.beq pc 16)) (Nat.ble pc 16) pc) (fun pc => @Bool.rec (fun _ => Option ex_C) none (some k205_0) (Nat.beq pc 0)) (Nat.ble pc 0) pc
theorem ktE_205 : ex_CTT 1 [] cd_205 kt_205 cd_205 := (ex_ct2 (ex_ct1 kE205_0) (ex_ct2 (ex_ct1 kE205_16) (ex_ct1 kE205_17)))
set_option maxHeartbeats 100000 in
def k206_57 : ex_C := c_aconst_null   (c_areturn  5)
set_option maxHeartbeats 100000 in
theorem kE206_57 : ex_CE 5 [] cd_206 k206_57 q206_57 := e_aconst_null 57 0  (e_areturn 58 0 )
set_option maxHeartbeats 100000 in
def k206_54 : ex_C := c_goto 22
set_option maxHeartbeats 100000 in
theorem kE206_54 : ex_CE 5 [] cd_206 k206_54 q206_54 := e_goto 54 22 (-32)
set_option maxHeartbeats 100000 in
def k206_22 : ex_C := c_aload 3 (c_invV [] cd_206 23 1 327 17 (c_if_eq 57 (c_aload 3 (c_invV [] cd_206 32 1 328 17 (c_checkcast 190 15 (c_astore 4 (c_aload 4 (c_gf 15 0 (c_iload 2 (c_icmp_ne 54 (c_aload 4 (c_areturn  5))))))))))))
set_option maxHeartbeats 100000 in
theorem kE206_22 : ex_CE 5 [] cd_206 k206_22 q206_22 := e_aload_aload_n 22 0 3 3 rfl (e_invV_invokeinterface 23 2810401 169 1 1 327 17 rfl rfl rfl rfl rfl rfl (e_if_eq 28 57 29 (e_aload_aload_n 31 0 3 3 rfl (e_invV_invokeinterface 32 2818593 175 1 1 328 17 rfl rfl rfl rfl rfl rfl (e_checkcast 37 15 190 (e_astore_astore 40 0 4 (e_aload_aload 42 0 4 (e_gf 44 66496 192 15 0 rfl rfl (e_iload_iload_n 47 0 2 2 rfl (e_icmp_ne 48 54 6 (e_aload_aload 51 0 4 (e_areturn 53 0 ))))))))))))
set_option maxHeartbeats 100000 in
def k206_0 : ex_C := c_aload 0 (c_gf 12 9 (c_iload 1 (c_psh 65 (c_isub (c_invV [] cd_206 8 2 337 16 (c_checkcast 84 16 (c_invV [] cd_206 16 1 344 16 (c_astore 3 (k206_22)))))))))
set_option maxHeartbeats 100000 in
theorem kE206_0 : ex_CE 5 [] cd_206 k206_0 q206_0 := e_aload_aload_n 0 0 0 0 rfl (e_gf 1 86793 41 12 9 rfl rfl (e_iload_iload_n 4 0 1 1 rfl (e_psh_bipush 5 65 65 (e_isub 7 0 (e_invV_invokeinterface 8 2892290 186 2 2 337 16 rfl rfl rfl rfl rfl rfl (e_checkcast 13 16 84 (e_invV_invokeinterface 16 2949633 165 1 1 344 16 rfl rfl rfl rfl rfl rfl (e_astore_astore_n 21 0 3 3 rfl (kE206_22)))))))))
def kt_206 : Nat → Option ex_C := fun pc => @Bool.rec (fun _ => Nat → Option ex_C) (fun pc => @Bool.rec (fun _ => Nat → Option ex_C) (fun pc => @Bool.rec (fun _ => Option ex_C) none (some k206_57) (Nat.beq pc 57)) (fun pc => @Bool.rec (fun _ => Option ex_C) none (some k206_54) (Nat.beq pc 54)) (Nat.ble pc 54) pc) (fun pc => @Bool.rec (fun _ => Nat → Option ex_C) (fun pc => @Bool.rec (fun _ => Option ex_C) none (some k206_22) (Nat.beq pc 22)) (fun pc => @Bool.rec (fun _ => Option ex_C) none (some k206_0) (Nat.beq pc 0)) (Nat.ble pc 0) pc) (Nat.ble pc 22) pc
theorem ktE_206 : ex_CTT 5 [] cd_206 kt_206 cd_206 := (ex_ct2 (ex_ct2 (ex_ct1 kE206_0) (ex_ct1 kE206_22)) (ex_ct2 (ex_ct1 kE206_54) (ex_ct1 kE206_57)))
set_option maxHeartbeats 100000 in
def k207_32 : ex_C := c_ireturn  1
set_option maxHeartbeats 100000 in
theorem kE207_32 : ex_CE 1 [] cd_207 k207_32 q207_32 := e_ireturn 32 0 
set_option maxHeartbeats 100000 in
def k207_31 : ex_C := c_psh 0 (k207_32)
set_option maxHeartbeats 100000 in
theorem kE207_31 : ex_CE 1 [] cd_207 k207_31 q207_31 := e_psh_iconst 31 0 0 (kE207_32)
set_option maxHeartbeats 100000 in
def k207_0 : ex_C := c_psh 17179869211 (c_iload 0 (c_invV [] cd_207 3 2 305 18 (c_if_lt 31 (c_psh 17179869213 (c_iload 1 (c_invV [] cd_207 12 2 305 18 (c_if_lt 31 (c_psh 17179869215 (c_iload 2 (c_invV [] cd_207 21 2 305 18 (c_if_lt 31 (c_psh 1 (c_goto 32)))))))))))))
set_option maxHeartbeats 100000 in
theorem kE207_0 : ex_CE 1 [] cd_207 k207_0 q207_0 := e_psh_ldc 0 17179869211 193 (e_iload_iload_n 2 0 0 0 rfl (e_invV_invokevirtual 3 2630210 195 2 305 18 rfl rfl rfl rfl rfl rfl (e_if_lt 6 31 25 (e_psh_ldc 9 17179869213 200 (e_iload_iload_n 11 0 1 1 rfl (e_invV_invokevirtual 12 2630210 195 2 305 18 rfl rfl rfl rfl rfl rfl (e_if_lt 15 31 16 (e_psh_ldc 18 17179869215 202 (e_iload_iload_n 20 0 2 2 rfl (e_invV_invokevirtual 21 2630210 195 2 305 18 rfl rfl rfl rfl rfl rfl (e_if_lt 24 31 7 (e_psh_iconst 27 1 1 (e_goto 28 32 4)))))))))))))
def kt_207 : Nat → Option ex_C := fun pc => @Bool.rec (fun _ => Nat → Option ex_C) (fun pc => @Bool.rec (fun _ => Nat → Option ex_C) (fun pc => @Bool.rec (fun _ => Option ex_C) none (some k207_32) (Nat.beq pc 32)) (fun pc => @Bool.rec (fun _ => Option ex_C) none (some k207_31) (Nat.beq pc 31)) (Nat.ble pc 31) pc) (fun pc => @Bool.rec (fun _ => Option ex_C) none (some k207_0) (Nat.beq pc 0)) (Nat.ble pc 0) pc
theorem ktE_207 : ex_CTT 1 [] cd_207 kt_207 cd_207 := (ex_ct2 (ex_ct1 kE207_0) (ex_ct2 (ex_ct1 kE207_31) (ex_ct1 kE207_32)))
set_option maxHeartbeats 100000 in
def k208_162 : ex_C := c_aload 6 (c_gf 15 1 (c_psh 3 (c_newarr 66 0 (c_dup   (c_psh 0 (c_iload 3 (c_castore   (c_dup   (c_psh 1 (c_iload 4 (c_castore   (c_dup   (c_psh 2 (c_iload 5 (c_castore   (c_invV [] cd_208 184 2 339 16 (c_pop   (c_aload 0 (c_aconst_null   (c_pf 12 5 27 (c_aload 6 (c_gf 15 1 (c_invV [] cd_208 200 1 333 16 (c_ireturn  0))))))))))))))))))))))))
set_option maxHeartbeats 100000 in
theorem kE208_162 : ex_CE 0 [] cd_208 k208_162 q208_162 := e_aload_aload 162 0 6 (e_gf 164 86977 216 15 1 rfl rfl (e_psh_iconst 167 3 3 (e_newarr 168 66 0 rfl (e_dup 170 0  (e_psh_iconst 171 0 0 (e_iload_iload_n 172 0 3 3 rfl (e_castore 173 0  (e_dup 174 0  (e_psh_iconst 175 1 1 (e_iload_iload 176 0 4 (e_castore 178 0  (e_dup 179 0  (e_psh_iconst 180 2 2 (e_iload_iload 181 0 5 (e_castore 183 0  (e_invV_invokeinterface 184 2908674 83 2 2 339 16 rfl rfl rfl rfl rfl rfl (e_pop 189 0  (e_aload_aload_n 190 0 0 0 rfl (e_aconst_null 191 0  (e_pf 192 21275 67 12 5 27 rfl rfl rfl (e_aload_aload 195 0 6 (e_gf 197 86977 216 15 1 rfl rfl (e_invV_invokeinterface 200 2859521 178 1 1 333 16 rfl rfl rfl rfl rfl rfl (e_ireturn 205 0 ))))))))))))))))))))))))
set_option maxHeartbeats 100000 in
def k208_123 : ex_C := c_aload 6 (c_ifnonnull 37 162 (c_newo 5192296858534827628530496329220879 3 (c_dup   (c_iload 2 (c_invP [] cd_208 133 2 176 (c_astore 6 (c_aload 0 (c_gf 12 9 (c_iload 1 (c_psh 65 (c_isub (c_invV [] cd_208 146 2 337 16 (c_checkcast 84 16 (c_aload 6 (c_invV [] cd_208 156 2 339 16 (c_pop   (k208_162)))))))))))))))))
set_option maxHeartbeats 100000 in
theorem kE208_123 : ex_CE 0 [] cd_208 k208_123 q208_123 := e_aload_aload 123 0 6 (e_ifnonnull 125 162 37 (e_newo 128 15 190 5192296858534827628530496329220879 3 rfl rfl rfl (e_dup 131 0  (e_iload_iload_n 132 0 2 2 rfl (e_invP 133 1580994 219 2 176 rfl rfl rfl rfl (e_astore_astore 136 0 6 (e_aload_aload_n 138 0 0 0 rfl (e_gf 139 86793 41 12 9 rfl rfl (e_iload_iload_n 142 0 1 1 rfl (e_psh_bipush 143 65 65 (e_isub 145 0 (e_invV_invokeinterface 146 2892290 186 2 2 337 16 rfl rfl rfl rfl rfl rfl (e_checkcast 151 16 84 (e_aload_aload 154 0 6 (e_invV_invokeinterface 156 2908674 83 2 2 339 16 rfl rfl rfl rfl rfl rfl (e_pop 161 0  (kE208_162)))))))))))))))))
set_option maxHeartbeats 100000 in
def k208_114 : ex_C := c_psh 2 (c_invV [] cd_208 115 3 181 12 (c_if_eq 123 (c_psh 0 (c_ireturn  0))))
set_option maxHeartbeats 100000 in
theorem kE208_114 : ex_CE 0 [] cd_208 k208_114 q208_114 := e_psh_iconst 114 2 2 (e_invV_invokevirtual 115 1614211 106 3 181 12 rfl rfl rfl rfl rfl rfl (e_if_eq 118 123 5 (e_psh_iconst 121 0 0 (e_ireturn 122 0 ))))
set_option maxHeartbeats 100000 in
def k208_113 : ex_C := c_psh 0 (k208_114)
set_option maxHeartbeats 100000 in
theorem kE208_113 : ex_CE 0 [] cd_208 k208_113 q208_113 := e_psh_iconst 113 0 0 (kE208_114)
set_option maxHeartbeats 100000 in
def k208_94 : ex_C := c_aload 6 (c_gf 15 1 (c_invV [] cd_208 99 1 333 16 (c_psh 8 (c_icmp_ge 113 (c_psh 1 (c_goto 114))))))
set_option maxHeartbeats 100000 in
theorem kE208_94 : ex_CE 0 [] cd_208 k208_94 q208_94 := e_aload_aload 94 0 6 (e_gf 96 86977 216 15 1 rfl rfl (e_invV_invokeinterface 99 2859521 178 1 1 333 16 rfl rfl rfl rfl rfl rfl (e_psh_bipush 104 8 8 (e_icmp_ge 106 113 7 (e_psh_iconst 109 1 1 (e_goto 110 114 4))))))
set_option maxHeartbeats 100000 in
def k208_90 : ex_C := c_psh 0 (c_goto 114)
set_option maxHeartbeats 100000 in
theorem kE208_90 : ex_CE 0 [] cd_208 k208_90 q208_90 := e_psh_iconst 90 0 0 (e_goto 91 114 23)
set_option maxHeartbeats 100000 in
def k208_47 : ex_C := c_aload 0 (c_iload 1 (c_iload 2 (c_invV [] cd_208 50 3 206 12 (c_astore 6 (c_aload 0 (c_aload 6 (c_ifnonnull 36 94 (c_aload 0 (c_gf 12 9 (c_iload 1 (c_psh 65 (c_isub (c_invV [] cd_208 69 2 337 16 (c_checkcast 84 16 (c_invV [] cd_208 77 1 333 16 (c_psh 3 (c_icmp_ge 90 (c_psh 1 (c_goto 114)))))))))))))))))))
set_option maxHeartbeats 100000 in
theorem kE208_47 : ex_CE 0 [] cd_208 k208_47 q208_47 := e_aload_aload_n 47 0 0 0 rfl (e_iload_iload_n 48 0 1 1 rfl (e_iload_iload_n 49 0 2 2 rfl (e_invV_invokevirtual 50 1819011 212 3 206 12 rfl rfl rfl rfl rfl rfl (e_astore_astore 53 0 6 (e_aload_aload_n 55 0 0 0 rfl (e_aload_aload 56 0 6 (e_ifnonnull 58 94 36 (e_aload_aload_n 61 0 0 0 rfl (e_gf 62 86793 41 12 9 rfl rfl (e_iload_iload_n 65 0 1 1 rfl (e_psh_bipush 66 65 65 (e_isub 68 0 (e_invV_invokeinterface 69 2892290 186 2 2 337 16 rfl rfl rfl rfl rfl rfl (e_checkcast 74 16 84 (e_invV_invokeinterface 77 2859521 178 1 1 333 16 rfl rfl rfl rfl rfl rfl (e_psh_iconst 82 3 3 (e_icmp_ge 83 90 7 (e_psh_iconst 86 1 1 (e_goto 87 114 27)))))))))))))))))))
set_option maxHeartbeats 100000 in
def k208_38 : ex_C := c_psh 1 (c_invV [] cd_208 39 3 181 12 (c_if_eq 47 (c_psh 0 (c_ireturn  0))))
set_option maxHeartbeats 100000 in
theorem kE208_38 : ex_CE 0 [] cd_208 k208_38 q208_38 := e_psh_iconst 38 1 1 (e_invV_invokevirtual 39 1614211 106 3 181 12 rfl rfl rfl rfl rfl rfl (e_if_eq 42 47 5 (e_psh_iconst 45 0 0 (e_ireturn 46 0 ))))
set_option maxHeartbeats 100000 in
def k208_37 : ex_C := c_psh 0 (k208_38)
set_option maxHeartbeats 100000 in
theorem kE208_37 : ex_CE 0 [] cd_208 k208_37 q208_37 := e_psh_iconst 37 0 0 (kE208_38)
set_option maxHeartbeats 100000 in
def k208_0 : ex_C := c_aload 0 (c_iload 1 (c_invS [] cd_208 2 1 205 (c_if_eq 37 (c_iload 2 (c_i2l   (c_psh 412316862316 (c_psh 412316862516 (c_invS [] cd_208 16 3 180 (c_if_eq 37 (c_iload 3 (c_iload 4 (c_iload 5 (c_invS [] cd_208 27 3 207 (c_if_eq 37 (c_psh 1 (c_goto 38))))))))))))))))
set_option maxHeartbeats 100000 in
theorem kE208_0 : ex_CE 0 [] cd_208 k208_0 q208_0 := e_aload_aload_n 0 0 0 0 rfl (e_iload_iload_n 1 0 1 1 rfl (e_invS 2 1818593 204 1 205 rfl rfl rfl (e_if_eq 5 37 32 (e_iload_iload_n 8 0 2 2 rfl (e_i2l 9 0  (e_psh_ldc2_w 10 412316862316 182 (e_psh_ldc2_w 13 412316862516 184 (e_invS 16 1613795 102 3 180 rfl rfl rfl (e_if_eq 19 37 18 (e_iload_iload_n 22 0 3 3 rfl (e_iload_iload 23 0 4 (e_iload_iload 25 0 5 (e_invS 27 1834979 208 3 207 rfl rfl rfl (e_if_eq 30 37 7 (e_psh_iconst 33 1 1 (e_goto 34 38 4))))))))))))))))
def kt_208 : Nat → Option ex_C := fun pc => @Bool.rec (fun _ => Nat → Option ex_C) (fun pc => @Bool.rec (fun _ => Nat → Option ex_C) (fun pc => @Bool.rec (fun _ => Nat → Option ex_C) (fun pc => @Bool.rec (fun _ => Nat → Option ex_C) (fun pc => @Bool.rec (fun _ => Option ex_C) none (some k208_162) (Nat.beq pc 162)) (fun pc => @Bool.rec (fun _ => Option ex_C) none (some k208_123) (Nat.beq pc 123)) (Nat.ble pc 123) pc) (fun pc => @Bool.rec (fun _ => Option ex_C) none (some k208_114) (Nat.beq pc 114)) (Nat.ble pc 114) pc) (fun pc => @Bool.rec (fun _ => Nat → Option ex_C) (fun pc => @Bool.rec (fun _ => Option ex_C) none (some k208_113) (Nat.beq pc 113)) (fun pc => @Bool.rec (fun _ => Option ex_C) none (some k208_94) (Nat.beq pc 94)) (Nat.ble pc 94) pc) (Nat.ble pc 113) pc) (fun pc => @Bool.rec (fun _ => Nat → Option ex_C) (fun pc => @Bool.rec (fun _ => Nat → Option ex_C) (fun pc => @Bool.rec (fun _ => Nat → Option ex_C) (fun pc => @Bool.rec (fun _ => Option ex_C) none (some k208_90) (Nat.beq pc 90)) (fun pc => @Bool.rec (fun _ => Option ex_C) none (some k208_47) (Nat.beq pc 47)) (Nat.ble pc 47) pc) (fun pc => @Bool.rec (fun _ => Option ex_C) none (some k208_38) (Nat.beq pc 38)) (Nat.ble pc 38) pc) (fun pc => @Bool.rec (fun _ => Nat → Option ex_C) (fun pc => @Bool.rec (fun _ => Option ex_C) none (some k208_37) (Nat.beq pc 37)) (fun pc => @Bool.rec (fun _ => Option ex_C) none (some k208_0) (Nat.beq pc 0)) (Nat.ble pc 0) pc) (Nat.ble pc 37) pc) (Nat.ble pc 90) pc
theorem ktE_208 : ex_CTT 0 [] cd_208 kt_208 cd_208 := (ex_ct2 (ex_ct2 (ex_ct2 (ex_ct1 kE208_0) (ex_ct1 kE208_37)) (ex_ct2 (ex_ct1 kE208_38) (ex_ct2 (ex_ct1 kE208_47) (ex_ct1 kE208_90)))) (ex_ct2 (ex_ct2 (ex_ct1 kE208_94) (ex_ct1 kE208_113)) (ex_ct2 (ex_ct1 kE208_114) (ex_ct2 (ex_ct1 kE208_123) (ex_ct1 kE208_162)))))
set_option maxHeartbeats 100000 in
def k209_14 : ex_C := c_aload 0 (c_gf 12 9 (c_iload 1 (c_psh 65 (c_isub (c_invV [] cd_209 22 2 337 16 (c_checkcast 84 16 (c_invV [] cd_209 30 1 333 16 (c_istore 2 (c_aload 0 (c_gf 12 9 (c_iload 1 (c_psh 65 (c_isub (c_invV [] cd_209 44 2 337 16 (c_checkcast 84 16 (c_invV [] cd_209 52 1 342 16 (c_aload 0 (c_aconst_null   (c_pf 12 5 27 (c_iload 2 (c_ireturn  0)))))))))))))))))))))
set_option maxHeartbeats 100000 in
theorem kE209_14 : ex_CE 0 [] cd_209 k209_14 q209_14 := e_aload_aload_n 14 0 0 0 rfl (e_gf 15 86793 41 12 9 rfl rfl (e_iload_iload_n 18 0 1 1 rfl (e_psh_bipush 19 65 65 (e_isub 21 0 (e_invV_invokeinterface 22 2892290 186 2 2 337 16 rfl rfl rfl rfl rfl rfl (e_checkcast 27 16 84 (e_invV_invokeinterface 30 2859521 178 1 1 333 16 rfl rfl rfl rfl rfl rfl (e_istore_istore_n 35 0 2 2 rfl (e_aload_aload_n 36 0 0 0 rfl (e_gf 37 86793 41 12 9 rfl rfl (e_iload_iload_n 40 0 1 1 rfl (e_psh_bipush 41 65 65 (e_isub 43 0 (e_invV_invokeinterface 44 2892290 186 2 2 337 16 rfl rfl rfl rfl rfl rfl (e_checkcast 49 16 84 (e_invV_invokeinterface 52 2933249 126 1 1 342 16 rfl rfl rfl rfl rfl rfl (e_aload_aload_n 57 0 0 0 rfl (e_aconst_null 58 0  (e_pf 59 21275 67 12 5 27 rfl rfl rfl (e_iload_iload_n 62 0 2 2 rfl (e_ireturn 63 0 )))))))))))))))))))))
set_option maxHeartbeats 100000 in
def k209_0 : ex_C := c_aload 0 (c_iload 1 (c_invS [] cd_209 2 1 205 (c_psh 1 (c_invV [] cd_209 6 3 181 12 (c_if_eq 14 (c_psh 0 (c_ireturn  0)))))))
set_option maxHeartbeats 100000 in
theorem kE209_0 : ex_CE 0 [] cd_209 k209_0 q209_0 := e_aload_aload_n 0 0 0 0 rfl (e_iload_iload_n 1 0 1 1 rfl (e_invS 2 1818593 204 1 205 rfl rfl rfl (e_psh_iconst 5 1 1 (e_invV_invokevirtual 6 1614211 106 3 181 12 rfl rfl rfl rfl rfl rfl (e_if_eq 9 14 5 (e_psh_iconst 12 0 0 (e_ireturn 13 0 )))))))
def kt_209 : Nat → Option ex_C := fun pc => @Bool.rec (fun _ => Nat → Option ex_C) (fun pc => @Bool.rec (fun _ => Option ex_C) none (some k209_14) (Nat.beq pc 14)) (fun pc => @Bool.rec (fun _ => Option ex_C) none (some k209_0) (Nat.beq pc 0)) (Nat.ble pc 0) pc
theorem ktE_209 : ex_CTT 0 [] cd_209 kt_209 cd_209 := (ex_ct2 (ex_ct1 kE209_0) (ex_ct1 kE209_14))
set_option maxHeartbeats 100000 in
def k210_46 : ex_C := c_iload 1 (c_ireturn  0)
set_option maxHeartbeats 100000 in
theorem kE210_46 : ex_CE 0 [] cd_210 k210_46 q210_46 := e_iload_iload_n 46 0 1 1 rfl (e_ireturn 47 0 )
set_option maxHeartbeats 100000 in
def k210_9 : ex_C := c_aload 2 (c_invV [] cd_210 10 1 327 17 (c_if_eq 46 (c_aload 2 (c_invV [] cd_210 19 1 328 17 (c_checkcast 222 66 (c_astore 3 (c_iload 1 (c_psh 17179869198 (c_psh 17179869211 (c_aload 3 (c_psh 0 (c_caload   (c_invV [] cd_210 37 2 305 18 (c_iaload (c_iadd (c_istore 1 (c_goto 9)))))))))))))))))
set_option maxHeartbeats 100000 in
theorem kE210_9 : ex_CE 0 [] cd_210 k210_9 q210_9 := e_aload_aload_n 9 0 2 2 rfl (e_invV_invokeinterface 10 2810401 169 1 1 327 17 rfl rfl rfl rfl rfl rfl (e_if_eq 15 46 31 (e_aload_aload_n 18 0 2 2 rfl (e_invV_invokeinterface 19 2818593 175 1 1 328 17 rfl rfl rfl rfl rfl rfl (e_checkcast 24 66 222 (e_astore_astore_n 27 0 3 3 rfl (e_iload_iload_n 28 0 1 1 rfl (e_psh_getstatic 29 17179869198 224 (e_psh_ldc 32 17179869211 193 (e_aload_aload_n 34 0 3 3 rfl (e_psh_iconst 35 0 0 (e_caload 36 0  (e_invV_invokevirtual 37 2630210 195 2 305 18 rfl rfl rfl rfl rfl rfl (e_iaload 40 0 (e_iadd 41 0 (e_istore_istore_n 42 0 1 1 rfl (e_goto 43 9 (-34))))))))))))))))))
set_option maxHeartbeats 100000 in
def k210_0 : ex_C := c_psh 0 (c_istore 1 (c_aload 0 (c_invV [] cd_210 3 1 344 16 (c_astore 2 (k210_9)))))
set_option maxHeartbeats 100000 in
theorem kE210_0 : ex_CE 0 [] cd_210 k210_0 q210_0 := e_psh_iconst 0 0 0 (e_istore_istore_n 1 0 1 1 rfl (e_aload_aload_n 2 0 0 0 rfl (e_invV_invokeinterface 3 2949633 165 1 1 344 16 rfl rfl rfl rfl rfl rfl (e_astore_astore_n 8 0 2 2 rfl (kE210_9)))))
def kt_210 : Nat → Option ex_C := fun pc => @Bool.rec (fun _ => Nat → Option ex_C) (fun pc => @Bool.rec (fun _ => Nat → Option ex_C) (fun pc => @Bool.rec (fun _ => Option ex_C) none (some k210_46) (Nat.beq pc 46)) (fun pc => @Bool.rec (fun _ => Option ex_C) none (some k210_9) (Nat.beq pc 9)) (Nat.ble pc 9) pc) (fun pc => @Bool.rec (fun _ => Option ex_C) none (some k210_0) (Nat.beq pc 0)) (Nat.ble pc 0) pc
theorem ktE_210 : ex_CTT 0 [] cd_210 kt_210 cd_210 := (ex_ct2 (ex_ct1 kE210_0) (ex_ct2 (ex_ct1 kE210_9) (ex_ct1 kE210_46)))
set_option maxHeartbeats 100000 in
def k211_23 : ex_C := c_ireturn  0
set_option maxHeartbeats 100000 in
theorem kE211_23 : ex_CE 0 [] cd_211 k211_23 q211_23 := e_ireturn 23 0 
set_option maxHeartbeats 100000 in
def k211_14 : ex_C := c_psh 2 (c_aload 0 (c_gf 15 1 (c_invS [] cd_211 19 1 210 (c_imul (k211_23)))))
set_option maxHeartbeats 100000 in
theorem kE211_14 : ex_CE 0 [] cd_211 k211_14 q211_14 := e_psh_iconst 14 2 2 (e_aload_aload_n 15 0 0 0 rfl (e_gf 16 86977 216 15 1 rfl rfl (e_invS 19 1859553 230 1 210 rfl rfl rfl (e_imul 22 0 (kE211_23)))))
set_option maxHeartbeats 100000 in
def k211_0 : ex_C := c_aload 0 (c_gf 15 2 (c_if_le 14 (c_aload 0 (c_gf 15 2 (c_goto 23)))))
set_option maxHeartbeats 100000 in
theorem kE211_0 : ex_CE 0 [] cd_211 k211_0 q211_0 := e_aload_aload_n 0 0 0 0 rfl (e_gf 1 962 227 15 2 rfl rfl (e_if_le 4 14 10 (e_aload_aload_n 7 0 0 0 rfl (e_gf 8 962 227 15 2 rfl rfl (e_goto 11 23 12)))))
def kt_211 : Nat → Option ex_C := fun pc => @Bool.rec (fun _ => Nat → Option ex_C) (fun pc => @Bool.rec (fun _ => Nat → Option ex_C) (fun pc => @Bool.rec (fun _ => Option ex_C) none (some k211_23) (Nat.beq pc 23)) (fun pc => @Bool.rec (fun _ => Option ex_C) none (some k211_14) (Nat.beq pc 14)) (Nat.ble pc 14) pc) (fun pc => @Bool.rec (fun _ => Option ex_C) none (some k211_0) (Nat.beq pc 0)) (Nat.ble pc 0) pc
theorem ktE_211 : ex_CTT 0 [] cd_211 kt_211 cd_211 := (ex_ct2 (ex_ct1 kE211_0) (ex_ct2 (ex_ct1 kE211_14) (ex_ct1 kE211_23)))
set_option maxHeartbeats 100000 in
def k212_56 : ex_C := c_aload 0 (c_iload 1 (c_iload 2 (c_invV [] cd_212 59 3 206 12 (c_astore 4 (c_aload 4 (c_invS [] cd_212 66 1 211 (c_istore 5 (c_aload 4 (c_iload 3 (c_pf 15 0 2 (c_aload 0 (c_aconst_null   (c_pf 12 5 27 (c_iload 5 (c_ireturn  0)))))))))))))))
set_option maxHeartbeats 100000 in
theorem kE212_56 : ex_CE 0 [] cd_212 k212_56 q212_56 := e_aload_aload_n 56 0 0 0 rfl (e_iload_iload_n 57 0 1 1 rfl (e_iload_iload_n 58 0 2 2 rfl (e_invV_invokevirtual 59 1819011 212 3 206 12 rfl rfl rfl rfl rfl rfl (e_astore_astore 62 0 4 (e_aload_aload 64 0 4 (e_invS 66 1867745 236 1 211 rfl rfl rfl (e_istore_istore 69 0 5 (e_aload_aload 71 0 4 (e_iload_iload_n 73 0 3 3 rfl (e_pf 74 962 227 15 0 2 rfl rfl rfl (e_aload_aload_n 77 0 0 0 rfl (e_aconst_null 78 0  (e_pf 79 21275 67 12 5 27 rfl rfl rfl (e_iload_iload 82 0 5 (e_ireturn 84 0 )))))))))))))))
set_option maxHeartbeats 100000 in
def k212_54 : ex_C := c_psh 0 (c_ireturn  0)
set_option maxHeartbeats 100000 in
theorem kE212_54 : ex_CE 0 [] cd_212 k212_54 q212_54 := e_psh_iconst 54 0 0 (e_ireturn 55 0 )
set_option maxHeartbeats 100000 in
def k212_47 : ex_C := c_psh 2 (c_invV [] cd_212 48 3 181 12 (c_if_eq 56 (k212_54)))
set_option maxHeartbeats 100000 in
theorem kE212_47 : ex_CE 0 [] cd_212 k212_47 q212_47 := e_psh_iconst 47 2 2 (e_invV_invokevirtual 48 1614211 106 3 181 12 rfl rfl rfl rfl rfl rfl (e_if_eq 51 56 5 (kE212_54)))
set_option maxHeartbeats 100000 in
def k212_46 : ex_C := c_psh 0 (k212_47)
set_option maxHeartbeats 100000 in
theorem kE212_46 : ex_CE 0 [] cd_212 k212_46 q212_46 := e_psh_iconst 46 0 0 (kE212_47)
set_option maxHeartbeats 100000 in
def k212_25 : ex_C := c_psh 1 (c_invV [] cd_212 26 3 181 12 (c_if_ne 54 (c_aload 0 (c_aload 0 (c_iload 1 (c_iload 2 (c_invV [] cd_212 36 3 206 12 (c_ifnull 7 46 (c_psh 1 (c_goto 47))))))))))
set_option maxHeartbeats 100000 in
theorem kE212_25 : ex_CE 0 [] cd_212 k212_25 q212_25 := e_psh_iconst 25 1 1 (e_invV_invokevirtual 26 1614211 106 3 181 12 rfl rfl rfl rfl rfl rfl (e_if_ne 29 54 25 (e_aload_aload_n 32 0 0 0 rfl (e_aload_aload_n 33 0 0 0 rfl (e_iload_iload_n 34 0 1 1 rfl (e_iload_iload_n 35 0 2 2 rfl (e_invV_invokevirtual 36 1819011 212 3 206 12 rfl rfl rfl rfl rfl rfl (e_ifnull 39 46 7 (e_psh_iconst 42 1 1 (e_goto 43 47 4))))))))))
set_option maxHeartbeats 100000 in
def k212_24 : ex_C := c_psh 0 (k212_25)
set_option maxHeartbeats 100000 in
theorem kE212_24 : ex_CE 0 [] cd_212 k212_24 q212_24 := e_psh_iconst 24 0 0 (kE212_25)
set_option maxHeartbeats 100000 in
def k212_0 : ex_C := c_aload 0 (c_iload 1 (c_invS [] cd_212 2 1 205 (c_if_eq 24 (c_iload 3 (c_i2l   (c_psh 412316860417 (c_psh 412316860515 (c_invS [] cd_212 14 3 180 (c_if_eq 24 (c_psh 1 (c_goto 25)))))))))))
set_option maxHeartbeats 100000 in
theorem kE212_0 : ex_CE 0 [] cd_212 k212_0 q212_0 := e_aload_aload_n 0 0 0 0 rfl (e_iload_iload_n 1 0 1 1 rfl (e_invS 2 1818593 204 1 205 rfl rfl rfl (e_if_eq 5 24 19 (e_iload_iload_n 8 0 3 3 rfl (e_i2l 9 0  (e_psh_lconst 10 412316860417 1 (e_psh_ldc2_w 11 412316860515 234 (e_invS 14 1613795 102 3 180 rfl rfl rfl (e_if_eq 17 24 7 (e_psh_iconst 20 1 1 (e_goto 21 25 4)))))))))))
def kt_212 : Nat → Option ex_C := fun pc => @Bool.rec (fun _ => Nat → Option ex_C) (fun pc => @Bool.rec (fun _ => Nat → Option ex_C) (fun pc => @Bool.rec (fun _ => Nat → Option ex_C) (fun pc => @Bool.rec (fun _ => Option ex_C) none (some k212_56) (Nat.beq pc 56)) (fun pc => @Bool.rec (fun _ => Option ex_C) none (some k212_54) (Nat.beq pc 54)) (Nat.ble pc 54) pc) (fun pc => @Bool.rec (fun _ => Nat → Option ex_C) (fun pc => @Bool.rec (fun _ => Option ex_C) none (some k212_47) (Nat.beq pc 47)) (fun pc => @Bool.rec (fun _ => Option ex_C) none (some k212_46) (Nat.beq pc 46)) (Nat.ble pc 46) pc) (Nat.ble pc 47) pc) (fun pc => @Bool.rec (fun _ => Nat → Option ex_C) (fun pc => @Bool.rec (fun _ => Nat → Option ex_C) (fun pc => @Bool.rec (fun _ => Option ex_C) none (some k212_25) (Nat.beq pc 25)) (fun pc => @Bool.rec (fun _ => Option ex_C) none (some k212_24) (Nat.beq pc 24)) (Nat.ble pc 24) pc) (fun pc => @Bool.rec (fun _ => Option ex_C) none (some k212_0) (Nat.beq pc 0)) (Nat.ble pc 0) pc) (Nat.ble pc 25) pc
theorem ktE_212 : ex_CTT 0 [] cd_212 kt_212 cd_212 := (ex_ct2 (ex_ct2 (ex_ct1 kE212_0) (ex_ct2 (ex_ct1 kE212_24) (ex_ct1 kE212_25))) (ex_ct2 (ex_ct2 (ex_ct1 kE212_46) (ex_ct1 kE212_47)) (ex_ct2 (ex_ct1 kE212_54) (ex_ct1 kE212_56))))
set_option maxHeartbeats 100000 in
def k213_78 : ex_C := c_aload 2 (c_areturn  5)
set_option maxHeartbeats 100000 in
theorem kE213_78 : ex_CE 5 [] cd_213 k213_78 q213_78 := e_aload_aload_n 78 0 2 2 rfl (e_areturn 79 0 )
set_option maxHeartbeats 100000 in
def k213_75 : ex_C := c_goto 24
set_option maxHeartbeats 100000 in
theorem kE213_75 : ex_CE 5 [] cd_213 k213_75 q213_75 := e_goto 75 24 (-51)
set_option maxHeartbeats 100000 in
def k213_72 : ex_C := c_aload 4 (c_astore 2 (k213_75))
set_option maxHeartbeats 100000 in
theorem kE213_72 : ex_CE 5 [] cd_213 k213_72 q213_72 := e_aload_aload 72 0 4 (e_astore_astore_n 74 0 2 2 rfl (kE213_75))
set_option maxHeartbeats 100000 in
def k213_24 : ex_C := c_aload 3 (c_invV [] cd_213 25 1 327 17 (c_if_eq 78 (c_aload 3 (c_invV [] cd_213 34 1 328 17 (c_checkcast 190 15 (c_astore 4 (c_aload 4 (c_gf 15 0 (c_aload 0 (c_gf 12 15 (c_icmp_gt 75 (c_aload 2 (c_ifnull 15 72 (c_aload 4 (c_gf 15 0 (c_aload 2 (c_gf 15 0 (c_icmp_le 75 (k213_72)))))))))))))))))))
set_option maxHeartbeats 100000 in
theorem kE213_24 : ex_CE 5 [] cd_213 k213_24 q213_24 := e_aload_aload_n 24 0 3 3 rfl (e_invV_invokeinterface 25 2810401 169 1 1 327 17 rfl rfl rfl rfl rfl rfl (e_if_eq 30 78 48 (e_aload_aload_n 33 0 3 3 rfl (e_invV_invokeinterface 34 2818593 175 1 1 328 17 rfl rfl rfl rfl rfl rfl (e_checkcast 39 15 190 (e_astore_astore 42 0 4 (e_aload_aload 44 0 4 (e_gf 46 66496 192 15 0 rfl rfl (e_aload_aload_n 49 0 0 0 rfl (e_gf 50 783 57 12 15 rfl rfl (e_icmp_gt 53 75 22 (e_aload_aload_n 56 0 2 2 rfl (e_ifnull 57 72 15 (e_aload_aload 60 0 4 (e_gf 62 66496 192 15 0 rfl rfl (e_aload_aload_n 65 0 2 2 rfl (e_gf 66 66496 192 15 0 rfl rfl (e_icmp_le 69 75 6 (kE213_72)))))))))))))))))))
set_option maxHeartbeats 100000 in
def k213_0 : ex_C := c_aconst_null   (c_astore 2 (c_aload 0 (c_gf 12 9 (c_iload 1 (c_psh 65 (c_isub (c_invV [] cd_213 10 2 337 16 (c_checkcast 84 16 (c_invV [] cd_213 18 1 344 16 (c_astore 3 (k213_24)))))))))))
set_option maxHeartbeats 100000 in
theorem kE213_0 : ex_CE 5 [] cd_213 k213_0 q213_0 := e_aconst_null 0 0  (e_astore_astore_n 1 0 2 2 rfl (e_aload_aload_n 2 0 0 0 rfl (e_gf 3 86793 41 12 9 rfl rfl (e_iload_iload_n 6 0 1 1 rfl (e_psh_bipush 7 65 65 (e_isub 9 0 (e_invV_invokeinterface 10 2892290 186 2 2 337 16 rfl rfl rfl rfl rfl rfl (e_checkcast 15 16 84 (e_invV_invokeinterface 18 2949633 165 1 1 344 16 rfl rfl rfl rfl rfl rfl (e_astore_astore_n 23 0 3 3 rfl (kE213_24)))))))))))
def kt_213 : Nat → Option ex_C := fun pc => @Bool.rec (fun _ => Nat → Option ex_C) (fun pc => @Bool.rec (fun _ => Nat → Option ex_C) (fun pc => @Bool.rec (fun _ => Nat → Option ex_C) (fun pc => @Bool.rec (fun _ => Option ex_C) none (some k213_78) (Nat.beq pc 78)) (fun pc => @Bool.rec (fun _ => Option ex_C) none (some k213_75) (Nat.beq pc 75)) (Nat.ble pc 75) pc) (fun pc => @Bool.rec (fun _ => Option ex_C) none (some k213_72) (Nat.beq pc 72)) (Nat.ble pc 72) pc) (fun pc => @Bool.rec (fun _ => Nat → Option ex_C) (fun pc => @Bool.rec (fun _ => Option ex_C) none (some k213_24) (Nat.beq pc 24)) (fun pc => @Bool.rec (fun _ => Option ex_C) none (some k213_0) (Nat.beq pc 0)) (Nat.ble pc 0) pc) (Nat.ble pc 24) pc
theorem ktE_213 : ex_CTT 5 [] cd_213 kt_213 cd_213 := (ex_ct2 (ex_ct2 (ex_ct1 kE213_0) (ex_ct1 kE213_24)) (ex_ct2 (ex_ct1 kE213_72) (ex_ct2 (ex_ct1 kE213_75) (ex_ct1 kE213_78))))
set_option maxHeartbeats 100000 in
def k214_74 : ex_C := c_aload 4 (c_gf 13 2 (c_aload 5 (c_gf 15 1 (c_invV [] cd_214 84 2 343 16 (c_pop   (c_aload 4 (c_aload 5 (c_invS [] cd_214 94 1 211 (c_pf 13 0 3 (c_aload 4 (c_areturn  5)))))))))))
set_option maxHeartbeats 100000 in
theorem kE214_74 : ex_CE 5 [] cd_214 k214_74 q214_74 := e_aload_aload 74 0 4 (e_gf 76 86850 245 13 2 rfl rfl (e_aload_aload 79 0 5 (e_gf 81 86977 216 15 1 rfl rfl (e_invV_invokeinterface 84 2941442 254 2 2 343 16 rfl rfl rfl rfl rfl rfl (e_pop 89 0  (e_aload_aload 90 0 4 (e_aload_aload 92 0 5 (e_invS 94 1867745 236 1 211 rfl rfl rfl (e_pf 97 835 249 13 0 3 rfl rfl rfl (e_aload_aload 100 0 4 (e_areturn 102 0 )))))))))))
set_option maxHeartbeats 100000 in
def k214_60 : ex_C := c_aload 0 (c_iload 1 (c_invV [] cd_214 62 2 213 12 (c_astore 5 (c_aload 5 (c_ifnonnull 5 74 (c_aconst_null   (c_areturn  5)))))))
set_option maxHeartbeats 100000 in
theorem kE214_60 : ex_CE 5 [] cd_214 k214_60 q214_60 := e_aload_aload_n 60 0 0 0 rfl (e_iload_iload_n 61 0 1 1 rfl (e_invV_invokevirtual 62 1876354 250 2 213 12 rfl rfl rfl rfl rfl rfl (e_astore_astore 65 0 5 (e_aload_aload 67 0 5 (e_ifnonnull 69 74 5 (e_aconst_null 72 0  (e_areturn 73 0 )))))))
set_option maxHeartbeats 100000 in
def k214_0 : ex_C := c_newo 5708990770823839524233143877797980545530987533 4 (c_dup   (c_iload 1 (c_iload 3 (c_invP [] cd_214 6 3 171 (c_astore 4 (c_iload 1 (c_invS [] cd_214 12 1 205 (c_if_ne 60 (c_aload 4 (c_gf 13 2 (c_psh 3 (c_newarr 66 0 (c_dup   (c_psh 0 (c_iload 1 (c_castore   (c_dup   (c_psh 1 (c_iload 2 (c_castore   (c_dup   (c_psh 2 (c_psh 45 (c_castore   (c_invV [] cd_214 39 2 339 16 (c_pop   (c_aload 4 (c_psh 2 (c_aload 4 (c_invV [] cd_214 50 1 172 13 (c_imul (c_pf 13 0 3 (c_aload 4 (c_areturn  5))))))))))))))))))))))))))))))))))
set_option maxHeartbeats 100000 in
theorem kE214_0 : ex_CE 5 [] cd_214 k214_0 q214_0 := e_newo 0 13 240 5708990770823839524233143877797980545530987533 4 rfl rfl rfl (e_dup 3 0  (e_iload_iload_n 4 0 1 1 rfl (e_iload_iload_n 5 0 3 3 rfl (e_invP 6 1540035 242 3 171 rfl rfl rfl rfl (e_astore_astore 9 0 4 (e_iload_iload_n 11 0 1 1 rfl (e_invS 12 1818593 204 1 205 rfl rfl rfl (e_if_ne 15 60 45 (e_aload_aload 18 0 4 (e_gf 20 86850 245 13 2 rfl rfl (e_psh_iconst 23 3 3 (e_newarr 24 66 0 rfl (e_dup 26 0  (e_psh_iconst 27 0 0 (e_iload_iload_n 28 0 1 1 rfl (e_castore 29 0  (e_dup 30 0  (e_psh_iconst 31 1 1 (e_iload_iload_n 32 0 2 2 rfl (e_castore 33 0  (e_dup 34 0  (e_psh_iconst 35 2 2 (e_psh_bipush 36 45 45 (e_castore 38 0  (e_invV_invokeinterface 39 2908674 83 2 2 339 16 rfl rfl rfl rfl rfl rfl (e_pop 44 0  (e_aload_aload 45 0 4 (e_psh_iconst 47 2 2 (e_aload_aload 48 0 4 (e_invV_invokevirtual 50 1540513 246 1 172 13 rfl rfl rfl rfl rfl rfl (e_imul 53 0 (e_pf 54 835 249 13 0 3 rfl rfl rfl (e_aload_aload 57 0 4 (e_areturn 59 0 ))))))))))))))))))))))))))))))))))
def kt_214 : Nat → Option ex_C := fun pc => @Bool.rec (fun _ => Nat → Option ex_C) (fun pc => @Bool.rec (fun _ => Nat → Option ex_C) (fun pc => @Bool.rec (fun _ => Option ex_C) none (some k214_74) (Nat.beq pc 74)) (fun pc => @Bool.rec (fun _ => Option ex_C) none (some k214_60) (Nat.beq pc 60)) (Nat.ble pc 60) pc) (fun pc => @Bool.rec (fun _ => Option ex_C) none (some k214_0) (Nat.beq pc 0)) (Nat.ble pc 0) pc
theorem ktE_214 : ex_CTT 5 [] cd_214 kt_214 cd_214 := (ex_ct2 (ex_ct1 kE214_0) (ex_ct2 (ex_ct1 kE214_60) (ex_ct1 kE214_74)))
set_option maxHeartbeats 100000 in
def k215_62 : ex_C := c_ireturn  1
set_option maxHeartbeats 100000 in
theorem kE215_62 : ex_CE 1 [] cd_215 k215_62 q215_62 := e_ireturn 62 0 
set_option maxHeartbeats 100000 in
def k215_61 : ex_C := c_psh 0 (k215_62)
set_option maxHeartbeats 100000 in
theorem kE215_61 : ex_CE 1 [] cd_215 k215_61 q215_61 := e_psh_iconst 61 0 0 (kE215_62)
set_option maxHeartbeats 100000 in
def k215_57 : ex_C := c_psh 1 (c_goto 62)
set_option maxHeartbeats 100000 in
theorem kE215_57 : ex_CE 1 [] cd_215 k215_57 q215_57 := e_psh_iconst 57 1 1 (e_goto 58 62 4)
set_option maxHeartbeats 100000 in
def k215_50 : ex_C := c_psh 2 (c_invV [] cd_215 51 3 181 12 (c_if_eq 61 (k215_57)))
set_option maxHeartbeats 100000 in
theorem kE215_50 : ex_CE 1 [] cd_215 k215_50 q215_50 := e_psh_iconst 50 2 2 (e_invV_invokevirtual 51 1614211 106 3 181 12 rfl rfl rfl rfl rfl rfl (e_if_eq 54 61 7 (kE215_57)))
set_option maxHeartbeats 100000 in
def k215_49 : ex_C := c_psh 0 (k215_50)
set_option maxHeartbeats 100000 in
theorem kE215_49 : ex_CE 1 [] cd_215 k215_49 q215_49 := e_psh_iconst 49 0 0 (kE215_50)
set_option maxHeartbeats 100000 in
def k215_45 : ex_C := c_psh 1 (c_goto 50)
set_option maxHeartbeats 100000 in
theorem kE215_45 : ex_CE 1 [] cd_215 k215_45 q215_45 := e_psh_iconst 45 1 1 (e_goto 46 50 4)
set_option maxHeartbeats 100000 in
def k215_22 : ex_C := c_psh 1 (c_invV [] cd_215 23 3 181 12 (c_if_ne 57 (c_aload 0 (c_iload 1 (c_invS [] cd_215 31 1 205 (c_if_eq 45 (c_aload 0 (c_iload 1 (c_invV [] cd_215 39 2 213 12 (c_ifnull 7 49 (k215_45)))))))))))
set_option maxHeartbeats 100000 in
theorem kE215_22 : ex_CE 1 [] cd_215 k215_22 q215_22 := e_psh_iconst 22 1 1 (e_invV_invokevirtual 23 1614211 106 3 181 12 rfl rfl rfl rfl rfl rfl (e_if_ne 26 57 31 (e_aload_aload_n 29 0 0 0 rfl (e_iload_iload_n 30 0 1 1 rfl (e_invS 31 1818593 204 1 205 rfl rfl rfl (e_if_eq 34 45 11 (e_aload_aload_n 37 0 0 0 rfl (e_iload_iload_n 38 0 1 1 rfl (e_invV_invokevirtual 39 1876354 250 2 213 12 rfl rfl rfl rfl rfl rfl (e_ifnull 42 49 7 (kE215_45)))))))))))
set_option maxHeartbeats 100000 in
def k215_21 : ex_C := c_psh 0 (k215_22)
set_option maxHeartbeats 100000 in
theorem kE215_21 : ex_CE 1 [] cd_215 k215_21 q215_21 := e_psh_iconst 21 0 0 (kE215_22)
set_option maxHeartbeats 100000 in
def k215_17 : ex_C := c_psh 1 (c_goto 22)
set_option maxHeartbeats 100000 in
theorem kE215_17 : ex_CE 1 [] cd_215 k215_17 q215_17 := e_psh_iconst 17 1 1 (e_goto 18 22 4)
set_option maxHeartbeats 100000 in
def k215_0 : ex_C := c_aload 0 (c_iload 1 (c_invS [] cd_215 2 1 205 (c_if_ne 17 (c_psh 17179869211 (c_iload 1 (c_invV [] cd_215 11 2 305 18 (c_if_lt 21 (k215_17))))))))
set_option maxHeartbeats 100000 in
theorem kE215_0 : ex_CE 1 [] cd_215 k215_0 q215_0 := e_aload_aload_n 0 0 0 0 rfl (e_iload_iload_n 1 0 1 1 rfl (e_invS 2 1818593 204 1 205 rfl rfl rfl (e_if_ne 5 17 12 (e_psh_ldc 8 17179869211 193 (e_iload_iload_n 10 0 1 1 rfl (e_invV_invokevirtual 11 2630210 195 2 305 18 rfl rfl rfl rfl rfl rfl (e_if_lt 14 21 7 (kE215_17))))))))
def kt_215 : Nat → Option ex_C := fun pc => @Bool.rec (fun _ => Nat → Option ex_C) (fun pc => @Bool.rec (fun _ => Nat → Option ex_C) (fun pc => @Bool.rec (fun _ => Nat → Option ex_C) (fun pc => @Bool.rec (fun _ => Nat → Option ex_C) (fun pc => @Bool.rec (fun _ => Option ex_C) none (some k215_62) (Nat.beq pc 62)) (fun pc => @Bool.rec (fun _ => Option ex_C) none (some k215_61) (Nat.beq pc 61)) (Nat.ble pc 61) pc) (fun pc => @Bool.rec (fun _ => Option ex_C) none (some k215_57) (Nat.beq pc 57)) (Nat.ble pc 57) pc) (fun pc => @Bool.rec (fun _ => Nat → Option ex_C) (fun pc => @Bool.rec (fun _ => Option ex_C) none (some k215_50) (Nat.beq pc 50)) (fun pc => @Bool.rec (fun _ => Option ex_C) none (some k215_49) (Nat.beq pc 49)) (Nat.ble pc 49) pc) (Nat.ble pc 50) pc) (fun pc => @Bool.rec (fun _ => Nat → Option ex_C) (fun pc => @Bool.rec (fun _ => Nat → Option ex_C) (fun pc => @Bool.rec (fun _ => Nat → Option ex_C) (fun pc => @Bool.rec (fun _ => Option ex_C) none (some k215_45) (Nat.beq pc 45)) (fun pc => @Bool.rec (fun _ => Option ex_C) none (some k215_22) (Nat.beq pc 22)) (Nat.ble pc 22) pc) (fun pc => @Bool.rec (fun _ => Option ex_C) none (some k215_21) (Nat.beq pc 21)) (Nat.ble pc 21) pc) (fun pc => @Bool.rec (fun _ => Nat → Option ex_C) (fun pc => @Bool.rec (fun _ => Option ex_C) none (some k215_17) (Nat.beq pc 17)) (fun pc => @Bool.rec (fun _ => Option ex_C) none (some k215_0) (Nat.beq pc 0)) (Nat.ble pc 0) pc) (Nat.ble pc 17) pc) (Nat.ble pc 45) pc
theorem ktE_215 : ex_CTT 1 [] cd_215 kt_215 cd_215 := (ex_ct2 (ex_ct2 (ex_ct2 (ex_ct1 kE215_0) (ex_ct1 kE215_17)) (ex_ct2 (ex_ct1 kE215_21) (ex_ct2 (ex_ct1 kE215_22) (ex_ct1 kE215_45)))) (ex_ct2 (ex_ct2 (ex_ct1 kE215_49) (ex_ct1 kE215_50)) (ex_ct2 (ex_ct1 kE215_57) (ex_ct2 (ex_ct1 kE215_61) (ex_ct1 kE215_62)))))
set_option maxHeartbeats 100000 in
def k216_24 : ex_C := c_ireturn  0
set_option maxHeartbeats 100000 in
theorem kE216_24 : ex_CE 0 [] cd_216 k216_24 q216_24 := e_ireturn 24 0 
set_option maxHeartbeats 100000 in
def k216_12 : ex_C := c_aload 0 (c_iload 1 (c_psh 97 (c_psh 45 (c_invV [] cd_216 18 4 214 12 (c_invV [] cd_216 21 1 172 13 (k216_24))))))
set_option maxHeartbeats 100000 in
theorem kE216_12 : ex_CE 0 [] cd_216 k216_12 q216_12 := e_aload_aload_n 12 0 0 0 rfl (e_iload_iload_n 13 0 1 1 rfl (e_psh_bipush 14 97 97 (e_psh_bipush 16 45 45 (e_invV_invokevirtual 18 1884548 261 4 214 12 rfl rfl rfl rfl rfl rfl (e_invV_invokevirtual 21 1540513 246 1 172 13 rfl rfl rfl rfl rfl rfl (kE216_24))))))
set_option maxHeartbeats 100000 in
def k216_0 : ex_C := c_aload 0 (c_iload 1 (c_invV [] cd_216 2 2 215 12 (c_if_eq 12 (c_psh 0 (c_goto 24)))))
set_option maxHeartbeats 100000 in
theorem kE216_0 : ex_CE 0 [] cd_216 k216_0 q216_0 := e_aload_aload_n 0 0 0 0 rfl (e_iload_iload_n 1 0 1 1 rfl (e_invV_invokevirtual 2 1892738 258 2 215 12 rfl rfl rfl rfl rfl rfl (e_if_eq 5 12 7 (e_psh_iconst 8 0 0 (e_goto 9 24 15)))))
def kt_216 : Nat → Option ex_C := fun pc => @Bool.rec (fun _ => Nat → Option ex_C) (fun pc => @Bool.rec (fun _ => Nat → Option ex_C) (fun pc => @Bool.rec (fun _ => Option ex_C) none (some k216_24) (Nat.beq pc 24)) (fun pc => @Bool.rec (fun _ => Option ex_C) none (some k216_12) (Nat.beq pc 12)) (Nat.ble pc 12) pc) (fun pc => @Bool.rec (fun _ => Option ex_C) none (some k216_0) (Nat.beq pc 0)) (Nat.ble pc 0) pc
theorem ktE_216 : ex_CTT 0 [] cd_216 kt_216 cd_216 := (ex_ct2 (ex_ct1 kE216_0) (ex_ct2 (ex_ct1 kE216_12) (ex_ct1 kE216_24)))
end
