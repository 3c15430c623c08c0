noncomputable section
set_option maxHeartbeats 100000 in
def k0_0 : ex_C := c_aload 0 (c_oinit (c_aload 0 (c_psh 8 (c_newarr 64 0 (c_pf 5 5 0 (c_aload 0 (c_psh 24 (c_newarr 64 0 (c_pf 5 5 1 (c_aload 0 (c_psh 24 (c_newarr 64 0 (c_pf 5 5 2 (c_aload 0 (c_psh 24 (c_newarr 64 0 (c_pf 5 5 3 (c_aload 0 (c_psh 24 (c_psh 8 (c_multianewarray 22 2  (c_pf 5 5 4 (c_aload 0 (c_psh 24 (c_psh 8 (c_multianewarray 22 2  (c_pf 5 5 5 (c_aload 0 (c_psh 24 (c_psh 8 (c_multianewarray 22 2  (c_pf 5 5 6 (c_return_  15)))))))))))))))))))))))))))))))))
set_option maxHeartbeats 100000 in
theorem kE0_0 : ex_CE 15 [] cd_0 k0_0 q0_0 := e_aload_aload_n 0 0 0 0 rfl (e_oinit (e_aload_aload_n 4 0 0 0 rfl (e_psh_bipush 5 8 8 (e_newarr 7 64 0 rfl (e_pf 9 86336 9 5 5 0 rfl rfl rfl (e_aload_aload_n 12 0 0 0 rfl (e_psh_bipush 13 24 24 (e_newarr 15 64 0 rfl (e_pf 17 86337 13 5 5 1 rfl rfl rfl (e_aload_aload_n 20 0 0 0 rfl (e_psh_bipush 21 24 24 (e_newarr 23 64 0 rfl (e_pf 25 86338 16 5 5 2 rfl rfl rfl (e_aload_aload_n 28 0 0 0 rfl (e_psh_bipush 29 24 24 (e_newarr 31 64 0 rfl (e_pf 33 86339 19 5 5 3 rfl rfl rfl (e_aload_aload_n 36 0 0 0 rfl (e_psh_bipush 37 24 24 (e_psh_bipush 39 8 8 (e_multianewarray 41 71 22 2 (e_pf 45 86340 24 5 5 4 rfl rfl rfl (e_aload_aload_n 48 0 0 0 rfl (e_psh_bipush 49 24 24 (e_psh_bipush 51 8 8 (e_multianewarray 53 71 22 2 (e_pf 57 86341 27 5 5 5 rfl rfl rfl (e_aload_aload_n 60 0 0 0 rfl (e_psh_bipush 61 24 24 (e_psh_bipush 63 8 8 (e_multianewarray 65 71 22 2 (e_pf 69 86342 30 5 5 6 rfl rfl rfl (e_return_ 72 0 )))))))))))))))))))))))))))))))))
def kt_0 : Nat → Option ex_C := fun pc => @Bool.rec (fun _ => Option ex_C) none (some k0_0) (Nat.beq pc 0)
theorem ktE_0 : ex_CTT 15 [] cd_0 kt_0 cd_0 := (ex_ct1 kE0_0)
set_option maxHeartbeats 100000 in
def k1_47 : ex_C := c_psh 4294967295 (c_ireturn  0)
set_option maxHeartbeats 100000 in
theorem kE1_47 : ex_CE 0 [] cd_1 k1_47 q1_47 := e_psh_iconst 47 4294967295 (-1) (e_ireturn 48 0 )
set_option maxHeartbeats 100000 in
def k1_41 : ex_C := c_iinc 4 1 (c_goto 7)
set_option maxHeartbeats 100000 in
theorem kE1_41 : ex_CE 0 [] cd_1 k1_41 q1_41 := e_iinc 41 1 4 1 (e_goto 44 7 (-37))
set_option maxHeartbeats 100000 in
def k1_7 : ex_C := c_iload 4 (c_iload 3 (c_aload 0 (c_gf 5 0 (c_iload 1 (c_iaload (c_iadd (c_icmp_ge 47 (c_iload 4 (c_psh 24 (c_icmp_ge 47 (c_aload 0 (c_gf 5 1 (c_iload 4 (c_iaload (c_iload 2 (c_icmp_ne 41 (c_iload 4 (c_ireturn  0))))))))))))))))))
set_option maxHeartbeats 100000 in
theorem kE1_7 : ex_CE 0 [] cd_1 k1_7 q1_7 := e_iload_iload 7 0 4 (e_iload_iload_n 9 0 3 3 rfl (e_aload_aload_n 10 0 0 0 rfl (e_gf 11 86336 9 5 0 rfl rfl (e_iload_iload_n 14 0 1 1 rfl (e_iaload 15 0 (e_iadd 16 0 (e_icmp_ge 17 47 30 (e_iload_iload 20 0 4 (e_psh_bipush 22 24 24 (e_icmp_ge 24 47 23 (e_aload_aload_n 27 0 0 0 rfl (e_gf 28 86337 13 5 1 rfl rfl (e_iload_iload 31 0 4 (e_iaload 33 0 (e_iload_iload_n 34 0 2 2 rfl (e_icmp_ne 35 41 6 (e_iload_iload 38 0 4 (e_ireturn 40 0 ))))))))))))))))))
set_option maxHeartbeats 100000 in
def k1_0 : ex_C := c_iload 1 (c_psh 3 (c_imul (c_istore 3 (c_iload 3 (c_istore 4 (k1_7))))))
set_option maxHeartbeats 100000 in
theorem kE1_0 : ex_CE 0 [] cd_1 k1_0 q1_0 := e_iload_iload_n 0 0 1 1 rfl (e_psh_iconst 1 3 3 (e_imul 2 0 (e_istore_istore_n 3 0 3 3 rfl (e_iload_iload_n 4 0 3 3 rfl (e_istore_istore 5 0 4 (kE1_7))))))
def kt_1 : Nat → Option ex_C := fun pc => @Bool.rec (fun _ => Nat → Option ex_C) (fun pc => @Bool.rec (fun _ => Nat → Option ex_C) (fun pc => @Bool.rec (fun _ => Option ex_C) none (some k1_47) (Nat.beq pc 47)) (fun pc => @Bool.rec (fun _ => Option ex_C) none (some k1_41) (Nat.beq pc 41)) (Nat.ble pc 41) pc) (fun pc => @Bool.rec (fun _ => Nat → Option ex_C) (fun pc => @Bool.rec (fun _ => Option ex_C) none (some k1_7) (Nat.beq pc 7)) (fun pc => @Bool.rec (fun _ => Option ex_C) none (some k1_0) (Nat.beq pc 0)) (Nat.ble pc 0) pc) (Nat.ble pc 7) pc
theorem ktE_1 : ex_CTT 0 [] cd_1 kt_1 cd_1 := (ex_ct2 (ex_ct2 (ex_ct1 kE1_0) (ex_ct1 kE1_7)) (ex_ct2 (ex_ct1 kE1_41) (ex_ct1 kE1_47)))
set_option maxHeartbeats 100000 in
def k2_73 : ex_C := c_iload 4 (c_ireturn  0)
set_option maxHeartbeats 100000 in
theorem kE2_73 : ex_CE 0 [] cd_2 k2_73 q2_73 := e_iload_iload 73 0 4 (e_ireturn 75 0 )
set_option maxHeartbeats 100000 in
def k2_67 : ex_C := c_iinc 5 1 (c_goto 10)
set_option maxHeartbeats 100000 in
theorem kE2_67 : ex_CE 0 [] cd_2 k2_67 q2_67 := e_iinc 67 1 5 1 (e_goto 70 10 (-60))
set_option maxHeartbeats 100000 in
def k2_63 : ex_C := c_iload 5 (c_istore 4 (k2_67))
set_option maxHeartbeats 100000 in
theorem kE2_63 : ex_CE 0 [] cd_2 k2_63 q2_63 := e_iload_iload 63 0 5 (e_istore_istore 65 0 4 (kE2_67))
set_option maxHeartbeats 100000 in
def k2_10 : ex_C := c_iload 5 (c_iload 3 (c_aload 0 (c_gf 5 0 (c_iload 1 (c_iaload (c_iadd (c_icmp_ge 73 (c_iload 5 (c_psh 24 (c_icmp_ge 73 (c_aload 0 (c_gf 5 1 (c_iload 5 (c_iaload (c_iload 2 (c_icmp_gt 67 (c_iload 4 (c_if_lt 63 (c_aload 0 (c_gf 5 1 (c_iload 5 (c_iaload (c_aload 0 (c_gf 5 1 (c_iload 4 (c_iaload (c_icmp_le 67 (k2_63))))))))))))))))))))))))))))
set_option maxHeartbeats 100000 in
theorem kE2_10 : ex_CE 0 [] cd_2 k2_10 q2_10 := e_iload_iload 10 0 5 (e_iload_iload_n 12 0 3 3 rfl (e_aload_aload_n 13 0 0 0 rfl (e_gf 14 86336 9 5 0 rfl rfl (e_iload_iload_n 17 0 1 1 rfl (e_iaload 18 0 (e_iadd 19 0 (e_icmp_ge 20 73 53 (e_iload_iload 23 0 5 (e_psh_bipush 25 24 24 (e_icmp_ge 27 73 46 (e_aload_aload_n 30 0 0 0 rfl (e_gf 31 86337 13 5 1 rfl rfl (e_iload_iload 34 0 5 (e_iaload 36 0 (e_iload_iload_n 37 0 2 2 rfl (e_icmp_gt 38 67 29 (e_iload_iload 41 0 4 (e_if_lt 43 63 20 (e_aload_aload_n 46 0 0 0 rfl (e_gf 47 86337 13 5 1 rfl rfl (e_iload_iload 50 0 5 (e_iaload 52 0 (e_aload_aload_n 53 0 0 0 rfl (e_gf 54 86337 13 5 1 rfl rfl (e_iload_iload 57 0 4 (e_iaload 59 0 (e_icmp_le 60 67 7 (kE2_63))))))))))))))))))))))))))))
set_option maxHeartbeats 100000 in
def k2_0 : ex_C := c_iload 1 (c_psh 3 (c_imul (c_istore 3 (c_psh 4294967295 (c_istore 4 (c_iload 3 (c_istore 5 (k2_10))))))))
set_option maxHeartbeats 100000 in
theorem kE2_0 : ex_CE 0 [] cd_2 k2_0 q2_0 := e_iload_iload_n 0 0 1 1 rfl (e_psh_iconst 1 3 3 (e_imul 2 0 (e_istore_istore_n 3 0 3 3 rfl (e_psh_iconst 4 4294967295 (-1) (e_istore_istore 5 0 4 (e_iload_iload_n 7 0 3 3 rfl (e_istore_istore 8 0 5 (kE2_10))))))))
def kt_2 : Nat → Option ex_C := fun pc => @Bool.rec (fun _ => Nat → Option ex_C) (fun pc => @Bool.rec (fun _ => Nat → Option ex_C) (fun pc => @Bool.rec (fun _ => Nat → Option ex_C) (fun pc => @Bool.rec (fun _ => Option ex_C) none (some k2_73) (Nat.beq pc 73)) (fun pc => @Bool.rec (fun _ => Option ex_C) none (some k2_67) (Nat.beq pc 67)) (Nat.ble pc 67) pc) (fun pc => @Bool.rec (fun _ => Option ex_C) none (some k2_63) (Nat.beq pc 63)) (Nat.ble pc 63) pc) (fun pc => @Bool.rec (fun _ => Nat → Option ex_C) (fun pc => @Bool.rec (fun _ => Option ex_C) none (some k2_10) (Nat.beq pc 10)) (fun pc => @Bool.rec (fun _ => Option ex_C) none (some k2_0) (Nat.beq pc 0)) (Nat.ble pc 0) pc) (Nat.ble pc 10) pc
theorem ktE_2 : ex_CTT 0 [] cd_2 kt_2 cd_2 := (ex_ct2 (ex_ct2 (ex_ct1 kE2_0) (ex_ct1 kE2_10)) (ex_ct2 (ex_ct1 kE2_63) (ex_ct2 (ex_ct1 kE2_67) (ex_ct1 kE2_73))))
set_option maxHeartbeats 100000 in
def k3_45 : ex_C := c_ireturn  1
set_option maxHeartbeats 100000 in
theorem kE3_45 : ex_CE 1 [] cd_3 k3_45 q3_45 := e_ireturn 45 0 
set_option maxHeartbeats 100000 in
def k3_44 : ex_C := c_psh 0 (k3_45)
set_option maxHeartbeats 100000 in
theorem kE3_44 : ex_CE 1 [] cd_3 k3_44 q3_44 := e_psh_iconst 44 0 0 (kE3_45)
set_option maxHeartbeats 100000 in
def k3_29 : ex_C := c_aload 0 (c_gf 5 2 (c_iload 3 (c_iaload (c_psh 8 (c_icmp_ge 44 (c_psh 1 (c_goto 45)))))))
set_option maxHeartbeats 100000 in
theorem kE3_29 : ex_CE 1 [] cd_3 k3_29 q3_29 := e_aload_aload_n 29 0 0 0 rfl (e_gf 30 86338 16 5 2 rfl rfl (e_iload_iload_n 33 0 3 3 rfl (e_iaload 34 0 (e_psh_bipush 35 8 8 (e_icmp_ge 37 44 7 (e_psh_iconst 40 1 1 (e_goto 41 45 4)))))))
set_option maxHeartbeats 100000 in
def k3_25 : ex_C := c_psh 0 (c_goto 45)
set_option maxHeartbeats 100000 in
theorem kE3_25 : ex_CE 1 [] cd_3 k3_25 q3_25 := e_psh_iconst 25 0 0 (e_goto 26 45 19)
set_option maxHeartbeats 100000 in
def k3_0 : ex_C := c_aload 0 (c_iload 1 (c_iload 2 (c_invV [] cd_3 3 3 1 5 (c_istore 3 (c_iload 3 (c_if_ge 29 (c_aload 0 (c_gf 5 0 (c_iload 1 (c_iaload (c_psh 3 (c_icmp_ge 25 (c_psh 1 (c_goto 45))))))))))))))
set_option maxHeartbeats 100000 in
theorem kE3_0 : ex_CE 1 [] cd_3 k3_0 q3_0 := e_aload_aload_n 0 0 0 0 rfl (e_iload_iload_n 1 0 1 1 rfl (e_iload_iload_n 2 0 2 2 rfl (e_invV_invokevirtual 3 139427 33 3 1 5 rfl rfl rfl rfl rfl rfl (e_istore_istore_n 6 0 3 3 rfl (e_iload_iload_n 7 0 3 3 rfl (e_if_ge 8 29 21 (e_aload_aload_n 11 0 0 0 rfl (e_gf 12 86336 9 5 0 rfl rfl (e_iload_iload_n 15 0 1 1 rfl (e_iaload 16 0 (e_psh_iconst 17 3 3 (e_icmp_ge 18 25 7 (e_psh_iconst 21 1 1 (e_goto 22 45 23))))))))))))))
def kt_3 : Nat → Option ex_C := fun pc => @Bool.rec (fun _ => Nat → Option ex_C) (fun pc => @Bool.rec (fun _ => Nat → Option ex_C) (fun pc => @Bool.rec (fun _ => Nat → Option ex_C) (fun pc => @Bool.rec (fun _ => Option ex_C) none (some k3_45) (Nat.beq pc 45)) (fun pc => @Bool.rec (fun _ => Option ex_C) none (some k3_44) (Nat.beq pc 44)) (Nat.ble pc 44) pc) (fun pc => @Bool.rec (fun _ => Option ex_C) none (some k3_29) (Nat.beq pc 29)) (Nat.ble pc 29) pc) (fun pc => @Bool.rec (fun _ => Nat → Option ex_C) (fun pc => @Bool.rec (fun _ => Option ex_C) none (some k3_25) (Nat.beq pc 25)) (fun pc => @Bool.rec (fun _ => Option ex_C) none (some k3_0) (Nat.beq pc 0)) (Nat.ble pc 0) pc) (Nat.ble pc 25) pc
theorem ktE_3 : ex_CTT 1 [] cd_3 kt_3 cd_3 := (ex_ct2 (ex_ct2 (ex_ct1 kE3_0) (ex_ct1 kE3_25)) (ex_ct2 (ex_ct1 kE3_29) (ex_ct2 (ex_ct1 kE3_44) (ex_ct1 kE3_45))))
set_option maxHeartbeats 100000 in
def k4_59 : ex_C := c_aload 0 (c_gf 5 2 (c_iload 6 (c_iaload (c_istore 7 (c_aload 0 (c_gf 5 4 (c_iload 6 (c_aaload   (c_iload 7 (c_iload 3 (c_iastore (c_aload 0 (c_gf 5 5 (c_iload 6 (c_aaload   (c_iload 7 (c_iload 4 (c_iastore (c_aload 0 (c_gf 5 6 (c_iload 6 (c_aaload   (c_iload 7 (c_iload 5 (c_iastore (c_aload 0 (c_gf 5 2 (c_iload 6 (c_dup2   (c_iaload (c_psh 1 (c_iadd (c_iastore (c_aload 0 (c_gf 5 2 (c_iload 6 (c_iaload (c_ireturn  0))))))))))))))))))))))))))))))))))))))
set_option maxHeartbeats 100000 in
theorem kE4_59 : ex_CE 0 [] cd_4 k4_59 q4_59 := e_aload_aload_n 59 0 0 0 rfl (e_gf 60 86338 16 5 2 rfl rfl (e_iload_iload 63 0 6 (e_iaload 65 0 (e_istore_istore 66 0 7 (e_aload_aload_n 68 0 0 0 rfl (e_gf 69 86340 24 5 4 rfl rfl (e_iload_iload 72 0 6 (e_aaload 74 0  (e_iload_iload 75 0 7 (e_iload_iload_n 77 0 3 3 rfl (e_iastore 78 0 (e_aload_aload_n 79 0 0 0 rfl (e_gf 80 86341 27 5 5 rfl rfl (e_iload_iload 83 0 6 (e_aaload 85 0  (e_iload_iload 86 0 7 (e_iload_iload 88 0 4 (e_iastore 90 0 (e_aload_aload_n 91 0 0 0 rfl (e_gf 92 86342 30 5 6 rfl rfl (e_iload_iload 95 0 6 (e_aaload 97 0  (e_iload_iload 98 0 7 (e_iload_iload 100 0 5 (e_iastore 102 0 (e_aload_aload_n 103 0 0 0 rfl (e_gf 104 86338 16 5 2 rfl rfl (e_iload_iload 107 0 6 (e_dup2 109 0  (e_iaload 110 0 (e_psh_iconst 111 1 1 (e_iadd 112 0 (e_iastore 113 0 (e_aload_aload_n 114 0 0 0 rfl (e_gf 115 86338 16 5 2 rfl rfl (e_iload_iload 118 0 6 (e_iaload 120 0 (e_ireturn 121 0 ))))))))))))))))))))))))))))))))))))))
set_option maxHeartbeats 100000 in
def k4_0 : ex_C := c_aload 0 (c_iload 1 (c_iload 2 (c_invV [] cd_4 3 3 1 5 (c_istore 6 (c_iload 6 (c_if_ge 59 (c_iload 1 (c_psh 3 (c_imul (c_aload 0 (c_gf 5 0 (c_iload 1 (c_iaload (c_iadd (c_istore 6 (c_aload 0 (c_gf 5 0 (c_iload 1 (c_dup2   (c_iaload (c_psh 1 (c_iadd (c_iastore (c_aload 0 (c_gf 5 1 (c_iload 6 (c_iload 2 (c_iastore (c_aload 0 (c_gf 5 2 (c_iload 6 (c_psh 0 (c_iastore (c_aload 0 (c_gf 5 3 (c_iload 6 (c_psh 0 (c_iastore (k4_59)))))))))))))))))))))))))))))))))))))))
set_option maxHeartbeats 100000 in
theorem kE4_0 : ex_CE 0 [] cd_4 k4_0 q4_0 := e_aload_aload_n 0 0 0 0 rfl (e_iload_iload_n 1 0 1 1 rfl (e_iload_iload_n 2 0 2 2 rfl (e_invV_invokevirtual 3 139427 33 3 1 5 rfl rfl rfl rfl rfl rfl (e_istore_istore 6 0 6 (e_iload_iload 8 0 6 (e_if_ge 10 59 49 (e_iload_iload_n 13 0 1 1 rfl (e_psh_iconst 14 3 3 (e_imul 15 0 (e_aload_aload_n 16 0 0 0 rfl (e_gf 17 86336 9 5 0 rfl rfl (e_iload_iload_n 20 0 1 1 rfl (e_iaload 21 0 (e_iadd 22 0 (e_istore_istore 23 0 6 (e_aload_aload_n 25 0 0 0 rfl (e_gf 26 86336 9 5 0 rfl rfl (e_iload_iload_n 29 0 1 1 rfl (e_dup2 30 0  (e_iaload 31 0 (e_psh_iconst 32 1 1 (e_iadd 33 0 (e_iastore 34 0 (e_aload_aload_n 35 0 0 0 rfl (e_gf 36 86337 13 5 1 rfl rfl (e_iload_iload 39 0 6 (e_iload_iload_n 41 0 2 2 rfl (e_iastore 42 0 (e_aload_aload_n 43 0 0 0 rfl (e_gf 44 86338 16 5 2 rfl rfl (e_iload_iload 47 0 6 (e_psh_iconst 49 0 0 (e_iastore 50 0 (e_aload_aload_n 51 0 0 0 rfl (e_gf 52 86339 19 5 3 rfl rfl (e_iload_iload 55 0 6 (e_psh_iconst 57 0 0 (e_iastore 58 0 (kE4_59)))))))))))))))))))))))))))))))))))))))
def kt_4 : Nat → Option ex_C := fun pc => @Bool.rec (fun _ => Nat → Option ex_C) (fun pc => @Bool.rec (fun _ => Option ex_C) none (some k4_59) (Nat.beq pc 59)) (fun pc => @Bool.rec (fun _ => Option ex_C) none (some k4_0) (Nat.beq pc 0)) (Nat.ble pc 0) pc
theorem ktE_4 : ex_CTT 0 [] cd_4 kt_4 cd_4 := (ex_ct2 (ex_ct1 kE4_0) (ex_ct1 kE4_59))
set_option maxHeartbeats 100000 in
def k5_0 : ex_C := c_aload 0 (c_gf 5 0 (c_iload 1 (c_iaload (c_istore 2 (c_aload 0 (c_gf 5 0 (c_iload 1 (c_psh 0 (c_iastore (c_iload 2 (c_ireturn  0)))))))))))
set_option maxHeartbeats 100000 in
theorem kE5_0 : ex_CE 0 [] cd_5 k5_0 q5_0 := e_aload_aload_n 0 0 0 0 rfl (e_gf 1 86336 9 5 0 rfl rfl (e_iload_iload_n 4 0 1 1 rfl (e_iaload 5 0 (e_istore_istore_n 6 0 2 2 rfl (e_aload_aload_n 7 0 0 0 rfl (e_gf 8 86336 9 5 0 rfl rfl (e_iload_iload_n 11 0 1 1 rfl (e_psh_iconst 12 0 0 (e_iastore 13 0 (e_iload_iload_n 14 0 2 2 rfl (e_ireturn 15 0 )))))))))))
def kt_5 : Nat → Option ex_C := fun pc => @Bool.rec (fun _ => Option ex_C) none (some k5_0) (Nat.beq pc 0)
theorem ktE_5 : ex_CTT 0 [] cd_5 kt_5 cd_5 := (ex_ct1 kE5_0)
set_option maxHeartbeats 100000 in
def k6_0 : ex_C := c_aload 0 (c_oinit (c_aload 0 (c_psh 16 (c_newarr 64 0 (c_pf 3 5 0 (c_aload 0 (c_psh 16 (c_newarr 64 0 (c_pf 3 5 1 (c_aload 0 (c_psh 16 (c_newarr 64 0 (c_pf 3 5 2 (c_aload 0 (c_psh 16 (c_newarr 64 0 (c_pf 3 5 3 (c_aload 0 (c_psh 16 (c_newarr 64 0 (c_pf 3 5 4 (c_aload 0 (c_psh 16 (c_newarr 64 0 (c_pf 3 5 5 (c_aload 0 (c_psh 16 (c_newarr 64 0 (c_pf 3 5 6 (c_aload 0 (c_psh 16 (c_newarr 64 0 (c_pf 3 5 7 (c_aload 0 (c_psh 16 (c_newarr 64 0 (c_pf 3 5 8 (c_aload 0 (c_psh 16 (c_newarr 64 0 (c_pf 3 5 9 (c_aload 0 (c_psh 16 (c_newarr 64 0 (c_pf 3 5 10 (c_aload 0 (c_psh 16 (c_newarr 64 0 (c_pf 3 5 11 (c_aload 0 (c_psh 16 (c_newarr 64 0 (c_pf 3 5 12 (c_aload 0 (c_psh 16 (c_newarr 65 0 (c_pf 3 5 13 (c_aload 0 (c_psh 0 (c_pf 3 0 14 (c_aload 0 (c_psh 1 (c_pf 3 1 15 (c_return_  15))))))))))))))))))))))))))))))))))))))))))))))))))))))))))))))))
set_option maxHeartbeats 100000 in
theorem kE6_0 : ex_CE 15 [] cd_6 k6_0 q6_0 := e_aload_aload_n 0 0 0 0 rfl (e_oinit (e_aload_aload_n 4 0 0 0 rfl (e_psh_bipush 5 16 16 (e_newarr 7 64 0 rfl (e_pf 9 86208 9 3 5 0 rfl rfl rfl (e_aload_aload_n 12 0 0 0 rfl (e_psh_bipush 13 16 16 (e_newarr 15 64 0 rfl (e_pf 17 86209 15 3 5 1 rfl rfl rfl (e_aload_aload_n 20 0 0 0 rfl (e_psh_bipush 21 16 16 (e_newarr 23 64 0 rfl (e_pf 25 86210 18 3 5 2 rfl rfl rfl (e_aload_aload_n 28 0 0 0 rfl (e_psh_bipush 29 16 16 (e_newarr 31 64 0 rfl (e_pf 33 86211 21 3 5 3 rfl rfl rfl (e_aload_aload_n 36 0 0 0 rfl (e_psh_bipush 37 16 16 (e_newarr 39 64 0 rfl (e_pf 41 86212 24 3 5 4 rfl rfl rfl (e_aload_aload_n 44 0 0 0 rfl (e_psh_bipush 45 16 16 (e_newarr 47 64 0 rfl (e_pf 49 86213 27 3 5 5 rfl rfl rfl (e_aload_aload_n 52 0 0 0 rfl (e_psh_bipush 53 16 16 (e_newarr 55 64 0 rfl (e_pf 57 86214 30 3 5 6 rfl rfl rfl (e_aload_aload_n 60 0 0 0 rfl (e_psh_bipush 61 16 16 (e_newarr 63 64 0 rfl (e_pf 65 86215 33 3 5 7 rfl rfl rfl (e_aload_aload_n 68 0 0 0 rfl (e_psh_bipush 69 16 16 (e_newarr 71 64 0 rfl (e_pf 73 86216 36 3 5 8 rfl rfl rfl (e_aload_aload_n 76 0 0 0 rfl (e_psh_bipush 77 16 16 (e_newarr 79 64 0 rfl (e_pf 81 86217 39 3 5 9 rfl rfl rfl (e_aload_aload_n 84 0 0 0 rfl (e_psh_bipush 85 16 16 (e_newarr 87 64 0 rfl (e_pf 89 86218 42 3 5 10 rfl rfl rfl (e_aload_aload_n 92 0 0 0 rfl (e_psh_bipush 93 16 16 (e_newarr 95 64 0 rfl (e_pf 97 86219 45 3 5 11 rfl rfl rfl (e_aload_aload_n 100 0 0 0 rfl (e_psh_bipush 101 16 16 (e_newarr 103 64 0 rfl (e_pf 105 86220 48 3 5 12 rfl rfl rfl (e_aload_aload_n 108 0 0 0 rfl (e_psh_bipush 109 16 16 (e_newarr 111 65 0 rfl (e_pf 113 86221 51 3 5 13 rfl rfl rfl (e_aload_aload_n 116 0 0 0 rfl (e_psh_iconst 117 0 0 (e_pf 118 206 55 3 0 14 rfl rfl rfl (e_aload_aload_n 121 0 0 0 rfl (e_psh_iconst 122 1 1 (e_pf 123 4303 59 3 1 15 rfl rfl rfl (e_return_ 126 0 ))))))))))))))))))))))))))))))))))))))))))))))))))))))))))))))))
def kt_6 : Nat → Option ex_C := fun pc => @Bool.rec (fun _ => Option ex_C) none (some k6_0) (Nat.beq pc 0)
theorem ktE_6 : ex_CTT 15 [] cd_6 kt_6 cd_6 := (ex_ct1 kE6_0)
set_option maxHeartbeats 100000 in
def k7_17 : ex_C := c_aload 0 (c_gf 3 0 (c_aload 0 (c_gf 3 14 (c_iload 1 (c_iastore (c_aload 0 (c_gf 3 1 (c_aload 0 (c_gf 3 14 (c_iload 2 (c_iastore (c_aload 0 (c_gf 3 2 (c_aload 0 (c_gf 3 14 (c_iload 3 (c_psh 3 (c_iand (c_iastore (c_aload 0 (c_gf 3 3 (c_aload 0 (c_gf 3 14 (c_iload 4 (c_iastore (c_aload 0 (c_gf 3 4 (c_aload 0 (c_gf 3 14 (c_iload 5 (c_iastore (c_aload 0 (c_gf 3 5 (c_aload 0 (c_gf 3 14 (c_iload 6 (c_iastore (c_aload 0 (c_gf 3 8 (c_aload 0 (c_gf 3 14 (c_psh 0 (c_iastore (c_aload 0 (c_gf 3 9 (c_aload 0 (c_gf 3 14 (c_psh 0 (c_iastore (c_aload 0 (c_gf 3 10 (c_aload 0 (c_gf 3 14 (c_psh 0 (c_iastore (c_aload 0 (c_dup   (c_gf 3 14 (c_psh 1 (c_iadd (c_pf 3 0 14 (c_return_  15))))))))))))))))))))))))))))))))))))))))))))))))))))))))))))))
set_option maxHeartbeats 100000 in
theorem kE7_17 : ex_CE 15 [] cd_7 k7_17 q7_17 := e_aload_aload_n 17 0 0 0 rfl (e_gf 18 86208 9 3 0 rfl rfl (e_aload_aload_n 21 0 0 0 rfl (e_gf 22 206 55 3 14 rfl rfl (e_iload_iload_n 25 0 1 1 rfl (e_iastore 26 0 (e_aload_aload_n 27 0 0 0 rfl (e_gf 28 86209 15 3 1 rfl rfl (e_aload_aload_n 31 0 0 0 rfl (e_gf 32 206 55 3 14 rfl rfl (e_iload_iload_n 35 0 2 2 rfl (e_iastore 36 0 (e_aload_aload_n 37 0 0 0 rfl (e_gf 38 86210 18 3 2 rfl rfl (e_aload_aload_n 41 0 0 0 rfl (e_gf 42 206 55 3 14 rfl rfl (e_iload_iload_n 45 0 3 3 rfl (e_psh_iconst 46 3 3 (e_iand 47 0 (e_iastore 48 0 (e_aload_aload_n 49 0 0 0 rfl (e_gf 50 86211 21 3 3 rfl rfl (e_aload_aload_n 53 0 0 0 rfl (e_gf 54 206 55 3 14 rfl rfl (e_iload_iload 57 0 4 (e_iastore 59 0 (e_aload_aload_n 60 0 0 0 rfl (e_gf 61 86212 24 3 4 rfl rfl (e_aload_aload_n 64 0 0 0 rfl (e_gf 65 206 55 3 14 rfl rfl (e_iload_iload 68 0 5 (e_iastore 70 0 (e_aload_aload_n 71 0 0 0 rfl (e_gf 72 86213 27 3 5 rfl rfl (e_aload_aload_n 75 0 0 0 rfl (e_gf 76 206 55 3 14 rfl rfl (e_iload_iload 79 0 6 (e_iastore 81 0 (e_aload_aload_n 82 0 0 0 rfl (e_gf 83 86216 36 3 8 rfl rfl (e_aload_aload_n 86 0 0 0 rfl (e_gf 87 206 55 3 14 rfl rfl (e_psh_iconst 90 0 0 (e_iastore 91 0 (e_aload_aload_n 92 0 0 0 rfl (e_gf 93 86217 39 3 9 rfl rfl (e_aload_aload_n 96 0 0 0 rfl (e_gf 97 206 55 3 14 rfl rfl (e_psh_iconst 100 0 0 (e_iastore 101 0 (e_aload_aload_n 102 0 0 0 rfl (e_gf 103 86218 42 3 10 rfl rfl (e_aload_aload_n 106 0 0 0 rfl (e_gf 107 206 55 3 14 rfl rfl (e_psh_iconst 110 0 0 (e_iastore 111 0 (e_aload_aload_n 112 0 0 0 rfl (e_dup 113 0  (e_gf 114 206 55 3 14 rfl rfl (e_psh_iconst 117 1 1 (e_iadd 118 0 (e_pf 119 206 55 3 0 14 rfl rfl rfl (e_return_ 122 0 ))))))))))))))))))))))))))))))))))))))))))))))))))))))))))))))
set_option maxHeartbeats 100000 in
def k7_16 : ex_C := c_return_  15
set_option maxHeartbeats 100000 in
theorem kE7_16 : ex_CE 15 [] cd_7 k7_16 q7_16 := e_return_ 16 0 
set_option maxHeartbeats 100000 in
def k7_0 : ex_C := c_aload 0 (c_gf 3 14 (c_if_lt 16 (c_aload 0 (c_gf 3 14 (c_psh 16 (c_icmp_lt 17 (k7_16)))))))
set_option maxHeartbeats 100000 in
theorem kE7_0 : ex_CE 15 [] cd_7 k7_0 q7_0 := e_aload_aload_n 0 0 0 0 rfl (e_gf 1 206 55 3 14 rfl rfl (e_if_lt 4 16 12 (e_aload_aload_n 7 0 0 0 rfl (e_gf 8 206 55 3 14 rfl rfl (e_psh_bipush 11 16 16 (e_icmp_lt 13 17 4 (kE7_16)))))))
def kt_7 : Nat → Option ex_C := fun pc => @Bool.rec (fun _ => Nat → Option ex_C) (fun pc => @Bool.rec (fun _ => Nat → Option ex_C) (fun pc => @Bool.rec (fun _ => Option ex_C) none (some k7_17) (Nat.beq pc 17)) (fun pc => @Bool.rec (fun _ => Option ex_C) none (some k7_16) (Nat.beq pc 16)) (Nat.ble pc 16) pc) (fun pc => @Bool.rec (fun _ => Option ex_C) none (some k7_0) (Nat.beq pc 0)) (Nat.ble pc 0) pc
theorem ktE_7 : ex_CTT 15 [] cd_7 kt_7 cd_7 := (ex_ct2 (ex_ct1 kE7_0) (ex_ct2 (ex_ct1 kE7_16) (ex_ct1 kE7_17)))
set_option maxHeartbeats 100000 in
def k8_86 : ex_C := c_return_  15
set_option maxHeartbeats 100000 in
theorem kE8_86 : ex_CE 15 [] cd_8 k8_86 q8_86 := e_return_ 86 0 
set_option maxHeartbeats 100000 in
def k8_46 : ex_C := c_invS [] cd_8 46 1 12 (c_ior   (c_istore 4 (c_aload 0 (c_aload 1 (c_gf 1 0 (c_iload 3 (c_iaload (c_aload 1 (c_gf 1 1 (c_iload 3 (c_iaload (c_aload 1 (c_gf 1 2 (c_iload 3 (c_iaload (c_iload 3 (c_aload 2 (c_iload 3 (c_iaload (c_iload 4 (c_invV [] cd_8 77 7 7 3 (c_iinc 3 1 (c_goto 7)))))))))))))))))))))))
set_option maxHeartbeats 100000 in
theorem kE8_46 : ex_CE 15 [] cd_8 k8_46 q8_46 := e_invS 46 237537 63 1 12 rfl rfl rfl (e_ior 49 0  (e_istore_istore 50 0 4 (e_aload_aload_n 52 0 0 0 rfl (e_aload_aload_n 53 0 1 1 rfl (e_gf 54 86080 67 1 0 rfl rfl (e_iload_iload_n 57 0 3 3 rfl (e_iaload 58 0 (e_aload_aload_n 59 0 1 1 rfl (e_gf 60 86081 70 1 1 rfl rfl (e_iload_iload_n 63 0 3 3 rfl (e_iaload 64 0 (e_aload_aload_n 65 0 1 1 rfl (e_gf 66 86082 71 1 2 rfl rfl (e_iload_iload_n 69 0 3 3 rfl (e_iaload 70 0 (e_iload_iload_n 71 0 3 3 rfl (e_aload_aload_n 72 0 2 2 rfl (e_iload_iload_n 73 0 3 3 rfl (e_iaload 74 0 (e_iload_iload 75 0 4 (e_invV_invokevirtual 77 188519 72 7 7 3 rfl rfl rfl rfl rfl rfl (e_iinc 80 1 3 1 (e_goto 83 7 (-76))))))))))))))))))))))))
set_option maxHeartbeats 100000 in
def k8_45 : ex_C := c_psh 4 (k8_46)
set_option maxHeartbeats 100000 in
theorem kE8_45 : ex_CE 15 [] cd_8 k8_45 q8_45 := e_psh_iconst 45 4 4 (kE8_46)
set_option maxHeartbeats 100000 in
def k8_32 : ex_C := c_invS [] cd_8 32 1 12 (c_iload 3 (c_psh 2 (c_irem   (c_if_ne 45 (c_psh 3 (c_goto 46))))))
set_option maxHeartbeats 100000 in
theorem kE8_32 : ex_CE 15 [] cd_8 k8_32 q8_32 := e_invS 32 237537 63 1 12 rfl rfl rfl (e_iload_iload_n 35 0 3 3 rfl (e_psh_iconst 36 2 2 (e_irem 37 0  (e_if_ne 38 45 7 (e_psh_iconst 41 3 3 (e_goto 42 46 4))))))
set_option maxHeartbeats 100000 in
def k8_31 : ex_C := c_psh 2 (k8_32)
set_option maxHeartbeats 100000 in
theorem kE8_31 : ex_CE 15 [] cd_8 k8_31 q8_31 := e_psh_iconst 31 2 2 (kE8_32)
set_option maxHeartbeats 100000 in
def k8_7 : ex_C := c_iload 3 (c_psh 8 (c_icmp_ge 86 (c_iload 3 (c_aload 2 (c_arraylength   (c_icmp_ge 86 (c_iload 3 (c_psh 2 (c_idiv   (c_psh 2 (c_irem   (c_if_ne 31 (c_psh 1 (c_goto 32))))))))))))))
set_option maxHeartbeats 100000 in
theorem kE8_7 : ex_CE 15 [] cd_8 k8_7 q8_7 := e_iload_iload_n 7 0 3 3 rfl (e_psh_bipush 8 8 8 (e_icmp_ge 10 86 76 (e_iload_iload_n 13 0 3 3 rfl (e_aload_aload_n 14 0 2 2 rfl (e_arraylength 15 0  (e_icmp_ge 16 86 70 (e_iload_iload_n 19 0 3 3 rfl (e_psh_iconst 20 2 2 (e_idiv 21 0  (e_psh_iconst 22 2 2 (e_irem 23 0  (e_if_ne 24 31 7 (e_psh_iconst 27 1 1 (e_goto 28 32 4))))))))))))))
set_option maxHeartbeats 100000 in
def k8_0 : ex_C := c_aload 0 (c_psh 0 (c_pf 3 0 14 (c_psh 0 (c_istore 3 (k8_7)))))
set_option maxHeartbeats 100000 in
theorem kE8_0 : ex_CE 15 [] cd_8 k8_0 q8_0 := e_aload_aload_n 0 0 0 0 rfl (e_psh_iconst 1 0 0 (e_pf 2 206 55 3 0 14 rfl rfl rfl (e_psh_iconst 5 0 0 (e_istore_istore_n 6 0 3 3 rfl (kE8_7)))))
def kt_8 : Nat → Option ex_C := fun pc => @Bool.rec (fun _ => Nat → Option ex_C) (fun pc => @Bool.rec (fun _ => Nat → Option ex_C) (fun pc => @Bool.rec (fun _ => Nat → Option ex_C) (fun pc => @Bool.rec (fun _ => Option ex_C) none (some k8_86) (Nat.beq pc 86)) (fun pc => @Bool.rec (fun _ => Option ex_C) none (some k8_46) (Nat.beq pc 46)) (Nat.ble pc 46) pc) (fun pc => @Bool.rec (fun _ => Nat → Option ex_C) (fun pc => @Bool.rec (fun _ => Option ex_C) none (some k8_45) (Nat.beq pc 45)) (fun pc => @Bool.rec (fun _ => Option ex_C) none (some k8_32) (Nat.beq pc 32)) (Nat.ble pc 32) pc) (Nat.ble pc 45) pc) (fun pc => @Bool.rec (fun _ => Nat → Option ex_C) (fun pc => @Bool.rec (fun _ => Nat → Option ex_C) (fun pc => @Bool.rec (fun _ => Option ex_C) none (some k8_31) (Nat.beq pc 31)) (fun pc => @Bool.rec (fun _ => Option ex_C) none (some k8_7) (Nat.beq pc 7)) (Nat.ble pc 7) pc) (fun pc => @Bool.rec (fun _ => Option ex_C) none (some k8_0) (Nat.beq pc 0)) (Nat.ble pc 0) pc) (Nat.ble pc 31) pc
theorem ktE_8 : ex_CTT 15 [] cd_8 kt_8 cd_8 := (ex_ct2 (ex_ct2 (ex_ct1 kE8_0) (ex_ct2 (ex_ct1 kE8_7) (ex_ct1 kE8_31))) (ex_ct2 (ex_ct2 (ex_ct1 kE8_32) (ex_ct1 kE8_45)) (ex_ct2 (ex_ct1 kE8_46) (ex_ct1 kE8_86))))
set_option maxHeartbeats 100000 in
def k9_65 : ex_C := c_return_  15
set_option maxHeartbeats 100000 in
theorem kE9_65 : ex_CE 15 [] cd_9 k9_65 q9_65 := e_return_ 65 0 
set_option maxHeartbeats 100000 in
def k9_27 : ex_C := c_invS [] cd_9 27 1 12 (c_istore 3 (c_aload 0 (c_aload 1 (c_gf 1 0 (c_iload 2 (c_iaload (c_aload 1 (c_gf 1 1 (c_iload 2 (c_iaload (c_aload 1 (c_gf 1 2 (c_iload 2 (c_iaload (c_psh 8 (c_iload 2 (c_iadd (c_psh 3 (c_iload 3 (c_invV [] cd_9 56 7 7 3 (c_iinc 2 1 (c_goto 2))))))))))))))))))))))
set_option maxHeartbeats 100000 in
theorem kE9_27 : ex_CE 15 [] cd_9 k9_27 q9_27 := e_invS 27 237537 63 1 12 rfl rfl rfl (e_istore_istore_n 30 0 3 3 rfl (e_aload_aload_n 31 0 0 0 rfl (e_aload_aload_n 32 0 1 1 rfl (e_gf 33 86080 67 1 0 rfl rfl (e_iload_iload_n 36 0 2 2 rfl (e_iaload 37 0 (e_aload_aload_n 38 0 1 1 rfl (e_gf 39 86081 70 1 1 rfl rfl (e_iload_iload_n 42 0 2 2 rfl (e_iaload 43 0 (e_aload_aload_n 44 0 1 1 rfl (e_gf 45 86082 71 1 2 rfl rfl (e_iload_iload_n 48 0 2 2 rfl (e_iaload 49 0 (e_psh_bipush 50 8 8 (e_iload_iload_n 52 0 2 2 rfl (e_iadd 53 0 (e_psh_iconst 54 3 3 (e_iload_iload_n 55 0 3 3 rfl (e_invV_invokevirtual 56 188519 72 7 7 3 rfl rfl rfl rfl rfl rfl (e_iinc 59 1 2 1 (e_goto 62 2 (-60)))))))))))))))))))))))
set_option maxHeartbeats 100000 in
def k9_26 : ex_C := c_psh 4 (k9_27)
set_option maxHeartbeats 100000 in
theorem kE9_26 : ex_CE 15 [] cd_9 k9_26 q9_26 := e_psh_iconst 26 4 4 (kE9_27)
set_option maxHeartbeats 100000 in
def k9_2 : ex_C := c_iload 2 (c_aload 1 (c_gf 1 3 (c_icmp_ge 65 (c_iload 2 (c_psh 8 (c_icmp_ge 65 (c_iload 2 (c_psh 2 (c_irem   (c_if_ne 26 (c_psh 3 (c_goto 27))))))))))))
set_option maxHeartbeats 100000 in
theorem kE9_2 : ex_CE 15 [] cd_9 k9_2 q9_2 := e_iload_iload_n 2 0 2 2 rfl (e_aload_aload_n 3 0 1 1 rfl (e_gf 4 67 76 1 3 rfl rfl (e_icmp_ge 7 65 58 (e_iload_iload_n 10 0 2 2 rfl (e_psh_bipush 11 8 8 (e_icmp_ge 13 65 52 (e_iload_iload_n 16 0 2 2 rfl (e_psh_iconst 17 2 2 (e_irem 18 0  (e_if_ne 19 26 7 (e_psh_iconst 22 3 3 (e_goto 23 27 4))))))))))))
set_option maxHeartbeats 100000 in
def k9_0 : ex_C := c_psh 0 (c_istore 2 (k9_2))
set_option maxHeartbeats 100000 in
theorem kE9_0 : ex_CE 15 [] cd_9 k9_0 q9_0 := e_psh_iconst 0 0 0 (e_istore_istore_n 1 0 2 2 rfl (kE9_2))
def kt_9 : Nat → Option ex_C := fun pc => @Bool.rec (fun _ => Nat → Option ex_C) (fun pc => @Bool.rec (fun _ => Nat → Option ex_C) (fun pc => @Bool.rec (fun _ => Nat → Option ex_C) (fun pc => @Bool.rec (fun _ => Option ex_C) none (some k9_65) (Nat.beq pc 65)) (fun pc => @Bool.rec (fun _ => Option ex_C) none (some k9_27) (Nat.beq pc 27)) (Nat.ble pc 27) pc) (fun pc => @Bool.rec (fun _ => Option ex_C) none (some k9_26) (Nat.beq pc 26)) (Nat.ble pc 26) pc) (fun pc => @Bool.rec (fun _ => Nat → Option ex_C) (fun pc => @Bool.rec (fun _ => Option ex_C) none (some k9_2) (Nat.beq pc 2)) (fun pc => @Bool.rec (fun _ => Option ex_C) none (some k9_0) (Nat.beq pc 0)) (Nat.ble pc 0) pc) (Nat.ble pc 2) pc
theorem ktE_9 : ex_CTT 15 [] cd_9 kt_9 cd_9 := (ex_ct2 (ex_ct2 (ex_ct1 kE9_0) (ex_ct1 kE9_2)) (ex_ct2 (ex_ct1 kE9_26) (ex_ct2 (ex_ct1 kE9_27) (ex_ct1 kE9_65))))
set_option maxHeartbeats 100000 in
def k10_0 : ex_C := c_aload 0 (c_psh 0 (c_aload 0 (c_gf 3 14 (c_aload 1 (c_gf 1 3 (c_isub (c_invS [] cd_10 11 2 301 (c_pf 3 0 14 (c_return_  15)))))))))
set_option maxHeartbeats 100000 in
theorem kE10_0 : ex_CE 15 [] cd_10 k10_0 q10_0 := e_aload_aload_n 0 0 0 0 rfl (e_psh_iconst 1 0 0 (e_aload_aload_n 2 0 0 0 rfl (e_gf 3 206 55 3 14 rfl rfl (e_aload_aload_n 6 0 1 1 rfl (e_gf 7 67 76 1 3 rfl rfl (e_isub 10 0 (e_invS 11 2605026 77 2 301 rfl rfl rfl (e_pf 14 206 55 3 0 14 rfl rfl rfl (e_return_ 17 0 )))))))))
def kt_10 : Nat → Option ex_C := fun pc => @Bool.rec (fun _ => Option ex_C) none (some k10_0) (Nat.beq pc 0)
theorem ktE_10 : ex_CTT 15 [] cd_10 kt_10 cd_10 := (ex_ct1 kE10_0)
set_option maxHeartbeats 100000 in
def k11_150 : ex_C := c_aload 1 (c_gf 3 2 (c_iload 2 (c_iaload (c_aload 1 (c_gf 3 3 (c_iload 2 (c_iaload (c_iload 7 (c_iload 8 (c_invV [] cd_11 166 7 7 3 (c_psh 1 (c_ireturn  1))))))))))))
set_option maxHeartbeats 100000 in
theorem kE11_150 : ex_CE 1 [] cd_11 k11_150 q11_150 := e_aload_aload_n 150 0 1 1 rfl (e_gf 151 86210 18 3 2 rfl rfl (e_iload_iload_n 154 0 2 2 rfl (e_iaload 155 0 (e_aload_aload_n 156 0 1 1 rfl (e_gf 157 86211 21 3 3 rfl rfl (e_iload_iload_n 160 0 2 2 rfl (e_iaload 161 0 (e_iload_iload 162 0 7 (e_iload_iload 164 0 8 (e_invV_invokevirtual 166 188519 72 7 7 3 rfl rfl rfl rfl rfl rfl (e_psh_iconst 169 1 1 (e_ireturn 170 0 ))))))))))))
set_option maxHeartbeats 100000 in
def k11_146 : ex_C := c_iload 6 (c_psh 2 (c_idiv   (k11_150)))
set_option maxHeartbeats 100000 in
theorem kE11_146 : ex_CE 1 [] cd_11 k11_146 q11_146 := e_iload_iload 146 0 6 (e_psh_iconst 148 2 2 (e_idiv 149 0  (kE11_150)))
set_option maxHeartbeats 100000 in
def k11_136 : ex_C := c_iload 4 (c_if_eq 146 (c_iload 6 (c_goto 150)))
set_option maxHeartbeats 100000 in
theorem kE11_136 : ex_CE 1 [] cd_11 k11_136 q11_136 := e_iload_iload 136 0 4 (e_if_eq 138 146 8 (e_iload_iload 141 0 6 (e_goto 143 150 7)))
set_option maxHeartbeats 100000 in
def k11_134 : ex_C := c_iload 5 (k11_136)
set_option maxHeartbeats 100000 in
theorem kE11_134 : ex_CE 1 [] cd_11 k11_134 q11_134 := e_iload_iload 134 0 5 (kE11_136)
set_option maxHeartbeats 100000 in
def k11_69 : ex_C := c_aload 0 (c_gf 3 11 (c_aload 0 (c_gf 3 14 (c_iload 2 (c_iastore (c_aload 0 (c_gf 3 12 (c_aload 0 (c_gf 3 14 (c_iload 3 (c_iastore (c_aload 1 (c_gf 3 4 (c_iload 2 (c_iaload (c_aload 1 (c_gf 3 4 (c_iload 3 (c_iaload (c_invS [] cd_11 101 2 302 (c_istore 7 (c_aload 1 (c_gf 3 5 (c_iload 2 (c_iaload (c_aload 1 (c_gf 3 5 (c_iload 3 (c_iaload (c_iand (c_istore 8 (c_aload 0 (c_iload 4 (c_if_eq 134 (c_iload 5 (c_psh 2 (c_idiv   (c_goto 136))))))))))))))))))))))))))))))))))))))
set_option maxHeartbeats 100000 in
theorem kE11_69 : ex_CE 1 [] cd_11 k11_69 q11_69 := e_aload_aload_n 69 0 0 0 rfl (e_gf 70 86219 45 3 11 rfl rfl (e_aload_aload_n 73 0 0 0 rfl (e_gf 74 206 55 3 14 rfl rfl (e_iload_iload_n 77 0 2 2 rfl (e_iastore 78 0 (e_aload_aload_n 79 0 0 0 rfl (e_gf 80 86220 48 3 12 rfl rfl (e_aload_aload_n 83 0 0 0 rfl (e_gf 84 206 55 3 14 rfl rfl (e_iload_iload_n 87 0 3 3 rfl (e_iastore 88 0 (e_aload_aload_n 89 0 1 1 rfl (e_gf 90 86212 24 3 4 rfl rfl (e_iload_iload_n 93 0 2 2 rfl (e_iaload 94 0 (e_aload_aload_n 95 0 1 1 rfl (e_gf 96 86212 24 3 4 rfl rfl (e_iload_iload_n 99 0 3 3 rfl (e_iaload 100 0 (e_invS 101 2613218 83 2 302 rfl rfl rfl (e_istore_istore 104 0 7 (e_aload_aload_n 106 0 1 1 rfl (e_gf 107 86213 27 3 5 rfl rfl (e_iload_iload_n 110 0 2 2 rfl (e_iaload 111 0 (e_aload_aload_n 112 0 1 1 rfl (e_gf 113 86213 27 3 5 rfl rfl (e_iload_iload_n 116 0 3 3 rfl (e_iaload 117 0 (e_iand 118 0 (e_istore_istore 119 0 8 (e_aload_aload_n 121 0 0 0 rfl (e_iload_iload 122 0 4 (e_if_eq 124 134 10 (e_iload_iload 127 0 5 (e_psh_iconst 129 2 2 (e_idiv 130 0  (e_goto 131 136 5))))))))))))))))))))))))))))))))))))))
set_option maxHeartbeats 100000 in
def k11_67 : ex_C := c_psh 0 (c_ireturn  1)
set_option maxHeartbeats 100000 in
theorem kE11_67 : ex_CE 1 [] cd_11 k11_67 q11_67 := e_psh_iconst 67 0 0 (e_ireturn 68 0 )
set_option maxHeartbeats 100000 in
def k11_62 : ex_C := c_psh 2 (c_irem   (c_if_eq 69 (k11_67)))
set_option maxHeartbeats 100000 in
theorem kE11_62 : ex_CE 1 [] cd_11 k11_62 q11_62 := e_psh_iconst 62 2 2 (e_irem 63 0  (e_if_eq 64 69 5 (kE11_67)))
set_option maxHeartbeats 100000 in
def k11_60 : ex_C := c_iload 6 (k11_62)
set_option maxHeartbeats 100000 in
theorem kE11_60 : ex_CE 1 [] cd_11 k11_60 q11_60 := e_iload_iload 60 0 6 (kE11_62)
set_option maxHeartbeats 100000 in
def k11_0 : ex_C := c_aload 1 (c_gf 3 0 (c_iload 2 (c_iaload (c_aload 1 (c_gf 3 0 (c_iload 3 (c_iaload (c_iadd (c_psh 2 (c_idiv   (c_istore 5 (c_aload 1 (c_gf 3 1 (c_iload 2 (c_iaload (c_aload 1 (c_gf 3 1 (c_iload 3 (c_iaload (c_iadd (c_psh 2 (c_idiv   (c_istore 6 (c_aload 0 (c_gf 3 14 (c_if_lt 67 (c_aload 0 (c_gf 3 14 (c_psh 16 (c_icmp_ge 67 (c_iload 4 (c_if_eq 60 (c_iload 5 (c_goto 62))))))))))))))))))))))))))))))))))
set_option maxHeartbeats 100000 in
theorem kE11_0 : ex_CE 1 [] cd_11 k11_0 q11_0 := e_aload_aload_n 0 0 1 1 rfl (e_gf 1 86208 9 3 0 rfl rfl (e_iload_iload_n 4 0 2 2 rfl (e_iaload 5 0 (e_aload_aload_n 6 0 1 1 rfl (e_gf 7 86208 9 3 0 rfl rfl (e_iload_iload_n 10 0 3 3 rfl (e_iaload 11 0 (e_iadd 12 0 (e_psh_iconst 13 2 2 (e_idiv 14 0  (e_istore_istore 15 0 5 (e_aload_aload_n 17 0 1 1 rfl (e_gf 18 86209 15 3 1 rfl rfl (e_iload_iload_n 21 0 2 2 rfl (e_iaload 22 0 (e_aload_aload_n 23 0 1 1 rfl (e_gf 24 86209 15 3 1 rfl rfl (e_iload_iload_n 27 0 3 3 rfl (e_iaload 28 0 (e_iadd 29 0 (e_psh_iconst 30 2 2 (e_idiv 31 0  (e_istore_istore 32 0 6 (e_aload_aload_n 34 0 0 0 rfl (e_gf 35 206 55 3 14 rfl rfl (e_if_lt 38 67 29 (e_aload_aload_n 41 0 0 0 rfl (e_gf 42 206 55 3 14 rfl rfl (e_psh_bipush 45 16 16 (e_icmp_ge 47 67 20 (e_iload_iload 50 0 4 (e_if_eq 52 60 8 (e_iload_iload 55 0 5 (e_goto 57 62 5))))))))))))))))))))))))))))))))))
def kt_11 : Nat → Option ex_C := fun pc => @Bool.rec (fun _ => Nat → Option ex_C) (fun pc => @Bool.rec (fun _ => Nat → Option ex_C) (fun pc => @Bool.rec (fun _ => Nat → Option ex_C) (fun pc => @Bool.rec (fun _ => Nat → Option ex_C) (fun pc => @Bool.rec (fun _ => Option ex_C) none (some k11_150) (Nat.beq pc 150)) (fun pc => @Bool.rec (fun _ => Option ex_C) none (some k11_146) (Nat.beq pc 146)) (Nat.ble pc 146) pc) (fun pc => @Bool.rec (fun _ => Option ex_C) none (some k11_136) (Nat.beq pc 136)) (Nat.ble pc 136) pc) (fun pc => @Bool.rec (fun _ => Nat → Option ex_C) (fun pc => @Bool.rec (fun _ => Option ex_C) none (some k11_134) (Nat.beq pc 134)) (fun pc => @Bool.rec (fun _ => Option ex_C) none (some k11_69) (Nat.beq pc 69)) (Nat.ble pc 69) pc) (Nat.ble pc 134) pc) (fun pc => @Bool.rec (fun _ => Nat → Option ex_C) (fun pc => @Bool.rec (fun _ => Nat → Option ex_C) (fun pc => @Bool.rec (fun _ => Option ex_C) none (some k11_67) (Nat.beq pc 67)) (fun pc => @Bool.rec (fun _ => Option ex_C) none (some k11_62) (Nat.beq pc 62)) (Nat.ble pc 62) pc) (fun pc => @Bool.rec (fun _ => Nat → Option ex_C) (fun pc => @Bool.rec (fun _ => Option ex_C) none (some k11_60) (Nat.beq pc 60)) (fun pc => @Bool.rec (fun _ => Option ex_C) none (some k11_0) (Nat.beq pc 0)) (Nat.ble pc 0) pc) (Nat.ble pc 60) pc) (Nat.ble pc 67) pc
theorem ktE_11 : ex_CTT 1 [] cd_11 kt_11 cd_11 := (ex_ct2 (ex_ct2 (ex_ct2 (ex_ct1 kE11_0) (ex_ct1 kE11_60)) (ex_ct2 (ex_ct1 kE11_62) (ex_ct1 kE11_67))) (ex_ct2 (ex_ct2 (ex_ct1 kE11_69) (ex_ct1 kE11_134)) (ex_ct2 (ex_ct1 kE11_136) (ex_ct2 (ex_ct1 kE11_146) (ex_ct1 kE11_150)))))
set_option maxHeartbeats 100000 in
def k12_0 : ex_C := c_psh 1 (c_iload 0 (c_ishl   (c_ireturn  0)))
set_option maxHeartbeats 100000 in
theorem kE12_0 : ex_CE 0 [] cd_12 k12_0 q12_0 := e_psh_iconst 0 1 1 (e_iload_iload_n 1 0 0 0 rfl (e_ishl 2 0  (e_ireturn 3 0 )))
def kt_12 : Nat → Option ex_C := fun pc => @Bool.rec (fun _ => Option ex_C) none (some k12_0) (Nat.beq pc 0)
theorem ktE_12 : ex_CTT 0 [] cd_12 kt_12 cd_12 := (ex_ct1 kE12_0)
set_option maxHeartbeats 100000 in
def k13_54 : ex_C := c_ireturn  1
set_option maxHeartbeats 100000 in
theorem kE13_54 : ex_CE 1 [] cd_13 k13_54 q13_54 := e_ireturn 54 0 
set_option maxHeartbeats 100000 in
def k13_53 : ex_C := c_psh 0 (k13_54)
set_option maxHeartbeats 100000 in
theorem kE13_53 : ex_CE 1 [] cd_13 k13_53 q13_53 := e_psh_iconst 53 0 0 (kE13_54)
set_option maxHeartbeats 100000 in
def k13_0 : ex_C := c_iload 3 (c_psh 3 (c_iand (c_istore 4 (c_aload 0 (c_gf 3 0 (c_iload 1 (c_iaload (c_aload 0 (c_gf 3 0 (c_iload 2 (c_iaload (c_isub (c_psh 17179869193 (c_iload 4 (c_iaload (c_imul (c_aload 0 (c_gf 3 1 (c_iload 1 (c_iaload (c_aload 0 (c_gf 3 1 (c_iload 2 (c_iaload (c_isub (c_psh 17179869194 (c_iload 4 (c_iaload (c_imul (c_iadd (c_if_le 53 (c_psh 1 (c_goto 54)))))))))))))))))))))))))))))))))
set_option maxHeartbeats 100000 in
theorem kE13_0 : ex_CE 1 [] cd_13 k13_0 q13_0 := e_iload_iload_n 0 0 3 3 rfl (e_psh_iconst 1 3 3 (e_iand 2 0 (e_istore_istore 3 0 4 (e_aload_aload_n 5 0 0 0 rfl (e_gf 6 86208 9 3 0 rfl rfl (e_iload_iload_n 9 0 1 1 rfl (e_iaload 10 0 (e_aload_aload_n 11 0 0 0 rfl (e_gf 12 86208 9 3 0 rfl rfl (e_iload_iload_n 15 0 2 2 rfl (e_iaload 16 0 (e_isub 17 0 (e_psh_getstatic 18 17179869193 86 (e_iload_iload 21 0 4 (e_iaload 23 0 (e_imul 24 0 (e_aload_aload_n 25 0 0 0 rfl (e_gf 26 86209 15 3 1 rfl rfl (e_iload_iload_n 29 0 1 1 rfl (e_iaload 30 0 (e_aload_aload_n 31 0 0 0 rfl (e_gf 32 86209 15 3 1 rfl rfl (e_iload_iload_n 35 0 2 2 rfl (e_iaload 36 0 (e_isub 37 0 (e_psh_getstatic 38 17179869194 89 (e_iload_iload 41 0 4 (e_iaload 43 0 (e_imul 44 0 (e_iadd 45 0 (e_if_le 46 53 7 (e_psh_iconst 49 1 1 (e_goto 50 54 4)))))))))))))))))))))))))))))))))
def kt_13 : Nat → Option ex_C := fun pc => @Bool.rec (fun _ => Nat → Option ex_C) (fun pc => @Bool.rec (fun _ => Nat → Option ex_C) (fun pc => @Bool.rec (fun _ => Option ex_C) none (some k13_54) (Nat.beq pc 54)) (fun pc => @Bool.rec (fun _ => Option ex_C) none (some k13_53) (Nat.beq pc 53)) (Nat.ble pc 53) pc) (fun pc => @Bool.rec (fun _ => Option ex_C) none (some k13_0) (Nat.beq pc 0)) (Nat.ble pc 0) pc
theorem ktE_13 : ex_CTT 1 [] cd_13 kt_13 cd_13 := (ex_ct2 (ex_ct1 kE13_0) (ex_ct2 (ex_ct1 kE13_53) (ex_ct1 kE13_54)))
set_option maxHeartbeats 100000 in
def k14_40 : ex_C := c_return_  15
set_option maxHeartbeats 100000 in
theorem kE14_40 : ex_CE 15 [] cd_14 k14_40 q14_40 := e_return_ 40 0 
set_option maxHeartbeats 100000 in
def k14_2 : ex_C := c_iload 1 (c_aload 0 (c_gf 3 14 (c_icmp_ge 40 (c_aload 0 (c_gf 3 6 (c_iload 1 (c_aload 0 (c_gf 3 0 (c_iload 1 (c_iaload (c_iastore (c_aload 0 (c_gf 3 7 (c_iload 1 (c_aload 0 (c_gf 3 1 (c_iload 1 (c_iaload (c_iastore (c_iinc 1 1 (c_goto 2)))))))))))))))))))))
set_option maxHeartbeats 100000 in
theorem kE14_2 : ex_CE 15 [] cd_14 k14_2 q14_2 := e_iload_iload_n 2 0 1 1 rfl (e_aload_aload_n 3 0 0 0 rfl (e_gf 4 206 55 3 14 rfl rfl (e_icmp_ge 7 40 33 (e_aload_aload_n 10 0 0 0 rfl (e_gf 11 86214 30 3 6 rfl rfl (e_iload_iload_n 14 0 1 1 rfl (e_aload_aload_n 15 0 0 0 rfl (e_gf 16 86208 9 3 0 rfl rfl (e_iload_iload_n 19 0 1 1 rfl (e_iaload 20 0 (e_iastore 21 0 (e_aload_aload_n 22 0 0 0 rfl (e_gf 23 86215 33 3 7 rfl rfl (e_iload_iload_n 26 0 1 1 rfl (e_aload_aload_n 27 0 0 0 rfl (e_gf 28 86209 15 3 1 rfl rfl (e_iload_iload_n 31 0 1 1 rfl (e_iaload 32 0 (e_iastore 33 0 (e_iinc 34 1 1 1 (e_goto 37 2 (-35))))))))))))))))))))))
set_option maxHeartbeats 100000 in
def k14_0 : ex_C := c_psh 0 (c_istore 1 (k14_2))
set_option maxHeartbeats 100000 in
theorem kE14_0 : ex_CE 15 [] cd_14 k14_0 q14_0 := e_psh_iconst 0 0 0 (e_istore_istore_n 1 0 1 1 rfl (kE14_2))
def kt_14 : Nat → Option ex_C := fun pc => @Bool.rec (fun _ => Nat → Option ex_C) (fun pc => @Bool.rec (fun _ => Nat → Option ex_C) (fun pc => @Bool.rec (fun _ => Option ex_C) none (some k14_40) (Nat.beq pc 40)) (fun pc => @Bool.rec (fun _ => Option ex_C) none (some k14_2) (Nat.beq pc 2)) (Nat.ble pc 2) pc) (fun pc => @Bool.rec (fun _ => Option ex_C) none (some k14_0) (Nat.beq pc 0)) (Nat.ble pc 0) pc
theorem ktE_14 : ex_CTT 15 [] cd_14 kt_14 cd_14 := (ex_ct2 (ex_ct1 kE14_0) (ex_ct2 (ex_ct1 kE14_2) (ex_ct1 kE14_40)))
set_option maxHeartbeats 100000 in
def k15_0 : ex_C := c_iload 2 (c_psh 3 (c_iand (c_istore 4 (c_aload 0 (c_gf 3 0 (c_iload 1 (c_dup2   (c_iaload (c_iload 3 (c_psh 17179869193 (c_iload 4 (c_iaload (c_imul (c_iadd (c_iastore (c_aload 0 (c_gf 3 1 (c_iload 1 (c_dup2   (c_iaload (c_iload 3 (c_psh 17179869194 (c_iload 4 (c_iaload (c_imul (c_iadd (c_iastore (c_return_  15))))))))))))))))))))))))))))
set_option maxHeartbeats 100000 in
theorem kE15_0 : ex_CE 15 [] cd_15 k15_0 q15_0 := e_iload_iload_n 0 0 2 2 rfl (e_psh_iconst 1 3 3 (e_iand 2 0 (e_istore_istore 3 0 4 (e_aload_aload_n 5 0 0 0 rfl (e_gf 6 86208 9 3 0 rfl rfl (e_iload_iload_n 9 0 1 1 rfl (e_dup2 10 0  (e_iaload 11 0 (e_iload_iload_n 12 0 3 3 rfl (e_psh_getstatic 13 17179869193 86 (e_iload_iload 16 0 4 (e_iaload 18 0 (e_imul 19 0 (e_iadd 20 0 (e_iastore 21 0 (e_aload_aload_n 22 0 0 0 rfl (e_gf 23 86209 15 3 1 rfl rfl (e_iload_iload_n 26 0 1 1 rfl (e_dup2 27 0  (e_iaload 28 0 (e_iload_iload_n 29 0 3 3 rfl (e_psh_getstatic 30 17179869194 89 (e_iload_iload 33 0 4 (e_iaload 35 0 (e_imul 36 0 (e_iadd 37 0 (e_iastore 38 0 (e_return_ 39 0 ))))))))))))))))))))))))))))
def kt_15 : Nat → Option ex_C := fun pc => @Bool.rec (fun _ => Option ex_C) none (some k15_0) (Nat.beq pc 0)
theorem ktE_15 : ex_CTT 15 [] cd_15 kt_15 cd_15 := (ex_ct1 kE15_0)
set_option maxHeartbeats 100000 in
def k16_33 : ex_C := c_return_  15
set_option maxHeartbeats 100000 in
theorem kE16_33 : ex_CE 15 [] cd_16 k16_33 q16_33 := e_return_ 33 0 
set_option maxHeartbeats 100000 in
def k16_0 : ex_C := c_aload 0 (c_gf 3 2 (c_iload 1 (c_aload 0 (c_gf 3 2 (c_iload 1 (c_iaload (c_iload 2 (c_iadd (c_psh 3 (c_iand (c_iastore (c_aload 0 (c_gf 3 15 (c_if_eq 33 (c_aload 0 (c_gf 3 8 (c_iload 1 (c_dup2   (c_iaload (c_iload 2 (c_iadd (c_iastore (k16_33)))))))))))))))))))))))
set_option maxHeartbeats 100000 in
theorem kE16_0 : ex_CE 15 [] cd_16 k16_0 q16_0 := e_aload_aload_n 0 0 0 0 rfl (e_gf 1 86210 18 3 2 rfl rfl (e_iload_iload_n 4 0 1 1 rfl (e_aload_aload_n 5 0 0 0 rfl (e_gf 6 86210 18 3 2 rfl rfl (e_iload_iload_n 9 0 1 1 rfl (e_iaload 10 0 (e_iload_iload_n 11 0 2 2 rfl (e_iadd 12 0 (e_psh_iconst 13 3 3 (e_iand 14 0 (e_iastore 15 0 (e_aload_aload_n 16 0 0 0 rfl (e_gf 17 4303 59 3 15 rfl rfl (e_if_eq 20 33 13 (e_aload_aload_n 23 0 0 0 rfl (e_gf 24 86216 36 3 8 rfl rfl (e_iload_iload_n 27 0 1 1 rfl (e_dup2 28 0  (e_iaload 29 0 (e_iload_iload_n 30 0 2 2 rfl (e_iadd 31 0 (e_iastore 32 0 (kE16_33)))))))))))))))))))))))
def kt_16 : Nat → Option ex_C := fun pc => @Bool.rec (fun _ => Nat → Option ex_C) (fun pc => @Bool.rec (fun _ => Option ex_C) none (some k16_33) (Nat.beq pc 33)) (fun pc => @Bool.rec (fun _ => Option ex_C) none (some k16_0) (Nat.beq pc 0)) (Nat.ble pc 0) pc
theorem ktE_16 : ex_CTT 15 [] cd_16 kt_16 cd_16 := (ex_ct2 (ex_ct1 kE16_0) (ex_ct1 kE16_33))
set_option maxHeartbeats 100000 in
def k17_0 : ex_C := c_aload 0 (c_gf 3 0 (c_iload 1 (c_iaload (c_iload 2 (c_isub (c_istore 5 (c_aload 0 (c_gf 3 1 (c_iload 1 (c_iaload (c_iload 3 (c_isub (c_istore 6 (c_aload 0 (c_gf 3 0 (c_iload 1 (c_iload 2 (c_iload 4 (c_iload 6 (c_imul (c_iadd (c_iastore (c_aload 0 (c_gf 3 1 (c_iload 1 (c_iload 3 (c_iload 4 (c_iload 5 (c_imul (c_isub (c_iastore (c_aload 0 (c_iload 1 (c_iload 4 (c_invV [] cd_17 50 3 16 3 (c_return_  15))))))))))))))))))))))))))))))))))))
set_option maxHeartbeats 100000 in
theorem kE17_0 : ex_CE 15 [] cd_17 k17_0 q17_0 := e_aload_aload_n 0 0 0 0 rfl (e_gf 1 86208 9 3 0 rfl rfl (e_iload_iload_n 4 0 1 1 rfl (e_iaload 5 0 (e_iload_iload_n 6 0 2 2 rfl (e_isub 7 0 (e_istore_istore 8 0 5 (e_aload_aload_n 10 0 0 0 rfl (e_gf 11 86209 15 3 1 rfl rfl (e_iload_iload_n 14 0 1 1 rfl (e_iaload 15 0 (e_iload_iload_n 16 0 3 3 rfl (e_isub 17 0 (e_istore_istore 18 0 6 (e_aload_aload_n 20 0 0 0 rfl (e_gf 21 86208 9 3 0 rfl rfl (e_iload_iload_n 24 0 1 1 rfl (e_iload_iload_n 25 0 2 2 rfl (e_iload_iload 26 0 4 (e_iload_iload 28 0 6 (e_imul 30 0 (e_iadd 31 0 (e_iastore 32 0 (e_aload_aload_n 33 0 0 0 rfl (e_gf 34 86209 15 3 1 rfl rfl (e_iload_iload_n 37 0 1 1 rfl (e_iload_iload_n 38 0 3 3 rfl (e_iload_iload 39 0 4 (e_iload_iload 41 0 5 (e_imul 43 0 (e_isub 44 0 (e_iastore 45 0 (e_aload_aload_n 46 0 0 0 rfl (e_iload_iload_n 47 0 1 1 rfl (e_iload_iload 48 0 4 (e_invV_invokevirtual 50 262243 92 3 16 3 rfl rfl rfl rfl rfl rfl (e_return_ 53 0 ))))))))))))))))))))))))))))))))))))
def kt_17 : Nat → Option ex_C := fun pc => @Bool.rec (fun _ => Option ex_C) none (some k17_0) (Nat.beq pc 0)
theorem ktE_17 : ex_CTT 15 [] cd_17 kt_17 cd_17 := (ex_ct1 kE17_0)
set_option maxHeartbeats 100000 in
def k18_0 : ex_C := c_aload 0 (c_gf 3 0 (c_iload 1 (c_iaload (c_istore 3 (c_aload 0 (c_gf 3 1 (c_iload 1 (c_iaload (c_istore 4 (c_aload 0 (c_gf 3 0 (c_iload 1 (c_aload 0 (c_gf 3 0 (c_iload 2 (c_iaload (c_iastore (c_aload 0 (c_gf 3 1 (c_iload 1 (c_aload 0 (c_gf 3 1 (c_iload 2 (c_iaload (c_iastore (c_aload 0 (c_gf 3 0 (c_iload 2 (c_iload 3 (c_iastore (c_aload 0 (c_gf 3 1 (c_iload 2 (c_iload 4 (c_iastore (c_return_  15))))))))))))))))))))))))))))))))))))
set_option maxHeartbeats 100000 in
theorem kE18_0 : ex_CE 15 [] cd_18 k18_0 q18_0 := e_aload_aload_n 0 0 0 0 rfl (e_gf 1 86208 9 3 0 rfl rfl (e_iload_iload_n 4 0 1 1 rfl (e_iaload 5 0 (e_istore_istore_n 6 0 3 3 rfl (e_aload_aload_n 7 0 0 0 rfl (e_gf 8 86209 15 3 1 rfl rfl (e_iload_iload_n 11 0 1 1 rfl (e_iaload 12 0 (e_istore_istore 13 0 4 (e_aload_aload_n 15 0 0 0 rfl (e_gf 16 86208 9 3 0 rfl rfl (e_iload_iload_n 19 0 1 1 rfl (e_aload_aload_n 20 0 0 0 rfl (e_gf 21 86208 9 3 0 rfl rfl (e_iload_iload_n 24 0 2 2 rfl (e_iaload 25 0 (e_iastore 26 0 (e_aload_aload_n 27 0 0 0 rfl (e_gf 28 86209 15 3 1 rfl rfl (e_iload_iload_n 31 0 1 1 rfl (e_aload_aload_n 32 0 0 0 rfl (e_gf 33 86209 15 3 1 rfl rfl (e_iload_iload_n 36 0 2 2 rfl (e_iaload 37 0 (e_iastore 38 0 (e_aload_aload_n 39 0 0 0 rfl (e_gf 40 86208 9 3 0 rfl rfl (e_iload_iload_n 43 0 2 2 rfl (e_iload_iload_n 44 0 3 3 rfl (e_iastore 45 0 (e_aload_aload_n 46 0 0 0 rfl (e_gf 47 86209 15 3 1 rfl rfl (e_iload_iload_n 50 0 2 2 rfl (e_iload_iload 51 0 4 (e_iastore 53 0 (e_return_ 54 0 ))))))))))))))))))))))))))))))))))))
def kt_18 : Nat → Option ex_C := fun pc => @Bool.rec (fun _ => Option ex_C) none (some k18_0) (Nat.beq pc 0)
theorem ktE_18 : ex_CTT 15 [] cd_18 kt_18 cd_18 := (ex_ct1 kE18_0)
set_option maxHeartbeats 100000 in
def k19_16 : ex_C := c_aload 0 (c_gf 3 10 (c_iload 1 (c_iload 2 (c_iastore (c_return_  15)))))
set_option maxHeartbeats 100000 in
theorem kE19_16 : ex_CE 15 [] cd_19 k19_16 q19_16 := e_aload_aload_n 16 0 0 0 rfl (e_gf 17 86218 42 3 10 rfl rfl (e_iload_iload_n 20 0 1 1 rfl (e_iload_iload_n 21 0 2 2 rfl (e_iastore 22 0 (e_return_ 23 0 )))))
set_option maxHeartbeats 100000 in
def k19_0 : ex_C := c_aload 0 (c_gf 3 9 (c_iload 1 (c_iaload (c_if_ne 16 (c_aload 0 (c_gf 3 9 (c_iload 1 (c_iload 2 (c_iastore (k19_16))))))))))
set_option maxHeartbeats 100000 in
theorem kE19_0 : ex_CE 15 [] cd_19 k19_0 q19_0 := e_aload_aload_n 0 0 0 0 rfl (e_gf 1 86217 39 3 9 rfl rfl (e_iload_iload_n 4 0 1 1 rfl (e_iaload 5 0 (e_if_ne 6 16 10 (e_aload_aload_n 9 0 0 0 rfl (e_gf 10 86217 39 3 9 rfl rfl (e_iload_iload_n 13 0 1 1 rfl (e_iload_iload_n 14 0 2 2 rfl (e_iastore 15 0 (kE19_16))))))))))
def kt_19 : Nat → Option ex_C := fun pc => @Bool.rec (fun _ => Nat → Option ex_C) (fun pc => @Bool.rec (fun _ => Option ex_C) none (some k19_16) (Nat.beq pc 16)) (fun pc => @Bool.rec (fun _ => Option ex_C) none (some k19_0) (Nat.beq pc 0)) (Nat.ble pc 0) pc
theorem ktE_19 : ex_CTT 15 [] cd_19 kt_19 cd_19 := (ex_ct2 (ex_ct1 kE19_0) (ex_ct1 kE19_16))
set_option maxHeartbeats 100000 in
def k20_114 : ex_C := c_iload 1 (c_ireturn  0)
set_option maxHeartbeats 100000 in
theorem kE20_114 : ex_CE 0 [] cd_20 k20_114 q20_114 := e_iload_iload_n 114 0 1 1 rfl (e_ireturn 115 0 )
set_option maxHeartbeats 100000 in
def k20_108 : ex_C := c_iinc 2 1 (c_goto 70)
set_option maxHeartbeats 100000 in
theorem kE20_108 : ex_CE 0 [] cd_20 k20_108 q20_108 := e_iinc 108 1 2 1 (e_goto 111 70 (-41))
set_option maxHeartbeats 100000 in
def k20_92 : ex_C := c_aload 0 (c_iload 2 (c_invV [] cd_20 94 2 23 3 (c_psh 1 (c_icmp_le 108 (c_aload 0 (c_gf 3 3 (c_iload 2 (c_iaload (c_istore 1 (k20_108))))))))))
set_option maxHeartbeats 100000 in
theorem kE20_92 : ex_CE 0 [] cd_20 k20_92 q20_92 := e_aload_aload_n 92 0 0 0 rfl (e_iload_iload_n 93 0 2 2 rfl (e_invV_invokevirtual 94 319586 104 2 23 3 rfl rfl rfl rfl rfl rfl (e_psh_iconst 97 1 1 (e_icmp_le 98 108 10 (e_aload_aload_n 101 0 0 0 rfl (e_gf 102 86211 21 3 3 rfl rfl (e_iload_iload_n 105 0 2 2 rfl (e_iaload 106 0 (e_istore_istore_n 107 0 1 1 rfl (kE20_108))))))))))
set_option maxHeartbeats 100000 in
def k20_70 : ex_C := c_iload 2 (c_aload 0 (c_gf 3 14 (c_icmp_ge 114 (c_iload 1 (c_if_lt 92 (c_aload 0 (c_gf 3 3 (c_iload 2 (c_iaload (c_iload 1 (c_icmp_ge 108 (k20_92))))))))))))
set_option maxHeartbeats 100000 in
theorem kE20_70 : ex_CE 0 [] cd_20 k20_70 q20_70 := e_iload_iload_n 70 0 2 2 rfl (e_aload_aload_n 71 0 0 0 rfl (e_gf 72 206 55 3 14 rfl rfl (e_icmp_ge 75 114 39 (e_iload_iload_n 78 0 1 1 rfl (e_if_lt 79 92 13 (e_aload_aload_n 82 0 0 0 rfl (e_gf 83 86211 21 3 3 rfl rfl (e_iload_iload_n 86 0 2 2 rfl (e_iaload 87 0 (e_iload_iload_n 88 0 1 1 rfl (e_icmp_ge 89 108 19 (kE20_92))))))))))))
set_option maxHeartbeats 100000 in
def k20_66 : ex_C := c_psh 4294967295 (c_istore 1 (c_psh 0 (c_istore 2 (k20_70))))
set_option maxHeartbeats 100000 in
theorem kE20_66 : ex_CE 0 [] cd_20 k20_66 q20_66 := e_psh_iconst 66 4294967295 (-1) (e_istore_istore_n 67 0 1 1 rfl (e_psh_iconst 68 0 0 (e_istore_istore_n 69 0 2 2 rfl (kE20_70))))
set_option maxHeartbeats 100000 in
def k20_60 : ex_C := c_iinc 1 1 (c_goto 29)
set_option maxHeartbeats 100000 in
theorem kE20_60 : ex_CE 0 [] cd_20 k20_60 q20_60 := e_iinc 60 1 1 1 (e_goto 63 29 (-34))
set_option maxHeartbeats 100000 in
def k20_29 : ex_C := c_iload 1 (c_aload 0 (c_gf 3 14 (c_icmp_ge 66 (c_aload 0 (c_gf 3 13 (c_iload 1 (c_baload (c_if_eq 60 (c_aload 0 (c_iload 1 (c_aload 0 (c_gf 3 2 (c_iload 1 (c_iaload (c_psh 3 (c_iadd (c_psh 1 (c_invV [] cd_20 57 4 15 3 (k20_60)))))))))))))))))))
set_option maxHeartbeats 100000 in
theorem kE20_29 : ex_CE 0 [] cd_20 k20_29 q20_29 := e_iload_iload_n 29 0 1 1 rfl (e_aload_aload_n 30 0 0 0 rfl (e_gf 31 206 55 3 14 rfl rfl (e_icmp_ge 34 66 32 (e_aload_aload_n 37 0 0 0 rfl (e_gf 38 86221 51 3 13 rfl rfl (e_iload_iload_n 41 0 1 1 rfl (e_baload 42 0 (e_if_eq 43 60 17 (e_aload_aload_n 46 0 0 0 rfl (e_iload_iload_n 47 0 1 1 rfl (e_aload_aload_n 48 0 0 0 rfl (e_gf 49 86210 18 3 2 rfl rfl (e_iload_iload_n 52 0 1 1 rfl (e_iaload 53 0 (e_psh_iconst 54 3 3 (e_iadd 55 0 (e_psh_iconst 56 1 1 (e_invV_invokevirtual 57 254052 100 4 15 3 rfl rfl rfl rfl rfl rfl (kE20_60)))))))))))))))))))
set_option maxHeartbeats 100000 in
def k20_27 : ex_C := c_psh 0 (c_istore 1 (k20_29))
set_option maxHeartbeats 100000 in
theorem kE20_27 : ex_CE 0 [] cd_20 k20_27 q20_27 := e_psh_iconst 27 0 0 (e_istore_istore_n 28 0 1 1 rfl (kE20_29))
set_option maxHeartbeats 100000 in
def k20_2 : ex_C := c_iload 1 (c_aload 0 (c_gf 3 14 (c_icmp_ge 27 (c_aload 0 (c_gf 3 13 (c_iload 1 (c_aload 0 (c_iload 1 (c_invV [] cd_20 17 2 21 3 (c_bastore (c_iinc 1 1 (c_goto 2))))))))))))
set_option maxHeartbeats 100000 in
theorem kE20_2 : ex_CE 0 [] cd_20 k20_2 q20_2 := e_iload_iload_n 2 0 1 1 rfl (e_aload_aload_n 3 0 0 0 rfl (e_gf 4 206 55 3 14 rfl rfl (e_icmp_ge 7 27 20 (e_aload_aload_n 10 0 0 0 rfl (e_gf 11 86221 51 3 13 rfl rfl (e_iload_iload_n 14 0 1 1 rfl (e_aload_aload_n 15 0 0 0 rfl (e_iload_iload_n 16 0 1 1 rfl (e_invV_invokevirtual 17 303202 96 2 21 3 rfl rfl rfl rfl rfl rfl (e_bastore 20 0 (e_iinc 21 1 1 1 (e_goto 24 2 (-22)))))))))))))
set_option maxHeartbeats 100000 in
def k20_0 : ex_C := c_psh 0 (c_istore 1 (k20_2))
set_option maxHeartbeats 100000 in
theorem kE20_0 : ex_CE 0 [] cd_20 k20_0 q20_0 := e_psh_iconst 0 0 0 (e_istore_istore_n 1 0 1 1 rfl (kE20_2))
def kt_20 : Nat → Option ex_C := fun pc => @Bool.rec (fun _ => Nat → Option ex_C) (fun pc => @Bool.rec (fun _ => Nat → Option ex_C) (fun pc => @Bool.rec (fun _ => Nat → Option ex_C) (fun pc => @Bool.rec (fun _ => Nat → Option ex_C) (fun pc => @Bool.rec (fun _ => Option ex_C) none (some k20_114) (Nat.beq pc 114)) (fun pc => @Bool.rec (fun _ => Option ex_C) none (some k20_108) (Nat.beq pc 108)) (Nat.ble pc 108) pc) (fun pc => @Bool.rec (fun _ => Option ex_C) none (some k20_92) (Nat.beq pc 92)) (Nat.ble pc 92) pc) (fun pc => @Bool.rec (fun _ => Nat → Option ex_C) (fun pc => @Bool.rec (fun _ => Option ex_C) none (some k20_70) (Nat.beq pc 70)) (fun pc => @Bool.rec (fun _ => Option ex_C) none (some k20_66) (Nat.beq pc 66)) (Nat.ble pc 66) pc) (Nat.ble pc 70) pc) (fun pc => @Bool.rec (fun _ => Nat → Option ex_C) (fun pc => @Bool.rec (fun _ => Nat → Option ex_C) (fun pc => @Bool.rec (fun _ => Nat → Option ex_C) (fun pc => @Bool.rec (fun _ => Option ex_C) none (some k20_60) (Nat.beq pc 60)) (fun pc => @Bool.rec (fun _ => Option ex_C) none (some k20_29) (Nat.beq pc 29)) (Nat.ble pc 29) pc) (fun pc => @Bool.rec (fun _ => Option ex_C) none (some k20_27) (Nat.beq pc 27)) (Nat.ble pc 27) pc) (fun pc => @Bool.rec (fun _ => Nat → Option ex_C) (fun pc => @Bool.rec (fun _ => Option ex_C) none (some k20_2) (Nat.beq pc 2)) (fun pc => @Bool.rec (fun _ => Option ex_C) none (some k20_0) (Nat.beq pc 0)) (Nat.ble pc 0) pc) (Nat.ble pc 2) pc) (Nat.ble pc 60) pc
theorem ktE_20 : ex_CTT 0 [] cd_20 kt_20 cd_20 := (ex_ct2 (ex_ct2 (ex_ct2 (ex_ct1 kE20_0) (ex_ct1 kE20_2)) (ex_ct2 (ex_ct1 kE20_27) (ex_ct2 (ex_ct1 kE20_29) (ex_ct1 kE20_60)))) (ex_ct2 (ex_ct2 (ex_ct1 kE20_66) (ex_ct1 kE20_70)) (ex_ct2 (ex_ct1 kE20_92) (ex_ct2 (ex_ct1 kE20_108) (ex_ct1 kE20_114)))))
set_option maxHeartbeats 100000 in
def k21_111 : ex_C := c_ireturn  1
set_option maxHeartbeats 100000 in
theorem kE21_111 : ex_CE 1 [] cd_21 k21_111 q21_111 := e_ireturn 111 0 
set_option maxHeartbeats 100000 in
def k21_110 : ex_C := c_psh 0 (k21_111)
set_option maxHeartbeats 100000 in
theorem kE21_110 : ex_CE 1 [] cd_21 k21_110 q21_110 := e_psh_iconst 110 0 0 (kE21_111)
set_option maxHeartbeats 100000 in
def k21_66 : ex_C := c_iload 3 (c_psh 1 (c_icmp_ne 110 (c_aload 0 (c_gf 3 2 (c_iload 2 (c_iaload (c_aload 0 (c_gf 3 2 (c_iload 1 (c_iaload (c_psh 2 (c_iadd (c_psh 3 (c_iand (c_icmp_ne 110 (c_aload 0 (c_iload 1 (c_invV [] cd_21 92 2 22 3 (c_if_eq 110 (c_aload 0 (c_iload 2 (c_invV [] cd_21 100 2 22 3 (c_if_eq 110 (c_psh 1 (c_goto 111)))))))))))))))))))))))))
set_option maxHeartbeats 100000 in
theorem kE21_66 : ex_CE 1 [] cd_21 k21_66 q21_66 := e_iload_iload_n 66 0 3 3 rfl (e_psh_iconst 67 1 1 (e_icmp_ne 68 110 42 (e_aload_aload_n 71 0 0 0 rfl (e_gf 72 86210 18 3 2 rfl rfl (e_iload_iload_n 75 0 2 2 rfl (e_iaload 76 0 (e_aload_aload_n 77 0 0 0 rfl (e_gf 78 86210 18 3 2 rfl rfl (e_iload_iload_n 81 0 1 1 rfl (e_iaload 82 0 (e_psh_iconst 83 2 2 (e_iadd 84 0 (e_psh_iconst 85 3 3 (e_iand 86 0 (e_icmp_ne 87 110 23 (e_aload_aload_n 90 0 0 0 rfl (e_iload_iload_n 91 0 1 1 rfl (e_invV_invokevirtual 92 311394 107 2 22 3 rfl rfl rfl rfl rfl rfl (e_if_eq 95 110 15 (e_aload_aload_n 98 0 0 0 rfl (e_iload_iload_n 99 0 2 2 rfl (e_invV_invokevirtual 100 311394 107 2 22 3 rfl rfl rfl rfl rfl rfl (e_if_eq 103 110 7 (e_psh_iconst 106 1 1 (e_goto 107 111 4)))))))))))))))))))))))))
set_option maxHeartbeats 100000 in
def k21_60 : ex_C := c_iinc 4 1 (c_goto 7)
set_option maxHeartbeats 100000 in
theorem kE21_60 : ex_CE 1 [] cd_21 k21_60 q21_60 := e_iinc 60 1 4 1 (e_goto 63 7 (-56))
set_option maxHeartbeats 100000 in
def k21_7 : ex_C := c_iload 4 (c_aload 0 (c_gf 3 14 (c_icmp_ge 66 (c_iload 4 (c_iload 1 (c_icmp_eq 60 (c_aload 0 (c_gf 3 0 (c_iload 4 (c_iaload (c_aload 0 (c_gf 3 0 (c_iload 1 (c_iaload (c_icmp_ne 60 (c_aload 0 (c_gf 3 1 (c_iload 4 (c_iaload (c_aload 0 (c_gf 3 1 (c_iload 1 (c_iaload (c_icmp_ne 60 (c_iload 4 (c_istore 2 (c_iinc 3 1 (k21_60))))))))))))))))))))))))))))
set_option maxHeartbeats 100000 in
theorem kE21_7 : ex_CE 1 [] cd_21 k21_7 q21_7 := e_iload_iload 7 0 4 (e_aload_aload_n 9 0 0 0 rfl (e_gf 10 206 55 3 14 rfl rfl (e_icmp_ge 13 66 53 (e_iload_iload 16 0 4 (e_iload_iload_n 18 0 1 1 rfl (e_icmp_eq 19 60 41 (e_aload_aload_n 22 0 0 0 rfl (e_gf 23 86208 9 3 0 rfl rfl (e_iload_iload 26 0 4 (e_iaload 28 0 (e_aload_aload_n 29 0 0 0 rfl (e_gf 30 86208 9 3 0 rfl rfl (e_iload_iload_n 33 0 1 1 rfl (e_iaload 34 0 (e_icmp_ne 35 60 25 (e_aload_aload_n 38 0 0 0 rfl (e_gf 39 86209 15 3 1 rfl rfl (e_iload_iload 42 0 4 (e_iaload 44 0 (e_aload_aload_n 45 0 0 0 rfl (e_gf 46 86209 15 3 1 rfl rfl (e_iload_iload_n 49 0 1 1 rfl (e_iaload 50 0 (e_icmp_ne 51 60 9 (e_iload_iload 54 0 4 (e_istore_istore_n 56 0 2 2 rfl (e_iinc 57 1 3 1 (kE21_60))))))))))))))))))))))))))))
set_option maxHeartbeats 100000 in
def k21_0 : ex_C := c_psh 4294967295 (c_istore 2 (c_psh 0 (c_istore 3 (c_psh 0 (c_istore 4 (k21_7))))))
set_option maxHeartbeats 100000 in
theorem kE21_0 : ex_CE 1 [] cd_21 k21_0 q21_0 := e_psh_iconst 0 4294967295 (-1) (e_istore_istore_n 1 0 2 2 rfl (e_psh_iconst 2 0 0 (e_istore_istore_n 3 0 3 3 rfl (e_psh_iconst 4 0 0 (e_istore_istore 5 0 4 (kE21_7))))))
def kt_21 : Nat → Option ex_C := fun pc => @Bool.rec (fun _ => Nat → Option ex_C) (fun pc => @Bool.rec (fun _ => Nat → Option ex_C) (fun pc => @Bool.rec (fun _ => Nat → Option ex_C) (fun pc => @Bool.rec (fun _ => Option ex_C) none (some k21_111) (Nat.beq pc 111)) (fun pc => @Bool.rec (fun _ => Option ex_C) none (some k21_110) (Nat.beq pc 110)) (Nat.ble pc 110) pc) (fun pc => @Bool.rec (fun _ => Option ex_C) none (some k21_66) (Nat.beq pc 66)) (Nat.ble pc 66) pc) (fun pc => @Bool.rec (fun _ => Nat → Option ex_C) (fun pc => @Bool.rec (fun _ => Nat → Option ex_C) (fun pc => @Bool.rec (fun _ => Option ex_C) none (some k21_60) (Nat.beq pc 60)) (fun pc => @Bool.rec (fun _ => Option ex_C) none (some k21_7) (Nat.beq pc 7)) (Nat.ble pc 7) pc) (fun pc => @Bool.rec (fun _ => Option ex_C) none (some k21_0) (Nat.beq pc 0)) (Nat.ble pc 0) pc) (Nat.ble pc 60) pc
theorem ktE_21 : ex_CTT 1 [] cd_21 kt_21 cd_21 := (ex_ct2 (ex_ct2 (ex_ct1 kE21_0) (ex_ct2 (ex_ct1 kE21_7) (ex_ct1 kE21_60))) (ex_ct2 (ex_ct1 kE21_66) (ex_ct2 (ex_ct1 kE21_110) (ex_ct1 kE21_111))))
set_option maxHeartbeats 100000 in
def k22_35 : ex_C := c_ireturn  1
set_option maxHeartbeats 100000 in
theorem kE22_35 : ex_CE 1 [] cd_22 k22_35 q22_35 := e_ireturn 35 0 
set_option maxHeartbeats 100000 in
def k22_34 : ex_C := c_psh 0 (k22_35)
set_option maxHeartbeats 100000 in
theorem kE22_34 : ex_CE 1 [] cd_22 k22_34 q22_34 := e_psh_iconst 34 0 0 (kE22_35)
set_option maxHeartbeats 100000 in
def k22_30 : ex_C := c_psh 1 (c_goto 35)
set_option maxHeartbeats 100000 in
theorem kE22_30 : ex_CE 1 [] cd_22 k22_30 q22_30 := e_psh_iconst 30 1 1 (e_goto 31 35 4)
set_option maxHeartbeats 100000 in
def k22_0 : ex_C := c_aload 0 (c_gf 3 0 (c_iload 1 (c_iaload (c_aload 0 (c_gf 3 6 (c_iload 1 (c_iaload (c_icmp_ne 30 (c_aload 0 (c_gf 3 1 (c_iload 1 (c_iaload (c_aload 0 (c_gf 3 7 (c_iload 1 (c_iaload (c_icmp_eq 34 (k22_30))))))))))))))))))
set_option maxHeartbeats 100000 in
theorem kE22_0 : ex_CE 1 [] cd_22 k22_0 q22_0 := e_aload_aload_n 0 0 0 0 rfl (e_gf 1 86208 9 3 0 rfl rfl (e_iload_iload_n 4 0 1 1 rfl (e_iaload 5 0 (e_aload_aload_n 6 0 0 0 rfl (e_gf 7 86214 30 3 6 rfl rfl (e_iload_iload_n 10 0 1 1 rfl (e_iaload 11 0 (e_icmp_ne 12 30 18 (e_aload_aload_n 15 0 0 0 rfl (e_gf 16 86209 15 3 1 rfl rfl (e_iload_iload_n 19 0 1 1 rfl (e_iaload 20 0 (e_aload_aload_n 21 0 0 0 rfl (e_gf 22 86215 33 3 7 rfl rfl (e_iload_iload_n 25 0 1 1 rfl (e_iaload 26 0 (e_icmp_eq 27 34 7 (kE22_30))))))))))))))))))
def kt_22 : Nat → Option ex_C := fun pc => @Bool.rec (fun _ => Nat → Option ex_C) (fun pc => @Bool.rec (fun _ => Nat → Option ex_C) (fun pc => @Bool.rec (fun _ => Option ex_C) none (some k22_35) (Nat.beq pc 35)) (fun pc => @Bool.rec (fun _ => Option ex_C) none (some k22_34) (Nat.beq pc 34)) (Nat.ble pc 34) pc) (fun pc => @Bool.rec (fun _ => Nat → Option ex_C) (fun pc => @Bool.rec (fun _ => Option ex_C) none (some k22_30) (Nat.beq pc 30)) (fun pc => @Bool.rec (fun _ => Option ex_C) none (some k22_0) (Nat.beq pc 0)) (Nat.ble pc 0) pc) (Nat.ble pc 30) pc
theorem ktE_22 : ex_CTT 1 [] cd_22 kt_22 cd_22 := (ex_ct2 (ex_ct2 (ex_ct1 kE22_0) (ex_ct1 kE22_30)) (ex_ct2 (ex_ct1 kE22_34) (ex_ct1 kE22_35)))
set_option maxHeartbeats 100000 in
def k23_51 : ex_C := c_iload 2 (c_ireturn  0)
set_option maxHeartbeats 100000 in
theorem kE23_51 : ex_CE 0 [] cd_23 k23_51 q23_51 := e_iload_iload_n 51 0 2 2 rfl (e_ireturn 52 0 )
set_option maxHeartbeats 100000 in
def k23_45 : ex_C := c_iinc 3 1 (c_goto 4)
set_option maxHeartbeats 100000 in
theorem kE23_45 : ex_CE 0 [] cd_23 k23_45 q23_45 := e_iinc 45 1 3 1 (e_goto 48 4 (-44))
set_option maxHeartbeats 100000 in
def k23_4 : ex_C := c_iload 3 (c_aload 0 (c_gf 3 14 (c_icmp_ge 51 (c_aload 0 (c_gf 3 0 (c_iload 3 (c_iaload (c_aload 0 (c_gf 3 0 (c_iload 1 (c_iaload (c_icmp_ne 45 (c_aload 0 (c_gf 3 1 (c_iload 3 (c_iaload (c_aload 0 (c_gf 3 1 (c_iload 1 (c_iaload (c_icmp_ne 45 (c_iinc 2 1 (k23_45)))))))))))))))))))))))
set_option maxHeartbeats 100000 in
theorem kE23_4 : ex_CE 0 [] cd_23 k23_4 q23_4 := e_iload_iload_n 4 0 3 3 rfl (e_aload_aload_n 5 0 0 0 rfl (e_gf 6 206 55 3 14 rfl rfl (e_icmp_ge 9 51 42 (e_aload_aload_n 12 0 0 0 rfl (e_gf 13 86208 9 3 0 rfl rfl (e_iload_iload_n 16 0 3 3 rfl (e_iaload 17 0 (e_aload_aload_n 18 0 0 0 rfl (e_gf 19 86208 9 3 0 rfl rfl (e_iload_iload_n 22 0 1 1 rfl (e_iaload 23 0 (e_icmp_ne 24 45 21 (e_aload_aload_n 27 0 0 0 rfl (e_gf 28 86209 15 3 1 rfl rfl (e_iload_iload_n 31 0 3 3 rfl (e_iaload 32 0 (e_aload_aload_n 33 0 0 0 rfl (e_gf 34 86209 15 3 1 rfl rfl (e_iload_iload_n 37 0 1 1 rfl (e_iaload 38 0 (e_icmp_ne 39 45 6 (e_iinc 42 1 2 1 (kE23_45)))))))))))))))))))))))
set_option maxHeartbeats 100000 in
def k23_0 : ex_C := c_psh 0 (c_istore 2 (c_psh 0 (c_istore 3 (k23_4))))
set_option maxHeartbeats 100000 in
theorem kE23_0 : ex_CE 0 [] cd_23 k23_0 q23_0 := e_psh_iconst 0 0 0 (e_istore_istore_n 1 0 2 2 rfl (e_psh_iconst 2 0 0 (e_istore_istore_n 3 0 3 3 rfl (kE23_4))))
def kt_23 : Nat → Option ex_C := fun pc => @Bool.rec (fun _ => Nat → Option ex_C) (fun pc => @Bool.rec (fun _ => Nat → Option ex_C) (fun pc => @Bool.rec (fun _ => Option ex_C) none (some k23_51) (Nat.beq pc 51)) (fun pc => @Bool.rec (fun _ => Option ex_C) none (some k23_45) (Nat.beq pc 45)) (Nat.ble pc 45) pc) (fun pc => @Bool.rec (fun _ => Nat → Option ex_C) (fun pc => @Bool.rec (fun _ => Option ex_C) none (some k23_4) (Nat.beq pc 4)) (fun pc => @Bool.rec (fun _ => Option ex_C) none (some k23_0) (Nat.beq pc 0)) (Nat.ble pc 0) pc) (Nat.ble pc 4) pc
theorem ktE_23 : ex_CTT 0 [] cd_23 kt_23 cd_23 := (ex_ct2 (ex_ct2 (ex_ct1 kE23_0) (ex_ct1 kE23_4)) (ex_ct2 (ex_ct1 kE23_45) (ex_ct1 kE23_51)))
set_option maxHeartbeats 100000 in
def k24_135 : ex_C := c_return_  15
set_option maxHeartbeats 100000 in
theorem kE24_135 : ex_CE 15 [] cd_24 k24_135 q24_135 := e_return_ 135 0 
set_option maxHeartbeats 100000 in
def k24_85 : ex_C := c_istore 7 (c_aload 0 (c_aload 1 (c_iload 4 (c_aload 1 (c_gf 3 11 (c_iload 4 (c_iaload (c_iload 5 (c_iload 6 (c_iload 7 (c_invV [] cd_24 104 7 25 3 (c_aload 0 (c_aload 1 (c_iload 4 (c_aload 1 (c_gf 3 12 (c_iload 4 (c_iaload (c_iload 5 (c_iload 6 (c_iload 7 (c_psh 2 (c_iadd (c_invV [] cd_24 126 7 25 3 (c_iinc 4 1 (c_goto 3))))))))))))))))))))))))))
set_option maxHeartbeats 100000 in
theorem kE24_85 : ex_CE 15 [] cd_24 k24_85 q24_85 := e_istore_istore 85 0 7 (e_aload_aload_n 87 0 0 0 rfl (e_aload_aload_n 88 0 1 1 rfl (e_iload_iload 89 0 4 (e_aload_aload_n 91 0 1 1 rfl (e_gf 92 86219 45 3 11 rfl rfl (e_iload_iload 95 0 4 (e_iaload 97 0 (e_iload_iload 98 0 5 (e_iload_iload 100 0 6 (e_iload_iload 102 0 7 (e_invV_invokevirtual 104 335975 110 7 25 3 rfl rfl rfl rfl rfl rfl (e_aload_aload_n 107 0 0 0 rfl (e_aload_aload_n 108 0 1 1 rfl (e_iload_iload 109 0 4 (e_aload_aload_n 111 0 1 1 rfl (e_gf 112 86220 48 3 12 rfl rfl (e_iload_iload 115 0 4 (e_iaload 117 0 (e_iload_iload 118 0 5 (e_iload_iload 120 0 6 (e_iload_iload 122 0 7 (e_psh_iconst 124 2 2 (e_iadd 125 0 (e_invV_invokevirtual 126 335975 110 7 25 3 rfl rfl rfl rfl rfl rfl (e_iinc 129 1 4 1 (e_goto 132 3 (-129)))))))))))))))))))))))))))
set_option maxHeartbeats 100000 in
def k24_76 : ex_C := c_aload 1 (c_gf 3 2 (c_iload 4 (c_iaload (c_psh 3 (c_iadd (k24_85))))))
set_option maxHeartbeats 100000 in
theorem kE24_76 : ex_CE 15 [] cd_24 k24_76 q24_76 := e_aload_aload_n 76 0 1 1 rfl (e_gf 77 86210 18 3 2 rfl rfl (e_iload_iload 80 0 4 (e_iaload 82 0 (e_psh_iconst 83 3 3 (e_iadd 84 0 (kE24_85))))))
set_option maxHeartbeats 100000 in
def k24_60 : ex_C := c_istore 6 (c_iload 2 (c_if_eq 76 (c_aload 1 (c_gf 3 2 (c_iload 4 (c_iaload (c_goto 85)))))))
set_option maxHeartbeats 100000 in
theorem kE24_60 : ex_CE 15 [] cd_24 k24_60 q24_60 := e_istore_istore 60 0 6 (e_iload_iload_n 62 0 2 2 rfl (e_if_eq 63 76 13 (e_aload_aload_n 66 0 1 1 rfl (e_gf 67 86210 18 3 2 rfl rfl (e_iload_iload 70 0 4 (e_iaload 72 0 (e_goto 73 85 12)))))))
set_option maxHeartbeats 100000 in
def k24_51 : ex_C := c_psh 2 (c_aload 1 (c_gf 3 1 (c_iload 4 (c_iaload (c_imul (k24_60))))))
set_option maxHeartbeats 100000 in
theorem kE24_51 : ex_CE 15 [] cd_24 k24_51 q24_51 := e_psh_iconst 51 2 2 (e_aload_aload_n 52 0 1 1 rfl (e_gf 53 86209 15 3 1 rfl rfl (e_iload_iload 56 0 4 (e_iaload 58 0 (e_imul 59 0 (kE24_60))))))
set_option maxHeartbeats 100000 in
def k24_35 : ex_C := c_istore 5 (c_iload 3 (c_if_eq 51 (c_aload 1 (c_gf 3 1 (c_iload 4 (c_iaload (c_goto 60)))))))
set_option maxHeartbeats 100000 in
theorem kE24_35 : ex_CE 15 [] cd_24 k24_35 q24_35 := e_istore_istore 35 0 5 (e_iload_iload_n 37 0 3 3 rfl (e_if_eq 38 51 13 (e_aload_aload_n 41 0 1 1 rfl (e_gf 42 86209 15 3 1 rfl rfl (e_iload_iload 45 0 4 (e_iaload 47 0 (e_goto 48 60 12)))))))
set_option maxHeartbeats 100000 in
def k24_28 : ex_C := c_aload 1 (c_gf 3 0 (c_iload 4 (c_iaload (k24_35))))
set_option maxHeartbeats 100000 in
theorem kE24_28 : ex_CE 15 [] cd_24 k24_28 q24_28 := e_aload_aload_n 28 0 1 1 rfl (e_gf 29 86208 9 3 0 rfl rfl (e_iload_iload 32 0 4 (e_iaload 34 0 (kE24_35))))
set_option maxHeartbeats 100000 in
def k24_3 : ex_C := c_iload 4 (c_aload 1 (c_gf 3 14 (c_icmp_ge 135 (c_iload 3 (c_if_eq 28 (c_psh 2 (c_aload 1 (c_gf 3 0 (c_iload 4 (c_iaload (c_imul (c_goto 35))))))))))))
set_option maxHeartbeats 100000 in
theorem kE24_3 : ex_CE 15 [] cd_24 k24_3 q24_3 := e_iload_iload 3 0 4 (e_aload_aload_n 5 0 1 1 rfl (e_gf 6 206 55 3 14 rfl rfl (e_icmp_ge 9 135 126 (e_iload_iload_n 12 0 3 3 rfl (e_if_eq 13 28 15 (e_psh_iconst 16 2 2 (e_aload_aload_n 17 0 1 1 rfl (e_gf 18 86208 9 3 0 rfl rfl (e_iload_iload 21 0 4 (e_iaload 23 0 (e_imul 24 0 (e_goto 25 35 10))))))))))))
set_option maxHeartbeats 100000 in
def k24_0 : ex_C := c_psh 0 (c_istore 4 (k24_3))
set_option maxHeartbeats 100000 in
theorem kE24_0 : ex_CE 15 [] cd_24 k24_0 q24_0 := e_psh_iconst 0 0 0 (e_istore_istore 1 0 4 (kE24_3))
def kt_24 : Nat → Option ex_C := fun pc => @Bool.rec (fun _ => Nat → Option ex_C) (fun pc => @Bool.rec (fun _ => Nat → Option ex_C) (fun pc => @Bool.rec (fun _ => Nat → Option ex_C) (fun pc => @Bool.rec (fun _ => Nat → Option ex_C) (fun pc => @Bool.rec (fun _ => Option ex_C) none (some k24_135) (Nat.beq pc 135)) (fun pc => @Bool.rec (fun _ => Option ex_C) none (some k24_85) (Nat.beq pc 85)) (Nat.ble pc 85) pc) (fun pc => @Bool.rec (fun _ => Option ex_C) none (some k24_76) (Nat.beq pc 76)) (Nat.ble pc 76) pc) (fun pc => @Bool.rec (fun _ => Nat → Option ex_C) (fun pc => @Bool.rec (fun _ => Option ex_C) none (some k24_60) (Nat.beq pc 60)) (fun pc => @Bool.rec (fun _ => Option ex_C) none (some k24_51) (Nat.beq pc 51)) (Nat.ble pc 51) pc) (Nat.ble pc 60) pc) (fun pc => @Bool.rec (fun _ => Nat → Option ex_C) (fun pc => @Bool.rec (fun _ => Nat → Option ex_C) (fun pc => @Bool.rec (fun _ => Option ex_C) none (some k24_35) (Nat.beq pc 35)) (fun pc => @Bool.rec (fun _ => Option ex_C) none (some k24_28) (Nat.beq pc 28)) (Nat.ble pc 28) pc) (fun pc => @Bool.rec (fun _ => Nat → Option ex_C) (fun pc => @Bool.rec (fun _ => Option ex_C) none (some k24_3) (Nat.beq pc 3)) (fun pc => @Bool.rec (fun _ => Option ex_C) none (some k24_0) (Nat.beq pc 0)) (Nat.ble pc 0) pc) (Nat.ble pc 3) pc) (Nat.ble pc 35) pc
theorem ktE_24 : ex_CTT 15 [] cd_24 kt_24 cd_24 := (ex_ct2 (ex_ct2 (ex_ct2 (ex_ct1 kE24_0) (ex_ct1 kE24_3)) (ex_ct2 (ex_ct1 kE24_28) (ex_ct1 kE24_35))) (ex_ct2 (ex_ct2 (ex_ct1 kE24_51) (ex_ct1 kE24_60)) (ex_ct2 (ex_ct1 kE24_76) (ex_ct2 (ex_ct1 kE24_85) (ex_ct1 kE24_135)))))
set_option maxHeartbeats 100000 in
def k25_82 : ex_C := c_return_  15
set_option maxHeartbeats 100000 in
theorem kE25_82 : ex_CE 15 [] cd_25 k25_82 q25_82 := e_return_ 82 0 
set_option maxHeartbeats 100000 in
def k25_0 : ex_C := c_aload 0 (c_gf 3 0 (c_iload 3 (c_iload 4 (c_iastore (c_aload 0 (c_gf 3 1 (c_iload 3 (c_iload 5 (c_iastore (c_aload 0 (c_iload 3 (c_iload 6 (c_psh 1 (c_invV [] cd_25 21 4 15 3 (c_aload 0 (c_gf 3 2 (c_iload 3 (c_aload 1 (c_gf 3 2 (c_iload 2 (c_iaload (c_iastore (c_aload 0 (c_gf 3 8 (c_iload 3 (c_dup2   (c_iaload (c_aload 1 (c_gf 3 8 (c_iload 2 (c_iaload (c_iadd (c_iastore (c_aload 1 (c_gf 3 9 (c_iload 2 (c_iaload (c_if_eq 82 (c_aload 0 (c_iload 3 (c_aload 1 (c_gf 3 9 (c_iload 2 (c_iaload (c_invV [] cd_25 68 3 19 3 (c_aload 0 (c_iload 3 (c_aload 1 (c_gf 3 10 (c_iload 2 (c_iaload (c_invV [] cd_25 79 3 19 3 (k25_82)))))))))))))))))))))))))))))))))))))))))))))))))))))
set_option maxHeartbeats 100000 in
theorem kE25_0 : ex_CE 15 [] cd_25 k25_0 q25_0 := e_aload_aload_n 0 0 0 0 rfl (e_gf 1 86208 9 3 0 rfl rfl (e_iload_iload_n 4 0 3 3 rfl (e_iload_iload 5 0 4 (e_iastore 7 0 (e_aload_aload_n 8 0 0 0 rfl (e_gf 9 86209 15 3 1 rfl rfl (e_iload_iload_n 12 0 3 3 rfl (e_iload_iload 13 0 5 (e_iastore 15 0 (e_aload_aload_n 16 0 0 0 rfl (e_iload_iload_n 17 0 3 3 rfl (e_iload_iload 18 0 6 (e_psh_iconst 20 1 1 (e_invV_invokevirtual 21 254052 100 4 15 3 rfl rfl rfl rfl rfl rfl (e_aload_aload_n 24 0 0 0 rfl (e_gf 25 86210 18 3 2 rfl rfl (e_iload_iload_n 28 0 3 3 rfl (e_aload_aload_n 29 0 1 1 rfl (e_gf 30 86210 18 3 2 rfl rfl (e_iload_iload_n 33 0 2 2 rfl (e_iaload 34 0 (e_iastore 35 0 (e_aload_aload_n 36 0 0 0 rfl (e_gf 37 86216 36 3 8 rfl rfl (e_iload_iload_n 40 0 3 3 rfl (e_dup2 41 0  (e_iaload 42 0 (e_aload_aload_n 43 0 1 1 rfl (e_gf 44 86216 36 3 8 rfl rfl (e_iload_iload_n 47 0 2 2 rfl (e_iaload 48 0 (e_iadd 49 0 (e_iastore 50 0 (e_aload_aload_n 51 0 1 1 rfl (e_gf 52 86217 39 3 9 rfl rfl (e_iload_iload_n 55 0 2 2 rfl (e_iaload 56 0 (e_if_eq 57 82 25 (e_aload_aload_n 60 0 0 0 rfl (e_iload_iload_n 61 0 3 3 rfl (e_aload_aload_n 62 0 1 1 rfl (e_gf 63 86217 39 3 9 rfl rfl (e_iload_iload_n 66 0 2 2 rfl (e_iaload 67 0 (e_invV_invokevirtual 68 286819 114 3 19 3 rfl rfl rfl rfl rfl rfl (e_aload_aload_n 71 0 0 0 rfl (e_iload_iload_n 72 0 3 3 rfl (e_aload_aload_n 73 0 1 1 rfl (e_gf 74 86218 42 3 10 rfl rfl (e_iload_iload_n 77 0 2 2 rfl (e_iaload 78 0 (e_invV_invokevirtual 79 286819 114 3 19 3 rfl rfl rfl rfl rfl rfl (kE25_82)))))))))))))))))))))))))))))))))))))))))))))))))))))
def kt_25 : Nat → Option ex_C := fun pc => @Bool.rec (fun _ => Nat → Option ex_C) (fun pc => @Bool.rec (fun _ => Option ex_C) none (some k25_82) (Nat.beq pc 82)) (fun pc => @Bool.rec (fun _ => Option ex_C) none (some k25_0) (Nat.beq pc 0)) (Nat.ble pc 0) pc
theorem ktE_25 : ex_CTT 15 [] cd_25 kt_25 cd_25 := (ex_ct2 (ex_ct1 kE25_0) (ex_ct1 kE25_82))
set_option maxHeartbeats 100000 in
def k26_0 : ex_C := c_aload 0 (c_oinit (c_aload 0 (c_psh 8 (c_newarr 64 0 (c_pf 8 5 0 (c_aload 0 (c_psh 8 (c_newarr 64 0 (c_pf 8 5 1 (c_aload 0 (c_psh 8 (c_newarr 64 0 (c_pf 8 5 2 (c_aload 0 (c_psh 0 (c_pf 8 0 3 (c_aload 0 (c_psh 0 (c_pf 8 0 4 (c_return_  15))))))))))))))))))))
set_option maxHeartbeats 100000 in
theorem kE26_0 : ex_CE 15 [] cd_26 k26_0 q26_0 := e_aload_aload_n 0 0 0 0 rfl (e_oinit (e_aload_aload_n 4 0 0 0 rfl (e_psh_bipush 5 8 8 (e_newarr 7 64 0 rfl (e_pf 9 86528 9 8 5 0 rfl rfl rfl (e_aload_aload_n 12 0 0 0 rfl (e_psh_bipush 13 8 8 (e_newarr 15 64 0 rfl (e_pf 17 86529 15 8 5 1 rfl rfl rfl (e_aload_aload_n 20 0 0 0 rfl (e_psh_bipush 21 8 8 (e_newarr 23 64 0 rfl (e_pf 25 86530 18 8 5 2 rfl rfl rfl (e_aload_aload_n 28 0 0 0 rfl (e_psh_iconst 29 0 0 (e_pf 30 515 21 8 0 3 rfl rfl rfl (e_aload_aload_n 33 0 0 0 rfl (e_psh_iconst 34 0 0 (e_pf 35 516 25 8 0 4 rfl rfl rfl (e_return_ 38 0 ))))))))))))))))))))
def kt_26 : Nat → Option ex_C := fun pc => @Bool.rec (fun _ => Option ex_C) none (some k26_0) (Nat.beq pc 0)
theorem ktE_26 : ex_CTT 15 [] cd_26 kt_26 cd_26 := (ex_ct1 kE26_0)
set_option maxHeartbeats 100000 in
def k27_35 : ex_C := c_aload 0 (c_psh 0 (c_pf 8 0 3 (c_aload 0 (c_psh 0 (c_pf 8 0 4 (c_return_  15))))))
set_option maxHeartbeats 100000 in
theorem kE27_35 : ex_CE 15 [] cd_27 k27_35 q27_35 := e_aload_aload_n 35 0 0 0 rfl (e_psh_iconst 36 0 0 (e_pf 37 515 21 8 0 3 rfl rfl rfl (e_aload_aload_n 40 0 0 0 rfl (e_psh_iconst 41 0 0 (e_pf 42 516 25 8 0 4 rfl rfl rfl (e_return_ 45 0 ))))))
set_option maxHeartbeats 100000 in
def k27_2 : ex_C := c_iload 1 (c_psh 8 (c_icmp_ge 35 (c_aload 0 (c_gf 8 0 (c_iload 1 (c_psh 0 (c_iastore (c_aload 0 (c_gf 8 1 (c_iload 1 (c_psh 0 (c_iastore (c_aload 0 (c_gf 8 2 (c_iload 1 (c_psh 0 (c_iastore (c_iinc 1 1 (c_goto 2)))))))))))))))))))
set_option maxHeartbeats 100000 in
theorem kE27_2 : ex_CE 15 [] cd_27 k27_2 q27_2 := e_iload_iload_n 2 0 1 1 rfl (e_psh_bipush 3 8 8 (e_icmp_ge 5 35 30 (e_aload_aload_n 8 0 0 0 rfl (e_gf 9 86528 9 8 0 rfl rfl (e_iload_iload_n 12 0 1 1 rfl (e_psh_iconst 13 0 0 (e_iastore 14 0 (e_aload_aload_n 15 0 0 0 rfl (e_gf 16 86529 15 8 1 rfl rfl (e_iload_iload_n 19 0 1 1 rfl (e_psh_iconst 20 0 0 (e_iastore 21 0 (e_aload_aload_n 22 0 0 0 rfl (e_gf 23 86530 18 8 2 rfl rfl (e_iload_iload_n 26 0 1 1 rfl (e_psh_iconst 27 0 0 (e_iastore 28 0 (e_iinc 29 1 1 1 (e_goto 32 2 (-30))))))))))))))))))))
set_option maxHeartbeats 100000 in
def k27_0 : ex_C := c_psh 0 (c_istore 1 (k27_2))
set_option maxHeartbeats 100000 in
theorem kE27_0 : ex_CE 15 [] cd_27 k27_0 q27_0 := e_psh_iconst 0 0 0 (e_istore_istore_n 1 0 1 1 rfl (kE27_2))
def kt_27 : Nat → Option ex_C := fun pc => @Bool.rec (fun _ => Nat → Option ex_C) (fun pc => @Bool.rec (fun _ => Nat → Option ex_C) (fun pc => @Bool.rec (fun _ => Option ex_C) none (some k27_35) (Nat.beq pc 35)) (fun pc => @Bool.rec (fun _ => Option ex_C) none (some k27_2) (Nat.beq pc 2)) (Nat.ble pc 2) pc) (fun pc => @Bool.rec (fun _ => Option ex_C) none (some k27_0) (Nat.beq pc 0)) (Nat.ble pc 0) pc
theorem ktE_27 : ex_CTT 15 [] cd_27 kt_27 cd_27 := (ex_ct2 (ex_ct1 kE27_0) (ex_ct2 (ex_ct1 kE27_2) (ex_ct1 kE27_35)))
set_option maxHeartbeats 100000 in
def k28_129 : ex_C := c_return_  15
set_option maxHeartbeats 100000 in
theorem kE28_129 : ex_CE 15 [] cd_28 k28_129 q28_129 := e_return_ 129 0 
set_option maxHeartbeats 100000 in
def k28_123 : ex_C := c_iinc 2 1 (c_goto 2)
set_option maxHeartbeats 100000 in
theorem kE28_123 : ex_CE 15 [] cd_28 k28_123 q28_123 := e_iinc 123 1 2 1 (e_goto 126 2 (-124))
set_option maxHeartbeats 100000 in
def k28_107 : ex_C := c_iadd (c_pf 8 0 4 (c_aload 0 (c_gf 8 2 (c_iload 2 (c_aload 1 (c_gf 3 10 (c_iload 2 (c_iaload (c_iastore (k28_123))))))))))
set_option maxHeartbeats 100000 in
theorem kE28_107 : ex_CE 15 [] cd_28 k28_107 q28_107 := e_iadd 107 0 (e_pf 108 516 25 8 0 4 rfl rfl rfl (e_aload_aload_n 111 0 0 0 rfl (e_gf 112 86530 18 8 2 rfl rfl (e_iload_iload_n 115 0 2 2 rfl (e_aload_aload_n 116 0 1 1 rfl (e_gf 117 86218 36 3 10 rfl rfl (e_iload_iload_n 120 0 2 2 rfl (e_iaload 121 0 (e_iastore 122 0 (kE28_123))))))))))
set_option maxHeartbeats 100000 in
def k28_106 : ex_C := c_psh 0 (k28_107)
set_option maxHeartbeats 100000 in
theorem kE28_106 : ex_CE 15 [] cd_28 k28_106 q28_106 := e_psh_iconst 106 0 0 (kE28_107)
set_option maxHeartbeats 100000 in
def k28_73 : ex_C := c_aload 1 (c_gf 3 9 (c_iload 2 (c_iaload (c_if_eq 123 (c_aload 0 (c_dup   (c_gf 8 4 (c_aload 1 (c_gf 3 9 (c_iload 2 (c_iaload (c_aload 0 (c_gf 8 2 (c_iload 2 (c_iaload (c_icmp_ne 106 (c_psh 1 (c_goto 107))))))))))))))))))
set_option maxHeartbeats 100000 in
theorem kE28_73 : ex_CE 15 [] cd_28 k28_73 q28_73 := e_aload_aload_n 73 0 1 1 rfl (e_gf 74 86217 33 3 9 rfl rfl (e_iload_iload_n 77 0 2 2 rfl (e_iaload 78 0 (e_if_eq 79 123 44 (e_aload_aload_n 82 0 0 0 rfl (e_dup 83 0  (e_gf 84 516 25 8 4 rfl rfl (e_aload_aload_n 87 0 1 1 rfl (e_gf 88 86217 33 3 9 rfl rfl (e_iload_iload_n 91 0 2 2 rfl (e_iaload 92 0 (e_aload_aload_n 93 0 0 0 rfl (e_gf 94 86530 18 8 2 rfl rfl (e_iload_iload_n 97 0 2 2 rfl (e_iaload 98 0 (e_icmp_ne 99 106 7 (e_psh_iconst 102 1 1 (e_goto 103 107 4))))))))))))))))))
set_option maxHeartbeats 100000 in
def k28_62 : ex_C := c_iadd (c_pf 8 0 3 (c_aload 0 (c_gf 8 1 (c_iload 2 (c_iload 3 (c_iastore (k28_73)))))))
set_option maxHeartbeats 100000 in
theorem kE28_62 : ex_CE 15 [] cd_28 k28_62 q28_62 := e_iadd 62 0 (e_pf 63 515 21 8 0 3 rfl rfl rfl (e_aload_aload_n 66 0 0 0 rfl (e_gf 67 86529 15 8 1 rfl rfl (e_iload_iload_n 70 0 2 2 rfl (e_iload_iload_n 71 0 3 3 rfl (e_iastore 72 0 (kE28_73)))))))
set_option maxHeartbeats 100000 in
def k28_61 : ex_C := c_psh 0 (k28_62)
set_option maxHeartbeats 100000 in
theorem kE28_61 : ex_CE 15 [] cd_28 k28_61 q28_61 := e_psh_iconst 61 0 0 (kE28_62)
set_option maxHeartbeats 100000 in
def k28_57 : ex_C := c_psh 1 (c_goto 62)
set_option maxHeartbeats 100000 in
theorem kE28_57 : ex_CE 15 [] cd_28 k28_57 q28_57 := e_psh_iconst 57 1 1 (e_goto 58 62 4)
set_option maxHeartbeats 100000 in
def k28_44 : ex_C := c_iload 3 (c_if_ge 61 (c_aload 0 (c_gf 8 1 (c_iload 2 (c_iaload (c_if_le 61 (k28_57)))))))
set_option maxHeartbeats 100000 in
theorem kE28_44 : ex_CE 15 [] cd_28 k28_44 q28_44 := e_iload_iload_n 44 0 3 3 rfl (e_if_ge 45 61 16 (e_aload_aload_n 48 0 0 0 rfl (e_gf 49 86529 15 8 1 rfl rfl (e_iload_iload_n 52 0 2 2 rfl (e_iaload 53 0 (e_if_le 54 61 7 (kE28_57)))))))
set_option maxHeartbeats 100000 in
def k28_2 : ex_C := c_iload 2 (c_psh 8 (c_icmp_ge 129 (c_aload 1 (c_gf 3 8 (c_iload 2 (c_iaload (c_istore 3 (c_aload 0 (c_gf 8 0 (c_iload 2 (c_iload 3 (c_iastore (c_iload 3 (c_if_eq 73 (c_aload 0 (c_dup   (c_gf 8 3 (c_iload 3 (c_if_le 44 (c_aload 0 (c_gf 8 1 (c_iload 2 (c_iaload (c_if_lt 57 (k28_44)))))))))))))))))))))))))
set_option maxHeartbeats 100000 in
theorem kE28_2 : ex_CE 15 [] cd_28 k28_2 q28_2 := e_iload_iload_n 2 0 2 2 rfl (e_psh_bipush 3 8 8 (e_icmp_ge 5 129 124 (e_aload_aload_n 8 0 1 1 rfl (e_gf 9 86216 28 3 8 rfl rfl (e_iload_iload_n 12 0 2 2 rfl (e_iaload 13 0 (e_istore_istore_n 14 0 3 3 rfl (e_aload_aload_n 15 0 0 0 rfl (e_gf 16 86528 9 8 0 rfl rfl (e_iload_iload_n 19 0 2 2 rfl (e_iload_iload_n 20 0 3 3 rfl (e_iastore 21 0 (e_iload_iload_n 22 0 3 3 rfl (e_if_eq 23 73 50 (e_aload_aload_n 26 0 0 0 rfl (e_dup 27 0  (e_gf 28 515 21 8 3 rfl rfl (e_iload_iload_n 31 0 3 3 rfl (e_if_le 32 44 12 (e_aload_aload_n 35 0 0 0 rfl (e_gf 36 86529 15 8 1 rfl rfl (e_iload_iload_n 39 0 2 2 rfl (e_iaload 40 0 (e_if_lt 41 57 16 (kE28_44)))))))))))))))))))))))))
set_option maxHeartbeats 100000 in
def k28_0 : ex_C := c_psh 0 (c_istore 2 (k28_2))
set_option maxHeartbeats 100000 in
theorem kE28_0 : ex_CE 15 [] cd_28 k28_0 q28_0 := e_psh_iconst 0 0 0 (e_istore_istore_n 1 0 2 2 rfl (kE28_2))
def kt_28 : Nat → Option ex_C := fun pc => @Bool.rec (fun _ => Nat → Option ex_C) (fun pc => @Bool.rec (fun _ => Nat → Option ex_C) (fun pc => @Bool.rec (fun _ => Nat → Option ex_C) (fun pc => @Bool.rec (fun _ => Nat → Option ex_C) (fun pc => @Bool.rec (fun _ => Option ex_C) none (some k28_129) (Nat.beq pc 129)) (fun pc => @Bool.rec (fun _ => Option ex_C) none (some k28_123) (Nat.beq pc 123)) (Nat.ble pc 123) pc) (fun pc => @Bool.rec (fun _ => Option ex_C) none (some k28_107) (Nat.beq pc 107)) (Nat.ble pc 107) pc) (fun pc => @Bool.rec (fun _ => Nat → Option ex_C) (fun pc => @Bool.rec (fun _ => Nat → Option ex_C) (fun pc => @Bool.rec (fun _ => Option ex_C) none (some k28_106) (Nat.beq pc 106)) (fun pc => @Bool.rec (fun _ => Option ex_C) none (some k28_73) (Nat.beq pc 73)) (Nat.ble pc 73) pc) (fun pc => @Bool.rec (fun _ => Option ex_C) none (some k28_62) (Nat.beq pc 62)) (Nat.ble pc 62) pc) (Nat.ble pc 106) pc) (fun pc => @Bool.rec (fun _ => Nat → Option ex_C) (fun pc => @Bool.rec (fun _ => Nat → Option ex_C) (fun pc => @Bool.rec (fun _ => Nat → Option ex_C) (fun pc => @Bool.rec (fun _ => Option ex_C) none (some k28_61) (Nat.beq pc 61)) (fun pc => @Bool.rec (fun _ => Option ex_C) none (some k28_57) (Nat.beq pc 57)) (Nat.ble pc 57) pc) (fun pc => @Bool.rec (fun _ => Option ex_C) none (some k28_44) (Nat.beq pc 44)) (Nat.ble pc 44) pc) (fun pc => @Bool.rec (fun _ => Nat → Option ex_C) (fun pc => @Bool.rec (fun _ => Option ex_C) none (some k28_2) (Nat.beq pc 2)) (fun pc => @Bool.rec (fun _ => Option ex_C) none (some k28_0) (Nat.beq pc 0)) (Nat.ble pc 0) pc) (Nat.ble pc 2) pc) (Nat.ble pc 61) pc
theorem ktE_28 : ex_CTT 15 [] cd_28 kt_28 cd_28 := (ex_ct2 (ex_ct2 (ex_ct2 (ex_ct1 kE28_0) (ex_ct1 kE28_2)) (ex_ct2 (ex_ct1 kE28_44) (ex_ct2 (ex_ct1 kE28_57) (ex_ct1 kE28_61)))) (ex_ct2 (ex_ct2 (ex_ct1 kE28_62) (ex_ct2 (ex_ct1 kE28_73) (ex_ct1 kE28_106))) (ex_ct2 (ex_ct1 kE28_107) (ex_ct2 (ex_ct1 kE28_123) (ex_ct1 kE28_129)))))
set_option maxHeartbeats 100000 in
def k29_0 : ex_C := c_aload 0 (c_oinit (c_aload 0 (c_psh 30 (c_psh 16 (c_multianewarray 9 2  (c_pf 10 5 0 (c_aload 0 (c_psh 16 (c_psh 16 (c_multianewarray 9 2  (c_pf 10 5 1 (c_aload 0 (c_psh 16 (c_newarr 64 0 (c_pf 10 5 2 (c_aload 0 (c_psh 0 (c_pf 10 0 3 (c_aload 0 (c_psh 0 (c_pf 10 0 4 (c_return_  15))))))))))))))))))))))
set_option maxHeartbeats 100000 in
theorem kE29_0 : ex_CE 15 [] cd_29 k29_0 q29_0 := e_aload_aload_n 0 0 0 0 rfl (e_oinit (e_aload_aload_n 4 0 0 0 rfl (e_psh_bipush 5 30 30 (e_psh_bipush 7 16 16 (e_multianewarray 9 71 9 2 (e_pf 13 86656 11 10 5 0 rfl rfl rfl (e_aload_aload_n 16 0 0 0 rfl (e_psh_bipush 17 16 16 (e_psh_bipush 19 16 16 (e_multianewarray 21 71 9 2 (e_pf 25 86657 14 10 5 1 rfl rfl rfl (e_aload_aload_n 28 0 0 0 rfl (e_psh_bipush 29 16 16 (e_newarr 31 64 0 rfl (e_pf 33 86658 17 10 5 2 rfl rfl rfl (e_aload_aload_n 36 0 0 0 rfl (e_psh_iconst 37 0 0 (e_pf 38 643 21 10 0 3 rfl rfl rfl (e_aload_aload_n 41 0 0 0 rfl (e_psh_iconst 42 0 0 (e_pf 43 644 25 10 0 4 rfl rfl rfl (e_return_ 46 0 ))))))))))))))))))))))
def kt_29 : Nat → Option ex_C := fun pc => @Bool.rec (fun _ => Option ex_C) none (some k29_0) (Nat.beq pc 0)
theorem ktE_29 : ex_CTT 15 [] cd_29 kt_29 cd_29 := (ex_ct1 kE29_0)
set_option maxHeartbeats 100000 in
def k30_54 : ex_C := c_return_  15
set_option maxHeartbeats 100000 in
theorem kE30_54 : ex_CE 15 [] cd_30 k30_54 q30_54 := e_return_ 54 0 
set_option maxHeartbeats 100000 in
def k30_48 : ex_C := c_iinc 2 1 (c_goto 12)
set_option maxHeartbeats 100000 in
theorem kE30_48 : ex_CE 15 [] cd_30 k30_48 q30_48 := e_iinc 48 1 2 1 (e_goto 51 12 (-39))
set_option maxHeartbeats 100000 in
def k30_27 : ex_C := c_iload 3 (c_psh 16 (c_icmp_ge 48 (c_aload 0 (c_gf 10 1 (c_iload 2 (c_aaload   (c_iload 3 (c_psh 0 (c_iastore (c_iinc 3 1 (c_goto 27)))))))))))
set_option maxHeartbeats 100000 in
theorem kE30_27 : ex_CE 15 [] cd_30 k30_27 q30_27 := e_iload_iload_n 27 0 3 3 rfl (e_psh_bipush 28 16 16 (e_icmp_ge 30 48 18 (e_aload_aload_n 33 0 0 0 rfl (e_gf 34 86657 14 10 1 rfl rfl (e_iload_iload_n 37 0 2 2 rfl (e_aaload 38 0  (e_iload_iload_n 39 0 3 3 rfl (e_psh_iconst 40 0 0 (e_iastore 41 0 (e_iinc 42 1 3 1 (e_goto 45 27 (-18))))))))))))
set_option maxHeartbeats 100000 in
def k30_12 : ex_C := c_iload 2 (c_psh 16 (c_icmp_ge 54 (c_aload 0 (c_gf 10 2 (c_iload 2 (c_psh 0 (c_iastore (c_psh 0 (c_istore 3 (k30_27))))))))))
set_option maxHeartbeats 100000 in
theorem kE30_12 : ex_CE 15 [] cd_30 k30_12 q30_12 := e_iload_iload_n 12 0 2 2 rfl (e_psh_bipush 13 16 16 (e_icmp_ge 15 54 39 (e_aload_aload_n 18 0 0 0 rfl (e_gf 19 86658 17 10 2 rfl rfl (e_iload_iload_n 22 0 2 2 rfl (e_psh_iconst 23 0 0 (e_iastore 24 0 (e_psh_iconst 25 0 0 (e_istore_istore_n 26 0 3 3 rfl (kE30_27))))))))))
set_option maxHeartbeats 100000 in
def k30_0 : ex_C := c_aload 0 (c_iload 1 (c_pf 10 0 3 (c_aload 0 (c_psh 0 (c_pf 10 0 4 (c_psh 0 (c_istore 2 (k30_12))))))))
set_option maxHeartbeats 100000 in
theorem kE30_0 : ex_CE 15 [] cd_30 k30_0 q30_0 := e_aload_aload_n 0 0 0 0 rfl (e_iload_iload_n 1 0 1 1 rfl (e_pf 2 643 21 10 0 3 rfl rfl rfl (e_aload_aload_n 5 0 0 0 rfl (e_psh_iconst 6 0 0 (e_pf 7 644 25 10 0 4 rfl rfl rfl (e_psh_iconst 10 0 0 (e_istore_istore_n 11 0 2 2 rfl (kE30_12))))))))
def kt_30 : Nat → Option ex_C := fun pc => @Bool.rec (fun _ => Nat → Option ex_C) (fun pc => @Bool.rec (fun _ => Nat → Option ex_C) (fun pc => @Bool.rec (fun _ => Nat → Option ex_C) (fun pc => @Bool.rec (fun _ => Option ex_C) none (some k30_54) (Nat.beq pc 54)) (fun pc => @Bool.rec (fun _ => Option ex_C) none (some k30_48) (Nat.beq pc 48)) (Nat.ble pc 48) pc) (fun pc => @Bool.rec (fun _ => Option ex_C) none (some k30_27) (Nat.beq pc 27)) (Nat.ble pc 27) pc) (fun pc => @Bool.rec (fun _ => Nat → Option ex_C) (fun pc => @Bool.rec (fun _ => Option ex_C) none (some k30_12) (Nat.beq pc 12)) (fun pc => @Bool.rec (fun _ => Option ex_C) none (some k30_0) (Nat.beq pc 0)) (Nat.ble pc 0) pc) (Nat.ble pc 12) pc
theorem ktE_30 : ex_CTT 15 [] cd_30 kt_30 cd_30 := (ex_ct2 (ex_ct2 (ex_ct1 kE30_0) (ex_ct1 kE30_12)) (ex_ct2 (ex_ct1 kE30_27) (ex_ct2 (ex_ct1 kE30_48) (ex_ct1 kE30_54))))
set_option maxHeartbeats 100000 in
def k31_84 : ex_C := c_aload 0 (c_dup   (c_gf 10 4 (c_psh 1 (c_iadd (c_pf 10 0 4 (c_aload 0 (c_gf 10 3 (c_psh 4 (c_iload 2 (c_imul (c_isub (c_ireturn  0))))))))))))
set_option maxHeartbeats 100000 in
theorem kE31_84 : ex_CE 0 [] cd_31 k31_84 q31_84 := e_aload_aload_n 84 0 0 0 rfl (e_dup 85 0  (e_gf 86 644 25 10 4 rfl rfl (e_psh_iconst 89 1 1 (e_iadd 90 0 (e_pf 91 644 25 10 0 4 rfl rfl rfl (e_aload_aload_n 94 0 0 0 rfl (e_gf 95 643 21 10 3 rfl rfl (e_psh_iconst 98 4 4 (e_iload_iload_n 99 0 2 2 rfl (e_imul 100 0 (e_isub 101 0 (e_ireturn 102 0 ))))))))))))
set_option maxHeartbeats 100000 in
def k31_78 : ex_C := c_iinc 3 1 (c_goto 37)
set_option maxHeartbeats 100000 in
theorem kE31_78 : ex_CE 0 [] cd_31 k31_78 q31_78 := e_iinc 78 1 3 1 (e_goto 81 37 (-44))
set_option maxHeartbeats 100000 in
def k31_72 : ex_C := c_iinc 4 1 (c_goto 45)
set_option maxHeartbeats 100000 in
theorem kE31_72 : ex_CE 0 [] cd_31 k31_72 q31_72 := e_iinc 72 1 4 1 (e_goto 75 45 (-30))
set_option maxHeartbeats 100000 in
def k31_45 : ex_C := c_iload 4 (c_psh 4 (c_icmp_ge 78 (c_aload 0 (c_aload 1 (c_iload 3 (c_invV [] cd_31 54 3 32 10 (c_istore 5 (c_iload 5 (c_if_lt 72 (c_aload 0 (c_aload 1 (c_iload 3 (c_iload 5 (c_invV [] cd_31 69 4 34 10 (k31_72)))))))))))))))
set_option maxHeartbeats 100000 in
theorem kE31_45 : ex_CE 0 [] cd_31 k31_45 q31_45 := e_iload_iload 45 0 4 (e_psh_iconst 47 4 4 (e_icmp_ge 48 78 30 (e_aload_aload_n 51 0 0 0 rfl (e_aload_aload_n 52 0 1 1 rfl (e_iload_iload_n 53 0 3 3 rfl (e_invV_invokevirtual 54 393539 28 3 32 10 rfl rfl rfl rfl rfl rfl (e_istore_istore 57 0 5 (e_iload_iload 59 0 5 (e_if_lt 61 72 11 (e_aload_aload_n 64 0 0 0 rfl (e_aload_aload_n 65 0 1 1 rfl (e_iload_iload_n 66 0 3 3 rfl (e_iload_iload 67 0 5 (e_invV_invokevirtual 69 409924 32 4 34 10 rfl rfl rfl rfl rfl rfl (kE31_72)))))))))))))))
set_option maxHeartbeats 100000 in
def k31_37 : ex_C := c_iload 3 (c_iload 2 (c_icmp_ge 84 (c_psh 0 (c_istore 4 (k31_45)))))
set_option maxHeartbeats 100000 in
theorem kE31_37 : ex_CE 0 [] cd_31 k31_37 q31_37 := e_iload_iload_n 37 0 3 3 rfl (e_iload_iload_n 38 0 2 2 rfl (e_icmp_ge 39 84 45 (e_psh_iconst 42 0 0 (e_istore_istore 43 0 4 (kE31_45)))))
set_option maxHeartbeats 100000 in
def k31_28 : ex_C := c_aload 0 (c_gf 10 3 (c_psh 4 (c_idiv   (c_istore 2 (c_psh 0 (c_istore 3 (k31_37)))))))
set_option maxHeartbeats 100000 in
theorem kE31_28 : ex_CE 0 [] cd_31 k31_28 q31_28 := e_aload_aload_n 28 0 0 0 rfl (e_gf 29 643 21 10 3 rfl rfl (e_psh_iconst 32 4 4 (e_idiv 33 0  (e_istore_istore_n 34 0 2 2 rfl (e_psh_iconst 35 0 0 (e_istore_istore_n 36 0 3 3 rfl (kE31_37)))))))
set_option maxHeartbeats 100000 in
def k31_12 : ex_C := c_iload 2 (c_psh 16 (c_icmp_ge 28 (c_aload 1 (c_iload 2 (c_psh 4294967295 (c_iastore (c_iinc 2 1 (c_goto 12))))))))
set_option maxHeartbeats 100000 in
theorem kE31_12 : ex_CE 0 [] cd_31 k31_12 q31_12 := e_iload_iload_n 12 0 2 2 rfl (e_psh_bipush 13 16 16 (e_icmp_ge 15 28 13 (e_aload_aload_n 18 0 1 1 rfl (e_iload_iload_n 19 0 2 2 rfl (e_psh_iconst 20 4294967295 (-1) (e_iastore 21 0 (e_iinc 22 1 2 1 (e_goto 25 12 (-13)))))))))
set_option maxHeartbeats 100000 in
def k31_0 : ex_C := c_aload 0 (c_gf 10 0 (c_aload 0 (c_gf 10 4 (c_aaload   (c_astore 1 (c_psh 0 (c_istore 2 (k31_12))))))))
set_option maxHeartbeats 100000 in
theorem kE31_0 : ex_CE 0 [] cd_31 k31_0 q31_0 := e_aload_aload_n 0 0 0 0 rfl (e_gf 1 86656 11 10 0 rfl rfl (e_aload_aload_n 4 0 0 0 rfl (e_gf 5 644 25 10 4 rfl rfl (e_aaload 8 0  (e_astore_astore_n 9 0 1 1 rfl (e_psh_iconst 10 0 0 (e_istore_istore_n 11 0 2 2 rfl (kE31_12))))))))
def kt_31 : Nat → Option ex_C := fun pc => @Bool.rec (fun _ => Nat → Option ex_C) (fun pc => @Bool.rec (fun _ => Nat → Option ex_C) (fun pc => @Bool.rec (fun _ => Nat → Option ex_C) (fun pc => @Bool.rec (fun _ => Option ex_C) none (some k31_84) (Nat.beq pc 84)) (fun pc => @Bool.rec (fun _ => Option ex_C) none (some k31_78) (Nat.beq pc 78)) (Nat.ble pc 78) pc) (fun pc => @Bool.rec (fun _ => Nat → Option ex_C) (fun pc => @Bool.rec (fun _ => Option ex_C) none (some k31_72) (Nat.beq pc 72)) (fun pc => @Bool.rec (fun _ => Option ex_C) none (some k31_45) (Nat.beq pc 45)) (Nat.ble pc 45) pc) (Nat.ble pc 72) pc) (fun pc => @Bool.rec (fun _ => Nat → Option ex_C) (fun pc => @Bool.rec (fun _ => Nat → Option ex_C) (fun pc => @Bool.rec (fun _ => Option ex_C) none (some k31_37) (Nat.beq pc 37)) (fun pc => @Bool.rec (fun _ => Option ex_C) none (some k31_28) (Nat.beq pc 28)) (Nat.ble pc 28) pc) (fun pc => @Bool.rec (fun _ => Nat → Option ex_C) (fun pc => @Bool.rec (fun _ => Option ex_C) none (some k31_12) (Nat.beq pc 12)) (fun pc => @Bool.rec (fun _ => Option ex_C) none (some k31_0) (Nat.beq pc 0)) (Nat.ble pc 0) pc) (Nat.ble pc 12) pc) (Nat.ble pc 37) pc
theorem ktE_31 : ex_CTT 0 [] cd_31 kt_31 cd_31 := (ex_ct2 (ex_ct2 (ex_ct2 (ex_ct1 kE31_0) (ex_ct1 kE31_12)) (ex_ct2 (ex_ct1 kE31_28) (ex_ct1 kE31_37))) (ex_ct2 (ex_ct2 (ex_ct1 kE31_45) (ex_ct1 kE31_72)) (ex_ct2 (ex_ct1 kE31_78) (ex_ct1 kE31_84))))
set_option maxHeartbeats 100000 in
def k32_81 : ex_C := c_iload 3 (c_ireturn  0)
set_option maxHeartbeats 100000 in
theorem kE32_81 : ex_CE 0 [] cd_32 k32_81 q32_81 := e_iload_iload_n 81 0 3 3 rfl (e_ireturn 82 0 )
set_option maxHeartbeats 100000 in
def k32_75 : ex_C := c_iinc 5 1 (c_goto 8)
set_option maxHeartbeats 100000 in
theorem kE32_75 : ex_CE 0 [] cd_32 k32_75 q32_75 := e_iinc 75 1 5 1 (e_goto 78 8 (-70))
set_option maxHeartbeats 100000 in
def k32_68 : ex_C := c_iload 5 (c_istore 3 (c_iload 6 (c_istore 4 (k32_75))))
set_option maxHeartbeats 100000 in
theorem kE32_68 : ex_CE 0 [] cd_32 k32_68 q32_68 := e_iload_iload 68 0 5 (e_istore_istore_n 70 0 3 3 rfl (e_iload_iload 71 0 6 (e_istore_istore 73 0 4 (kE32_75))))
set_option maxHeartbeats 100000 in
def k32_8 : ex_C := c_iload 5 (c_aload 0 (c_gf 10 3 (c_icmp_ge 81 (c_aload 1 (c_iload 5 (c_iaload (c_if_ge 75 (c_aload 0 (c_aload 1 (c_iload 2 (c_iload 5 (c_invV [] cd_32 29 4 33 10 (c_istore 6 (c_iload 3 (c_if_lt 68 (c_iload 6 (c_iload 4 (c_icmp_lt 68 (c_iload 6 (c_iload 4 (c_icmp_ne 75 (c_aload 0 (c_gf 10 2 (c_iload 5 (c_iaload (c_aload 0 (c_gf 10 2 (c_iload 3 (c_iaload (c_icmp_ge 75 (k32_68)))))))))))))))))))))))))))))))
set_option maxHeartbeats 100000 in
theorem kE32_8 : ex_CE 0 [] cd_32 k32_8 q32_8 := e_iload_iload 8 0 5 (e_aload_aload_n 10 0 0 0 rfl (e_gf 11 643 21 10 3 rfl rfl (e_icmp_ge 14 81 67 (e_aload_aload_n 17 0 1 1 rfl (e_iload_iload 18 0 5 (e_iaload 20 0 (e_if_ge 21 75 54 (e_aload_aload_n 24 0 0 0 rfl (e_aload_aload_n 25 0 1 1 rfl (e_iload_iload_n 26 0 2 2 rfl (e_iload_iload 27 0 5 (e_invV_invokevirtual 29 401732 36 4 33 10 rfl rfl rfl rfl rfl rfl (e_istore_istore 32 0 6 (e_iload_iload_n 34 0 3 3 rfl (e_if_lt 35 68 33 (e_iload_iload 38 0 6 (e_iload_iload 40 0 4 (e_icmp_lt 42 68 26 (e_iload_iload 45 0 6 (e_iload_iload 47 0 4 (e_icmp_ne 49 75 26 (e_aload_aload_n 52 0 0 0 rfl (e_gf 53 86658 17 10 2 rfl rfl (e_iload_iload 56 0 5 (e_iaload 58 0 (e_aload_aload_n 59 0 0 0 rfl (e_gf 60 86658 17 10 2 rfl rfl (e_iload_iload_n 63 0 3 3 rfl (e_iaload 64 0 (e_icmp_ge 65 75 10 (kE32_68)))))))))))))))))))))))))))))))
set_option maxHeartbeats 100000 in
def k32_0 : ex_C := c_psh 4294967295 (c_istore 3 (c_psh 0 (c_istore 4 (c_psh 0 (c_istore 5 (k32_8))))))
set_option maxHeartbeats 100000 in
theorem kE32_0 : ex_CE 0 [] cd_32 k32_0 q32_0 := e_psh_iconst 0 4294967295 (-1) (e_istore_istore_n 1 0 3 3 rfl (e_psh_iconst 2 0 0 (e_istore_istore 3 0 4 (e_psh_iconst 5 0 0 (e_istore_istore 6 0 5 (kE32_8))))))
def kt_32 : Nat → Option ex_C := fun pc => @Bool.rec (fun _ => Nat → Option ex_C) (fun pc => @Bool.rec (fun _ => Nat → Option ex_C) (fun pc => @Bool.rec (fun _ => Nat → Option ex_C) (fun pc => @Bool.rec (fun _ => Option ex_C) none (some k32_81) (Nat.beq pc 81)) (fun pc => @Bool.rec (fun _ => Option ex_C) none (some k32_75) (Nat.beq pc 75)) (Nat.ble pc 75) pc) (fun pc => @Bool.rec (fun _ => Option ex_C) none (some k32_68) (Nat.beq pc 68)) (Nat.ble pc 68) pc) (fun pc => @Bool.rec (fun _ => Nat → Option ex_C) (fun pc => @Bool.rec (fun _ => Option ex_C) none (some k32_8) (Nat.beq pc 8)) (fun pc => @Bool.rec (fun _ => Option ex_C) none (some k32_0) (Nat.beq pc 0)) (Nat.ble pc 0) pc) (Nat.ble pc 8) pc
theorem ktE_32 : ex_CTT 0 [] cd_32 kt_32 cd_32 := (ex_ct2 (ex_ct2 (ex_ct1 kE32_0) (ex_ct1 kE32_8)) (ex_ct2 (ex_ct1 kE32_68) (ex_ct2 (ex_ct1 kE32_75) (ex_ct1 kE32_81))))
set_option maxHeartbeats 100000 in
def k33_47 : ex_C := c_iload 4 (c_ireturn  0)
set_option maxHeartbeats 100000 in
theorem kE33_47 : ex_CE 0 [] cd_33 k33_47 q33_47 := e_iload_iload 47 0 4 (e_ireturn 49 0 )
set_option maxHeartbeats 100000 in
def k33_38 : ex_C := c_iadd (c_istore 4 (c_iinc 5 1 (c_goto 6)))
set_option maxHeartbeats 100000 in
theorem kE33_38 : ex_CE 0 [] cd_33 k33_38 q33_38 := e_iadd 38 0 (e_istore_istore 39 0 4 (e_iinc 41 1 5 1 (e_goto 44 6 (-38))))
set_option maxHeartbeats 100000 in
def k33_37 : ex_C := c_psh 0 (k33_38)
set_option maxHeartbeats 100000 in
theorem kE33_37 : ex_CE 0 [] cd_33 k33_37 q33_37 := e_psh_iconst 37 0 0 (kE33_38)
set_option maxHeartbeats 100000 in
def k33_6 : ex_C := c_iload 5 (c_aload 0 (c_gf 10 3 (c_icmp_ge 47 (c_iload 4 (c_aload 1 (c_iload 5 (c_iaload (c_iload 2 (c_icmp_ne 37 (c_aload 0 (c_gf 10 1 (c_iload 3 (c_aaload   (c_iload 5 (c_iaload (c_goto 38))))))))))))))))
set_option maxHeartbeats 100000 in
theorem kE33_6 : ex_CE 0 [] cd_33 k33_6 q33_6 := e_iload_iload 6 0 5 (e_aload_aload_n 8 0 0 0 rfl (e_gf 9 643 21 10 3 rfl rfl (e_icmp_ge 12 47 35 (e_iload_iload 15 0 4 (e_aload_aload_n 17 0 1 1 rfl (e_iload_iload 18 0 5 (e_iaload 20 0 (e_iload_iload_n 21 0 2 2 rfl (e_icmp_ne 22 37 15 (e_aload_aload_n 25 0 0 0 rfl (e_gf 26 86657 14 10 1 rfl rfl (e_iload_iload_n 29 0 3 3 rfl (e_aaload 30 0  (e_iload_iload 31 0 5 (e_iaload 33 0 (e_goto 34 38 4))))))))))))))))
set_option maxHeartbeats 100000 in
def k33_0 : ex_C := c_psh 0 (c_istore 4 (c_psh 0 (c_istore 5 (k33_6))))
set_option maxHeartbeats 100000 in
theorem kE33_0 : ex_CE 0 [] cd_33 k33_0 q33_0 := e_psh_iconst 0 0 0 (e_istore_istore 1 0 4 (e_psh_iconst 3 0 0 (e_istore_istore 4 0 5 (kE33_6))))
def kt_33 : Nat → Option ex_C := fun pc => @Bool.rec (fun _ => Nat → Option ex_C) (fun pc => @Bool.rec (fun _ => Nat → Option ex_C) (fun pc => @Bool.rec (fun _ => Nat → Option ex_C) (fun pc => @Bool.rec (fun _ => Option ex_C) none (some k33_47) (Nat.beq pc 47)) (fun pc => @Bool.rec (fun _ => Option ex_C) none (some k33_38) (Nat.beq pc 38)) (Nat.ble pc 38) pc) (fun pc => @Bool.rec (fun _ => Option ex_C) none (some k33_37) (Nat.beq pc 37)) (Nat.ble pc 37) pc) (fun pc => @Bool.rec (fun _ => Nat → Option ex_C) (fun pc => @Bool.rec (fun _ => Option ex_C) none (some k33_6) (Nat.beq pc 6)) (fun pc => @Bool.rec (fun _ => Option ex_C) none (some k33_0) (Nat.beq pc 0)) (Nat.ble pc 0) pc) (Nat.ble pc 6) pc
theorem ktE_33 : ex_CTT 0 [] cd_33 kt_33 cd_33 := (ex_ct2 (ex_ct2 (ex_ct1 kE33_0) (ex_ct1 kE33_6)) (ex_ct2 (ex_ct1 kE33_37) (ex_ct2 (ex_ct1 kE33_38) (ex_ct1 kE33_47))))
set_option maxHeartbeats 100000 in
def k34_52 : ex_C := c_aload 1 (c_iload 3 (c_iload 2 (c_iastore (c_aload 0 (c_gf 10 2 (c_iload 3 (c_dup2   (c_iaload (c_psh 1 (c_iadd (c_iastore (c_return_  15))))))))))))
set_option maxHeartbeats 100000 in
theorem kE34_52 : ex_CE 15 [] cd_34 k34_52 q34_52 := e_aload_aload_n 52 0 1 1 rfl (e_iload_iload_n 53 0 3 3 rfl (e_iload_iload_n 54 0 2 2 rfl (e_iastore 55 0 (e_aload_aload_n 56 0 0 0 rfl (e_gf 57 86658 17 10 2 rfl rfl (e_iload_iload_n 60 0 3 3 rfl (e_dup2 61 0  (e_iaload 62 0 (e_psh_iconst 63 1 1 (e_iadd 64 0 (e_iastore 65 0 (e_return_ 66 0 ))))))))))))
set_option maxHeartbeats 100000 in
def k34_46 : ex_C := c_iinc 4 1 (c_goto 3)
set_option maxHeartbeats 100000 in
theorem kE34_46 : ex_CE 15 [] cd_34 k34_46 q34_46 := e_iinc 46 1 4 1 (e_goto 49 3 (-46))
set_option maxHeartbeats 100000 in
def k34_3 : ex_C := c_iload 4 (c_aload 0 (c_gf 10 3 (c_icmp_ge 52 (c_aload 1 (c_iload 4 (c_iaload (c_iload 2 (c_icmp_ne 46 (c_aload 0 (c_gf 10 1 (c_iload 3 (c_aaload   (c_iload 4 (c_dup2   (c_iaload (c_psh 1 (c_iadd (c_iastore (c_aload 0 (c_gf 10 1 (c_iload 4 (c_aaload   (c_iload 3 (c_dup2   (c_iaload (c_psh 1 (c_iadd (c_iastore (k34_46)))))))))))))))))))))))))))))
set_option maxHeartbeats 100000 in
theorem kE34_3 : ex_CE 15 [] cd_34 k34_3 q34_3 := e_iload_iload 3 0 4 (e_aload_aload_n 5 0 0 0 rfl (e_gf 6 643 21 10 3 rfl rfl (e_icmp_ge 9 52 43 (e_aload_aload_n 12 0 1 1 rfl (e_iload_iload 13 0 4 (e_iaload 15 0 (e_iload_iload_n 16 0 2 2 rfl (e_icmp_ne 17 46 29 (e_aload_aload_n 20 0 0 0 rfl (e_gf 21 86657 14 10 1 rfl rfl (e_iload_iload_n 24 0 3 3 rfl (e_aaload 25 0  (e_iload_iload 26 0 4 (e_dup2 28 0  (e_iaload 29 0 (e_psh_iconst 30 1 1 (e_iadd 31 0 (e_iastore 32 0 (e_aload_aload_n 33 0 0 0 rfl (e_gf 34 86657 14 10 1 rfl rfl (e_iload_iload 37 0 4 (e_aaload 39 0  (e_iload_iload_n 40 0 3 3 rfl (e_dup2 41 0  (e_iaload 42 0 (e_psh_iconst 43 1 1 (e_iadd 44 0 (e_iastore 45 0 (kE34_46)))))))))))))))))))))))))))))
set_option maxHeartbeats 100000 in
def k34_0 : ex_C := c_psh 0 (c_istore 4 (k34_3))
set_option maxHeartbeats 100000 in
theorem kE34_0 : ex_CE 15 [] cd_34 k34_0 q34_0 := e_psh_iconst 0 0 0 (e_istore_istore 1 0 4 (kE34_3))
def kt_34 : Nat → Option ex_C := fun pc => @Bool.rec (fun _ => Nat → Option ex_C) (fun pc => @Bool.rec (fun _ => Nat → Option ex_C) (fun pc => @Bool.rec (fun _ => Option ex_C) none (some k34_52) (Nat.beq pc 52)) (fun pc => @Bool.rec (fun _ => Option ex_C) none (some k34_46) (Nat.beq pc 46)) (Nat.ble pc 46) pc) (fun pc => @Bool.rec (fun _ => Nat → Option ex_C) (fun pc => @Bool.rec (fun _ => Option ex_C) none (some k34_3) (Nat.beq pc 3)) (fun pc => @Bool.rec (fun _ => Option ex_C) none (some k34_0) (Nat.beq pc 0)) (Nat.ble pc 0) pc) (Nat.ble pc 3) pc
theorem ktE_34 : ex_CTT 15 [] cd_34 kt_34 cd_34 := (ex_ct2 (ex_ct2 (ex_ct1 kE34_0) (ex_ct1 kE34_3)) (ex_ct2 (ex_ct1 kE34_46) (ex_ct1 kE34_52)))
set_option maxHeartbeats 100000 in
def k35_112 : ex_C := c_psh 1 (c_ireturn  1)
set_option maxHeartbeats 100000 in
theorem kE35_112 : ex_CE 1 [] cd_35 k35_112 q35_112 := e_psh_iconst 112 1 1 (e_ireturn 113 0 )
set_option maxHeartbeats 100000 in
def k35_106 : ex_C := c_iinc 1 1 (c_goto 2)
set_option maxHeartbeats 100000 in
theorem kE35_106 : ex_CE 1 [] cd_35 k35_106 q35_106 := e_iinc 106 1 1 1 (e_goto 109 2 (-107))
set_option maxHeartbeats 100000 in
def k35_100 : ex_C := c_iinc 2 1 (c_goto 12)
set_option maxHeartbeats 100000 in
theorem kE35_100 : ex_CE 1 [] cd_35 k35_100 q35_100 := e_iinc 100 1 2 1 (e_goto 103 12 (-91))
set_option maxHeartbeats 100000 in
def k35_81 : ex_C := c_iload 1 (c_iload 2 (c_icmp_eq 100 (c_iload 3 (c_aload 0 (c_gf 10 1 (c_iload 1 (c_aaload   (c_iload 2 (c_iaload (c_icmp_eq 100 (c_psh 0 (c_ireturn  1))))))))))))
set_option maxHeartbeats 100000 in
theorem kE35_81 : ex_CE 1 [] cd_35 k35_81 q35_81 := e_iload_iload_n 81 0 1 1 rfl (e_iload_iload_n 82 0 2 2 rfl (e_icmp_eq 83 100 17 (e_iload_iload_n 86 0 3 3 rfl (e_aload_aload_n 87 0 0 0 rfl (e_gf 88 86657 14 10 1 rfl rfl (e_iload_iload_n 91 0 1 1 rfl (e_aaload 92 0  (e_iload_iload_n 93 0 2 2 rfl (e_iaload 94 0 (e_icmp_eq 95 100 5 (e_psh_iconst 98 0 0 (e_ireturn 99 0 ))))))))))))
set_option maxHeartbeats 100000 in
def k35_73 : ex_C := c_iadd (c_istore 3 (c_iinc 4 1 (c_goto 25)))
set_option maxHeartbeats 100000 in
theorem kE35_73 : ex_CE 1 [] cd_35 k35_73 q35_73 := e_iadd 73 0 (e_istore_istore_n 74 0 3 3 rfl (e_iinc 75 1 4 1 (e_goto 78 25 (-53))))
set_option maxHeartbeats 100000 in
def k35_72 : ex_C := c_psh 0 (k35_73)
set_option maxHeartbeats 100000 in
theorem kE35_72 : ex_CE 1 [] cd_35 k35_72 q35_72 := e_psh_iconst 72 0 0 (kE35_73)
set_option maxHeartbeats 100000 in
def k35_25 : ex_C := c_iload 4 (c_aload 0 (c_gf 10 4 (c_icmp_ge 81 (c_iload 3 (c_aload 0 (c_gf 10 0 (c_iload 4 (c_aaload   (c_iload 1 (c_iaload (c_if_lt 72 (c_aload 0 (c_gf 10 0 (c_iload 4 (c_aaload   (c_iload 1 (c_iaload (c_aload 0 (c_gf 10 0 (c_iload 4 (c_aaload   (c_iload 2 (c_iaload (c_icmp_ne 72 (c_psh 1 (c_goto 73))))))))))))))))))))))))))
set_option maxHeartbeats 100000 in
theorem kE35_25 : ex_CE 1 [] cd_35 k35_25 q35_25 := e_iload_iload 25 0 4 (e_aload_aload_n 27 0 0 0 rfl (e_gf 28 644 25 10 4 rfl rfl (e_icmp_ge 31 81 50 (e_iload_iload_n 34 0 3 3 rfl (e_aload_aload_n 35 0 0 0 rfl (e_gf 36 86656 11 10 0 rfl rfl (e_iload_iload 39 0 4 (e_aaload 41 0  (e_iload_iload_n 42 0 1 1 rfl (e_iaload 43 0 (e_if_lt 44 72 28 (e_aload_aload_n 47 0 0 0 rfl (e_gf 48 86656 11 10 0 rfl rfl (e_iload_iload 51 0 4 (e_aaload 53 0  (e_iload_iload_n 54 0 1 1 rfl (e_iaload 55 0 (e_aload_aload_n 56 0 0 0 rfl (e_gf 57 86656 11 10 0 rfl rfl (e_iload_iload 60 0 4 (e_aaload 62 0  (e_iload_iload_n 63 0 2 2 rfl (e_iaload 64 0 (e_icmp_ne 65 72 7 (e_psh_iconst 68 1 1 (e_goto 69 73 4))))))))))))))))))))))))))
set_option maxHeartbeats 100000 in
def k35_12 : ex_C := c_iload 2 (c_aload 0 (c_gf 10 3 (c_icmp_ge 106 (c_psh 0 (c_istore 3 (c_psh 0 (c_istore 4 (k35_25))))))))
set_option maxHeartbeats 100000 in
theorem kE35_12 : ex_CE 1 [] cd_35 k35_12 q35_12 := e_iload_iload_n 12 0 2 2 rfl (e_aload_aload_n 13 0 0 0 rfl (e_gf 14 643 21 10 3 rfl rfl (e_icmp_ge 17 106 89 (e_psh_iconst 20 0 0 (e_istore_istore_n 21 0 3 3 rfl (e_psh_iconst 22 0 0 (e_istore_istore 23 0 4 (kE35_25))))))))
set_option maxHeartbeats 100000 in
def k35_2 : ex_C := c_iload 1 (c_aload 0 (c_gf 10 3 (c_icmp_ge 112 (c_psh 0 (c_istore 2 (k35_12))))))
set_option maxHeartbeats 100000 in
theorem kE35_2 : ex_CE 1 [] cd_35 k35_2 q35_2 := e_iload_iload_n 2 0 1 1 rfl (e_aload_aload_n 3 0 0 0 rfl (e_gf 4 643 21 10 3 rfl rfl (e_icmp_ge 7 112 105 (e_psh_iconst 10 0 0 (e_istore_istore_n 11 0 2 2 rfl (kE35_12))))))
set_option maxHeartbeats 100000 in
def k35_0 : ex_C := c_psh 0 (c_istore 1 (k35_2))
set_option maxHeartbeats 100000 in
theorem kE35_0 : ex_CE 1 [] cd_35 k35_0 q35_0 := e_psh_iconst 0 0 0 (e_istore_istore_n 1 0 1 1 rfl (kE35_2))
def kt_35 : Nat → Option ex_C := fun pc => @Bool.rec (fun _ => Nat → Option ex_C) (fun pc => @Bool.rec (fun _ => Nat → Option ex_C) (fun pc => @Bool.rec (fun _ => Nat → Option ex_C) (fun pc => @Bool.rec (fun _ => Nat → Option ex_C) (fun pc => @Bool.rec (fun _ => Option ex_C) none (some k35_112) (Nat.beq pc 112)) (fun pc => @Bool.rec (fun _ => Option ex_C) none (some k35_106) (Nat.beq pc 106)) (Nat.ble pc 106) pc) (fun pc => @Bool.rec (fun _ => Option ex_C) none (some k35_100) (Nat.beq pc 100)) (Nat.ble pc 100) pc) (fun pc => @Bool.rec (fun _ => Nat → Option ex_C) (fun pc => @Bool.rec (fun _ => Option ex_C) none (some k35_81) (Nat.beq pc 81)) (fun pc => @Bool.rec (fun _ => Option ex_C) none (some k35_73) (Nat.beq pc 73)) (Nat.ble pc 73) pc) (Nat.ble pc 81) pc) (fun pc => @Bool.rec (fun _ => Nat → Option ex_C) (fun pc => @Bool.rec (fun _ => Nat → Option ex_C) (fun pc => @Bool.rec (fun _ => Nat → Option ex_C) (fun pc => @Bool.rec (fun _ => Option ex_C) none (some k35_72) (Nat.beq pc 72)) (fun pc => @Bool.rec (fun _ => Option ex_C) none (some k35_25) (Nat.beq pc 25)) (Nat.ble pc 25) pc) (fun pc => @Bool.rec (fun _ => Option ex_C) none (some k35_12) (Nat.beq pc 12)) (Nat.ble pc 12) pc) (fun pc => @Bool.rec (fun _ => Nat → Option ex_C) (fun pc => @Bool.rec (fun _ => Option ex_C) none (some k35_2) (Nat.beq pc 2)) (fun pc => @Bool.rec (fun _ => Option ex_C) none (some k35_0) (Nat.beq pc 0)) (Nat.ble pc 0) pc) (Nat.ble pc 2) pc) (Nat.ble pc 72) pc
theorem ktE_35 : ex_CTT 1 [] cd_35 kt_35 cd_35 := (ex_ct2 (ex_ct2 (ex_ct2 (ex_ct1 kE35_0) (ex_ct1 kE35_2)) (ex_ct2 (ex_ct1 kE35_12) (ex_ct2 (ex_ct1 kE35_25) (ex_ct1 kE35_72)))) (ex_ct2 (ex_ct2 (ex_ct1 kE35_73) (ex_ct1 kE35_81)) (ex_ct2 (ex_ct1 kE35_100) (ex_ct2 (ex_ct1 kE35_106) (ex_ct1 kE35_112)))))
set_option maxHeartbeats 100000 in
def k36_0 : ex_C := c_aload 0 (c_oinit (c_aload 0 (c_psh 20 (c_psh 24 (c_multianewarray 9 2  (c_pf 7 5 0 (c_aload 0 (c_psh 20 (c_newarr 66 0 (c_pf 7 5 1 (c_aload 0 (c_psh 0 (c_pf 7 0 2 (c_aload 0 (c_psh 0 (c_pf 7 0 3 (c_return_  15)))))))))))))))))
set_option maxHeartbeats 100000 in
theorem kE36_0 : ex_CE 15 [] cd_36 k36_0 q36_0 := e_aload_aload_n 0 0 0 0 rfl (e_oinit (e_aload_aload_n 4 0 0 0 rfl (e_psh_bipush 5 20 20 (e_psh_bipush 7 24 24 (e_multianewarray 9 71 9 2 (e_pf 13 86464 11 7 5 0 rfl rfl rfl (e_aload_aload_n 16 0 0 0 rfl (e_psh_bipush 17 20 20 (e_newarr 19 66 0 rfl (e_pf 21 86465 16 7 5 1 rfl rfl rfl (e_aload_aload_n 24 0 0 0 rfl (e_psh_iconst 25 0 0 (e_pf 26 450 20 7 0 2 rfl rfl rfl (e_aload_aload_n 29 0 0 0 rfl (e_psh_iconst 30 0 0 (e_pf 31 451 24 7 0 3 rfl rfl rfl (e_return_ 34 0 )))))))))))))))))
def kt_36 : Nat → Option ex_C := fun pc => @Bool.rec (fun _ => Option ex_C) none (some k36_0) (Nat.beq pc 0)
theorem ktE_36 : ex_CTT 15 [] cd_36 kt_36 cd_36 := (ex_ct1 kE36_0)
set_option maxHeartbeats 100000 in
def k37_109 : ex_C := c_return_  15
set_option maxHeartbeats 100000 in
theorem kE37_109 : ex_CE 15 [] cd_37 k37_109 q37_109 := e_return_ 109 0 
set_option maxHeartbeats 100000 in
def k37_53 : ex_C := c_iload 4 (c_psh 8 (c_icmp_ge 109 (c_aload 3 (c_psh 3 (c_iload 4 (c_imul (c_aload 1 (c_gf 1 0 (c_iload 4 (c_iaload (c_iastore (c_aload 3 (c_psh 3 (c_iload 4 (c_imul (c_psh 1 (c_iadd (c_aload 1 (c_gf 1 1 (c_iload 4 (c_iaload (c_iastore (c_aload 3 (c_psh 3 (c_iload 4 (c_imul (c_psh 2 (c_iadd (c_aload 1 (c_gf 1 2 (c_iload 4 (c_iaload (c_iastore (c_iinc 4 1 (c_goto 53)))))))))))))))))))))))))))))))))))
set_option maxHeartbeats 100000 in
theorem kE37_53 : ex_CE 15 [] cd_37 k37_53 q37_53 := e_iload_iload 53 0 4 (e_psh_bipush 55 8 8 (e_icmp_ge 57 109 52 (e_aload_aload_n 60 0 3 3 rfl (e_psh_iconst 61 3 3 (e_iload_iload 62 0 4 (e_imul 64 0 (e_aload_aload_n 65 0 1 1 rfl (e_gf 66 86080 36 1 0 rfl rfl (e_iload_iload 69 0 4 (e_iaload 71 0 (e_iastore 72 0 (e_aload_aload_n 73 0 3 3 rfl (e_psh_iconst 74 3 3 (e_iload_iload 75 0 4 (e_imul 77 0 (e_psh_iconst 78 1 1 (e_iadd 79 0 (e_aload_aload_n 80 0 1 1 rfl (e_gf 81 86081 42 1 1 rfl rfl (e_iload_iload 84 0 4 (e_iaload 86 0 (e_iastore 87 0 (e_aload_aload_n 88 0 3 3 rfl (e_psh_iconst 89 3 3 (e_iload_iload 90 0 4 (e_imul 92 0 (e_psh_iconst 93 2 2 (e_iadd 94 0 (e_aload_aload_n 95 0 1 1 rfl (e_gf 96 86082 45 1 2 rfl rfl (e_iload_iload 99 0 4 (e_iaload 101 0 (e_iastore 102 0 (e_iinc 103 1 4 1 (e_goto 106 53 (-53))))))))))))))))))))))))))))))))))))
set_option maxHeartbeats 100000 in
def k37_0 : ex_C := c_aload 0 (c_aload 0 (c_gf 7 2 (c_psh 1 (c_iadd (c_psh 20 (c_invS [] cd_37 9 2 298 (c_pf 7 0 2 (c_aload 0 (c_aload 0 (c_gf 7 3 (c_psh 1 (c_iadd (c_psh 20 (c_invS [] cd_37 24 2 302 (c_pf 7 0 3 (c_aload 0 (c_gf 7 1 (c_aload 0 (c_gf 7 2 (c_iload 2 (c_castore   (c_aload 0 (c_gf 7 0 (c_aload 0 (c_gf 7 2 (c_aaload   (c_astore 3 (c_psh 0 (c_istore 4 (k37_53))))))))))))))))))))))))))))))
set_option maxHeartbeats 100000 in
theorem kE37_0 : ex_CE 15 [] cd_37 k37_0 q37_0 := e_aload_aload_n 0 0 0 0 rfl (e_aload_aload_n 1 0 0 0 rfl (e_gf 2 450 20 7 2 rfl rfl (e_psh_iconst 5 1 1 (e_iadd 6 0 (e_psh_bipush 7 20 20 (e_invS 9 2580450 27 2 298 rfl rfl rfl (e_pf 12 450 20 7 0 2 rfl rfl rfl (e_aload_aload_n 15 0 0 0 rfl (e_aload_aload_n 16 0 0 0 rfl (e_gf 17 451 24 7 3 rfl rfl (e_psh_iconst 20 1 1 (e_iadd 21 0 (e_psh_bipush 22 20 20 (e_invS 24 2613218 33 2 302 rfl rfl rfl (e_pf 27 451 24 7 0 3 rfl rfl rfl (e_aload_aload_n 30 0 0 0 rfl (e_gf 31 86465 16 7 1 rfl rfl (e_aload_aload_n 34 0 0 0 rfl (e_gf 35 450 20 7 2 rfl rfl (e_iload_iload_n 38 0 2 2 rfl (e_castore 39 0  (e_aload_aload_n 40 0 0 0 rfl (e_gf 41 86464 11 7 0 rfl rfl (e_aload_aload_n 44 0 0 0 rfl (e_gf 45 450 20 7 2 rfl rfl (e_aaload 48 0  (e_astore_astore_n 49 0 3 3 rfl (e_psh_iconst 50 0 0 (e_istore_istore 51 0 4 (kE37_53))))))))))))))))))))))))))))))
def kt_37 : Nat → Option ex_C := fun pc => @Bool.rec (fun _ => Nat → Option ex_C) (fun pc => @Bool.rec (fun _ => Nat → Option ex_C) (fun pc => @Bool.rec (fun _ => Option ex_C) none (some k37_109) (Nat.beq pc 109)) (fun pc => @Bool.rec (fun _ => Option ex_C) none (some k37_53) (Nat.beq pc 53)) (Nat.ble pc 53) pc) (fun pc => @Bool.rec (fun _ => Option ex_C) none (some k37_0) (Nat.beq pc 0)) (Nat.ble pc 0) pc
theorem ktE_37 : ex_CTT 15 [] cd_37 kt_37 cd_37 := (ex_ct2 (ex_ct1 kE37_0) (ex_ct2 (ex_ct1 kE37_53) (ex_ct1 kE37_109)))
set_option maxHeartbeats 100000 in
def k38_53 : ex_C := c_return_  15
set_option maxHeartbeats 100000 in
theorem kE38_53 : ex_CE 15 [] cd_38 k38_53 q38_53 := e_return_ 53 0 
set_option maxHeartbeats 100000 in
def k38_17 : ex_C := c_iload 3 (c_psh 8 (c_icmp_ge 53 (c_aload 1 (c_iload 3 (c_aload 2 (c_psh 3 (c_iload 3 (c_imul (c_iaload (c_aload 2 (c_psh 3 (c_iload 3 (c_imul (c_psh 1 (c_iadd (c_iaload (c_aload 2 (c_psh 3 (c_iload 3 (c_imul (c_psh 2 (c_iadd (c_iaload (c_invV [] cd_38 44 5 42 1 (c_iinc 3 1 (c_goto 17))))))))))))))))))))))))))
set_option maxHeartbeats 100000 in
theorem kE38_17 : ex_CE 15 [] cd_38 k38_17 q38_17 := e_iload_iload_n 17 0 3 3 rfl (e_psh_bipush 18 8 8 (e_icmp_ge 20 53 33 (e_aload_aload_n 23 0 1 1 rfl (e_iload_iload_n 24 0 3 3 rfl (e_aload_aload_n 25 0 2 2 rfl (e_psh_iconst 26 3 3 (e_iload_iload_n 27 0 3 3 rfl (e_imul 28 0 (e_iaload 29 0 (e_aload_aload_n 30 0 2 2 rfl (e_psh_iconst 31 3 3 (e_iload_iload_n 32 0 3 3 rfl (e_imul 33 0 (e_psh_iconst 34 1 1 (e_iadd 35 0 (e_iaload 36 0 (e_aload_aload_n 37 0 2 2 rfl (e_psh_iconst 38 3 3 (e_iload_iload_n 39 0 3 3 rfl (e_imul 40 0 (e_psh_iconst 41 2 2 (e_iadd 42 0 (e_iaload 43 0 (e_invV_invokevirtual 44 475173 48 5 42 1 rfl rfl rfl rfl rfl rfl (e_iinc 47 1 3 1 (e_goto 50 17 (-33)))))))))))))))))))))))))))
set_option maxHeartbeats 100000 in
def k38_0 : ex_C := c_aload 0 (c_gf 7 0 (c_aload 0 (c_gf 7 2 (c_psh 20 (c_invS [] cd_38 10 2 298 (c_aaload   (c_astore 2 (c_psh 0 (c_istore 3 (k38_17))))))))))
set_option maxHeartbeats 100000 in
theorem kE38_0 : ex_CE 15 [] cd_38 k38_0 q38_0 := e_aload_aload_n 0 0 0 0 rfl (e_gf 1 86464 11 7 0 rfl rfl (e_aload_aload_n 4 0 0 0 rfl (e_gf 5 450 20 7 2 rfl rfl (e_psh_bipush 8 20 20 (e_invS 10 2580450 27 2 298 rfl rfl rfl (e_aaload 13 0  (e_astore_astore_n 14 0 2 2 rfl (e_psh_iconst 15 0 0 (e_istore_istore_n 16 0 3 3 rfl (kE38_17))))))))))
def kt_38 : Nat → Option ex_C := fun pc => @Bool.rec (fun _ => Nat → Option ex_C) (fun pc => @Bool.rec (fun _ => Nat → Option ex_C) (fun pc => @Bool.rec (fun _ => Option ex_C) none (some k38_53) (Nat.beq pc 53)) (fun pc => @Bool.rec (fun _ => Option ex_C) none (some k38_17) (Nat.beq pc 17)) (Nat.ble pc 17) pc) (fun pc => @Bool.rec (fun _ => Option ex_C) none (some k38_0) (Nat.beq pc 0)) (Nat.ble pc 0) pc
theorem ktE_38 : ex_CTT 15 [] cd_38 kt_38 cd_38 := (ex_ct2 (ex_ct1 kE38_0) (ex_ct2 (ex_ct1 kE38_17) (ex_ct1 kE38_53)))
set_option maxHeartbeats 100000 in
def k39_0 : ex_C := c_aload 0 (c_aload 0 (c_gf 7 2 (c_psh 1 (c_isub (c_psh 20 (c_invS [] cd_39 9 2 298 (c_pf 7 0 2 (c_aload 0 (c_psh 0 (c_aload 0 (c_gf 7 3 (c_psh 1 (c_isub (c_invS [] cd_39 23 2 301 (c_pf 7 0 3 (c_return_  15))))))))))))))))
set_option maxHeartbeats 100000 in
theorem kE39_0 : ex_CE 15 [] cd_39 k39_0 q39_0 := e_aload_aload_n 0 0 0 0 rfl (e_aload_aload_n 1 0 0 0 rfl (e_gf 2 450 20 7 2 rfl rfl (e_psh_iconst 5 1 1 (e_isub 6 0 (e_psh_bipush 7 20 20 (e_invS 9 2580450 27 2 298 rfl rfl rfl (e_pf 12 450 20 7 0 2 rfl rfl rfl (e_aload_aload_n 15 0 0 0 rfl (e_psh_iconst 16 0 0 (e_aload_aload_n 17 0 0 0 rfl (e_gf 18 451 24 7 3 rfl rfl (e_psh_iconst 21 1 1 (e_isub 22 0 (e_invS 23 2605026 52 2 301 rfl rfl rfl (e_pf 26 451 24 7 0 3 rfl rfl rfl (e_return_ 29 0 ))))))))))))))))
def kt_39 : Nat → Option ex_C := fun pc => @Bool.rec (fun _ => Option ex_C) none (some k39_0) (Nat.beq pc 0)
theorem ktE_39 : ex_CTT 15 [] cd_39 kt_39 cd_39 := (ex_ct1 kE39_0)
set_option maxHeartbeats 100000 in
def k40_0 : ex_C := c_aload 0 (c_gf 7 1 (c_aload 0 (c_gf 7 2 (c_iload 1 (c_isub (c_psh 20 (c_invS [] cd_40 12 2 298 (c_caload   (c_ireturn  2)))))))))
set_option maxHeartbeats 100000 in
theorem kE40_0 : ex_CE 2 [] cd_40 k40_0 q40_0 := e_aload_aload_n 0 0 0 0 rfl (e_gf 1 86465 16 7 1 rfl rfl (e_aload_aload_n 4 0 0 0 rfl (e_gf 5 450 20 7 2 rfl rfl (e_iload_iload_n 8 0 1 1 rfl (e_isub 9 0 (e_psh_bipush 10 20 20 (e_invS 12 2580450 27 2 298 rfl rfl rfl (e_caload 15 0  (e_ireturn 16 0 )))))))))
def kt_40 : Nat → Option ex_C := fun pc => @Bool.rec (fun _ => Option ex_C) none (some k40_0) (Nat.beq pc 0)
theorem ktE_40 : ex_CTT 2 [] cd_40 kt_40 cd_40 := (ex_ct1 kE40_0)
set_option maxHeartbeats 100000 in
def k41_0 : ex_C := c_aload 0 (c_oinit (c_aload 0 (c_psh 8 (c_newarr 64 0 (c_pf 1 5 0 (c_aload 0 (c_psh 8 (c_newarr 64 0 (c_pf 1 5 1 (c_aload 0 (c_psh 8 (c_newarr 64 0 (c_pf 1 5 2 (c_aload 0 (c_psh 0 (c_pf 1 0 3 (c_return_  15)))))))))))))))))
set_option maxHeartbeats 100000 in
theorem kE41_0 : ex_CE 15 [] cd_41 k41_0 q41_0 := e_aload_aload_n 0 0 0 0 rfl (e_oinit (e_aload_aload_n 4 0 0 0 rfl (e_psh_bipush 5 8 8 (e_newarr 7 64 0 rfl (e_pf 9 86080 9 1 5 0 rfl rfl rfl (e_aload_aload_n 12 0 0 0 rfl (e_psh_bipush 13 8 8 (e_newarr 15 64 0 rfl (e_pf 17 86081 15 1 5 1 rfl rfl rfl (e_aload_aload_n 20 0 0 0 rfl (e_psh_bipush 21 8 8 (e_newarr 23 64 0 rfl (e_pf 25 86082 18 1 5 2 rfl rfl rfl (e_aload_aload_n 28 0 0 0 rfl (e_psh_iconst 29 0 0 (e_pf 30 67 21 1 0 3 rfl rfl rfl (e_return_ 33 0 )))))))))))))))))
def kt_41 : Nat → Option ex_C := fun pc => @Bool.rec (fun _ => Option ex_C) none (some k41_0) (Nat.beq pc 0)
theorem ktE_41 : ex_CTT 15 [] cd_41 kt_41 cd_41 := (ex_ct1 kE41_0)
set_option maxHeartbeats 100000 in
def k42_32 : ex_C := c_return_  15
set_option maxHeartbeats 100000 in
theorem kE42_32 : ex_CE 15 [] cd_42 k42_32 q42_32 := e_return_ 32 0 
set_option maxHeartbeats 100000 in
def k42_0 : ex_C := c_iload 1 (c_if_lt 32 (c_iload 1 (c_psh 8 (c_icmp_ge 32 (c_aload 0 (c_gf 1 0 (c_iload 1 (c_iload 2 (c_iastore (c_aload 0 (c_gf 1 1 (c_iload 1 (c_iload 3 (c_iastore (c_aload 0 (c_gf 1 2 (c_iload 1 (c_iload 4 (c_iastore (k42_32))))))))))))))))))))
set_option maxHeartbeats 100000 in
theorem kE42_0 : ex_CE 15 [] cd_42 k42_0 q42_0 := e_iload_iload_n 0 0 1 1 rfl (e_if_lt 1 32 31 (e_iload_iload_n 4 0 1 1 rfl (e_psh_bipush 5 8 8 (e_icmp_ge 7 32 25 (e_aload_aload_n 10 0 0 0 rfl (e_gf 11 86080 9 1 0 rfl rfl (e_iload_iload_n 14 0 1 1 rfl (e_iload_iload_n 15 0 2 2 rfl (e_iastore 16 0 (e_aload_aload_n 17 0 0 0 rfl (e_gf 18 86081 15 1 1 rfl rfl (e_iload_iload_n 21 0 1 1 rfl (e_iload_iload_n 22 0 3 3 rfl (e_iastore 23 0 (e_aload_aload_n 24 0 0 0 rfl (e_gf 25 86082 18 1 2 rfl rfl (e_iload_iload_n 28 0 1 1 rfl (e_iload_iload 29 0 4 (e_iastore 31 0 (kE42_32))))))))))))))))))))
def kt_42 : Nat → Option ex_C := fun pc => @Bool.rec (fun _ => Nat → Option ex_C) (fun pc => @Bool.rec (fun _ => Option ex_C) none (some k42_32) (Nat.beq pc 32)) (fun pc => @Bool.rec (fun _ => Option ex_C) none (some k42_0) (Nat.beq pc 0)) (Nat.ble pc 0) pc
theorem ktE_42 : ex_CTT 15 [] cd_42 kt_42 cd_42 := (ex_ct2 (ex_ct1 kE42_0) (ex_ct1 kE42_32))
set_option maxHeartbeats 100000 in
def k43_44 : ex_C := c_psh 4294967295 (c_ireturn  0)
set_option maxHeartbeats 100000 in
theorem kE43_44 : ex_CE 0 [] cd_43 k43_44 q43_44 := e_psh_iconst 44 4294967295 (-1) (e_ireturn 45 0 )
set_option maxHeartbeats 100000 in
def k43_38 : ex_C := c_iinc 3 1 (c_goto 2)
set_option maxHeartbeats 100000 in
theorem kE43_38 : ex_CE 0 [] cd_43 k43_38 q43_38 := e_iinc 38 1 3 1 (e_goto 41 2 (-39))
set_option maxHeartbeats 100000 in
def k43_2 : ex_C := c_iload 3 (c_aload 0 (c_gf 1 3 (c_icmp_ge 44 (c_iload 3 (c_psh 8 (c_icmp_ge 44 (c_aload 0 (c_gf 1 0 (c_iload 3 (c_iaload (c_iload 1 (c_icmp_ne 38 (c_aload 0 (c_gf 1 1 (c_iload 3 (c_iaload (c_iload 2 (c_icmp_ne 38 (c_iload 3 (c_ireturn  0))))))))))))))))))))
set_option maxHeartbeats 100000 in
theorem kE43_2 : ex_CE 0 [] cd_43 k43_2 q43_2 := e_iload_iload_n 2 0 3 3 rfl (e_aload_aload_n 3 0 0 0 rfl (e_gf 4 67 21 1 3 rfl rfl (e_icmp_ge 7 44 37 (e_iload_iload_n 10 0 3 3 rfl (e_psh_bipush 11 8 8 (e_icmp_ge 13 44 31 (e_aload_aload_n 16 0 0 0 rfl (e_gf 17 86080 9 1 0 rfl rfl (e_iload_iload_n 20 0 3 3 rfl (e_iaload 21 0 (e_iload_iload_n 22 0 1 1 rfl (e_icmp_ne 23 38 15 (e_aload_aload_n 26 0 0 0 rfl (e_gf 27 86081 15 1 1 rfl rfl (e_iload_iload_n 30 0 3 3 rfl (e_iaload 31 0 (e_iload_iload_n 32 0 2 2 rfl (e_icmp_ne 33 38 5 (e_iload_iload_n 36 0 3 3 rfl (e_ireturn 37 0 ))))))))))))))))))))
set_option maxHeartbeats 100000 in
def k43_0 : ex_C := c_psh 0 (c_istore 3 (k43_2))
set_option maxHeartbeats 100000 in
theorem kE43_0 : ex_CE 0 [] cd_43 k43_0 q43_0 := e_psh_iconst 0 0 0 (e_istore_istore_n 1 0 3 3 rfl (kE43_2))
def kt_43 : Nat → Option ex_C := fun pc => @Bool.rec (fun _ => Nat → Option ex_C) (fun pc => @Bool.rec (fun _ => Nat → Option ex_C) (fun pc => @Bool.rec (fun _ => Option ex_C) none (some k43_44) (Nat.beq pc 44)) (fun pc => @Bool.rec (fun _ => Option ex_C) none (some k43_38) (Nat.beq pc 38)) (Nat.ble pc 38) pc) (fun pc => @Bool.rec (fun _ => Nat → Option ex_C) (fun pc => @Bool.rec (fun _ => Option ex_C) none (some k43_2) (Nat.beq pc 2)) (fun pc => @Bool.rec (fun _ => Option ex_C) none (some k43_0) (Nat.beq pc 0)) (Nat.ble pc 0) pc) (Nat.ble pc 2) pc
theorem ktE_43 : ex_CTT 0 [] cd_43 kt_43 cd_43 := (ex_ct2 (ex_ct2 (ex_ct1 kE43_0) (ex_ct1 kE43_2)) (ex_ct2 (ex_ct1 kE43_38) (ex_ct1 kE43_44)))
set_option maxHeartbeats 100000 in
def k44_43 : ex_C := c_return_  15
set_option maxHeartbeats 100000 in
theorem kE44_43 : ex_CE 15 [] cd_44 k44_43 q44_43 := e_return_ 43 0 
set_option maxHeartbeats 100000 in
def k44_8 : ex_C := c_iload 2 (c_psh 8 (c_icmp_ge 43 (c_aload 0 (c_iload 2 (c_aload 1 (c_gf 3 0 (c_iload 2 (c_iaload (c_aload 1 (c_gf 3 1 (c_iload 2 (c_iaload (c_aload 1 (c_gf 3 2 (c_iload 2 (c_iaload (c_invV [] cd_44 34 5 42 1 (c_iinc 2 1 (c_goto 8)))))))))))))))))))
set_option maxHeartbeats 100000 in
theorem kE44_8 : ex_CE 15 [] cd_44 k44_8 q44_8 := e_iload_iload_n 8 0 2 2 rfl (e_psh_bipush 9 8 8 (e_icmp_ge 11 43 32 (e_aload_aload_n 14 0 0 0 rfl (e_iload_iload_n 15 0 2 2 rfl (e_aload_aload_n 16 0 1 1 rfl (e_gf 17 86208 25 3 0 rfl rfl (e_iload_iload_n 20 0 2 2 rfl (e_iaload 21 0 (e_aload_aload_n 22 0 1 1 rfl (e_gf 23 86209 28 3 1 rfl rfl (e_iload_iload_n 26 0 2 2 rfl (e_iaload 27 0 (e_aload_aload_n 28 0 1 1 rfl (e_gf 29 86210 29 3 2 rfl rfl (e_iload_iload_n 32 0 2 2 rfl (e_iaload 33 0 (e_invV_invokevirtual 34 475173 30 5 42 1 rfl rfl rfl rfl rfl rfl (e_iinc 37 1 2 1 (e_goto 40 8 (-32))))))))))))))))))))
set_option maxHeartbeats 100000 in
def k44_0 : ex_C := c_aload 0 (c_psh 8 (c_pf 1 0 3 (c_psh 0 (c_istore 2 (k44_8)))))
set_option maxHeartbeats 100000 in
theorem kE44_0 : ex_CE 15 [] cd_44 k44_0 q44_0 := e_aload_aload_n 0 0 0 0 rfl (e_psh_bipush 1 8 8 (e_pf 3 67 21 1 0 3 rfl rfl rfl (e_psh_iconst 6 0 0 (e_istore_istore_n 7 0 2 2 rfl (kE44_8)))))
def kt_44 : Nat → Option ex_C := fun pc => @Bool.rec (fun _ => Nat → Option ex_C) (fun pc => @Bool.rec (fun _ => Nat → Option ex_C) (fun pc => @Bool.rec (fun _ => Option ex_C) none (some k44_43) (Nat.beq pc 43)) (fun pc => @Bool.rec (fun _ => Option ex_C) none (some k44_8) (Nat.beq pc 8)) (Nat.ble pc 8) pc) (fun pc => @Bool.rec (fun _ => Option ex_C) none (some k44_0) (Nat.beq pc 0)) (Nat.ble pc 0) pc
theorem ktE_44 : ex_CTT 15 [] cd_44 kt_44 cd_44 := (ex_ct2 (ex_ct1 kE44_0) (ex_ct2 (ex_ct1 kE44_8) (ex_ct1 kE44_43)))
set_option maxHeartbeats 100000 in
def k45_60 : ex_C := c_ireturn  1
set_option maxHeartbeats 100000 in
theorem kE45_60 : ex_CE 1 [] cd_45 k45_60 q45_60 := e_ireturn 60 0 
set_option maxHeartbeats 100000 in
def k45_59 : ex_C := c_psh 0 (k45_60)
set_option maxHeartbeats 100000 in
theorem kE45_59 : ex_CE 1 [] cd_45 k45_59 q45_59 := e_psh_iconst 59 0 0 (kE45_60)
set_option maxHeartbeats 100000 in
def k45_0 : ex_C := c_iload 1 (c_if_lt 59 (c_iload 1 (c_psh 8 (c_icmp_ge 59 (c_aload 0 (c_gf 1 0 (c_iload 1 (c_iaload (c_aload 2 (c_gf 3 0 (c_iload 1 (c_iaload (c_icmp_ne 59 (c_aload 0 (c_gf 1 1 (c_iload 1 (c_iaload (c_aload 2 (c_gf 3 1 (c_iload 1 (c_iaload (c_icmp_ne 59 (c_aload 0 (c_gf 1 2 (c_iload 1 (c_iaload (c_aload 2 (c_gf 3 2 (c_iload 1 (c_iaload (c_icmp_ne 59 (c_psh 1 (c_goto 60)))))))))))))))))))))))))))))))))
set_option maxHeartbeats 100000 in
theorem kE45_0 : ex_CE 1 [] cd_45 k45_0 q45_0 := e_iload_iload_n 0 0 1 1 rfl (e_if_lt 1 59 58 (e_iload_iload_n 4 0 1 1 rfl (e_psh_bipush 5 8 8 (e_icmp_ge 7 59 52 (e_aload_aload_n 10 0 0 0 rfl (e_gf 11 86080 9 1 0 rfl rfl (e_iload_iload_n 14 0 1 1 rfl (e_iaload 15 0 (e_aload_aload_n 16 0 2 2 rfl (e_gf 17 86208 25 3 0 rfl rfl (e_iload_iload_n 20 0 1 1 rfl (e_iaload 21 0 (e_icmp_ne 22 59 37 (e_aload_aload_n 25 0 0 0 rfl (e_gf 26 86081 15 1 1 rfl rfl (e_iload_iload_n 29 0 1 1 rfl (e_iaload 30 0 (e_aload_aload_n 31 0 2 2 rfl (e_gf 32 86209 28 3 1 rfl rfl (e_iload_iload_n 35 0 1 1 rfl (e_iaload 36 0 (e_icmp_ne 37 59 22 (e_aload_aload_n 40 0 0 0 rfl (e_gf 41 86082 18 1 2 rfl rfl (e_iload_iload_n 44 0 1 1 rfl (e_iaload 45 0 (e_aload_aload_n 46 0 2 2 rfl (e_gf 47 86210 29 3 2 rfl rfl (e_iload_iload_n 50 0 1 1 rfl (e_iaload 51 0 (e_icmp_ne 52 59 7 (e_psh_iconst 55 1 1 (e_goto 56 60 4)))))))))))))))))))))))))))))))))
def kt_45 : Nat → Option ex_C := fun pc => @Bool.rec (fun _ => Nat → Option ex_C) (fun pc => @Bool.rec (fun _ => Nat → Option ex_C) (fun pc => @Bool.rec (fun _ => Option ex_C) none (some k45_60) (Nat.beq pc 60)) (fun pc => @Bool.rec (fun _ => Option ex_C) none (some k45_59) (Nat.beq pc 59)) (Nat.ble pc 59) pc) (fun pc => @Bool.rec (fun _ => Option ex_C) none (some k45_0) (Nat.beq pc 0)) (Nat.ble pc 0) pc
theorem ktE_45 : ex_CTT 1 [] cd_45 kt_45 cd_45 := (ex_ct2 (ex_ct1 kE45_0) (ex_ct2 (ex_ct1 kE45_59) (ex_ct1 kE45_60)))
set_option maxHeartbeats 100000 in
def k46_0 : ex_C := c_aload 0 (c_oinit (c_aload 0 (c_psh 8 (c_newarr 64 0 (c_pf 6 5 0 (c_aload 0 (c_psh 8 (c_newarr 64 0 (c_pf 6 5 1 (c_aload 0 (c_psh 8 (c_newarr 64 0 (c_pf 6 5 2 (c_aload 0 (c_psh 0 (c_pf 6 0 3 (c_aload 0 (c_psh 0 (c_pf 6 0 4 (c_aload 0 (c_psh 0 (c_pf 6 0 5 (c_aload 0 (c_psh 0 (c_pf 6 0 6 (c_aload 0 (c_psh 0 (c_pf 6 0 7 (c_aload 0 (c_psh 0 (c_pf 6 0 8 (c_return_  15))))))))))))))))))))))))))))))))
set_option maxHeartbeats 100000 in
theorem kE46_0 : ex_CE 15 [] cd_46 k46_0 q46_0 := e_aload_aload_n 0 0 0 0 rfl (e_oinit (e_aload_aload_n 4 0 0 0 rfl (e_psh_bipush 5 8 8 (e_newarr 7 64 0 rfl (e_pf 9 86400 11 6 5 0 rfl rfl rfl (e_aload_aload_n 12 0 0 0 rfl (e_psh_bipush 13 8 8 (e_newarr 15 64 0 rfl (e_pf 17 86401 17 6 5 1 rfl rfl rfl (e_aload_aload_n 20 0 0 0 rfl (e_psh_bipush 21 8 8 (e_newarr 23 64 0 rfl (e_pf 25 86402 20 6 5 2 rfl rfl rfl (e_aload_aload_n 28 0 0 0 rfl (e_psh_iconst 29 0 0 (e_pf 30 387 23 6 0 3 rfl rfl rfl (e_aload_aload_n 33 0 0 0 rfl (e_psh_iconst 34 0 0 (e_pf 35 388 27 6 0 4 rfl rfl rfl (e_aload_aload_n 38 0 0 0 rfl (e_psh_iconst 39 0 0 (e_pf 40 389 30 6 0 5 rfl rfl rfl (e_aload_aload_n 43 0 0 0 rfl (e_psh_iconst 44 0 0 (e_pf 45 390 33 6 0 6 rfl rfl rfl (e_aload_aload_n 48 0 0 0 rfl (e_psh_iconst 49 0 0 (e_pf 50 391 36 6 0 7 rfl rfl rfl (e_aload_aload_n 53 0 0 0 rfl (e_psh_iconst 54 0 0 (e_pf 55 392 39 6 0 8 rfl rfl rfl (e_return_ 58 0 ))))))))))))))))))))))))))))))))
def kt_46 : Nat → Option ex_C := fun pc => @Bool.rec (fun _ => Option ex_C) none (some k46_0) (Nat.beq pc 0)
theorem ktE_46 : ex_CTT 15 [] cd_46 kt_46 cd_46 := (ex_ct1 kE46_0)
set_option maxHeartbeats 100000 in
def k47_0 : ex_C := c_aload 0 (c_psh 0 (c_pf 6 0 3 (c_aload 0 (c_psh 0 (c_pf 6 0 4 (c_aload 0 (c_psh 0 (c_pf 6 0 5 (c_aload 0 (c_psh 0 (c_pf 6 0 6 (c_aload 0 (c_psh 0 (c_pf 6 0 7 (c_aload 0 (c_psh 0 (c_pf 6 0 8 (c_return_  15))))))))))))))))))
set_option maxHeartbeats 100000 in
theorem kE47_0 : ex_CE 15 [] cd_47 k47_0 q47_0 := e_aload_aload_n 0 0 0 0 rfl (e_psh_iconst 1 0 0 (e_pf 2 387 23 6 0 3 rfl rfl rfl (e_aload_aload_n 5 0 0 0 rfl (e_psh_iconst 6 0 0 (e_pf 7 388 27 6 0 4 rfl rfl rfl (e_aload_aload_n 10 0 0 0 rfl (e_psh_iconst 11 0 0 (e_pf 12 389 30 6 0 5 rfl rfl rfl (e_aload_aload_n 15 0 0 0 rfl (e_psh_iconst 16 0 0 (e_pf 17 390 33 6 0 6 rfl rfl rfl (e_aload_aload_n 20 0 0 0 rfl (e_psh_iconst 21 0 0 (e_pf 22 391 36 6 0 7 rfl rfl rfl (e_aload_aload_n 25 0 0 0 rfl (e_psh_iconst 26 0 0 (e_pf 27 392 39 6 0 8 rfl rfl rfl (e_return_ 30 0 ))))))))))))))))))
def kt_47 : Nat → Option ex_C := fun pc => @Bool.rec (fun _ => Option ex_C) none (some k47_0) (Nat.beq pc 0)
theorem ktE_47 : ex_CTT 15 [] cd_47 kt_47 cd_47 := (ex_ct1 kE47_0)
set_option maxHeartbeats 100000 in
def k48_29 : ex_C := c_aload 0 (c_gf 6 0 (c_aload 0 (c_gf 6 3 (c_iload 1 (c_iastore (c_aload 0 (c_gf 6 1 (c_aload 0 (c_gf 6 3 (c_iload 2 (c_iastore (c_aload 0 (c_gf 6 2 (c_aload 0 (c_gf 6 3 (c_iload 3 (c_iastore (c_aload 0 (c_dup   (c_gf 6 3 (c_psh 1 (c_iadd (c_pf 6 0 3 (c_aload 0 (c_dup   (c_gf 6 5 (c_psh 17179869186 (c_iload 1 (c_iaload (c_iadd (c_pf 6 0 5 (c_aload 0 (c_psh 2 (c_aload 0 (c_gf 6 5 (c_imul (c_pf 6 0 6 (c_aload 0 (c_aload 0 (c_gf 6 7 (c_psh 17179869185 (c_iload 1 (c_iaload (c_invS [] cd_48 103 2 301 (c_pf 6 0 7 (c_return_  15))))))))))))))))))))))))))))))))))))))))))))))
set_option maxHeartbeats 100000 in
theorem kE48_29 : ex_CE 15 [] cd_48 k48_29 q48_29 := e_aload_aload_n 29 0 0 0 rfl (e_gf 30 86400 11 6 0 rfl rfl (e_aload_aload_n 33 0 0 0 rfl (e_gf 34 387 23 6 3 rfl rfl (e_iload_iload_n 37 0 1 1 rfl (e_iastore 38 0 (e_aload_aload_n 39 0 0 0 rfl (e_gf 40 86401 17 6 1 rfl rfl (e_aload_aload_n 43 0 0 0 rfl (e_gf 44 387 23 6 3 rfl rfl (e_iload_iload_n 47 0 2 2 rfl (e_iastore 48 0 (e_aload_aload_n 49 0 0 0 rfl (e_gf 50 86402 20 6 2 rfl rfl (e_aload_aload_n 53 0 0 0 rfl (e_gf 54 387 23 6 3 rfl rfl (e_iload_iload_n 57 0 3 3 rfl (e_iastore 58 0 (e_aload_aload_n 59 0 0 0 rfl (e_dup 60 0  (e_gf 61 387 23 6 3 rfl rfl (e_psh_iconst 64 1 1 (e_iadd 65 0 (e_pf 66 387 23 6 0 3 rfl rfl rfl (e_aload_aload_n 69 0 0 0 rfl (e_dup 70 0  (e_gf 71 389 30 6 5 rfl rfl (e_psh_getstatic 74 17179869186 42 (e_iload_iload_n 77 0 1 1 rfl (e_iaload 78 0 (e_iadd 79 0 (e_pf 80 389 30 6 0 5 rfl rfl rfl (e_aload_aload_n 83 0 0 0 rfl (e_psh_iconst 84 2 2 (e_aload_aload_n 85 0 0 0 rfl (e_gf 86 389 30 6 5 rfl rfl (e_imul 89 0 (e_pf 90 390 33 6 0 6 rfl rfl rfl (e_aload_aload_n 93 0 0 0 rfl (e_aload_aload_n 94 0 0 0 rfl (e_gf 95 391 36 6 7 rfl rfl (e_psh_getstatic 98 17179869185 45 (e_iload_iload_n 101 0 1 1 rfl (e_iaload 102 0 (e_invS 103 2605026 48 2 301 rfl rfl rfl (e_pf 106 391 36 6 0 7 rfl rfl rfl (e_return_ 109 0 ))))))))))))))))))))))))))))))))))))))))))))))
set_option maxHeartbeats 100000 in
def k48_28 : ex_C := c_return_  15
set_option maxHeartbeats 100000 in
theorem kE48_28 : ex_CE 15 [] cd_48 k48_28 q48_28 := e_return_ 28 0 
set_option maxHeartbeats 100000 in
def k48_0 : ex_C := c_aload 0 (c_gf 6 3 (c_if_lt 28 (c_aload 0 (c_gf 6 3 (c_psh 8 (c_icmp_ge 28 (c_iload 1 (c_if_lt 28 (c_iload 1 (c_psh 17179869186 (c_arraylength   (c_icmp_lt 29 (k48_28)))))))))))))
set_option maxHeartbeats 100000 in
theorem kE48_0 : ex_CE 15 [] cd_48 k48_0 q48_0 := e_aload_aload_n 0 0 0 0 rfl (e_gf 1 387 23 6 3 rfl rfl (e_if_lt 4 28 24 (e_aload_aload_n 7 0 0 0 rfl (e_gf 8 387 23 6 3 rfl rfl (e_psh_bipush 11 8 8 (e_icmp_ge 13 28 15 (e_iload_iload_n 16 0 1 1 rfl (e_if_lt 17 28 11 (e_iload_iload_n 20 0 1 1 rfl (e_psh_getstatic 21 17179869186 42 (e_arraylength 24 0  (e_icmp_lt 25 29 4 (kE48_28)))))))))))))
def kt_48 : Nat → Option ex_C := fun pc => @Bool.rec (fun _ => Nat → Option ex_C) (fun pc => @Bool.rec (fun _ => Nat → Option ex_C) (fun pc => @Bool.rec (fun _ => Option ex_C) none (some k48_29) (Nat.beq pc 29)) (fun pc => @Bool.rec (fun _ => Option ex_C) none (some k48_28) (Nat.beq pc 28)) (Nat.ble pc 28) pc) (fun pc => @Bool.rec (fun _ => Option ex_C) none (some k48_0) (Nat.beq pc 0)) (Nat.ble pc 0) pc
theorem ktE_48 : ex_CTT 15 [] cd_48 kt_48 cd_48 := (ex_ct2 (ex_ct1 kE48_0) (ex_ct2 (ex_ct1 kE48_28) (ex_ct1 kE48_29)))
set_option maxHeartbeats 100000 in
def k49_0 : ex_C := c_aload 0 (c_invV [] cd_49 1 1 47 6 (c_aload 0 (c_iload 1 (c_psh 0 (c_psh 0 (c_invV [] cd_49 8 4 48 6 (c_return_  15)))))))
set_option maxHeartbeats 100000 in
theorem kE49_0 : ex_CE 15 [] cd_49 k49_0 q49_0 := e_aload_aload_n 0 0 0 0 rfl (e_invV_invokevirtual 1 516289 54 1 47 6 rfl rfl rfl rfl rfl rfl (e_aload_aload_n 4 0 0 0 rfl (e_iload_iload_n 5 0 1 1 rfl (e_psh_iconst 6 0 0 (e_psh_iconst 7 0 0 (e_invV_invokevirtual 8 524484 57 4 48 6 rfl rfl rfl rfl rfl rfl (e_return_ 11 0 )))))))
def kt_49 : Nat → Option ex_C := fun pc => @Bool.rec (fun _ => Option ex_C) none (some k49_0) (Nat.beq pc 0)
theorem ktE_49 : ex_CTT 15 [] cd_49 kt_49 cd_49 := (ex_ct1 kE49_0)
set_option maxHeartbeats 100000 in
def k50_11 : ex_C := c_aload 0 (c_iload 2 (c_pf 6 0 4 (c_return_  15)))
set_option maxHeartbeats 100000 in
theorem kE50_11 : ex_CE 15 [] cd_50 k50_11 q50_11 := e_aload_aload_n 11 0 0 0 rfl (e_iload_iload_n 12 0 2 2 rfl (e_pf 13 388 27 6 0 4 rfl rfl rfl (e_return_ 16 0 )))
set_option maxHeartbeats 100000 in
def k50_0 : ex_C := c_iload 1 (c_if_eq 11 (c_aload 0 (c_gf 6 1 (c_psh 0 (c_iload 1 (c_iastore (k50_11)))))))
set_option maxHeartbeats 100000 in
theorem kE50_0 : ex_CE 15 [] cd_50 k50_0 q50_0 := e_iload_iload_n 0 0 1 1 rfl (e_if_eq 1 11 10 (e_aload_aload_n 4 0 0 0 rfl (e_gf 5 86401 17 6 1 rfl rfl (e_psh_iconst 8 0 0 (e_iload_iload_n 9 0 1 1 rfl (e_iastore 10 0 (kE50_11)))))))
def kt_50 : Nat → Option ex_C := fun pc => @Bool.rec (fun _ => Nat → Option ex_C) (fun pc => @Bool.rec (fun _ => Option ex_C) none (some k50_11) (Nat.beq pc 11)) (fun pc => @Bool.rec (fun _ => Option ex_C) none (some k50_0) (Nat.beq pc 0)) (Nat.ble pc 0) pc
theorem ktE_50 : ex_CTT 15 [] cd_50 kt_50 cd_50 := (ex_ct2 (ex_ct1 kE50_0) (ex_ct1 kE50_11))
set_option maxHeartbeats 100000 in
def k51_69 : ex_C := c_return_  15
set_option maxHeartbeats 100000 in
theorem kE51_69 : ex_CE 15 [] cd_51 k51_69 q51_69 := e_return_ 69 0 
set_option maxHeartbeats 100000 in
def k51_50 : ex_C := c_aload 1 (c_gf 5 3 (c_iload 2 (c_iaload (c_if_le 69 (c_aload 0 (c_aload 1 (c_gf 5 3 (c_iload 2 (c_iaload (c_pf 6 0 6 (k51_69)))))))))))
set_option maxHeartbeats 100000 in
theorem kE51_50 : ex_CE 15 [] cd_51 k51_50 q51_50 := e_aload_aload_n 50 0 1 1 rfl (e_gf 51 86339 71 5 3 rfl rfl (e_iload_iload_n 54 0 2 2 rfl (e_iaload 55 0 (e_if_le 56 69 13 (e_aload_aload_n 59 0 0 0 rfl (e_aload_aload_n 60 0 1 1 rfl (e_gf 61 86339 71 5 3 rfl rfl (e_iload_iload_n 64 0 2 2 rfl (e_iaload 65 0 (e_pf 66 390 33 6 0 6 rfl rfl rfl (kE51_69)))))))))))
set_option maxHeartbeats 100000 in
def k51_6 : ex_C := c_iload 3 (c_aload 1 (c_gf 5 2 (c_iload 2 (c_iaload (c_icmp_ge 50 (c_aload 0 (c_aload 1 (c_gf 5 4 (c_iload 2 (c_aaload   (c_iload 3 (c_iaload (c_aload 1 (c_gf 5 5 (c_iload 2 (c_aaload   (c_iload 3 (c_iaload (c_aload 1 (c_gf 5 6 (c_iload 2 (c_aaload   (c_iload 3 (c_iaload (c_invV [] cd_51 41 4 48 6 (c_iinc 3 1 (c_goto 6)))))))))))))))))))))))))))
set_option maxHeartbeats 100000 in
theorem kE51_6 : ex_CE 15 [] cd_51 k51_6 q51_6 := e_iload_iload_n 6 0 3 3 rfl (e_aload_aload_n 7 0 1 1 rfl (e_gf 8 86338 61 5 2 rfl rfl (e_iload_iload_n 11 0 2 2 rfl (e_iaload 12 0 (e_icmp_ge 13 50 37 (e_aload_aload_n 16 0 0 0 rfl (e_aload_aload_n 17 0 1 1 rfl (e_gf 18 86340 64 5 4 rfl rfl (e_iload_iload_n 21 0 2 2 rfl (e_aaload 22 0  (e_iload_iload_n 23 0 3 3 rfl (e_iaload 24 0 (e_aload_aload_n 25 0 1 1 rfl (e_gf 26 86341 67 5 5 rfl rfl (e_iload_iload_n 29 0 2 2 rfl (e_aaload 30 0  (e_iload_iload_n 31 0 3 3 rfl (e_iaload 32 0 (e_aload_aload_n 33 0 1 1 rfl (e_gf 34 86342 69 5 6 rfl rfl (e_iload_iload_n 37 0 2 2 rfl (e_aaload 38 0  (e_iload_iload_n 39 0 3 3 rfl (e_iaload 40 0 (e_invV_invokevirtual 41 524484 57 4 48 6 rfl rfl rfl rfl rfl rfl (e_iinc 44 1 3 1 (e_goto 47 6 (-41))))))))))))))))))))))))))))
set_option maxHeartbeats 100000 in
def k51_0 : ex_C := c_aload 0 (c_invV [] cd_51 1 1 47 6 (c_psh 0 (c_istore 3 (k51_6))))
set_option maxHeartbeats 100000 in
theorem kE51_0 : ex_CE 15 [] cd_51 k51_0 q51_0 := e_aload_aload_n 0 0 0 0 rfl (e_invV_invokevirtual 1 516289 54 1 47 6 rfl rfl rfl rfl rfl rfl (e_psh_iconst 4 0 0 (e_istore_istore_n 5 0 3 3 rfl (kE51_6))))
def kt_51 : Nat → Option ex_C := fun pc => @Bool.rec (fun _ => Nat → Option ex_C) (fun pc => @Bool.rec (fun _ => Nat → Option ex_C) (fun pc => @Bool.rec (fun _ => Option ex_C) none (some k51_69) (Nat.beq pc 69)) (fun pc => @Bool.rec (fun _ => Option ex_C) none (some k51_50) (Nat.beq pc 50)) (Nat.ble pc 50) pc) (fun pc => @Bool.rec (fun _ => Nat → Option ex_C) (fun pc => @Bool.rec (fun _ => Option ex_C) none (some k51_6) (Nat.beq pc 6)) (fun pc => @Bool.rec (fun _ => Option ex_C) none (some k51_0) (Nat.beq pc 0)) (Nat.ble pc 0) pc) (Nat.ble pc 6) pc
theorem ktE_51 : ex_CTT 15 [] cd_51 kt_51 cd_51 := (ex_ct2 (ex_ct2 (ex_ct1 kE51_0) (ex_ct1 kE51_6)) (ex_ct2 (ex_ct1 kE51_50) (ex_ct1 kE51_69)))
set_option maxHeartbeats 100000 in
def k52_42 : ex_C := c_aload 0 (c_aload 1 (c_gf 6 4 (c_pf 6 0 4 (c_aload 0 (c_aload 1 (c_gf 6 6 (c_pf 6 0 6 (c_aload 0 (c_iload 2 (c_pf 6 0 8 (c_return_  15)))))))))))
set_option maxHeartbeats 100000 in
theorem kE52_42 : ex_CE 15 [] cd_52 k52_42 q52_42 := e_aload_aload_n 42 0 0 0 rfl (e_aload_aload_n 43 0 1 1 rfl (e_gf 44 388 27 6 4 rfl rfl (e_pf 47 388 27 6 0 4 rfl rfl rfl (e_aload_aload_n 50 0 0 0 rfl (e_aload_aload_n 51 0 1 1 rfl (e_gf 52 390 33 6 6 rfl rfl (e_pf 55 390 33 6 0 6 rfl rfl rfl (e_aload_aload_n 58 0 0 0 rfl (e_iload_iload_n 59 0 2 2 rfl (e_pf 60 392 39 6 0 8 rfl rfl rfl (e_return_ 63 0 )))))))))))
set_option maxHeartbeats 100000 in
def k52_6 : ex_C := c_iload 3 (c_aload 1 (c_gf 6 3 (c_icmp_ge 42 (c_aload 0 (c_aload 1 (c_gf 6 0 (c_iload 3 (c_iaload (c_aload 1 (c_gf 6 1 (c_iload 3 (c_iaload (c_aload 1 (c_gf 6 2 (c_iload 3 (c_iaload (c_invV [] cd_52 33 4 48 6 (c_iinc 3 1 (c_goto 6)))))))))))))))))))
set_option maxHeartbeats 100000 in
theorem kE52_6 : ex_CE 15 [] cd_52 k52_6 q52_6 := e_iload_iload_n 6 0 3 3 rfl (e_aload_aload_n 7 0 1 1 rfl (e_gf 8 387 23 6 3 rfl rfl (e_icmp_ge 11 42 31 (e_aload_aload_n 14 0 0 0 rfl (e_aload_aload_n 15 0 1 1 rfl (e_gf 16 86400 11 6 0 rfl rfl (e_iload_iload_n 19 0 3 3 rfl (e_iaload 20 0 (e_aload_aload_n 21 0 1 1 rfl (e_gf 22 86401 17 6 1 rfl rfl (e_iload_iload_n 25 0 3 3 rfl (e_iaload 26 0 (e_aload_aload_n 27 0 1 1 rfl (e_gf 28 86402 20 6 2 rfl rfl (e_iload_iload_n 31 0 3 3 rfl (e_iaload 32 0 (e_invV_invokevirtual 33 524484 57 4 48 6 rfl rfl rfl rfl rfl rfl (e_iinc 36 1 3 1 (e_goto 39 6 (-33))))))))))))))))))))
set_option maxHeartbeats 100000 in
def k52_0 : ex_C := c_aload 0 (c_invV [] cd_52 1 1 47 6 (c_psh 0 (c_istore 3 (k52_6))))
set_option maxHeartbeats 100000 in
theorem kE52_0 : ex_CE 15 [] cd_52 k52_0 q52_0 := e_aload_aload_n 0 0 0 0 rfl (e_invV_invokevirtual 1 516289 54 1 47 6 rfl rfl rfl rfl rfl rfl (e_psh_iconst 4 0 0 (e_istore_istore_n 5 0 3 3 rfl (kE52_6))))
def kt_52 : Nat → Option ex_C := fun pc => @Bool.rec (fun _ => Nat → Option ex_C) (fun pc => @Bool.rec (fun _ => Nat → Option ex_C) (fun pc => @Bool.rec (fun _ => Option ex_C) none (some k52_42) (Nat.beq pc 42)) (fun pc => @Bool.rec (fun _ => Option ex_C) none (some k52_6) (Nat.beq pc 6)) (Nat.ble pc 6) pc) (fun pc => @Bool.rec (fun _ => Option ex_C) none (some k52_0) (Nat.beq pc 0)) (Nat.ble pc 0) pc
theorem ktE_52 : ex_CTT 15 [] cd_52 kt_52 cd_52 := (ex_ct2 (ex_ct1 kE52_0) (ex_ct2 (ex_ct1 kE52_6) (ex_ct1 kE52_42)))
set_option maxHeartbeats 100000 in
def k53_28 : ex_C := c_ireturn  0
set_option maxHeartbeats 100000 in
theorem kE53_28 : ex_CE 0 [] cd_53 k53_28 q53_28 := e_ireturn 28 0 
set_option maxHeartbeats 100000 in
def k53_22 : ex_C := c_aload 0 (c_gf 6 2 (c_iload 1 (c_iaload (k53_28))))
set_option maxHeartbeats 100000 in
theorem kE53_22 : ex_CE 0 [] cd_53 k53_22 q53_22 := e_aload_aload_n 22 0 0 0 rfl (e_gf 23 86402 20 6 2 rfl rfl (e_iload_iload_n 26 0 1 1 rfl (e_iaload 27 0 (kE53_28))))
set_option maxHeartbeats 100000 in
def k53_0 : ex_C := c_aload 0 (c_gf 6 4 (c_psh 4 (c_icmp_ne 22 (c_aload 0 (c_gf 6 2 (c_iload 1 (c_iaload (c_psh 4 (c_icmp_ne 22 (c_psh 0 (c_goto 28)))))))))))
set_option maxHeartbeats 100000 in
theorem kE53_0 : ex_CE 0 [] cd_53 k53_0 q53_0 := e_aload_aload_n 0 0 0 0 rfl (e_gf 1 388 27 6 4 rfl rfl (e_psh_iconst 4 4 4 (e_icmp_ne 5 22 17 (e_aload_aload_n 8 0 0 0 rfl (e_gf 9 86402 20 6 2 rfl rfl (e_iload_iload_n 12 0 1 1 rfl (e_iaload 13 0 (e_psh_iconst 14 4 4 (e_icmp_ne 15 22 7 (e_psh_iconst 18 0 0 (e_goto 19 28 9)))))))))))
def kt_53 : Nat → Option ex_C := fun pc => @Bool.rec (fun _ => Nat → Option ex_C) (fun pc => @Bool.rec (fun _ => Nat → Option ex_C) (fun pc => @Bool.rec (fun _ => Option ex_C) none (some k53_28) (Nat.beq pc 28)) (fun pc => @Bool.rec (fun _ => Option ex_C) none (some k53_22) (Nat.beq pc 22)) (Nat.ble pc 22) pc) (fun pc => @Bool.rec (fun _ => Option ex_C) none (some k53_0) (Nat.beq pc 0)) (Nat.ble pc 0) pc
theorem ktE_53 : ex_CTT 0 [] cd_53 kt_53 cd_53 := (ex_ct2 (ex_ct1 kE53_0) (ex_ct2 (ex_ct1 kE53_22) (ex_ct1 kE53_28)))
set_option maxHeartbeats 100000 in
def k54_22 : ex_C := c_ireturn  0
set_option maxHeartbeats 100000 in
theorem kE54_22 : ex_CE 0 [] cd_54 k54_22 q54_22 := e_ireturn 22 0 
set_option maxHeartbeats 100000 in
def k54_11 : ex_C := c_aload 0 (c_gf 6 6 (c_iload 1 (c_imul (c_aload 0 (c_gf 6 5 (c_idiv   (k54_22)))))))
set_option maxHeartbeats 100000 in
theorem kE54_11 : ex_CE 0 [] cd_54 k54_11 q54_11 := e_aload_aload_n 11 0 0 0 rfl (e_gf 12 390 33 6 6 rfl rfl (e_iload_iload_n 15 0 1 1 rfl (e_imul 16 0 (e_aload_aload_n 17 0 0 0 rfl (e_gf 18 389 30 6 5 rfl rfl (e_idiv 21 0  (kE54_22)))))))
set_option maxHeartbeats 100000 in
def k54_0 : ex_C := c_aload 0 (c_gf 6 5 (c_if_ne 11 (c_psh 0 (c_goto 22))))
set_option maxHeartbeats 100000 in
theorem kE54_0 : ex_CE 0 [] cd_54 k54_0 q54_0 := e_aload_aload_n 0 0 0 0 rfl (e_gf 1 389 30 6 5 rfl rfl (e_if_ne 4 11 7 (e_psh_iconst 7 0 0 (e_goto 8 22 14))))
def kt_54 : Nat → Option ex_C := fun pc => @Bool.rec (fun _ => Nat → Option ex_C) (fun pc => @Bool.rec (fun _ => Nat → Option ex_C) (fun pc => @Bool.rec (fun _ => Option ex_C) none (some k54_22) (Nat.beq pc 22)) (fun pc => @Bool.rec (fun _ => Option ex_C) none (some k54_11) (Nat.beq pc 11)) (Nat.ble pc 11) pc) (fun pc => @Bool.rec (fun _ => Option ex_C) none (some k54_0) (Nat.beq pc 0)) (Nat.ble pc 0) pc
theorem ktE_54 : ex_CTT 0 [] cd_54 kt_54 cd_54 := (ex_ct2 (ex_ct1 kE54_0) (ex_ct2 (ex_ct1 kE54_11) (ex_ct1 kE54_22)))
set_option maxHeartbeats 100000 in
def k55_0 : ex_C := c_aload 0 (c_oinit (c_aload 0 (c_psh 0 (c_pf 9 0 0 (c_aload 0 (c_psh 0 (c_pf 9 0 1 (c_aload 0 (c_psh 0 (c_pf 9 0 2 (c_aload 0 (c_psh 412316860416 (c_pf 9 3 3 (c_return_  15))))))))))))))
set_option maxHeartbeats 100000 in
theorem kE55_0 : ex_CE 15 [] cd_55 k55_0 q55_0 := e_aload_aload_n 0 0 0 0 rfl (e_oinit (e_aload_aload_n 4 0 0 0 rfl (e_psh_iconst 5 0 0 (e_pf 6 576 7 9 0 0 rfl rfl rfl (e_aload_aload_n 9 0 0 0 rfl (e_psh_iconst 10 0 0 (e_pf 11 577 13 9 0 1 rfl rfl rfl (e_aload_aload_n 14 0 0 0 rfl (e_psh_iconst 15 0 0 (e_pf 16 578 16 9 0 2 rfl rfl rfl (e_aload_aload_n 19 0 0 0 rfl (e_psh_lconst 20 412316860416 0 (e_pf 21 12867 19 9 3 3 rfl rfl rfl (e_return_ 24 0 ))))))))))))))
def kt_55 : Nat → Option ex_C := fun pc => @Bool.rec (fun _ => Option ex_C) none (some k55_0) (Nat.beq pc 0)
theorem ktE_55 : ex_CTT 15 [] cd_55 kt_55 cd_55 := (ex_ct1 kE55_0)
set_option maxHeartbeats 100000 in
def k56_0 : ex_C := c_aload 0 (c_iload 1 (c_pf 9 0 0 (c_aload 0 (c_psh 0 (c_pf 9 0 1 (c_return_  15))))))
set_option maxHeartbeats 100000 in
theorem kE56_0 : ex_CE 15 [] cd_56 k56_0 q56_0 := e_aload_aload_n 0 0 0 0 rfl (e_iload_iload_n 1 0 1 1 rfl (e_pf 2 576 7 9 0 0 rfl rfl rfl (e_aload_aload_n 5 0 0 0 rfl (e_psh_iconst 6 0 0 (e_pf 7 577 13 9 0 1 rfl rfl rfl (e_return_ 10 0 ))))))
def kt_56 : Nat → Option ex_C := fun pc => @Bool.rec (fun _ => Option ex_C) none (some k56_0) (Nat.beq pc 0)
theorem ktE_56 : ex_CTT 15 [] cd_56 kt_56 cd_56 := (ex_ct1 kE56_0)
set_option maxHeartbeats 100000 in
def k57_28 : ex_C := c_iadd (c_pf 9 0 1 (c_return_  15))
set_option maxHeartbeats 100000 in
theorem kE57_28 : ex_CE 15 [] cd_57 k57_28 q57_28 := e_iadd 28 0 (e_pf 29 577 13 9 0 1 rfl rfl rfl (e_return_ 32 0 ))
set_option maxHeartbeats 100000 in
def k57_27 : ex_C := c_iload 1 (k57_28)
set_option maxHeartbeats 100000 in
theorem kE57_27 : ex_CE 15 [] cd_57 k57_27 q57_27 := e_iload_iload_n 27 0 1 1 rfl (kE57_28)
set_option maxHeartbeats 100000 in
def k57_0 : ex_C := c_aload 0 (c_dup   (c_gf 9 3 (c_iload 1 (c_i2l   (c_ladd   (c_pf 9 3 3 (c_aload 0 (c_dup   (c_gf 9 1 (c_aload 0 (c_gf 9 0 (c_if_ne 27 (c_psh 0 (c_goto 28))))))))))))))
set_option maxHeartbeats 100000 in
theorem kE57_0 : ex_CE 15 [] cd_57 k57_0 q57_0 := e_aload_aload_n 0 0 0 0 rfl (e_dup 1 0  (e_gf 2 12867 19 9 3 rfl rfl (e_iload_iload_n 5 0 1 1 rfl (e_i2l 6 0  (e_ladd 7 0  (e_pf 8 12867 19 9 3 3 rfl rfl rfl (e_aload_aload_n 11 0 0 0 rfl (e_dup 12 0  (e_gf 13 577 13 9 1 rfl rfl (e_aload_aload_n 16 0 0 0 rfl (e_gf 17 576 7 9 0 rfl rfl (e_if_ne 20 27 7 (e_psh_iconst 23 0 0 (e_goto 24 28 4))))))))))))))
def kt_57 : Nat → Option ex_C := fun pc => @Bool.rec (fun _ => Nat → Option ex_C) (fun pc => @Bool.rec (fun _ => Nat → Option ex_C) (fun pc => @Bool.rec (fun _ => Option ex_C) none (some k57_28) (Nat.beq pc 28)) (fun pc => @Bool.rec (fun _ => Option ex_C) none (some k57_27) (Nat.beq pc 27)) (Nat.ble pc 27) pc) (fun pc => @Bool.rec (fun _ => Option ex_C) none (some k57_0) (Nat.beq pc 0)) (Nat.ble pc 0) pc
theorem ktE_57 : ex_CTT 15 [] cd_57 kt_57 cd_57 := (ex_ct2 (ex_ct1 kE57_0) (ex_ct2 (ex_ct1 kE57_27) (ex_ct1 kE57_28)))
set_option maxHeartbeats 100000 in
def k58_0 : ex_C := c_aload 0 (c_oinit (c_aload 0 (c_newo 16209045190956120784911065771258721773515783368760096902582273169124733517563091276821328402079692167524082118633830064642108102709712432245745886314044260015337748388201726218243 16 (c_dup   (c_invP [] cd_58 9 1 6 (c_pf 2 5 0 (c_aload 0 (c_newo 16209045190956120784911065771258721773515783368760096902582273169124733517563091276821328402079692167524082118633830064642108102709712432245745886314044260015337748388201726218243 16 (c_dup   (c_invP [] cd_58 20 1 6 (c_pf 2 5 1 (c_aload 0 (c_newo 16209045190956120784911065771258721773515783368760096902582273169124733517563091276821328402079692167524082118633830064642108102709712432245745886314044260015337748388201726218243 16 (c_dup   (c_invP [] cd_58 31 1 6 (c_pf 2 5 2 (c_aload 0 (c_newo 10086913586286160672807402895382567491325181316819536261390328817214936461859649560776012798648784451132281559306996740 12 (c_dup   (c_invP [] cd_58 42 1 68 (c_pf 2 5 3 (c_aload 0 (c_psh 0 (c_pf 2 0 5 (c_aload 0 (c_psh 45 (c_pf 2 2 6 (c_aload 0 (c_psh 4294967295 (c_pf 2 0 7 (c_aload 0 (c_aload 1 (c_pf 2 5 4 (c_return_  15))))))))))))))))))))))))))))))))))
set_option maxHeartbeats 100000 in
theorem kE58_0 : ex_CE 15 [] cd_58 k58_0 q58_0 := e_aload_aload_n 0 0 0 0 rfl (e_oinit (e_aload_aload_n 4 0 0 0 rfl (e_newo 5 3 9 16209045190956120784911065771258721773515783368760096902582273169124733517563091276821328402079692167524082118633830064642108102709712432245745886314044260015337748388201726218243 16 rfl rfl rfl (e_dup 8 0  (e_invP 9 188353 11 1 6 rfl rfl rfl rfl (e_pf 12 86144 12 2 5 0 rfl rfl rfl (e_aload_aload_n 15 0 0 0 rfl (e_newo 16 3 9 16209045190956120784911065771258721773515783368760096902582273169124733517563091276821328402079692167524082118633830064642108102709712432245745886314044260015337748388201726218243 16 rfl rfl rfl (e_dup 19 0  (e_invP 20 188353 11 1 6 rfl rfl rfl rfl (e_pf 23 86145 18 2 5 1 rfl rfl rfl (e_aload_aload_n 26 0 0 0 rfl (e_newo 27 3 9 16209045190956120784911065771258721773515783368760096902582273169124733517563091276821328402079692167524082118633830064642108102709712432245745886314044260015337748388201726218243 16 rfl rfl rfl (e_dup 30 0  (e_invP 31 188353 11 1 6 rfl rfl rfl rfl (e_pf 34 86146 21 2 5 2 rfl rfl rfl (e_aload_aload_n 37 0 0 0 rfl (e_newo 38 4 24 10086913586286160672807402895382567491325181316819536261390328817214936461859649560776012798648784451132281559306996740 12 rfl rfl rfl (e_dup 41 0  (e_invP 42 696257 26 1 68 rfl rfl rfl rfl (e_pf 45 86147 27 2 5 3 rfl rfl rfl (e_aload_aload_n 48 0 0 0 rfl (e_psh_iconst 49 0 0 (e_pf 50 133 31 2 0 5 rfl rfl rfl (e_aload_aload_n 53 0 0 0 rfl (e_psh_bipush 54 45 45 (e_pf 56 8326 35 2 2 6 rfl rfl rfl (e_aload_aload_n 59 0 0 0 rfl (e_psh_iconst 60 4294967295 (-1) (e_pf 61 135 39 2 0 7 rfl rfl rfl (e_aload_aload_n 64 0 0 0 rfl (e_aload_aload_n 65 0 1 1 rfl (e_pf 66 86148 42 2 5 4 rfl rfl rfl (e_return_ 69 0 ))))))))))))))))))))))))))))))))))
def kt_58 : Nat → Option ex_C := fun pc => @Bool.rec (fun _ => Option ex_C) none (some k58_0) (Nat.beq pc 0)
theorem ktE_58 : ex_CTT 15 [] cd_58 kt_58 cd_58 := (ex_ct1 kE58_0)
set_option maxHeartbeats 100000 in
def k59_0 : ex_C := c_aload 0 (c_psh 0 (c_pf 2 0 5 (c_aload 0 (c_gf 2 0 (c_aload 1 (c_aload 2 (c_invV [] cd_59 11 3 8 3 (c_return_  15))))))))
set_option maxHeartbeats 100000 in
theorem kE59_0 : ex_CE 15 [] cd_59 k59_0 q59_0 := e_aload_aload_n 0 0 0 0 rfl (e_psh_iconst 1 0 0 (e_pf 2 133 31 2 0 5 rfl rfl rfl (e_aload_aload_n 5 0 0 0 rfl (e_gf 6 86144 12 2 0 rfl rfl (e_aload_aload_n 9 0 1 1 rfl (e_aload_aload_n 10 0 2 2 rfl (e_invV_invokevirtual 11 196707 46 3 8 3 rfl rfl rfl rfl rfl rfl (e_return_ 14 0 ))))))))
def kt_59 : Nat → Option ex_C := fun pc => @Bool.rec (fun _ => Option ex_C) none (some k59_0) (Nat.beq pc 0)
theorem ktE_59 : ex_CTT 15 [] cd_59 kt_59 cd_59 := (ex_ct1 kE59_0)
set_option maxHeartbeats 100000 in
def k60_224 : ex_C := c_aload 0 (c_aload 1 (c_gf 6 4 (c_invV [] cd_60 229 2 65 2 (c_aload 0 (c_gf 2 6 (c_ireturn  2))))))
set_option maxHeartbeats 100000 in
theorem kE60_224 : ex_CE 2 [] cd_60 k60_224 q60_224 := e_aload_aload_n 224 0 0 0 rfl (e_aload_aload_n 225 0 1 1 rfl (e_gf 226 388 50 6 4 rfl rfl (e_invV_invokevirtual 229 663618 110 2 65 2 rfl rfl rfl rfl rfl rfl (e_aload_aload_n 232 0 0 0 rfl (e_gf 233 8326 35 2 6 rfl rfl (e_ireturn 236 0 ))))))
set_option maxHeartbeats 100000 in
def k60_205 : ex_C := c_aload 0 (c_iload 7 (c_invV [] cd_60 208 2 65 2 (c_iload 4 (c_iload 9 (c_iadd (c_istore 4 (c_iinc 5 1 (c_goto 25))))))))
set_option maxHeartbeats 100000 in
theorem kE60_205 : ex_CE 2 [] cd_60 k60_205 q60_205 := e_aload_aload_n 205 0 0 0 rfl (e_iload_iload 206 0 7 (e_invV_invokevirtual 208 663618 110 2 65 2 rfl rfl rfl rfl rfl rfl (e_iload_iload 211 0 4 (e_iload_iload 213 0 9 (e_iadd 215 0 (e_istore_istore 216 0 4 (e_iinc 218 1 5 1 (e_goto 221 25 (-196)))))))))
set_option maxHeartbeats 100000 in
def k60_172 : ex_C := c_pf 3 1 15 (c_aload 0 (c_gf 2 3 (c_aload 8 (c_iload 6 (c_iload 10 (c_invV [] cd_60 185 4 87 4 (c_aload 0 (c_psh 98 (c_aload 8 (c_invV [] cd_60 193 1 20 3 (c_invV [] cd_60 196 3 61 2 (c_iinc 10 1 (c_goto 135)))))))))))))
set_option maxHeartbeats 100000 in
theorem kE60_172 : ex_CE 2 [] cd_60 k60_172 q60_172 := e_pf 172 4303 94 3 1 15 rfl rfl rfl (e_aload_aload_n 175 0 0 0 rfl (e_gf 176 86147 27 2 3 rfl rfl (e_aload_aload 179 0 8 (e_iload_iload 181 0 6 (e_iload_iload 183 0 10 (e_invV_invokevirtual 185 843908 98 4 87 4 rfl rfl rfl rfl rfl rfl (e_aload_aload_n 188 0 0 0 rfl (e_psh_bipush 189 98 98 (e_aload_aload 191 0 8 (e_invV_invokevirtual 193 295009 102 1 20 3 rfl rfl rfl rfl rfl rfl (e_invV_invokevirtual 196 630851 106 3 61 2 rfl rfl rfl rfl rfl rfl (e_iinc 199 1 10 1 (e_goto 202 135 (-67))))))))))))))
set_option maxHeartbeats 100000 in
def k60_171 : ex_C := c_psh 0 (k60_172)
set_option maxHeartbeats 100000 in
theorem kE60_171 : ex_CE 2 [] cd_60 k60_171 q60_171 := e_psh_iconst 171 0 0 (kE60_172)
set_option maxHeartbeats 100000 in
def k60_135 : ex_C := c_iload 10 (c_iload 9 (c_icmp_ge 205 (c_aload 0 (c_gf 2 6 (c_psh 45 (c_icmp_ne 205 (c_aload 8 (c_invV [] cd_60 153 1 14 3 (c_aload 8 (c_iload 4 (c_iload 10 (c_iadd (c_iload 3 (c_icmp_lt 171 (c_psh 1 (c_goto 172))))))))))))))))
set_option maxHeartbeats 100000 in
theorem kE60_135 : ex_CE 2 [] cd_60 k60_135 q60_135 := e_iload_iload 135 0 10 (e_iload_iload 137 0 9 (e_icmp_ge 139 205 66 (e_aload_aload_n 142 0 0 0 rfl (e_gf 143 8326 35 2 6 rfl rfl (e_psh_bipush 146 45 45 (e_icmp_ne 148 205 57 (e_aload_aload 151 0 8 (e_invV_invokevirtual 153 245857 91 1 14 3 rfl rfl rfl rfl rfl rfl (e_aload_aload 156 0 8 (e_iload_iload 158 0 4 (e_iload_iload 160 0 10 (e_iadd 162 0 (e_iload_iload_n 163 0 3 3 rfl (e_icmp_lt 164 171 7 (e_psh_iconst 167 1 1 (e_goto 168 172 4))))))))))))))))
set_option maxHeartbeats 100000 in
def k60_117 : ex_C := c_psh 17179869186 (c_iload 6 (c_iaload (c_iload 2 (c_iload 4 (c_isub (c_invS [] cd_60 127 2 302 (c_istore 9 (c_psh 0 (c_istore 10 (k60_135))))))))))
set_option maxHeartbeats 100000 in
theorem kE60_117 : ex_CE 2 [] cd_60 k60_117 q60_117 := e_psh_getstatic 117 17179869186 82 (e_iload_iload 120 0 6 (e_iaload 122 0 (e_iload_iload_n 123 0 2 2 rfl (e_iload_iload 124 0 4 (e_isub 126 0 (e_invS 127 2613218 85 2 302 rfl rfl rfl (e_istore_istore 130 0 9 (e_psh_iconst 132 0 0 (e_istore_istore 133 0 10 (kE60_135))))))))))
set_option maxHeartbeats 100000 in
def k60_25 : ex_C := c_iload 5 (c_aload 1 (c_gf 6 3 (c_icmp_ge 224 (c_iload 4 (c_iload 2 (c_icmp_ge 224 (c_aload 0 (c_gf 2 6 (c_psh 45 (c_icmp_ne 224 (c_aload 1 (c_gf 6 0 (c_iload 5 (c_iaload (c_istore 6 (c_aload 1 (c_iload 5 (c_invV [] cd_60 61 2 53 6 (c_istore 7 (c_aload 0 (c_iload 7 (c_invV [] cd_60 69 2 63 2 (c_aload 0 (c_aload 0 (c_gf 2 5 (c_invV [] cd_60 77 2 62 2 (c_astore 8 (c_aload 0 (c_aload 8 (c_aload 1 (c_iload 5 (c_invV [] cd_60 88 4 64 2 (c_aload 0 (c_gf 2 6 (c_psh 45 (c_icmp_ne 117 (c_iload 4 (c_iload 3 (c_icmp_lt 117 (c_aload 0 (c_gf 2 3 (c_aload 8 (c_iload 6 (c_invV [] cd_60 114 3 86 4 (k60_117)))))))))))))))))))))))))))))))))))))))))))))
set_option maxHeartbeats 100000 in
theorem kE60_25 : ex_CE 2 [] cd_60 k60_25 q60_25 := e_iload_iload 25 0 5 (e_aload_aload_n 27 0 1 1 rfl (e_gf 28 387 59 6 3 rfl rfl (e_icmp_ge 31 224 193 (e_iload_iload 34 0 4 (e_iload_iload_n 36 0 2 2 rfl (e_icmp_ge 37 224 187 (e_aload_aload_n 40 0 0 0 rfl (e_gf 41 8326 35 2 6 rfl rfl (e_psh_bipush 44 45 45 (e_icmp_ne 46 224 178 (e_aload_aload_n 49 0 1 1 rfl (e_gf 50 86400 62 6 0 rfl rfl (e_iload_iload 53 0 5 (e_iaload 55 0 (e_istore_istore 56 0 6 (e_aload_aload_n 58 0 1 1 rfl (e_iload_iload 59 0 5 (e_invV_invokevirtual 61 565442 66 2 53 6 rfl rfl rfl rfl rfl rfl (e_istore_istore 64 0 7 (e_aload_aload_n 66 0 0 0 rfl (e_iload_iload 67 0 7 (e_invV_invokevirtual 69 647234 55 2 63 2 rfl rfl rfl rfl rfl rfl (e_aload_aload_n 72 0 0 0 rfl (e_aload_aload_n 73 0 0 0 rfl (e_gf 74 133 31 2 5 rfl rfl (e_invV_invokevirtual 77 639042 70 2 62 2 rfl rfl rfl rfl rfl rfl (e_astore_astore 80 0 8 (e_aload_aload_n 82 0 0 0 rfl (e_aload_aload 83 0 8 (e_aload_aload_n 85 0 1 1 rfl (e_iload_iload 86 0 5 (e_invV_invokevirtual 88 655428 74 4 64 2 rfl rfl rfl rfl rfl rfl (e_aload_aload_n 91 0 0 0 rfl (e_gf 92 8326 35 2 6 rfl rfl (e_psh_bipush 95 45 45 (e_icmp_ne 97 117 20 (e_iload_iload 100 0 4 (e_iload_iload_n 102 0 3 3 rfl (e_icmp_lt 103 117 14 (e_aload_aload_n 106 0 0 0 rfl (e_gf 107 86147 27 2 3 rfl rfl (e_aload_aload 110 0 8 (e_iload_iload 112 0 6 (e_invV_invokevirtual 114 835715 78 3 86 4 rfl rfl rfl rfl rfl rfl (kE60_117)))))))))))))))))))))))))))))))))))))))))))))
set_option maxHeartbeats 100000 in
def k60_0 : ex_C := c_aload 0 (c_psh 45 (c_pf 2 2 6 (c_aload 0 (c_psh 4294967295 (c_pf 2 0 7 (c_aload 0 (c_aload 1 (c_gf 6 4 (c_invV [] cd_60 16 2 63 2 (c_psh 0 (c_istore 4 (c_psh 0 (c_istore 5 (k60_25))))))))))))))
set_option maxHeartbeats 100000 in
theorem kE60_0 : ex_CE 2 [] cd_60 k60_0 q60_0 := e_aload_aload_n 0 0 0 0 rfl (e_psh_bipush 1 45 45 (e_pf 3 8326 35 2 2 6 rfl rfl rfl (e_aload_aload_n 6 0 0 0 rfl (e_psh_iconst 7 4294967295 (-1) (e_pf 8 135 39 2 0 7 rfl rfl rfl (e_aload_aload_n 11 0 0 0 rfl (e_aload_aload_n 12 0 1 1 rfl (e_gf 13 388 50 6 4 rfl rfl (e_invV_invokevirtual 16 647234 55 2 63 2 rfl rfl rfl rfl rfl rfl (e_psh_iconst 19 0 0 (e_istore_istore 20 0 4 (e_psh_iconst 22 0 0 (e_istore_istore 23 0 5 (kE60_25))))))))))))))
def kt_60 : Nat → Option ex_C := fun pc => @Bool.rec (fun _ => Nat → Option ex_C) (fun pc => @Bool.rec (fun _ => Nat → Option ex_C) (fun pc => @Bool.rec (fun _ => Nat → Option ex_C) (fun pc => @Bool.rec (fun _ => Option ex_C) none (some k60_224) (Nat.beq pc 224)) (fun pc => @Bool.rec (fun _ => Option ex_C) none (some k60_205) (Nat.beq pc 205)) (Nat.ble pc 205) pc) (fun pc => @Bool.rec (fun _ => Nat → Option ex_C) (fun pc => @Bool.rec (fun _ => Option ex_C) none (some k60_172) (Nat.beq pc 172)) (fun pc => @Bool.rec (fun _ => Option ex_C) none (some k60_171) (Nat.beq pc 171)) (Nat.ble pc 171) pc) (Nat.ble pc 172) pc) (fun pc => @Bool.rec (fun _ => Nat → Option ex_C) (fun pc => @Bool.rec (fun _ => Nat → Option ex_C) (fun pc => @Bool.rec (fun _ => Option ex_C) none (some k60_135) (Nat.beq pc 135)) (fun pc => @Bool.rec (fun _ => Option ex_C) none (some k60_117) (Nat.beq pc 117)) (Nat.ble pc 117) pc) (fun pc => @Bool.rec (fun _ => Nat → Option ex_C) (fun pc => @Bool.rec (fun _ => Option ex_C) none (some k60_25) (Nat.beq pc 25)) (fun pc => @Bool.rec (fun _ => Option ex_C) none (some k60_0) (Nat.beq pc 0)) (Nat.ble pc 0) pc) (Nat.ble pc 25) pc) (Nat.ble pc 135) pc
theorem ktE_60 : ex_CTT 2 [] cd_60 kt_60 cd_60 := (ex_ct2 (ex_ct2 (ex_ct2 (ex_ct1 kE60_0) (ex_ct1 kE60_25)) (ex_ct2 (ex_ct1 kE60_117) (ex_ct1 kE60_135))) (ex_ct2 (ex_ct2 (ex_ct1 kE60_171) (ex_ct1 kE60_172)) (ex_ct2 (ex_ct1 kE60_205) (ex_ct1 kE60_224))))
set_option maxHeartbeats 100000 in
def k61_14 : ex_C := c_return_  15
set_option maxHeartbeats 100000 in
theorem kE61_14 : ex_CE 15 [] cd_61 k61_14 q61_14 := e_return_ 14 0 
set_option maxHeartbeats 100000 in
def k61_0 : ex_C := c_iload 2 (c_if_lt 14 (c_aload 0 (c_iload 1 (c_pf 2 2 6 (c_aload 0 (c_iload 2 (c_pf 2 0 7 (k61_14))))))))
set_option maxHeartbeats 100000 in
theorem kE61_0 : ex_CE 15 [] cd_61 k61_0 q61_0 := e_iload_iload_n 0 0 2 2 rfl (e_if_lt 1 14 13 (e_aload_aload_n 4 0 0 0 rfl (e_iload_iload_n 5 0 1 1 rfl (e_pf 6 8326 35 2 2 6 rfl rfl rfl (e_aload_aload_n 9 0 0 0 rfl (e_iload_iload_n 10 0 2 2 rfl (e_pf 11 135 39 2 0 7 rfl rfl rfl (kE61_14))))))))
def kt_61 : Nat → Option ex_C := fun pc => @Bool.rec (fun _ => Nat → Option ex_C) (fun pc => @Bool.rec (fun _ => Option ex_C) none (some k61_14) (Nat.beq pc 14)) (fun pc => @Bool.rec (fun _ => Option ex_C) none (some k61_0) (Nat.beq pc 0)) (Nat.ble pc 0) pc
theorem ktE_61 : ex_CTT 15 [] cd_61 kt_61 cd_61 := (ex_ct2 (ex_ct1 kE61_0) (ex_ct1 kE61_14))
set_option maxHeartbeats 100000 in
def k62_27 : ex_C := c_areturn  5
set_option maxHeartbeats 100000 in
theorem kE62_27 : ex_CE 5 [] cd_62 k62_27 q62_27 := e_areturn 27 0 
set_option maxHeartbeats 100000 in
def k62_23 : ex_C := c_aload 0 (c_gf 2 2 (k62_27))
set_option maxHeartbeats 100000 in
theorem kE62_23 : ex_CE 5 [] cd_62 k62_23 q62_23 := e_aload_aload_n 23 0 0 0 rfl (e_gf 24 86146 21 2 2 rfl rfl (kE62_27))
set_option maxHeartbeats 100000 in
def k62_11 : ex_C := c_iload 1 (c_psh 1 (c_icmp_ne 23 (c_aload 0 (c_gf 2 1 (c_goto 27)))))
set_option maxHeartbeats 100000 in
theorem kE62_11 : ex_CE 5 [] cd_62 k62_11 q62_11 := e_iload_iload_n 11 0 1 1 rfl (e_psh_iconst 12 1 1 (e_icmp_ne 13 23 10 (e_aload_aload_n 16 0 0 0 rfl (e_gf 17 86145 18 2 1 rfl rfl (e_goto 20 27 7)))))
set_option maxHeartbeats 100000 in
def k62_0 : ex_C := c_iload 1 (c_if_ne 11 (c_aload 0 (c_gf 2 0 (c_goto 27))))
set_option maxHeartbeats 100000 in
theorem kE62_0 : ex_CE 5 [] cd_62 k62_0 q62_0 := e_iload_iload_n 0 0 1 1 rfl (e_if_ne 1 11 10 (e_aload_aload_n 4 0 0 0 rfl (e_gf 5 86144 12 2 0 rfl rfl (e_goto 8 27 19))))
def kt_62 : Nat → Option ex_C := fun pc => @Bool.rec (fun _ => Nat → Option ex_C) (fun pc => @Bool.rec (fun _ => Nat → Option ex_C) (fun pc => @Bool.rec (fun _ => Option ex_C) none (some k62_27) (Nat.beq pc 27)) (fun pc => @Bool.rec (fun _ => Option ex_C) none (some k62_23) (Nat.beq pc 23)) (Nat.ble pc 23) pc) (fun pc => @Bool.rec (fun _ => Nat → Option ex_C) (fun pc => @Bool.rec (fun _ => Option ex_C) none (some k62_11) (Nat.beq pc 11)) (fun pc => @Bool.rec (fun _ => Option ex_C) none (some k62_0) (Nat.beq pc 0)) (Nat.ble pc 0) pc) (Nat.ble pc 11) pc
theorem ktE_62 : ex_CTT 5 [] cd_62 kt_62 cd_62 := (ex_ct2 (ex_ct2 (ex_ct1 kE62_0) (ex_ct1 kE62_11)) (ex_ct2 (ex_ct1 kE62_23) (ex_ct1 kE62_27)))
set_option maxHeartbeats 100000 in
def k63_98 : ex_C := c_return_  15
set_option maxHeartbeats 100000 in
theorem kE63_98 : ex_CE 15 [] cd_63 k63_98 q63_98 := e_return_ 98 0 
set_option maxHeartbeats 100000 in
def k63_92 : ex_C := c_aload 0 (c_psh 112 (c_pf 2 2 6 (k63_98)))
set_option maxHeartbeats 100000 in
theorem kE63_92 : ex_CE 15 [] cd_63 k63_92 q63_92 := e_aload_aload_n 92 0 0 0 rfl (e_psh_bipush 93 112 112 (e_pf 95 8326 35 2 2 6 rfl rfl rfl (kE63_98)))
set_option maxHeartbeats 100000 in
def k63_73 : ex_C := c_invV [] cd_63 73 4 66 2 (c_if_eq 92 (c_aload 0 (c_dup   (c_gf 2 5 (c_psh 1 (c_iadd (c_pf 2 0 5 (c_goto 98))))))))
set_option maxHeartbeats 100000 in
theorem kE63_73 : ex_CE 15 [] cd_63 k63_73 q63_73 := e_invV_invokevirtual 73 671812 117 4 66 2 rfl rfl rfl rfl rfl rfl (e_if_eq 76 92 16 (e_aload_aload_n 79 0 0 0 rfl (e_dup 80 0  (e_gf 81 133 31 2 5 rfl rfl (e_psh_iconst 84 1 1 (e_iadd 85 0 (e_pf 86 133 31 2 0 5 rfl rfl rfl (e_goto 89 98 9))))))))
set_option maxHeartbeats 100000 in
def k63_72 : ex_C := c_psh 0 (k63_73)
set_option maxHeartbeats 100000 in
theorem kE63_72 : ex_CE 15 [] cd_63 k63_72 q63_72 := e_psh_iconst 72 0 0 (kE63_73)
set_option maxHeartbeats 100000 in
def k63_44 : ex_C := c_aload 0 (c_aload 0 (c_aload 0 (c_gf 2 5 (c_invV [] cd_63 50 2 62 2 (c_aload 0 (c_aload 0 (c_gf 2 5 (c_psh 1 (c_iadd (c_invV [] cd_63 60 2 62 2 (c_iload 1 (c_psh 5 (c_icmp_ne 72 (c_psh 1 (c_goto 73)))))))))))))))
set_option maxHeartbeats 100000 in
theorem kE63_44 : ex_CE 15 [] cd_63 k63_44 q63_44 := e_aload_aload_n 44 0 0 0 rfl (e_aload_aload_n 45 0 0 0 rfl (e_aload_aload_n 46 0 0 0 rfl (e_gf 47 133 31 2 5 rfl rfl (e_invV_invokevirtual 50 639042 70 2 62 2 rfl rfl rfl rfl rfl rfl (e_aload_aload_n 53 0 0 0 rfl (e_aload_aload_n 54 0 0 0 rfl (e_gf 55 133 31 2 5 rfl rfl (e_psh_iconst 58 1 1 (e_iadd 59 0 (e_invV_invokevirtual 60 639042 70 2 62 2 rfl rfl rfl rfl rfl rfl (e_iload_iload_n 63 0 1 1 rfl (e_psh_iconst 64 5 5 (e_icmp_ne 65 72 7 (e_psh_iconst 68 1 1 (e_goto 69 73 4)))))))))))))))
set_option maxHeartbeats 100000 in
def k63_33 : ex_C := c_iload 1 (c_psh 5 (c_icmp_eq 44 (c_iload 1 (c_psh 6 (c_icmp_ne 98 (k63_44))))))
set_option maxHeartbeats 100000 in
theorem kE63_33 : ex_CE 15 [] cd_63 k63_33 q63_33 := e_iload_iload_n 33 0 1 1 rfl (e_psh_iconst 34 5 5 (e_icmp_eq 35 44 9 (e_iload_iload_n 38 0 1 1 rfl (e_psh_bipush 39 6 6 (e_icmp_ne 41 98 57 (kE63_44))))))
set_option maxHeartbeats 100000 in
def k63_10 : ex_C := c_iload 1 (c_psh 4 (c_icmp_ne 33 (c_aload 0 (c_aload 0 (c_gf 2 5 (c_invV [] cd_63 20 2 62 2 (c_aload 0 (c_gf 2 4 (c_invV [] cd_63 27 2 9 3 (c_goto 98))))))))))
set_option maxHeartbeats 100000 in
theorem kE63_10 : ex_CE 15 [] cd_63 k63_10 q63_10 := e_iload_iload_n 10 0 1 1 rfl (e_psh_iconst 11 4 4 (e_icmp_ne 12 33 21 (e_aload_aload_n 15 0 0 0 rfl (e_aload_aload_n 16 0 0 0 rfl (e_gf 17 133 31 2 5 rfl rfl (e_invV_invokevirtual 20 639042 70 2 62 2 rfl rfl rfl rfl rfl rfl (e_aload_aload_n 23 0 0 0 rfl (e_gf 24 86148 42 2 4 rfl rfl (e_invV_invokevirtual 27 204898 113 2 9 3 rfl rfl rfl rfl rfl rfl (e_goto 30 98 68))))))))))
set_option maxHeartbeats 100000 in
def k63_0 : ex_C := c_aload 0 (c_gf 2 6 (c_psh 45 (c_icmp_eq 10 (c_return_  15))))
set_option maxHeartbeats 100000 in
theorem kE63_0 : ex_CE 15 [] cd_63 k63_0 q63_0 := e_aload_aload_n 0 0 0 0 rfl (e_gf 1 8326 35 2 6 rfl rfl (e_psh_bipush 4 45 45 (e_icmp_eq 6 10 4 (e_return_ 9 0 ))))
def kt_63 : Nat → Option ex_C := fun pc => @Bool.rec (fun _ => Nat → Option ex_C) (fun pc => @Bool.rec (fun _ => Nat → Option ex_C) (fun pc => @Bool.rec (fun _ => Nat → Option ex_C) (fun pc => @Bool.rec (fun _ => Option ex_C) none (some k63_98) (Nat.beq pc 98)) (fun pc => @Bool.rec (fun _ => Option ex_C) none (some k63_92) (Nat.beq pc 92)) (Nat.ble pc 92) pc) (fun pc => @Bool.rec (fun _ => Nat → Option ex_C) (fun pc => @Bool.rec (fun _ => Option ex_C) none (some k63_73) (Nat.beq pc 73)) (fun pc => @Bool.rec (fun _ => Option ex_C) none (some k63_72) (Nat.beq pc 72)) (Nat.ble pc 72) pc) (Nat.ble pc 73) pc) (fun pc => @Bool.rec (fun _ => Nat → Option ex_C) (fun pc => @Bool.rec (fun _ => Nat → Option ex_C) (fun pc => @Bool.rec (fun _ => Option ex_C) none (some k63_44) (Nat.beq pc 44)) (fun pc => @Bool.rec (fun _ => Option ex_C) none (some k63_33) (Nat.beq pc 33)) (Nat.ble pc 33) pc) (fun pc => @Bool.rec (fun _ => Nat → Option ex_C) (fun pc => @Bool.rec (fun _ => Option ex_C) none (some k63_10) (Nat.beq pc 10)) (fun pc => @Bool.rec (fun _ => Option ex_C) none (some k63_0) (Nat.beq pc 0)) (Nat.ble pc 0) pc) (Nat.ble pc 10) pc) (Nat.ble pc 44) pc
theorem ktE_63 : ex_CTT 15 [] cd_63 kt_63 cd_63 := (ex_ct2 (ex_ct2 (ex_ct2 (ex_ct1 kE63_0) (ex_ct1 kE63_10)) (ex_ct2 (ex_ct1 kE63_33) (ex_ct1 kE63_44))) (ex_ct2 (ex_ct2 (ex_ct1 kE63_72) (ex_ct1 kE63_73)) (ex_ct2 (ex_ct1 kE63_92) (ex_ct1 kE63_98))))
set_option maxHeartbeats 100000 in
def k64_141 : ex_C := c_return_  15
set_option maxHeartbeats 100000 in
theorem kE64_141 : ex_CE 15 [] cd_64 k64_141 q64_141 := e_return_ 141 0 
set_option maxHeartbeats 100000 in
def k64_135 : ex_C := c_aload 0 (c_psh 119 (c_pf 2 2 6 (k64_141)))
set_option maxHeartbeats 100000 in
theorem kE64_135 : ex_CE 15 [] cd_64 k64_135 q64_135 := e_aload_aload_n 135 0 0 0 rfl (e_psh_bipush 136 119 119 (e_pf 138 8326 35 2 2 6 rfl rfl rfl (kE64_141)))
set_option maxHeartbeats 100000 in
def k64_78 : ex_C := c_invV [] cd_64 78 4 69 4 (c_aload 0 (c_gf 2 3 (c_aload 1 (c_aload 2 (c_gf 6 1 (c_iload 3 (c_iaload (c_invV [] cd_64 92 3 70 4 (c_if_eq 135 (c_aload 0 (c_gf 2 3 (c_aload 1 (c_aload 2 (c_gf 6 0 (c_iload 3 (c_iaload (c_invV [] cd_64 109 3 72 4 (c_aload 0 (c_psh 112 (c_aload 0 (c_gf 2 3 (c_aload 1 (c_aload 2 (c_gf 6 0 (c_iload 3 (c_iaload (c_invV [] cd_64 126 3 84 4 (c_invV [] cd_64 129 3 61 2 (c_goto 141)))))))))))))))))))))))))))))
set_option maxHeartbeats 100000 in
theorem kE64_78 : ex_CE 15 [] cd_64 k64_78 q64_78 := e_invV_invokevirtual 78 696452 121 4 69 4 rfl rfl rfl rfl rfl rfl (e_aload_aload_n 81 0 0 0 rfl (e_gf 82 86147 27 2 3 rfl rfl (e_aload_aload_n 85 0 1 1 rfl (e_aload_aload_n 86 0 2 2 rfl (e_gf 87 86401 125 6 1 rfl rfl (e_iload_iload_n 90 0 3 3 rfl (e_iaload 91 0 (e_invV_invokevirtual 92 704643 128 3 70 4 rfl rfl rfl rfl rfl rfl (e_if_eq 95 135 40 (e_aload_aload_n 98 0 0 0 rfl (e_gf 99 86147 27 2 3 rfl rfl (e_aload_aload_n 102 0 1 1 rfl (e_aload_aload_n 103 0 2 2 rfl (e_gf 104 86400 62 6 0 rfl rfl (e_iload_iload_n 107 0 3 3 rfl (e_iaload 108 0 (e_invV_invokevirtual 109 721027 132 3 72 4 rfl rfl rfl rfl rfl rfl (e_aload_aload_n 112 0 0 0 rfl (e_psh_bipush 113 112 112 (e_aload_aload_n 115 0 0 0 rfl (e_gf 116 86147 27 2 3 rfl rfl (e_aload_aload_n 119 0 1 1 rfl (e_aload_aload_n 120 0 2 2 rfl (e_gf 121 86400 62 6 0 rfl rfl (e_iload_iload_n 124 0 3 3 rfl (e_iaload 125 0 (e_invV_invokevirtual 126 819331 135 3 84 4 rfl rfl rfl rfl rfl rfl (e_invV_invokevirtual 129 630851 106 3 61 2 rfl rfl rfl rfl rfl rfl (e_goto 132 141 9)))))))))))))))))))))))))))))
set_option maxHeartbeats 100000 in
def k64_77 : ex_C := c_psh 0 (k64_78)
set_option maxHeartbeats 100000 in
theorem kE64_77 : ex_CE 15 [] cd_64 k64_77 q64_77 := e_psh_iconst 77 0 0 (kE64_78)
set_option maxHeartbeats 100000 in
def k64_73 : ex_C := c_psh 1 (c_goto 78)
set_option maxHeartbeats 100000 in
theorem kE64_73 : ex_CE 15 [] cd_64 k64_73 q64_73 := e_psh_iconst 73 1 1 (e_goto 74 78 4)
set_option maxHeartbeats 100000 in
def k64_61 : ex_C := c_iload 4 (c_psh 2 (c_icmp_eq 73 (c_iload 5 (c_psh 2 (c_icmp_ne 77 (k64_73))))))
set_option maxHeartbeats 100000 in
theorem kE64_61 : ex_CE 15 [] cd_64 k64_61 q64_61 := e_iload_iload 61 0 4 (e_psh_iconst 63 2 2 (e_icmp_eq 64 73 9 (e_iload_iload 67 0 5 (e_psh_iconst 69 2 2 (e_icmp_ne 70 77 7 (kE64_73))))))
set_option maxHeartbeats 100000 in
def k64_60 : ex_C := c_psh 0 (k64_61)
set_option maxHeartbeats 100000 in
theorem kE64_60 : ex_CE 15 [] cd_64 k64_60 q64_60 := e_psh_iconst 60 0 0 (kE64_61)
set_option maxHeartbeats 100000 in
def k64_56 : ex_C := c_psh 1 (c_goto 61)
set_option maxHeartbeats 100000 in
theorem kE64_56 : ex_CE 15 [] cd_64 k64_56 q64_56 := e_psh_iconst 56 1 1 (e_goto 57 61 4)
set_option maxHeartbeats 100000 in
def k64_44 : ex_C := c_iload 4 (c_psh 1 (c_icmp_eq 56 (c_iload 5 (c_psh 1 (c_icmp_ne 60 (k64_56))))))
set_option maxHeartbeats 100000 in
theorem kE64_44 : ex_CE 15 [] cd_64 k64_44 q64_44 := e_iload_iload 44 0 4 (e_psh_iconst 46 1 1 (e_icmp_eq 47 56 9 (e_iload_iload 50 0 5 (e_psh_iconst 52 1 1 (e_icmp_ne 53 60 7 (kE64_56))))))
set_option maxHeartbeats 100000 in
def k64_43 : ex_C := c_psh 2 (k64_44)
set_option maxHeartbeats 100000 in
theorem kE64_43 : ex_CE 15 [] cd_64 k64_43 q64_43 := e_psh_iconst 43 2 2 (kE64_44)
set_option maxHeartbeats 100000 in
def k64_39 : ex_C := c_psh 4 (c_goto 44)
set_option maxHeartbeats 100000 in
theorem kE64_39 : ex_CE 15 [] cd_64 k64_39 q64_39 := e_psh_iconst 39 4 4 (e_goto 40 44 4)
set_option maxHeartbeats 100000 in
def k64_10 : ex_C := c_aload 2 (c_gf 6 4 (c_istore 4 (c_aload 2 (c_iload 3 (c_invV [] cd_64 18 2 53 6 (c_istore 5 (c_aload 0 (c_gf 2 3 (c_iload 4 (c_psh 3 (c_icmp_eq 39 (c_iload 5 (c_psh 3 (c_icmp_ne 43 (k64_39)))))))))))))))
set_option maxHeartbeats 100000 in
theorem kE64_10 : ex_CE 15 [] cd_64 k64_10 q64_10 := e_aload_aload_n 10 0 2 2 rfl (e_gf 11 388 50 6 4 rfl rfl (e_istore_istore 14 0 4 (e_aload_aload_n 16 0 2 2 rfl (e_iload_iload_n 17 0 3 3 rfl (e_invV_invokevirtual 18 565442 66 2 53 6 rfl rfl rfl rfl rfl rfl (e_istore_istore 21 0 5 (e_aload_aload_n 23 0 0 0 rfl (e_gf 24 86147 27 2 3 rfl rfl (e_iload_iload 27 0 4 (e_psh_iconst 29 3 3 (e_icmp_eq 30 39 9 (e_iload_iload 33 0 5 (e_psh_iconst 35 3 3 (e_icmp_ne 36 43 7 (kE64_39)))))))))))))))
set_option maxHeartbeats 100000 in
def k64_0 : ex_C := c_aload 0 (c_gf 2 6 (c_psh 45 (c_icmp_eq 10 (c_return_  15))))
set_option maxHeartbeats 100000 in
theorem kE64_0 : ex_CE 15 [] cd_64 k64_0 q64_0 := e_aload_aload_n 0 0 0 0 rfl (e_gf 1 8326 35 2 6 rfl rfl (e_psh_bipush 4 45 45 (e_icmp_eq 6 10 4 (e_return_ 9 0 ))))
def kt_64 : Nat → Option ex_C := fun pc => @Bool.rec (fun _ => Nat → Option ex_C) (fun pc => @Bool.rec (fun _ => Nat → Option ex_C) (fun pc => @Bool.rec (fun _ => Nat → Option ex_C) (fun pc => @Bool.rec (fun _ => Nat → Option ex_C) (fun pc => @Bool.rec (fun _ => Option ex_C) none (some k64_141) (Nat.beq pc 141)) (fun pc => @Bool.rec (fun _ => Option ex_C) none (some k64_135) (Nat.beq pc 135)) (Nat.ble pc 135) pc) (fun pc => @Bool.rec (fun _ => Nat → Option ex_C) (fun pc => @Bool.rec (fun _ => Option ex_C) none (some k64_78) (Nat.beq pc 78)) (fun pc => @Bool.rec (fun _ => Option ex_C) none (some k64_77) (Nat.beq pc 77)) (Nat.ble pc 77) pc) (Nat.ble pc 78) pc) (fun pc => @Bool.rec (fun _ => Nat → Option ex_C) (fun pc => @Bool.rec (fun _ => Nat → Option ex_C) (fun pc => @Bool.rec (fun _ => Option ex_C) none (some k64_73) (Nat.beq pc 73)) (fun pc => @Bool.rec (fun _ => Option ex_C) none (some k64_61) (Nat.beq pc 61)) (Nat.ble pc 61) pc) (fun pc => @Bool.rec (fun _ => Option ex_C) none (some k64_60) (Nat.beq pc 60)) (Nat.ble pc 60) pc) (Nat.ble pc 73) pc) (fun pc => @Bool.rec (fun _ => Nat → Option ex_C) (fun pc => @Bool.rec (fun _ => Nat → Option ex_C) (fun pc => @Bool.rec (fun _ => Nat → Option ex_C) (fun pc => @Bool.rec (fun _ => Option ex_C) none (some k64_56) (Nat.beq pc 56)) (fun pc => @Bool.rec (fun _ => Option ex_C) none (some k64_44) (Nat.beq pc 44)) (Nat.ble pc 44) pc) (fun pc => @Bool.rec (fun _ => Option ex_C) none (some k64_43) (Nat.beq pc 43)) (Nat.ble pc 43) pc) (fun pc => @Bool.rec (fun _ => Nat → Option ex_C) (fun pc => @Bool.rec (fun _ => Nat → Option ex_C) (fun pc => @Bool.rec (fun _ => Option ex_C) none (some k64_39) (Nat.beq pc 39)) (fun pc => @Bool.rec (fun _ => Option ex_C) none (some k64_10) (Nat.beq pc 10)) (Nat.ble pc 10) pc) (fun pc => @Bool.rec (fun _ => Option ex_C) none (some k64_0) (Nat.beq pc 0)) (Nat.ble pc 0) pc) (Nat.ble pc 39) pc) (Nat.ble pc 56) pc
theorem ktE_64 : ex_CTT 15 [] cd_64 kt_64 cd_64 := (ex_ct2 (ex_ct2 (ex_ct2 (ex_ct1 kE64_0) (ex_ct2 (ex_ct1 kE64_10) (ex_ct1 kE64_39))) (ex_ct2 (ex_ct1 kE64_43) (ex_ct2 (ex_ct1 kE64_44) (ex_ct1 kE64_56)))) (ex_ct2 (ex_ct2 (ex_ct1 kE64_60) (ex_ct2 (ex_ct1 kE64_61) (ex_ct1 kE64_73))) (ex_ct2 (ex_ct2 (ex_ct1 kE64_77) (ex_ct1 kE64_78)) (ex_ct2 (ex_ct1 kE64_135) (ex_ct1 kE64_141)))))
set_option maxHeartbeats 100000 in
def k65_93 : ex_C := c_return_  15
set_option maxHeartbeats 100000 in
theorem kE65_93 : ex_CE 15 [] cd_65 k65_93 q65_93 := e_return_ 93 0 
set_option maxHeartbeats 100000 in
def k65_90 : ex_C := c_invV [] cd_65 90 4 67 2 (k65_93)
set_option maxHeartbeats 100000 in
theorem kE65_90 : ex_CE 15 [] cd_65 k65_90 q65_90 := e_invV_invokevirtual 90 680004 142 4 67 2 rfl rfl rfl rfl rfl rfl (kE65_93)
set_option maxHeartbeats 100000 in
def k65_89 : ex_C := c_psh 0 (k65_90)
set_option maxHeartbeats 100000 in
theorem kE65_89 : ex_CE 15 [] cd_65 k65_89 q65_89 := e_psh_iconst 89 0 0 (kE65_90)
set_option maxHeartbeats 100000 in
def k65_44 : ex_C := c_aload 0 (c_gf 2 5 (c_if_le 93 (c_aload 0 (c_aload 0 (c_gf 2 5 (c_invV [] cd_65 56 2 62 2 (c_astore 2 (c_aload 0 (c_dup   (c_gf 2 5 (c_psh 1 (c_isub (c_pf 2 0 5 (c_aload 0 (c_aload 0 (c_aload 0 (c_gf 2 5 (c_invV [] cd_65 76 2 62 2 (c_aload 2 (c_iload 1 (c_psh 5 (c_icmp_ne 89 (c_psh 1 (c_goto 90))))))))))))))))))))))))
set_option maxHeartbeats 100000 in
theorem kE65_44 : ex_CE 15 [] cd_65 k65_44 q65_44 := e_aload_aload_n 44 0 0 0 rfl (e_gf 45 133 31 2 5 rfl rfl (e_if_le 48 93 45 (e_aload_aload_n 51 0 0 0 rfl (e_aload_aload_n 52 0 0 0 rfl (e_gf 53 133 31 2 5 rfl rfl (e_invV_invokevirtual 56 639042 70 2 62 2 rfl rfl rfl rfl rfl rfl (e_astore_astore_n 59 0 2 2 rfl (e_aload_aload_n 60 0 0 0 rfl (e_dup 61 0  (e_gf 62 133 31 2 5 rfl rfl (e_psh_iconst 65 1 1 (e_isub 66 0 (e_pf 67 133 31 2 0 5 rfl rfl rfl (e_aload_aload_n 70 0 0 0 rfl (e_aload_aload_n 71 0 0 0 rfl (e_aload_aload_n 72 0 0 0 rfl (e_gf 73 133 31 2 5 rfl rfl (e_invV_invokevirtual 76 639042 70 2 62 2 rfl rfl rfl rfl rfl rfl (e_aload_aload_n 79 0 2 2 rfl (e_iload_iload_n 80 0 1 1 rfl (e_psh_iconst 81 5 5 (e_icmp_ne 82 89 7 (e_psh_iconst 85 1 1 (e_goto 86 90 4))))))))))))))))))))))))
set_option maxHeartbeats 100000 in
def k65_33 : ex_C := c_iload 1 (c_psh 5 (c_icmp_eq 44 (c_iload 1 (c_psh 6 (c_icmp_ne 93 (k65_44))))))
set_option maxHeartbeats 100000 in
theorem kE65_33 : ex_CE 15 [] cd_65 k65_33 q65_33 := e_iload_iload_n 33 0 1 1 rfl (e_psh_iconst 34 5 5 (e_icmp_eq 35 44 9 (e_iload_iload_n 38 0 1 1 rfl (e_psh_bipush 39 6 6 (e_icmp_ne 41 93 52 (kE65_44))))))
set_option maxHeartbeats 100000 in
def k65_10 : ex_C := c_iload 1 (c_psh 4 (c_icmp_ne 33 (c_aload 0 (c_aload 0 (c_gf 2 5 (c_invV [] cd_65 20 2 62 2 (c_aload 0 (c_gf 2 4 (c_invV [] cd_65 27 2 10 3 (c_goto 93))))))))))
set_option maxHeartbeats 100000 in
theorem kE65_10 : ex_CE 15 [] cd_65 k65_10 q65_10 := e_iload_iload_n 10 0 1 1 rfl (e_psh_iconst 11 4 4 (e_icmp_ne 12 33 21 (e_aload_aload_n 15 0 0 0 rfl (e_aload_aload_n 16 0 0 0 rfl (e_gf 17 133 31 2 5 rfl rfl (e_invV_invokevirtual 20 639042 70 2 62 2 rfl rfl rfl rfl rfl rfl (e_aload_aload_n 23 0 0 0 rfl (e_gf 24 86148 42 2 4 rfl rfl (e_invV_invokevirtual 27 213090 139 2 10 3 rfl rfl rfl rfl rfl rfl (e_goto 30 93 63))))))))))
set_option maxHeartbeats 100000 in
def k65_0 : ex_C := c_aload 0 (c_gf 2 6 (c_psh 45 (c_icmp_eq 10 (c_return_  15))))
set_option maxHeartbeats 100000 in
theorem kE65_0 : ex_CE 15 [] cd_65 k65_0 q65_0 := e_aload_aload_n 0 0 0 0 rfl (e_gf 1 8326 35 2 6 rfl rfl (e_psh_bipush 4 45 45 (e_icmp_eq 6 10 4 (e_return_ 9 0 ))))
def kt_65 : Nat → Option ex_C := fun pc => @Bool.rec (fun _ => Nat → Option ex_C) (fun pc => @Bool.rec (fun _ => Nat → Option ex_C) (fun pc => @Bool.rec (fun _ => Nat → Option ex_C) (fun pc => @Bool.rec (fun _ => Option ex_C) none (some k65_93) (Nat.beq pc 93)) (fun pc => @Bool.rec (fun _ => Option ex_C) none (some k65_90) (Nat.beq pc 90)) (Nat.ble pc 90) pc) (fun pc => @Bool.rec (fun _ => Nat → Option ex_C) (fun pc => @Bool.rec (fun _ => Option ex_C) none (some k65_89) (Nat.beq pc 89)) (fun pc => @Bool.rec (fun _ => Option ex_C) none (some k65_44) (Nat.beq pc 44)) (Nat.ble pc 44) pc) (Nat.ble pc 89) pc) (fun pc => @Bool.rec (fun _ => Nat → Option ex_C) (fun pc => @Bool.rec (fun _ => Nat → Option ex_C) (fun pc => @Bool.rec (fun _ => Option ex_C) none (some k65_33) (Nat.beq pc 33)) (fun pc => @Bool.rec (fun _ => Option ex_C) none (some k65_10) (Nat.beq pc 10)) (Nat.ble pc 10) pc) (fun pc => @Bool.rec (fun _ => Option ex_C) none (some k65_0) (Nat.beq pc 0)) (Nat.ble pc 0) pc) (Nat.ble pc 33) pc
theorem ktE_65 : ex_CTT 15 [] cd_65 kt_65 cd_65 := (ex_ct2 (ex_ct2 (ex_ct1 kE65_0) (ex_ct2 (ex_ct1 kE65_10) (ex_ct1 kE65_33))) (ex_ct2 (ex_ct2 (ex_ct1 kE65_44) (ex_ct1 kE65_89)) (ex_ct2 (ex_ct1 kE65_90) (ex_ct1 kE65_93))))
set_option maxHeartbeats 100000 in
def k66_175 : ex_C := c_psh 1 (c_ireturn  1)
set_option maxHeartbeats 100000 in
theorem kE66_175 : ex_CE 1 [] cd_66 k66_175 q66_175 := e_psh_iconst 175 1 1 (e_ireturn 176 0 )
set_option maxHeartbeats 100000 in
def k66_169 : ex_C := c_iinc 5 1 (c_goto 24)
set_option maxHeartbeats 100000 in
theorem kE66_169 : ex_CE 1 [] cd_66 k66_169 q66_169 := e_iinc 169 1 5 1 (e_goto 172 24 (-148))
set_option maxHeartbeats 100000 in
def k66_167 : ex_C := c_psh 0 (c_ireturn  1)
set_option maxHeartbeats 100000 in
theorem kE66_167 : ex_CE 1 [] cd_66 k66_167 q66_167 := e_psh_iconst 167 0 0 (e_ireturn 168 0 )
set_option maxHeartbeats 100000 in
def k66_136 : ex_C := c_invV [] cd_66 136 4 13 3 (c_istore 8 (c_iload 7 (c_iload 4 (c_icmp_ne 167 (c_iload 8 (c_if_eq 169 (c_aload 2 (c_aload 1 (c_iload 5 (c_iload 6 (c_iload 7 (c_invV [] cd_66 161 5 11 3 (c_if_ne 169 (k66_167))))))))))))))
set_option maxHeartbeats 100000 in
theorem kE66_136 : ex_CE 1 [] cd_66 k66_136 q66_136 := e_invV_invokevirtual 136 237668 162 4 13 3 rfl rfl rfl rfl rfl rfl (e_istore_istore 139 0 8 (e_iload_iload 141 0 7 (e_iload_iload 143 0 4 (e_icmp_ne 145 167 22 (e_iload_iload 148 0 8 (e_if_eq 150 169 19 (e_aload_aload_n 153 0 2 2 rfl (e_aload_aload_n 154 0 1 1 rfl (e_iload_iload 155 0 5 (e_iload_iload 157 0 6 (e_iload_iload 159 0 7 (e_invV_invokevirtual 161 221285 166 5 11 3 rfl rfl rfl rfl rfl rfl (e_if_ne 164 169 5 (kE66_167))))))))))))))
set_option maxHeartbeats 100000 in
def k66_127 : ex_C := c_aload 1 (c_gf 3 2 (c_iload 5 (c_iaload (c_psh 3 (c_iadd (k66_136))))))
set_option maxHeartbeats 100000 in
theorem kE66_127 : ex_CE 1 [] cd_66 k66_127 q66_127 := e_aload_aload_n 127 0 1 1 rfl (e_gf 128 86210 159 3 2 rfl rfl (e_iload_iload 131 0 5 (e_iaload 133 0 (e_psh_iconst 134 3 3 (e_iadd 135 0 (kE66_136))))))
set_option maxHeartbeats 100000 in
def k66_106 : ex_C := c_istore 4 (c_aload 1 (c_iload 5 (c_iload 6 (c_iload 3 (c_if_eq 127 (c_aload 1 (c_gf 3 2 (c_iload 5 (c_iaload (c_goto 136))))))))))
set_option maxHeartbeats 100000 in
theorem kE66_106 : ex_CE 1 [] cd_66 k66_106 q66_106 := e_istore_istore 106 0 4 (e_aload_aload_n 108 0 1 1 rfl (e_iload_iload 109 0 5 (e_iload_iload 111 0 6 (e_iload_iload_n 113 0 3 3 rfl (e_if_eq 114 127 13 (e_aload_aload_n 117 0 1 1 rfl (e_gf 118 86210 159 3 2 rfl rfl (e_iload_iload 121 0 5 (e_iaload 123 0 (e_goto 124 136 12))))))))))
set_option maxHeartbeats 100000 in
def k66_104 : ex_C := c_iload 4 (k66_106)
set_option maxHeartbeats 100000 in
theorem kE66_104 : ex_CE 1 [] cd_66 k66_104 q66_104 := e_iload_iload 104 0 4 (kE66_106)
set_option maxHeartbeats 100000 in
def k66_92 : ex_C := c_istore 7 (c_iload 5 (c_if_ne 104 (c_iload 7 (c_goto 106))))
set_option maxHeartbeats 100000 in
theorem kE66_92 : ex_CE 1 [] cd_66 k66_92 q66_92 := e_istore_istore 92 0 7 (e_iload_iload 94 0 5 (e_if_ne 96 104 8 (e_iload_iload 99 0 7 (e_goto 101 106 5))))
set_option maxHeartbeats 100000 in
def k66_91 : ex_C := c_psh 0 (k66_92)
set_option maxHeartbeats 100000 in
theorem kE66_91 : ex_CE 1 [] cd_66 k66_91 q66_91 := e_psh_iconst 91 0 0 (kE66_92)
set_option maxHeartbeats 100000 in
def k66_84 : ex_C := c_icmp_ne 91 (c_psh 1 (c_goto 92))
set_option maxHeartbeats 100000 in
theorem kE66_84 : ex_CE 1 [] cd_66 k66_84 q66_84 := e_icmp_ne 84 91 7 (e_psh_iconst 87 1 1 (e_goto 88 92 4))
set_option maxHeartbeats 100000 in
def k66_83 : ex_C := c_psh 0 (k66_84)
set_option maxHeartbeats 100000 in
theorem kE66_83 : ex_CE 1 [] cd_66 k66_83 q66_83 := e_psh_iconst 83 0 0 (kE66_84)
set_option maxHeartbeats 100000 in
def k66_66 : ex_C := c_iload 3 (c_aload 1 (c_gf 3 2 (c_iload 5 (c_iaload (c_psh 2 (c_irem   (c_if_eq 83 (c_psh 1 (c_goto 84)))))))))
set_option maxHeartbeats 100000 in
theorem kE66_66 : ex_CE 1 [] cd_66 k66_66 q66_66 := e_iload_iload_n 66 0 3 3 rfl (e_aload_aload_n 67 0 1 1 rfl (e_gf 68 86210 159 3 2 rfl rfl (e_iload_iload 71 0 5 (e_iaload 73 0 (e_psh_iconst 74 2 2 (e_irem 75 0  (e_if_eq 76 83 7 (e_psh_iconst 79 1 1 (e_goto 80 84 4)))))))))
set_option maxHeartbeats 100000 in
def k66_64 : ex_C := c_psh 0 (c_ireturn  1)
set_option maxHeartbeats 100000 in
theorem kE66_64 : ex_CE 1 [] cd_66 k66_64 q66_64 := e_psh_iconst 64 0 0 (e_ireturn 65 0 )
set_option maxHeartbeats 100000 in
def k66_24 : ex_C := c_iload 5 (c_aload 1 (c_gf 3 14 (c_icmp_ge 175 (c_aload 0 (c_gf 2 3 (c_gf 4 4 (c_iload 5 (c_iaload (c_istore 6 (c_iload 6 (c_if_lt 64 (c_aload 0 (c_gf 2 3 (c_gf 4 5 (c_iload 5 (c_iaload (c_psh 1 (c_icmp_eq 66 (k66_64)))))))))))))))))))
set_option maxHeartbeats 100000 in
theorem kE66_24 : ex_CE 1 [] cd_66 k66_24 q66_24 := e_iload_iload 24 0 5 (e_aload_aload_n 26 0 1 1 rfl (e_gf 27 206 146 3 14 rfl rfl (e_icmp_ge 30 175 145 (e_aload_aload_n 33 0 0 0 rfl (e_gf 34 86147 27 2 3 rfl rfl (e_gf 37 86276 153 4 4 rfl rfl (e_iload_iload 40 0 5 (e_iaload 42 0 (e_istore_istore 43 0 6 (e_iload_iload 45 0 6 (e_if_lt 47 64 17 (e_aload_aload_n 50 0 0 0 rfl (e_gf 51 86147 27 2 3 rfl rfl (e_gf 54 86277 156 4 5 rfl rfl (e_iload_iload 57 0 5 (e_iaload 59 0 (e_psh_iconst 60 1 1 (e_icmp_eq 61 66 5 (kE66_64)))))))))))))))))))
set_option maxHeartbeats 100000 in
def k66_0 : ex_C := c_aload 2 (c_psh 0 (c_pf 3 0 14 (c_aload 1 (c_invV [] cd_66 6 1 14 3 (c_aload 0 (c_gf 2 3 (c_aload 1 (c_iload 3 (c_invV [] cd_66 15 3 78 4 (c_psh 0 (c_istore 4 (c_psh 0 (c_istore 5 (k66_24))))))))))))))
set_option maxHeartbeats 100000 in
theorem kE66_0 : ex_CE 1 [] cd_66 k66_0 q66_0 := e_aload_aload_n 0 0 2 2 rfl (e_psh_iconst 1 0 0 (e_pf 2 206 146 3 0 14 rfl rfl rfl (e_aload_aload_n 5 0 1 1 rfl (e_invV_invokevirtual 6 245857 91 1 14 3 rfl rfl rfl rfl rfl rfl (e_aload_aload_n 9 0 0 0 rfl (e_gf 10 86147 27 2 3 rfl rfl (e_aload_aload_n 13 0 1 1 rfl (e_iload_iload_n 14 0 3 3 rfl (e_invV_invokevirtual 15 770179 149 3 78 4 rfl rfl rfl rfl rfl rfl (e_psh_iconst 18 0 0 (e_istore_istore 19 0 4 (e_psh_iconst 21 0 0 (e_istore_istore 22 0 5 (kE66_24))))))))))))))
def kt_66 : Nat → Option ex_C := fun pc => @Bool.rec (fun _ => Nat → Option ex_C) (fun pc => @Bool.rec (fun _ => Nat → Option ex_C) (fun pc => @Bool.rec (fun _ => Nat → Option ex_C) (fun pc => @Bool.rec (fun _ => Nat → Option ex_C) (fun pc => @Bool.rec (fun _ => Option ex_C) none (some k66_175) (Nat.beq pc 175)) (fun pc => @Bool.rec (fun _ => Option ex_C) none (some k66_169) (Nat.beq pc 169)) (Nat.ble pc 169) pc) (fun pc => @Bool.rec (fun _ => Nat → Option ex_C) (fun pc => @Bool.rec (fun _ => Option ex_C) none (some k66_167) (Nat.beq pc 167)) (fun pc => @Bool.rec (fun _ => Option ex_C) none (some k66_136) (Nat.beq pc 136)) (Nat.ble pc 136) pc) (Nat.ble pc 167) pc) (fun pc => @Bool.rec (fun _ => Nat → Option ex_C) (fun pc => @Bool.rec (fun _ => Nat → Option ex_C) (fun pc => @Bool.rec (fun _ => Option ex_C) none (some k66_127) (Nat.beq pc 127)) (fun pc => @Bool.rec (fun _ => Option ex_C) none (some k66_106) (Nat.beq pc 106)) (Nat.ble pc 106) pc) (fun pc => @Bool.rec (fun _ => Nat → Option ex_C) (fun pc => @Bool.rec (fun _ => Option ex_C) none (some k66_104) (Nat.beq pc 104)) (fun pc => @Bool.rec (fun _ => Option ex_C) none (some k66_92) (Nat.beq pc 92)) (Nat.ble pc 92) pc) (Nat.ble pc 104) pc) (Nat.ble pc 127) pc) (fun pc => @Bool.rec (fun _ => Nat → Option ex_C) (fun pc => @Bool.rec (fun _ => Nat → Option ex_C) (fun pc => @Bool.rec (fun _ => Nat → Option ex_C) (fun pc => @Bool.rec (fun _ => Option ex_C) none (some k66_91) (Nat.beq pc 91)) (fun pc => @Bool.rec (fun _ => Option ex_C) none (some k66_84) (Nat.beq pc 84)) (Nat.ble pc 84) pc) (fun pc => @Bool.rec (fun _ => Nat → Option ex_C) (fun pc => @Bool.rec (fun _ => Option ex_C) none (some k66_83) (Nat.beq pc 83)) (fun pc => @Bool.rec (fun _ => Option ex_C) none (some k66_66) (Nat.beq pc 66)) (Nat.ble pc 66) pc) (Nat.ble pc 83) pc) (fun pc => @Bool.rec (fun _ => Nat → Option ex_C) (fun pc => @Bool.rec (fun _ => Nat → Option ex_C) (fun pc => @Bool.rec (fun _ => Option ex_C) none (some k66_64) (Nat.beq pc 64)) (fun pc => @Bool.rec (fun _ => Option ex_C) none (some k66_24) (Nat.beq pc 24)) (Nat.ble pc 24) pc) (fun pc => @Bool.rec (fun _ => Option ex_C) none (some k66_0) (Nat.beq pc 0)) (Nat.ble pc 0) pc) (Nat.ble pc 64) pc) (Nat.ble pc 91) pc
theorem ktE_66 : ex_CTT 1 [] cd_66 kt_66 cd_66 := (ex_ct2 (ex_ct2 (ex_ct2 (ex_ct1 kE66_0) (ex_ct2 (ex_ct1 kE66_24) (ex_ct1 kE66_64))) (ex_ct2 (ex_ct2 (ex_ct1 kE66_66) (ex_ct1 kE66_83)) (ex_ct2 (ex_ct1 kE66_84) (ex_ct1 kE66_91)))) (ex_ct2 (ex_ct2 (ex_ct2 (ex_ct1 kE66_92) (ex_ct1 kE66_104)) (ex_ct2 (ex_ct1 kE66_106) (ex_ct1 kE66_127))) (ex_ct2 (ex_ct2 (ex_ct1 kE66_136) (ex_ct1 kE66_167)) (ex_ct2 (ex_ct1 kE66_169) (ex_ct1 kE66_175)))))
set_option maxHeartbeats 100000 in
def k67_83 : ex_C := c_aload 1 (c_aload 2 (c_iload 3 (c_iload 4 (c_invV [] cd_67 88 4 24 3 (c_aload 0 (c_psh 98 (c_aload 1 (c_invV [] cd_67 95 1 20 3 (c_invV [] cd_67 98 3 61 2 (c_return_  15))))))))))
set_option maxHeartbeats 100000 in
theorem kE67_83 : ex_CE 15 [] cd_67 k67_83 q67_83 := e_aload_aload_n 83 0 1 1 rfl (e_aload_aload_n 84 0 2 2 rfl (e_iload_iload_n 85 0 3 3 rfl (e_iload_iload 86 0 4 (e_invV_invokevirtual 88 327780 170 4 24 3 rfl rfl rfl rfl rfl rfl (e_aload_aload_n 91 0 0 0 rfl (e_psh_bipush 92 98 98 (e_aload_aload_n 94 0 1 1 rfl (e_invV_invokevirtual 95 295009 102 1 20 3 rfl rfl rfl rfl rfl rfl (e_invV_invokevirtual 98 630851 106 3 61 2 rfl rfl rfl rfl rfl rfl (e_return_ 101 0 ))))))))))
set_option maxHeartbeats 100000 in
def k67_77 : ex_C := c_iinc 5 1 (c_goto 30)
set_option maxHeartbeats 100000 in
theorem kE67_77 : ex_CE 15 [] cd_67 k67_77 q67_77 := e_iinc 77 1 5 1 (e_goto 80 30 (-50))
set_option maxHeartbeats 100000 in
def k67_67 : ex_C := c_icmp_eq 77 (c_aload 0 (c_psh 112 (c_pf 2 2 6 (c_return_  15))))
set_option maxHeartbeats 100000 in
theorem kE67_67 : ex_CE 15 [] cd_67 k67_67 q67_67 := e_icmp_eq 67 77 10 (e_aload_aload_n 70 0 0 0 rfl (e_psh_bipush 71 112 112 (e_pf 73 8326 35 2 2 6 rfl rfl rfl (e_return_ 76 0 ))))
set_option maxHeartbeats 100000 in
def k67_66 : ex_C := c_psh 0 (k67_67)
set_option maxHeartbeats 100000 in
theorem kE67_66 : ex_CE 15 [] cd_67 k67_66 q67_66 := e_psh_iconst 66 0 0 (kE67_67)
set_option maxHeartbeats 100000 in
def k67_59 : ex_C := c_icmp_ne 66 (c_psh 1 (c_goto 67))
set_option maxHeartbeats 100000 in
theorem kE67_59 : ex_CE 15 [] cd_67 k67_59 q67_59 := e_icmp_ne 59 66 7 (e_psh_iconst 62 1 1 (e_goto 63 67 4))
set_option maxHeartbeats 100000 in
def k67_58 : ex_C := c_psh 0 (k67_59)
set_option maxHeartbeats 100000 in
theorem kE67_58 : ex_CE 15 [] cd_67 k67_58 q67_58 := e_psh_iconst 58 0 0 (kE67_59)
set_option maxHeartbeats 100000 in
def k67_30 : ex_C := c_iload 5 (c_aload 2 (c_gf 3 14 (c_icmp_ge 83 (c_iload 4 (c_iload 3 (c_aload 2 (c_gf 3 2 (c_iload 5 (c_iaload (c_psh 2 (c_irem   (c_if_eq 58 (c_psh 1 (c_goto 59))))))))))))))
set_option maxHeartbeats 100000 in
theorem kE67_30 : ex_CE 15 [] cd_67 k67_30 q67_30 := e_iload_iload 30 0 5 (e_aload_aload_n 32 0 2 2 rfl (e_gf 33 206 146 3 14 rfl rfl (e_icmp_ge 36 83 47 (e_iload_iload 39 0 4 (e_iload_iload_n 41 0 3 3 rfl (e_aload_aload_n 42 0 2 2 rfl (e_gf 43 86210 159 3 2 rfl rfl (e_iload_iload 46 0 5 (e_iaload 48 0 (e_psh_iconst 49 2 2 (e_irem 50 0  (e_if_eq 51 58 7 (e_psh_iconst 54 1 1 (e_goto 55 59 4))))))))))))))
set_option maxHeartbeats 100000 in
def k67_25 : ex_C := c_istore 4 (c_psh 0 (c_istore 5 (k67_30)))
set_option maxHeartbeats 100000 in
theorem kE67_25 : ex_CE 15 [] cd_67 k67_25 q67_25 := e_istore_istore 25 0 4 (e_psh_iconst 27 0 0 (e_istore_istore 28 0 5 (kE67_30)))
set_option maxHeartbeats 100000 in
def k67_24 : ex_C := c_psh 0 (k67_25)
set_option maxHeartbeats 100000 in
theorem kE67_24 : ex_CE 15 [] cd_67 k67_24 q67_24 := e_psh_iconst 24 0 0 (kE67_25)
set_option maxHeartbeats 100000 in
def k67_17 : ex_C := c_icmp_ne 24 (c_psh 1 (c_goto 25))
set_option maxHeartbeats 100000 in
theorem kE67_17 : ex_CE 15 [] cd_67 k67_17 q67_17 := e_icmp_ne 17 24 7 (e_psh_iconst 20 1 1 (e_goto 21 25 4))
set_option maxHeartbeats 100000 in
def k67_16 : ex_C := c_psh 0 (k67_17)
set_option maxHeartbeats 100000 in
theorem kE67_16 : ex_CE 15 [] cd_67 k67_16 q67_16 := e_psh_iconst 16 0 0 (kE67_17)
set_option maxHeartbeats 100000 in
def k67_0 : ex_C := c_iload 3 (c_aload 2 (c_gf 3 2 (c_psh 0 (c_iaload (c_psh 2 (c_irem   (c_if_eq 16 (c_psh 1 (c_goto 17)))))))))
set_option maxHeartbeats 100000 in
theorem kE67_0 : ex_CE 15 [] cd_67 k67_0 q67_0 := e_iload_iload_n 0 0 3 3 rfl (e_aload_aload_n 1 0 2 2 rfl (e_gf 2 86210 159 3 2 rfl rfl (e_psh_iconst 5 0 0 (e_iaload 6 0 (e_psh_iconst 7 2 2 (e_irem 8 0  (e_if_eq 9 16 7 (e_psh_iconst 12 1 1 (e_goto 13 17 4)))))))))
def kt_67 : Nat → Option ex_C := fun pc => @Bool.rec (fun _ => Nat → Option ex_C) (fun pc => @Bool.rec (fun _ => Nat → Option ex_C) (fun pc => @Bool.rec (fun _ => Nat → Option ex_C) (fun pc => @Bool.rec (fun _ => Nat → Option ex_C) (fun pc => @Bool.rec (fun _ => Option ex_C) none (some k67_83) (Nat.beq pc 83)) (fun pc => @Bool.rec (fun _ => Option ex_C) none (some k67_77) (Nat.beq pc 77)) (Nat.ble pc 77) pc) (fun pc => @Bool.rec (fun _ => Option ex_C) none (some k67_67) (Nat.beq pc 67)) (Nat.ble pc 67) pc) (fun pc => @Bool.rec (fun _ => Nat → Option ex_C) (fun pc => @Bool.rec (fun _ => Nat → Option ex_C) (fun pc => @Bool.rec (fun _ => Option ex_C) none (some k67_66) (Nat.beq pc 66)) (fun pc => @Bool.rec (fun _ => Option ex_C) none (some k67_59) (Nat.beq pc 59)) (Nat.ble pc 59) pc) (fun pc => @Bool.rec (fun _ => Option ex_C) none (some k67_58) (Nat.beq pc 58)) (Nat.ble pc 58) pc) (Nat.ble pc 66) pc) (fun pc => @Bool.rec (fun _ => Nat → Option ex_C) (fun pc => @Bool.rec (fun _ => Nat → Option ex_C) (fun pc => @Bool.rec (fun _ => Nat → Option ex_C) (fun pc => @Bool.rec (fun _ => Option ex_C) none (some k67_30) (Nat.beq pc 30)) (fun pc => @Bool.rec (fun _ => Option ex_C) none (some k67_25) (Nat.beq pc 25)) (Nat.ble pc 25) pc) (fun pc => @Bool.rec (fun _ => Option ex_C) none (some k67_24) (Nat.beq pc 24)) (Nat.ble pc 24) pc) (fun pc => @Bool.rec (fun _ => Nat → Option ex_C) (fun pc => @Bool.rec (fun _ => Nat → Option ex_C) (fun pc => @Bool.rec (fun _ => Option ex_C) none (some k67_17) (Nat.beq pc 17)) (fun pc => @Bool.rec (fun _ => Option ex_C) none (some k67_16) (Nat.beq pc 16)) (Nat.ble pc 16) pc) (fun pc => @Bool.rec (fun _ => Option ex_C) none (some k67_0) (Nat.beq pc 0)) (Nat.ble pc 0) pc) (Nat.ble pc 17) pc) (Nat.ble pc 30) pc
theorem ktE_67 : ex_CTT 15 [] cd_67 kt_67 cd_67 := (ex_ct2 (ex_ct2 (ex_ct2 (ex_ct1 kE67_0) (ex_ct2 (ex_ct1 kE67_16) (ex_ct1 kE67_17))) (ex_ct2 (ex_ct1 kE67_24) (ex_ct2 (ex_ct1 kE67_25) (ex_ct1 kE67_30)))) (ex_ct2 (ex_ct2 (ex_ct1 kE67_58) (ex_ct2 (ex_ct1 kE67_59) (ex_ct1 kE67_66))) (ex_ct2 (ex_ct1 kE67_67) (ex_ct2 (ex_ct1 kE67_77) (ex_ct1 kE67_83)))))
set_option maxHeartbeats 100000 in
def k68_0 : ex_C := c_aload 0 (c_oinit (c_aload 0 (c_psh 16 (c_newarr 65 0 (c_pf 4 5 0 (c_aload 0 (c_psh 16 (c_newarr 65 0 (c_pf 4 5 1 (c_aload 0 (c_psh 16 (c_newarr 64 0 (c_pf 4 5 2 (c_aload 0 (c_psh 16 (c_newarr 64 0 (c_pf 4 5 3 (c_aload 0 (c_psh 16 (c_newarr 64 0 (c_pf 4 5 4 (c_aload 0 (c_psh 16 (c_newarr 64 0 (c_pf 4 5 5 (c_aload 0 (c_psh 16 (c_newarr 65 0 (c_pf 4 5 6 (c_aload 0 (c_psh 16 (c_newarr 64 0 (c_pf 4 5 7 (c_aload 0 (c_psh 16 (c_newarr 64 0 (c_pf 4 5 8 (c_aload 0 (c_psh 2 (c_pf 4 0 9 (c_aload 0 (c_psh 0 (c_pf 4 1 10 (c_aload 0 (c_psh 0 (c_pf 4 1 11 (c_return_  15)))))))))))))))))))))))))))))))))))))))))))))))
set_option maxHeartbeats 100000 in
theorem kE68_0 : ex_CE 15 [] cd_68 k68_0 q68_0 := e_aload_aload_n 0 0 0 0 rfl (e_oinit (e_aload_aload_n 4 0 0 0 rfl (e_psh_bipush 5 16 16 (e_newarr 7 65 0 rfl (e_pf 9 86272 9 4 5 0 rfl rfl rfl (e_aload_aload_n 12 0 0 0 rfl (e_psh_bipush 13 16 16 (e_newarr 15 65 0 rfl (e_pf 17 86273 15 4 5 1 rfl rfl rfl (e_aload_aload_n 20 0 0 0 rfl (e_psh_bipush 21 16 16 (e_newarr 23 64 0 rfl (e_pf 25 86274 18 4 5 2 rfl rfl rfl (e_aload_aload_n 28 0 0 0 rfl (e_psh_bipush 29 16 16 (e_newarr 31 64 0 rfl (e_pf 33 86275 22 4 5 3 rfl rfl rfl (e_aload_aload_n 36 0 0 0 rfl (e_psh_bipush 37 16 16 (e_newarr 39 64 0 rfl (e_pf 41 86276 25 4 5 4 rfl rfl rfl (e_aload_aload_n 44 0 0 0 rfl (e_psh_bipush 45 16 16 (e_newarr 47 64 0 rfl (e_pf 49 86277 28 4 5 5 rfl rfl rfl (e_aload_aload_n 52 0 0 0 rfl (e_psh_bipush 53 16 16 (e_newarr 55 65 0 rfl (e_pf 57 86278 31 4 5 6 rfl rfl rfl (e_aload_aload_n 60 0 0 0 rfl (e_psh_bipush 61 16 16 (e_newarr 63 64 0 rfl (e_pf 65 86279 34 4 5 7 rfl rfl rfl (e_aload_aload_n 68 0 0 0 rfl (e_psh_bipush 69 16 16 (e_newarr 71 64 0 rfl (e_pf 73 86280 37 4 5 8 rfl rfl rfl (e_aload_aload_n 76 0 0 0 rfl (e_psh_iconst 77 2 2 (e_pf 78 265 40 4 0 9 rfl rfl rfl (e_aload_aload_n 81 0 0 0 rfl (e_psh_iconst 82 0 0 (e_pf 83 4362 44 4 1 10 rfl rfl rfl (e_aload_aload_n 86 0 0 0 rfl (e_psh_iconst 87 0 0 (e_pf 88 4363 48 4 1 11 rfl rfl rfl (e_return_ 91 0 )))))))))))))))))))))))))))))))))))))))))))))))
def kt_68 : Nat → Option ex_C := fun pc => @Bool.rec (fun _ => Option ex_C) none (some k68_0) (Nat.beq pc 0)
theorem ktE_68 : ex_CTT 15 [] cd_68 kt_68 cd_68 := (ex_ct1 kE68_0)
end
