noncomputable section
set_option maxHeartbeats 100000 in
def k0_0 : ex_C := c_aload 0 (c_oinit (c_aload 0 (c_psh 8 (c_newarr 64 0 (c_pf 5 5 0 (c_aload 0 (c_psh 24 (c_newarr 64 0 (c_pf 5 5 1 (c_aload 0 (c_psh 24 (c_newarr 64 0 (c_pf 5 5 2 (c_aload 0 (c_psh 24 (c_newarr 64 0 (c_pf 5 5 3 (c_aload 0 (c_psh 24 (c_psh 8 (c_multianewarray 22 2  (c_pf 5 5 4 (c_aload 0 (c_psh 24 (c_psh 8 (c_multianewarray 22 2  (c_pf 5 5 5 (c_aload 0 (c_psh 24 (c_psh 8 (c_multianewarray 22 2  (c_pf 5 5 6 (c_return_  15)))))))))))))))))))))))))))))))))
set_option maxHeartbeats 100000 in
theorem kE0_0 : ex_CE 15 [] cd_0 k0_0 q0_0 := e_aload_aload_n 0 0 0 0 rfl (e_oinit (e_aload_aload_n 4 0 0 0 rfl (e_psh_bipush 5 8 8 (e_newarr 7 64 0 rfl (e_pf 9 86336 9 5 5 0 rfl rfl rfl (e_aload_aload_n 12 0 0 0 rfl (e_psh_bipush 13 24 24 (e_newarr 15 64 0 rfl (e_pf 17 86337 13 5 5 1 rfl rfl rfl (e_aload_aload_n 20 0 0 0 rfl (e_psh_bipush 21 24 24 (e_newarr 23 64 0 rfl (e_pf 25 86338 16 5 5 2 rfl rfl rfl (e_aload_aload_n 28 0 0 0 rfl (e_psh_bipush 29 24 24 (e_newarr 31 64 0 rfl (e_pf 33 86339 19 5 5 3 rfl rfl rfl (e_aload_aload_n 36 0 0 0 rfl (e_psh_bipush 37 24 24 (e_psh_bipush 39 8 8 (e_multianewarray 41 71 22 2 (e_pf 45 86340 24 5 5 4 rfl rfl rfl (e_aload_aload_n 48 0 0 0 rfl (e_psh_bipush 49 24 24 (e_psh_bipush 51 8 8 (e_multianewarray 53 71 22 2 (e_pf 57 86341 27 5 5 5 rfl rfl rfl (e_aload_aload_n 60 0 0 0 rfl (e_psh_bipush 61 24 24 (e_psh_bipush 63 8 8 (e_multianewarray 65 71 22 2 (e_pf 69 86342 30 5 5 6 rfl rfl rfl (e_return_ 72 0 )))))))))))))))))))))))))))))))))
def kt_0 : Nat → Option ex_C := fun pc => @Bool.rec (fun _ => Option ex_C) none (some k0_0) (Nat.beq pc 0)
theorem ktE_0 : ex_CTT 15 [] cd_0 kt_0 cd_0 := (ex_ct1 kE0_0)
set_option maxHeartbeats 100000 in
def k1_47 : ex_C := c_psh 4294967295 (c_ireturn  0)
set_option maxHeartbeats 100000 in
theorem kE1_47 : ex_CE 0 [] cd_1 k1_47 q1_47 := e_psh_iconst 47 4294967295 (-1) (e_ireturn 48 0 )
set_option maxHeartbeats 100000 in
def k1_41 : ex_C := c_iinc 4 1 (c_goto 7)
set_option maxHeartbeats 100000 in
theorem kE1_41 : ex_CE 0 [] cd_1 k1_41 q1_41 := e_iinc 41 1 4 1 (e_goto 44 7 (-37))
set_option maxHeartbeats 100000 in
def k1_7 : ex_C := c_iload 4 (c_iload 3 (c_aload 0 (c_gf 5 0 (c_iload 1 (c_iaload (c_iadd (c_icmp_ge 47 (c_iload 4 (c_psh 24 (c_icmp_ge 47 (c_aload 0 (c_gf 5 1 (c_iload 4 (c_iaload (c_iload 2 (c_icmp_ne 41 (c_iload 4 (c_ireturn  0))))))))))))))))))
set_option maxHeartbeats 100000 in
theorem kE1_7 : ex_CE 0 [] cd_1 k1_7 q1_7 := e_iload_iload 7 0 4 (e_iload_iload_n 9 0 3 3 rfl (e_aload_aload_n 10 0 0 0 rfl (e_gf 11 86336 9 5 0 rfl rfl (e_iload_iload_n 14 0 1 1 rfl (e_iaload 15 0 (e_iadd 16 0 (e_icmp_ge 17 47 30 (e_iload_iload 20 0 4 (e_psh_bipush 22 24 24 (e_icmp_ge 24 47 23 (e_aload_aload_n 27 0 0 0 rfl (e_gf 28 86337 13 5 1 rfl rfl (e_iload_iload 31 0 4 (e_iaload 33 0 (e_iload_iload_n 34 0 2 2 rfl (e_icmp_ne 35 41 6 (e_iload_iload 38 0 4 (e_ireturn 40 0 ))))))))))))))))))
set_option maxHeartbeats 100000 in
def k1_0 : ex_C := c_iload 1 (c_psh 3 (c_imul (c_istore 3 (c_iload 3 (c_istore 4 (k1_7))))))
set_option maxHeartbeats 100000 in
theorem kE1_0 : ex_CE 0 [] cd_1 k1_0 q1_0 := e_iload_iload_n 0 0 1 1 rfl (e_psh_iconst 1 3 3 (e_imul 2 0 (e_istore_istore_n 3 0 3 3 rfl (e_iload_iload_n 4 0 3 3 rfl (e_istore_istore 5 0 4 (kE1_7))))))
def kt_1 : Nat → Option ex_C := fun pc => @Bool.rec (fun _ => Nat → Option ex_C) (fun pc => @Bool.rec (fun _ => Nat → Option ex_C) (fun pc => @Bool.rec (fun _ => Option ex_C) none (some k1_47) (Nat.beq pc 47)) (fun pc => @Bool.rec (fun _ => Option ex_C) none (some k1_41) (Nat.beq pc 41)) (Nat.ble pc 41) pc) (fun pc => @Bool.rec (fun _ => Nat → Option ex_C) (fun pc => @Bool.rec (fun _ => Option ex_C) none (some k1_7) (Nat.beq pc 7)) (fun pc => @Bool.rec (fun _ => Option ex_C) none (some k1_0) (Nat.beq pc 0)) (Nat.ble pc 0) pc) (Nat.ble pc 7) pc
theorem ktE_1 : ex_CTT 0 [] cd_1 kt_1 cd_1 := (ex_ct2 (ex_ct2 (ex_ct1 kE1_0) (ex_ct1 kE1_7)) (ex_ct2 (ex_ct1 kE1_41) (ex_ct1 kE1_47)))
set_option maxHeartbeats 100000 in
def k2_73 : ex_C := c_iload 4 (c_ireturn  0)
set_option maxHeartbeats 100000 in
theorem kE2_73 : ex_CE 0 [] cd_2 k2_73 q2_73 := e_iload_iload 73 0 4 (e_ireturn 75 0 )
set_option maxHeartbeats 100000 in
def k2_67 : ex_C := c_iinc 5 1 (c_goto 10)
set_option maxHeartbeats 100000 in
theorem kE2_67 : ex_CE 0 [] cd_2 k2_67 q2_67 := e_iinc 67 1 5 1 (e_goto 70 10 (-60))
set_option maxHeartbeats 100000 in
def k2_63 : ex_C := c_iload 5 (c_istore 4 (k2_67))
set_option maxHeartbeats 100000 in
theorem kE2_63 : ex_CE 0 [] cd_2 k2_63 q2_63 := e_iload_iload 63 0 5 (e_istore_istore 65 0 4 (kE2_67))
set_option maxHeartbeats 100000 in
def k2_10 : ex_C := c_iload 5 (c_iload 3 (c_aload 0 (c_gf 5 0 (c_iload 1 (c_iaload (c_iadd (c_icmp_ge 73 (c_iload 5 (c_psh 24 (c_icmp_ge 73 (c_aload 0 (c_gf 5 1 (c_iload 5 (c_iaload (c_iload 2 (c_icmp_gt 67 (c_iload 4 (c_if_lt 63 (c_aload 0 (c_gf 5 1 (c_iload 5 (c_iaload (c_aload 0 (c_gf 5 1 (c_iload 4 (c_iaload (c_icmp_le 67 (k2_63))))))))))))))))))))))))))))
set_option maxHeartbeats 100000 in
theorem kE2_10 : ex_CE 0 [] cd_2 k2_10 q2_10 := e_iload_iload 10 0 5 (e_iload_iload_n 12 0 3 3 rfl (e_aload_aload_n 13 0 0 0 rfl (e_gf 14 86336 9 5 0 rfl rfl (e_iload_iload_n 17 0 1 1 rfl (e_iaload 18 0 (e_iadd 19 0 (e_icmp_ge 20 73 53 (e_iload_iload 23 0 5 (e_psh_bipush 25 24 24 (e_icmp_ge 27 73 46 (e_aload_aload_n 30 0 0 0 rfl (e_gf 31 86337 13 5 1 rfl rfl (e_iload_iload 34 0 5 (e_iaload 36 0 (e_iload_iload_n 37 0 2 2 rfl (e_icmp_gt 38 67 29 (e_iload_iload 41 0 4 (e_if_lt 43 63 20 (e_aload_aload_n 46 0 0 0 rfl (e_gf 47 86337 13 5 1 rfl rfl (e_iload_iload 50 0 5 (e_iaload 52 0 (e_aload_aload_n 53 0 0 0 rfl (e_gf 54 86337 13 5 1 rfl rfl (e_iload_iload 57 0 4 (e_iaload 59 0 (e_icmp_le 60 67 7 (kE2_63))))))))))))))))))))))))))))
set_option maxHeartbeats 100000 in
def k2_0 : ex_C := c_iload 1 (c_psh 3 (c_imul (c_istore 3 (c_psh 4294967295 (c_istore 4 (c_iload 3 (c_istore 5 (k2_10))))))))
set_option maxHeartbeats 100000 in
theorem kE2_0 : ex_CE 0 [] cd_2 k2_0 q2_0 := e_iload_iload_n 0 0 1 1 rfl (e_psh_iconst 1 3 3 (e_imul 2 0 (e_istore_istore_n 3 0 3 3 rfl (e_psh_iconst 4 4294967295 (-1) (e_istore_istore 5 0 4 (e_iload_iload_n 7 0 3 3 rfl (e_istore_istore 8 0 5 (kE2_10))))))))
def kt_2 : Nat → Option ex_C := fun pc => @Bool.rec (fun _ => Nat → Option ex_C) (fun pc => @Bool.rec (fun _ => Nat → Option ex_C) (fun pc => @Bool.rec (fun _ => Nat → Option ex_C) (fun pc => @Bool.rec (fun _ => Option ex_C) none (some k2_73) (Nat.beq pc 73)) (fun pc => @Bool.rec (fun _ => Option ex_C) none (some k2_67) (Nat.beq pc 67)) (Nat.ble pc 67) pc) (fun pc => @Bool.rec (fun _ => Option ex_C) none (some k2_63) (Nat.beq pc 63)) (Nat.ble pc 63) pc) (fun pc => @Bool.rec (fun _ => Nat → Option ex_C) (fun pc => @Bool.rec (fun _ => Option ex_C) none (some k2_10) (Nat.beq pc 10)) (fun pc => @Bool.rec (fun _ => Option ex_C) none (some k2_0) (Nat.beq pc 0)) (Nat.ble pc 0) pc) (Nat.ble pc 10) pc
theorem ktE_2 : ex_CTT 0 [] cd_2 kt_2 cd_2 := (ex_ct2 (ex_ct2 (ex_ct1 kE2_0) (ex_ct1 kE2_10)) (ex_ct2 (ex_ct1 kE2_63) (ex_ct2 (ex_ct1 kE2_67) (ex_ct1 kE2_73))))
set_option maxHeartbeats 100000 in
def k3_45 : ex_C := c_ireturn  1
set_option maxHeartbeats 100000 in
theorem kE3_45 : ex_CE 1 [] cd_3 k3_45 q3_45 := e_ireturn 45 0 
set_option maxHeartbeats 100000 in
def k3_44 : ex_C := c_psh 0 (k3_45)
set_option maxHeartbeats 100000 in
theorem kE3_44 : ex_CE 1 [] cd_3 k3_44 q3_44 := e_psh_iconst 44 0 0 (kE3_45)
set_option maxHeartbeats 100000 in
def k3_29 : ex_C := c_aload 0 (c_gf 5 2 (c_iload 3 (c_iaload (c_psh 8 (c_icmp_ge 44 (c_psh 1 (c_goto 45)))))))
set_option maxHeartbeats 100000 in
theorem kE3_29 : ex_CE 1 [] cd_3 k3_29 q3_29 := e_aload_aload_n 29 0 0 0 rfl (e_gf 30 86338 16 5 2 rfl rfl (e_iload_iload_n 33 0 3 3 rfl (e_iaload 34 0 (e_psh_bipush 35 8 8 (e_icmp_ge 37 44 7 (e_psh_iconst 40 1 1 (e_goto 41 45 4)))))))
set_option maxHeartbeats 100000 in
def k3_25 : ex_C := c_psh 0 (c_goto 45)
set_option maxHeartbeats 100000 in
theorem kE3_25 : ex_CE 1 [] cd_3 k3_25 q3_25 := e_psh_iconst 25 0 0 (e_goto 26 45 19)
set_option maxHeartbeats 100000 in
def k3_6 : ex_C := c_istore 3 (c_iload 3 (c_if_ge 29 (c_aload 0 (c_gf 5 0 (c_iload 1 (c_iaload (c_psh 3 (c_icmp_ge 25 (c_psh 1 (c_goto 45))))))))))
set_option maxHeartbeats 100000 in
theorem kE3_6 : ex_CE 1 [] cd_3 k3_6 q3_6 := e_istore_istore_n 6 0 3 3 rfl (e_iload_iload_n 7 0 3 3 rfl (e_if_ge 8 29 21 (e_aload_aload_n 11 0 0 0 rfl (e_gf 12 86336 9 5 0 rfl rfl (e_iload_iload_n 15 0 1 1 rfl (e_iaload 16 0 (e_psh_iconst 17 3 3 (e_icmp_ge 18 25 7 (e_psh_iconst 21 1 1 (e_goto 22 45 23))))))))))
set_option maxHeartbeats 100000 in
def k3_0 : ex_C := c_aload 0 (c_iload 1 (c_iload 2 (c_invV [] cd_3 3 3 1 5 (k3_6))))
set_option maxHeartbeats 100000 in
theorem kE3_0 : ex_CE 1 [] cd_3 k3_0 q3_0 := e_aload_aload_n 0 0 0 0 rfl (e_iload_iload_n 1 0 1 1 rfl (e_iload_iload_n 2 0 2 2 rfl (e_invV_invokevirtual 3 139427 33 3 1 5 rfl rfl rfl rfl rfl rfl (kE3_6))))
def kt_3 : Nat → Option ex_C := fun pc => @Bool.rec (fun _ => Nat → Option ex_C) (fun pc => @Bool.rec (fun _ => Nat → Option ex_C) (fun pc => @Bool.rec (fun _ => Nat → Option ex_C) (fun pc => @Bool.rec (fun _ => Option ex_C) none (some k3_45) (Nat.beq pc 45)) (fun pc => @Bool.rec (fun _ => Option ex_C) none (some k3_44) (Nat.beq pc 44)) (Nat.ble pc 44) pc) (fun pc => @Bool.rec (fun _ => Option ex_C) none (some k3_29) (Nat.beq pc 29)) (Nat.ble pc 29) pc) (fun pc => @Bool.rec (fun _ => Nat → Option ex_C) (fun pc => @Bool.rec (fun _ => Nat → Option ex_C) (fun pc => @Bool.rec (fun _ => Option ex_C) none (some k3_25) (Nat.beq pc 25)) (fun pc => @Bool.rec (fun _ => Option ex_C) none (some k3_6) (Nat.beq pc 6)) (Nat.ble pc 6) pc) (fun pc => @Bool.rec (fun _ => Option ex_C) none (some k3_0) (Nat.beq pc 0)) (Nat.ble pc 0) pc) (Nat.ble pc 25) pc
theorem ktE_3 : ex_CTT 1 [] cd_3 kt_3 cd_3 := (ex_ct2 (ex_ct2 (ex_ct1 kE3_0) (ex_ct2 (ex_ct1 kE3_6) (ex_ct1 kE3_25))) (ex_ct2 (ex_ct1 kE3_29) (ex_ct2 (ex_ct1 kE3_44) (ex_ct1 kE3_45))))
set_option maxHeartbeats 100000 in
def k4_59 : ex_C := c_aload 0 (c_gf 5 2 (c_iload 6 (c_iaload (c_istore 7 (c_aload 0 (c_gf 5 4 (c_iload 6 (c_aaload   (c_iload 7 (c_iload 3 (c_iastore (c_aload 0 (c_gf 5 5 (c_iload 6 (c_aaload   (c_iload 7 (c_iload 4 (c_iastore (c_aload 0 (c_gf 5 6 (c_iload 6 (c_aaload   (c_iload 7 (c_iload 5 (c_iastore (c_aload 0 (c_gf 5 2 (c_iload 6 (c_dup2   (c_iaload (c_psh 1 (c_iadd (c_iastore (c_aload 0 (c_gf 5 2 (c_iload 6 (c_iaload (c_ireturn  0))))))))))))))))))))))))))))))))))))))
set_option maxHeartbeats 100000 in
theorem kE4_59 : ex_CE 0 [] cd_4 k4_59 q4_59 := e_aload_aload_n 59 0 0 0 rfl (e_gf 60 86338 16 5 2 rfl rfl (e_iload_iload 63 0 6 (e_iaload 65 0 (e_istore_istore 66 0 7 (e_aload_aload_n 68 0 0 0 rfl (e_gf 69 86340 24 5 4 rfl rfl (e_iload_iload 72 0 6 (e_aaload 74 0  (e_iload_iload 75 0 7 (e_iload_iload_n 77 0 3 3 rfl (e_iastore 78 0 (e_aload_aload_n 79 0 0 0 rfl (e_gf 80 86341 27 5 5 rfl rfl (e_iload_iload 83 0 6 (e_aaload 85 0  (e_iload_iload 86 0 7 (e_iload_iload 88 0 4 (e_iastore 90 0 (e_aload_aload_n 91 0 0 0 rfl (e_gf 92 86342 30 5 6 rfl rfl (e_iload_iload 95 0 6 (e_aaload 97 0  (e_iload_iload 98 0 7 (e_iload_iload 100 0 5 (e_iastore 102 0 (e_aload_aload_n 103 0 0 0 rfl (e_gf 104 86338 16 5 2 rfl rfl (e_iload_iload 107 0 6 (e_dup2 109 0  (e_iaload 110 0 (e_psh_iconst 111 1 1 (e_iadd 112 0 (e_iastore 113 0 (e_aload_aload_n 114 0 0 0 rfl (e_gf 115 86338 16 5 2 rfl rfl (e_iload_iload 118 0 6 (e_iaload 120 0 (e_ireturn 121 0 ))))))))))))))))))))))))))))))))))))))
set_option maxHeartbeats 100000 in
def k4_6 : ex_C := c_istore 6 (c_iload 6 (c_if_ge 59 (c_iload 1 (c_psh 3 (c_imul (c_aload 0 (c_gf 5 0 (c_iload 1 (c_iaload (c_iadd (c_istore 6 (c_aload 0 (c_gf 5 0 (c_iload 1 (c_dup2   (c_iaload (c_psh 1 (c_iadd (c_iastore (c_aload 0 (c_gf 5 1 (c_iload 6 (c_iload 2 (c_iastore (c_aload 0 (c_gf 5 2 (c_iload 6 (c_psh 0 (c_iastore (c_aload 0 (c_gf 5 3 (c_iload 6 (c_psh 0 (c_iastore (k4_59)))))))))))))))))))))))))))))))))))
set_option maxHeartbeats 100000 in
theorem kE4_6 : ex_CE 0 [] cd_4 k4_6 q4_6 := e_istore_istore 6 0 6 (e_iload_iload 8 0 6 (e_if_ge 10 59 49 (e_iload_iload_n 13 0 1 1 rfl (e_psh_iconst 14 3 3 (e_imul 15 0 (e_aload_aload_n 16 0 0 0 rfl (e_gf 17 86336 9 5 0 rfl rfl (e_iload_iload_n 20 0 1 1 rfl (e_iaload 21 0 (e_iadd 22 0 (e_istore_istore 23 0 6 (e_aload_aload_n 25 0 0 0 rfl (e_gf 26 86336 9 5 0 rfl rfl (e_iload_iload_n 29 0 1 1 rfl (e_dup2 30 0  (e_iaload 31 0 (e_psh_iconst 32 1 1 (e_iadd 33 0 (e_iastore 34 0 (e_aload_aload_n 35 0 0 0 rfl (e_gf 36 86337 13 5 1 rfl rfl (e_iload_iload 39 0 6 (e_iload_iload_n 41 0 2 2 rfl (e_iastore 42 0 (e_aload_aload_n 43 0 0 0 rfl (e_gf 44 86338 16 5 2 rfl rfl (e_iload_iload 47 0 6 (e_psh_iconst 49 0 0 (e_iastore 50 0 (e_aload_aload_n 51 0 0 0 rfl (e_gf 52 86339 19 5 3 rfl rfl (e_iload_iload 55 0 6 (e_psh_iconst 57 0 0 (e_iastore 58 0 (kE4_59)))))))))))))))))))))))))))))))))))
set_option maxHeartbeats 100000 in
def k4_0 : ex_C := c_aload 0 (c_iload 1 (c_iload 2 (c_invV [] cd_4 3 3 1 5 (k4_6))))
set_option maxHeartbeats 100000 in
theorem kE4_0 : ex_CE 0 [] cd_4 k4_0 q4_0 := e_aload_aload_n 0 0 0 0 rfl (e_iload_iload_n 1 0 1 1 rfl (e_iload_iload_n 2 0 2 2 rfl (e_invV_invokevirtual 3 139427 33 3 1 5 rfl rfl rfl rfl rfl rfl (kE4_6))))
def kt_4 : Nat → Option ex_C := fun pc => @Bool.rec (fun _ => Nat → Option ex_C) (fun pc => @Bool.rec (fun _ => Nat → Option ex_C) (fun pc => @Bool.rec (fun _ => Option ex_C) none (some k4_59) (Nat.beq pc 59)) (fun pc => @Bool.rec (fun _ => Option ex_C) none (some k4_6) (Nat.beq pc 6)) (Nat.ble pc 6) pc) (fun pc => @Bool.rec (fun _ => Option ex_C) none (some k4_0) (Nat.beq pc 0)) (Nat.ble pc 0) pc
theorem ktE_4 : ex_CTT 0 [] cd_4 kt_4 cd_4 := (ex_ct2 (ex_ct1 kE4_0) (ex_ct2 (ex_ct1 kE4_6) (ex_ct1 kE4_59)))
set_option maxHeartbeats 100000 in
def k5_0 : ex_C := c_aload 0 (c_oinit (c_aload 0 (c_psh 16 (c_newarr 64 0 (c_pf 3 5 0 (c_aload 0 (c_psh 16 (c_newarr 64 0 (c_pf 3 5 1 (c_aload 0 (c_psh 16 (c_newarr 64 0 (c_pf 3 5 2 (c_aload 0 (c_psh 16 (c_newarr 64 0 (c_pf 3 5 3 (c_aload 0 (c_psh 16 (c_newarr 64 0 (c_pf 3 5 4 (c_aload 0 (c_psh 16 (c_newarr 64 0 (c_pf 3 5 5 (c_aload 0 (c_psh 16 (c_newarr 64 0 (c_pf 3 5 6 (c_aload 0 (c_psh 16 (c_newarr 64 0 (c_pf 3 5 7 (c_aload 0 (c_psh 16 (c_newarr 64 0 (c_pf 3 5 8 (c_aload 0 (c_psh 16 (c_newarr 64 0 (c_pf 3 5 9 (c_aload 0 (c_psh 16 (c_newarr 64 0 (c_pf 3 5 10 (c_aload 0 (c_psh 16 (c_newarr 64 0 (c_pf 3 5 11 (c_aload 0 (c_psh 16 (c_newarr 64 0 (c_pf 3 5 12 (c_aload 0 (c_psh 16 (c_newarr 65 0 (c_pf 3 5 13 (c_aload 0 (c_psh 0 (c_pf 3 0 14 (c_aload 0 (c_psh 1 (c_pf 3 1 15 (c_return_  15))))))))))))))))))))))))))))))))))))))))))))))))))))))))))))))))
set_option maxHeartbeats 100000 in
theorem kE5_0 : ex_CE 15 [] cd_5 k5_0 q5_0 := e_aload_aload_n 0 0 0 0 rfl (e_oinit (e_aload_aload_n 4 0 0 0 rfl (e_psh_bipush 5 16 16 (e_newarr 7 64 0 rfl (e_pf 9 86208 9 3 5 0 rfl rfl rfl (e_aload_aload_n 12 0 0 0 rfl (e_psh_bipush 13 16 16 (e_newarr 15 64 0 rfl (e_pf 17 86209 15 3 5 1 rfl rfl rfl (e_aload_aload_n 20 0 0 0 rfl (e_psh_bipush 21 16 16 (e_newarr 23 64 0 rfl (e_pf 25 86210 18 3 5 2 rfl rfl rfl (e_aload_aload_n 28 0 0 0 rfl (e_psh_bipush 29 16 16 (e_newarr 31 64 0 rfl (e_pf 33 86211 21 3 5 3 rfl rfl rfl (e_aload_aload_n 36 0 0 0 rfl (e_psh_bipush 37 16 16 (e_newarr 39 64 0 rfl (e_pf 41 86212 24 3 5 4 rfl rfl rfl (e_aload_aload_n 44 0 0 0 rfl (e_psh_bipush 45 16 16 (e_newarr 47 64 0 rfl (e_pf 49 86213 27 3 5 5 rfl rfl rfl (e_aload_aload_n 52 0 0 0 rfl (e_psh_bipush 53 16 16 (e_newarr 55 64 0 rfl (e_pf 57 86214 30 3 5 6 rfl rfl rfl (e_aload_aload_n 60 0 0 0 rfl (e_psh_bipush 61 16 16 (e_newarr 63 64 0 rfl (e_pf 65 86215 33 3 5 7 rfl rfl rfl (e_aload_aload_n 68 0 0 0 rfl (e_psh_bipush 69 16 16 (e_newarr 71 64 0 rfl (e_pf 73 86216 36 3 5 8 rfl rfl rfl (e_aload_aload_n 76 0 0 0 rfl (e_psh_bipush 77 16 16 (e_newarr 79 64 0 rfl (e_pf 81 86217 39 3 5 9 rfl rfl rfl (e_aload_aload_n 84 0 0 0 rfl (e_psh_bipush 85 16 16 (e_newarr 87 64 0 rfl (e_pf 89 86218 42 3 5 10 rfl rfl rfl (e_aload_aload_n 92 0 0 0 rfl (e_psh_bipush 93 16 16 (e_newarr 95 64 0 rfl (e_pf 97 86219 45 3 5 11 rfl rfl rfl (e_aload_aload_n 100 0 0 0 rfl (e_psh_bipush 101 16 16 (e_newarr 103 64 0 rfl (e_pf 105 86220 48 3 5 12 rfl rfl rfl (e_aload_aload_n 108 0 0 0 rfl (e_psh_bipush 109 16 16 (e_newarr 111 65 0 rfl (e_pf 113 86221 51 3 5 13 rfl rfl rfl (e_aload_aload_n 116 0 0 0 rfl (e_psh_iconst 117 0 0 (e_pf 118 206 55 3 0 14 rfl rfl rfl (e_aload_aload_n 121 0 0 0 rfl (e_psh_iconst 122 1 1 (e_pf 123 4303 59 3 1 15 rfl rfl rfl (e_return_ 126 0 ))))))))))))))))))))))))))))))))))))))))))))))))))))))))))))))))
def kt_5 : Nat → Option ex_C := fun pc => @Bool.rec (fun _ => Option ex_C) none (some k5_0) (Nat.beq pc 0)
theorem ktE_5 : ex_CTT 15 [] cd_5 kt_5 cd_5 := (ex_ct1 kE5_0)
set_option maxHeartbeats 100000 in
def k6_17 : ex_C := c_aload 0 (c_gf 3 0 (c_aload 0 (c_gf 3 14 (c_iload 1 (c_iastore (c_aload 0 (c_gf 3 1 (c_aload 0 (c_gf 3 14 (c_iload 2 (c_iastore (c_aload 0 (c_gf 3 2 (c_aload 0 (c_gf 3 14 (c_iload 3 (c_psh 3 (c_iand (c_iastore (c_aload 0 (c_gf 3 3 (c_aload 0 (c_gf 3 14 (c_iload 4 (c_iastore (c_aload 0 (c_gf 3 4 (c_aload 0 (c_gf 3 14 (c_iload 5 (c_iastore (c_aload 0 (c_gf 3 5 (c_aload 0 (c_gf 3 14 (c_iload 6 (c_iastore (c_aload 0 (c_gf 3 8 (c_aload 0 (c_gf 3 14 (c_psh 0 (c_iastore (c_aload 0 (c_gf 3 9 (c_aload 0 (c_gf 3 14 (c_psh 0 (c_iastore (c_aload 0 (c_gf 3 10 (c_aload 0 (c_gf 3 14 (c_psh 0 (c_iastore (c_aload 0 (c_dup   (c_gf 3 14 (c_psh 1 (c_iadd (c_pf 3 0 14 (c_return_  15))))))))))))))))))))))))))))))))))))))))))))))))))))))))))))))
set_option maxHeartbeats 100000 in
theorem kE6_17 : ex_CE 15 [] cd_6 k6_17 q6_17 := e_aload_aload_n 17 0 0 0 rfl (e_gf 18 86208 9 3 0 rfl rfl (e_aload_aload_n 21 0 0 0 rfl (e_gf 22 206 55 3 14 rfl rfl (e_iload_iload_n 25 0 1 1 rfl (e_iastore 26 0 (e_aload_aload_n 27 0 0 0 rfl (e_gf 28 86209 15 3 1 rfl rfl (e_aload_aload_n 31 0 0 0 rfl (e_gf 32 206 55 3 14 rfl rfl (e_iload_iload_n 35 0 2 2 rfl (e_iastore 36 0 (e_aload_aload_n 37 0 0 0 rfl (e_gf 38 86210 18 3 2 rfl rfl (e_aload_aload_n 41 0 0 0 rfl (e_gf 42 206 55 3 14 rfl rfl (e_iload_iload_n 45 0 3 3 rfl (e_psh_iconst 46 3 3 (e_iand 47 0 (e_iastore 48 0 (e_aload_aload_n 49 0 0 0 rfl (e_gf 50 86211 21 3 3 rfl rfl (e_aload_aload_n 53 0 0 0 rfl (e_gf 54 206 55 3 14 rfl rfl (e_iload_iload 57 0 4 (e_iastore 59 0 (e_aload_aload_n 60 0 0 0 rfl (e_gf 61 86212 24 3 4 rfl rfl (e_aload_aload_n 64 0 0 0 rfl (e_gf 65 206 55 3 14 rfl rfl (e_iload_iload 68 0 5 (e_iastore 70 0 (e_aload_aload_n 71 0 0 0 rfl (e_gf 72 86213 27 3 5 rfl rfl (e_aload_aload_n 75 0 0 0 rfl (e_gf 76 206 55 3 14 rfl rfl (e_iload_iload 79 0 6 (e_iastore 81 0 (e_aload_aload_n 82 0 0 0 rfl (e_gf 83 86216 36 3 8 rfl rfl (e_aload_aload_n 86 0 0 0 rfl (e_gf 87 206 55 3 14 rfl rfl (e_psh_iconst 90 0 0 (e_iastore 91 0 (e_aload_aload_n 92 0 0 0 rfl (e_gf 93 86217 39 3 9 rfl rfl (e_aload_aload_n 96 0 0 0 rfl (e_gf 97 206 55 3 14 rfl rfl (e_psh_iconst 100 0 0 (e_iastore 101 0 (e_aload_aload_n 102 0 0 0 rfl (e_gf 103 86218 42 3 10 rfl rfl (e_aload_aload_n 106 0 0 0 rfl (e_gf 107 206 55 3 14 rfl rfl (e_psh_iconst 110 0 0 (e_iastore 111 0 (e_aload_aload_n 112 0 0 0 rfl (e_dup 113 0  (e_gf 114 206 55 3 14 rfl rfl (e_psh_iconst 117 1 1 (e_iadd 118 0 (e_pf 119 206 55 3 0 14 rfl rfl rfl (e_return_ 122 0 ))))))))))))))))))))))))))))))))))))))))))))))))))))))))))))))
set_option maxHeartbeats 100000 in
def k6_16 : ex_C := c_return_  15
set_option maxHeartbeats 100000 in
theorem kE6_16 : ex_CE 15 [] cd_6 k6_16 q6_16 := e_return_ 16 0 
set_option maxHeartbeats 100000 in
def k6_0 : ex_C := c_aload 0 (c_gf 3 14 (c_if_lt 16 (c_aload 0 (c_gf 3 14 (c_psh 16 (c_icmp_lt 17 (k6_16)))))))
set_option maxHeartbeats 100000 in
theorem kE6_0 : ex_CE 15 [] cd_6 k6_0 q6_0 := e_aload_aload_n 0 0 0 0 rfl (e_gf 1 206 55 3 14 rfl rfl (e_if_lt 4 16 12 (e_aload_aload_n 7 0 0 0 rfl (e_gf 8 206 55 3 14 rfl rfl (e_psh_bipush 11 16 16 (e_icmp_lt 13 17 4 (kE6_16)))))))
def kt_6 : Nat → Option ex_C := fun pc => @Bool.rec (fun _ => Nat → Option ex_C) (fun pc => @Bool.rec (fun _ => Nat → Option ex_C) (fun pc => @Bool.rec (fun _ => Option ex_C) none (some k6_17) (Nat.beq pc 17)) (fun pc => @Bool.rec (fun _ => Option ex_C) none (some k6_16) (Nat.beq pc 16)) (Nat.ble pc 16) pc) (fun pc => @Bool.rec (fun _ => Option ex_C) none (some k6_0) (Nat.beq pc 0)) (Nat.ble pc 0) pc
theorem ktE_6 : ex_CTT 15 [] cd_6 kt_6 cd_6 := (ex_ct2 (ex_ct1 kE6_0) (ex_ct2 (ex_ct1 kE6_16) (ex_ct1 kE6_17)))
set_option maxHeartbeats 100000 in
def k7_86 : ex_C := c_return_  15
set_option maxHeartbeats 100000 in
theorem kE7_86 : ex_CE 15 [] cd_7 k7_86 q7_86 := e_return_ 86 0 
set_option maxHeartbeats 100000 in
def k7_80 : ex_C := c_iinc 3 1 (c_goto 7)
set_option maxHeartbeats 100000 in
theorem kE7_80 : ex_CE 15 [] cd_7 k7_80 q7_80 := e_iinc 80 1 3 1 (e_goto 83 7 (-76))
set_option maxHeartbeats 100000 in
def k7_49 : ex_C := c_ior   (c_istore 4 (c_aload 0 (c_aload 1 (c_gf 1 0 (c_iload 3 (c_iaload (c_aload 1 (c_gf 1 1 (c_iload 3 (c_iaload (c_aload 1 (c_gf 1 2 (c_iload 3 (c_iaload (c_iload 3 (c_aload 2 (c_iload 3 (c_iaload (c_iload 4 (c_invV [] cd_7 77 7 6 3 (k7_80)))))))))))))))))))))
set_option maxHeartbeats 100000 in
theorem kE7_49 : ex_CE 15 [] cd_7 k7_49 q7_49 := e_ior 49 0  (e_istore_istore 50 0 4 (e_aload_aload_n 52 0 0 0 rfl (e_aload_aload_n 53 0 1 1 rfl (e_gf 54 86080 67 1 0 rfl rfl (e_iload_iload_n 57 0 3 3 rfl (e_iaload 58 0 (e_aload_aload_n 59 0 1 1 rfl (e_gf 60 86081 70 1 1 rfl rfl (e_iload_iload_n 63 0 3 3 rfl (e_iaload 64 0 (e_aload_aload_n 65 0 1 1 rfl (e_gf 66 86082 71 1 2 rfl rfl (e_iload_iload_n 69 0 3 3 rfl (e_iaload 70 0 (e_iload_iload_n 71 0 3 3 rfl (e_aload_aload_n 72 0 2 2 rfl (e_iload_iload_n 73 0 3 3 rfl (e_iaload 74 0 (e_iload_iload 75 0 4 (e_invV_invokevirtual 77 180327 72 7 6 3 rfl rfl rfl rfl rfl rfl (kE7_80)))))))))))))))))))))
set_option maxHeartbeats 100000 in
def k7_46 : ex_C := c_invS [] cd_7 46 1 11 (k7_49)
set_option maxHeartbeats 100000 in
theorem kE7_46 : ex_CE 15 [] cd_7 k7_46 q7_46 := e_invS 46 229345 63 1 11 rfl rfl rfl (kE7_49)
set_option maxHeartbeats 100000 in
def k7_45 : ex_C := c_psh 4 (k7_46)
set_option maxHeartbeats 100000 in
theorem kE7_45 : ex_CE 15 [] cd_7 k7_45 q7_45 := e_psh_iconst 45 4 4 (kE7_46)
set_option maxHeartbeats 100000 in
def k7_35 : ex_C := c_iload 3 (c_psh 2 (c_irem   (c_if_ne 45 (c_psh 3 (c_goto 46)))))
set_option maxHeartbeats 100000 in
theorem kE7_35 : ex_CE 15 [] cd_7 k7_35 q7_35 := e_iload_iload_n 35 0 3 3 rfl (e_psh_iconst 36 2 2 (e_irem 37 0  (e_if_ne 38 45 7 (e_psh_iconst 41 3 3 (e_goto 42 46 4)))))
set_option maxHeartbeats 100000 in
def k7_32 : ex_C := c_invS [] cd_7 32 1 11 (k7_35)
set_option maxHeartbeats 100000 in
theorem kE7_32 : ex_CE 15 [] cd_7 k7_32 q7_32 := e_invS 32 229345 63 1 11 rfl rfl rfl (kE7_35)
set_option maxHeartbeats 100000 in
def k7_31 : ex_C := c_psh 2 (k7_32)
set_option maxHeartbeats 100000 in
theorem kE7_31 : ex_CE 15 [] cd_7 k7_31 q7_31 := e_psh_iconst 31 2 2 (kE7_32)
set_option maxHeartbeats 100000 in
def k7_7 : ex_C := c_iload 3 (c_psh 8 (c_icmp_ge 86 (c_iload 3 (c_aload 2 (c_arraylength   (c_icmp_ge 86 (c_iload 3 (c_psh 2 (c_idiv   (c_psh 2 (c_irem   (c_if_ne 31 (c_psh 1 (c_goto 32))))))))))))))
set_option maxHeartbeats 100000 in
theorem kE7_7 : ex_CE 15 [] cd_7 k7_7 q7_7 := e_iload_iload_n 7 0 3 3 rfl (e_psh_bipush 8 8 8 (e_icmp_ge 10 86 76 (e_iload_iload_n 13 0 3 3 rfl (e_aload_aload_n 14 0 2 2 rfl (e_arraylength 15 0  (e_icmp_ge 16 86 70 (e_iload_iload_n 19 0 3 3 rfl (e_psh_iconst 20 2 2 (e_idiv 21 0  (e_psh_iconst 22 2 2 (e_irem 23 0  (e_if_ne 24 31 7 (e_psh_iconst 27 1 1 (e_goto 28 32 4))))))))))))))
set_option maxHeartbeats 100000 in
def k7_0 : ex_C := c_aload 0 (c_psh 0 (c_pf 3 0 14 (c_psh 0 (c_istore 3 (k7_7)))))
set_option maxHeartbeats 100000 in
theorem kE7_0 : ex_CE 15 [] cd_7 k7_0 q7_0 := e_aload_aload_n 0 0 0 0 rfl (e_psh_iconst 1 0 0 (e_pf 2 206 55 3 0 14 rfl rfl rfl (e_psh_iconst 5 0 0 (e_istore_istore_n 6 0 3 3 rfl (kE7_7)))))
def kt_7 : Nat → Option ex_C := fun pc => @Bool.rec (fun _ => Nat → Option ex_C) (fun pc => @Bool.rec (fun _ => Nat → Option ex_C) (fun pc => @Bool.rec (fun _ => Nat → Option ex_C) (fun pc => @Bool.rec (fun _ => Nat → Option ex_C) (fun pc => @Bool.rec (fun _ => Option ex_C) none (some k7_86) (Nat.beq pc 86)) (fun pc => @Bool.rec (fun _ => Option ex_C) none (some k7_80) (Nat.beq pc 80)) (Nat.ble pc 80) pc) (fun pc => @Bool.rec (fun _ => Option ex_C) none (some k7_49) (Nat.beq pc 49)) (Nat.ble pc 49) pc) (fun pc => @Bool.rec (fun _ => Nat → Option ex_C) (fun pc => @Bool.rec (fun _ => Option ex_C) none (some k7_46) (Nat.beq pc 46)) (fun pc => @Bool.rec (fun _ => Option ex_C) none (some k7_45) (Nat.beq pc 45)) (Nat.ble pc 45) pc) (Nat.ble pc 46) pc) (fun pc => @Bool.rec (fun _ => Nat → Option ex_C) (fun pc => @Bool.rec (fun _ => Nat → Option ex_C) (fun pc => @Bool.rec (fun _ => Nat → Option ex_C) (fun pc => @Bool.rec (fun _ => Option ex_C) none (some k7_35) (Nat.beq pc 35)) (fun pc => @Bool.rec (fun _ => Option ex_C) none (some k7_32) (Nat.beq pc 32)) (Nat.ble pc 32) pc) (fun pc => @Bool.rec (fun _ => Option ex_C) none (some k7_31) (Nat.beq pc 31)) (Nat.ble pc 31) pc) (fun pc => @Bool.rec (fun _ => Nat → Option ex_C) (fun pc => @Bool.rec (fun _ => Option ex_C) none (some k7_7) (Nat.beq pc 7)) (fun pc => @Bool.rec (fun _ => Option ex_C) none (some k7_0) (Nat.beq pc 0)) (Nat.ble pc 0) pc) (Nat.ble pc 7) pc) (Nat.ble pc 35) pc
theorem ktE_7 : ex_CTT 15 [] cd_7 kt_7 cd_7 := (ex_ct2 (ex_ct2 (ex_ct2 (ex_ct1 kE7_0) (ex_ct1 kE7_7)) (ex_ct2 (ex_ct1 kE7_31) (ex_ct2 (ex_ct1 kE7_32) (ex_ct1 kE7_35)))) (ex_ct2 (ex_ct2 (ex_ct1 kE7_45) (ex_ct1 kE7_46)) (ex_ct2 (ex_ct1 kE7_49) (ex_ct2 (ex_ct1 kE7_80) (ex_ct1 kE7_86)))))
set_option maxHeartbeats 100000 in
def k8_65 : ex_C := c_return_  15
set_option maxHeartbeats 100000 in
theorem kE8_65 : ex_CE 15 [] cd_8 k8_65 q8_65 := e_return_ 65 0 
set_option maxHeartbeats 100000 in
def k8_59 : ex_C := c_iinc 2 1 (c_goto 2)
set_option maxHeartbeats 100000 in
theorem kE8_59 : ex_CE 15 [] cd_8 k8_59 q8_59 := e_iinc 59 1 2 1 (e_goto 62 2 (-60))
set_option maxHeartbeats 100000 in
def k8_30 : ex_C := c_istore 3 (c_aload 0 (c_aload 1 (c_gf 1 0 (c_iload 2 (c_iaload (c_aload 1 (c_gf 1 1 (c_iload 2 (c_iaload (c_aload 1 (c_gf 1 2 (c_iload 2 (c_iaload (c_psh 8 (c_iload 2 (c_iadd (c_psh 3 (c_iload 3 (c_invV [] cd_8 56 7 6 3 (k8_59))))))))))))))))))))
set_option maxHeartbeats 100000 in
theorem kE8_30 : ex_CE 15 [] cd_8 k8_30 q8_30 := e_istore_istore_n 30 0 3 3 rfl (e_aload_aload_n 31 0 0 0 rfl (e_aload_aload_n 32 0 1 1 rfl (e_gf 33 86080 67 1 0 rfl rfl (e_iload_iload_n 36 0 2 2 rfl (e_iaload 37 0 (e_aload_aload_n 38 0 1 1 rfl (e_gf 39 86081 70 1 1 rfl rfl (e_iload_iload_n 42 0 2 2 rfl (e_iaload 43 0 (e_aload_aload_n 44 0 1 1 rfl (e_gf 45 86082 71 1 2 rfl rfl (e_iload_iload_n 48 0 2 2 rfl (e_iaload 49 0 (e_psh_bipush 50 8 8 (e_iload_iload_n 52 0 2 2 rfl (e_iadd 53 0 (e_psh_iconst 54 3 3 (e_iload_iload_n 55 0 3 3 rfl (e_invV_invokevirtual 56 180327 72 7 6 3 rfl rfl rfl rfl rfl rfl (kE8_59))))))))))))))))))))
set_option maxHeartbeats 100000 in
def k8_27 : ex_C := c_invS [] cd_8 27 1 11 (k8_30)
set_option maxHeartbeats 100000 in
theorem kE8_27 : ex_CE 15 [] cd_8 k8_27 q8_27 := e_invS 27 229345 63 1 11 rfl rfl rfl (kE8_30)
set_option maxHeartbeats 100000 in
def k8_26 : ex_C := c_psh 4 (k8_27)
set_option maxHeartbeats 100000 in
theorem kE8_26 : ex_CE 15 [] cd_8 k8_26 q8_26 := e_psh_iconst 26 4 4 (kE8_27)
set_option maxHeartbeats 100000 in
def k8_2 : ex_C := c_iload 2 (c_aload 1 (c_gf 1 3 (c_icmp_ge 65 (c_iload 2 (c_psh 8 (c_icmp_ge 65 (c_iload 2 (c_psh 2 (c_irem   (c_if_ne 26 (c_psh 3 (c_goto 27))))))))))))
set_option maxHeartbeats 100000 in
theorem kE8_2 : ex_CE 15 [] cd_8 k8_2 q8_2 := e_iload_iload_n 2 0 2 2 rfl (e_aload_aload_n 3 0 1 1 rfl (e_gf 4 67 76 1 3 rfl rfl (e_icmp_ge 7 65 58 (e_iload_iload_n 10 0 2 2 rfl (e_psh_bipush 11 8 8 (e_icmp_ge 13 65 52 (e_iload_iload_n 16 0 2 2 rfl (e_psh_iconst 17 2 2 (e_irem 18 0  (e_if_ne 19 26 7 (e_psh_iconst 22 3 3 (e_goto 23 27 4))))))))))))
set_option maxHeartbeats 100000 in
def k8_0 : ex_C := c_psh 0 (c_istore 2 (k8_2))
set_option maxHeartbeats 100000 in
theorem kE8_0 : ex_CE 15 [] cd_8 k8_0 q8_0 := e_psh_iconst 0 0 0 (e_istore_istore_n 1 0 2 2 rfl (kE8_2))
def kt_8 : Nat → Option ex_C := fun pc => @Bool.rec (fun _ => Nat → Option ex_C) (fun pc => @Bool.rec (fun _ => Nat → Option ex_C) (fun pc => @Bool.rec (fun _ => Nat → Option ex_C) (fun pc => @Bool.rec (fun _ => Option ex_C) none (some k8_65) (Nat.beq pc 65)) (fun pc => @Bool.rec (fun _ => Option ex_C) none (some k8_59) (Nat.beq pc 59)) (Nat.ble pc 59) pc) (fun pc => @Bool.rec (fun _ => Nat → Option ex_C) (fun pc => @Bool.rec (fun _ => Option ex_C) none (some k8_30) (Nat.beq pc 30)) (fun pc => @Bool.rec (fun _ => Option ex_C) none (some k8_27) (Nat.beq pc 27)) (Nat.ble pc 27) pc) (Nat.ble pc 30) pc) (fun pc => @Bool.rec (fun _ => Nat → Option ex_C) (fun pc => @Bool.rec (fun _ => Nat → Option ex_C) (fun pc => @Bool.rec (fun _ => Option ex_C) none (some k8_26) (Nat.beq pc 26)) (fun pc => @Bool.rec (fun _ => Option ex_C) none (some k8_2) (Nat.beq pc 2)) (Nat.ble pc 2) pc) (fun pc => @Bool.rec (fun _ => Option ex_C) none (some k8_0) (Nat.beq pc 0)) (Nat.ble pc 0) pc) (Nat.ble pc 26) pc
theorem ktE_8 : ex_CTT 15 [] cd_8 kt_8 cd_8 := (ex_ct2 (ex_ct2 (ex_ct1 kE8_0) (ex_ct2 (ex_ct1 kE8_2) (ex_ct1 kE8_26))) (ex_ct2 (ex_ct2 (ex_ct1 kE8_27) (ex_ct1 kE8_30)) (ex_ct2 (ex_ct1 kE8_59) (ex_ct1 kE8_65))))
set_option maxHeartbeats 100000 in
def k9_14 : ex_C := c_pf 3 0 14 (c_return_  15)
set_option maxHeartbeats 100000 in
theorem kE9_14 : ex_CE 15 [] cd_9 k9_14 q9_14 := e_pf 14 206 55 3 0 14 rfl rfl rfl (e_return_ 17 0 )
set_option maxHeartbeats 100000 in
def k9_0 : ex_C := c_aload 0 (c_psh 0 (c_aload 0 (c_gf 3 14 (c_aload 1 (c_gf 1 3 (c_isub (c_invS [] cd_9 11 2 162 (k9_14))))))))
set_option maxHeartbeats 100000 in
theorem kE9_0 : ex_CE 15 [] cd_9 k9_0 q9_0 := e_aload_aload_n 0 0 0 0 rfl (e_psh_iconst 1 0 0 (e_aload_aload_n 2 0 0 0 rfl (e_gf 3 206 55 3 14 rfl rfl (e_aload_aload_n 6 0 1 1 rfl (e_gf 7 67 76 1 3 rfl rfl (e_isub 10 0 (e_invS 11 1466338 77 2 162 rfl rfl rfl (kE9_14))))))))
def kt_9 : Nat → Option ex_C := fun pc => @Bool.rec (fun _ => Nat → Option ex_C) (fun pc => @Bool.rec (fun _ => Option ex_C) none (some k9_14) (Nat.beq pc 14)) (fun pc => @Bool.rec (fun _ => Option ex_C) none (some k9_0) (Nat.beq pc 0)) (Nat.ble pc 0) pc
theorem ktE_9 : ex_CTT 15 [] cd_9 kt_9 cd_9 := (ex_ct2 (ex_ct1 kE9_0) (ex_ct1 kE9_14))
set_option maxHeartbeats 100000 in
def k10_169 : ex_C := c_psh 1 (c_ireturn  1)
set_option maxHeartbeats 100000 in
theorem kE10_169 : ex_CE 1 [] cd_10 k10_169 q10_169 := e_psh_iconst 169 1 1 (e_ireturn 170 0 )
set_option maxHeartbeats 100000 in
def k10_150 : ex_C := c_aload 1 (c_gf 3 2 (c_iload 2 (c_iaload (c_aload 1 (c_gf 3 3 (c_iload 2 (c_iaload (c_iload 7 (c_iload 8 (c_invV [] cd_10 166 7 6 3 (k10_169)))))))))))
set_option maxHeartbeats 100000 in
theorem kE10_150 : ex_CE 1 [] cd_10 k10_150 q10_150 := e_aload_aload_n 150 0 1 1 rfl (e_gf 151 86210 18 3 2 rfl rfl (e_iload_iload_n 154 0 2 2 rfl (e_iaload 155 0 (e_aload_aload_n 156 0 1 1 rfl (e_gf 157 86211 21 3 3 rfl rfl (e_iload_iload_n 160 0 2 2 rfl (e_iaload 161 0 (e_iload_iload 162 0 7 (e_iload_iload 164 0 8 (e_invV_invokevirtual 166 180327 72 7 6 3 rfl rfl rfl rfl rfl rfl (kE10_169)))))))))))
set_option maxHeartbeats 100000 in
def k10_146 : ex_C := c_iload 6 (c_psh 2 (c_idiv   (k10_150)))
set_option maxHeartbeats 100000 in
theorem kE10_146 : ex_CE 1 [] cd_10 k10_146 q10_146 := e_iload_iload 146 0 6 (e_psh_iconst 148 2 2 (e_idiv 149 0  (kE10_150)))
set_option maxHeartbeats 100000 in
def k10_136 : ex_C := c_iload 4 (c_if_eq 146 (c_iload 6 (c_goto 150)))
set_option maxHeartbeats 100000 in
theorem kE10_136 : ex_CE 1 [] cd_10 k10_136 q10_136 := e_iload_iload 136 0 4 (e_if_eq 138 146 8 (e_iload_iload 141 0 6 (e_goto 143 150 7)))
set_option maxHeartbeats 100000 in
def k10_134 : ex_C := c_iload 5 (k10_136)
set_option maxHeartbeats 100000 in
theorem kE10_134 : ex_CE 1 [] cd_10 k10_134 q10_134 := e_iload_iload 134 0 5 (kE10_136)
set_option maxHeartbeats 100000 in
def k10_104 : ex_C := c_istore 7 (c_aload 1 (c_gf 3 5 (c_iload 2 (c_iaload (c_aload 1 (c_gf 3 5 (c_iload 3 (c_iaload (c_iand (c_istore 8 (c_aload 0 (c_iload 4 (c_if_eq 134 (c_iload 5 (c_psh 2 (c_idiv   (c_goto 136)))))))))))))))))
set_option maxHeartbeats 100000 in
theorem kE10_104 : ex_CE 1 [] cd_10 k10_104 q10_104 := e_istore_istore 104 0 7 (e_aload_aload_n 106 0 1 1 rfl (e_gf 107 86213 27 3 5 rfl rfl (e_iload_iload_n 110 0 2 2 rfl (e_iaload 111 0 (e_aload_aload_n 112 0 1 1 rfl (e_gf 113 86213 27 3 5 rfl rfl (e_iload_iload_n 116 0 3 3 rfl (e_iaload 117 0 (e_iand 118 0 (e_istore_istore 119 0 8 (e_aload_aload_n 121 0 0 0 rfl (e_iload_iload 122 0 4 (e_if_eq 124 134 10 (e_iload_iload 127 0 5 (e_psh_iconst 129 2 2 (e_idiv 130 0  (e_goto 131 136 5)))))))))))))))))
set_option maxHeartbeats 100000 in
def k10_69 : ex_C := c_aload 0 (c_gf 3 11 (c_aload 0 (c_gf 3 14 (c_iload 2 (c_iastore (c_aload 0 (c_gf 3 12 (c_aload 0 (c_gf 3 14 (c_iload 3 (c_iastore (c_aload 1 (c_gf 3 4 (c_iload 2 (c_iaload (c_aload 1 (c_gf 3 4 (c_iload 3 (c_iaload (c_invS [] cd_10 101 2 163 (k10_104)))))))))))))))))))))
set_option maxHeartbeats 100000 in
theorem kE10_69 : ex_CE 1 [] cd_10 k10_69 q10_69 := e_aload_aload_n 69 0 0 0 rfl (e_gf 70 86219 45 3 11 rfl rfl (e_aload_aload_n 73 0 0 0 rfl (e_gf 74 206 55 3 14 rfl rfl (e_iload_iload_n 77 0 2 2 rfl (e_iastore 78 0 (e_aload_aload_n 79 0 0 0 rfl (e_gf 80 86220 48 3 12 rfl rfl (e_aload_aload_n 83 0 0 0 rfl (e_gf 84 206 55 3 14 rfl rfl (e_iload_iload_n 87 0 3 3 rfl (e_iastore 88 0 (e_aload_aload_n 89 0 1 1 rfl (e_gf 90 86212 24 3 4 rfl rfl (e_iload_iload_n 93 0 2 2 rfl (e_iaload 94 0 (e_aload_aload_n 95 0 1 1 rfl (e_gf 96 86212 24 3 4 rfl rfl (e_iload_iload_n 99 0 3 3 rfl (e_iaload 100 0 (e_invS 101 1474530 83 2 163 rfl rfl rfl (kE10_104)))))))))))))))))))))
set_option maxHeartbeats 100000 in
def k10_67 : ex_C := c_psh 0 (c_ireturn  1)
set_option maxHeartbeats 100000 in
theorem kE10_67 : ex_CE 1 [] cd_10 k10_67 q10_67 := e_psh_iconst 67 0 0 (e_ireturn 68 0 )
set_option maxHeartbeats 100000 in
def k10_62 : ex_C := c_psh 2 (c_irem   (c_if_eq 69 (k10_67)))
set_option maxHeartbeats 100000 in
theorem kE10_62 : ex_CE 1 [] cd_10 k10_62 q10_62 := e_psh_iconst 62 2 2 (e_irem 63 0  (e_if_eq 64 69 5 (kE10_67)))
set_option maxHeartbeats 100000 in
def k10_60 : ex_C := c_iload 6 (k10_62)
set_option maxHeartbeats 100000 in
theorem kE10_60 : ex_CE 1 [] cd_10 k10_60 q10_60 := e_iload_iload 60 0 6 (kE10_62)
set_option maxHeartbeats 100000 in
def k10_0 : ex_C := c_aload 1 (c_gf 3 0 (c_iload 2 (c_iaload (c_aload 1 (c_gf 3 0 (c_iload 3 (c_iaload (c_iadd (c_psh 2 (c_idiv   (c_istore 5 (c_aload 1 (c_gf 3 1 (c_iload 2 (c_iaload (c_aload 1 (c_gf 3 1 (c_iload 3 (c_iaload (c_iadd (c_psh 2 (c_idiv   (c_istore 6 (c_aload 0 (c_gf 3 14 (c_if_lt 67 (c_aload 0 (c_gf 3 14 (c_psh 16 (c_icmp_ge 67 (c_iload 4 (c_if_eq 60 (c_iload 5 (c_goto 62))))))))))))))))))))))))))))))))))
set_option maxHeartbeats 100000 in
theorem kE10_0 : ex_CE 1 [] cd_10 k10_0 q10_0 := e_aload_aload_n 0 0 1 1 rfl (e_gf 1 86208 9 3 0 rfl rfl (e_iload_iload_n 4 0 2 2 rfl (e_iaload 5 0 (e_aload_aload_n 6 0 1 1 rfl (e_gf 7 86208 9 3 0 rfl rfl (e_iload_iload_n 10 0 3 3 rfl (e_iaload 11 0 (e_iadd 12 0 (e_psh_iconst 13 2 2 (e_idiv 14 0  (e_istore_istore 15 0 5 (e_aload_aload_n 17 0 1 1 rfl (e_gf 18 86209 15 3 1 rfl rfl (e_iload_iload_n 21 0 2 2 rfl (e_iaload 22 0 (e_aload_aload_n 23 0 1 1 rfl (e_gf 24 86209 15 3 1 rfl rfl (e_iload_iload_n 27 0 3 3 rfl (e_iaload 28 0 (e_iadd 29 0 (e_psh_iconst 30 2 2 (e_idiv 31 0  (e_istore_istore 32 0 6 (e_aload_aload_n 34 0 0 0 rfl (e_gf 35 206 55 3 14 rfl rfl (e_if_lt 38 67 29 (e_aload_aload_n 41 0 0 0 rfl (e_gf 42 206 55 3 14 rfl rfl (e_psh_bipush 45 16 16 (e_icmp_ge 47 67 20 (e_iload_iload 50 0 4 (e_if_eq 52 60 8 (e_iload_iload 55 0 5 (e_goto 57 62 5))))))))))))))))))))))))))))))))))
def kt_10 : Nat → Option ex_C := fun pc => @Bool.rec (fun _ => Nat → Option ex_C) (fun pc => @Bool.rec (fun _ => Nat → Option ex_C) (fun pc => @Bool.rec (fun _ => Nat → Option ex_C) (fun pc => @Bool.rec (fun _ => Nat → Option ex_C) (fun pc => @Bool.rec (fun _ => Option ex_C) none (some k10_169) (Nat.beq pc 169)) (fun pc => @Bool.rec (fun _ => Option ex_C) none (some k10_150) (Nat.beq pc 150)) (Nat.ble pc 150) pc) (fun pc => @Bool.rec (fun _ => Option ex_C) none (some k10_146) (Nat.beq pc 146)) (Nat.ble pc 146) pc) (fun pc => @Bool.rec (fun _ => Nat → Option ex_C) (fun pc => @Bool.rec (fun _ => Nat → Option ex_C) (fun pc => @Bool.rec (fun _ => Option ex_C) none (some k10_136) (Nat.beq pc 136)) (fun pc => @Bool.rec (fun _ => Option ex_C) none (some k10_134) (Nat.beq pc 134)) (Nat.ble pc 134) pc) (fun pc => @Bool.rec (fun _ => Option ex_C) none (some k10_104) (Nat.beq pc 104)) (Nat.ble pc 104) pc) (Nat.ble pc 136) pc) (fun pc => @Bool.rec (fun _ => Nat → Option ex_C) (fun pc => @Bool.rec (fun _ => Nat → Option ex_C) (fun pc => @Bool.rec (fun _ => Nat → Option ex_C) (fun pc => @Bool.rec (fun _ => Option ex_C) none (some k10_69) (Nat.beq pc 69)) (fun pc => @Bool.rec (fun _ => Option ex_C) none (some k10_67) (Nat.beq pc 67)) (Nat.ble pc 67) pc) (fun pc => @Bool.rec (fun _ => Option ex_C) none (some k10_62) (Nat.beq pc 62)) (Nat.ble pc 62) pc) (fun pc => @Bool.rec (fun _ => Nat → Option ex_C) (fun pc => @Bool.rec (fun _ => Option ex_C) none (some k10_60) (Nat.beq pc 60)) (fun pc => @Bool.rec (fun _ => Option ex_C) none (some k10_0) (Nat.beq pc 0)) (Nat.ble pc 0) pc) (Nat.ble pc 60) pc) (Nat.ble pc 69) pc
theorem ktE_10 : ex_CTT 1 [] cd_10 kt_10 cd_10 := (ex_ct2 (ex_ct2 (ex_ct2 (ex_ct1 kE10_0) (ex_ct1 kE10_60)) (ex_ct2 (ex_ct1 kE10_62) (ex_ct2 (ex_ct1 kE10_67) (ex_ct1 kE10_69)))) (ex_ct2 (ex_ct2 (ex_ct1 kE10_104) (ex_ct2 (ex_ct1 kE10_134) (ex_ct1 kE10_136))) (ex_ct2 (ex_ct1 kE10_146) (ex_ct2 (ex_ct1 kE10_150) (ex_ct1 kE10_169)))))
set_option maxHeartbeats 100000 in
def k11_0 : ex_C := c_psh 1 (c_iload 0 (c_ishl   (c_ireturn  0)))
set_option maxHeartbeats 100000 in
theorem kE11_0 : ex_CE 0 [] cd_11 k11_0 q11_0 := e_psh_iconst 0 1 1 (e_iload_iload_n 1 0 0 0 rfl (e_ishl 2 0  (e_ireturn 3 0 )))
def kt_11 : Nat → Option ex_C := fun pc => @Bool.rec (fun _ => Option ex_C) none (some k11_0) (Nat.beq pc 0)
theorem ktE_11 : ex_CTT 0 [] cd_11 kt_11 cd_11 := (ex_ct1 kE11_0)
set_option maxHeartbeats 100000 in
def k12_54 : ex_C := c_ireturn  1
set_option maxHeartbeats 100000 in
theorem kE12_54 : ex_CE 1 [] cd_12 k12_54 q12_54 := e_ireturn 54 0 
set_option maxHeartbeats 100000 in
def k12_53 : ex_C := c_psh 0 (k12_54)
set_option maxHeartbeats 100000 in
theorem kE12_53 : ex_CE 1 [] cd_12 k12_53 q12_53 := e_psh_iconst 53 0 0 (kE12_54)
set_option maxHeartbeats 100000 in
def k12_0 : ex_C := c_iload 3 (c_psh 3 (c_iand (c_istore 4 (c_aload 0 (c_gf 3 0 (c_iload 1 (c_iaload (c_aload 0 (c_gf 3 0 (c_iload 2 (c_iaload (c_isub (c_psh 17179869193 (c_iload 4 (c_iaload (c_imul (c_aload 0 (c_gf 3 1 (c_iload 1 (c_iaload (c_aload 0 (c_gf 3 1 (c_iload 2 (c_iaload (c_isub (c_psh 17179869194 (c_iload 4 (c_iaload (c_imul (c_iadd (c_if_le 53 (c_psh 1 (c_goto 54)))))))))))))))))))))))))))))))))
set_option maxHeartbeats 100000 in
theorem kE12_0 : ex_CE 1 [] cd_12 k12_0 q12_0 := e_iload_iload_n 0 0 3 3 rfl (e_psh_iconst 1 3 3 (e_iand 2 0 (e_istore_istore 3 0 4 (e_aload_aload_n 5 0 0 0 rfl (e_gf 6 86208 9 3 0 rfl rfl (e_iload_iload_n 9 0 1 1 rfl (e_iaload 10 0 (e_aload_aload_n 11 0 0 0 rfl (e_gf 12 86208 9 3 0 rfl rfl (e_iload_iload_n 15 0 2 2 rfl (e_iaload 16 0 (e_isub 17 0 (e_psh_getstatic 18 17179869193 86 (e_iload_iload 21 0 4 (e_iaload 23 0 (e_imul 24 0 (e_aload_aload_n 25 0 0 0 rfl (e_gf 26 86209 15 3 1 rfl rfl (e_iload_iload_n 29 0 1 1 rfl (e_iaload 30 0 (e_aload_aload_n 31 0 0 0 rfl (e_gf 32 86209 15 3 1 rfl rfl (e_iload_iload_n 35 0 2 2 rfl (e_iaload 36 0 (e_isub 37 0 (e_psh_getstatic 38 17179869194 89 (e_iload_iload 41 0 4 (e_iaload 43 0 (e_imul 44 0 (e_iadd 45 0 (e_if_le 46 53 7 (e_psh_iconst 49 1 1 (e_goto 50 54 4)))))))))))))))))))))))))))))))))
def kt_12 : Nat → Option ex_C := fun pc => @Bool.rec (fun _ => Nat → Option ex_C) (fun pc => @Bool.rec (fun _ => Nat → Option ex_C) (fun pc => @Bool.rec (fun _ => Option ex_C) none (some k12_54) (Nat.beq pc 54)) (fun pc => @Bool.rec (fun _ => Option ex_C) none (some k12_53) (Nat.beq pc 53)) (Nat.ble pc 53) pc) (fun pc => @Bool.rec (fun _ => Option ex_C) none (some k12_0) (Nat.beq pc 0)) (Nat.ble pc 0) pc
theorem ktE_12 : ex_CTT 1 [] cd_12 kt_12 cd_12 := (ex_ct2 (ex_ct1 kE12_0) (ex_ct2 (ex_ct1 kE12_53) (ex_ct1 kE12_54)))
set_option maxHeartbeats 100000 in
def k13_40 : ex_C := c_return_  15
set_option maxHeartbeats 100000 in
theorem kE13_40 : ex_CE 15 [] cd_13 k13_40 q13_40 := e_return_ 40 0 
set_option maxHeartbeats 100000 in
def k13_2 : ex_C := c_iload 1 (c_aload 0 (c_gf 3 14 (c_icmp_ge 40 (c_aload 0 (c_gf 3 6 (c_iload 1 (c_aload 0 (c_gf 3 0 (c_iload 1 (c_iaload (c_iastore (c_aload 0 (c_gf 3 7 (c_iload 1 (c_aload 0 (c_gf 3 1 (c_iload 1 (c_iaload (c_iastore (c_iinc 1 1 (c_goto 2)))))))))))))))))))))
set_option maxHeartbeats 100000 in
theorem kE13_2 : ex_CE 15 [] cd_13 k13_2 q13_2 := e_iload_iload_n 2 0 1 1 rfl (e_aload_aload_n 3 0 0 0 rfl (e_gf 4 206 55 3 14 rfl rfl (e_icmp_ge 7 40 33 (e_aload_aload_n 10 0 0 0 rfl (e_gf 11 86214 30 3 6 rfl rfl (e_iload_iload_n 14 0 1 1 rfl (e_aload_aload_n 15 0 0 0 rfl (e_gf 16 86208 9 3 0 rfl rfl (e_iload_iload_n 19 0 1 1 rfl (e_iaload 20 0 (e_iastore 21 0 (e_aload_aload_n 22 0 0 0 rfl (e_gf 23 86215 33 3 7 rfl rfl (e_iload_iload_n 26 0 1 1 rfl (e_aload_aload_n 27 0 0 0 rfl (e_gf 28 86209 15 3 1 rfl rfl (e_iload_iload_n 31 0 1 1 rfl (e_iaload 32 0 (e_iastore 33 0 (e_iinc 34 1 1 1 (e_goto 37 2 (-35))))))))))))))))))))))
set_option maxHeartbeats 100000 in
def k13_0 : ex_C := c_psh 0 (c_istore 1 (k13_2))
set_option maxHeartbeats 100000 in
theorem kE13_0 : ex_CE 15 [] cd_13 k13_0 q13_0 := e_psh_iconst 0 0 0 (e_istore_istore_n 1 0 1 1 rfl (kE13_2))
def kt_13 : Nat → Option ex_C := fun pc => @Bool.rec (fun _ => Nat → Option ex_C) (fun pc => @Bool.rec (fun _ => Nat → Option ex_C) (fun pc => @Bool.rec (fun _ => Option ex_C) none (some k13_40) (Nat.beq pc 40)) (fun pc => @Bool.rec (fun _ => Option ex_C) none (some k13_2) (Nat.beq pc 2)) (Nat.ble pc 2) pc) (fun pc => @Bool.rec (fun _ => Option ex_C) none (some k13_0) (Nat.beq pc 0)) (Nat.ble pc 0) pc
theorem ktE_13 : ex_CTT 15 [] cd_13 kt_13 cd_13 := (ex_ct2 (ex_ct1 kE13_0) (ex_ct2 (ex_ct1 kE13_2) (ex_ct1 kE13_40)))
set_option maxHeartbeats 100000 in
def k14_0 : ex_C := c_iload 2 (c_psh 3 (c_iand (c_istore 4 (c_aload 0 (c_gf 3 0 (c_iload 1 (c_dup2   (c_iaload (c_iload 3 (c_psh 17179869193 (c_iload 4 (c_iaload (c_imul (c_iadd (c_iastore (c_aload 0 (c_gf 3 1 (c_iload 1 (c_dup2   (c_iaload (c_iload 3 (c_psh 17179869194 (c_iload 4 (c_iaload (c_imul (c_iadd (c_iastore (c_return_  15))))))))))))))))))))))))))))
set_option maxHeartbeats 100000 in
theorem kE14_0 : ex_CE 15 [] cd_14 k14_0 q14_0 := e_iload_iload_n 0 0 2 2 rfl (e_psh_iconst 1 3 3 (e_iand 2 0 (e_istore_istore 3 0 4 (e_aload_aload_n 5 0 0 0 rfl (e_gf 6 86208 9 3 0 rfl rfl (e_iload_iload_n 9 0 1 1 rfl (e_dup2 10 0  (e_iaload 11 0 (e_iload_iload_n 12 0 3 3 rfl (e_psh_getstatic 13 17179869193 86 (e_iload_iload 16 0 4 (e_iaload 18 0 (e_imul 19 0 (e_iadd 20 0 (e_iastore 21 0 (e_aload_aload_n 22 0 0 0 rfl (e_gf 23 86209 15 3 1 rfl rfl (e_iload_iload_n 26 0 1 1 rfl (e_dup2 27 0  (e_iaload 28 0 (e_iload_iload_n 29 0 3 3 rfl (e_psh_getstatic 30 17179869194 89 (e_iload_iload 33 0 4 (e_iaload 35 0 (e_imul 36 0 (e_iadd 37 0 (e_iastore 38 0 (e_return_ 39 0 ))))))))))))))))))))))))))))
def kt_14 : Nat → Option ex_C := fun pc => @Bool.rec (fun _ => Option ex_C) none (some k14_0) (Nat.beq pc 0)
theorem ktE_14 : ex_CTT 15 [] cd_14 kt_14 cd_14 := (ex_ct1 kE14_0)
set_option maxHeartbeats 100000 in
def k15_33 : ex_C := c_return_  15
set_option maxHeartbeats 100000 in
theorem kE15_33 : ex_CE 15 [] cd_15 k15_33 q15_33 := e_return_ 33 0 
set_option maxHeartbeats 100000 in
def k15_0 : ex_C := c_aload 0 (c_gf 3 2 (c_iload 1 (c_aload 0 (c_gf 3 2 (c_iload 1 (c_iaload (c_iload 2 (c_iadd (c_psh 3 (c_iand (c_iastore (c_aload 0 (c_gf 3 15 (c_if_eq 33 (c_aload 0 (c_gf 3 8 (c_iload 1 (c_dup2   (c_iaload (c_iload 2 (c_iadd (c_iastore (k15_33)))))))))))))))))))))))
set_option maxHeartbeats 100000 in
theorem kE15_0 : ex_CE 15 [] cd_15 k15_0 q15_0 := e_aload_aload_n 0 0 0 0 rfl (e_gf 1 86210 18 3 2 rfl rfl (e_iload_iload_n 4 0 1 1 rfl (e_aload_aload_n 5 0 0 0 rfl (e_gf 6 86210 18 3 2 rfl rfl (e_iload_iload_n 9 0 1 1 rfl (e_iaload 10 0 (e_iload_iload_n 11 0 2 2 rfl (e_iadd 12 0 (e_psh_iconst 13 3 3 (e_iand 14 0 (e_iastore 15 0 (e_aload_aload_n 16 0 0 0 rfl (e_gf 17 4303 59 3 15 rfl rfl (e_if_eq 20 33 13 (e_aload_aload_n 23 0 0 0 rfl (e_gf 24 86216 36 3 8 rfl rfl (e_iload_iload_n 27 0 1 1 rfl (e_dup2 28 0  (e_iaload 29 0 (e_iload_iload_n 30 0 2 2 rfl (e_iadd 31 0 (e_iastore 32 0 (kE15_33)))))))))))))))))))))))
def kt_15 : Nat → Option ex_C := fun pc => @Bool.rec (fun _ => Nat → Option ex_C) (fun pc => @Bool.rec (fun _ => Option ex_C) none (some k15_33) (Nat.beq pc 33)) (fun pc => @Bool.rec (fun _ => Option ex_C) none (some k15_0) (Nat.beq pc 0)) (Nat.ble pc 0) pc
theorem ktE_15 : ex_CTT 15 [] cd_15 kt_15 cd_15 := (ex_ct2 (ex_ct1 kE15_0) (ex_ct1 kE15_33))
set_option maxHeartbeats 100000 in
def k16_53 : ex_C := c_return_  15
set_option maxHeartbeats 100000 in
theorem kE16_53 : ex_CE 15 [] cd_16 k16_53 q16_53 := e_return_ 53 0 
set_option maxHeartbeats 100000 in
def k16_0 : ex_C := c_aload 0 (c_gf 3 0 (c_iload 1 (c_iaload (c_iload 2 (c_isub (c_istore 5 (c_aload 0 (c_gf 3 1 (c_iload 1 (c_iaload (c_iload 3 (c_isub (c_istore 6 (c_aload 0 (c_gf 3 0 (c_iload 1 (c_iload 2 (c_iload 4 (c_iload 6 (c_imul (c_iadd (c_iastore (c_aload 0 (c_gf 3 1 (c_iload 1 (c_iload 3 (c_iload 4 (c_iload 5 (c_imul (c_isub (c_iastore (c_aload 0 (c_iload 1 (c_iload 4 (c_invV [] cd_16 50 3 15 3 (k16_53))))))))))))))))))))))))))))))))))))
set_option maxHeartbeats 100000 in
theorem kE16_0 : ex_CE 15 [] cd_16 k16_0 q16_0 := e_aload_aload_n 0 0 0 0 rfl (e_gf 1 86208 9 3 0 rfl rfl (e_iload_iload_n 4 0 1 1 rfl (e_iaload 5 0 (e_iload_iload_n 6 0 2 2 rfl (e_isub 7 0 (e_istore_istore 8 0 5 (e_aload_aload_n 10 0 0 0 rfl (e_gf 11 86209 15 3 1 rfl rfl (e_iload_iload_n 14 0 1 1 rfl (e_iaload 15 0 (e_iload_iload_n 16 0 3 3 rfl (e_isub 17 0 (e_istore_istore 18 0 6 (e_aload_aload_n 20 0 0 0 rfl (e_gf 21 86208 9 3 0 rfl rfl (e_iload_iload_n 24 0 1 1 rfl (e_iload_iload_n 25 0 2 2 rfl (e_iload_iload 26 0 4 (e_iload_iload 28 0 6 (e_imul 30 0 (e_iadd 31 0 (e_iastore 32 0 (e_aload_aload_n 33 0 0 0 rfl (e_gf 34 86209 15 3 1 rfl rfl (e_iload_iload_n 37 0 1 1 rfl (e_iload_iload_n 38 0 3 3 rfl (e_iload_iload 39 0 4 (e_iload_iload 41 0 5 (e_imul 43 0 (e_isub 44 0 (e_iastore 45 0 (e_aload_aload_n 46 0 0 0 rfl (e_iload_iload_n 47 0 1 1 rfl (e_iload_iload 48 0 4 (e_invV_invokevirtual 50 254051 92 3 15 3 rfl rfl rfl rfl rfl rfl (kE16_53))))))))))))))))))))))))))))))))))))
def kt_16 : Nat → Option ex_C := fun pc => @Bool.rec (fun _ => Nat → Option ex_C) (fun pc => @Bool.rec (fun _ => Option ex_C) none (some k16_53) (Nat.beq pc 53)) (fun pc => @Bool.rec (fun _ => Option ex_C) none (some k16_0) (Nat.beq pc 0)) (Nat.ble pc 0) pc
theorem ktE_16 : ex_CTT 15 [] cd_16 kt_16 cd_16 := (ex_ct2 (ex_ct1 kE16_0) (ex_ct1 kE16_53))
set_option maxHeartbeats 100000 in
def k17_0 : ex_C := c_aload 0 (c_gf 3 0 (c_iload 1 (c_iaload (c_istore 3 (c_aload 0 (c_gf 3 1 (c_iload 1 (c_iaload (c_istore 4 (c_aload 0 (c_gf 3 0 (c_iload 1 (c_aload 0 (c_gf 3 0 (c_iload 2 (c_iaload (c_iastore (c_aload 0 (c_gf 3 1 (c_iload 1 (c_aload 0 (c_gf 3 1 (c_iload 2 (c_iaload (c_iastore (c_aload 0 (c_gf 3 0 (c_iload 2 (c_iload 3 (c_iastore (c_aload 0 (c_gf 3 1 (c_iload 2 (c_iload 4 (c_iastore (c_return_  15))))))))))))))))))))))))))))))))))))
set_option maxHeartbeats 100000 in
theorem kE17_0 : ex_CE 15 [] cd_17 k17_0 q17_0 := e_aload_aload_n 0 0 0 0 rfl (e_gf 1 86208 9 3 0 rfl rfl (e_iload_iload_n 4 0 1 1 rfl (e_iaload 5 0 (e_istore_istore_n 6 0 3 3 rfl (e_aload_aload_n 7 0 0 0 rfl (e_gf 8 86209 15 3 1 rfl rfl (e_iload_iload_n 11 0 1 1 rfl (e_iaload 12 0 (e_istore_istore 13 0 4 (e_aload_aload_n 15 0 0 0 rfl (e_gf 16 86208 9 3 0 rfl rfl (e_iload_iload_n 19 0 1 1 rfl (e_aload_aload_n 20 0 0 0 rfl (e_gf 21 86208 9 3 0 rfl rfl (e_iload_iload_n 24 0 2 2 rfl (e_iaload 25 0 (e_iastore 26 0 (e_aload_aload_n 27 0 0 0 rfl (e_gf 28 86209 15 3 1 rfl rfl (e_iload_iload_n 31 0 1 1 rfl (e_aload_aload_n 32 0 0 0 rfl (e_gf 33 86209 15 3 1 rfl rfl (e_iload_iload_n 36 0 2 2 rfl (e_iaload 37 0 (e_iastore 38 0 (e_aload_aload_n 39 0 0 0 rfl (e_gf 40 86208 9 3 0 rfl rfl (e_iload_iload_n 43 0 2 2 rfl (e_iload_iload_n 44 0 3 3 rfl (e_iastore 45 0 (e_aload_aload_n 46 0 0 0 rfl (e_gf 47 86209 15 3 1 rfl rfl (e_iload_iload_n 50 0 2 2 rfl (e_iload_iload 51 0 4 (e_iastore 53 0 (e_return_ 54 0 ))))))))))))))))))))))))))))))))))))
def kt_17 : Nat → Option ex_C := fun pc => @Bool.rec (fun _ => Option ex_C) none (some k17_0) (Nat.beq pc 0)
theorem ktE_17 : ex_CTT 15 [] cd_17 kt_17 cd_17 := (ex_ct1 kE17_0)
set_option maxHeartbeats 100000 in
def k18_16 : ex_C := c_aload 0 (c_gf 3 10 (c_iload 1 (c_iload 2 (c_iastore (c_return_  15)))))
set_option maxHeartbeats 100000 in
theorem kE18_16 : ex_CE 15 [] cd_18 k18_16 q18_16 := e_aload_aload_n 16 0 0 0 rfl (e_gf 17 86218 42 3 10 rfl rfl (e_iload_iload_n 20 0 1 1 rfl (e_iload_iload_n 21 0 2 2 rfl (e_iastore 22 0 (e_return_ 23 0 )))))
set_option maxHeartbeats 100000 in
def k18_0 : ex_C := c_aload 0 (c_gf 3 9 (c_iload 1 (c_iaload (c_if_ne 16 (c_aload 0 (c_gf 3 9 (c_iload 1 (c_iload 2 (c_iastore (k18_16))))))))))
set_option maxHeartbeats 100000 in
theorem kE18_0 : ex_CE 15 [] cd_18 k18_0 q18_0 := e_aload_aload_n 0 0 0 0 rfl (e_gf 1 86217 39 3 9 rfl rfl (e_iload_iload_n 4 0 1 1 rfl (e_iaload 5 0 (e_if_ne 6 16 10 (e_aload_aload_n 9 0 0 0 rfl (e_gf 10 86217 39 3 9 rfl rfl (e_iload_iload_n 13 0 1 1 rfl (e_iload_iload_n 14 0 2 2 rfl (e_iastore 15 0 (kE18_16))))))))))
def kt_18 : Nat → Option ex_C := fun pc => @Bool.rec (fun _ => Nat → Option ex_C) (fun pc => @Bool.rec (fun _ => Option ex_C) none (some k18_16) (Nat.beq pc 16)) (fun pc => @Bool.rec (fun _ => Option ex_C) none (some k18_0) (Nat.beq pc 0)) (Nat.ble pc 0) pc
theorem ktE_18 : ex_CTT 15 [] cd_18 kt_18 cd_18 := (ex_ct2 (ex_ct1 kE18_0) (ex_ct1 kE18_16))
set_option maxHeartbeats 100000 in
def k19_114 : ex_C := c_iload 1 (c_ireturn  0)
set_option maxHeartbeats 100000 in
theorem kE19_114 : ex_CE 0 [] cd_19 k19_114 q19_114 := e_iload_iload_n 114 0 1 1 rfl (e_ireturn 115 0 )
set_option maxHeartbeats 100000 in
def k19_108 : ex_C := c_iinc 2 1 (c_goto 70)
set_option maxHeartbeats 100000 in
theorem kE19_108 : ex_CE 0 [] cd_19 k19_108 q19_108 := e_iinc 108 1 2 1 (e_goto 111 70 (-41))
set_option maxHeartbeats 100000 in
def k19_97 : ex_C := c_psh 1 (c_icmp_le 108 (c_aload 0 (c_gf 3 3 (c_iload 2 (c_iaload (c_istore 1 (k19_108)))))))
set_option maxHeartbeats 100000 in
theorem kE19_97 : ex_CE 0 [] cd_19 k19_97 q19_97 := e_psh_iconst 97 1 1 (e_icmp_le 98 108 10 (e_aload_aload_n 101 0 0 0 rfl (e_gf 102 86211 21 3 3 rfl rfl (e_iload_iload_n 105 0 2 2 rfl (e_iaload 106 0 (e_istore_istore_n 107 0 1 1 rfl (kE19_108)))))))
set_option maxHeartbeats 100000 in
def k19_92 : ex_C := c_aload 0 (c_iload 2 (c_invV [] cd_19 94 2 22 3 (k19_97)))
set_option maxHeartbeats 100000 in
theorem kE19_92 : ex_CE 0 [] cd_19 k19_92 q19_92 := e_aload_aload_n 92 0 0 0 rfl (e_iload_iload_n 93 0 2 2 rfl (e_invV_invokevirtual 94 311394 104 2 22 3 rfl rfl rfl rfl rfl rfl (kE19_97)))
set_option maxHeartbeats 100000 in
def k19_70 : ex_C := c_iload 2 (c_aload 0 (c_gf 3 14 (c_icmp_ge 114 (c_iload 1 (c_if_lt 92 (c_aload 0 (c_gf 3 3 (c_iload 2 (c_iaload (c_iload 1 (c_icmp_ge 108 (k19_92))))))))))))
set_option maxHeartbeats 100000 in
theorem kE19_70 : ex_CE 0 [] cd_19 k19_70 q19_70 := e_iload_iload_n 70 0 2 2 rfl (e_aload_aload_n 71 0 0 0 rfl (e_gf 72 206 55 3 14 rfl rfl (e_icmp_ge 75 114 39 (e_iload_iload_n 78 0 1 1 rfl (e_if_lt 79 92 13 (e_aload_aload_n 82 0 0 0 rfl (e_gf 83 86211 21 3 3 rfl rfl (e_iload_iload_n 86 0 2 2 rfl (e_iaload 87 0 (e_iload_iload_n 88 0 1 1 rfl (e_icmp_ge 89 108 19 (kE19_92))))))))))))
set_option maxHeartbeats 100000 in
def k19_66 : ex_C := c_psh 4294967295 (c_istore 1 (c_psh 0 (c_istore 2 (k19_70))))
set_option maxHeartbeats 100000 in
theorem kE19_66 : ex_CE 0 [] cd_19 k19_66 q19_66 := e_psh_iconst 66 4294967295 (-1) (e_istore_istore_n 67 0 1 1 rfl (e_psh_iconst 68 0 0 (e_istore_istore_n 69 0 2 2 rfl (kE19_70))))
set_option maxHeartbeats 100000 in
def k19_60 : ex_C := c_iinc 1 1 (c_goto 29)
set_option maxHeartbeats 100000 in
theorem kE19_60 : ex_CE 0 [] cd_19 k19_60 q19_60 := e_iinc 60 1 1 1 (e_goto 63 29 (-34))
set_option maxHeartbeats 100000 in
def k19_29 : ex_C := c_iload 1 (c_aload 0 (c_gf 3 14 (c_icmp_ge 66 (c_aload 0 (c_gf 3 13 (c_iload 1 (c_baload (c_if_eq 60 (c_aload 0 (c_iload 1 (c_aload 0 (c_gf 3 2 (c_iload 1 (c_iaload (c_psh 3 (c_iadd (c_psh 1 (c_invV [] cd_19 57 4 14 3 (k19_60)))))))))))))))))))
set_option maxHeartbeats 100000 in
theorem kE19_29 : ex_CE 0 [] cd_19 k19_29 q19_29 := e_iload_iload_n 29 0 1 1 rfl (e_aload_aload_n 30 0 0 0 rfl (e_gf 31 206 55 3 14 rfl rfl (e_icmp_ge 34 66 32 (e_aload_aload_n 37 0 0 0 rfl (e_gf 38 86221 51 3 13 rfl rfl (e_iload_iload_n 41 0 1 1 rfl (e_baload 42 0 (e_if_eq 43 60 17 (e_aload_aload_n 46 0 0 0 rfl (e_iload_iload_n 47 0 1 1 rfl (e_aload_aload_n 48 0 0 0 rfl (e_gf 49 86210 18 3 2 rfl rfl (e_iload_iload_n 52 0 1 1 rfl (e_iaload 53 0 (e_psh_iconst 54 3 3 (e_iadd 55 0 (e_psh_iconst 56 1 1 (e_invV_invokevirtual 57 245860 100 4 14 3 rfl rfl rfl rfl rfl rfl (kE19_60)))))))))))))))))))
set_option maxHeartbeats 100000 in
def k19_27 : ex_C := c_psh 0 (c_istore 1 (k19_29))
set_option maxHeartbeats 100000 in
theorem kE19_27 : ex_CE 0 [] cd_19 k19_27 q19_27 := e_psh_iconst 27 0 0 (e_istore_istore_n 28 0 1 1 rfl (kE19_29))
set_option maxHeartbeats 100000 in
def k19_20 : ex_C := c_bastore (c_iinc 1 1 (c_goto 2))
set_option maxHeartbeats 100000 in
theorem kE19_20 : ex_CE 0 [] cd_19 k19_20 q19_20 := e_bastore 20 0 (e_iinc 21 1 1 1 (e_goto 24 2 (-22)))
set_option maxHeartbeats 100000 in
def k19_2 : ex_C := c_iload 1 (c_aload 0 (c_gf 3 14 (c_icmp_ge 27 (c_aload 0 (c_gf 3 13 (c_iload 1 (c_aload 0 (c_iload 1 (c_invV [] cd_19 17 2 20 3 (k19_20))))))))))
set_option maxHeartbeats 100000 in
theorem kE19_2 : ex_CE 0 [] cd_19 k19_2 q19_2 := e_iload_iload_n 2 0 1 1 rfl (e_aload_aload_n 3 0 0 0 rfl (e_gf 4 206 55 3 14 rfl rfl (e_icmp_ge 7 27 20 (e_aload_aload_n 10 0 0 0 rfl (e_gf 11 86221 51 3 13 rfl rfl (e_iload_iload_n 14 0 1 1 rfl (e_aload_aload_n 15 0 0 0 rfl (e_iload_iload_n 16 0 1 1 rfl (e_invV_invokevirtual 17 295010 96 2 20 3 rfl rfl rfl rfl rfl rfl (kE19_20))))))))))
set_option maxHeartbeats 100000 in
def k19_0 : ex_C := c_psh 0 (c_istore 1 (k19_2))
set_option maxHeartbeats 100000 in
theorem kE19_0 : ex_CE 0 [] cd_19 k19_0 q19_0 := e_psh_iconst 0 0 0 (e_istore_istore_n 1 0 1 1 rfl (kE19_2))
def kt_19 : Nat → Option ex_C := fun pc => @Bool.rec (fun _ => Nat → Option ex_C) (fun pc => @Bool.rec (fun _ => Nat → Option ex_C) (fun pc => @Bool.rec (fun _ => Nat → Option ex_C) (fun pc => @Bool.rec (fun _ => Nat → Option ex_C) (fun pc => @Bool.rec (fun _ => Option ex_C) none (some k19_114) (Nat.beq pc 114)) (fun pc => @Bool.rec (fun _ => Option ex_C) none (some k19_108) (Nat.beq pc 108)) (Nat.ble pc 108) pc) (fun pc => @Bool.rec (fun _ => Option ex_C) none (some k19_97) (Nat.beq pc 97)) (Nat.ble pc 97) pc) (fun pc => @Bool.rec (fun _ => Nat → Option ex_C) (fun pc => @Bool.rec (fun _ => Nat → Option ex_C) (fun pc => @Bool.rec (fun _ => Option ex_C) none (some k19_92) (Nat.beq pc 92)) (fun pc => @Bool.rec (fun _ => Option ex_C) none (some k19_70) (Nat.beq pc 70)) (Nat.ble pc 70) pc) (fun pc => @Bool.rec (fun _ => Option ex_C) none (some k19_66) (Nat.beq pc 66)) (Nat.ble pc 66) pc) (Nat.ble pc 92) pc) (fun pc => @Bool.rec (fun _ => Nat → Option ex_C) (fun pc => @Bool.rec (fun _ => Nat → Option ex_C) (fun pc => @Bool.rec (fun _ => Nat → Option ex_C) (fun pc => @Bool.rec (fun _ => Option ex_C) none (some k19_60) (Nat.beq pc 60)) (fun pc => @Bool.rec (fun _ => Option ex_C) none (some k19_29) (Nat.beq pc 29)) (Nat.ble pc 29) pc) (fun pc => @Bool.rec (fun _ => Option ex_C) none (some k19_27) (Nat.beq pc 27)) (Nat.ble pc 27) pc) (fun pc => @Bool.rec (fun _ => Nat → Option ex_C) (fun pc => @Bool.rec (fun _ => Nat → Option ex_C) (fun pc => @Bool.rec (fun _ => Option ex_C) none (some k19_20) (Nat.beq pc 20)) (fun pc => @Bool.rec (fun _ => Option ex_C) none (some k19_2) (Nat.beq pc 2)) (Nat.ble pc 2) pc) (fun pc => @Bool.rec (fun _ => Option ex_C) none (some k19_0) (Nat.beq pc 0)) (Nat.ble pc 0) pc) (Nat.ble pc 20) pc) (Nat.ble pc 60) pc
theorem ktE_19 : ex_CTT 0 [] cd_19 kt_19 cd_19 := (ex_ct2 (ex_ct2 (ex_ct2 (ex_ct1 kE19_0) (ex_ct2 (ex_ct1 kE19_2) (ex_ct1 kE19_20))) (ex_ct2 (ex_ct1 kE19_27) (ex_ct2 (ex_ct1 kE19_29) (ex_ct1 kE19_60)))) (ex_ct2 (ex_ct2 (ex_ct1 kE19_66) (ex_ct2 (ex_ct1 kE19_70) (ex_ct1 kE19_92))) (ex_ct2 (ex_ct1 kE19_97) (ex_ct2 (ex_ct1 kE19_108) (ex_ct1 kE19_114)))))
set_option maxHeartbeats 100000 in
def k20_111 : ex_C := c_ireturn  1
set_option maxHeartbeats 100000 in
theorem kE20_111 : ex_CE 1 [] cd_20 k20_111 q20_111 := e_ireturn 111 0 
set_option maxHeartbeats 100000 in
def k20_110 : ex_C := c_psh 0 (k20_111)
set_option maxHeartbeats 100000 in
theorem kE20_110 : ex_CE 1 [] cd_20 k20_110 q20_110 := e_psh_iconst 110 0 0 (kE20_111)
set_option maxHeartbeats 100000 in
def k20_103 : ex_C := c_if_eq 110 (c_psh 1 (c_goto 111))
set_option maxHeartbeats 100000 in
theorem kE20_103 : ex_CE 1 [] cd_20 k20_103 q20_103 := e_if_eq 103 110 7 (e_psh_iconst 106 1 1 (e_goto 107 111 4))
set_option maxHeartbeats 100000 in
def k20_95 : ex_C := c_if_eq 110 (c_aload 0 (c_iload 2 (c_invV [] cd_20 100 2 21 3 (k20_103))))
set_option maxHeartbeats 100000 in
theorem kE20_95 : ex_CE 1 [] cd_20 k20_95 q20_95 := e_if_eq 95 110 15 (e_aload_aload_n 98 0 0 0 rfl (e_iload_iload_n 99 0 2 2 rfl (e_invV_invokevirtual 100 303202 107 2 21 3 rfl rfl rfl rfl rfl rfl (kE20_103))))
set_option maxHeartbeats 100000 in
def k20_66 : ex_C := c_iload 3 (c_psh 1 (c_icmp_ne 110 (c_aload 0 (c_gf 3 2 (c_iload 2 (c_iaload (c_aload 0 (c_gf 3 2 (c_iload 1 (c_iaload (c_psh 2 (c_iadd (c_psh 3 (c_iand (c_icmp_ne 110 (c_aload 0 (c_iload 1 (c_invV [] cd_20 92 2 21 3 (k20_95)))))))))))))))))))
set_option maxHeartbeats 100000 in
theorem kE20_66 : ex_CE 1 [] cd_20 k20_66 q20_66 := e_iload_iload_n 66 0 3 3 rfl (e_psh_iconst 67 1 1 (e_icmp_ne 68 110 42 (e_aload_aload_n 71 0 0 0 rfl (e_gf 72 86210 18 3 2 rfl rfl (e_iload_iload_n 75 0 2 2 rfl (e_iaload 76 0 (e_aload_aload_n 77 0 0 0 rfl (e_gf 78 86210 18 3 2 rfl rfl (e_iload_iload_n 81 0 1 1 rfl (e_iaload 82 0 (e_psh_iconst 83 2 2 (e_iadd 84 0 (e_psh_iconst 85 3 3 (e_iand 86 0 (e_icmp_ne 87 110 23 (e_aload_aload_n 90 0 0 0 rfl (e_iload_iload_n 91 0 1 1 rfl (e_invV_invokevirtual 92 303202 107 2 21 3 rfl rfl rfl rfl rfl rfl (kE20_95)))))))))))))))))))
set_option maxHeartbeats 100000 in
def k20_60 : ex_C := c_iinc 4 1 (c_goto 7)
set_option maxHeartbeats 100000 in
theorem kE20_60 : ex_CE 1 [] cd_20 k20_60 q20_60 := e_iinc 60 1 4 1 (e_goto 63 7 (-56))
set_option maxHeartbeats 100000 in
def k20_7 : ex_C := c_iload 4 (c_aload 0 (c_gf 3 14 (c_icmp_ge 66 (c_iload 4 (c_iload 1 (c_icmp_eq 60 (c_aload 0 (c_gf 3 0 (c_iload 4 (c_iaload (c_aload 0 (c_gf 3 0 (c_iload 1 (c_iaload (c_icmp_ne 60 (c_aload 0 (c_gf 3 1 (c_iload 4 (c_iaload (c_aload 0 (c_gf 3 1 (c_iload 1 (c_iaload (c_icmp_ne 60 (c_iload 4 (c_istore 2 (c_iinc 3 1 (k20_60))))))))))))))))))))))))))))
set_option maxHeartbeats 100000 in
theorem kE20_7 : ex_CE 1 [] cd_20 k20_7 q20_7 := e_iload_iload 7 0 4 (e_aload_aload_n 9 0 0 0 rfl (e_gf 10 206 55 3 14 rfl rfl (e_icmp_ge 13 66 53 (e_iload_iload 16 0 4 (e_iload_iload_n 18 0 1 1 rfl (e_icmp_eq 19 60 41 (e_aload_aload_n 22 0 0 0 rfl (e_gf 23 86208 9 3 0 rfl rfl (e_iload_iload 26 0 4 (e_iaload 28 0 (e_aload_aload_n 29 0 0 0 rfl (e_gf 30 86208 9 3 0 rfl rfl (e_iload_iload_n 33 0 1 1 rfl (e_iaload 34 0 (e_icmp_ne 35 60 25 (e_aload_aload_n 38 0 0 0 rfl (e_gf 39 86209 15 3 1 rfl rfl (e_iload_iload 42 0 4 (e_iaload 44 0 (e_aload_aload_n 45 0 0 0 rfl (e_gf 46 86209 15 3 1 rfl rfl (e_iload_iload_n 49 0 1 1 rfl (e_iaload 50 0 (e_icmp_ne 51 60 9 (e_iload_iload 54 0 4 (e_istore_istore_n 56 0 2 2 rfl (e_iinc 57 1 3 1 (kE20_60))))))))))))))))))))))))))))
set_option maxHeartbeats 100000 in
def k20_0 : ex_C := c_psh 4294967295 (c_istore 2 (c_psh 0 (c_istore 3 (c_psh 0 (c_istore 4 (k20_7))))))
set_option maxHeartbeats 100000 in
theorem kE20_0 : ex_CE 1 [] cd_20 k20_0 q20_0 := e_psh_iconst 0 4294967295 (-1) (e_istore_istore_n 1 0 2 2 rfl (e_psh_iconst 2 0 0 (e_istore_istore_n 3 0 3 3 rfl (e_psh_iconst 4 0 0 (e_istore_istore 5 0 4 (kE20_7))))))
def kt_20 : Nat → Option ex_C := fun pc => @Bool.rec (fun _ => Nat → Option ex_C) (fun pc => @Bool.rec (fun _ => Nat → Option ex_C) (fun pc => @Bool.rec (fun _ => Nat → Option ex_C) (fun pc => @Bool.rec (fun _ => Option ex_C) none (some k20_111) (Nat.beq pc 111)) (fun pc => @Bool.rec (fun _ => Option ex_C) none (some k20_110) (Nat.beq pc 110)) (Nat.ble pc 110) pc) (fun pc => @Bool.rec (fun _ => Nat → Option ex_C) (fun pc => @Bool.rec (fun _ => Option ex_C) none (some k20_103) (Nat.beq pc 103)) (fun pc => @Bool.rec (fun _ => Option ex_C) none (some k20_95) (Nat.beq pc 95)) (Nat.ble pc 95) pc) (Nat.ble pc 103) pc) (fun pc => @Bool.rec (fun _ => Nat → Option ex_C) (fun pc => @Bool.rec (fun _ => Nat → Option ex_C) (fun pc => @Bool.rec (fun _ => Option ex_C) none (some k20_66) (Nat.beq pc 66)) (fun pc => @Bool.rec (fun _ => Option ex_C) none (some k20_60) (Nat.beq pc 60)) (Nat.ble pc 60) pc) (fun pc => @Bool.rec (fun _ => Nat → Option ex_C) (fun pc => @Bool.rec (fun _ => Option ex_C) none (some k20_7) (Nat.beq pc 7)) (fun pc => @Bool.rec (fun _ => Option ex_C) none (some k20_0) (Nat.beq pc 0)) (Nat.ble pc 0) pc) (Nat.ble pc 7) pc) (Nat.ble pc 66) pc
theorem ktE_20 : ex_CTT 1 [] cd_20 kt_20 cd_20 := (ex_ct2 (ex_ct2 (ex_ct2 (ex_ct1 kE20_0) (ex_ct1 kE20_7)) (ex_ct2 (ex_ct1 kE20_60) (ex_ct1 kE20_66))) (ex_ct2 (ex_ct2 (ex_ct1 kE20_95) (ex_ct1 kE20_103)) (ex_ct2 (ex_ct1 kE20_110) (ex_ct1 kE20_111))))
set_option maxHeartbeats 100000 in
def k21_35 : ex_C := c_ireturn  1
set_option maxHeartbeats 100000 in
theorem kE21_35 : ex_CE 1 [] cd_21 k21_35 q21_35 := e_ireturn 35 0 
set_option maxHeartbeats 100000 in
def k21_34 : ex_C := c_psh 0 (k21_35)
set_option maxHeartbeats 100000 in
theorem kE21_34 : ex_CE 1 [] cd_21 k21_34 q21_34 := e_psh_iconst 34 0 0 (kE21_35)
set_option maxHeartbeats 100000 in
def k21_30 : ex_C := c_psh 1 (c_goto 35)
set_option maxHeartbeats 100000 in
theorem kE21_30 : ex_CE 1 [] cd_21 k21_30 q21_30 := e_psh_iconst 30 1 1 (e_goto 31 35 4)
set_option maxHeartbeats 100000 in
def k21_0 : ex_C := c_aload 0 (c_gf 3 0 (c_iload 1 (c_iaload (c_aload 0 (c_gf 3 6 (c_iload 1 (c_iaload (c_icmp_ne 30 (c_aload 0 (c_gf 3 1 (c_iload 1 (c_iaload (c_aload 0 (c_gf 3 7 (c_iload 1 (c_iaload (c_icmp_eq 34 (k21_30))))))))))))))))))
set_option maxHeartbeats 100000 in
theorem kE21_0 : ex_CE 1 [] cd_21 k21_0 q21_0 := e_aload_aload_n 0 0 0 0 rfl (e_gf 1 86208 9 3 0 rfl rfl (e_iload_iload_n 4 0 1 1 rfl (e_iaload 5 0 (e_aload_aload_n 6 0 0 0 rfl (e_gf 7 86214 30 3 6 rfl rfl (e_iload_iload_n 10 0 1 1 rfl (e_iaload 11 0 (e_icmp_ne 12 30 18 (e_aload_aload_n 15 0 0 0 rfl (e_gf 16 86209 15 3 1 rfl rfl (e_iload_iload_n 19 0 1 1 rfl (e_iaload 20 0 (e_aload_aload_n 21 0 0 0 rfl (e_gf 22 86215 33 3 7 rfl rfl (e_iload_iload_n 25 0 1 1 rfl (e_iaload 26 0 (e_icmp_eq 27 34 7 (kE21_30))))))))))))))))))
def kt_21 : Nat → Option ex_C := fun pc => @Bool.rec (fun _ => Nat → Option ex_C) (fun pc => @Bool.rec (fun _ => Nat → Option ex_C) (fun pc => @Bool.rec (fun _ => Option ex_C) none (some k21_35) (Nat.beq pc 35)) (fun pc => @Bool.rec (fun _ => Option ex_C) none (some k21_34) (Nat.beq pc 34)) (Nat.ble pc 34) pc) (fun pc => @Bool.rec (fun _ => Nat → Option ex_C) (fun pc => @Bool.rec (fun _ => Option ex_C) none (some k21_30) (Nat.beq pc 30)) (fun pc => @Bool.rec (fun _ => Option ex_C) none (some k21_0) (Nat.beq pc 0)) (Nat.ble pc 0) pc) (Nat.ble pc 30) pc
theorem ktE_21 : ex_CTT 1 [] cd_21 kt_21 cd_21 := (ex_ct2 (ex_ct2 (ex_ct1 kE21_0) (ex_ct1 kE21_30)) (ex_ct2 (ex_ct1 kE21_34) (ex_ct1 kE21_35)))
set_option maxHeartbeats 100000 in
def k22_51 : ex_C := c_iload 2 (c_ireturn  0)
set_option maxHeartbeats 100000 in
theorem kE22_51 : ex_CE 0 [] cd_22 k22_51 q22_51 := e_iload_iload_n 51 0 2 2 rfl (e_ireturn 52 0 )
set_option maxHeartbeats 100000 in
def k22_45 : ex_C := c_iinc 3 1 (c_goto 4)
set_option maxHeartbeats 100000 in
theorem kE22_45 : ex_CE 0 [] cd_22 k22_45 q22_45 := e_iinc 45 1 3 1 (e_goto 48 4 (-44))
set_option maxHeartbeats 100000 in
def k22_4 : ex_C := c_iload 3 (c_aload 0 (c_gf 3 14 (c_icmp_ge 51 (c_aload 0 (c_gf 3 0 (c_iload 3 (c_iaload (c_aload 0 (c_gf 3 0 (c_iload 1 (c_iaload (c_icmp_ne 45 (c_aload 0 (c_gf 3 1 (c_iload 3 (c_iaload (c_aload 0 (c_gf 3 1 (c_iload 1 (c_iaload (c_icmp_ne 45 (c_iinc 2 1 (k22_45)))))))))))))))))))))))
set_option maxHeartbeats 100000 in
theorem kE22_4 : ex_CE 0 [] cd_22 k22_4 q22_4 := e_iload_iload_n 4 0 3 3 rfl (e_aload_aload_n 5 0 0 0 rfl (e_gf 6 206 55 3 14 rfl rfl (e_icmp_ge 9 51 42 (e_aload_aload_n 12 0 0 0 rfl (e_gf 13 86208 9 3 0 rfl rfl (e_iload_iload_n 16 0 3 3 rfl (e_iaload 17 0 (e_aload_aload_n 18 0 0 0 rfl (e_gf 19 86208 9 3 0 rfl rfl (e_iload_iload_n 22 0 1 1 rfl (e_iaload 23 0 (e_icmp_ne 24 45 21 (e_aload_aload_n 27 0 0 0 rfl (e_gf 28 86209 15 3 1 rfl rfl (e_iload_iload_n 31 0 3 3 rfl (e_iaload 32 0 (e_aload_aload_n 33 0 0 0 rfl (e_gf 34 86209 15 3 1 rfl rfl (e_iload_iload_n 37 0 1 1 rfl (e_iaload 38 0 (e_icmp_ne 39 45 6 (e_iinc 42 1 2 1 (kE22_45)))))))))))))))))))))))
set_option maxHeartbeats 100000 in
def k22_0 : ex_C := c_psh 0 (c_istore 2 (c_psh 0 (c_istore 3 (k22_4))))
set_option maxHeartbeats 100000 in
theorem kE22_0 : ex_CE 0 [] cd_22 k22_0 q22_0 := e_psh_iconst 0 0 0 (e_istore_istore_n 1 0 2 2 rfl (e_psh_iconst 2 0 0 (e_istore_istore_n 3 0 3 3 rfl (kE22_4))))
def kt_22 : Nat → Option ex_C := fun pc => @Bool.rec (fun _ => Nat → Option ex_C) (fun pc => @Bool.rec (fun _ => Nat → Option ex_C) (fun pc => @Bool.rec (fun _ => Option ex_C) none (some k22_51) (Nat.beq pc 51)) (fun pc => @Bool.rec (fun _ => Option ex_C) none (some k22_45) (Nat.beq pc 45)) (Nat.ble pc 45) pc) (fun pc => @Bool.rec (fun _ => Nat → Option ex_C) (fun pc => @Bool.rec (fun _ => Option ex_C) none (some k22_4) (Nat.beq pc 4)) (fun pc => @Bool.rec (fun _ => Option ex_C) none (some k22_0) (Nat.beq pc 0)) (Nat.ble pc 0) pc) (Nat.ble pc 4) pc
theorem ktE_22 : ex_CTT 0 [] cd_22 kt_22 cd_22 := (ex_ct2 (ex_ct2 (ex_ct1 kE22_0) (ex_ct1 kE22_4)) (ex_ct2 (ex_ct1 kE22_45) (ex_ct1 kE22_51)))
set_option maxHeartbeats 100000 in
def k23_135 : ex_C := c_return_  15
set_option maxHeartbeats 100000 in
theorem kE23_135 : ex_CE 15 [] cd_23 k23_135 q23_135 := e_return_ 135 0 
set_option maxHeartbeats 100000 in
def k23_129 : ex_C := c_iinc 4 1 (c_goto 3)
set_option maxHeartbeats 100000 in
theorem kE23_129 : ex_CE 15 [] cd_23 k23_129 q23_129 := e_iinc 129 1 4 1 (e_goto 132 3 (-129))
set_option maxHeartbeats 100000 in
def k23_107 : ex_C := c_aload 0 (c_aload 1 (c_iload 4 (c_aload 1 (c_gf 3 12 (c_iload 4 (c_iaload (c_iload 5 (c_iload 6 (c_iload 7 (c_psh 2 (c_iadd (c_invV [] cd_23 126 7 24 3 (k23_129)))))))))))))
set_option maxHeartbeats 100000 in
theorem kE23_107 : ex_CE 15 [] cd_23 k23_107 q23_107 := e_aload_aload_n 107 0 0 0 rfl (e_aload_aload_n 108 0 1 1 rfl (e_iload_iload 109 0 4 (e_aload_aload_n 111 0 1 1 rfl (e_gf 112 86220 48 3 12 rfl rfl (e_iload_iload 115 0 4 (e_iaload 117 0 (e_iload_iload 118 0 5 (e_iload_iload 120 0 6 (e_iload_iload 122 0 7 (e_psh_iconst 124 2 2 (e_iadd 125 0 (e_invV_invokevirtual 126 327783 110 7 24 3 rfl rfl rfl rfl rfl rfl (kE23_129)))))))))))))
set_option maxHeartbeats 100000 in
def k23_85 : ex_C := c_istore 7 (c_aload 0 (c_aload 1 (c_iload 4 (c_aload 1 (c_gf 3 11 (c_iload 4 (c_iaload (c_iload 5 (c_iload 6 (c_iload 7 (c_invV [] cd_23 104 7 24 3 (k23_107))))))))))))
set_option maxHeartbeats 100000 in
theorem kE23_85 : ex_CE 15 [] cd_23 k23_85 q23_85 := e_istore_istore 85 0 7 (e_aload_aload_n 87 0 0 0 rfl (e_aload_aload_n 88 0 1 1 rfl (e_iload_iload 89 0 4 (e_aload_aload_n 91 0 1 1 rfl (e_gf 92 86219 45 3 11 rfl rfl (e_iload_iload 95 0 4 (e_iaload 97 0 (e_iload_iload 98 0 5 (e_iload_iload 100 0 6 (e_iload_iload 102 0 7 (e_invV_invokevirtual 104 327783 110 7 24 3 rfl rfl rfl rfl rfl rfl (kE23_107))))))))))))
set_option maxHeartbeats 100000 in
def k23_76 : ex_C := c_aload 1 (c_gf 3 2 (c_iload 4 (c_iaload (c_psh 3 (c_iadd (k23_85))))))
set_option maxHeartbeats 100000 in
theorem kE23_76 : ex_CE 15 [] cd_23 k23_76 q23_76 := e_aload_aload_n 76 0 1 1 rfl (e_gf 77 86210 18 3 2 rfl rfl (e_iload_iload 80 0 4 (e_iaload 82 0 (e_psh_iconst 83 3 3 (e_iadd 84 0 (kE23_85))))))
set_option maxHeartbeats 100000 in
def k23_60 : ex_C := c_istore 6 (c_iload 2 (c_if_eq 76 (c_aload 1 (c_gf 3 2 (c_iload 4 (c_iaload (c_goto 85)))))))
set_option maxHeartbeats 100000 in
theorem kE23_60 : ex_CE 15 [] cd_23 k23_60 q23_60 := e_istore_istore 60 0 6 (e_iload_iload_n 62 0 2 2 rfl (e_if_eq 63 76 13 (e_aload_aload_n 66 0 1 1 rfl (e_gf 67 86210 18 3 2 rfl rfl (e_iload_iload 70 0 4 (e_iaload 72 0 (e_goto 73 85 12)))))))
set_option maxHeartbeats 100000 in
def k23_51 : ex_C := c_psh 2 (c_aload 1 (c_gf 3 1 (c_iload 4 (c_iaload (c_imul (k23_60))))))
set_option maxHeartbeats 100000 in
theorem kE23_51 : ex_CE 15 [] cd_23 k23_51 q23_51 := e_psh_iconst 51 2 2 (e_aload_aload_n 52 0 1 1 rfl (e_gf 53 86209 15 3 1 rfl rfl (e_iload_iload 56 0 4 (e_iaload 58 0 (e_imul 59 0 (kE23_60))))))
set_option maxHeartbeats 100000 in
def k23_35 : ex_C := c_istore 5 (c_iload 3 (c_if_eq 51 (c_aload 1 (c_gf 3 1 (c_iload 4 (c_iaload (c_goto 60)))))))
set_option maxHeartbeats 100000 in
theorem kE23_35 : ex_CE 15 [] cd_23 k23_35 q23_35 := e_istore_istore 35 0 5 (e_iload_iload_n 37 0 3 3 rfl (e_if_eq 38 51 13 (e_aload_aload_n 41 0 1 1 rfl (e_gf 42 86209 15 3 1 rfl rfl (e_iload_iload 45 0 4 (e_iaload 47 0 (e_goto 48 60 12)))))))
set_option maxHeartbeats 100000 in
def k23_28 : ex_C := c_aload 1 (c_gf 3 0 (c_iload 4 (c_iaload (k23_35))))
set_option maxHeartbeats 100000 in
theorem kE23_28 : ex_CE 15 [] cd_23 k23_28 q23_28 := e_aload_aload_n 28 0 1 1 rfl (e_gf 29 86208 9 3 0 rfl rfl (e_iload_iload 32 0 4 (e_iaload 34 0 (kE23_35))))
set_option maxHeartbeats 100000 in
def k23_3 : ex_C := c_iload 4 (c_aload 1 (c_gf 3 14 (c_icmp_ge 135 (c_iload 3 (c_if_eq 28 (c_psh 2 (c_aload 1 (c_gf 3 0 (c_iload 4 (c_iaload (c_imul (c_goto 35))))))))))))
set_option maxHeartbeats 100000 in
theorem kE23_3 : ex_CE 15 [] cd_23 k23_3 q23_3 := e_iload_iload 3 0 4 (e_aload_aload_n 5 0 1 1 rfl (e_gf 6 206 55 3 14 rfl rfl (e_icmp_ge 9 135 126 (e_iload_iload_n 12 0 3 3 rfl (e_if_eq 13 28 15 (e_psh_iconst 16 2 2 (e_aload_aload_n 17 0 1 1 rfl (e_gf 18 86208 9 3 0 rfl rfl (e_iload_iload 21 0 4 (e_iaload 23 0 (e_imul 24 0 (e_goto 25 35 10))))))))))))
set_option maxHeartbeats 100000 in
def k23_0 : ex_C := c_psh 0 (c_istore 4 (k23_3))
set_option maxHeartbeats 100000 in
theorem kE23_0 : ex_CE 15 [] cd_23 k23_0 q23_0 := e_psh_iconst 0 0 0 (e_istore_istore 1 0 4 (kE23_3))
def kt_23 : Nat → Option ex_C := fun pc => @Bool.rec (fun _ => Nat → Option ex_C) (fun pc => @Bool.rec (fun _ => Nat → Option ex_C) (fun pc => @Bool.rec (fun _ => Nat → Option ex_C) (fun pc => @Bool.rec (fun _ => Nat → Option ex_C) (fun pc => @Bool.rec (fun _ => Option ex_C) none (some k23_135) (Nat.beq pc 135)) (fun pc => @Bool.rec (fun _ => Option ex_C) none (some k23_129) (Nat.beq pc 129)) (Nat.ble pc 129) pc) (fun pc => @Bool.rec (fun _ => Option ex_C) none (some k23_107) (Nat.beq pc 107)) (Nat.ble pc 107) pc) (fun pc => @Bool.rec (fun _ => Nat → Option ex_C) (fun pc => @Bool.rec (fun _ => Nat → Option ex_C) (fun pc => @Bool.rec (fun _ => Option ex_C) none (some k23_85) (Nat.beq pc 85)) (fun pc => @Bool.rec (fun _ => Option ex_C) none (some k23_76) (Nat.beq pc 76)) (Nat.ble pc 76) pc) (fun pc => @Bool.rec (fun _ => Option ex_C) none (some k23_60) (Nat.beq pc 60)) (Nat.ble pc 60) pc) (Nat.ble pc 85) pc) (fun pc => @Bool.rec (fun _ => Nat → Option ex_C) (fun pc => @Bool.rec (fun _ => Nat → Option ex_C) (fun pc => @Bool.rec (fun _ => Nat → Option ex_C) (fun pc => @Bool.rec (fun _ => Option ex_C) none (some k23_51) (Nat.beq pc 51)) (fun pc => @Bool.rec (fun _ => Option ex_C) none (some k23_35) (Nat.beq pc 35)) (Nat.ble pc 35) pc) (fun pc => @Bool.rec (fun _ => Option ex_C) none (some k23_28) (Nat.beq pc 28)) (Nat.ble pc 28) pc) (fun pc => @Bool.rec (fun _ => Nat → Option ex_C) (fun pc => @Bool.rec (fun _ => Option ex_C) none (some k23_3) (Nat.beq pc 3)) (fun pc => @Bool.rec (fun _ => Option ex_C) none (some k23_0) (Nat.beq pc 0)) (Nat.ble pc 0) pc) (Nat.ble pc 3) pc) (Nat.ble pc 51) pc
theorem ktE_23 : ex_CTT 15 [] cd_23 kt_23 cd_23 := (ex_ct2 (ex_ct2 (ex_ct2 (ex_ct1 kE23_0) (ex_ct1 kE23_3)) (ex_ct2 (ex_ct1 kE23_28) (ex_ct2 (ex_ct1 kE23_35) (ex_ct1 kE23_51)))) (ex_ct2 (ex_ct2 (ex_ct1 kE23_60) (ex_ct2 (ex_ct1 kE23_76) (ex_ct1 kE23_85))) (ex_ct2 (ex_ct1 kE23_107) (ex_ct2 (ex_ct1 kE23_129) (ex_ct1 kE23_135)))))
set_option maxHeartbeats 100000 in
def k24_82 : ex_C := c_return_  15
set_option maxHeartbeats 100000 in
theorem kE24_82 : ex_CE 15 [] cd_24 k24_82 q24_82 := e_return_ 82 0 
set_option maxHeartbeats 100000 in
def k24_71 : ex_C := c_aload 0 (c_iload 3 (c_aload 1 (c_gf 3 10 (c_iload 2 (c_iaload (c_invV [] cd_24 79 3 18 3 (k24_82)))))))
set_option maxHeartbeats 100000 in
theorem kE24_71 : ex_CE 15 [] cd_24 k24_71 q24_71 := e_aload_aload_n 71 0 0 0 rfl (e_iload_iload_n 72 0 3 3 rfl (e_aload_aload_n 73 0 1 1 rfl (e_gf 74 86218 42 3 10 rfl rfl (e_iload_iload_n 77 0 2 2 rfl (e_iaload 78 0 (e_invV_invokevirtual 79 278627 114 3 18 3 rfl rfl rfl rfl rfl rfl (kE24_82)))))))
set_option maxHeartbeats 100000 in
def k24_24 : ex_C := c_aload 0 (c_gf 3 2 (c_iload 3 (c_aload 1 (c_gf 3 2 (c_iload 2 (c_iaload (c_iastore (c_aload 0 (c_gf 3 8 (c_iload 3 (c_dup2   (c_iaload (c_aload 1 (c_gf 3 8 (c_iload 2 (c_iaload (c_iadd (c_iastore (c_aload 1 (c_gf 3 9 (c_iload 2 (c_iaload (c_if_eq 82 (c_aload 0 (c_iload 3 (c_aload 1 (c_gf 3 9 (c_iload 2 (c_iaload (c_invV [] cd_24 68 3 18 3 (k24_71)))))))))))))))))))))))))))))))
set_option maxHeartbeats 100000 in
theorem kE24_24 : ex_CE 15 [] cd_24 k24_24 q24_24 := e_aload_aload_n 24 0 0 0 rfl (e_gf 25 86210 18 3 2 rfl rfl (e_iload_iload_n 28 0 3 3 rfl (e_aload_aload_n 29 0 1 1 rfl (e_gf 30 86210 18 3 2 rfl rfl (e_iload_iload_n 33 0 2 2 rfl (e_iaload 34 0 (e_iastore 35 0 (e_aload_aload_n 36 0 0 0 rfl (e_gf 37 86216 36 3 8 rfl rfl (e_iload_iload_n 40 0 3 3 rfl (e_dup2 41 0  (e_iaload 42 0 (e_aload_aload_n 43 0 1 1 rfl (e_gf 44 86216 36 3 8 rfl rfl (e_iload_iload_n 47 0 2 2 rfl (e_iaload 48 0 (e_iadd 49 0 (e_iastore 50 0 (e_aload_aload_n 51 0 1 1 rfl (e_gf 52 86217 39 3 9 rfl rfl (e_iload_iload_n 55 0 2 2 rfl (e_iaload 56 0 (e_if_eq 57 82 25 (e_aload_aload_n 60 0 0 0 rfl (e_iload_iload_n 61 0 3 3 rfl (e_aload_aload_n 62 0 1 1 rfl (e_gf 63 86217 39 3 9 rfl rfl (e_iload_iload_n 66 0 2 2 rfl (e_iaload 67 0 (e_invV_invokevirtual 68 278627 114 3 18 3 rfl rfl rfl rfl rfl rfl (kE24_71)))))))))))))))))))))))))))))))
set_option maxHeartbeats 100000 in
def k24_0 : ex_C := c_aload 0 (c_gf 3 0 (c_iload 3 (c_iload 4 (c_iastore (c_aload 0 (c_gf 3 1 (c_iload 3 (c_iload 5 (c_iastore (c_aload 0 (c_iload 3 (c_iload 6 (c_psh 1 (c_invV [] cd_24 21 4 14 3 (k24_24)))))))))))))))
set_option maxHeartbeats 100000 in
theorem kE24_0 : ex_CE 15 [] cd_24 k24_0 q24_0 := e_aload_aload_n 0 0 0 0 rfl (e_gf 1 86208 9 3 0 rfl rfl (e_iload_iload_n 4 0 3 3 rfl (e_iload_iload 5 0 4 (e_iastore 7 0 (e_aload_aload_n 8 0 0 0 rfl (e_gf 9 86209 15 3 1 rfl rfl (e_iload_iload_n 12 0 3 3 rfl (e_iload_iload 13 0 5 (e_iastore 15 0 (e_aload_aload_n 16 0 0 0 rfl (e_iload_iload_n 17 0 3 3 rfl (e_iload_iload 18 0 6 (e_psh_iconst 20 1 1 (e_invV_invokevirtual 21 245860 100 4 14 3 rfl rfl rfl rfl rfl rfl (kE24_24)))))))))))))))
def kt_24 : Nat → Option ex_C := fun pc => @Bool.rec (fun _ => Nat → Option ex_C) (fun pc => @Bool.rec (fun _ => Nat → Option ex_C) (fun pc => @Bool.rec (fun _ => Option ex_C) none (some k24_82) (Nat.beq pc 82)) (fun pc => @Bool.rec (fun _ => Option ex_C) none (some k24_71) (Nat.beq pc 71)) (Nat.ble pc 71) pc) (fun pc => @Bool.rec (fun _ => Nat → Option ex_C) (fun pc => @Bool.rec (fun _ => Option ex_C) none (some k24_24) (Nat.beq pc 24)) (fun pc => @Bool.rec (fun _ => Option ex_C) none (some k24_0) (Nat.beq pc 0)) (Nat.ble pc 0) pc) (Nat.ble pc 24) pc
theorem ktE_24 : ex_CTT 15 [] cd_24 kt_24 cd_24 := (ex_ct2 (ex_ct2 (ex_ct1 kE24_0) (ex_ct1 kE24_24)) (ex_ct2 (ex_ct1 kE24_71) (ex_ct1 kE24_82)))
set_option maxHeartbeats 100000 in
def k25_0 : ex_C := c_aload 0 (c_oinit (c_aload 0 (c_psh 8 (c_newarr 64 0 (c_pf 8 5 0 (c_aload 0 (c_psh 8 (c_newarr 64 0 (c_pf 8 5 1 (c_aload 0 (c_psh 8 (c_newarr 64 0 (c_pf 8 5 2 (c_aload 0 (c_psh 0 (c_pf 8 0 3 (c_aload 0 (c_psh 0 (c_pf 8 0 4 (c_return_  15))))))))))))))))))))
set_option maxHeartbeats 100000 in
theorem kE25_0 : ex_CE 15 [] cd_25 k25_0 q25_0 := e_aload_aload_n 0 0 0 0 rfl (e_oinit (e_aload_aload_n 4 0 0 0 rfl (e_psh_bipush 5 8 8 (e_newarr 7 64 0 rfl (e_pf 9 86528 9 8 5 0 rfl rfl rfl (e_aload_aload_n 12 0 0 0 rfl (e_psh_bipush 13 8 8 (e_newarr 15 64 0 rfl (e_pf 17 86529 15 8 5 1 rfl rfl rfl (e_aload_aload_n 20 0 0 0 rfl (e_psh_bipush 21 8 8 (e_newarr 23 64 0 rfl (e_pf 25 86530 18 8 5 2 rfl rfl rfl (e_aload_aload_n 28 0 0 0 rfl (e_psh_iconst 29 0 0 (e_pf 30 515 21 8 0 3 rfl rfl rfl (e_aload_aload_n 33 0 0 0 rfl (e_psh_iconst 34 0 0 (e_pf 35 516 25 8 0 4 rfl rfl rfl (e_return_ 38 0 ))))))))))))))))))))
def kt_25 : Nat → Option ex_C := fun pc => @Bool.rec (fun _ => Option ex_C) none (some k25_0) (Nat.beq pc 0)
theorem ktE_25 : ex_CTT 15 [] cd_25 kt_25 cd_25 := (ex_ct1 kE25_0)
set_option maxHeartbeats 100000 in
def k26_35 : ex_C := c_aload 0 (c_psh 0 (c_pf 8 0 3 (c_aload 0 (c_psh 0 (c_pf 8 0 4 (c_return_  15))))))
set_option maxHeartbeats 100000 in
theorem kE26_35 : ex_CE 15 [] cd_26 k26_35 q26_35 := e_aload_aload_n 35 0 0 0 rfl (e_psh_iconst 36 0 0 (e_pf 37 515 21 8 0 3 rfl rfl rfl (e_aload_aload_n 40 0 0 0 rfl (e_psh_iconst 41 0 0 (e_pf 42 516 25 8 0 4 rfl rfl rfl (e_return_ 45 0 ))))))
set_option maxHeartbeats 100000 in
def k26_2 : ex_C := c_iload 1 (c_psh 8 (c_icmp_ge 35 (c_aload 0 (c_gf 8 0 (c_iload 1 (c_psh 0 (c_iastore (c_aload 0 (c_gf 8 1 (c_iload 1 (c_psh 0 (c_iastore (c_aload 0 (c_gf 8 2 (c_iload 1 (c_psh 0 (c_iastore (c_iinc 1 1 (c_goto 2)))))))))))))))))))
set_option maxHeartbeats 100000 in
theorem kE26_2 : ex_CE 15 [] cd_26 k26_2 q26_2 := e_iload_iload_n 2 0 1 1 rfl (e_psh_bipush 3 8 8 (e_icmp_ge 5 35 30 (e_aload_aload_n 8 0 0 0 rfl (e_gf 9 86528 9 8 0 rfl rfl (e_iload_iload_n 12 0 1 1 rfl (e_psh_iconst 13 0 0 (e_iastore 14 0 (e_aload_aload_n 15 0 0 0 rfl (e_gf 16 86529 15 8 1 rfl rfl (e_iload_iload_n 19 0 1 1 rfl (e_psh_iconst 20 0 0 (e_iastore 21 0 (e_aload_aload_n 22 0 0 0 rfl (e_gf 23 86530 18 8 2 rfl rfl (e_iload_iload_n 26 0 1 1 rfl (e_psh_iconst 27 0 0 (e_iastore 28 0 (e_iinc 29 1 1 1 (e_goto 32 2 (-30))))))))))))))))))))
set_option maxHeartbeats 100000 in
def k26_0 : ex_C := c_psh 0 (c_istore 1 (k26_2))
set_option maxHeartbeats 100000 in
theorem kE26_0 : ex_CE 15 [] cd_26 k26_0 q26_0 := e_psh_iconst 0 0 0 (e_istore_istore_n 1 0 1 1 rfl (kE26_2))
def kt_26 : Nat → Option ex_C := fun pc => @Bool.rec (fun _ => Nat → Option ex_C) (fun pc => @Bool.rec (fun _ => Nat → Option ex_C) (fun pc => @Bool.rec (fun _ => Option ex_C) none (some k26_35) (Nat.beq pc 35)) (fun pc => @Bool.rec (fun _ => Option ex_C) none (some k26_2) (Nat.beq pc 2)) (Nat.ble pc 2) pc) (fun pc => @Bool.rec (fun _ => Option ex_C) none (some k26_0) (Nat.beq pc 0)) (Nat.ble pc 0) pc
theorem ktE_26 : ex_CTT 15 [] cd_26 kt_26 cd_26 := (ex_ct2 (ex_ct1 kE26_0) (ex_ct2 (ex_ct1 kE26_2) (ex_ct1 kE26_35)))
set_option maxHeartbeats 100000 in
def k27_129 : ex_C := c_return_  15
set_option maxHeartbeats 100000 in
theorem kE27_129 : ex_CE 15 [] cd_27 k27_129 q27_129 := e_return_ 129 0 
set_option maxHeartbeats 100000 in
def k27_123 : ex_C := c_iinc 2 1 (c_goto 2)
set_option maxHeartbeats 100000 in
theorem kE27_123 : ex_CE 15 [] cd_27 k27_123 q27_123 := e_iinc 123 1 2 1 (e_goto 126 2 (-124))
set_option maxHeartbeats 100000 in
def k27_107 : ex_C := c_iadd (c_pf 8 0 4 (c_aload 0 (c_gf 8 2 (c_iload 2 (c_aload 1 (c_gf 3 10 (c_iload 2 (c_iaload (c_iastore (k27_123))))))))))
set_option maxHeartbeats 100000 in
theorem kE27_107 : ex_CE 15 [] cd_27 k27_107 q27_107 := e_iadd 107 0 (e_pf 108 516 25 8 0 4 rfl rfl rfl (e_aload_aload_n 111 0 0 0 rfl (e_gf 112 86530 18 8 2 rfl rfl (e_iload_iload_n 115 0 2 2 rfl (e_aload_aload_n 116 0 1 1 rfl (e_gf 117 86218 36 3 10 rfl rfl (e_iload_iload_n 120 0 2 2 rfl (e_iaload 121 0 (e_iastore 122 0 (kE27_123))))))))))
set_option maxHeartbeats 100000 in
def k27_106 : ex_C := c_psh 0 (k27_107)
set_option maxHeartbeats 100000 in
theorem kE27_106 : ex_CE 15 [] cd_27 k27_106 q27_106 := e_psh_iconst 106 0 0 (kE27_107)
set_option maxHeartbeats 100000 in
def k27_73 : ex_C := c_aload 1 (c_gf 3 9 (c_iload 2 (c_iaload (c_if_eq 123 (c_aload 0 (c_dup   (c_gf 8 4 (c_aload 1 (c_gf 3 9 (c_iload 2 (c_iaload (c_aload 0 (c_gf 8 2 (c_iload 2 (c_iaload (c_icmp_ne 106 (c_psh 1 (c_goto 107))))))))))))))))))
set_option maxHeartbeats 100000 in
theorem kE27_73 : ex_CE 15 [] cd_27 k27_73 q27_73 := e_aload_aload_n 73 0 1 1 rfl (e_gf 74 86217 33 3 9 rfl rfl (e_iload_iload_n 77 0 2 2 rfl (e_iaload 78 0 (e_if_eq 79 123 44 (e_aload_aload_n 82 0 0 0 rfl (e_dup 83 0  (e_gf 84 516 25 8 4 rfl rfl (e_aload_aload_n 87 0 1 1 rfl (e_gf 88 86217 33 3 9 rfl rfl (e_iload_iload_n 91 0 2 2 rfl (e_iaload 92 0 (e_aload_aload_n 93 0 0 0 rfl (e_gf 94 86530 18 8 2 rfl rfl (e_iload_iload_n 97 0 2 2 rfl (e_iaload 98 0 (e_icmp_ne 99 106 7 (e_psh_iconst 102 1 1 (e_goto 103 107 4))))))))))))))))))
set_option maxHeartbeats 100000 in
def k27_62 : ex_C := c_iadd (c_pf 8 0 3 (c_aload 0 (c_gf 8 1 (c_iload 2 (c_iload 3 (c_iastore (k27_73)))))))
set_option maxHeartbeats 100000 in
theorem kE27_62 : ex_CE 15 [] cd_27 k27_62 q27_62 := e_iadd 62 0 (e_pf 63 515 21 8 0 3 rfl rfl rfl (e_aload_aload_n 66 0 0 0 rfl (e_gf 67 86529 15 8 1 rfl rfl (e_iload_iload_n 70 0 2 2 rfl (e_iload_iload_n 71 0 3 3 rfl (e_iastore 72 0 (kE27_73)))))))
set_option maxHeartbeats 100000 in
def k27_61 : ex_C := c_psh 0 (k27_62)
set_option maxHeartbeats 100000 in
theorem kE27_61 : ex_CE 15 [] cd_27 k27_61 q27_61 := e_psh_iconst 61 0 0 (kE27_62)
set_option maxHeartbeats 100000 in
def k27_57 : ex_C := c_psh 1 (c_goto 62)
set_option maxHeartbeats 100000 in
theorem kE27_57 : ex_CE 15 [] cd_27 k27_57 q27_57 := e_psh_iconst 57 1 1 (e_goto 58 62 4)
set_option maxHeartbeats 100000 in
def k27_44 : ex_C := c_iload 3 (c_if_ge 61 (c_aload 0 (c_gf 8 1 (c_iload 2 (c_iaload (c_if_le 61 (k27_57)))))))
set_option maxHeartbeats 100000 in
theorem kE27_44 : ex_CE 15 [] cd_27 k27_44 q27_44 := e_iload_iload_n 44 0 3 3 rfl (e_if_ge 45 61 16 (e_aload_aload_n 48 0 0 0 rfl (e_gf 49 86529 15 8 1 rfl rfl (e_iload_iload_n 52 0 2 2 rfl (e_iaload 53 0 (e_if_le 54 61 7 (kE27_57)))))))
set_option maxHeartbeats 100000 in
def k27_2 : ex_C := c_iload 2 (c_psh 8 (c_icmp_ge 129 (c_aload 1 (c_gf 3 8 (c_iload 2 (c_iaload (c_istore 3 (c_aload 0 (c_gf 8 0 (c_iload 2 (c_iload 3 (c_iastore (c_iload 3 (c_if_eq 73 (c_aload 0 (c_dup   (c_gf 8 3 (c_iload 3 (c_if_le 44 (c_aload 0 (c_gf 8 1 (c_iload 2 (c_iaload (c_if_lt 57 (k27_44)))))))))))))))))))))))))
set_option maxHeartbeats 100000 in
theorem kE27_2 : ex_CE 15 [] cd_27 k27_2 q27_2 := e_iload_iload_n 2 0 2 2 rfl (e_psh_bipush 3 8 8 (e_icmp_ge 5 129 124 (e_aload_aload_n 8 0 1 1 rfl (e_gf 9 86216 28 3 8 rfl rfl (e_iload_iload_n 12 0 2 2 rfl (e_iaload 13 0 (e_istore_istore_n 14 0 3 3 rfl (e_aload_aload_n 15 0 0 0 rfl (e_gf 16 86528 9 8 0 rfl rfl (e_iload_iload_n 19 0 2 2 rfl (e_iload_iload_n 20 0 3 3 rfl (e_iastore 21 0 (e_iload_iload_n 22 0 3 3 rfl (e_if_eq 23 73 50 (e_aload_aload_n 26 0 0 0 rfl (e_dup 27 0  (e_gf 28 515 21 8 3 rfl rfl (e_iload_iload_n 31 0 3 3 rfl (e_if_le 32 44 12 (e_aload_aload_n 35 0 0 0 rfl (e_gf 36 86529 15 8 1 rfl rfl (e_iload_iload_n 39 0 2 2 rfl (e_iaload 40 0 (e_if_lt 41 57 16 (kE27_44)))))))))))))))))))))))))
set_option maxHeartbeats 100000 in
def k27_0 : ex_C := c_psh 0 (c_istore 2 (k27_2))
set_option maxHeartbeats 100000 in
theorem kE27_0 : ex_CE 15 [] cd_27 k27_0 q27_0 := e_psh_iconst 0 0 0 (e_istore_istore_n 1 0 2 2 rfl (kE27_2))
def kt_27 : Nat → Option ex_C := fun pc => @Bool.rec (fun _ => Nat → Option ex_C) (fun pc => @Bool.rec (fun _ => Nat → Option ex_C) (fun pc => @Bool.rec (fun _ => Nat → Option ex_C) (fun pc => @Bool.rec (fun _ => Nat → Option ex_C) (fun pc => @Bool.rec (fun _ => Option ex_C) none (some k27_129) (Nat.beq pc 129)) (fun pc => @Bool.rec (fun _ => Option ex_C) none (some k27_123) (Nat.beq pc 123)) (Nat.ble pc 123) pc) (fun pc => @Bool.rec (fun _ => Option ex_C) none (some k27_107) (Nat.beq pc 107)) (Nat.ble pc 107) pc) (fun pc => @Bool.rec (fun _ => Nat → Option ex_C) (fun pc => @Bool.rec (fun _ => Nat → Option ex_C) (fun pc => @Bool.rec (fun _ => Option ex_C) none (some k27_106) (Nat.beq pc 106)) (fun pc => @Bool.rec (fun _ => Option ex_C) none (some k27_73) (Nat.beq pc 73)) (Nat.ble pc 73) pc) (fun pc => @Bool.rec (fun _ => Option ex_C) none (some k27_62) (Nat.beq pc 62)) (Nat.ble pc 62) pc) (Nat.ble pc 106) pc) (fun pc => @Bool.rec (fun _ => Nat → Option ex_C) (fun pc => @Bool.rec (fun _ => Nat → Option ex_C) (fun pc => @Bool.rec (fun _ => Nat → Option ex_C) (fun pc => @Bool.rec (fun _ => Option ex_C) none (some k27_61) (Nat.beq pc 61)) (fun pc => @Bool.rec (fun _ => Option ex_C) none (some k27_57) (Nat.beq pc 57)) (Nat.ble pc 57) pc) (fun pc => @Bool.rec (fun _ => Option ex_C) none (some k27_44) (Nat.beq pc 44)) (Nat.ble pc 44) pc) (fun pc => @Bool.rec (fun _ => Nat → Option ex_C) (fun pc => @Bool.rec (fun _ => Option ex_C) none (some k27_2) (Nat.beq pc 2)) (fun pc => @Bool.rec (fun _ => Option ex_C) none (some k27_0) (Nat.beq pc 0)) (Nat.ble pc 0) pc) (Nat.ble pc 2) pc) (Nat.ble pc 61) pc
theorem ktE_27 : ex_CTT 15 [] cd_27 kt_27 cd_27 := (ex_ct2 (ex_ct2 (ex_ct2 (ex_ct1 kE27_0) (ex_ct1 kE27_2)) (ex_ct2 (ex_ct1 kE27_44) (ex_ct2 (ex_ct1 kE27_57) (ex_ct1 kE27_61)))) (ex_ct2 (ex_ct2 (ex_ct1 kE27_62) (ex_ct2 (ex_ct1 kE27_73) (ex_ct1 kE27_106))) (ex_ct2 (ex_ct1 kE27_107) (ex_ct2 (ex_ct1 kE27_123) (ex_ct1 kE27_129)))))
set_option maxHeartbeats 100000 in
def k28_0 : ex_C := c_aload 0 (c_oinit (c_aload 0 (c_psh 30 (c_psh 16 (c_multianewarray 9 2  (c_pf 10 5 0 (c_aload 0 (c_psh 16 (c_psh 16 (c_multianewarray 9 2  (c_pf 10 5 1 (c_aload 0 (c_psh 16 (c_newarr 64 0 (c_pf 10 5 2 (c_aload 0 (c_psh 0 (c_pf 10 0 3 (c_aload 0 (c_psh 0 (c_pf 10 0 4 (c_return_  15))))))))))))))))))))))
set_option maxHeartbeats 100000 in
theorem kE28_0 : ex_CE 15 [] cd_28 k28_0 q28_0 := e_aload_aload_n 0 0 0 0 rfl (e_oinit (e_aload_aload_n 4 0 0 0 rfl (e_psh_bipush 5 30 30 (e_psh_bipush 7 16 16 (e_multianewarray 9 71 9 2 (e_pf 13 86656 11 10 5 0 rfl rfl rfl (e_aload_aload_n 16 0 0 0 rfl (e_psh_bipush 17 16 16 (e_psh_bipush 19 16 16 (e_multianewarray 21 71 9 2 (e_pf 25 86657 14 10 5 1 rfl rfl rfl (e_aload_aload_n 28 0 0 0 rfl (e_psh_bipush 29 16 16 (e_newarr 31 64 0 rfl (e_pf 33 86658 17 10 5 2 rfl rfl rfl (e_aload_aload_n 36 0 0 0 rfl (e_psh_iconst 37 0 0 (e_pf 38 643 21 10 0 3 rfl rfl rfl (e_aload_aload_n 41 0 0 0 rfl (e_psh_iconst 42 0 0 (e_pf 43 644 25 10 0 4 rfl rfl rfl (e_return_ 46 0 ))))))))))))))))))))))
def kt_28 : Nat → Option ex_C := fun pc => @Bool.rec (fun _ => Option ex_C) none (some k28_0) (Nat.beq pc 0)
theorem ktE_28 : ex_CTT 15 [] cd_28 kt_28 cd_28 := (ex_ct1 kE28_0)
set_option maxHeartbeats 100000 in
def k29_54 : ex_C := c_return_  15
set_option maxHeartbeats 100000 in
theorem kE29_54 : ex_CE 15 [] cd_29 k29_54 q29_54 := e_return_ 54 0 
set_option maxHeartbeats 100000 in
def k29_48 : ex_C := c_iinc 2 1 (c_goto 12)
set_option maxHeartbeats 100000 in
theorem kE29_48 : ex_CE 15 [] cd_29 k29_48 q29_48 := e_iinc 48 1 2 1 (e_goto 51 12 (-39))
set_option maxHeartbeats 100000 in
def k29_27 : ex_C := c_iload 3 (c_psh 16 (c_icmp_ge 48 (c_aload 0 (c_gf 10 1 (c_iload 2 (c_aaload   (c_iload 3 (c_psh 0 (c_iastore (c_iinc 3 1 (c_goto 27)))))))))))
set_option maxHeartbeats 100000 in
theorem kE29_27 : ex_CE 15 [] cd_29 k29_27 q29_27 := e_iload_iload_n 27 0 3 3 rfl (e_psh_bipush 28 16 16 (e_icmp_ge 30 48 18 (e_aload_aload_n 33 0 0 0 rfl (e_gf 34 86657 14 10 1 rfl rfl (e_iload_iload_n 37 0 2 2 rfl (e_aaload 38 0  (e_iload_iload_n 39 0 3 3 rfl (e_psh_iconst 40 0 0 (e_iastore 41 0 (e_iinc 42 1 3 1 (e_goto 45 27 (-18))))))))))))
set_option maxHeartbeats 100000 in
def k29_12 : ex_C := c_iload 2 (c_psh 16 (c_icmp_ge 54 (c_aload 0 (c_gf 10 2 (c_iload 2 (c_psh 0 (c_iastore (c_psh 0 (c_istore 3 (k29_27))))))))))
set_option maxHeartbeats 100000 in
theorem kE29_12 : ex_CE 15 [] cd_29 k29_12 q29_12 := e_iload_iload_n 12 0 2 2 rfl (e_psh_bipush 13 16 16 (e_icmp_ge 15 54 39 (e_aload_aload_n 18 0 0 0 rfl (e_gf 19 86658 17 10 2 rfl rfl (e_iload_iload_n 22 0 2 2 rfl (e_psh_iconst 23 0 0 (e_iastore 24 0 (e_psh_iconst 25 0 0 (e_istore_istore_n 26 0 3 3 rfl (kE29_27))))))))))
set_option maxHeartbeats 100000 in
def k29_0 : ex_C := c_aload 0 (c_iload 1 (c_pf 10 0 3 (c_aload 0 (c_psh 0 (c_pf 10 0 4 (c_psh 0 (c_istore 2 (k29_12))))))))
set_option maxHeartbeats 100000 in
theorem kE29_0 : ex_CE 15 [] cd_29 k29_0 q29_0 := e_aload_aload_n 0 0 0 0 rfl (e_iload_iload_n 1 0 1 1 rfl (e_pf 2 643 21 10 0 3 rfl rfl rfl (e_aload_aload_n 5 0 0 0 rfl (e_psh_iconst 6 0 0 (e_pf 7 644 25 10 0 4 rfl rfl rfl (e_psh_iconst 10 0 0 (e_istore_istore_n 11 0 2 2 rfl (kE29_12))))))))
def kt_29 : Nat → Option ex_C := fun pc => @Bool.rec (fun _ => Nat → Option ex_C) (fun pc => @Bool.rec (fun _ => Nat → Option ex_C) (fun pc => @Bool.rec (fun _ => Nat → Option ex_C) (fun pc => @Bool.rec (fun _ => Option ex_C) none (some k29_54) (Nat.beq pc 54)) (fun pc => @Bool.rec (fun _ => Option ex_C) none (some k29_48) (Nat.beq pc 48)) (Nat.ble pc 48) pc) (fun pc => @Bool.rec (fun _ => Option ex_C) none (some k29_27) (Nat.beq pc 27)) (Nat.ble pc 27) pc) (fun pc => @Bool.rec (fun _ => Nat → Option ex_C) (fun pc => @Bool.rec (fun _ => Option ex_C) none (some k29_12) (Nat.beq pc 12)) (fun pc => @Bool.rec (fun _ => Option ex_C) none (some k29_0) (Nat.beq pc 0)) (Nat.ble pc 0) pc) (Nat.ble pc 12) pc
theorem ktE_29 : ex_CTT 15 [] cd_29 kt_29 cd_29 := (ex_ct2 (ex_ct2 (ex_ct1 kE29_0) (ex_ct1 kE29_12)) (ex_ct2 (ex_ct1 kE29_27) (ex_ct2 (ex_ct1 kE29_48) (ex_ct1 kE29_54))))
set_option maxHeartbeats 100000 in
def k30_84 : ex_C := c_aload 0 (c_dup   (c_gf 10 4 (c_psh 1 (c_iadd (c_pf 10 0 4 (c_aload 0 (c_gf 10 3 (c_psh 4 (c_iload 2 (c_imul (c_isub (c_ireturn  0))))))))))))
set_option maxHeartbeats 100000 in
theorem kE30_84 : ex_CE 0 [] cd_30 k30_84 q30_84 := e_aload_aload_n 84 0 0 0 rfl (e_dup 85 0  (e_gf 86 644 25 10 4 rfl rfl (e_psh_iconst 89 1 1 (e_iadd 90 0 (e_pf 91 644 25 10 0 4 rfl rfl rfl (e_aload_aload_n 94 0 0 0 rfl (e_gf 95 643 21 10 3 rfl rfl (e_psh_iconst 98 4 4 (e_iload_iload_n 99 0 2 2 rfl (e_imul 100 0 (e_isub 101 0 (e_ireturn 102 0 ))))))))))))
set_option maxHeartbeats 100000 in
def k30_78 : ex_C := c_iinc 3 1 (c_goto 37)
set_option maxHeartbeats 100000 in
theorem kE30_78 : ex_CE 0 [] cd_30 k30_78 q30_78 := e_iinc 78 1 3 1 (e_goto 81 37 (-44))
set_option maxHeartbeats 100000 in
def k30_72 : ex_C := c_iinc 4 1 (c_goto 45)
set_option maxHeartbeats 100000 in
theorem kE30_72 : ex_CE 0 [] cd_30 k30_72 q30_72 := e_iinc 72 1 4 1 (e_goto 75 45 (-30))
set_option maxHeartbeats 100000 in
def k30_57 : ex_C := c_istore 5 (c_iload 5 (c_if_lt 72 (c_aload 0 (c_aload 1 (c_iload 3 (c_iload 5 (c_invV [] cd_30 69 4 33 10 (k30_72))))))))
set_option maxHeartbeats 100000 in
theorem kE30_57 : ex_CE 0 [] cd_30 k30_57 q30_57 := e_istore_istore 57 0 5 (e_iload_iload 59 0 5 (e_if_lt 61 72 11 (e_aload_aload_n 64 0 0 0 rfl (e_aload_aload_n 65 0 1 1 rfl (e_iload_iload_n 66 0 3 3 rfl (e_iload_iload 67 0 5 (e_invV_invokevirtual 69 401732 32 4 33 10 rfl rfl rfl rfl rfl rfl (kE30_72))))))))
set_option maxHeartbeats 100000 in
def k30_45 : ex_C := c_iload 4 (c_psh 4 (c_icmp_ge 78 (c_aload 0 (c_aload 1 (c_iload 3 (c_invV [] cd_30 54 3 31 10 (k30_57)))))))
set_option maxHeartbeats 100000 in
theorem kE30_45 : ex_CE 0 [] cd_30 k30_45 q30_45 := e_iload_iload 45 0 4 (e_psh_iconst 47 4 4 (e_icmp_ge 48 78 30 (e_aload_aload_n 51 0 0 0 rfl (e_aload_aload_n 52 0 1 1 rfl (e_iload_iload_n 53 0 3 3 rfl (e_invV_invokevirtual 54 385347 28 3 31 10 rfl rfl rfl rfl rfl rfl (kE30_57)))))))
set_option maxHeartbeats 100000 in
def k30_37 : ex_C := c_iload 3 (c_iload 2 (c_icmp_ge 84 (c_psh 0 (c_istore 4 (k30_45)))))
set_option maxHeartbeats 100000 in
theorem kE30_37 : ex_CE 0 [] cd_30 k30_37 q30_37 := e_iload_iload_n 37 0 3 3 rfl (e_iload_iload_n 38 0 2 2 rfl (e_icmp_ge 39 84 45 (e_psh_iconst 42 0 0 (e_istore_istore 43 0 4 (kE30_45)))))
set_option maxHeartbeats 100000 in
def k30_28 : ex_C := c_aload 0 (c_gf 10 3 (c_psh 4 (c_idiv   (c_istore 2 (c_psh 0 (c_istore 3 (k30_37)))))))
set_option maxHeartbeats 100000 in
theorem kE30_28 : ex_CE 0 [] cd_30 k30_28 q30_28 := e_aload_aload_n 28 0 0 0 rfl (e_gf 29 643 21 10 3 rfl rfl (e_psh_iconst 32 4 4 (e_idiv 33 0  (e_istore_istore_n 34 0 2 2 rfl (e_psh_iconst 35 0 0 (e_istore_istore_n 36 0 3 3 rfl (kE30_37)))))))
set_option maxHeartbeats 100000 in
def k30_12 : ex_C := c_iload 2 (c_psh 16 (c_icmp_ge 28 (c_aload 1 (c_iload 2 (c_psh 4294967295 (c_iastore (c_iinc 2 1 (c_goto 12))))))))
set_option maxHeartbeats 100000 in
theorem kE30_12 : ex_CE 0 [] cd_30 k30_12 q30_12 := e_iload_iload_n 12 0 2 2 rfl (e_psh_bipush 13 16 16 (e_icmp_ge 15 28 13 (e_aload_aload_n 18 0 1 1 rfl (e_iload_iload_n 19 0 2 2 rfl (e_psh_iconst 20 4294967295 (-1) (e_iastore 21 0 (e_iinc 22 1 2 1 (e_goto 25 12 (-13)))))))))
set_option maxHeartbeats 100000 in
def k30_0 : ex_C := c_aload 0 (c_gf 10 0 (c_aload 0 (c_gf 10 4 (c_aaload   (c_astore 1 (c_psh 0 (c_istore 2 (k30_12))))))))
set_option maxHeartbeats 100000 in
theorem kE30_0 : ex_CE 0 [] cd_30 k30_0 q30_0 := e_aload_aload_n 0 0 0 0 rfl (e_gf 1 86656 11 10 0 rfl rfl (e_aload_aload_n 4 0 0 0 rfl (e_gf 5 644 25 10 4 rfl rfl (e_aaload 8 0  (e_astore_astore_n 9 0 1 1 rfl (e_psh_iconst 10 0 0 (e_istore_istore_n 11 0 2 2 rfl (kE30_12))))))))
def kt_30 : Nat → Option ex_C := fun pc => @Bool.rec (fun _ => Nat → Option ex_C) (fun pc => @Bool.rec (fun _ => Nat → Option ex_C) (fun pc => @Bool.rec (fun _ => Nat → Option ex_C) (fun pc => @Bool.rec (fun _ => Nat → Option ex_C) (fun pc => @Bool.rec (fun _ => Option ex_C) none (some k30_84) (Nat.beq pc 84)) (fun pc => @Bool.rec (fun _ => Option ex_C) none (some k30_78) (Nat.beq pc 78)) (Nat.ble pc 78) pc) (fun pc => @Bool.rec (fun _ => Option ex_C) none (some k30_72) (Nat.beq pc 72)) (Nat.ble pc 72) pc) (fun pc => @Bool.rec (fun _ => Nat → Option ex_C) (fun pc => @Bool.rec (fun _ => Option ex_C) none (some k30_57) (Nat.beq pc 57)) (fun pc => @Bool.rec (fun _ => Option ex_C) none (some k30_45) (Nat.beq pc 45)) (Nat.ble pc 45) pc) (Nat.ble pc 57) pc) (fun pc => @Bool.rec (fun _ => Nat → Option ex_C) (fun pc => @Bool.rec (fun _ => Nat → Option ex_C) (fun pc => @Bool.rec (fun _ => Option ex_C) none (some k30_37) (Nat.beq pc 37)) (fun pc => @Bool.rec (fun _ => Option ex_C) none (some k30_28) (Nat.beq pc 28)) (Nat.ble pc 28) pc) (fun pc => @Bool.rec (fun _ => Nat → Option ex_C) (fun pc => @Bool.rec (fun _ => Option ex_C) none (some k30_12) (Nat.beq pc 12)) (fun pc => @Bool.rec (fun _ => Option ex_C) none (some k30_0) (Nat.beq pc 0)) (Nat.ble pc 0) pc) (Nat.ble pc 12) pc) (Nat.ble pc 37) pc
theorem ktE_30 : ex_CTT 0 [] cd_30 kt_30 cd_30 := (ex_ct2 (ex_ct2 (ex_ct2 (ex_ct1 kE30_0) (ex_ct1 kE30_12)) (ex_ct2 (ex_ct1 kE30_28) (ex_ct1 kE30_37))) (ex_ct2 (ex_ct2 (ex_ct1 kE30_45) (ex_ct1 kE30_57)) (ex_ct2 (ex_ct1 kE30_72) (ex_ct2 (ex_ct1 kE30_78) (ex_ct1 kE30_84)))))
set_option maxHeartbeats 100000 in
def k31_81 : ex_C := c_iload 3 (c_ireturn  0)
set_option maxHeartbeats 100000 in
theorem kE31_81 : ex_CE 0 [] cd_31 k31_81 q31_81 := e_iload_iload_n 81 0 3 3 rfl (e_ireturn 82 0 )
set_option maxHeartbeats 100000 in
def k31_75 : ex_C := c_iinc 5 1 (c_goto 8)
set_option maxHeartbeats 100000 in
theorem kE31_75 : ex_CE 0 [] cd_31 k31_75 q31_75 := e_iinc 75 1 5 1 (e_goto 78 8 (-70))
set_option maxHeartbeats 100000 in
def k31_68 : ex_C := c_iload 5 (c_istore 3 (c_iload 6 (c_istore 4 (k31_75))))
set_option maxHeartbeats 100000 in
theorem kE31_68 : ex_CE 0 [] cd_31 k31_68 q31_68 := e_iload_iload 68 0 5 (e_istore_istore_n 70 0 3 3 rfl (e_iload_iload 71 0 6 (e_istore_istore 73 0 4 (kE31_75))))
set_option maxHeartbeats 100000 in
def k31_32 : ex_C := c_istore 6 (c_iload 3 (c_if_lt 68 (c_iload 6 (c_iload 4 (c_icmp_lt 68 (c_iload 6 (c_iload 4 (c_icmp_ne 75 (c_aload 0 (c_gf 10 2 (c_iload 5 (c_iaload (c_aload 0 (c_gf 10 2 (c_iload 3 (c_iaload (c_icmp_ge 75 (k31_68))))))))))))))))))
set_option maxHeartbeats 100000 in
theorem kE31_32 : ex_CE 0 [] cd_31 k31_32 q31_32 := e_istore_istore 32 0 6 (e_iload_iload_n 34 0 3 3 rfl (e_if_lt 35 68 33 (e_iload_iload 38 0 6 (e_iload_iload 40 0 4 (e_icmp_lt 42 68 26 (e_iload_iload 45 0 6 (e_iload_iload 47 0 4 (e_icmp_ne 49 75 26 (e_aload_aload_n 52 0 0 0 rfl (e_gf 53 86658 17 10 2 rfl rfl (e_iload_iload 56 0 5 (e_iaload 58 0 (e_aload_aload_n 59 0 0 0 rfl (e_gf 60 86658 17 10 2 rfl rfl (e_iload_iload_n 63 0 3 3 rfl (e_iaload 64 0 (e_icmp_ge 65 75 10 (kE31_68))))))))))))))))))
set_option maxHeartbeats 100000 in
def k31_8 : ex_C := c_iload 5 (c_aload 0 (c_gf 10 3 (c_icmp_ge 81 (c_aload 1 (c_iload 5 (c_iaload (c_if_ge 75 (c_aload 0 (c_aload 1 (c_iload 2 (c_iload 5 (c_invV [] cd_31 29 4 32 10 (k31_32)))))))))))))
set_option maxHeartbeats 100000 in
theorem kE31_8 : ex_CE 0 [] cd_31 k31_8 q31_8 := e_iload_iload 8 0 5 (e_aload_aload_n 10 0 0 0 rfl (e_gf 11 643 21 10 3 rfl rfl (e_icmp_ge 14 81 67 (e_aload_aload_n 17 0 1 1 rfl (e_iload_iload 18 0 5 (e_iaload 20 0 (e_if_ge 21 75 54 (e_aload_aload_n 24 0 0 0 rfl (e_aload_aload_n 25 0 1 1 rfl (e_iload_iload_n 26 0 2 2 rfl (e_iload_iload 27 0 5 (e_invV_invokevirtual 29 393540 36 4 32 10 rfl rfl rfl rfl rfl rfl (kE31_32)))))))))))))
set_option maxHeartbeats 100000 in
def k31_0 : ex_C := c_psh 4294967295 (c_istore 3 (c_psh 0 (c_istore 4 (c_psh 0 (c_istore 5 (k31_8))))))
set_option maxHeartbeats 100000 in
theorem kE31_0 : ex_CE 0 [] cd_31 k31_0 q31_0 := e_psh_iconst 0 4294967295 (-1) (e_istore_istore_n 1 0 3 3 rfl (e_psh_iconst 2 0 0 (e_istore_istore 3 0 4 (e_psh_iconst 5 0 0 (e_istore_istore 6 0 5 (kE31_8))))))
def kt_31 : Nat → Option ex_C := fun pc => @Bool.rec (fun _ => Nat → Option ex_C) (fun pc => @Bool.rec (fun _ => Nat → Option ex_C) (fun pc => @Bool.rec (fun _ => Nat → Option ex_C) (fun pc => @Bool.rec (fun _ => Option ex_C) none (some k31_81) (Nat.beq pc 81)) (fun pc => @Bool.rec (fun _ => Option ex_C) none (some k31_75) (Nat.beq pc 75)) (Nat.ble pc 75) pc) (fun pc => @Bool.rec (fun _ => Option ex_C) none (some k31_68) (Nat.beq pc 68)) (Nat.ble pc 68) pc) (fun pc => @Bool.rec (fun _ => Nat → Option ex_C) (fun pc => @Bool.rec (fun _ => Nat → Option ex_C) (fun pc => @Bool.rec (fun _ => Option ex_C) none (some k31_32) (Nat.beq pc 32)) (fun pc => @Bool.rec (fun _ => Option ex_C) none (some k31_8) (Nat.beq pc 8)) (Nat.ble pc 8) pc) (fun pc => @Bool.rec (fun _ => Option ex_C) none (some k31_0) (Nat.beq pc 0)) (Nat.ble pc 0) pc) (Nat.ble pc 32) pc
theorem ktE_31 : ex_CTT 0 [] cd_31 kt_31 cd_31 := (ex_ct2 (ex_ct2 (ex_ct1 kE31_0) (ex_ct2 (ex_ct1 kE31_8) (ex_ct1 kE31_32))) (ex_ct2 (ex_ct1 kE31_68) (ex_ct2 (ex_ct1 kE31_75) (ex_ct1 kE31_81))))
set_option maxHeartbeats 100000 in
def k32_47 : ex_C := c_iload 4 (c_ireturn  0)
set_option maxHeartbeats 100000 in
theorem kE32_47 : ex_CE 0 [] cd_32 k32_47 q32_47 := e_iload_iload 47 0 4 (e_ireturn 49 0 )
set_option maxHeartbeats 100000 in
def k32_38 : ex_C := c_iadd (c_istore 4 (c_iinc 5 1 (c_goto 6)))
set_option maxHeartbeats 100000 in
theorem kE32_38 : ex_CE 0 [] cd_32 k32_38 q32_38 := e_iadd 38 0 (e_istore_istore 39 0 4 (e_iinc 41 1 5 1 (e_goto 44 6 (-38))))
set_option maxHeartbeats 100000 in
def k32_37 : ex_C := c_psh 0 (k32_38)
set_option maxHeartbeats 100000 in
theorem kE32_37 : ex_CE 0 [] cd_32 k32_37 q32_37 := e_psh_iconst 37 0 0 (kE32_38)
set_option maxHeartbeats 100000 in
def k32_6 : ex_C := c_iload 5 (c_aload 0 (c_gf 10 3 (c_icmp_ge 47 (c_iload 4 (c_aload 1 (c_iload 5 (c_iaload (c_iload 2 (c_icmp_ne 37 (c_aload 0 (c_gf 10 1 (c_iload 3 (c_aaload   (c_iload 5 (c_iaload (c_goto 38))))))))))))))))
set_option maxHeartbeats 100000 in
theorem kE32_6 : ex_CE 0 [] cd_32 k32_6 q32_6 := e_iload_iload 6 0 5 (e_aload_aload_n 8 0 0 0 rfl (e_gf 9 643 21 10 3 rfl rfl (e_icmp_ge 12 47 35 (e_iload_iload 15 0 4 (e_aload_aload_n 17 0 1 1 rfl (e_iload_iload 18 0 5 (e_iaload 20 0 (e_iload_iload_n 21 0 2 2 rfl (e_icmp_ne 22 37 15 (e_aload_aload_n 25 0 0 0 rfl (e_gf 26 86657 14 10 1 rfl rfl (e_iload_iload_n 29 0 3 3 rfl (e_aaload 30 0  (e_iload_iload 31 0 5 (e_iaload 33 0 (e_goto 34 38 4))))))))))))))))
set_option maxHeartbeats 100000 in
def k32_0 : ex_C := c_psh 0 (c_istore 4 (c_psh 0 (c_istore 5 (k32_6))))
set_option maxHeartbeats 100000 in
theorem kE32_0 : ex_CE 0 [] cd_32 k32_0 q32_0 := e_psh_iconst 0 0 0 (e_istore_istore 1 0 4 (e_psh_iconst 3 0 0 (e_istore_istore 4 0 5 (kE32_6))))
def kt_32 : Nat → Option ex_C := fun pc => @Bool.rec (fun _ => Nat → Option ex_C) (fun pc => @Bool.rec (fun _ => Nat → Option ex_C) (fun pc => @Bool.rec (fun _ => Nat → Option ex_C) (fun pc => @Bool.rec (fun _ => Option ex_C) none (some k32_47) (Nat.beq pc 47)) (fun pc => @Bool.rec (fun _ => Option ex_C) none (some k32_38) (Nat.beq pc 38)) (Nat.ble pc 38) pc) (fun pc => @Bool.rec (fun _ => Option ex_C) none (some k32_37) (Nat.beq pc 37)) (Nat.ble pc 37) pc) (fun pc => @Bool.rec (fun _ => Nat → Option ex_C) (fun pc => @Bool.rec (fun _ => Option ex_C) none (some k32_6) (Nat.beq pc 6)) (fun pc => @Bool.rec (fun _ => Option ex_C) none (some k32_0) (Nat.beq pc 0)) (Nat.ble pc 0) pc) (Nat.ble pc 6) pc
theorem ktE_32 : ex_CTT 0 [] cd_32 kt_32 cd_32 := (ex_ct2 (ex_ct2 (ex_ct1 kE32_0) (ex_ct1 kE32_6)) (ex_ct2 (ex_ct1 kE32_37) (ex_ct2 (ex_ct1 kE32_38) (ex_ct1 kE32_47))))
set_option maxHeartbeats 100000 in
def k33_52 : ex_C := c_aload 1 (c_iload 3 (c_iload 2 (c_iastore (c_aload 0 (c_gf 10 2 (c_iload 3 (c_dup2   (c_iaload (c_psh 1 (c_iadd (c_iastore (c_return_  15))))))))))))
set_option maxHeartbeats 100000 in
theorem kE33_52 : ex_CE 15 [] cd_33 k33_52 q33_52 := e_aload_aload_n 52 0 1 1 rfl (e_iload_iload_n 53 0 3 3 rfl (e_iload_iload_n 54 0 2 2 rfl (e_iastore 55 0 (e_aload_aload_n 56 0 0 0 rfl (e_gf 57 86658 17 10 2 rfl rfl (e_iload_iload_n 60 0 3 3 rfl (e_dup2 61 0  (e_iaload 62 0 (e_psh_iconst 63 1 1 (e_iadd 64 0 (e_iastore 65 0 (e_return_ 66 0 ))))))))))))
set_option maxHeartbeats 100000 in
def k33_46 : ex_C := c_iinc 4 1 (c_goto 3)
set_option maxHeartbeats 100000 in
theorem kE33_46 : ex_CE 15 [] cd_33 k33_46 q33_46 := e_iinc 46 1 4 1 (e_goto 49 3 (-46))
set_option maxHeartbeats 100000 in
def k33_3 : ex_C := c_iload 4 (c_aload 0 (c_gf 10 3 (c_icmp_ge 52 (c_aload 1 (c_iload 4 (c_iaload (c_iload 2 (c_icmp_ne 46 (c_aload 0 (c_gf 10 1 (c_iload 3 (c_aaload   (c_iload 4 (c_dup2   (c_iaload (c_psh 1 (c_iadd (c_iastore (c_aload 0 (c_gf 10 1 (c_iload 4 (c_aaload   (c_iload 3 (c_dup2   (c_iaload (c_psh 1 (c_iadd (c_iastore (k33_46)))))))))))))))))))))))))))))
set_option maxHeartbeats 100000 in
theorem kE33_3 : ex_CE 15 [] cd_33 k33_3 q33_3 := e_iload_iload 3 0 4 (e_aload_aload_n 5 0 0 0 rfl (e_gf 6 643 21 10 3 rfl rfl (e_icmp_ge 9 52 43 (e_aload_aload_n 12 0 1 1 rfl (e_iload_iload 13 0 4 (e_iaload 15 0 (e_iload_iload_n 16 0 2 2 rfl (e_icmp_ne 17 46 29 (e_aload_aload_n 20 0 0 0 rfl (e_gf 21 86657 14 10 1 rfl rfl (e_iload_iload_n 24 0 3 3 rfl (e_aaload 25 0  (e_iload_iload 26 0 4 (e_dup2 28 0  (e_iaload 29 0 (e_psh_iconst 30 1 1 (e_iadd 31 0 (e_iastore 32 0 (e_aload_aload_n 33 0 0 0 rfl (e_gf 34 86657 14 10 1 rfl rfl (e_iload_iload 37 0 4 (e_aaload 39 0  (e_iload_iload_n 40 0 3 3 rfl (e_dup2 41 0  (e_iaload 42 0 (e_psh_iconst 43 1 1 (e_iadd 44 0 (e_iastore 45 0 (kE33_46)))))))))))))))))))))))))))))
set_option maxHeartbeats 100000 in
def k33_0 : ex_C := c_psh 0 (c_istore 4 (k33_3))
set_option maxHeartbeats 100000 in
theorem kE33_0 : ex_CE 15 [] cd_33 k33_0 q33_0 := e_psh_iconst 0 0 0 (e_istore_istore 1 0 4 (kE33_3))
def kt_33 : Nat → Option ex_C := fun pc => @Bool.rec (fun _ => Nat → Option ex_C) (fun pc => @Bool.rec (fun _ => Nat → Option ex_C) (fun pc => @Bool.rec (fun _ => Option ex_C) none (some k33_52) (Nat.beq pc 52)) (fun pc => @Bool.rec (fun _ => Option ex_C) none (some k33_46) (Nat.beq pc 46)) (Nat.ble pc 46) pc) (fun pc => @Bool.rec (fun _ => Nat → Option ex_C) (fun pc => @Bool.rec (fun _ => Option ex_C) none (some k33_3) (Nat.beq pc 3)) (fun pc => @Bool.rec (fun _ => Option ex_C) none (some k33_0) (Nat.beq pc 0)) (Nat.ble pc 0) pc) (Nat.ble pc 3) pc
theorem ktE_33 : ex_CTT 15 [] cd_33 kt_33 cd_33 := (ex_ct2 (ex_ct2 (ex_ct1 kE33_0) (ex_ct1 kE33_3)) (ex_ct2 (ex_ct1 kE33_46) (ex_ct1 kE33_52)))
set_option maxHeartbeats 100000 in
def k34_112 : ex_C := c_psh 1 (c_ireturn  1)
set_option maxHeartbeats 100000 in
theorem kE34_112 : ex_CE 1 [] cd_34 k34_112 q34_112 := e_psh_iconst 112 1 1 (e_ireturn 113 0 )
set_option maxHeartbeats 100000 in
def k34_106 : ex_C := c_iinc 1 1 (c_goto 2)
set_option maxHeartbeats 100000 in
theorem kE34_106 : ex_CE 1 [] cd_34 k34_106 q34_106 := e_iinc 106 1 1 1 (e_goto 109 2 (-107))
set_option maxHeartbeats 100000 in
def k34_100 : ex_C := c_iinc 2 1 (c_goto 12)
set_option maxHeartbeats 100000 in
theorem kE34_100 : ex_CE 1 [] cd_34 k34_100 q34_100 := e_iinc 100 1 2 1 (e_goto 103 12 (-91))
set_option maxHeartbeats 100000 in
def k34_81 : ex_C := c_iload 1 (c_iload 2 (c_icmp_eq 100 (c_iload 3 (c_aload 0 (c_gf 10 1 (c_iload 1 (c_aaload   (c_iload 2 (c_iaload (c_icmp_eq 100 (c_psh 0 (c_ireturn  1))))))))))))
set_option maxHeartbeats 100000 in
theorem kE34_81 : ex_CE 1 [] cd_34 k34_81 q34_81 := e_iload_iload_n 81 0 1 1 rfl (e_iload_iload_n 82 0 2 2 rfl (e_icmp_eq 83 100 17 (e_iload_iload_n 86 0 3 3 rfl (e_aload_aload_n 87 0 0 0 rfl (e_gf 88 86657 14 10 1 rfl rfl (e_iload_iload_n 91 0 1 1 rfl (e_aaload 92 0  (e_iload_iload_n 93 0 2 2 rfl (e_iaload 94 0 (e_icmp_eq 95 100 5 (e_psh_iconst 98 0 0 (e_ireturn 99 0 ))))))))))))
set_option maxHeartbeats 100000 in
def k34_73 : ex_C := c_iadd (c_istore 3 (c_iinc 4 1 (c_goto 25)))
set_option maxHeartbeats 100000 in
theorem kE34_73 : ex_CE 1 [] cd_34 k34_73 q34_73 := e_iadd 73 0 (e_istore_istore_n 74 0 3 3 rfl (e_iinc 75 1 4 1 (e_goto 78 25 (-53))))
set_option maxHeartbeats 100000 in
def k34_72 : ex_C := c_psh 0 (k34_73)
set_option maxHeartbeats 100000 in
theorem kE34_72 : ex_CE 1 [] cd_34 k34_72 q34_72 := e_psh_iconst 72 0 0 (kE34_73)
set_option maxHeartbeats 100000 in
def k34_25 : ex_C := c_iload 4 (c_aload 0 (c_gf 10 4 (c_icmp_ge 81 (c_iload 3 (c_aload 0 (c_gf 10 0 (c_iload 4 (c_aaload   (c_iload 1 (c_iaload (c_if_lt 72 (c_aload 0 (c_gf 10 0 (c_iload 4 (c_aaload   (c_iload 1 (c_iaload (c_aload 0 (c_gf 10 0 (c_iload 4 (c_aaload   (c_iload 2 (c_iaload (c_icmp_ne 72 (c_psh 1 (c_goto 73))))))))))))))))))))))))))
set_option maxHeartbeats 100000 in
theorem kE34_25 : ex_CE 1 [] cd_34 k34_25 q34_25 := e_iload_iload 25 0 4 (e_aload_aload_n 27 0 0 0 rfl (e_gf 28 644 25 10 4 rfl rfl (e_icmp_ge 31 81 50 (e_iload_iload_n 34 0 3 3 rfl (e_aload_aload_n 35 0 0 0 rfl (e_gf 36 86656 11 10 0 rfl rfl (e_iload_iload 39 0 4 (e_aaload 41 0  (e_iload_iload_n 42 0 1 1 rfl (e_iaload 43 0 (e_if_lt 44 72 28 (e_aload_aload_n 47 0 0 0 rfl (e_gf 48 86656 11 10 0 rfl rfl (e_iload_iload 51 0 4 (e_aaload 53 0  (e_iload_iload_n 54 0 1 1 rfl (e_iaload 55 0 (e_aload_aload_n 56 0 0 0 rfl (e_gf 57 86656 11 10 0 rfl rfl (e_iload_iload 60 0 4 (e_aaload 62 0  (e_iload_iload_n 63 0 2 2 rfl (e_iaload 64 0 (e_icmp_ne 65 72 7 (e_psh_iconst 68 1 1 (e_goto 69 73 4))))))))))))))))))))))))))
set_option maxHeartbeats 100000 in
def k34_12 : ex_C := c_iload 2 (c_aload 0 (c_gf 10 3 (c_icmp_ge 106 (c_psh 0 (c_istore 3 (c_psh 0 (c_istore 4 (k34_25))))))))
set_option maxHeartbeats 100000 in
theorem kE34_12 : ex_CE 1 [] cd_34 k34_12 q34_12 := e_iload_iload_n 12 0 2 2 rfl (e_aload_aload_n 13 0 0 0 rfl (e_gf 14 643 21 10 3 rfl rfl (e_icmp_ge 17 106 89 (e_psh_iconst 20 0 0 (e_istore_istore_n 21 0 3 3 rfl (e_psh_iconst 22 0 0 (e_istore_istore 23 0 4 (kE34_25))))))))
set_option maxHeartbeats 100000 in
def k34_2 : ex_C := c_iload 1 (c_aload 0 (c_gf 10 3 (c_icmp_ge 112 (c_psh 0 (c_istore 2 (k34_12))))))
set_option maxHeartbeats 100000 in
theorem kE34_2 : ex_CE 1 [] cd_34 k34_2 q34_2 := e_iload_iload_n 2 0 1 1 rfl (e_aload_aload_n 3 0 0 0 rfl (e_gf 4 643 21 10 3 rfl rfl (e_icmp_ge 7 112 105 (e_psh_iconst 10 0 0 (e_istore_istore_n 11 0 2 2 rfl (kE34_12))))))
set_option maxHeartbeats 100000 in
def k34_0 : ex_C := c_psh 0 (c_istore 1 (k34_2))
set_option maxHeartbeats 100000 in
theorem kE34_0 : ex_CE 1 [] cd_34 k34_0 q34_0 := e_psh_iconst 0 0 0 (e_istore_istore_n 1 0 1 1 rfl (kE34_2))
def kt_34 : Nat → Option ex_C := fun pc => @Bool.rec (fun _ => Nat → Option ex_C) (fun pc => @Bool.rec (fun _ => Nat → Option ex_C) (fun pc => @Bool.rec (fun _ => Nat → Option ex_C) (fun pc => @Bool.rec (fun _ => Nat → Option ex_C) (fun pc => @Bool.rec (fun _ => Option ex_C) none (some k34_112) (Nat.beq pc 112)) (fun pc => @Bool.rec (fun _ => Option ex_C) none (some k34_106) (Nat.beq pc 106)) (Nat.ble pc 106) pc) (fun pc => @Bool.rec (fun _ => Option ex_C) none (some k34_100) (Nat.beq pc 100)) (Nat.ble pc 100) pc) (fun pc => @Bool.rec (fun _ => Nat → Option ex_C) (fun pc => @Bool.rec (fun _ => Option ex_C) none (some k34_81) (Nat.beq pc 81)) (fun pc => @Bool.rec (fun _ => Option ex_C) none (some k34_73) (Nat.beq pc 73)) (Nat.ble pc 73) pc) (Nat.ble pc 81) pc) (fun pc => @Bool.rec (fun _ => Nat → Option ex_C) (fun pc => @Bool.rec (fun _ => Nat → Option ex_C) (fun pc => @Bool.rec (fun _ => Nat → Option ex_C) (fun pc => @Bool.rec (fun _ => Option ex_C) none (some k34_72) (Nat.beq pc 72)) (fun pc => @Bool.rec (fun _ => Option ex_C) none (some k34_25) (Nat.beq pc 25)) (Nat.ble pc 25) pc) (fun pc => @Bool.rec (fun _ => Option ex_C) none (some k34_12) (Nat.beq pc 12)) (Nat.ble pc 12) pc) (fun pc => @Bool.rec (fun _ => Nat → Option ex_C) (fun pc => @Bool.rec (fun _ => Option ex_C) none (some k34_2) (Nat.beq pc 2)) (fun pc => @Bool.rec (fun _ => Option ex_C) none (some k34_0) (Nat.beq pc 0)) (Nat.ble pc 0) pc) (Nat.ble pc 2) pc) (Nat.ble pc 72) pc
theorem ktE_34 : ex_CTT 1 [] cd_34 kt_34 cd_34 := (ex_ct2 (ex_ct2 (ex_ct2 (ex_ct1 kE34_0) (ex_ct1 kE34_2)) (ex_ct2 (ex_ct1 kE34_12) (ex_ct2 (ex_ct1 kE34_25) (ex_ct1 kE34_72)))) (ex_ct2 (ex_ct2 (ex_ct1 kE34_73) (ex_ct1 kE34_81)) (ex_ct2 (ex_ct1 kE34_100) (ex_ct2 (ex_ct1 kE34_106) (ex_ct1 kE34_112)))))
set_option maxHeartbeats 100000 in
def k35_0 : ex_C := c_aload 0 (c_oinit (c_aload 0 (c_psh 20 (c_psh 24 (c_multianewarray 9 2  (c_pf 7 5 0 (c_aload 0 (c_psh 20 (c_newarr 66 0 (c_pf 7 5 1 (c_aload 0 (c_psh 0 (c_pf 7 0 2 (c_aload 0 (c_psh 0 (c_pf 7 0 3 (c_return_  15)))))))))))))))))
set_option maxHeartbeats 100000 in
theorem kE35_0 : ex_CE 15 [] cd_35 k35_0 q35_0 := e_aload_aload_n 0 0 0 0 rfl (e_oinit (e_aload_aload_n 4 0 0 0 rfl (e_psh_bipush 5 20 20 (e_psh_bipush 7 24 24 (e_multianewarray 9 71 9 2 (e_pf 13 86464 11 7 5 0 rfl rfl rfl (e_aload_aload_n 16 0 0 0 rfl (e_psh_bipush 17 20 20 (e_newarr 19 66 0 rfl (e_pf 21 86465 16 7 5 1 rfl rfl rfl (e_aload_aload_n 24 0 0 0 rfl (e_psh_iconst 25 0 0 (e_pf 26 450 20 7 0 2 rfl rfl rfl (e_aload_aload_n 29 0 0 0 rfl (e_psh_iconst 30 0 0 (e_pf 31 451 24 7 0 3 rfl rfl rfl (e_return_ 34 0 )))))))))))))))))
def kt_35 : Nat → Option ex_C := fun pc => @Bool.rec (fun _ => Option ex_C) none (some k35_0) (Nat.beq pc 0)
theorem ktE_35 : ex_CTT 15 [] cd_35 kt_35 cd_35 := (ex_ct1 kE35_0)
set_option maxHeartbeats 100000 in
def k36_109 : ex_C := c_return_  15
set_option maxHeartbeats 100000 in
theorem kE36_109 : ex_CE 15 [] cd_36 k36_109 q36_109 := e_return_ 109 0 
set_option maxHeartbeats 100000 in
def k36_53 : ex_C := c_iload 4 (c_psh 8 (c_icmp_ge 109 (c_aload 3 (c_psh 3 (c_iload 4 (c_imul (c_aload 1 (c_gf 1 0 (c_iload 4 (c_iaload (c_iastore (c_aload 3 (c_psh 3 (c_iload 4 (c_imul (c_psh 1 (c_iadd (c_aload 1 (c_gf 1 1 (c_iload 4 (c_iaload (c_iastore (c_aload 3 (c_psh 3 (c_iload 4 (c_imul (c_psh 2 (c_iadd (c_aload 1 (c_gf 1 2 (c_iload 4 (c_iaload (c_iastore (c_iinc 4 1 (c_goto 53)))))))))))))))))))))))))))))))))))
set_option maxHeartbeats 100000 in
theorem kE36_53 : ex_CE 15 [] cd_36 k36_53 q36_53 := e_iload_iload 53 0 4 (e_psh_bipush 55 8 8 (e_icmp_ge 57 109 52 (e_aload_aload_n 60 0 3 3 rfl (e_psh_iconst 61 3 3 (e_iload_iload 62 0 4 (e_imul 64 0 (e_aload_aload_n 65 0 1 1 rfl (e_gf 66 86080 36 1 0 rfl rfl (e_iload_iload 69 0 4 (e_iaload 71 0 (e_iastore 72 0 (e_aload_aload_n 73 0 3 3 rfl (e_psh_iconst 74 3 3 (e_iload_iload 75 0 4 (e_imul 77 0 (e_psh_iconst 78 1 1 (e_iadd 79 0 (e_aload_aload_n 80 0 1 1 rfl (e_gf 81 86081 42 1 1 rfl rfl (e_iload_iload 84 0 4 (e_iaload 86 0 (e_iastore 87 0 (e_aload_aload_n 88 0 3 3 rfl (e_psh_iconst 89 3 3 (e_iload_iload 90 0 4 (e_imul 92 0 (e_psh_iconst 93 2 2 (e_iadd 94 0 (e_aload_aload_n 95 0 1 1 rfl (e_gf 96 86082 45 1 2 rfl rfl (e_iload_iload 99 0 4 (e_iaload 101 0 (e_iastore 102 0 (e_iinc 103 1 4 1 (e_goto 106 53 (-53))))))))))))))))))))))))))))))))))))
set_option maxHeartbeats 100000 in
def k36_27 : ex_C := c_pf 7 0 3 (c_aload 0 (c_gf 7 1 (c_aload 0 (c_gf 7 2 (c_iload 2 (c_castore   (c_aload 0 (c_gf 7 0 (c_aload 0 (c_gf 7 2 (c_aaload   (c_astore 3 (c_psh 0 (c_istore 4 (k36_53)))))))))))))))
set_option maxHeartbeats 100000 in
theorem kE36_27 : ex_CE 15 [] cd_36 k36_27 q36_27 := e_pf 27 451 24 7 0 3 rfl rfl rfl (e_aload_aload_n 30 0 0 0 rfl (e_gf 31 86465 16 7 1 rfl rfl (e_aload_aload_n 34 0 0 0 rfl (e_gf 35 450 20 7 2 rfl rfl (e_iload_iload_n 38 0 2 2 rfl (e_castore 39 0  (e_aload_aload_n 40 0 0 0 rfl (e_gf 41 86464 11 7 0 rfl rfl (e_aload_aload_n 44 0 0 0 rfl (e_gf 45 450 20 7 2 rfl rfl (e_aaload 48 0  (e_astore_astore_n 49 0 3 3 rfl (e_psh_iconst 50 0 0 (e_istore_istore 51 0 4 (kE36_53)))))))))))))))
set_option maxHeartbeats 100000 in
def k36_12 : ex_C := c_pf 7 0 2 (c_aload 0 (c_aload 0 (c_gf 7 3 (c_psh 1 (c_iadd (c_psh 20 (c_invS [] cd_36 24 2 163 (k36_27))))))))
set_option maxHeartbeats 100000 in
theorem kE36_12 : ex_CE 15 [] cd_36 k36_12 q36_12 := e_pf 12 450 20 7 0 2 rfl rfl rfl (e_aload_aload_n 15 0 0 0 rfl (e_aload_aload_n 16 0 0 0 rfl (e_gf 17 451 24 7 3 rfl rfl (e_psh_iconst 20 1 1 (e_iadd 21 0 (e_psh_bipush 22 20 20 (e_invS 24 1474530 33 2 163 rfl rfl rfl (kE36_27))))))))
set_option maxHeartbeats 100000 in
def k36_0 : ex_C := c_aload 0 (c_aload 0 (c_gf 7 2 (c_psh 1 (c_iadd (c_psh 20 (c_invS [] cd_36 9 2 159 (k36_12)))))))
set_option maxHeartbeats 100000 in
theorem kE36_0 : ex_CE 15 [] cd_36 k36_0 q36_0 := e_aload_aload_n 0 0 0 0 rfl (e_aload_aload_n 1 0 0 0 rfl (e_gf 2 450 20 7 2 rfl rfl (e_psh_iconst 5 1 1 (e_iadd 6 0 (e_psh_bipush 7 20 20 (e_invS 9 1441762 27 2 159 rfl rfl rfl (kE36_12)))))))
def kt_36 : Nat → Option ex_C := fun pc => @Bool.rec (fun _ => Nat → Option ex_C) (fun pc => @Bool.rec (fun _ => Nat → Option ex_C) (fun pc => @Bool.rec (fun _ => Nat → Option ex_C) (fun pc => @Bool.rec (fun _ => Option ex_C) none (some k36_109) (Nat.beq pc 109)) (fun pc => @Bool.rec (fun _ => Option ex_C) none (some k36_53) (Nat.beq pc 53)) (Nat.ble pc 53) pc) (fun pc => @Bool.rec (fun _ => Option ex_C) none (some k36_27) (Nat.beq pc 27)) (Nat.ble pc 27) pc) (fun pc => @Bool.rec (fun _ => Nat → Option ex_C) (fun pc => @Bool.rec (fun _ => Option ex_C) none (some k36_12) (Nat.beq pc 12)) (fun pc => @Bool.rec (fun _ => Option ex_C) none (some k36_0) (Nat.beq pc 0)) (Nat.ble pc 0) pc) (Nat.ble pc 12) pc
theorem ktE_36 : ex_CTT 15 [] cd_36 kt_36 cd_36 := (ex_ct2 (ex_ct2 (ex_ct1 kE36_0) (ex_ct1 kE36_12)) (ex_ct2 (ex_ct1 kE36_27) (ex_ct2 (ex_ct1 kE36_53) (ex_ct1 kE36_109))))
set_option maxHeartbeats 100000 in
def k37_53 : ex_C := c_return_  15
set_option maxHeartbeats 100000 in
theorem kE37_53 : ex_CE 15 [] cd_37 k37_53 q37_53 := e_return_ 53 0 
set_option maxHeartbeats 100000 in
def k37_47 : ex_C := c_iinc 3 1 (c_goto 17)
set_option maxHeartbeats 100000 in
theorem kE37_47 : ex_CE 15 [] cd_37 k37_47 q37_47 := e_iinc 47 1 3 1 (e_goto 50 17 (-33))
set_option maxHeartbeats 100000 in
def k37_17 : ex_C := c_iload 3 (c_psh 8 (c_icmp_ge 53 (c_aload 1 (c_iload 3 (c_aload 2 (c_psh 3 (c_iload 3 (c_imul (c_iaload (c_aload 2 (c_psh 3 (c_iload 3 (c_imul (c_psh 1 (c_iadd (c_iaload (c_aload 2 (c_psh 3 (c_iload 3 (c_imul (c_psh 2 (c_iadd (c_iaload (c_invV [] cd_37 44 5 41 1 (k37_47)))))))))))))))))))))))))
set_option maxHeartbeats 100000 in
theorem kE37_17 : ex_CE 15 [] cd_37 k37_17 q37_17 := e_iload_iload_n 17 0 3 3 rfl (e_psh_bipush 18 8 8 (e_icmp_ge 20 53 33 (e_aload_aload_n 23 0 1 1 rfl (e_iload_iload_n 24 0 3 3 rfl (e_aload_aload_n 25 0 2 2 rfl (e_psh_iconst 26 3 3 (e_iload_iload_n 27 0 3 3 rfl (e_imul 28 0 (e_iaload 29 0 (e_aload_aload_n 30 0 2 2 rfl (e_psh_iconst 31 3 3 (e_iload_iload_n 32 0 3 3 rfl (e_imul 33 0 (e_psh_iconst 34 1 1 (e_iadd 35 0 (e_iaload 36 0 (e_aload_aload_n 37 0 2 2 rfl (e_psh_iconst 38 3 3 (e_iload_iload_n 39 0 3 3 rfl (e_imul 40 0 (e_psh_iconst 41 2 2 (e_iadd 42 0 (e_iaload 43 0 (e_invV_invokevirtual 44 466981 48 5 41 1 rfl rfl rfl rfl rfl rfl (kE37_47)))))))))))))))))))))))))
set_option maxHeartbeats 100000 in
def k37_13 : ex_C := c_aaload   (c_astore 2 (c_psh 0 (c_istore 3 (k37_17))))
set_option maxHeartbeats 100000 in
theorem kE37_13 : ex_CE 15 [] cd_37 k37_13 q37_13 := e_aaload 13 0  (e_astore_astore_n 14 0 2 2 rfl (e_psh_iconst 15 0 0 (e_istore_istore_n 16 0 3 3 rfl (kE37_17))))
set_option maxHeartbeats 100000 in
def k37_0 : ex_C := c_aload 0 (c_gf 7 0 (c_aload 0 (c_gf 7 2 (c_psh 20 (c_invS [] cd_37 10 2 159 (k37_13))))))
set_option maxHeartbeats 100000 in
theorem kE37_0 : ex_CE 15 [] cd_37 k37_0 q37_0 := e_aload_aload_n 0 0 0 0 rfl (e_gf 1 86464 11 7 0 rfl rfl (e_aload_aload_n 4 0 0 0 rfl (e_gf 5 450 20 7 2 rfl rfl (e_psh_bipush 8 20 20 (e_invS 10 1441762 27 2 159 rfl rfl rfl (kE37_13))))))
def kt_37 : Nat → Option ex_C := fun pc => @Bool.rec (fun _ => Nat → Option ex_C) (fun pc => @Bool.rec (fun _ => Nat → Option ex_C) (fun pc => @Bool.rec (fun _ => Nat → Option ex_C) (fun pc => @Bool.rec (fun _ => Option ex_C) none (some k37_53) (Nat.beq pc 53)) (fun pc => @Bool.rec (fun _ => Option ex_C) none (some k37_47) (Nat.beq pc 47)) (Nat.ble pc 47) pc) (fun pc => @Bool.rec (fun _ => Option ex_C) none (some k37_17) (Nat.beq pc 17)) (Nat.ble pc 17) pc) (fun pc => @Bool.rec (fun _ => Nat → Option ex_C) (fun pc => @Bool.rec (fun _ => Option ex_C) none (some k37_13) (Nat.beq pc 13)) (fun pc => @Bool.rec (fun _ => Option ex_C) none (some k37_0) (Nat.beq pc 0)) (Nat.ble pc 0) pc) (Nat.ble pc 13) pc
theorem ktE_37 : ex_CTT 15 [] cd_37 kt_37 cd_37 := (ex_ct2 (ex_ct2 (ex_ct1 kE37_0) (ex_ct1 kE37_13)) (ex_ct2 (ex_ct1 kE37_17) (ex_ct2 (ex_ct1 kE37_47) (ex_ct1 kE37_53))))
set_option maxHeartbeats 100000 in
def k38_26 : ex_C := c_pf 7 0 3 (c_return_  15)
set_option maxHeartbeats 100000 in
theorem kE38_26 : ex_CE 15 [] cd_38 k38_26 q38_26 := e_pf 26 451 24 7 0 3 rfl rfl rfl (e_return_ 29 0 )
set_option maxHeartbeats 100000 in
def k38_12 : ex_C := c_pf 7 0 2 (c_aload 0 (c_psh 0 (c_aload 0 (c_gf 7 3 (c_psh 1 (c_isub (c_invS [] cd_38 23 2 162 (k38_26))))))))
set_option maxHeartbeats 100000 in
theorem kE38_12 : ex_CE 15 [] cd_38 k38_12 q38_12 := e_pf 12 450 20 7 0 2 rfl rfl rfl (e_aload_aload_n 15 0 0 0 rfl (e_psh_iconst 16 0 0 (e_aload_aload_n 17 0 0 0 rfl (e_gf 18 451 24 7 3 rfl rfl (e_psh_iconst 21 1 1 (e_isub 22 0 (e_invS 23 1466338 52 2 162 rfl rfl rfl (kE38_26))))))))
set_option maxHeartbeats 100000 in
def k38_0 : ex_C := c_aload 0 (c_aload 0 (c_gf 7 2 (c_psh 1 (c_isub (c_psh 20 (c_invS [] cd_38 9 2 159 (k38_12)))))))
set_option maxHeartbeats 100000 in
theorem kE38_0 : ex_CE 15 [] cd_38 k38_0 q38_0 := e_aload_aload_n 0 0 0 0 rfl (e_aload_aload_n 1 0 0 0 rfl (e_gf 2 450 20 7 2 rfl rfl (e_psh_iconst 5 1 1 (e_isub 6 0 (e_psh_bipush 7 20 20 (e_invS 9 1441762 27 2 159 rfl rfl rfl (kE38_12)))))))
def kt_38 : Nat → Option ex_C := fun pc => @Bool.rec (fun _ => Nat → Option ex_C) (fun pc => @Bool.rec (fun _ => Nat → Option ex_C) (fun pc => @Bool.rec (fun _ => Option ex_C) none (some k38_26) (Nat.beq pc 26)) (fun pc => @Bool.rec (fun _ => Option ex_C) none (some k38_12) (Nat.beq pc 12)) (Nat.ble pc 12) pc) (fun pc => @Bool.rec (fun _ => Option ex_C) none (some k38_0) (Nat.beq pc 0)) (Nat.ble pc 0) pc
theorem ktE_38 : ex_CTT 15 [] cd_38 kt_38 cd_38 := (ex_ct2 (ex_ct1 kE38_0) (ex_ct2 (ex_ct1 kE38_12) (ex_ct1 kE38_26)))
set_option maxHeartbeats 100000 in
def k39_15 : ex_C := c_caload   (c_ireturn  2)
set_option maxHeartbeats 100000 in
theorem kE39_15 : ex_CE 2 [] cd_39 k39_15 q39_15 := e_caload 15 0  (e_ireturn 16 0 )
set_option maxHeartbeats 100000 in
def k39_0 : ex_C := c_aload 0 (c_gf 7 1 (c_aload 0 (c_gf 7 2 (c_iload 1 (c_isub (c_psh 20 (c_invS [] cd_39 12 2 159 (k39_15))))))))
set_option maxHeartbeats 100000 in
theorem kE39_0 : ex_CE 2 [] cd_39 k39_0 q39_0 := e_aload_aload_n 0 0 0 0 rfl (e_gf 1 86465 16 7 1 rfl rfl (e_aload_aload_n 4 0 0 0 rfl (e_gf 5 450 20 7 2 rfl rfl (e_iload_iload_n 8 0 1 1 rfl (e_isub 9 0 (e_psh_bipush 10 20 20 (e_invS 12 1441762 27 2 159 rfl rfl rfl (kE39_15))))))))
def kt_39 : Nat → Option ex_C := fun pc => @Bool.rec (fun _ => Nat → Option ex_C) (fun pc => @Bool.rec (fun _ => Option ex_C) none (some k39_15) (Nat.beq pc 15)) (fun pc => @Bool.rec (fun _ => Option ex_C) none (some k39_0) (Nat.beq pc 0)) (Nat.ble pc 0) pc
theorem ktE_39 : ex_CTT 2 [] cd_39 kt_39 cd_39 := (ex_ct2 (ex_ct1 kE39_0) (ex_ct1 kE39_15))
set_option maxHeartbeats 100000 in
def k40_0 : ex_C := c_aload 0 (c_oinit (c_aload 0 (c_psh 8 (c_newarr 64 0 (c_pf 1 5 0 (c_aload 0 (c_psh 8 (c_newarr 64 0 (c_pf 1 5 1 (c_aload 0 (c_psh 8 (c_newarr 64 0 (c_pf 1 5 2 (c_aload 0 (c_psh 0 (c_pf 1 0 3 (c_return_  15)))))))))))))))))
set_option maxHeartbeats 100000 in
theorem kE40_0 : ex_CE 15 [] cd_40 k40_0 q40_0 := e_aload_aload_n 0 0 0 0 rfl (e_oinit (e_aload_aload_n 4 0 0 0 rfl (e_psh_bipush 5 8 8 (e_newarr 7 64 0 rfl (e_pf 9 86080 9 1 5 0 rfl rfl rfl (e_aload_aload_n 12 0 0 0 rfl (e_psh_bipush 13 8 8 (e_newarr 15 64 0 rfl (e_pf 17 86081 15 1 5 1 rfl rfl rfl (e_aload_aload_n 20 0 0 0 rfl (e_psh_bipush 21 8 8 (e_newarr 23 64 0 rfl (e_pf 25 86082 18 1 5 2 rfl rfl rfl (e_aload_aload_n 28 0 0 0 rfl (e_psh_iconst 29 0 0 (e_pf 30 67 21 1 0 3 rfl rfl rfl (e_return_ 33 0 )))))))))))))))))
def kt_40 : Nat → Option ex_C := fun pc => @Bool.rec (fun _ => Option ex_C) none (some k40_0) (Nat.beq pc 0)
theorem ktE_40 : ex_CTT 15 [] cd_40 kt_40 cd_40 := (ex_ct1 kE40_0)
set_option maxHeartbeats 100000 in
def k41_32 : ex_C := c_return_  15
set_option maxHeartbeats 100000 in
theorem kE41_32 : ex_CE 15 [] cd_41 k41_32 q41_32 := e_return_ 32 0 
set_option maxHeartbeats 100000 in
def k41_0 : ex_C := c_iload 1 (c_if_lt 32 (c_iload 1 (c_psh 8 (c_icmp_ge 32 (c_aload 0 (c_gf 1 0 (c_iload 1 (c_iload 2 (c_iastore (c_aload 0 (c_gf 1 1 (c_iload 1 (c_iload 3 (c_iastore (c_aload 0 (c_gf 1 2 (c_iload 1 (c_iload 4 (c_iastore (k41_32))))))))))))))))))))
set_option maxHeartbeats 100000 in
theorem kE41_0 : ex_CE 15 [] cd_41 k41_0 q41_0 := e_iload_iload_n 0 0 1 1 rfl (e_if_lt 1 32 31 (e_iload_iload_n 4 0 1 1 rfl (e_psh_bipush 5 8 8 (e_icmp_ge 7 32 25 (e_aload_aload_n 10 0 0 0 rfl (e_gf 11 86080 9 1 0 rfl rfl (e_iload_iload_n 14 0 1 1 rfl (e_iload_iload_n 15 0 2 2 rfl (e_iastore 16 0 (e_aload_aload_n 17 0 0 0 rfl (e_gf 18 86081 15 1 1 rfl rfl (e_iload_iload_n 21 0 1 1 rfl (e_iload_iload_n 22 0 3 3 rfl (e_iastore 23 0 (e_aload_aload_n 24 0 0 0 rfl (e_gf 25 86082 18 1 2 rfl rfl (e_iload_iload_n 28 0 1 1 rfl (e_iload_iload 29 0 4 (e_iastore 31 0 (kE41_32))))))))))))))))))))
def kt_41 : Nat → Option ex_C := fun pc => @Bool.rec (fun _ => Nat → Option ex_C) (fun pc => @Bool.rec (fun _ => Option ex_C) none (some k41_32) (Nat.beq pc 32)) (fun pc => @Bool.rec (fun _ => Option ex_C) none (some k41_0) (Nat.beq pc 0)) (Nat.ble pc 0) pc
theorem ktE_41 : ex_CTT 15 [] cd_41 kt_41 cd_41 := (ex_ct2 (ex_ct1 kE41_0) (ex_ct1 kE41_32))
set_option maxHeartbeats 100000 in
def k42_44 : ex_C := c_psh 4294967295 (c_ireturn  0)
set_option maxHeartbeats 100000 in
theorem kE42_44 : ex_CE 0 [] cd_42 k42_44 q42_44 := e_psh_iconst 44 4294967295 (-1) (e_ireturn 45 0 )
set_option maxHeartbeats 100000 in
def k42_38 : ex_C := c_iinc 3 1 (c_goto 2)
set_option maxHeartbeats 100000 in
theorem kE42_38 : ex_CE 0 [] cd_42 k42_38 q42_38 := e_iinc 38 1 3 1 (e_goto 41 2 (-39))
set_option maxHeartbeats 100000 in
def k42_2 : ex_C := c_iload 3 (c_aload 0 (c_gf 1 3 (c_icmp_ge 44 (c_iload 3 (c_psh 8 (c_icmp_ge 44 (c_aload 0 (c_gf 1 0 (c_iload 3 (c_iaload (c_iload 1 (c_icmp_ne 38 (c_aload 0 (c_gf 1 1 (c_iload 3 (c_iaload (c_iload 2 (c_icmp_ne 38 (c_iload 3 (c_ireturn  0))))))))))))))))))))
set_option maxHeartbeats 100000 in
theorem kE42_2 : ex_CE 0 [] cd_42 k42_2 q42_2 := e_iload_iload_n 2 0 3 3 rfl (e_aload_aload_n 3 0 0 0 rfl (e_gf 4 67 21 1 3 rfl rfl (e_icmp_ge 7 44 37 (e_iload_iload_n 10 0 3 3 rfl (e_psh_bipush 11 8 8 (e_icmp_ge 13 44 31 (e_aload_aload_n 16 0 0 0 rfl (e_gf 17 86080 9 1 0 rfl rfl (e_iload_iload_n 20 0 3 3 rfl (e_iaload 21 0 (e_iload_iload_n 22 0 1 1 rfl (e_icmp_ne 23 38 15 (e_aload_aload_n 26 0 0 0 rfl (e_gf 27 86081 15 1 1 rfl rfl (e_iload_iload_n 30 0 3 3 rfl (e_iaload 31 0 (e_iload_iload_n 32 0 2 2 rfl (e_icmp_ne 33 38 5 (e_iload_iload_n 36 0 3 3 rfl (e_ireturn 37 0 ))))))))))))))))))))
set_option maxHeartbeats 100000 in
def k42_0 : ex_C := c_psh 0 (c_istore 3 (k42_2))
set_option maxHeartbeats 100000 in
theorem kE42_0 : ex_CE 0 [] cd_42 k42_0 q42_0 := e_psh_iconst 0 0 0 (e_istore_istore_n 1 0 3 3 rfl (kE42_2))
def kt_42 : Nat → Option ex_C := fun pc => @Bool.rec (fun _ => Nat → Option ex_C) (fun pc => @Bool.rec (fun _ => Nat → Option ex_C) (fun pc => @Bool.rec (fun _ => Option ex_C) none (some k42_44) (Nat.beq pc 44)) (fun pc => @Bool.rec (fun _ => Option ex_C) none (some k42_38) (Nat.beq pc 38)) (Nat.ble pc 38) pc) (fun pc => @Bool.rec (fun _ => Nat → Option ex_C) (fun pc => @Bool.rec (fun _ => Option ex_C) none (some k42_2) (Nat.beq pc 2)) (fun pc => @Bool.rec (fun _ => Option ex_C) none (some k42_0) (Nat.beq pc 0)) (Nat.ble pc 0) pc) (Nat.ble pc 2) pc
theorem ktE_42 : ex_CTT 0 [] cd_42 kt_42 cd_42 := (ex_ct2 (ex_ct2 (ex_ct1 kE42_0) (ex_ct1 kE42_2)) (ex_ct2 (ex_ct1 kE42_38) (ex_ct1 kE42_44)))
set_option maxHeartbeats 100000 in
def k43_43 : ex_C := c_return_  15
set_option maxHeartbeats 100000 in
theorem kE43_43 : ex_CE 15 [] cd_43 k43_43 q43_43 := e_return_ 43 0 
set_option maxHeartbeats 100000 in
def k43_37 : ex_C := c_iinc 2 1 (c_goto 8)
set_option maxHeartbeats 100000 in
theorem kE43_37 : ex_CE 15 [] cd_43 k43_37 q43_37 := e_iinc 37 1 2 1 (e_goto 40 8 (-32))
set_option maxHeartbeats 100000 in
def k43_8 : ex_C := c_iload 2 (c_psh 8 (c_icmp_ge 43 (c_aload 0 (c_iload 2 (c_aload 1 (c_gf 3 0 (c_iload 2 (c_iaload (c_aload 1 (c_gf 3 1 (c_iload 2 (c_iaload (c_aload 1 (c_gf 3 2 (c_iload 2 (c_iaload (c_invV [] cd_43 34 5 41 1 (k43_37))))))))))))))))))
set_option maxHeartbeats 100000 in
theorem kE43_8 : ex_CE 15 [] cd_43 k43_8 q43_8 := e_iload_iload_n 8 0 2 2 rfl (e_psh_bipush 9 8 8 (e_icmp_ge 11 43 32 (e_aload_aload_n 14 0 0 0 rfl (e_iload_iload_n 15 0 2 2 rfl (e_aload_aload_n 16 0 1 1 rfl (e_gf 17 86208 25 3 0 rfl rfl (e_iload_iload_n 20 0 2 2 rfl (e_iaload 21 0 (e_aload_aload_n 22 0 1 1 rfl (e_gf 23 86209 28 3 1 rfl rfl (e_iload_iload_n 26 0 2 2 rfl (e_iaload 27 0 (e_aload_aload_n 28 0 1 1 rfl (e_gf 29 86210 29 3 2 rfl rfl (e_iload_iload_n 32 0 2 2 rfl (e_iaload 33 0 (e_invV_invokevirtual 34 466981 30 5 41 1 rfl rfl rfl rfl rfl rfl (kE43_37))))))))))))))))))
set_option maxHeartbeats 100000 in
def k43_0 : ex_C := c_aload 0 (c_psh 8 (c_pf 1 0 3 (c_psh 0 (c_istore 2 (k43_8)))))
set_option maxHeartbeats 100000 in
theorem kE43_0 : ex_CE 15 [] cd_43 k43_0 q43_0 := e_aload_aload_n 0 0 0 0 rfl (e_psh_bipush 1 8 8 (e_pf 3 67 21 1 0 3 rfl rfl rfl (e_psh_iconst 6 0 0 (e_istore_istore_n 7 0 2 2 rfl (kE43_8)))))
def kt_43 : Nat → Option ex_C := fun pc => @Bool.rec (fun _ => Nat → Option ex_C) (fun pc => @Bool.rec (fun _ => Nat → Option ex_C) (fun pc => @Bool.rec (fun _ => Option ex_C) none (some k43_43) (Nat.beq pc 43)) (fun pc => @Bool.rec (fun _ => Option ex_C) none (some k43_37) (Nat.beq pc 37)) (Nat.ble pc 37) pc) (fun pc => @Bool.rec (fun _ => Nat → Option ex_C) (fun pc => @Bool.rec (fun _ => Option ex_C) none (some k43_8) (Nat.beq pc 8)) (fun pc => @Bool.rec (fun _ => Option ex_C) none (some k43_0) (Nat.beq pc 0)) (Nat.ble pc 0) pc) (Nat.ble pc 8) pc
theorem ktE_43 : ex_CTT 15 [] cd_43 kt_43 cd_43 := (ex_ct2 (ex_ct2 (ex_ct1 kE43_0) (ex_ct1 kE43_8)) (ex_ct2 (ex_ct1 kE43_37) (ex_ct1 kE43_43)))
set_option maxHeartbeats 100000 in
def k44_60 : ex_C := c_ireturn  1
set_option maxHeartbeats 100000 in
theorem kE44_60 : ex_CE 1 [] cd_44 k44_60 q44_60 := e_ireturn 60 0 
set_option maxHeartbeats 100000 in
def k44_59 : ex_C := c_psh 0 (k44_60)
set_option maxHeartbeats 100000 in
theorem kE44_59 : ex_CE 1 [] cd_44 k44_59 q44_59 := e_psh_iconst 59 0 0 (kE44_60)
set_option maxHeartbeats 100000 in
def k44_0 : ex_C := c_iload 1 (c_if_lt 59 (c_iload 1 (c_psh 8 (c_icmp_ge 59 (c_aload 0 (c_gf 1 0 (c_iload 1 (c_iaload (c_aload 2 (c_gf 3 0 (c_iload 1 (c_iaload (c_icmp_ne 59 (c_aload 0 (c_gf 1 1 (c_iload 1 (c_iaload (c_aload 2 (c_gf 3 1 (c_iload 1 (c_iaload (c_icmp_ne 59 (c_aload 0 (c_gf 1 2 (c_iload 1 (c_iaload (c_aload 2 (c_gf 3 2 (c_iload 1 (c_iaload (c_icmp_ne 59 (c_psh 1 (c_goto 60)))))))))))))))))))))))))))))))))
set_option maxHeartbeats 100000 in
theorem kE44_0 : ex_CE 1 [] cd_44 k44_0 q44_0 := e_iload_iload_n 0 0 1 1 rfl (e_if_lt 1 59 58 (e_iload_iload_n 4 0 1 1 rfl (e_psh_bipush 5 8 8 (e_icmp_ge 7 59 52 (e_aload_aload_n 10 0 0 0 rfl (e_gf 11 86080 9 1 0 rfl rfl (e_iload_iload_n 14 0 1 1 rfl (e_iaload 15 0 (e_aload_aload_n 16 0 2 2 rfl (e_gf 17 86208 25 3 0 rfl rfl (e_iload_iload_n 20 0 1 1 rfl (e_iaload 21 0 (e_icmp_ne 22 59 37 (e_aload_aload_n 25 0 0 0 rfl (e_gf 26 86081 15 1 1 rfl rfl (e_iload_iload_n 29 0 1 1 rfl (e_iaload 30 0 (e_aload_aload_n 31 0 2 2 rfl (e_gf 32 86209 28 3 1 rfl rfl (e_iload_iload_n 35 0 1 1 rfl (e_iaload 36 0 (e_icmp_ne 37 59 22 (e_aload_aload_n 40 0 0 0 rfl (e_gf 41 86082 18 1 2 rfl rfl (e_iload_iload_n 44 0 1 1 rfl (e_iaload 45 0 (e_aload_aload_n 46 0 2 2 rfl (e_gf 47 86210 29 3 2 rfl rfl (e_iload_iload_n 50 0 1 1 rfl (e_iaload 51 0 (e_icmp_ne 52 59 7 (e_psh_iconst 55 1 1 (e_goto 56 60 4)))))))))))))))))))))))))))))))))
def kt_44 : Nat → Option ex_C := fun pc => @Bool.rec (fun _ => Nat → Option ex_C) (fun pc => @Bool.rec (fun _ => Nat → Option ex_C) (fun pc => @Bool.rec (fun _ => Option ex_C) none (some k44_60) (Nat.beq pc 60)) (fun pc => @Bool.rec (fun _ => Option ex_C) none (some k44_59) (Nat.beq pc 59)) (Nat.ble pc 59) pc) (fun pc => @Bool.rec (fun _ => Option ex_C) none (some k44_0) (Nat.beq pc 0)) (Nat.ble pc 0) pc
theorem ktE_44 : ex_CTT 1 [] cd_44 kt_44 cd_44 := (ex_ct2 (ex_ct1 kE44_0) (ex_ct2 (ex_ct1 kE44_59) (ex_ct1 kE44_60)))
set_option maxHeartbeats 100000 in
def k45_0 : ex_C := c_aload 0 (c_oinit (c_aload 0 (c_psh 8 (c_newarr 64 0 (c_pf 6 5 0 (c_aload 0 (c_psh 8 (c_newarr 64 0 (c_pf 6 5 1 (c_aload 0 (c_psh 8 (c_newarr 64 0 (c_pf 6 5 2 (c_aload 0 (c_psh 0 (c_pf 6 0 3 (c_aload 0 (c_psh 0 (c_pf 6 0 4 (c_aload 0 (c_psh 0 (c_pf 6 0 5 (c_aload 0 (c_psh 0 (c_pf 6 0 6 (c_aload 0 (c_psh 0 (c_pf 6 0 7 (c_aload 0 (c_psh 0 (c_pf 6 0 8 (c_return_  15))))))))))))))))))))))))))))))))
set_option maxHeartbeats 100000 in
theorem kE45_0 : ex_CE 15 [] cd_45 k45_0 q45_0 := e_aload_aload_n 0 0 0 0 rfl (e_oinit (e_aload_aload_n 4 0 0 0 rfl (e_psh_bipush 5 8 8 (e_newarr 7 64 0 rfl (e_pf 9 86400 11 6 5 0 rfl rfl rfl (e_aload_aload_n 12 0 0 0 rfl (e_psh_bipush 13 8 8 (e_newarr 15 64 0 rfl (e_pf 17 86401 17 6 5 1 rfl rfl rfl (e_aload_aload_n 20 0 0 0 rfl (e_psh_bipush 21 8 8 (e_newarr 23 64 0 rfl (e_pf 25 86402 20 6 5 2 rfl rfl rfl (e_aload_aload_n 28 0 0 0 rfl (e_psh_iconst 29 0 0 (e_pf 30 387 23 6 0 3 rfl rfl rfl (e_aload_aload_n 33 0 0 0 rfl (e_psh_iconst 34 0 0 (e_pf 35 388 27 6 0 4 rfl rfl rfl (e_aload_aload_n 38 0 0 0 rfl (e_psh_iconst 39 0 0 (e_pf 40 389 30 6 0 5 rfl rfl rfl (e_aload_aload_n 43 0 0 0 rfl (e_psh_iconst 44 0 0 (e_pf 45 390 33 6 0 6 rfl rfl rfl (e_aload_aload_n 48 0 0 0 rfl (e_psh_iconst 49 0 0 (e_pf 50 391 36 6 0 7 rfl rfl rfl (e_aload_aload_n 53 0 0 0 rfl (e_psh_iconst 54 0 0 (e_pf 55 392 39 6 0 8 rfl rfl rfl (e_return_ 58 0 ))))))))))))))))))))))))))))))))
def kt_45 : Nat → Option ex_C := fun pc => @Bool.rec (fun _ => Option ex_C) none (some k45_0) (Nat.beq pc 0)
theorem ktE_45 : ex_CTT 15 [] cd_45 kt_45 cd_45 := (ex_ct1 kE45_0)
set_option maxHeartbeats 100000 in
def k46_0 : ex_C := c_aload 0 (c_psh 0 (c_pf 6 0 3 (c_aload 0 (c_psh 0 (c_pf 6 0 4 (c_aload 0 (c_psh 0 (c_pf 6 0 5 (c_aload 0 (c_psh 0 (c_pf 6 0 6 (c_aload 0 (c_psh 0 (c_pf 6 0 7 (c_aload 0 (c_psh 0 (c_pf 6 0 8 (c_return_  15))))))))))))))))))
set_option maxHeartbeats 100000 in
theorem kE46_0 : ex_CE 15 [] cd_46 k46_0 q46_0 := e_aload_aload_n 0 0 0 0 rfl (e_psh_iconst 1 0 0 (e_pf 2 387 23 6 0 3 rfl rfl rfl (e_aload_aload_n 5 0 0 0 rfl (e_psh_iconst 6 0 0 (e_pf 7 388 27 6 0 4 rfl rfl rfl (e_aload_aload_n 10 0 0 0 rfl (e_psh_iconst 11 0 0 (e_pf 12 389 30 6 0 5 rfl rfl rfl (e_aload_aload_n 15 0 0 0 rfl (e_psh_iconst 16 0 0 (e_pf 17 390 33 6 0 6 rfl rfl rfl (e_aload_aload_n 20 0 0 0 rfl (e_psh_iconst 21 0 0 (e_pf 22 391 36 6 0 7 rfl rfl rfl (e_aload_aload_n 25 0 0 0 rfl (e_psh_iconst 26 0 0 (e_pf 27 392 39 6 0 8 rfl rfl rfl (e_return_ 30 0 ))))))))))))))))))
def kt_46 : Nat → Option ex_C := fun pc => @Bool.rec (fun _ => Option ex_C) none (some k46_0) (Nat.beq pc 0)
theorem ktE_46 : ex_CTT 15 [] cd_46 kt_46 cd_46 := (ex_ct1 kE46_0)
set_option maxHeartbeats 100000 in
def k47_106 : ex_C := c_pf 6 0 7 (c_return_  15)
set_option maxHeartbeats 100000 in
theorem kE47_106 : ex_CE 15 [] cd_47 k47_106 q47_106 := e_pf 106 391 36 6 0 7 rfl rfl rfl (e_return_ 109 0 )
set_option maxHeartbeats 100000 in
def k47_29 : ex_C := c_aload 0 (c_gf 6 0 (c_aload 0 (c_gf 6 3 (c_iload 1 (c_iastore (c_aload 0 (c_gf 6 1 (c_aload 0 (c_gf 6 3 (c_iload 2 (c_iastore (c_aload 0 (c_gf 6 2 (c_aload 0 (c_gf 6 3 (c_iload 3 (c_iastore (c_aload 0 (c_dup   (c_gf 6 3 (c_psh 1 (c_iadd (c_pf 6 0 3 (c_aload 0 (c_dup   (c_gf 6 5 (c_psh 17179869186 (c_iload 1 (c_iaload (c_iadd (c_pf 6 0 5 (c_aload 0 (c_psh 2 (c_aload 0 (c_gf 6 5 (c_imul (c_pf 6 0 6 (c_aload 0 (c_aload 0 (c_gf 6 7 (c_psh 17179869185 (c_iload 1 (c_iaload (c_invS [] cd_47 103 2 162 (k47_106)))))))))))))))))))))))))))))))))))))))))))))
set_option maxHeartbeats 100000 in
theorem kE47_29 : ex_CE 15 [] cd_47 k47_29 q47_29 := e_aload_aload_n 29 0 0 0 rfl (e_gf 30 86400 11 6 0 rfl rfl (e_aload_aload_n 33 0 0 0 rfl (e_gf 34 387 23 6 3 rfl rfl (e_iload_iload_n 37 0 1 1 rfl (e_iastore 38 0 (e_aload_aload_n 39 0 0 0 rfl (e_gf 40 86401 17 6 1 rfl rfl (e_aload_aload_n 43 0 0 0 rfl (e_gf 44 387 23 6 3 rfl rfl (e_iload_iload_n 47 0 2 2 rfl (e_iastore 48 0 (e_aload_aload_n 49 0 0 0 rfl (e_gf 50 86402 20 6 2 rfl rfl (e_aload_aload_n 53 0 0 0 rfl (e_gf 54 387 23 6 3 rfl rfl (e_iload_iload_n 57 0 3 3 rfl (e_iastore 58 0 (e_aload_aload_n 59 0 0 0 rfl (e_dup 60 0  (e_gf 61 387 23 6 3 rfl rfl (e_psh_iconst 64 1 1 (e_iadd 65 0 (e_pf 66 387 23 6 0 3 rfl rfl rfl (e_aload_aload_n 69 0 0 0 rfl (e_dup 70 0  (e_gf 71 389 30 6 5 rfl rfl (e_psh_getstatic 74 17179869186 42 (e_iload_iload_n 77 0 1 1 rfl (e_iaload 78 0 (e_iadd 79 0 (e_pf 80 389 30 6 0 5 rfl rfl rfl (e_aload_aload_n 83 0 0 0 rfl (e_psh_iconst 84 2 2 (e_aload_aload_n 85 0 0 0 rfl (e_gf 86 389 30 6 5 rfl rfl (e_imul 89 0 (e_pf 90 390 33 6 0 6 rfl rfl rfl (e_aload_aload_n 93 0 0 0 rfl (e_aload_aload_n 94 0 0 0 rfl (e_gf 95 391 36 6 7 rfl rfl (e_psh_getstatic 98 17179869185 45 (e_iload_iload_n 101 0 1 1 rfl (e_iaload 102 0 (e_invS 103 1466338 48 2 162 rfl rfl rfl (kE47_106)))))))))))))))))))))))))))))))))))))))))))))
set_option maxHeartbeats 100000 in
def k47_28 : ex_C := c_return_  15
set_option maxHeartbeats 100000 in
theorem kE47_28 : ex_CE 15 [] cd_47 k47_28 q47_28 := e_return_ 28 0 
set_option maxHeartbeats 100000 in
def k47_0 : ex_C := c_aload 0 (c_gf 6 3 (c_if_lt 28 (c_aload 0 (c_gf 6 3 (c_psh 8 (c_icmp_ge 28 (c_iload 1 (c_if_lt 28 (c_iload 1 (c_psh 17179869186 (c_arraylength   (c_icmp_lt 29 (k47_28)))))))))))))
set_option maxHeartbeats 100000 in
theorem kE47_0 : ex_CE 15 [] cd_47 k47_0 q47_0 := e_aload_aload_n 0 0 0 0 rfl (e_gf 1 387 23 6 3 rfl rfl (e_if_lt 4 28 24 (e_aload_aload_n 7 0 0 0 rfl (e_gf 8 387 23 6 3 rfl rfl (e_psh_bipush 11 8 8 (e_icmp_ge 13 28 15 (e_iload_iload_n 16 0 1 1 rfl (e_if_lt 17 28 11 (e_iload_iload_n 20 0 1 1 rfl (e_psh_getstatic 21 17179869186 42 (e_arraylength 24 0  (e_icmp_lt 25 29 4 (kE47_28)))))))))))))
def kt_47 : Nat → Option ex_C := fun pc => @Bool.rec (fun _ => Nat → Option ex_C) (fun pc => @Bool.rec (fun _ => Nat → Option ex_C) (fun pc => @Bool.rec (fun _ => Option ex_C) none (some k47_106) (Nat.beq pc 106)) (fun pc => @Bool.rec (fun _ => Option ex_C) none (some k47_29) (Nat.beq pc 29)) (Nat.ble pc 29) pc) (fun pc => @Bool.rec (fun _ => Nat → Option ex_C) (fun pc => @Bool.rec (fun _ => Option ex_C) none (some k47_28) (Nat.beq pc 28)) (fun pc => @Bool.rec (fun _ => Option ex_C) none (some k47_0) (Nat.beq pc 0)) (Nat.ble pc 0) pc) (Nat.ble pc 28) pc
theorem ktE_47 : ex_CTT 15 [] cd_47 kt_47 cd_47 := (ex_ct2 (ex_ct2 (ex_ct1 kE47_0) (ex_ct1 kE47_28)) (ex_ct2 (ex_ct1 kE47_29) (ex_ct1 kE47_106)))
set_option maxHeartbeats 100000 in
def k48_11 : ex_C := c_return_  15
set_option maxHeartbeats 100000 in
theorem kE48_11 : ex_CE 15 [] cd_48 k48_11 q48_11 := e_return_ 11 0 
set_option maxHeartbeats 100000 in
def k48_4 : ex_C := c_aload 0 (c_iload 1 (c_psh 0 (c_psh 0 (c_invV [] cd_48 8 4 47 6 (k48_11)))))
set_option maxHeartbeats 100000 in
theorem kE48_4 : ex_CE 15 [] cd_48 k48_4 q48_4 := e_aload_aload_n 4 0 0 0 rfl (e_iload_iload_n 5 0 1 1 rfl (e_psh_iconst 6 0 0 (e_psh_iconst 7 0 0 (e_invV_invokevirtual 8 516292 57 4 47 6 rfl rfl rfl rfl rfl rfl (kE48_11)))))
set_option maxHeartbeats 100000 in
def k48_0 : ex_C := c_aload 0 (c_invV [] cd_48 1 1 46 6 (k48_4))
set_option maxHeartbeats 100000 in
theorem kE48_0 : ex_CE 15 [] cd_48 k48_0 q48_0 := e_aload_aload_n 0 0 0 0 rfl (e_invV_invokevirtual 1 508097 54 1 46 6 rfl rfl rfl rfl rfl rfl (kE48_4))
def kt_48 : Nat → Option ex_C := fun pc => @Bool.rec (fun _ => Nat → Option ex_C) (fun pc => @Bool.rec (fun _ => Nat → Option ex_C) (fun pc => @Bool.rec (fun _ => Option ex_C) none (some k48_11) (Nat.beq pc 11)) (fun pc => @Bool.rec (fun _ => Option ex_C) none (some k48_4) (Nat.beq pc 4)) (Nat.ble pc 4) pc) (fun pc => @Bool.rec (fun _ => Option ex_C) none (some k48_0) (Nat.beq pc 0)) (Nat.ble pc 0) pc
theorem ktE_48 : ex_CTT 15 [] cd_48 kt_48 cd_48 := (ex_ct2 (ex_ct1 kE48_0) (ex_ct2 (ex_ct1 kE48_4) (ex_ct1 kE48_11)))
set_option maxHeartbeats 100000 in
def k49_11 : ex_C := c_aload 0 (c_iload 2 (c_pf 6 0 4 (c_return_  15)))
set_option maxHeartbeats 100000 in
theorem kE49_11 : ex_CE 15 [] cd_49 k49_11 q49_11 := e_aload_aload_n 11 0 0 0 rfl (e_iload_iload_n 12 0 2 2 rfl (e_pf 13 388 27 6 0 4 rfl rfl rfl (e_return_ 16 0 )))
set_option maxHeartbeats 100000 in
def k49_0 : ex_C := c_iload 1 (c_if_eq 11 (c_aload 0 (c_gf 6 1 (c_psh 0 (c_iload 1 (c_iastore (k49_11)))))))
set_option maxHeartbeats 100000 in
theorem kE49_0 : ex_CE 15 [] cd_49 k49_0 q49_0 := e_iload_iload_n 0 0 1 1 rfl (e_if_eq 1 11 10 (e_aload_aload_n 4 0 0 0 rfl (e_gf 5 86401 17 6 1 rfl rfl (e_psh_iconst 8 0 0 (e_iload_iload_n 9 0 1 1 rfl (e_iastore 10 0 (kE49_11)))))))
def kt_49 : Nat → Option ex_C := fun pc => @Bool.rec (fun _ => Nat → Option ex_C) (fun pc => @Bool.rec (fun _ => Option ex_C) none (some k49_11) (Nat.beq pc 11)) (fun pc => @Bool.rec (fun _ => Option ex_C) none (some k49_0) (Nat.beq pc 0)) (Nat.ble pc 0) pc
theorem ktE_49 : ex_CTT 15 [] cd_49 kt_49 cd_49 := (ex_ct2 (ex_ct1 kE49_0) (ex_ct1 kE49_11))
set_option maxHeartbeats 100000 in
def k50_69 : ex_C := c_return_  15
set_option maxHeartbeats 100000 in
theorem kE50_69 : ex_CE 15 [] cd_50 k50_69 q50_69 := e_return_ 69 0 
set_option maxHeartbeats 100000 in
def k50_50 : ex_C := c_aload 1 (c_gf 5 3 (c_iload 2 (c_iaload (c_if_le 69 (c_aload 0 (c_aload 1 (c_gf 5 3 (c_iload 2 (c_iaload (c_pf 6 0 6 (k50_69)))))))))))
set_option maxHeartbeats 100000 in
theorem kE50_50 : ex_CE 15 [] cd_50 k50_50 q50_50 := e_aload_aload_n 50 0 1 1 rfl (e_gf 51 86339 71 5 3 rfl rfl (e_iload_iload_n 54 0 2 2 rfl (e_iaload 55 0 (e_if_le 56 69 13 (e_aload_aload_n 59 0 0 0 rfl (e_aload_aload_n 60 0 1 1 rfl (e_gf 61 86339 71 5 3 rfl rfl (e_iload_iload_n 64 0 2 2 rfl (e_iaload 65 0 (e_pf 66 390 33 6 0 6 rfl rfl rfl (kE50_69)))))))))))
set_option maxHeartbeats 100000 in
def k50_44 : ex_C := c_iinc 3 1 (c_goto 6)
set_option maxHeartbeats 100000 in
theorem kE50_44 : ex_CE 15 [] cd_50 k50_44 q50_44 := e_iinc 44 1 3 1 (e_goto 47 6 (-41))
set_option maxHeartbeats 100000 in
def k50_6 : ex_C := c_iload 3 (c_aload 1 (c_gf 5 2 (c_iload 2 (c_iaload (c_icmp_ge 50 (c_aload 0 (c_aload 1 (c_gf 5 4 (c_iload 2 (c_aaload   (c_iload 3 (c_iaload (c_aload 1 (c_gf 5 5 (c_iload 2 (c_aaload   (c_iload 3 (c_iaload (c_aload 1 (c_gf 5 6 (c_iload 2 (c_aaload   (c_iload 3 (c_iaload (c_invV [] cd_50 41 4 47 6 (k50_44))))))))))))))))))))))))))
set_option maxHeartbeats 100000 in
theorem kE50_6 : ex_CE 15 [] cd_50 k50_6 q50_6 := e_iload_iload_n 6 0 3 3 rfl (e_aload_aload_n 7 0 1 1 rfl (e_gf 8 86338 61 5 2 rfl rfl (e_iload_iload_n 11 0 2 2 rfl (e_iaload 12 0 (e_icmp_ge 13 50 37 (e_aload_aload_n 16 0 0 0 rfl (e_aload_aload_n 17 0 1 1 rfl (e_gf 18 86340 64 5 4 rfl rfl (e_iload_iload_n 21 0 2 2 rfl (e_aaload 22 0  (e_iload_iload_n 23 0 3 3 rfl (e_iaload 24 0 (e_aload_aload_n 25 0 1 1 rfl (e_gf 26 86341 67 5 5 rfl rfl (e_iload_iload_n 29 0 2 2 rfl (e_aaload 30 0  (e_iload_iload_n 31 0 3 3 rfl (e_iaload 32 0 (e_aload_aload_n 33 0 1 1 rfl (e_gf 34 86342 69 5 6 rfl rfl (e_iload_iload_n 37 0 2 2 rfl (e_aaload 38 0  (e_iload_iload_n 39 0 3 3 rfl (e_iaload 40 0 (e_invV_invokevirtual 41 516292 57 4 47 6 rfl rfl rfl rfl rfl rfl (kE50_44))))))))))))))))))))))))))
set_option maxHeartbeats 100000 in
def k50_4 : ex_C := c_psh 0 (c_istore 3 (k50_6))
set_option maxHeartbeats 100000 in
theorem kE50_4 : ex_CE 15 [] cd_50 k50_4 q50_4 := e_psh_iconst 4 0 0 (e_istore_istore_n 5 0 3 3 rfl (kE50_6))
set_option maxHeartbeats 100000 in
def k50_0 : ex_C := c_aload 0 (c_invV [] cd_50 1 1 46 6 (k50_4))
set_option maxHeartbeats 100000 in
theorem kE50_0 : ex_CE 15 [] cd_50 k50_0 q50_0 := e_aload_aload_n 0 0 0 0 rfl (e_invV_invokevirtual 1 508097 54 1 46 6 rfl rfl rfl rfl rfl rfl (kE50_4))
def kt_50 : Nat → Option ex_C := fun pc => @Bool.rec (fun _ => Nat → Option ex_C) (fun pc => @Bool.rec (fun _ => Nat → Option ex_C) (fun pc => @Bool.rec (fun _ => Nat → Option ex_C) (fun pc => @Bool.rec (fun _ => Option ex_C) none (some k50_69) (Nat.beq pc 69)) (fun pc => @Bool.rec (fun _ => Option ex_C) none (some k50_50) (Nat.beq pc 50)) (Nat.ble pc 50) pc) (fun pc => @Bool.rec (fun _ => Option ex_C) none (some k50_44) (Nat.beq pc 44)) (Nat.ble pc 44) pc) (fun pc => @Bool.rec (fun _ => Nat → Option ex_C) (fun pc => @Bool.rec (fun _ => Nat → Option ex_C) (fun pc => @Bool.rec (fun _ => Option ex_C) none (some k50_6) (Nat.beq pc 6)) (fun pc => @Bool.rec (fun _ => Option ex_C) none (some k50_4) (Nat.beq pc 4)) (Nat.ble pc 4) pc) (fun pc => @Bool.rec (fun _ => Option ex_C) none (some k50_0) (Nat.beq pc 0)) (Nat.ble pc 0) pc) (Nat.ble pc 6) pc
theorem ktE_50 : ex_CTT 15 [] cd_50 kt_50 cd_50 := (ex_ct2 (ex_ct2 (ex_ct1 kE50_0) (ex_ct2 (ex_ct1 kE50_4) (ex_ct1 kE50_6))) (ex_ct2 (ex_ct1 kE50_44) (ex_ct2 (ex_ct1 kE50_50) (ex_ct1 kE50_69))))
set_option maxHeartbeats 100000 in
def k51_42 : ex_C := c_aload 0 (c_aload 1 (c_gf 6 4 (c_pf 6 0 4 (c_aload 0 (c_aload 1 (c_gf 6 6 (c_pf 6 0 6 (c_aload 0 (c_iload 2 (c_pf 6 0 8 (c_return_  15)))))))))))
set_option maxHeartbeats 100000 in
theorem kE51_42 : ex_CE 15 [] cd_51 k51_42 q51_42 := e_aload_aload_n 42 0 0 0 rfl (e_aload_aload_n 43 0 1 1 rfl (e_gf 44 388 27 6 4 rfl rfl (e_pf 47 388 27 6 0 4 rfl rfl rfl (e_aload_aload_n 50 0 0 0 rfl (e_aload_aload_n 51 0 1 1 rfl (e_gf 52 390 33 6 6 rfl rfl (e_pf 55 390 33 6 0 6 rfl rfl rfl (e_aload_aload_n 58 0 0 0 rfl (e_iload_iload_n 59 0 2 2 rfl (e_pf 60 392 39 6 0 8 rfl rfl rfl (e_return_ 63 0 )))))))))))
set_option maxHeartbeats 100000 in
def k51_36 : ex_C := c_iinc 3 1 (c_goto 6)
set_option maxHeartbeats 100000 in
theorem kE51_36 : ex_CE 15 [] cd_51 k51_36 q51_36 := e_iinc 36 1 3 1 (e_goto 39 6 (-33))
set_option maxHeartbeats 100000 in
def k51_6 : ex_C := c_iload 3 (c_aload 1 (c_gf 6 3 (c_icmp_ge 42 (c_aload 0 (c_aload 1 (c_gf 6 0 (c_iload 3 (c_iaload (c_aload 1 (c_gf 6 1 (c_iload 3 (c_iaload (c_aload 1 (c_gf 6 2 (c_iload 3 (c_iaload (c_invV [] cd_51 33 4 47 6 (k51_36))))))))))))))))))
set_option maxHeartbeats 100000 in
theorem kE51_6 : ex_CE 15 [] cd_51 k51_6 q51_6 := e_iload_iload_n 6 0 3 3 rfl (e_aload_aload_n 7 0 1 1 rfl (e_gf 8 387 23 6 3 rfl rfl (e_icmp_ge 11 42 31 (e_aload_aload_n 14 0 0 0 rfl (e_aload_aload_n 15 0 1 1 rfl (e_gf 16 86400 11 6 0 rfl rfl (e_iload_iload_n 19 0 3 3 rfl (e_iaload 20 0 (e_aload_aload_n 21 0 1 1 rfl (e_gf 22 86401 17 6 1 rfl rfl (e_iload_iload_n 25 0 3 3 rfl (e_iaload 26 0 (e_aload_aload_n 27 0 1 1 rfl (e_gf 28 86402 20 6 2 rfl rfl (e_iload_iload_n 31 0 3 3 rfl (e_iaload 32 0 (e_invV_invokevirtual 33 516292 57 4 47 6 rfl rfl rfl rfl rfl rfl (kE51_36))))))))))))))))))
set_option maxHeartbeats 100000 in
def k51_4 : ex_C := c_psh 0 (c_istore 3 (k51_6))
set_option maxHeartbeats 100000 in
theorem kE51_4 : ex_CE 15 [] cd_51 k51_4 q51_4 := e_psh_iconst 4 0 0 (e_istore_istore_n 5 0 3 3 rfl (kE51_6))
set_option maxHeartbeats 100000 in
def k51_0 : ex_C := c_aload 0 (c_invV [] cd_51 1 1 46 6 (k51_4))
set_option maxHeartbeats 100000 in
theorem kE51_0 : ex_CE 15 [] cd_51 k51_0 q51_0 := e_aload_aload_n 0 0 0 0 rfl (e_invV_invokevirtual 1 508097 54 1 46 6 rfl rfl rfl rfl rfl rfl (kE51_4))
def kt_51 : Nat → Option ex_C := fun pc => @Bool.rec (fun _ => Nat → Option ex_C) (fun pc => @Bool.rec (fun _ => Nat → Option ex_C) (fun pc => @Bool.rec (fun _ => Nat → Option ex_C) (fun pc => @Bool.rec (fun _ => Option ex_C) none (some k51_42) (Nat.beq pc 42)) (fun pc => @Bool.rec (fun _ => Option ex_C) none (some k51_36) (Nat.beq pc 36)) (Nat.ble pc 36) pc) (fun pc => @Bool.rec (fun _ => Option ex_C) none (some k51_6) (Nat.beq pc 6)) (Nat.ble pc 6) pc) (fun pc => @Bool.rec (fun _ => Nat → Option ex_C) (fun pc => @Bool.rec (fun _ => Option ex_C) none (some k51_4) (Nat.beq pc 4)) (fun pc => @Bool.rec (fun _ => Option ex_C) none (some k51_0) (Nat.beq pc 0)) (Nat.ble pc 0) pc) (Nat.ble pc 4) pc
theorem ktE_51 : ex_CTT 15 [] cd_51 kt_51 cd_51 := (ex_ct2 (ex_ct2 (ex_ct1 kE51_0) (ex_ct1 kE51_4)) (ex_ct2 (ex_ct1 kE51_6) (ex_ct2 (ex_ct1 kE51_36) (ex_ct1 kE51_42))))
set_option maxHeartbeats 100000 in
def k52_28 : ex_C := c_ireturn  0
set_option maxHeartbeats 100000 in
theorem kE52_28 : ex_CE 0 [] cd_52 k52_28 q52_28 := e_ireturn 28 0 
set_option maxHeartbeats 100000 in
def k52_22 : ex_C := c_aload 0 (c_gf 6 2 (c_iload 1 (c_iaload (k52_28))))
set_option maxHeartbeats 100000 in
theorem kE52_22 : ex_CE 0 [] cd_52 k52_22 q52_22 := e_aload_aload_n 22 0 0 0 rfl (e_gf 23 86402 20 6 2 rfl rfl (e_iload_iload_n 26 0 1 1 rfl (e_iaload 27 0 (kE52_28))))
set_option maxHeartbeats 100000 in
def k52_0 : ex_C := c_aload 0 (c_gf 6 4 (c_psh 4 (c_icmp_ne 22 (c_aload 0 (c_gf 6 2 (c_iload 1 (c_iaload (c_psh 4 (c_icmp_ne 22 (c_psh 0 (c_goto 28)))))))))))
set_option maxHeartbeats 100000 in
theorem kE52_0 : ex_CE 0 [] cd_52 k52_0 q52_0 := e_aload_aload_n 0 0 0 0 rfl (e_gf 1 388 27 6 4 rfl rfl (e_psh_iconst 4 4 4 (e_icmp_ne 5 22 17 (e_aload_aload_n 8 0 0 0 rfl (e_gf 9 86402 20 6 2 rfl rfl (e_iload_iload_n 12 0 1 1 rfl (e_iaload 13 0 (e_psh_iconst 14 4 4 (e_icmp_ne 15 22 7 (e_psh_iconst 18 0 0 (e_goto 19 28 9)))))))))))
def kt_52 : Nat → Option ex_C := fun pc => @Bool.rec (fun _ => Nat → Option ex_C) (fun pc => @Bool.rec (fun _ => Nat → Option ex_C) (fun pc => @Bool.rec (fun _ => Option ex_C) none (some k52_28) (Nat.beq pc 28)) (fun pc => @Bool.rec (fun _ => Option ex_C) none (some k52_22) (Nat.beq pc 22)) (Nat.ble pc 22) pc) (fun pc => @Bool.rec (fun _ => Option ex_C) none (some k52_0) (Nat.beq pc 0)) (Nat.ble pc 0) pc
theorem ktE_52 : ex_CTT 0 [] cd_52 kt_52 cd_52 := (ex_ct2 (ex_ct1 kE52_0) (ex_ct2 (ex_ct1 kE52_22) (ex_ct1 kE52_28)))
set_option maxHeartbeats 100000 in
def k53_22 : ex_C := c_ireturn  0
set_option maxHeartbeats 100000 in
theorem kE53_22 : ex_CE 0 [] cd_53 k53_22 q53_22 := e_ireturn 22 0 
set_option maxHeartbeats 100000 in
def k53_11 : ex_C := c_aload 0 (c_gf 6 6 (c_iload 1 (c_imul (c_aload 0 (c_gf 6 5 (c_idiv   (k53_22)))))))
set_option maxHeartbeats 100000 in
theorem kE53_11 : ex_CE 0 [] cd_53 k53_11 q53_11 := e_aload_aload_n 11 0 0 0 rfl (e_gf 12 390 33 6 6 rfl rfl (e_iload_iload_n 15 0 1 1 rfl (e_imul 16 0 (e_aload_aload_n 17 0 0 0 rfl (e_gf 18 389 30 6 5 rfl rfl (e_idiv 21 0  (kE53_22)))))))
set_option maxHeartbeats 100000 in
def k53_0 : ex_C := c_aload 0 (c_gf 6 5 (c_if_ne 11 (c_psh 0 (c_goto 22))))
set_option maxHeartbeats 100000 in
theorem kE53_0 : ex_CE 0 [] cd_53 k53_0 q53_0 := e_aload_aload_n 0 0 0 0 rfl (e_gf 1 389 30 6 5 rfl rfl (e_if_ne 4 11 7 (e_psh_iconst 7 0 0 (e_goto 8 22 14))))
def kt_53 : Nat → Option ex_C := fun pc => @Bool.rec (fun _ => Nat → Option ex_C) (fun pc => @Bool.rec (fun _ => Nat → Option ex_C) (fun pc => @Bool.rec (fun _ => Option ex_C) none (some k53_22) (Nat.beq pc 22)) (fun pc => @Bool.rec (fun _ => Option ex_C) none (some k53_11) (Nat.beq pc 11)) (Nat.ble pc 11) pc) (fun pc => @Bool.rec (fun _ => Option ex_C) none (some k53_0) (Nat.beq pc 0)) (Nat.ble pc 0) pc
theorem ktE_53 : ex_CTT 0 [] cd_53 kt_53 cd_53 := (ex_ct2 (ex_ct1 kE53_0) (ex_ct2 (ex_ct1 kE53_11) (ex_ct1 kE53_22)))
set_option maxHeartbeats 100000 in
def k54_0 : ex_C := c_aload 0 (c_oinit (c_aload 0 (c_psh 0 (c_pf 9 0 0 (c_aload 0 (c_psh 0 (c_pf 9 0 1 (c_aload 0 (c_psh 0 (c_pf 9 0 2 (c_aload 0 (c_psh 412316860416 (c_pf 9 3 3 (c_return_  15))))))))))))))
set_option maxHeartbeats 100000 in
theorem kE54_0 : ex_CE 15 [] cd_54 k54_0 q54_0 := e_aload_aload_n 0 0 0 0 rfl (e_oinit (e_aload_aload_n 4 0 0 0 rfl (e_psh_iconst 5 0 0 (e_pf 6 576 7 9 0 0 rfl rfl rfl (e_aload_aload_n 9 0 0 0 rfl (e_psh_iconst 10 0 0 (e_pf 11 577 13 9 0 1 rfl rfl rfl (e_aload_aload_n 14 0 0 0 rfl (e_psh_iconst 15 0 0 (e_pf 16 578 16 9 0 2 rfl rfl rfl (e_aload_aload_n 19 0 0 0 rfl (e_psh_lconst 20 412316860416 0 (e_pf 21 12867 19 9 3 3 rfl rfl rfl (e_return_ 24 0 ))))))))))))))
def kt_54 : Nat → Option ex_C := fun pc => @Bool.rec (fun _ => Option ex_C) none (some k54_0) (Nat.beq pc 0)
theorem ktE_54 : ex_CTT 15 [] cd_54 kt_54 cd_54 := (ex_ct1 kE54_0)
set_option maxHeartbeats 100000 in
def k55_0 : ex_C := c_aload 0 (c_iload 1 (c_pf 9 0 0 (c_aload 0 (c_psh 0 (c_pf 9 0 1 (c_return_  15))))))
set_option maxHeartbeats 100000 in
theorem kE55_0 : ex_CE 15 [] cd_55 k55_0 q55_0 := e_aload_aload_n 0 0 0 0 rfl (e_iload_iload_n 1 0 1 1 rfl (e_pf 2 576 7 9 0 0 rfl rfl rfl (e_aload_aload_n 5 0 0 0 rfl (e_psh_iconst 6 0 0 (e_pf 7 577 13 9 0 1 rfl rfl rfl (e_return_ 10 0 ))))))
def kt_55 : Nat → Option ex_C := fun pc => @Bool.rec (fun _ => Option ex_C) none (some k55_0) (Nat.beq pc 0)
theorem ktE_55 : ex_CTT 15 [] cd_55 kt_55 cd_55 := (ex_ct1 kE55_0)
set_option maxHeartbeats 100000 in
def k56_28 : ex_C := c_iadd (c_pf 9 0 1 (c_return_  15))
set_option maxHeartbeats 100000 in
theorem kE56_28 : ex_CE 15 [] cd_56 k56_28 q56_28 := e_iadd 28 0 (e_pf 29 577 13 9 0 1 rfl rfl rfl (e_return_ 32 0 ))
set_option maxHeartbeats 100000 in
def k56_27 : ex_C := c_iload 1 (k56_28)
set_option maxHeartbeats 100000 in
theorem kE56_27 : ex_CE 15 [] cd_56 k56_27 q56_27 := e_iload_iload_n 27 0 1 1 rfl (kE56_28)
set_option maxHeartbeats 100000 in
def k56_0 : ex_C := c_aload 0 (c_dup   (c_gf 9 3 (c_iload 1 (c_i2l   (c_ladd   (c_pf 9 3 3 (c_aload 0 (c_dup   (c_gf 9 1 (c_aload 0 (c_gf 9 0 (c_if_ne 27 (c_psh 0 (c_goto 28))))))))))))))
set_option maxHeartbeats 100000 in
theorem kE56_0 : ex_CE 15 [] cd_56 k56_0 q56_0 := e_aload_aload_n 0 0 0 0 rfl (e_dup 1 0  (e_gf 2 12867 19 9 3 rfl rfl (e_iload_iload_n 5 0 1 1 rfl (e_i2l 6 0  (e_ladd 7 0  (e_pf 8 12867 19 9 3 3 rfl rfl rfl (e_aload_aload_n 11 0 0 0 rfl (e_dup 12 0  (e_gf 13 577 13 9 1 rfl rfl (e_aload_aload_n 16 0 0 0 rfl (e_gf 17 576 7 9 0 rfl rfl (e_if_ne 20 27 7 (e_psh_iconst 23 0 0 (e_goto 24 28 4))))))))))))))
def kt_56 : Nat → Option ex_C := fun pc => @Bool.rec (fun _ => Nat → Option ex_C) (fun pc => @Bool.rec (fun _ => Nat → Option ex_C) (fun pc => @Bool.rec (fun _ => Option ex_C) none (some k56_28) (Nat.beq pc 28)) (fun pc => @Bool.rec (fun _ => Option ex_C) none (some k56_27) (Nat.beq pc 27)) (Nat.ble pc 27) pc) (fun pc => @Bool.rec (fun _ => Option ex_C) none (some k56_0) (Nat.beq pc 0)) (Nat.ble pc 0) pc
theorem ktE_56 : ex_CTT 15 [] cd_56 kt_56 cd_56 := (ex_ct2 (ex_ct1 kE56_0) (ex_ct2 (ex_ct1 kE56_27) (ex_ct1 kE56_28)))
set_option maxHeartbeats 100000 in
def k57_45 : ex_C := c_pf 2 5 3 (c_aload 0 (c_psh 0 (c_pf 2 0 5 (c_aload 0 (c_psh 45 (c_pf 2 2 6 (c_aload 0 (c_psh 4294967295 (c_pf 2 0 7 (c_aload 0 (c_aload 1 (c_pf 2 5 4 (c_return_  15)))))))))))))
set_option maxHeartbeats 100000 in
theorem kE57_45 : ex_CE 15 [] cd_57 k57_45 q57_45 := e_pf 45 86147 27 2 5 3 rfl rfl rfl (e_aload_aload_n 48 0 0 0 rfl (e_psh_iconst 49 0 0 (e_pf 50 133 31 2 0 5 rfl rfl rfl (e_aload_aload_n 53 0 0 0 rfl (e_psh_bipush 54 45 45 (e_pf 56 8326 35 2 2 6 rfl rfl rfl (e_aload_aload_n 59 0 0 0 rfl (e_psh_iconst 60 4294967295 (-1) (e_pf 61 135 39 2 0 7 rfl rfl rfl (e_aload_aload_n 64 0 0 0 rfl (e_aload_aload_n 65 0 1 1 rfl (e_pf 66 86148 42 2 5 4 rfl rfl rfl (e_return_ 69 0 )))))))))))))
set_option maxHeartbeats 100000 in
def k57_34 : ex_C := c_pf 2 5 2 (c_aload 0 (c_newo 10086913586286160672807402895382567491325181316819536261390328817214936461859649560776012798648784451132281559306996740 12 (c_dup   (c_invP [] cd_57 42 1 67 (k57_45)))))
set_option maxHeartbeats 100000 in
theorem kE57_34 : ex_CE 15 [] cd_57 k57_34 q57_34 := e_pf 34 86146 21 2 5 2 rfl rfl rfl (e_aload_aload_n 37 0 0 0 rfl (e_newo 38 4 24 10086913586286160672807402895382567491325181316819536261390328817214936461859649560776012798648784451132281559306996740 12 rfl rfl rfl (e_dup 41 0  (e_invP 42 688065 26 1 67 rfl rfl rfl rfl (kE57_45)))))
set_option maxHeartbeats 100000 in
def k57_23 : ex_C := c_pf 2 5 1 (c_aload 0 (c_newo 16209045190956120784911065771258721773515783368760096902582273169124733517563091276821328402079692167524082118633830064642108102709712432245745886314044260015337748388201726218243 16 (c_dup   (c_invP [] cd_57 31 1 5 (k57_34)))))
set_option maxHeartbeats 100000 in
theorem kE57_23 : ex_CE 15 [] cd_57 k57_23 q57_23 := e_pf 23 86145 18 2 5 1 rfl rfl rfl (e_aload_aload_n 26 0 0 0 rfl (e_newo 27 3 9 16209045190956120784911065771258721773515783368760096902582273169124733517563091276821328402079692167524082118633830064642108102709712432245745886314044260015337748388201726218243 16 rfl rfl rfl (e_dup 30 0  (e_invP 31 180161 11 1 5 rfl rfl rfl rfl (kE57_34)))))
set_option maxHeartbeats 100000 in
def k57_12 : ex_C := c_pf 2 5 0 (c_aload 0 (c_newo 16209045190956120784911065771258721773515783368760096902582273169124733517563091276821328402079692167524082118633830064642108102709712432245745886314044260015337748388201726218243 16 (c_dup   (c_invP [] cd_57 20 1 5 (k57_23)))))
set_option maxHeartbeats 100000 in
theorem kE57_12 : ex_CE 15 [] cd_57 k57_12 q57_12 := e_pf 12 86144 12 2 5 0 rfl rfl rfl (e_aload_aload_n 15 0 0 0 rfl (e_newo 16 3 9 16209045190956120784911065771258721773515783368760096902582273169124733517563091276821328402079692167524082118633830064642108102709712432245745886314044260015337748388201726218243 16 rfl rfl rfl (e_dup 19 0  (e_invP 20 180161 11 1 5 rfl rfl rfl rfl (kE57_23)))))
set_option maxHeartbeats 100000 in
def k57_0 : ex_C := c_aload 0 (c_oinit (c_aload 0 (c_newo 16209045190956120784911065771258721773515783368760096902582273169124733517563091276821328402079692167524082118633830064642108102709712432245745886314044260015337748388201726218243 16 (c_dup   (c_invP [] cd_57 9 1 5 (k57_12))))))
set_option maxHeartbeats 100000 in
theorem kE57_0 : ex_CE 15 [] cd_57 k57_0 q57_0 := e_aload_aload_n 0 0 0 0 rfl (e_oinit (e_aload_aload_n 4 0 0 0 rfl (e_newo 5 3 9 16209045190956120784911065771258721773515783368760096902582273169124733517563091276821328402079692167524082118633830064642108102709712432245745886314044260015337748388201726218243 16 rfl rfl rfl (e_dup 8 0  (e_invP 9 180161 11 1 5 rfl rfl rfl rfl (kE57_12))))))
def kt_57 : Nat → Option ex_C := fun pc => @Bool.rec (fun _ => Nat → Option ex_C) (fun pc => @Bool.rec (fun _ => Nat → Option ex_C) (fun pc => @Bool.rec (fun _ => Nat → Option ex_C) (fun pc => @Bool.rec (fun _ => Option ex_C) none (some k57_45) (Nat.beq pc 45)) (fun pc => @Bool.rec (fun _ => Option ex_C) none (some k57_34) (Nat.beq pc 34)) (Nat.ble pc 34) pc) (fun pc => @Bool.rec (fun _ => Option ex_C) none (some k57_23) (Nat.beq pc 23)) (Nat.ble pc 23) pc) (fun pc => @Bool.rec (fun _ => Nat → Option ex_C) (fun pc => @Bool.rec (fun _ => Option ex_C) none (some k57_12) (Nat.beq pc 12)) (fun pc => @Bool.rec (fun _ => Option ex_C) none (some k57_0) (Nat.beq pc 0)) (Nat.ble pc 0) pc) (Nat.ble pc 12) pc
theorem ktE_57 : ex_CTT 15 [] cd_57 kt_57 cd_57 := (ex_ct2 (ex_ct2 (ex_ct1 kE57_0) (ex_ct1 kE57_12)) (ex_ct2 (ex_ct1 kE57_23) (ex_ct2 (ex_ct1 kE57_34) (ex_ct1 kE57_45))))
set_option maxHeartbeats 100000 in
def k58_14 : ex_C := c_return_  15
set_option maxHeartbeats 100000 in
theorem kE58_14 : ex_CE 15 [] cd_58 k58_14 q58_14 := e_return_ 14 0 
set_option maxHeartbeats 100000 in
def k58_0 : ex_C := c_aload 0 (c_psh 0 (c_pf 2 0 5 (c_aload 0 (c_gf 2 0 (c_aload 1 (c_aload 2 (c_invV [] cd_58 11 3 7 3 (k58_14))))))))
set_option maxHeartbeats 100000 in
theorem kE58_0 : ex_CE 15 [] cd_58 k58_0 q58_0 := e_aload_aload_n 0 0 0 0 rfl (e_psh_iconst 1 0 0 (e_pf 2 133 31 2 0 5 rfl rfl rfl (e_aload_aload_n 5 0 0 0 rfl (e_gf 6 86144 12 2 0 rfl rfl (e_aload_aload_n 9 0 1 1 rfl (e_aload_aload_n 10 0 2 2 rfl (e_invV_invokevirtual 11 188515 46 3 7 3 rfl rfl rfl rfl rfl rfl (kE58_14))))))))
def kt_58 : Nat → Option ex_C := fun pc => @Bool.rec (fun _ => Nat → Option ex_C) (fun pc => @Bool.rec (fun _ => Option ex_C) none (some k58_14) (Nat.beq pc 14)) (fun pc => @Bool.rec (fun _ => Option ex_C) none (some k58_0) (Nat.beq pc 0)) (Nat.ble pc 0) pc
theorem ktE_58 : ex_CTT 15 [] cd_58 kt_58 cd_58 := (ex_ct2 (ex_ct1 kE58_0) (ex_ct1 kE58_14))
set_option maxHeartbeats 100000 in
def k59_232 : ex_C := c_aload 0 (c_gf 2 6 (c_ireturn  2))
set_option maxHeartbeats 100000 in
theorem kE59_232 : ex_CE 2 [] cd_59 k59_232 q59_232 := e_aload_aload_n 232 0 0 0 rfl (e_gf 233 8326 35 2 6 rfl rfl (e_ireturn 236 0 ))
set_option maxHeartbeats 100000 in
def k59_224 : ex_C := c_aload 0 (c_aload 1 (c_gf 6 4 (c_invV [] cd_59 229 2 64 2 (k59_232))))
set_option maxHeartbeats 100000 in
theorem kE59_224 : ex_CE 2 [] cd_59 k59_224 q59_224 := e_aload_aload_n 224 0 0 0 rfl (e_aload_aload_n 225 0 1 1 rfl (e_gf 226 388 50 6 4 rfl rfl (e_invV_invokevirtual 229 655426 110 2 64 2 rfl rfl rfl rfl rfl rfl (kE59_232))))
set_option maxHeartbeats 100000 in
def k59_211 : ex_C := c_iload 4 (c_iload 9 (c_iadd (c_istore 4 (c_iinc 5 1 (c_goto 25)))))
set_option maxHeartbeats 100000 in
theorem kE59_211 : ex_CE 2 [] cd_59 k59_211 q59_211 := e_iload_iload 211 0 4 (e_iload_iload 213 0 9 (e_iadd 215 0 (e_istore_istore 216 0 4 (e_iinc 218 1 5 1 (e_goto 221 25 (-196))))))
set_option maxHeartbeats 100000 in
def k59_205 : ex_C := c_aload 0 (c_iload 7 (c_invV [] cd_59 208 2 64 2 (k59_211)))
set_option maxHeartbeats 100000 in
theorem kE59_205 : ex_CE 2 [] cd_59 k59_205 q59_205 := e_aload_aload_n 205 0 0 0 rfl (e_iload_iload 206 0 7 (e_invV_invokevirtual 208 655426 110 2 64 2 rfl rfl rfl rfl rfl rfl (kE59_211)))
set_option maxHeartbeats 100000 in
def k59_199 : ex_C := c_iinc 10 1 (c_goto 135)
set_option maxHeartbeats 100000 in
theorem kE59_199 : ex_CE 2 [] cd_59 k59_199 q59_199 := e_iinc 199 1 10 1 (e_goto 202 135 (-67))
set_option maxHeartbeats 100000 in
def k59_196 : ex_C := c_invV [] cd_59 196 3 60 2 (k59_199)
set_option maxHeartbeats 100000 in
theorem kE59_196 : ex_CE 2 [] cd_59 k59_196 q59_196 := e_invV_invokevirtual 196 622659 106 3 60 2 rfl rfl rfl rfl rfl rfl (kE59_199)
set_option maxHeartbeats 100000 in
def k59_188 : ex_C := c_aload 0 (c_psh 98 (c_aload 8 (c_invV [] cd_59 193 1 19 3 (k59_196))))
set_option maxHeartbeats 100000 in
theorem kE59_188 : ex_CE 2 [] cd_59 k59_188 q59_188 := e_aload_aload_n 188 0 0 0 rfl (e_psh_bipush 189 98 98 (e_aload_aload 191 0 8 (e_invV_invokevirtual 193 286817 102 1 19 3 rfl rfl rfl rfl rfl rfl (kE59_196))))
set_option maxHeartbeats 100000 in
def k59_172 : ex_C := c_pf 3 1 15 (c_aload 0 (c_gf 2 3 (c_aload 8 (c_iload 6 (c_iload 10 (c_invV [] cd_59 185 4 86 4 (k59_188)))))))
set_option maxHeartbeats 100000 in
theorem kE59_172 : ex_CE 2 [] cd_59 k59_172 q59_172 := e_pf 172 4303 94 3 1 15 rfl rfl rfl (e_aload_aload_n 175 0 0 0 rfl (e_gf 176 86147 27 2 3 rfl rfl (e_aload_aload 179 0 8 (e_iload_iload 181 0 6 (e_iload_iload 183 0 10 (e_invV_invokevirtual 185 835716 98 4 86 4 rfl rfl rfl rfl rfl rfl (kE59_188)))))))
set_option maxHeartbeats 100000 in
def k59_171 : ex_C := c_psh 0 (k59_172)
set_option maxHeartbeats 100000 in
theorem kE59_171 : ex_CE 2 [] cd_59 k59_171 q59_171 := e_psh_iconst 171 0 0 (kE59_172)
set_option maxHeartbeats 100000 in
def k59_156 : ex_C := c_aload 8 (c_iload 4 (c_iload 10 (c_iadd (c_iload 3 (c_icmp_lt 171 (c_psh 1 (c_goto 172)))))))
set_option maxHeartbeats 100000 in
theorem kE59_156 : ex_CE 2 [] cd_59 k59_156 q59_156 := e_aload_aload 156 0 8 (e_iload_iload 158 0 4 (e_iload_iload 160 0 10 (e_iadd 162 0 (e_iload_iload_n 163 0 3 3 rfl (e_icmp_lt 164 171 7 (e_psh_iconst 167 1 1 (e_goto 168 172 4)))))))
set_option maxHeartbeats 100000 in
def k59_135 : ex_C := c_iload 10 (c_iload 9 (c_icmp_ge 205 (c_aload 0 (c_gf 2 6 (c_psh 45 (c_icmp_ne 205 (c_aload 8 (c_invV [] cd_59 153 1 13 3 (k59_156)))))))))
set_option maxHeartbeats 100000 in
theorem kE59_135 : ex_CE 2 [] cd_59 k59_135 q59_135 := e_iload_iload 135 0 10 (e_iload_iload 137 0 9 (e_icmp_ge 139 205 66 (e_aload_aload_n 142 0 0 0 rfl (e_gf 143 8326 35 2 6 rfl rfl (e_psh_bipush 146 45 45 (e_icmp_ne 148 205 57 (e_aload_aload 151 0 8 (e_invV_invokevirtual 153 237665 91 1 13 3 rfl rfl rfl rfl rfl rfl (kE59_156)))))))))
set_option maxHeartbeats 100000 in
def k59_130 : ex_C := c_istore 9 (c_psh 0 (c_istore 10 (k59_135)))
set_option maxHeartbeats 100000 in
theorem kE59_130 : ex_CE 2 [] cd_59 k59_130 q59_130 := e_istore_istore 130 0 9 (e_psh_iconst 132 0 0 (e_istore_istore 133 0 10 (kE59_135)))
set_option maxHeartbeats 100000 in
def k59_117 : ex_C := c_psh 17179869186 (c_iload 6 (c_iaload (c_iload 2 (c_iload 4 (c_isub (c_invS [] cd_59 127 2 163 (k59_130)))))))
set_option maxHeartbeats 100000 in
theorem kE59_117 : ex_CE 2 [] cd_59 k59_117 q59_117 := e_psh_getstatic 117 17179869186 82 (e_iload_iload 120 0 6 (e_iaload 122 0 (e_iload_iload_n 123 0 2 2 rfl (e_iload_iload 124 0 4 (e_isub 126 0 (e_invS 127 1474530 85 2 163 rfl rfl rfl (kE59_130)))))))
set_option maxHeartbeats 100000 in
def k59_91 : ex_C := c_aload 0 (c_gf 2 6 (c_psh 45 (c_icmp_ne 117 (c_iload 4 (c_iload 3 (c_icmp_lt 117 (c_aload 0 (c_gf 2 3 (c_aload 8 (c_iload 6 (c_invV [] cd_59 114 3 85 4 (k59_117))))))))))))
set_option maxHeartbeats 100000 in
theorem kE59_91 : ex_CE 2 [] cd_59 k59_91 q59_91 := e_aload_aload_n 91 0 0 0 rfl (e_gf 92 8326 35 2 6 rfl rfl (e_psh_bipush 95 45 45 (e_icmp_ne 97 117 20 (e_iload_iload 100 0 4 (e_iload_iload_n 102 0 3 3 rfl (e_icmp_lt 103 117 14 (e_aload_aload_n 106 0 0 0 rfl (e_gf 107 86147 27 2 3 rfl rfl (e_aload_aload 110 0 8 (e_iload_iload 112 0 6 (e_invV_invokevirtual 114 827523 78 3 85 4 rfl rfl rfl rfl rfl rfl (kE59_117))))))))))))
set_option maxHeartbeats 100000 in
def k59_80 : ex_C := c_astore 8 (c_aload 0 (c_aload 8 (c_aload 1 (c_iload 5 (c_invV [] cd_59 88 4 63 2 (k59_91))))))
set_option maxHeartbeats 100000 in
theorem kE59_80 : ex_CE 2 [] cd_59 k59_80 q59_80 := e_astore_astore 80 0 8 (e_aload_aload_n 82 0 0 0 rfl (e_aload_aload 83 0 8 (e_aload_aload_n 85 0 1 1 rfl (e_iload_iload 86 0 5 (e_invV_invokevirtual 88 647236 74 4 63 2 rfl rfl rfl rfl rfl rfl (kE59_91))))))
set_option maxHeartbeats 100000 in
def k59_72 : ex_C := c_aload 0 (c_aload 0 (c_gf 2 5 (c_invV [] cd_59 77 2 61 2 (k59_80))))
set_option maxHeartbeats 100000 in
theorem kE59_72 : ex_CE 2 [] cd_59 k59_72 q59_72 := e_aload_aload_n 72 0 0 0 rfl (e_aload_aload_n 73 0 0 0 rfl (e_gf 74 133 31 2 5 rfl rfl (e_invV_invokevirtual 77 630850 70 2 61 2 rfl rfl rfl rfl rfl rfl (kE59_80))))
set_option maxHeartbeats 100000 in
def k59_64 : ex_C := c_istore 7 (c_aload 0 (c_iload 7 (c_invV [] cd_59 69 2 62 2 (k59_72))))
set_option maxHeartbeats 100000 in
theorem kE59_64 : ex_CE 2 [] cd_59 k59_64 q59_64 := e_istore_istore 64 0 7 (e_aload_aload_n 66 0 0 0 rfl (e_iload_iload 67 0 7 (e_invV_invokevirtual 69 639042 55 2 62 2 rfl rfl rfl rfl rfl rfl (kE59_72))))
set_option maxHeartbeats 100000 in
def k59_25 : ex_C := c_iload 5 (c_aload 1 (c_gf 6 3 (c_icmp_ge 224 (c_iload 4 (c_iload 2 (c_icmp_ge 224 (c_aload 0 (c_gf 2 6 (c_psh 45 (c_icmp_ne 224 (c_aload 1 (c_gf 6 0 (c_iload 5 (c_iaload (c_istore 6 (c_aload 1 (c_iload 5 (c_invV [] cd_59 61 2 52 6 (k59_64)))))))))))))))))))
set_option maxHeartbeats 100000 in
theorem kE59_25 : ex_CE 2 [] cd_59 k59_25 q59_25 := e_iload_iload 25 0 5 (e_aload_aload_n 27 0 1 1 rfl (e_gf 28 387 59 6 3 rfl rfl (e_icmp_ge 31 224 193 (e_iload_iload 34 0 4 (e_iload_iload_n 36 0 2 2 rfl (e_icmp_ge 37 224 187 (e_aload_aload_n 40 0 0 0 rfl (e_gf 41 8326 35 2 6 rfl rfl (e_psh_bipush 44 45 45 (e_icmp_ne 46 224 178 (e_aload_aload_n 49 0 1 1 rfl (e_gf 50 86400 62 6 0 rfl rfl (e_iload_iload 53 0 5 (e_iaload 55 0 (e_istore_istore 56 0 6 (e_aload_aload_n 58 0 1 1 rfl (e_iload_iload 59 0 5 (e_invV_invokevirtual 61 557250 66 2 52 6 rfl rfl rfl rfl rfl rfl (kE59_64)))))))))))))))))))
set_option maxHeartbeats 100000 in
def k59_19 : ex_C := c_psh 0 (c_istore 4 (c_psh 0 (c_istore 5 (k59_25))))
set_option maxHeartbeats 100000 in
theorem kE59_19 : ex_CE 2 [] cd_59 k59_19 q59_19 := e_psh_iconst 19 0 0 (e_istore_istore 20 0 4 (e_psh_iconst 22 0 0 (e_istore_istore 23 0 5 (kE59_25))))
set_option maxHeartbeats 100000 in
def k59_0 : ex_C := c_aload 0 (c_psh 45 (c_pf 2 2 6 (c_aload 0 (c_psh 4294967295 (c_pf 2 0 7 (c_aload 0 (c_aload 1 (c_gf 6 4 (c_invV [] cd_59 16 2 62 2 (k59_19))))))))))
set_option maxHeartbeats 100000 in
theorem kE59_0 : ex_CE 2 [] cd_59 k59_0 q59_0 := e_aload_aload_n 0 0 0 0 rfl (e_psh_bipush 1 45 45 (e_pf 3 8326 35 2 2 6 rfl rfl rfl (e_aload_aload_n 6 0 0 0 rfl (e_psh_iconst 7 4294967295 (-1) (e_pf 8 135 39 2 0 7 rfl rfl rfl (e_aload_aload_n 11 0 0 0 rfl (e_aload_aload_n 12 0 1 1 rfl (e_gf 13 388 50 6 4 rfl rfl (e_invV_invokevirtual 16 639042 55 2 62 2 rfl rfl rfl rfl rfl rfl (kE59_19))))))))))
def kt_59 : Nat → Option ex_C := fun pc => @Bool.rec (fun _ => Nat → Option ex_C) (fun pc => @Bool.rec (fun _ => Nat → Option ex_C) (fun pc => @Bool.rec (fun _ => Nat → Option ex_C) (fun pc => @Bool.rec (fun _ => Nat → Option ex_C) (fun pc => @Bool.rec (fun _ => Nat → Option ex_C) (fun pc => @Bool.rec (fun _ => Option ex_C) none (some k59_232) (Nat.beq pc 232)) (fun pc => @Bool.rec (fun _ => Option ex_C) none (some k59_224) (Nat.beq pc 224)) (Nat.ble pc 224) pc) (fun pc => @Bool.rec (fun _ => Option ex_C) none (some k59_211) (Nat.beq pc 211)) (Nat.ble pc 211) pc) (fun pc => @Bool.rec (fun _ => Nat → Option ex_C) (fun pc => @Bool.rec (fun _ => Option ex_C) none (some k59_205) (Nat.beq pc 205)) (fun pc => @Bool.rec (fun _ => Option ex_C) none (some k59_199) (Nat.beq pc 199)) (Nat.ble pc 199) pc) (Nat.ble pc 205) pc) (fun pc => @Bool.rec (fun _ => Nat → Option ex_C) (fun pc => @Bool.rec (fun _ => Nat → Option ex_C) (fun pc => @Bool.rec (fun _ => Nat → Option ex_C) (fun pc => @Bool.rec (fun _ => Option ex_C) none (some k59_196) (Nat.beq pc 196)) (fun pc => @Bool.rec (fun _ => Option ex_C) none (some k59_188) (Nat.beq pc 188)) (Nat.ble pc 188) pc) (fun pc => @Bool.rec (fun _ => Option ex_C) none (some k59_172) (Nat.beq pc 172)) (Nat.ble pc 172) pc) (fun pc => @Bool.rec (fun _ => Nat → Option ex_C) (fun pc => @Bool.rec (fun _ => Option ex_C) none (some k59_171) (Nat.beq pc 171)) (fun pc => @Bool.rec (fun _ => Option ex_C) none (some k59_156) (Nat.beq pc 156)) (Nat.ble pc 156) pc) (Nat.ble pc 171) pc) (Nat.ble pc 196) pc) (fun pc => @Bool.rec (fun _ => Nat → Option ex_C) (fun pc => @Bool.rec (fun _ => Nat → Option ex_C) (fun pc => @Bool.rec (fun _ => Nat → Option ex_C) (fun pc => @Bool.rec (fun _ => Nat → Option ex_C) (fun pc => @Bool.rec (fun _ => Option ex_C) none (some k59_135) (Nat.beq pc 135)) (fun pc => @Bool.rec (fun _ => Option ex_C) none (some k59_130) (Nat.beq pc 130)) (Nat.ble pc 130) pc) (fun pc => @Bool.rec (fun _ => Option ex_C) none (some k59_117) (Nat.beq pc 117)) (Nat.ble pc 117) pc) (fun pc => @Bool.rec (fun _ => Nat → Option ex_C) (fun pc => @Bool.rec (fun _ => Option ex_C) none (some k59_91) (Nat.beq pc 91)) (fun pc => @Bool.rec (fun _ => Option ex_C) none (some k59_80) (Nat.beq pc 80)) (Nat.ble pc 80) pc) (Nat.ble pc 91) pc) (fun pc => @Bool.rec (fun _ => Nat → Option ex_C) (fun pc => @Bool.rec (fun _ => Nat → Option ex_C) (fun pc => @Bool.rec (fun _ => Nat → Option ex_C) (fun pc => @Bool.rec (fun _ => Option ex_C) none (some k59_72) (Nat.beq pc 72)) (fun pc => @Bool.rec (fun _ => Option ex_C) none (some k59_64) (Nat.beq pc 64)) (Nat.ble pc 64) pc) (fun pc => @Bool.rec (fun _ => Option ex_C) none (some k59_25) (Nat.beq pc 25)) (Nat.ble pc 25) pc) (fun pc => @Bool.rec (fun _ => Nat → Option ex_C) (fun pc => @Bool.rec (fun _ => Option ex_C) none (some k59_19) (Nat.beq pc 19)) (fun pc => @Bool.rec (fun _ => Option ex_C) none (some k59_0) (Nat.beq pc 0)) (Nat.ble pc 0) pc) (Nat.ble pc 19) pc) (Nat.ble pc 72) pc) (Nat.ble pc 135) pc
theorem ktE_59 : ex_CTT 2 [] cd_59 kt_59 cd_59 := (ex_ct2 (ex_ct2 (ex_ct2 (ex_ct2 (ex_ct1 kE59_0) (ex_ct1 kE59_19)) (ex_ct2 (ex_ct1 kE59_25) (ex_ct2 (ex_ct1 kE59_64) (ex_ct1 kE59_72)))) (ex_ct2 (ex_ct2 (ex_ct1 kE59_80) (ex_ct1 kE59_91)) (ex_ct2 (ex_ct1 kE59_117) (ex_ct2 (ex_ct1 kE59_130) (ex_ct1 kE59_135))))) (ex_ct2 (ex_ct2 (ex_ct2 (ex_ct1 kE59_156) (ex_ct1 kE59_171)) (ex_ct2 (ex_ct1 kE59_172) (ex_ct2 (ex_ct1 kE59_188) (ex_ct1 kE59_196)))) (ex_ct2 (ex_ct2 (ex_ct1 kE59_199) (ex_ct1 kE59_205)) (ex_ct2 (ex_ct1 kE59_211) (ex_ct2 (ex_ct1 kE59_224) (ex_ct1 kE59_232))))))
set_option maxHeartbeats 100000 in
def k60_14 : ex_C := c_return_  15
set_option maxHeartbeats 100000 in
theorem kE60_14 : ex_CE 15 [] cd_60 k60_14 q60_14 := e_return_ 14 0 
set_option maxHeartbeats 100000 in
def k60_0 : ex_C := c_iload 2 (c_if_lt 14 (c_aload 0 (c_iload 1 (c_pf 2 2 6 (c_aload 0 (c_iload 2 (c_pf 2 0 7 (k60_14))))))))
set_option maxHeartbeats 100000 in
theorem kE60_0 : ex_CE 15 [] cd_60 k60_0 q60_0 := e_iload_iload_n 0 0 2 2 rfl (e_if_lt 1 14 13 (e_aload_aload_n 4 0 0 0 rfl (e_iload_iload_n 5 0 1 1 rfl (e_pf 6 8326 35 2 2 6 rfl rfl rfl (e_aload_aload_n 9 0 0 0 rfl (e_iload_iload_n 10 0 2 2 rfl (e_pf 11 135 39 2 0 7 rfl rfl rfl (kE60_14))))))))
def kt_60 : Nat → Option ex_C := fun pc => @Bool.rec (fun _ => Nat → Option ex_C) (fun pc => @Bool.rec (fun _ => Option ex_C) none (some k60_14) (Nat.beq pc 14)) (fun pc => @Bool.rec (fun _ => Option ex_C) none (some k60_0) (Nat.beq pc 0)) (Nat.ble pc 0) pc
theorem ktE_60 : ex_CTT 15 [] cd_60 kt_60 cd_60 := (ex_ct2 (ex_ct1 kE60_0) (ex_ct1 kE60_14))
set_option maxHeartbeats 100000 in
def k61_27 : ex_C := c_areturn  5
set_option maxHeartbeats 100000 in
theorem kE61_27 : ex_CE 5 [] cd_61 k61_27 q61_27 := e_areturn 27 0 
set_option maxHeartbeats 100000 in
def k61_23 : ex_C := c_aload 0 (c_gf 2 2 (k61_27))
set_option maxHeartbeats 100000 in
theorem kE61_23 : ex_CE 5 [] cd_61 k61_23 q61_23 := e_aload_aload_n 23 0 0 0 rfl (e_gf 24 86146 21 2 2 rfl rfl (kE61_27))
set_option maxHeartbeats 100000 in
def k61_11 : ex_C := c_iload 1 (c_psh 1 (c_icmp_ne 23 (c_aload 0 (c_gf 2 1 (c_goto 27)))))
set_option maxHeartbeats 100000 in
theorem kE61_11 : ex_CE 5 [] cd_61 k61_11 q61_11 := e_iload_iload_n 11 0 1 1 rfl (e_psh_iconst 12 1 1 (e_icmp_ne 13 23 10 (e_aload_aload_n 16 0 0 0 rfl (e_gf 17 86145 18 2 1 rfl rfl (e_goto 20 27 7)))))
set_option maxHeartbeats 100000 in
def k61_0 : ex_C := c_iload 1 (c_if_ne 11 (c_aload 0 (c_gf 2 0 (c_goto 27))))
set_option maxHeartbeats 100000 in
theorem kE61_0 : ex_CE 5 [] cd_61 k61_0 q61_0 := e_iload_iload_n 0 0 1 1 rfl (e_if_ne 1 11 10 (e_aload_aload_n 4 0 0 0 rfl (e_gf 5 86144 12 2 0 rfl rfl (e_goto 8 27 19))))
def kt_61 : Nat → Option ex_C := fun pc => @Bool.rec (fun _ => Nat → Option ex_C) (fun pc => @Bool.rec (fun _ => Nat → Option ex_C) (fun pc => @Bool.rec (fun _ => Option ex_C) none (some k61_27) (Nat.beq pc 27)) (fun pc => @Bool.rec (fun _ => Option ex_C) none (some k61_23) (Nat.beq pc 23)) (Nat.ble pc 23) pc) (fun pc => @Bool.rec (fun _ => Nat → Option ex_C) (fun pc => @Bool.rec (fun _ => Option ex_C) none (some k61_11) (Nat.beq pc 11)) (fun pc => @Bool.rec (fun _ => Option ex_C) none (some k61_0) (Nat.beq pc 0)) (Nat.ble pc 0) pc) (Nat.ble pc 11) pc
theorem ktE_61 : ex_CTT 5 [] cd_61 kt_61 cd_61 := (ex_ct2 (ex_ct2 (ex_ct1 kE61_0) (ex_ct1 kE61_11)) (ex_ct2 (ex_ct1 kE61_23) (ex_ct1 kE61_27)))
set_option maxHeartbeats 100000 in
def k62_98 : ex_C := c_return_  15
set_option maxHeartbeats 100000 in
theorem kE62_98 : ex_CE 15 [] cd_62 k62_98 q62_98 := e_return_ 98 0 
set_option maxHeartbeats 100000 in
def k62_92 : ex_C := c_aload 0 (c_psh 112 (c_pf 2 2 6 (k62_98)))
set_option maxHeartbeats 100000 in
theorem kE62_92 : ex_CE 15 [] cd_62 k62_92 q62_92 := e_aload_aload_n 92 0 0 0 rfl (e_psh_bipush 93 112 112 (e_pf 95 8326 35 2 2 6 rfl rfl rfl (kE62_98)))
set_option maxHeartbeats 100000 in
def k62_76 : ex_C := c_if_eq 92 (c_aload 0 (c_dup   (c_gf 2 5 (c_psh 1 (c_iadd (c_pf 2 0 5 (c_goto 98)))))))
set_option maxHeartbeats 100000 in
theorem kE62_76 : ex_CE 15 [] cd_62 k62_76 q62_76 := e_if_eq 76 92 16 (e_aload_aload_n 79 0 0 0 rfl (e_dup 80 0  (e_gf 81 133 31 2 5 rfl rfl (e_psh_iconst 84 1 1 (e_iadd 85 0 (e_pf 86 133 31 2 0 5 rfl rfl rfl (e_goto 89 98 9)))))))
set_option maxHeartbeats 100000 in
def k62_73 : ex_C := c_invV [] cd_62 73 4 65 2 (k62_76)
set_option maxHeartbeats 100000 in
theorem kE62_73 : ex_CE 15 [] cd_62 k62_73 q62_73 := e_invV_invokevirtual 73 663620 117 4 65 2 rfl rfl rfl rfl rfl rfl (kE62_76)
set_option maxHeartbeats 100000 in
def k62_72 : ex_C := c_psh 0 (k62_73)
set_option maxHeartbeats 100000 in
theorem kE62_72 : ex_CE 15 [] cd_62 k62_72 q62_72 := e_psh_iconst 72 0 0 (kE62_73)
set_option maxHeartbeats 100000 in
def k62_63 : ex_C := c_iload 1 (c_psh 5 (c_icmp_ne 72 (c_psh 1 (c_goto 73))))
set_option maxHeartbeats 100000 in
theorem kE62_63 : ex_CE 15 [] cd_62 k62_63 q62_63 := e_iload_iload_n 63 0 1 1 rfl (e_psh_iconst 64 5 5 (e_icmp_ne 65 72 7 (e_psh_iconst 68 1 1 (e_goto 69 73 4))))
set_option maxHeartbeats 100000 in
def k62_53 : ex_C := c_aload 0 (c_aload 0 (c_gf 2 5 (c_psh 1 (c_iadd (c_invV [] cd_62 60 2 61 2 (k62_63))))))
set_option maxHeartbeats 100000 in
theorem kE62_53 : ex_CE 15 [] cd_62 k62_53 q62_53 := e_aload_aload_n 53 0 0 0 rfl (e_aload_aload_n 54 0 0 0 rfl (e_gf 55 133 31 2 5 rfl rfl (e_psh_iconst 58 1 1 (e_iadd 59 0 (e_invV_invokevirtual 60 630850 70 2 61 2 rfl rfl rfl rfl rfl rfl (kE62_63))))))
set_option maxHeartbeats 100000 in
def k62_44 : ex_C := c_aload 0 (c_aload 0 (c_aload 0 (c_gf 2 5 (c_invV [] cd_62 50 2 61 2 (k62_53)))))
set_option maxHeartbeats 100000 in
theorem kE62_44 : ex_CE 15 [] cd_62 k62_44 q62_44 := e_aload_aload_n 44 0 0 0 rfl (e_aload_aload_n 45 0 0 0 rfl (e_aload_aload_n 46 0 0 0 rfl (e_gf 47 133 31 2 5 rfl rfl (e_invV_invokevirtual 50 630850 70 2 61 2 rfl rfl rfl rfl rfl rfl (kE62_53)))))
set_option maxHeartbeats 100000 in
def k62_33 : ex_C := c_iload 1 (c_psh 5 (c_icmp_eq 44 (c_iload 1 (c_psh 6 (c_icmp_ne 98 (k62_44))))))
set_option maxHeartbeats 100000 in
theorem kE62_33 : ex_CE 15 [] cd_62 k62_33 q62_33 := e_iload_iload_n 33 0 1 1 rfl (e_psh_iconst 34 5 5 (e_icmp_eq 35 44 9 (e_iload_iload_n 38 0 1 1 rfl (e_psh_bipush 39 6 6 (e_icmp_ne 41 98 57 (kE62_44))))))
set_option maxHeartbeats 100000 in
def k62_30 : ex_C := c_goto 98
set_option maxHeartbeats 100000 in
theorem kE62_30 : ex_CE 15 [] cd_62 k62_30 q62_30 := e_goto 30 98 68
set_option maxHeartbeats 100000 in
def k62_23 : ex_C := c_aload 0 (c_gf 2 4 (c_invV [] cd_62 27 2 8 3 (k62_30)))
set_option maxHeartbeats 100000 in
theorem kE62_23 : ex_CE 15 [] cd_62 k62_23 q62_23 := e_aload_aload_n 23 0 0 0 rfl (e_gf 24 86148 42 2 4 rfl rfl (e_invV_invokevirtual 27 196706 113 2 8 3 rfl rfl rfl rfl rfl rfl (kE62_30)))
set_option maxHeartbeats 100000 in
def k62_10 : ex_C := c_iload 1 (c_psh 4 (c_icmp_ne 33 (c_aload 0 (c_aload 0 (c_gf 2 5 (c_invV [] cd_62 20 2 61 2 (k62_23)))))))
set_option maxHeartbeats 100000 in
theorem kE62_10 : ex_CE 15 [] cd_62 k62_10 q62_10 := e_iload_iload_n 10 0 1 1 rfl (e_psh_iconst 11 4 4 (e_icmp_ne 12 33 21 (e_aload_aload_n 15 0 0 0 rfl (e_aload_aload_n 16 0 0 0 rfl (e_gf 17 133 31 2 5 rfl rfl (e_invV_invokevirtual 20 630850 70 2 61 2 rfl rfl rfl rfl rfl rfl (kE62_23)))))))
set_option maxHeartbeats 100000 in
def k62_0 : ex_C := c_aload 0 (c_gf 2 6 (c_psh 45 (c_icmp_eq 10 (c_return_  15))))
set_option maxHeartbeats 100000 in
theorem kE62_0 : ex_CE 15 [] cd_62 k62_0 q62_0 := e_aload_aload_n 0 0 0 0 rfl (e_gf 1 8326 35 2 6 rfl rfl (e_psh_bipush 4 45 45 (e_icmp_eq 6 10 4 (e_return_ 9 0 ))))
def kt_62 : Nat → Option ex_C := fun pc => @Bool.rec (fun _ => Nat → Option ex_C) (fun pc => @Bool.rec (fun _ => Nat → Option ex_C) (fun pc => @Bool.rec (fun _ => Nat → Option ex_C) (fun pc => @Bool.rec (fun _ => Nat → Option ex_C) (fun pc => @Bool.rec (fun _ => Option ex_C) none (some k62_98) (Nat.beq pc 98)) (fun pc => @Bool.rec (fun _ => Option ex_C) none (some k62_92) (Nat.beq pc 92)) (Nat.ble pc 92) pc) (fun pc => @Bool.rec (fun _ => Nat → Option ex_C) (fun pc => @Bool.rec (fun _ => Option ex_C) none (some k62_76) (Nat.beq pc 76)) (fun pc => @Bool.rec (fun _ => Option ex_C) none (some k62_73) (Nat.beq pc 73)) (Nat.ble pc 73) pc) (Nat.ble pc 76) pc) (fun pc => @Bool.rec (fun _ => Nat → Option ex_C) (fun pc => @Bool.rec (fun _ => Nat → Option ex_C) (fun pc => @Bool.rec (fun _ => Option ex_C) none (some k62_72) (Nat.beq pc 72)) (fun pc => @Bool.rec (fun _ => Option ex_C) none (some k62_63) (Nat.beq pc 63)) (Nat.ble pc 63) pc) (fun pc => @Bool.rec (fun _ => Option ex_C) none (some k62_53) (Nat.beq pc 53)) (Nat.ble pc 53) pc) (Nat.ble pc 72) pc) (fun pc => @Bool.rec (fun _ => Nat → Option ex_C) (fun pc => @Bool.rec (fun _ => Nat → Option ex_C) (fun pc => @Bool.rec (fun _ => Nat → Option ex_C) (fun pc => @Bool.rec (fun _ => Option ex_C) none (some k62_44) (Nat.beq pc 44)) (fun pc => @Bool.rec (fun _ => Option ex_C) none (some k62_33) (Nat.beq pc 33)) (Nat.ble pc 33) pc) (fun pc => @Bool.rec (fun _ => Option ex_C) none (some k62_30) (Nat.beq pc 30)) (Nat.ble pc 30) pc) (fun pc => @Bool.rec (fun _ => Nat → Option ex_C) (fun pc => @Bool.rec (fun _ => Nat → Option ex_C) (fun pc => @Bool.rec (fun _ => Option ex_C) none (some k62_23) (Nat.beq pc 23)) (fun pc => @Bool.rec (fun _ => Option ex_C) none (some k62_10) (Nat.beq pc 10)) (Nat.ble pc 10) pc) (fun pc => @Bool.rec (fun _ => Option ex_C) none (some k62_0) (Nat.beq pc 0)) (Nat.ble pc 0) pc) (Nat.ble pc 23) pc) (Nat.ble pc 44) pc
theorem ktE_62 : ex_CTT 15 [] cd_62 kt_62 cd_62 := (ex_ct2 (ex_ct2 (ex_ct2 (ex_ct1 kE62_0) (ex_ct2 (ex_ct1 kE62_10) (ex_ct1 kE62_23))) (ex_ct2 (ex_ct1 kE62_30) (ex_ct2 (ex_ct1 kE62_33) (ex_ct1 kE62_44)))) (ex_ct2 (ex_ct2 (ex_ct1 kE62_53) (ex_ct2 (ex_ct1 kE62_63) (ex_ct1 kE62_72))) (ex_ct2 (ex_ct2 (ex_ct1 kE62_73) (ex_ct1 kE62_76)) (ex_ct2 (ex_ct1 kE62_92) (ex_ct1 kE62_98)))))
set_option maxHeartbeats 100000 in
def k63_141 : ex_C := c_return_  15
set_option maxHeartbeats 100000 in
theorem kE63_141 : ex_CE 15 [] cd_63 k63_141 q63_141 := e_return_ 141 0 
set_option maxHeartbeats 100000 in
def k63_135 : ex_C := c_aload 0 (c_psh 119 (c_pf 2 2 6 (k63_141)))
set_option maxHeartbeats 100000 in
theorem kE63_135 : ex_CE 15 [] cd_63 k63_135 q63_135 := e_aload_aload_n 135 0 0 0 rfl (e_psh_bipush 136 119 119 (e_pf 138 8326 35 2 2 6 rfl rfl rfl (kE63_141)))
set_option maxHeartbeats 100000 in
def k63_132 : ex_C := c_goto 141
set_option maxHeartbeats 100000 in
theorem kE63_132 : ex_CE 15 [] cd_63 k63_132 q63_132 := e_goto 132 141 9
set_option maxHeartbeats 100000 in
def k63_129 : ex_C := c_invV [] cd_63 129 3 60 2 (k63_132)
set_option maxHeartbeats 100000 in
theorem kE63_129 : ex_CE 15 [] cd_63 k63_129 q63_129 := e_invV_invokevirtual 129 622659 106 3 60 2 rfl rfl rfl rfl rfl rfl (kE63_132)
set_option maxHeartbeats 100000 in
def k63_112 : ex_C := c_aload 0 (c_psh 112 (c_aload 0 (c_gf 2 3 (c_aload 1 (c_aload 2 (c_gf 6 0 (c_iload 3 (c_iaload (c_invV [] cd_63 126 3 83 4 (k63_129))))))))))
set_option maxHeartbeats 100000 in
theorem kE63_112 : ex_CE 15 [] cd_63 k63_112 q63_112 := e_aload_aload_n 112 0 0 0 rfl (e_psh_bipush 113 112 112 (e_aload_aload_n 115 0 0 0 rfl (e_gf 116 86147 27 2 3 rfl rfl (e_aload_aload_n 119 0 1 1 rfl (e_aload_aload_n 120 0 2 2 rfl (e_gf 121 86400 62 6 0 rfl rfl (e_iload_iload_n 124 0 3 3 rfl (e_iaload 125 0 (e_invV_invokevirtual 126 811139 135 3 83 4 rfl rfl rfl rfl rfl rfl (kE63_129))))))))))
set_option maxHeartbeats 100000 in
def k63_95 : ex_C := c_if_eq 135 (c_aload 0 (c_gf 2 3 (c_aload 1 (c_aload 2 (c_gf 6 0 (c_iload 3 (c_iaload (c_invV [] cd_63 109 3 71 4 (k63_112)))))))))
set_option maxHeartbeats 100000 in
theorem kE63_95 : ex_CE 15 [] cd_63 k63_95 q63_95 := e_if_eq 95 135 40 (e_aload_aload_n 98 0 0 0 rfl (e_gf 99 86147 27 2 3 rfl rfl (e_aload_aload_n 102 0 1 1 rfl (e_aload_aload_n 103 0 2 2 rfl (e_gf 104 86400 62 6 0 rfl rfl (e_iload_iload_n 107 0 3 3 rfl (e_iaload 108 0 (e_invV_invokevirtual 109 712835 132 3 71 4 rfl rfl rfl rfl rfl rfl (kE63_112)))))))))
set_option maxHeartbeats 100000 in
def k63_81 : ex_C := c_aload 0 (c_gf 2 3 (c_aload 1 (c_aload 2 (c_gf 6 1 (c_iload 3 (c_iaload (c_invV [] cd_63 92 3 69 4 (k63_95))))))))
set_option maxHeartbeats 100000 in
theorem kE63_81 : ex_CE 15 [] cd_63 k63_81 q63_81 := e_aload_aload_n 81 0 0 0 rfl (e_gf 82 86147 27 2 3 rfl rfl (e_aload_aload_n 85 0 1 1 rfl (e_aload_aload_n 86 0 2 2 rfl (e_gf 87 86401 125 6 1 rfl rfl (e_iload_iload_n 90 0 3 3 rfl (e_iaload 91 0 (e_invV_invokevirtual 92 696451 128 3 69 4 rfl rfl rfl rfl rfl rfl (kE63_95))))))))
set_option maxHeartbeats 100000 in
def k63_78 : ex_C := c_invV [] cd_63 78 4 68 4 (k63_81)
set_option maxHeartbeats 100000 in
theorem kE63_78 : ex_CE 15 [] cd_63 k63_78 q63_78 := e_invV_invokevirtual 78 688260 121 4 68 4 rfl rfl rfl rfl rfl rfl (kE63_81)
set_option maxHeartbeats 100000 in
def k63_77 : ex_C := c_psh 0 (k63_78)
set_option maxHeartbeats 100000 in
theorem kE63_77 : ex_CE 15 [] cd_63 k63_77 q63_77 := e_psh_iconst 77 0 0 (kE63_78)
set_option maxHeartbeats 100000 in
def k63_73 : ex_C := c_psh 1 (c_goto 78)
set_option maxHeartbeats 100000 in
theorem kE63_73 : ex_CE 15 [] cd_63 k63_73 q63_73 := e_psh_iconst 73 1 1 (e_goto 74 78 4)
set_option maxHeartbeats 100000 in
def k63_61 : ex_C := c_iload 4 (c_psh 2 (c_icmp_eq 73 (c_iload 5 (c_psh 2 (c_icmp_ne 77 (k63_73))))))
set_option maxHeartbeats 100000 in
theorem kE63_61 : ex_CE 15 [] cd_63 k63_61 q63_61 := e_iload_iload 61 0 4 (e_psh_iconst 63 2 2 (e_icmp_eq 64 73 9 (e_iload_iload 67 0 5 (e_psh_iconst 69 2 2 (e_icmp_ne 70 77 7 (kE63_73))))))
set_option maxHeartbeats 100000 in
def k63_60 : ex_C := c_psh 0 (k63_61)
set_option maxHeartbeats 100000 in
theorem kE63_60 : ex_CE 15 [] cd_63 k63_60 q63_60 := e_psh_iconst 60 0 0 (kE63_61)
set_option maxHeartbeats 100000 in
def k63_56 : ex_C := c_psh 1 (c_goto 61)
set_option maxHeartbeats 100000 in
theorem kE63_56 : ex_CE 15 [] cd_63 k63_56 q63_56 := e_psh_iconst 56 1 1 (e_goto 57 61 4)
set_option maxHeartbeats 100000 in
def k63_44 : ex_C := c_iload 4 (c_psh 1 (c_icmp_eq 56 (c_iload 5 (c_psh 1 (c_icmp_ne 60 (k63_56))))))
set_option maxHeartbeats 100000 in
theorem kE63_44 : ex_CE 15 [] cd_63 k63_44 q63_44 := e_iload_iload 44 0 4 (e_psh_iconst 46 1 1 (e_icmp_eq 47 56 9 (e_iload_iload 50 0 5 (e_psh_iconst 52 1 1 (e_icmp_ne 53 60 7 (kE63_56))))))
set_option maxHeartbeats 100000 in
def k63_43 : ex_C := c_psh 2 (k63_44)
set_option maxHeartbeats 100000 in
theorem kE63_43 : ex_CE 15 [] cd_63 k63_43 q63_43 := e_psh_iconst 43 2 2 (kE63_44)
set_option maxHeartbeats 100000 in
def k63_39 : ex_C := c_psh 4 (c_goto 44)
set_option maxHeartbeats 100000 in
theorem kE63_39 : ex_CE 15 [] cd_63 k63_39 q63_39 := e_psh_iconst 39 4 4 (e_goto 40 44 4)
set_option maxHeartbeats 100000 in
def k63_21 : ex_C := c_istore 5 (c_aload 0 (c_gf 2 3 (c_iload 4 (c_psh 3 (c_icmp_eq 39 (c_iload 5 (c_psh 3 (c_icmp_ne 43 (k63_39)))))))))
set_option maxHeartbeats 100000 in
theorem kE63_21 : ex_CE 15 [] cd_63 k63_21 q63_21 := e_istore_istore 21 0 5 (e_aload_aload_n 23 0 0 0 rfl (e_gf 24 86147 27 2 3 rfl rfl (e_iload_iload 27 0 4 (e_psh_iconst 29 3 3 (e_icmp_eq 30 39 9 (e_iload_iload 33 0 5 (e_psh_iconst 35 3 3 (e_icmp_ne 36 43 7 (kE63_39)))))))))
set_option maxHeartbeats 100000 in
def k63_10 : ex_C := c_aload 2 (c_gf 6 4 (c_istore 4 (c_aload 2 (c_iload 3 (c_invV [] cd_63 18 2 52 6 (k63_21))))))
set_option maxHeartbeats 100000 in
theorem kE63_10 : ex_CE 15 [] cd_63 k63_10 q63_10 := e_aload_aload_n 10 0 2 2 rfl (e_gf 11 388 50 6 4 rfl rfl (e_istore_istore 14 0 4 (e_aload_aload_n 16 0 2 2 rfl (e_iload_iload_n 17 0 3 3 rfl (e_invV_invokevirtual 18 557250 66 2 52 6 rfl rfl rfl rfl rfl rfl (kE63_21))))))
set_option maxHeartbeats 100000 in
def k63_0 : ex_C := c_aload 0 (c_gf 2 6 (c_psh 45 (c_icmp_eq 10 (c_return_  15))))
set_option maxHeartbeats 100000 in
theorem kE63_0 : ex_CE 15 [] cd_63 k63_0 q63_0 := e_aload_aload_n 0 0 0 0 rfl (e_gf 1 8326 35 2 6 rfl rfl (e_psh_bipush 4 45 45 (e_icmp_eq 6 10 4 (e_return_ 9 0 ))))
def kt_63 : Nat → Option ex_C := fun pc => @Bool.rec (fun _ => Nat → Option ex_C) (fun pc => @Bool.rec (fun _ => Nat → Option ex_C) (fun pc => @Bool.rec (fun _ => Nat → Option ex_C) (fun pc => @Bool.rec (fun _ => Nat → Option ex_C) (fun pc => @Bool.rec (fun _ => Nat → Option ex_C) (fun pc => @Bool.rec (fun _ => Option ex_C) none (some k63_141) (Nat.beq pc 141)) (fun pc => @Bool.rec (fun _ => Option ex_C) none (some k63_135) (Nat.beq pc 135)) (Nat.ble pc 135) pc) (fun pc => @Bool.rec (fun _ => Option ex_C) none (some k63_132) (Nat.beq pc 132)) (Nat.ble pc 132) pc) (fun pc => @Bool.rec (fun _ => Nat → Option ex_C) (fun pc => @Bool.rec (fun _ => Option ex_C) none (some k63_129) (Nat.beq pc 129)) (fun pc => @Bool.rec (fun _ => Option ex_C) none (some k63_112) (Nat.beq pc 112)) (Nat.ble pc 112) pc) (Nat.ble pc 129) pc) (fun pc => @Bool.rec (fun _ => Nat → Option ex_C) (fun pc => @Bool.rec (fun _ => Nat → Option ex_C) (fun pc => @Bool.rec (fun _ => Nat → Option ex_C) (fun pc => @Bool.rec (fun _ => Option ex_C) none (some k63_95) (Nat.beq pc 95)) (fun pc => @Bool.rec (fun _ => Option ex_C) none (some k63_81) (Nat.beq pc 81)) (Nat.ble pc 81) pc) (fun pc => @Bool.rec (fun _ => Option ex_C) none (some k63_78) (Nat.beq pc 78)) (Nat.ble pc 78) pc) (fun pc => @Bool.rec (fun _ => Nat → Option ex_C) (fun pc => @Bool.rec (fun _ => Option ex_C) none (some k63_77) (Nat.beq pc 77)) (fun pc => @Bool.rec (fun _ => Option ex_C) none (some k63_73) (Nat.beq pc 73)) (Nat.ble pc 73) pc) (Nat.ble pc 77) pc) (Nat.ble pc 95) pc) (fun pc => @Bool.rec (fun _ => Nat → Option ex_C) (fun pc => @Bool.rec (fun _ => Nat → Option ex_C) (fun pc => @Bool.rec (fun _ => Nat → Option ex_C) (fun pc => @Bool.rec (fun _ => Nat → Option ex_C) (fun pc => @Bool.rec (fun _ => Option ex_C) none (some k63_61) (Nat.beq pc 61)) (fun pc => @Bool.rec (fun _ => Option ex_C) none (some k63_60) (Nat.beq pc 60)) (Nat.ble pc 60) pc) (fun pc => @Bool.rec (fun _ => Option ex_C) none (some k63_56) (Nat.beq pc 56)) (Nat.ble pc 56) pc) (fun pc => @Bool.rec (fun _ => Nat → Option ex_C) (fun pc => @Bool.rec (fun _ => Option ex_C) none (some k63_44) (Nat.beq pc 44)) (fun pc => @Bool.rec (fun _ => Option ex_C) none (some k63_43) (Nat.beq pc 43)) (Nat.ble pc 43) pc) (Nat.ble pc 44) pc) (fun pc => @Bool.rec (fun _ => Nat → Option ex_C) (fun pc => @Bool.rec (fun _ => Nat → Option ex_C) (fun pc => @Bool.rec (fun _ => Option ex_C) none (some k63_39) (Nat.beq pc 39)) (fun pc => @Bool.rec (fun _ => Option ex_C) none (some k63_21) (Nat.beq pc 21)) (Nat.ble pc 21) pc) (fun pc => @Bool.rec (fun _ => Nat → Option ex_C) (fun pc => @Bool.rec (fun _ => Option ex_C) none (some k63_10) (Nat.beq pc 10)) (fun pc => @Bool.rec (fun _ => Option ex_C) none (some k63_0) (Nat.beq pc 0)) (Nat.ble pc 0) pc) (Nat.ble pc 10) pc) (Nat.ble pc 39) pc) (Nat.ble pc 61) pc
theorem ktE_63 : ex_CTT 15 [] cd_63 kt_63 cd_63 := (ex_ct2 (ex_ct2 (ex_ct2 (ex_ct2 (ex_ct1 kE63_0) (ex_ct1 kE63_10)) (ex_ct2 (ex_ct1 kE63_21) (ex_ct1 kE63_39))) (ex_ct2 (ex_ct2 (ex_ct1 kE63_43) (ex_ct1 kE63_44)) (ex_ct2 (ex_ct1 kE63_56) (ex_ct2 (ex_ct1 kE63_60) (ex_ct1 kE63_61))))) (ex_ct2 (ex_ct2 (ex_ct2 (ex_ct1 kE63_73) (ex_ct1 kE63_77)) (ex_ct2 (ex_ct1 kE63_78) (ex_ct2 (ex_ct1 kE63_81) (ex_ct1 kE63_95)))) (ex_ct2 (ex_ct2 (ex_ct1 kE63_112) (ex_ct1 kE63_129)) (ex_ct2 (ex_ct1 kE63_132) (ex_ct2 (ex_ct1 kE63_135) (ex_ct1 kE63_141))))))
set_option maxHeartbeats 100000 in
def k64_93 : ex_C := c_return_  15
set_option maxHeartbeats 100000 in
theorem kE64_93 : ex_CE 15 [] cd_64 k64_93 q64_93 := e_return_ 93 0 
set_option maxHeartbeats 100000 in
def k64_90 : ex_C := c_invV [] cd_64 90 4 66 2 (k64_93)
set_option maxHeartbeats 100000 in
theorem kE64_90 : ex_CE 15 [] cd_64 k64_90 q64_90 := e_invV_invokevirtual 90 671812 142 4 66 2 rfl rfl rfl rfl rfl rfl (kE64_93)
set_option maxHeartbeats 100000 in
def k64_89 : ex_C := c_psh 0 (k64_90)
set_option maxHeartbeats 100000 in
theorem kE64_89 : ex_CE 15 [] cd_64 k64_89 q64_89 := e_psh_iconst 89 0 0 (kE64_90)
set_option maxHeartbeats 100000 in
def k64_79 : ex_C := c_aload 2 (c_iload 1 (c_psh 5 (c_icmp_ne 89 (c_psh 1 (c_goto 90)))))
set_option maxHeartbeats 100000 in
theorem kE64_79 : ex_CE 15 [] cd_64 k64_79 q64_79 := e_aload_aload_n 79 0 2 2 rfl (e_iload_iload_n 80 0 1 1 rfl (e_psh_iconst 81 5 5 (e_icmp_ne 82 89 7 (e_psh_iconst 85 1 1 (e_goto 86 90 4)))))
set_option maxHeartbeats 100000 in
def k64_59 : ex_C := c_astore 2 (c_aload 0 (c_dup   (c_gf 2 5 (c_psh 1 (c_isub (c_pf 2 0 5 (c_aload 0 (c_aload 0 (c_aload 0 (c_gf 2 5 (c_invV [] cd_64 76 2 61 2 (k64_79))))))))))))
set_option maxHeartbeats 100000 in
theorem kE64_59 : ex_CE 15 [] cd_64 k64_59 q64_59 := e_astore_astore_n 59 0 2 2 rfl (e_aload_aload_n 60 0 0 0 rfl (e_dup 61 0  (e_gf 62 133 31 2 5 rfl rfl (e_psh_iconst 65 1 1 (e_isub 66 0 (e_pf 67 133 31 2 0 5 rfl rfl rfl (e_aload_aload_n 70 0 0 0 rfl (e_aload_aload_n 71 0 0 0 rfl (e_aload_aload_n 72 0 0 0 rfl (e_gf 73 133 31 2 5 rfl rfl (e_invV_invokevirtual 76 630850 70 2 61 2 rfl rfl rfl rfl rfl rfl (kE64_79))))))))))))
set_option maxHeartbeats 100000 in
def k64_44 : ex_C := c_aload 0 (c_gf 2 5 (c_if_le 93 (c_aload 0 (c_aload 0 (c_gf 2 5 (c_invV [] cd_64 56 2 61 2 (k64_59)))))))
set_option maxHeartbeats 100000 in
theorem kE64_44 : ex_CE 15 [] cd_64 k64_44 q64_44 := e_aload_aload_n 44 0 0 0 rfl (e_gf 45 133 31 2 5 rfl rfl (e_if_le 48 93 45 (e_aload_aload_n 51 0 0 0 rfl (e_aload_aload_n 52 0 0 0 rfl (e_gf 53 133 31 2 5 rfl rfl (e_invV_invokevirtual 56 630850 70 2 61 2 rfl rfl rfl rfl rfl rfl (kE64_59)))))))
set_option maxHeartbeats 100000 in
def k64_33 : ex_C := c_iload 1 (c_psh 5 (c_icmp_eq 44 (c_iload 1 (c_psh 6 (c_icmp_ne 93 (k64_44))))))
set_option maxHeartbeats 100000 in
theorem kE64_33 : ex_CE 15 [] cd_64 k64_33 q64_33 := e_iload_iload_n 33 0 1 1 rfl (e_psh_iconst 34 5 5 (e_icmp_eq 35 44 9 (e_iload_iload_n 38 0 1 1 rfl (e_psh_bipush 39 6 6 (e_icmp_ne 41 93 52 (kE64_44))))))
set_option maxHeartbeats 100000 in
def k64_30 : ex_C := c_goto 93
set_option maxHeartbeats 100000 in
theorem kE64_30 : ex_CE 15 [] cd_64 k64_30 q64_30 := e_goto 30 93 63
set_option maxHeartbeats 100000 in
def k64_23 : ex_C := c_aload 0 (c_gf 2 4 (c_invV [] cd_64 27 2 9 3 (k64_30)))
set_option maxHeartbeats 100000 in
theorem kE64_23 : ex_CE 15 [] cd_64 k64_23 q64_23 := e_aload_aload_n 23 0 0 0 rfl (e_gf 24 86148 42 2 4 rfl rfl (e_invV_invokevirtual 27 204898 139 2 9 3 rfl rfl rfl rfl rfl rfl (kE64_30)))
set_option maxHeartbeats 100000 in
def k64_10 : ex_C := c_iload 1 (c_psh 4 (c_icmp_ne 33 (c_aload 0 (c_aload 0 (c_gf 2 5 (c_invV [] cd_64 20 2 61 2 (k64_23)))))))
set_option maxHeartbeats 100000 in
theorem kE64_10 : ex_CE 15 [] cd_64 k64_10 q64_10 := e_iload_iload_n 10 0 1 1 rfl (e_psh_iconst 11 4 4 (e_icmp_ne 12 33 21 (e_aload_aload_n 15 0 0 0 rfl (e_aload_aload_n 16 0 0 0 rfl (e_gf 17 133 31 2 5 rfl rfl (e_invV_invokevirtual 20 630850 70 2 61 2 rfl rfl rfl rfl rfl rfl (kE64_23)))))))
set_option maxHeartbeats 100000 in
def k64_0 : ex_C := c_aload 0 (c_gf 2 6 (c_psh 45 (c_icmp_eq 10 (c_return_  15))))
set_option maxHeartbeats 100000 in
theorem kE64_0 : ex_CE 15 [] cd_64 k64_0 q64_0 := e_aload_aload_n 0 0 0 0 rfl (e_gf 1 8326 35 2 6 rfl rfl (e_psh_bipush 4 45 45 (e_icmp_eq 6 10 4 (e_return_ 9 0 ))))
def kt_64 : Nat → Option ex_C := fun pc => @Bool.rec (fun _ => Nat → Option ex_C) (fun pc => @Bool.rec (fun _ => Nat → Option ex_C) (fun pc => @Bool.rec (fun _ => Nat → Option ex_C) (fun pc => @Bool.rec (fun _ => Nat → Option ex_C) (fun pc => @Bool.rec (fun _ => Option ex_C) none (some k64_93) (Nat.beq pc 93)) (fun pc => @Bool.rec (fun _ => Option ex_C) none (some k64_90) (Nat.beq pc 90)) (Nat.ble pc 90) pc) (fun pc => @Bool.rec (fun _ => Option ex_C) none (some k64_89) (Nat.beq pc 89)) (Nat.ble pc 89) pc) (fun pc => @Bool.rec (fun _ => Nat → Option ex_C) (fun pc => @Bool.rec (fun _ => Nat → Option ex_C) (fun pc => @Bool.rec (fun _ => Option ex_C) none (some k64_79) (Nat.beq pc 79)) (fun pc => @Bool.rec (fun _ => Option ex_C) none (some k64_59) (Nat.beq pc 59)) (Nat.ble pc 59) pc) (fun pc => @Bool.rec (fun _ => Option ex_C) none (some k64_44) (Nat.beq pc 44)) (Nat.ble pc 44) pc) (Nat.ble pc 79) pc) (fun pc => @Bool.rec (fun _ => Nat → Option ex_C) (fun pc => @Bool.rec (fun _ => Nat → Option ex_C) (fun pc => @Bool.rec (fun _ => Nat → Option ex_C) (fun pc => @Bool.rec (fun _ => Option ex_C) none (some k64_33) (Nat.beq pc 33)) (fun pc => @Bool.rec (fun _ => Option ex_C) none (some k64_30) (Nat.beq pc 30)) (Nat.ble pc 30) pc) (fun pc => @Bool.rec (fun _ => Option ex_C) none (some k64_23) (Nat.beq pc 23)) (Nat.ble pc 23) pc) (fun pc => @Bool.rec (fun _ => Nat → Option ex_C) (fun pc => @Bool.rec (fun _ => Option ex_C) none (some k64_10) (Nat.beq pc 10)) (fun pc => @Bool.rec (fun _ => Option ex_C) none (some k64_0) (Nat.beq pc 0)) (Nat.ble pc 0) pc) (Nat.ble pc 10) pc) (Nat.ble pc 33) pc
theorem ktE_64 : ex_CTT 15 [] cd_64 kt_64 cd_64 := (ex_ct2 (ex_ct2 (ex_ct2 (ex_ct1 kE64_0) (ex_ct1 kE64_10)) (ex_ct2 (ex_ct1 kE64_23) (ex_ct2 (ex_ct1 kE64_30) (ex_ct1 kE64_33)))) (ex_ct2 (ex_ct2 (ex_ct1 kE64_44) (ex_ct2 (ex_ct1 kE64_59) (ex_ct1 kE64_79))) (ex_ct2 (ex_ct1 kE64_89) (ex_ct2 (ex_ct1 kE64_90) (ex_ct1 kE64_93)))))
set_option maxHeartbeats 100000 in
def k65_175 : ex_C := c_psh 1 (c_ireturn  1)
set_option maxHeartbeats 100000 in
theorem kE65_175 : ex_CE 1 [] cd_65 k65_175 q65_175 := e_psh_iconst 175 1 1 (e_ireturn 176 0 )
set_option maxHeartbeats 100000 in
def k65_169 : ex_C := c_iinc 5 1 (c_goto 24)
set_option maxHeartbeats 100000 in
theorem kE65_169 : ex_CE 1 [] cd_65 k65_169 q65_169 := e_iinc 169 1 5 1 (e_goto 172 24 (-148))
set_option maxHeartbeats 100000 in
def k65_167 : ex_C := c_psh 0 (c_ireturn  1)
set_option maxHeartbeats 100000 in
theorem kE65_167 : ex_CE 1 [] cd_65 k65_167 q65_167 := e_psh_iconst 167 0 0 (e_ireturn 168 0 )
set_option maxHeartbeats 100000 in
def k65_164 : ex_C := c_if_ne 169 (k65_167)
set_option maxHeartbeats 100000 in
theorem kE65_164 : ex_CE 1 [] cd_65 k65_164 q65_164 := e_if_ne 164 169 5 (kE65_167)
set_option maxHeartbeats 100000 in
def k65_139 : ex_C := c_istore 8 (c_iload 7 (c_iload 4 (c_icmp_ne 167 (c_iload 8 (c_if_eq 169 (c_aload 2 (c_aload 1 (c_iload 5 (c_iload 6 (c_iload 7 (c_invV [] cd_65 161 5 10 3 (k65_164))))))))))))
set_option maxHeartbeats 100000 in
theorem kE65_139 : ex_CE 1 [] cd_65 k65_139 q65_139 := e_istore_istore 139 0 8 (e_iload_iload 141 0 7 (e_iload_iload 143 0 4 (e_icmp_ne 145 167 22 (e_iload_iload 148 0 8 (e_if_eq 150 169 19 (e_aload_aload_n 153 0 2 2 rfl (e_aload_aload_n 154 0 1 1 rfl (e_iload_iload 155 0 5 (e_iload_iload 157 0 6 (e_iload_iload 159 0 7 (e_invV_invokevirtual 161 213093 166 5 10 3 rfl rfl rfl rfl rfl rfl (kE65_164))))))))))))
set_option maxHeartbeats 100000 in
def k65_136 : ex_C := c_invV [] cd_65 136 4 12 3 (k65_139)
set_option maxHeartbeats 100000 in
theorem kE65_136 : ex_CE 1 [] cd_65 k65_136 q65_136 := e_invV_invokevirtual 136 229476 162 4 12 3 rfl rfl rfl rfl rfl rfl (kE65_139)
set_option maxHeartbeats 100000 in
def k65_127 : ex_C := c_aload 1 (c_gf 3 2 (c_iload 5 (c_iaload (c_psh 3 (c_iadd (k65_136))))))
set_option maxHeartbeats 100000 in
theorem kE65_127 : ex_CE 1 [] cd_65 k65_127 q65_127 := e_aload_aload_n 127 0 1 1 rfl (e_gf 128 86210 159 3 2 rfl rfl (e_iload_iload 131 0 5 (e_iaload 133 0 (e_psh_iconst 134 3 3 (e_iadd 135 0 (kE65_136))))))
set_option maxHeartbeats 100000 in
def k65_106 : ex_C := c_istore 4 (c_aload 1 (c_iload 5 (c_iload 6 (c_iload 3 (c_if_eq 127 (c_aload 1 (c_gf 3 2 (c_iload 5 (c_iaload (c_goto 136))))))))))
set_option maxHeartbeats 100000 in
theorem kE65_106 : ex_CE 1 [] cd_65 k65_106 q65_106 := e_istore_istore 106 0 4 (e_aload_aload_n 108 0 1 1 rfl (e_iload_iload 109 0 5 (e_iload_iload 111 0 6 (e_iload_iload_n 113 0 3 3 rfl (e_if_eq 114 127 13 (e_aload_aload_n 117 0 1 1 rfl (e_gf 118 86210 159 3 2 rfl rfl (e_iload_iload 121 0 5 (e_iaload 123 0 (e_goto 124 136 12))))))))))
set_option maxHeartbeats 100000 in
def k65_104 : ex_C := c_iload 4 (k65_106)
set_option maxHeartbeats 100000 in
theorem kE65_104 : ex_CE 1 [] cd_65 k65_104 q65_104 := e_iload_iload 104 0 4 (kE65_106)
set_option maxHeartbeats 100000 in
def k65_92 : ex_C := c_istore 7 (c_iload 5 (c_if_ne 104 (c_iload 7 (c_goto 106))))
set_option maxHeartbeats 100000 in
theorem kE65_92 : ex_CE 1 [] cd_65 k65_92 q65_92 := e_istore_istore 92 0 7 (e_iload_iload 94 0 5 (e_if_ne 96 104 8 (e_iload_iload 99 0 7 (e_goto 101 106 5))))
set_option maxHeartbeats 100000 in
def k65_91 : ex_C := c_psh 0 (k65_92)
set_option maxHeartbeats 100000 in
theorem kE65_91 : ex_CE 1 [] cd_65 k65_91 q65_91 := e_psh_iconst 91 0 0 (kE65_92)
set_option maxHeartbeats 100000 in
def k65_84 : ex_C := c_icmp_ne 91 (c_psh 1 (c_goto 92))
set_option maxHeartbeats 100000 in
theorem kE65_84 : ex_CE 1 [] cd_65 k65_84 q65_84 := e_icmp_ne 84 91 7 (e_psh_iconst 87 1 1 (e_goto 88 92 4))
set_option maxHeartbeats 100000 in
def k65_83 : ex_C := c_psh 0 (k65_84)
set_option maxHeartbeats 100000 in
theorem kE65_83 : ex_CE 1 [] cd_65 k65_83 q65_83 := e_psh_iconst 83 0 0 (kE65_84)
set_option maxHeartbeats 100000 in
def k65_66 : ex_C := c_iload 3 (c_aload 1 (c_gf 3 2 (c_iload 5 (c_iaload (c_psh 2 (c_irem   (c_if_eq 83 (c_psh 1 (c_goto 84)))))))))
set_option maxHeartbeats 100000 in
theorem kE65_66 : ex_CE 1 [] cd_65 k65_66 q65_66 := e_iload_iload_n 66 0 3 3 rfl (e_aload_aload_n 67 0 1 1 rfl (e_gf 68 86210 159 3 2 rfl rfl (e_iload_iload 71 0 5 (e_iaload 73 0 (e_psh_iconst 74 2 2 (e_irem 75 0  (e_if_eq 76 83 7 (e_psh_iconst 79 1 1 (e_goto 80 84 4)))))))))
set_option maxHeartbeats 100000 in
def k65_64 : ex_C := c_psh 0 (c_ireturn  1)
set_option maxHeartbeats 100000 in
theorem kE65_64 : ex_CE 1 [] cd_65 k65_64 q65_64 := e_psh_iconst 64 0 0 (e_ireturn 65 0 )
set_option maxHeartbeats 100000 in
def k65_24 : ex_C := c_iload 5 (c_aload 1 (c_gf 3 14 (c_icmp_ge 175 (c_aload 0 (c_gf 2 3 (c_gf 4 4 (c_iload 5 (c_iaload (c_istore 6 (c_iload 6 (c_if_lt 64 (c_aload 0 (c_gf 2 3 (c_gf 4 5 (c_iload 5 (c_iaload (c_psh 1 (c_icmp_eq 66 (k65_64)))))))))))))))))))
set_option maxHeartbeats 100000 in
theorem kE65_24 : ex_CE 1 [] cd_65 k65_24 q65_24 := e_iload_iload 24 0 5 (e_aload_aload_n 26 0 1 1 rfl (e_gf 27 206 146 3 14 rfl rfl (e_icmp_ge 30 175 145 (e_aload_aload_n 33 0 0 0 rfl (e_gf 34 86147 27 2 3 rfl rfl (e_gf 37 86276 153 4 4 rfl rfl (e_iload_iload 40 0 5 (e_iaload 42 0 (e_istore_istore 43 0 6 (e_iload_iload 45 0 6 (e_if_lt 47 64 17 (e_aload_aload_n 50 0 0 0 rfl (e_gf 51 86147 27 2 3 rfl rfl (e_gf 54 86277 156 4 5 rfl rfl (e_iload_iload 57 0 5 (e_iaload 59 0 (e_psh_iconst 60 1 1 (e_icmp_eq 61 66 5 (kE65_64)))))))))))))))))))
set_option maxHeartbeats 100000 in
def k65_18 : ex_C := c_psh 0 (c_istore 4 (c_psh 0 (c_istore 5 (k65_24))))
set_option maxHeartbeats 100000 in
theorem kE65_18 : ex_CE 1 [] cd_65 k65_18 q65_18 := e_psh_iconst 18 0 0 (e_istore_istore 19 0 4 (e_psh_iconst 21 0 0 (e_istore_istore 22 0 5 (kE65_24))))
set_option maxHeartbeats 100000 in
def k65_9 : ex_C := c_aload 0 (c_gf 2 3 (c_aload 1 (c_iload 3 (c_invV [] cd_65 15 3 77 4 (k65_18)))))
set_option maxHeartbeats 100000 in
theorem kE65_9 : ex_CE 1 [] cd_65 k65_9 q65_9 := e_aload_aload_n 9 0 0 0 rfl (e_gf 10 86147 27 2 3 rfl rfl (e_aload_aload_n 13 0 1 1 rfl (e_iload_iload_n 14 0 3 3 rfl (e_invV_invokevirtual 15 761987 149 3 77 4 rfl rfl rfl rfl rfl rfl (kE65_18)))))
set_option maxHeartbeats 100000 in
def k65_0 : ex_C := c_aload 2 (c_psh 0 (c_pf 3 0 14 (c_aload 1 (c_invV [] cd_65 6 1 13 3 (k65_9)))))
set_option maxHeartbeats 100000 in
theorem kE65_0 : ex_CE 1 [] cd_65 k65_0 q65_0 := e_aload_aload_n 0 0 2 2 rfl (e_psh_iconst 1 0 0 (e_pf 2 206 146 3 0 14 rfl rfl rfl (e_aload_aload_n 5 0 1 1 rfl (e_invV_invokevirtual 6 237665 91 1 13 3 rfl rfl rfl rfl rfl rfl (kE65_9)))))
def kt_65 : Nat → Option ex_C := fun pc => @Bool.rec (fun _ => Nat → Option ex_C) (fun pc => @Bool.rec (fun _ => Nat → Option ex_C) (fun pc => @Bool.rec (fun _ => Nat → Option ex_C) (fun pc => @Bool.rec (fun _ => Nat → Option ex_C) (fun pc => @Bool.rec (fun _ => Nat → Option ex_C) (fun pc => @Bool.rec (fun _ => Option ex_C) none (some k65_175) (Nat.beq pc 175)) (fun pc => @Bool.rec (fun _ => Option ex_C) none (some k65_169) (Nat.beq pc 169)) (Nat.ble pc 169) pc) (fun pc => @Bool.rec (fun _ => Option ex_C) none (some k65_167) (Nat.beq pc 167)) (Nat.ble pc 167) pc) (fun pc => @Bool.rec (fun _ => Nat → Option ex_C) (fun pc => @Bool.rec (fun _ => Option ex_C) none (some k65_164) (Nat.beq pc 164)) (fun pc => @Bool.rec (fun _ => Option ex_C) none (some k65_139) (Nat.beq pc 139)) (Nat.ble pc 139) pc) (Nat.ble pc 164) pc) (fun pc => @Bool.rec (fun _ => Nat → Option ex_C) (fun pc => @Bool.rec (fun _ => Nat → Option ex_C) (fun pc => @Bool.rec (fun _ => Nat → Option ex_C) (fun pc => @Bool.rec (fun _ => Option ex_C) none (some k65_136) (Nat.beq pc 136)) (fun pc => @Bool.rec (fun _ => Option ex_C) none (some k65_127) (Nat.beq pc 127)) (Nat.ble pc 127) pc) (fun pc => @Bool.rec (fun _ => Option ex_C) none (some k65_106) (Nat.beq pc 106)) (Nat.ble pc 106) pc) (fun pc => @Bool.rec (fun _ => Nat → Option ex_C) (fun pc => @Bool.rec (fun _ => Option ex_C) none (some k65_104) (Nat.beq pc 104)) (fun pc => @Bool.rec (fun _ => Option ex_C) none (some k65_92) (Nat.beq pc 92)) (Nat.ble pc 92) pc) (Nat.ble pc 104) pc) (Nat.ble pc 136) pc) (fun pc => @Bool.rec (fun _ => Nat → Option ex_C) (fun pc => @Bool.rec (fun _ => Nat → Option ex_C) (fun pc => @Bool.rec (fun _ => Nat → Option ex_C) (fun pc => @Bool.rec (fun _ => Nat → Option ex_C) (fun pc => @Bool.rec (fun _ => Option ex_C) none (some k65_91) (Nat.beq pc 91)) (fun pc => @Bool.rec (fun _ => Option ex_C) none (some k65_84) (Nat.beq pc 84)) (Nat.ble pc 84) pc) (fun pc => @Bool.rec (fun _ => Option ex_C) none (some k65_83) (Nat.beq pc 83)) (Nat.ble pc 83) pc) (fun pc => @Bool.rec (fun _ => Nat → Option ex_C) (fun pc => @Bool.rec (fun _ => Option ex_C) none (some k65_66) (Nat.beq pc 66)) (fun pc => @Bool.rec (fun _ => Option ex_C) none (some k65_64) (Nat.beq pc 64)) (Nat.ble pc 64) pc) (Nat.ble pc 66) pc) (fun pc => @Bool.rec (fun _ => Nat → Option ex_C) (fun pc => @Bool.rec (fun _ => Nat → Option ex_C) (fun pc => @Bool.rec (fun _ => Option ex_C) none (some k65_24) (Nat.beq pc 24)) (fun pc => @Bool.rec (fun _ => Option ex_C) none (some k65_18) (Nat.beq pc 18)) (Nat.ble pc 18) pc) (fun pc => @Bool.rec (fun _ => Nat → Option ex_C) (fun pc => @Bool.rec (fun _ => Option ex_C) none (some k65_9) (Nat.beq pc 9)) (fun pc => @Bool.rec (fun _ => Option ex_C) none (some k65_0) (Nat.beq pc 0)) (Nat.ble pc 0) pc) (Nat.ble pc 9) pc) (Nat.ble pc 24) pc) (Nat.ble pc 91) pc
theorem ktE_65 : ex_CTT 1 [] cd_65 kt_65 cd_65 := (ex_ct2 (ex_ct2 (ex_ct2 (ex_ct2 (ex_ct1 kE65_0) (ex_ct1 kE65_9)) (ex_ct2 (ex_ct1 kE65_18) (ex_ct1 kE65_24))) (ex_ct2 (ex_ct2 (ex_ct1 kE65_64) (ex_ct1 kE65_66)) (ex_ct2 (ex_ct1 kE65_83) (ex_ct2 (ex_ct1 kE65_84) (ex_ct1 kE65_91))))) (ex_ct2 (ex_ct2 (ex_ct2 (ex_ct1 kE65_92) (ex_ct1 kE65_104)) (ex_ct2 (ex_ct1 kE65_106) (ex_ct2 (ex_ct1 kE65_127) (ex_ct1 kE65_136)))) (ex_ct2 (ex_ct2 (ex_ct1 kE65_139) (ex_ct1 kE65_164)) (ex_ct2 (ex_ct1 kE65_167) (ex_ct2 (ex_ct1 kE65_169) (ex_ct1 kE65_175))))))
set_option maxHeartbeats 100000 in
def k66_101 : ex_C := c_return_  15
set_option maxHeartbeats 100000 in
theorem kE66_101 : ex_CE 15 [] cd_66 k66_101 q66_101 := e_return_ 101 0 
set_option maxHeartbeats 100000 in
def k66_98 : ex_C := c_invV [] cd_66 98 3 60 2 (k66_101)
set_option maxHeartbeats 100000 in
theorem kE66_98 : ex_CE 15 [] cd_66 k66_98 q66_98 := e_invV_invokevirtual 98 622659 106 3 60 2 rfl rfl rfl rfl rfl rfl (kE66_101)
set_option maxHeartbeats 100000 in
def k66_91 : ex_C := c_aload 0 (c_psh 98 (c_aload 1 (c_invV [] cd_66 95 1 19 3 (k66_98))))
set_option maxHeartbeats 100000 in
theorem kE66_91 : ex_CE 15 [] cd_66 k66_91 q66_91 := e_aload_aload_n 91 0 0 0 rfl (e_psh_bipush 92 98 98 (e_aload_aload_n 94 0 1 1 rfl (e_invV_invokevirtual 95 286817 102 1 19 3 rfl rfl rfl rfl rfl rfl (kE66_98))))
set_option maxHeartbeats 100000 in
def k66_83 : ex_C := c_aload 1 (c_aload 2 (c_iload 3 (c_iload 4 (c_invV [] cd_66 88 4 23 3 (k66_91)))))
set_option maxHeartbeats 100000 in
theorem kE66_83 : ex_CE 15 [] cd_66 k66_83 q66_83 := e_aload_aload_n 83 0 1 1 rfl (e_aload_aload_n 84 0 2 2 rfl (e_iload_iload_n 85 0 3 3 rfl (e_iload_iload 86 0 4 (e_invV_invokevirtual 88 319588 170 4 23 3 rfl rfl rfl rfl rfl rfl (kE66_91)))))
set_option maxHeartbeats 100000 in
def k66_77 : ex_C := c_iinc 5 1 (c_goto 30)
set_option maxHeartbeats 100000 in
theorem kE66_77 : ex_CE 15 [] cd_66 k66_77 q66_77 := e_iinc 77 1 5 1 (e_goto 80 30 (-50))
set_option maxHeartbeats 100000 in
def k66_67 : ex_C := c_icmp_eq 77 (c_aload 0 (c_psh 112 (c_pf 2 2 6 (c_return_  15))))
set_option maxHeartbeats 100000 in
theorem kE66_67 : ex_CE 15 [] cd_66 k66_67 q66_67 := e_icmp_eq 67 77 10 (e_aload_aload_n 70 0 0 0 rfl (e_psh_bipush 71 112 112 (e_pf 73 8326 35 2 2 6 rfl rfl rfl (e_return_ 76 0 ))))
set_option maxHeartbeats 100000 in
def k66_66 : ex_C := c_psh 0 (k66_67)
set_option maxHeartbeats 100000 in
theorem kE66_66 : ex_CE 15 [] cd_66 k66_66 q66_66 := e_psh_iconst 66 0 0 (kE66_67)
set_option maxHeartbeats 100000 in
def k66_59 : ex_C := c_icmp_ne 66 (c_psh 1 (c_goto 67))
set_option maxHeartbeats 100000 in
theorem kE66_59 : ex_CE 15 [] cd_66 k66_59 q66_59 := e_icmp_ne 59 66 7 (e_psh_iconst 62 1 1 (e_goto 63 67 4))
set_option maxHeartbeats 100000 in
def k66_58 : ex_C := c_psh 0 (k66_59)
set_option maxHeartbeats 100000 in
theorem kE66_58 : ex_CE 15 [] cd_66 k66_58 q66_58 := e_psh_iconst 58 0 0 (kE66_59)
set_option maxHeartbeats 100000 in
def k66_30 : ex_C := c_iload 5 (c_aload 2 (c_gf 3 14 (c_icmp_ge 83 (c_iload 4 (c_iload 3 (c_aload 2 (c_gf 3 2 (c_iload 5 (c_iaload (c_psh 2 (c_irem   (c_if_eq 58 (c_psh 1 (c_goto 59))))))))))))))
set_option maxHeartbeats 100000 in
theorem kE66_30 : ex_CE 15 [] cd_66 k66_30 q66_30 := e_iload_iload 30 0 5 (e_aload_aload_n 32 0 2 2 rfl (e_gf 33 206 146 3 14 rfl rfl (e_icmp_ge 36 83 47 (e_iload_iload 39 0 4 (e_iload_iload_n 41 0 3 3 rfl (e_aload_aload_n 42 0 2 2 rfl (e_gf 43 86210 159 3 2 rfl rfl (e_iload_iload 46 0 5 (e_iaload 48 0 (e_psh_iconst 49 2 2 (e_irem 50 0  (e_if_eq 51 58 7 (e_psh_iconst 54 1 1 (e_goto 55 59 4))))))))))))))
set_option maxHeartbeats 100000 in
def k66_25 : ex_C := c_istore 4 (c_psh 0 (c_istore 5 (k66_30)))
set_option maxHeartbeats 100000 in
theorem kE66_25 : ex_CE 15 [] cd_66 k66_25 q66_25 := e_istore_istore 25 0 4 (e_psh_iconst 27 0 0 (e_istore_istore 28 0 5 (kE66_30)))
set_option maxHeartbeats 100000 in
def k66_24 : ex_C := c_psh 0 (k66_25)
set_option maxHeartbeats 100000 in
theorem kE66_24 : ex_CE 15 [] cd_66 k66_24 q66_24 := e_psh_iconst 24 0 0 (kE66_25)
set_option maxHeartbeats 100000 in
def k66_17 : ex_C := c_icmp_ne 24 (c_psh 1 (c_goto 25))
set_option maxHeartbeats 100000 in
theorem kE66_17 : ex_CE 15 [] cd_66 k66_17 q66_17 := e_icmp_ne 17 24 7 (e_psh_iconst 20 1 1 (e_goto 21 25 4))
set_option maxHeartbeats 100000 in
def k66_16 : ex_C := c_psh 0 (k66_17)
set_option maxHeartbeats 100000 in
theorem kE66_16 : ex_CE 15 [] cd_66 k66_16 q66_16 := e_psh_iconst 16 0 0 (kE66_17)
set_option maxHeartbeats 100000 in
def k66_0 : ex_C := c_iload 3 (c_aload 2 (c_gf 3 2 (c_psh 0 (c_iaload (c_psh 2 (c_irem   (c_if_eq 16 (c_psh 1 (c_goto 17)))))))))
set_option maxHeartbeats 100000 in
theorem kE66_0 : ex_CE 15 [] cd_66 k66_0 q66_0 := e_iload_iload_n 0 0 3 3 rfl (e_aload_aload_n 1 0 2 2 rfl (e_gf 2 86210 159 3 2 rfl rfl (e_psh_iconst 5 0 0 (e_iaload 6 0 (e_psh_iconst 7 2 2 (e_irem 8 0  (e_if_eq 9 16 7 (e_psh_iconst 12 1 1 (e_goto 13 17 4)))))))))
def kt_66 : Nat → Option ex_C := fun pc => @Bool.rec (fun _ => Nat → Option ex_C) (fun pc => @Bool.rec (fun _ => Nat → Option ex_C) (fun pc => @Bool.rec (fun _ => Nat → Option ex_C) (fun pc => @Bool.rec (fun _ => Nat → Option ex_C) (fun pc => @Bool.rec (fun _ => Option ex_C) none (some k66_101) (Nat.beq pc 101)) (fun pc => @Bool.rec (fun _ => Option ex_C) none (some k66_98) (Nat.beq pc 98)) (Nat.ble pc 98) pc) (fun pc => @Bool.rec (fun _ => Nat → Option ex_C) (fun pc => @Bool.rec (fun _ => Option ex_C) none (some k66_91) (Nat.beq pc 91)) (fun pc => @Bool.rec (fun _ => Option ex_C) none (some k66_83) (Nat.beq pc 83)) (Nat.ble pc 83) pc) (Nat.ble pc 91) pc) (fun pc => @Bool.rec (fun _ => Nat → Option ex_C) (fun pc => @Bool.rec (fun _ => Nat → Option ex_C) (fun pc => @Bool.rec (fun _ => Option ex_C) none (some k66_77) (Nat.beq pc 77)) (fun pc => @Bool.rec (fun _ => Option ex_C) none (some k66_67) (Nat.beq pc 67)) (Nat.ble pc 67) pc) (fun pc => @Bool.rec (fun _ => Nat → Option ex_C) (fun pc => @Bool.rec (fun _ => Option ex_C) none (some k66_66) (Nat.beq pc 66)) (fun pc => @Bool.rec (fun _ => Option ex_C) none (some k66_59) (Nat.beq pc 59)) (Nat.ble pc 59) pc) (Nat.ble pc 66) pc) (Nat.ble pc 77) pc) (fun pc => @Bool.rec (fun _ => Nat → Option ex_C) (fun pc => @Bool.rec (fun _ => Nat → Option ex_C) (fun pc => @Bool.rec (fun _ => Nat → Option ex_C) (fun pc => @Bool.rec (fun _ => Option ex_C) none (some k66_58) (Nat.beq pc 58)) (fun pc => @Bool.rec (fun _ => Option ex_C) none (some k66_30) (Nat.beq pc 30)) (Nat.ble pc 30) pc) (fun pc => @Bool.rec (fun _ => Nat → Option ex_C) (fun pc => @Bool.rec (fun _ => Option ex_C) none (some k66_25) (Nat.beq pc 25)) (fun pc => @Bool.rec (fun _ => Option ex_C) none (some k66_24) (Nat.beq pc 24)) (Nat.ble pc 24) pc) (Nat.ble pc 25) pc) (fun pc => @Bool.rec (fun _ => Nat → Option ex_C) (fun pc => @Bool.rec (fun _ => Nat → Option ex_C) (fun pc => @Bool.rec (fun _ => Option ex_C) none (some k66_17) (Nat.beq pc 17)) (fun pc => @Bool.rec (fun _ => Option ex_C) none (some k66_16) (Nat.beq pc 16)) (Nat.ble pc 16) pc) (fun pc => @Bool.rec (fun _ => Option ex_C) none (some k66_0) (Nat.beq pc 0)) (Nat.ble pc 0) pc) (Nat.ble pc 17) pc) (Nat.ble pc 58) pc
theorem ktE_66 : ex_CTT 15 [] cd_66 kt_66 cd_66 := (ex_ct2 (ex_ct2 (ex_ct2 (ex_ct1 kE66_0) (ex_ct2 (ex_ct1 kE66_16) (ex_ct1 kE66_17))) (ex_ct2 (ex_ct2 (ex_ct1 kE66_24) (ex_ct1 kE66_25)) (ex_ct2 (ex_ct1 kE66_30) (ex_ct1 kE66_58)))) (ex_ct2 (ex_ct2 (ex_ct2 (ex_ct1 kE66_59) (ex_ct1 kE66_66)) (ex_ct2 (ex_ct1 kE66_67) (ex_ct1 kE66_77))) (ex_ct2 (ex_ct2 (ex_ct1 kE66_83) (ex_ct1 kE66_91)) (ex_ct2 (ex_ct1 kE66_98) (ex_ct1 kE66_101)))))
set_option maxHeartbeats 100000 in
def k67_0 : ex_C := c_aload 0 (c_oinit (c_aload 0 (c_psh 16 (c_newarr 65 0 (c_pf 4 5 0 (c_aload 0 (c_psh 16 (c_newarr 65 0 (c_pf 4 5 1 (c_aload 0 (c_psh 16 (c_newarr 64 0 (c_pf 4 5 2 (c_aload 0 (c_psh 16 (c_newarr 64 0 (c_pf 4 5 3 (c_aload 0 (c_psh 16 (c_newarr 64 0 (c_pf 4 5 4 (c_aload 0 (c_psh 16 (c_newarr 64 0 (c_pf 4 5 5 (c_aload 0 (c_psh 16 (c_newarr 65 0 (c_pf 4 5 6 (c_aload 0 (c_psh 16 (c_newarr 64 0 (c_pf 4 5 7 (c_aload 0 (c_psh 16 (c_newarr 64 0 (c_pf 4 5 8 (c_aload 0 (c_psh 2 (c_pf 4 0 9 (c_aload 0 (c_psh 0 (c_pf 4 1 10 (c_aload 0 (c_psh 0 (c_pf 4 1 11 (c_return_  15)))))))))))))))))))))))))))))))))))))))))))))))
set_option maxHeartbeats 100000 in
theorem kE67_0 : ex_CE 15 [] cd_67 k67_0 q67_0 := e_aload_aload_n 0 0 0 0 rfl (e_oinit (e_aload_aload_n 4 0 0 0 rfl (e_psh_bipush 5 16 16 (e_newarr 7 65 0 rfl (e_pf 9 86272 9 4 5 0 rfl rfl rfl (e_aload_aload_n 12 0 0 0 rfl (e_psh_bipush 13 16 16 (e_newarr 15 65 0 rfl (e_pf 17 86273 15 4 5 1 rfl rfl rfl (e_aload_aload_n 20 0 0 0 rfl (e_psh_bipush 21 16 16 (e_newarr 23 64 0 rfl (e_pf 25 86274 18 4 5 2 rfl rfl rfl (e_aload_aload_n 28 0 0 0 rfl (e_psh_bipush 29 16 16 (e_newarr 31 64 0 rfl (e_pf 33 86275 22 4 5 3 rfl rfl rfl (e_aload_aload_n 36 0 0 0 rfl (e_psh_bipush 37 16 16 (e_newarr 39 64 0 rfl (e_pf 41 86276 25 4 5 4 rfl rfl rfl (e_aload_aload_n 44 0 0 0 rfl (e_psh_bipush 45 16 16 (e_newarr 47 64 0 rfl (e_pf 49 86277 28 4 5 5 rfl rfl rfl (e_aload_aload_n 52 0 0 0 rfl (e_psh_bipush 53 16 16 (e_newarr 55 65 0 rfl (e_pf 57 86278 31 4 5 6 rfl rfl rfl (e_aload_aload_n 60 0 0 0 rfl (e_psh_bipush 61 16 16 (e_newarr 63 64 0 rfl (e_pf 65 86279 34 4 5 7 rfl rfl rfl (e_aload_aload_n 68 0 0 0 rfl (e_psh_bipush 69 16 16 (e_newarr 71 64 0 rfl (e_pf 73 86280 37 4 5 8 rfl rfl rfl (e_aload_aload_n 76 0 0 0 rfl (e_psh_iconst 77 2 2 (e_pf 78 265 40 4 0 9 rfl rfl rfl (e_aload_aload_n 81 0 0 0 rfl (e_psh_iconst 82 0 0 (e_pf 83 4362 44 4 1 10 rfl rfl rfl (e_aload_aload_n 86 0 0 0 rfl (e_psh_iconst 87 0 0 (e_pf 88 4363 48 4 1 11 rfl rfl rfl (e_return_ 91 0 )))))))))))))))))))))))))))))))))))))))))))))))
def kt_67 : Nat → Option ex_C := fun pc => @Bool.rec (fun _ => Option ex_C) none (some k67_0) (Nat.beq pc 0)
theorem ktE_67 : ex_CTT 15 [] cd_67 kt_67 cd_67 := (ex_ct1 kE67_0)
end
