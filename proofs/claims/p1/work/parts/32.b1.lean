noncomputable section
set_option maxHeartbeats 100000 in
def k69_0 : ex_C := c_aload 0 (c_iload 1 (c_pf 4 0 9 (c_aload 0 (c_iload 2 (c_pf 4 1 10 (c_aload 0 (c_iload 3 (c_pf 4 1 11 (c_return_  15)))))))))
set_option maxHeartbeats 100000 in
theorem kE69_0 : ex_CE 15 [] cd_69 k69_0 q69_0 := e_aload_aload_n 0 0 0 0 rfl (e_iload_iload_n 1 0 1 1 rfl (e_pf 2 265 40 4 0 9 rfl rfl rfl (e_aload_aload_n 5 0 0 0 rfl (e_iload_iload_n 6 0 2 2 rfl (e_pf 7 4362 44 4 1 10 rfl rfl rfl (e_aload_aload_n 10 0 0 0 rfl (e_iload_iload_n 11 0 3 3 rfl (e_pf 12 4363 48 4 1 11 rfl rfl rfl (e_return_ 15 0 )))))))))
def kt_69 : Nat → Option ex_C := fun pc => @Bool.rec (fun _ => Option ex_C) none (some k69_0) (Nat.beq pc 0)
theorem ktE_69 : ex_CTT 15 [] cd_69 kt_69 cd_69 := (ex_ct1 kE69_0)
set_option maxHeartbeats 100000 in
def k70_163 : ex_C := c_ireturn  1
set_option maxHeartbeats 100000 in
theorem kE70_163 : ex_CE 1 [] cd_70 k70_163 q70_163 := e_ireturn 163 0 
set_option maxHeartbeats 100000 in
def k70_162 : ex_C := c_psh 0 (k70_163)
set_option maxHeartbeats 100000 in
theorem kE70_162 : ex_CE 1 [] cd_70 k70_162 q70_162 := e_psh_iconst 162 0 0 (kE70_163)
set_option maxHeartbeats 100000 in
def k70_149 : ex_C := c_iload 3 (c_if_eq 162 (c_iload 4 (c_if_ne 162 (c_psh 1 (c_goto 163)))))
set_option maxHeartbeats 100000 in
theorem kE70_149 : ex_CE 1 [] cd_70 k70_149 q70_149 := e_iload_iload_n 149 0 3 3 rfl (e_if_eq 150 162 12 (e_iload_iload 153 0 4 (e_if_ne 155 162 7 (e_psh_iconst 158 1 1 (e_goto 159 163 4)))))
set_option maxHeartbeats 100000 in
def k70_142 : ex_C := c_istore 3 (c_iinc 5 1 (c_goto 8))
set_option maxHeartbeats 100000 in
theorem kE70_142 : ex_CE 1 [] cd_70 k70_142 q70_142 := e_istore_istore_n 142 0 3 3 rfl (e_iinc 143 1 5 1 (e_goto 146 8 (-138)))
set_option maxHeartbeats 100000 in
def k70_141 : ex_C := c_psh 0 (k70_142)
set_option maxHeartbeats 100000 in
theorem kE70_141 : ex_CE 1 [] cd_70 k70_141 q70_141 := e_psh_iconst 141 0 0 (kE70_142)
set_option maxHeartbeats 100000 in
def k70_137 : ex_C := c_psh 1 (c_goto 142)
set_option maxHeartbeats 100000 in
theorem kE70_137 : ex_CE 1 [] cd_70 k70_137 q70_137 := e_psh_iconst 137 1 1 (e_goto 138 142 4)
set_option maxHeartbeats 100000 in
def k70_122 : ex_C := c_bastore (c_iload 3 (c_if_ne 137 (c_aload 0 (c_gf 4 0 (c_iload 5 (c_baload (c_if_eq 141 (k70_137))))))))
set_option maxHeartbeats 100000 in
theorem kE70_122 : ex_CE 1 [] cd_70 k70_122 q70_122 := e_bastore 122 0 (e_iload_iload_n 123 0 3 3 rfl (e_if_ne 124 137 13 (e_aload_aload_n 127 0 0 0 rfl (e_gf 128 86272 9 4 0 rfl rfl (e_iload_iload 131 0 5 (e_baload 133 0 (e_if_eq 134 141 7 (kE70_137))))))))
set_option maxHeartbeats 100000 in
def k70_121 : ex_C := c_psh 0 (k70_122)
set_option maxHeartbeats 100000 in
theorem kE70_121 : ex_CE 1 [] cd_70 k70_121 q70_121 := e_psh_iconst 121 0 0 (kE70_122)
set_option maxHeartbeats 100000 in
def k70_114 : ex_C := c_icmp_ne 121 (c_psh 1 (c_goto 122))
set_option maxHeartbeats 100000 in
theorem kE70_114 : ex_CE 1 [] cd_70 k70_114 q70_114 := e_icmp_ne 114 121 7 (e_psh_iconst 117 1 1 (e_goto 118 122 4))
set_option maxHeartbeats 100000 in
def k70_113 : ex_C := c_psh 0 (k70_114)
set_option maxHeartbeats 100000 in
theorem kE70_113 : ex_CE 1 [] cd_70 k70_113 q70_113 := e_psh_iconst 113 0 0 (kE70_114)
set_option maxHeartbeats 100000 in
def k70_104 : ex_C := c_iload 2 (c_psh 5 (c_icmp_ne 113 (c_psh 1 (c_goto 114))))
set_option maxHeartbeats 100000 in
theorem kE70_104 : ex_CE 1 [] cd_70 k70_104 q70_104 := e_iload_iload_n 104 0 2 2 rfl (e_psh_iconst 105 5 5 (e_icmp_ne 106 113 7 (e_psh_iconst 109 1 1 (e_goto 110 114 4))))
set_option maxHeartbeats 100000 in
def k70_103 : ex_C := c_psh 0 (k70_104)
set_option maxHeartbeats 100000 in
theorem kE70_103 : ex_CE 1 [] cd_70 k70_103 q70_103 := e_psh_iconst 103 0 0 (kE70_104)
set_option maxHeartbeats 100000 in
def k70_94 : ex_C := c_iload 6 (c_if_le 103 (c_psh 1 (c_goto 104)))
set_option maxHeartbeats 100000 in
theorem kE70_94 : ex_CE 1 [] cd_70 k70_94 q70_94 := e_iload_iload 94 0 6 (e_if_le 96 103 7 (e_psh_iconst 99 1 1 (e_goto 100 104 4)))
set_option maxHeartbeats 100000 in
def k70_76 : ex_C := c_istore 7 (c_aload 0 (c_gf 4 0 (c_iload 5 (c_iload 2 (c_psh 5 (c_icmp_ge 94 (c_iload 7 (c_goto 122))))))))
set_option maxHeartbeats 100000 in
theorem kE70_76 : ex_CE 1 [] cd_70 k70_76 q70_76 := e_istore_istore 76 0 7 (e_aload_aload_n 78 0 0 0 rfl (e_gf 79 86272 9 4 0 rfl rfl (e_iload_iload 82 0 5 (e_iload_iload_n 84 0 2 2 rfl (e_psh_iconst 85 5 5 (e_icmp_ge 86 94 8 (e_iload_iload 89 0 7 (e_goto 91 122 31))))))))
set_option maxHeartbeats 100000 in
def k70_75 : ex_C := c_psh 0 (k70_76)
set_option maxHeartbeats 100000 in
theorem kE70_75 : ex_CE 1 [] cd_70 k70_75 q70_75 := e_psh_iconst 75 0 0 (kE70_76)
set_option maxHeartbeats 100000 in
def k70_71 : ex_C := c_psh 1 (c_goto 76)
set_option maxHeartbeats 100000 in
theorem kE70_71 : ex_CE 1 [] cd_70 k70_71 q70_71 := e_psh_iconst 71 1 1 (e_goto 72 76 4)
set_option maxHeartbeats 100000 in
def k70_50 : ex_C := c_istore 4 (c_iload 2 (c_if_eq 71 (c_aload 1 (c_gf 3 5 (c_iload 5 (c_iaload (c_iload 2 (c_invS [] cd_70 64 1 12 (c_iand (c_if_eq 75 (k70_71)))))))))))
set_option maxHeartbeats 100000 in
theorem kE70_50 : ex_CE 1 [] cd_70 k70_50 q70_50 := e_istore_istore 50 0 4 (e_iload_iload_n 52 0 2 2 rfl (e_if_eq 53 71 18 (e_aload_aload_n 56 0 1 1 rfl (e_gf 57 86213 60 3 5 rfl rfl (e_iload_iload 60 0 5 (e_iaload 62 0 (e_iload_iload_n 63 0 2 2 rfl (e_invS 64 237537 63 1 12 rfl rfl rfl (e_iand 67 0 (e_if_eq 68 75 7 (kE70_71)))))))))))
set_option maxHeartbeats 100000 in
def k70_49 : ex_C := c_psh 0 (k70_50)
set_option maxHeartbeats 100000 in
theorem kE70_49 : ex_CE 1 [] cd_70 k70_49 q70_49 := e_psh_iconst 49 0 0 (kE70_50)
set_option maxHeartbeats 100000 in
def k70_45 : ex_C := c_psh 1 (c_goto 50)
set_option maxHeartbeats 100000 in
theorem kE70_45 : ex_CE 1 [] cd_70 k70_45 q70_45 := e_psh_iconst 45 1 1 (e_goto 46 50 4)
set_option maxHeartbeats 100000 in
def k70_33 : ex_C := c_istore 6 (c_iload 4 (c_if_ne 45 (c_iload 6 (c_if_ne 49 (k70_45)))))
set_option maxHeartbeats 100000 in
theorem kE70_33 : ex_CE 1 [] cd_70 k70_33 q70_33 := e_istore_istore 33 0 6 (e_iload_iload 35 0 4 (e_if_ne 37 45 8 (e_iload_iload 40 0 6 (e_if_ne 42 49 7 (kE70_45)))))
set_option maxHeartbeats 100000 in
def k70_26 : ex_C := c_aload 0 (c_aload 1 (c_iload 5 (c_invV [] cd_70 30 3 71 4 (k70_33))))
set_option maxHeartbeats 100000 in
theorem kE70_26 : ex_CE 1 [] cd_70 k70_26 q70_26 := e_aload_aload_n 26 0 0 0 rfl (e_aload_aload_n 27 0 1 1 rfl (e_iload_iload 28 0 5 (e_invV_invokevirtual 30 712835 56 3 71 4 rfl rfl rfl rfl rfl rfl (kE70_33))))
set_option maxHeartbeats 100000 in
def k70_8 : ex_C := c_iload 5 (c_aload 1 (c_gf 3 14 (c_icmp_ge 149 (c_iload 2 (c_psh 5 (c_icmp_ge 26 (c_psh 1 (c_goto 33))))))))
set_option maxHeartbeats 100000 in
theorem kE70_8 : ex_CE 1 [] cd_70 k70_8 q70_8 := e_iload_iload 8 0 5 (e_aload_aload_n 10 0 1 1 rfl (e_gf 11 206 51 3 14 rfl rfl (e_icmp_ge 14 149 135 (e_iload_iload_n 17 0 2 2 rfl (e_psh_iconst 18 5 5 (e_icmp_ge 19 26 7 (e_psh_iconst 22 1 1 (e_goto 23 33 10))))))))
set_option maxHeartbeats 100000 in
def k70_0 : ex_C := c_psh 0 (c_istore 3 (c_psh 0 (c_istore 4 (c_psh 0 (c_istore 5 (k70_8))))))
set_option maxHeartbeats 100000 in
theorem kE70_0 : ex_CE 1 [] cd_70 k70_0 q70_0 := e_psh_iconst 0 0 0 (e_istore_istore_n 1 0 3 3 rfl (e_psh_iconst 2 0 0 (e_istore_istore 3 0 4 (e_psh_iconst 5 0 0 (e_istore_istore 6 0 5 (kE70_8))))))
def kt_70 : Nat → Option ex_C := fun pc => @Bool.rec (fun _ => Nat → Option ex_C) (fun pc => @Bool.rec (fun _ => Nat → Option ex_C) (fun pc => @Bool.rec (fun _ => Nat → Option ex_C) (fun pc => @Bool.rec (fun _ => Nat → Option ex_C) (fun pc => @Bool.rec (fun _ => Nat → Option ex_C) (fun pc => @Bool.rec (fun _ => Option ex_C) none (some k70_163) (Nat.beq pc 163)) (fun pc => @Bool.rec (fun _ => Option ex_C) none (some k70_162) (Nat.beq pc 162)) (Nat.ble pc 162) pc) (fun pc => @Bool.rec (fun _ => Option ex_C) none (some k70_149) (Nat.beq pc 149)) (Nat.ble pc 149) pc) (fun pc => @Bool.rec (fun _ => Nat → Option ex_C) (fun pc => @Bool.rec (fun _ => Nat → Option ex_C) (fun pc => @Bool.rec (fun _ => Option ex_C) none (some k70_142) (Nat.beq pc 142)) (fun pc => @Bool.rec (fun _ => Option ex_C) none (some k70_141) (Nat.beq pc 141)) (Nat.ble pc 141) pc) (fun pc => @Bool.rec (fun _ => Option ex_C) none (some k70_137) (Nat.beq pc 137)) (Nat.ble pc 137) pc) (Nat.ble pc 142) pc) (fun pc => @Bool.rec (fun _ => Nat → Option ex_C) (fun pc => @Bool.rec (fun _ => Nat → Option ex_C) (fun pc => @Bool.rec (fun _ => Nat → Option ex_C) (fun pc => @Bool.rec (fun _ => Option ex_C) none (some k70_122) (Nat.beq pc 122)) (fun pc => @Bool.rec (fun _ => Option ex_C) none (some k70_121) (Nat.beq pc 121)) (Nat.ble pc 121) pc) (fun pc => @Bool.rec (fun _ => Option ex_C) none (some k70_114) (Nat.beq pc 114)) (Nat.ble pc 114) pc) (fun pc => @Bool.rec (fun _ => Nat → Option ex_C) (fun pc => @Bool.rec (fun _ => Nat → Option ex_C) (fun pc => @Bool.rec (fun _ => Option ex_C) none (some k70_113) (Nat.beq pc 113)) (fun pc => @Bool.rec (fun _ => Option ex_C) none (some k70_104) (Nat.beq pc 104)) (Nat.ble pc 104) pc) (fun pc => @Bool.rec (fun _ => Option ex_C) none (some k70_103) (Nat.beq pc 103)) (Nat.ble pc 103) pc) (Nat.ble pc 113) pc) (Nat.ble pc 122) pc) (fun pc => @Bool.rec (fun _ => Nat → Option ex_C) (fun pc => @Bool.rec (fun _ => Nat → Option ex_C) (fun pc => @Bool.rec (fun _ => Nat → Option ex_C) (fun pc => @Bool.rec (fun _ => Nat → Option ex_C) (fun pc => @Bool.rec (fun _ => Option ex_C) none (some k70_94) (Nat.beq pc 94)) (fun pc => @Bool.rec (fun _ => Option ex_C) none (some k70_76) (Nat.beq pc 76)) (Nat.ble pc 76) pc) (fun pc => @Bool.rec (fun _ => Option ex_C) none (some k70_75) (Nat.beq pc 75)) (Nat.ble pc 75) pc) (fun pc => @Bool.rec (fun _ => Nat → Option ex_C) (fun pc => @Bool.rec (fun _ => Nat → Option ex_C) (fun pc => @Bool.rec (fun _ => Option ex_C) none (some k70_71) (Nat.beq pc 71)) (fun pc => @Bool.rec (fun _ => Option ex_C) none (some k70_50) (Nat.beq pc 50)) (Nat.ble pc 50) pc) (fun pc => @Bool.rec (fun _ => Option ex_C) none (some k70_49) (Nat.beq pc 49)) (Nat.ble pc 49) pc) (Nat.ble pc 71) pc) (fun pc => @Bool.rec (fun _ => Nat → Option ex_C) (fun pc => @Bool.rec (fun _ => Nat → Option ex_C) (fun pc => @Bool.rec (fun _ => Nat → Option ex_C) (fun pc => @Bool.rec (fun _ => Option ex_C) none (some k70_45) (Nat.beq pc 45)) (fun pc => @Bool.rec (fun _ => Option ex_C) none (some k70_33) (Nat.beq pc 33)) (Nat.ble pc 33) pc) (fun pc => @Bool.rec (fun _ => Option ex_C) none (some k70_26) (Nat.beq pc 26)) (Nat.ble pc 26) pc) (fun pc => @Bool.rec (fun _ => Nat → Option ex_C) (fun pc => @Bool.rec (fun _ => Option ex_C) none (some k70_8) (Nat.beq pc 8)) (fun pc => @Bool.rec (fun _ => Option ex_C) none (some k70_0) (Nat.beq pc 0)) (Nat.ble pc 0) pc) (Nat.ble pc 8) pc) (Nat.ble pc 45) pc) (Nat.ble pc 94) pc
theorem ktE_70 : ex_CTT 1 [] cd_70 kt_70 cd_70 := (ex_ct2 (ex_ct2 (ex_ct2 (ex_ct2 (ex_ct1 kE70_0) (ex_ct1 kE70_8)) (ex_ct2 (ex_ct1 kE70_26) (ex_ct2 (ex_ct1 kE70_33) (ex_ct1 kE70_45)))) (ex_ct2 (ex_ct2 (ex_ct1 kE70_49) (ex_ct2 (ex_ct1 kE70_50) (ex_ct1 kE70_71))) (ex_ct2 (ex_ct1 kE70_75) (ex_ct2 (ex_ct1 kE70_76) (ex_ct1 kE70_94))))) (ex_ct2 (ex_ct2 (ex_ct2 (ex_ct1 kE70_103) (ex_ct2 (ex_ct1 kE70_104) (ex_ct1 kE70_113))) (ex_ct2 (ex_ct1 kE70_114) (ex_ct2 (ex_ct1 kE70_121) (ex_ct1 kE70_122)))) (ex_ct2 (ex_ct2 (ex_ct1 kE70_137) (ex_ct2 (ex_ct1 kE70_141) (ex_ct1 kE70_142))) (ex_ct2 (ex_ct1 kE70_149) (ex_ct2 (ex_ct1 kE70_162) (ex_ct1 kE70_163))))))
set_option maxHeartbeats 100000 in
def k71_130 : ex_C := c_ireturn  0
set_option maxHeartbeats 100000 in
theorem kE71_130 : ex_CE 0 [] cd_71 k71_130 q71_130 := e_ireturn 130 0 
set_option maxHeartbeats 100000 in
def k71_129 : ex_C := c_psh 0 (k71_130)
set_option maxHeartbeats 100000 in
theorem kE71_129 : ex_CE 0 [] cd_71 k71_129 q71_129 := e_psh_iconst 129 0 0 (kE71_130)
set_option maxHeartbeats 100000 in
def k71_119 : ex_C := c_iload 5 (c_iload 3 (c_icmp_lt 129 (c_psh 4294967295 (c_goto 130))))
set_option maxHeartbeats 100000 in
theorem kE71_119 : ex_CE 0 [] cd_71 k71_119 q71_119 := e_iload_iload 119 0 5 (e_iload_iload_n 121 0 3 3 rfl (e_icmp_lt 122 129 7 (e_psh_iconst 125 4294967295 (-1) (e_goto 126 130 4))))
set_option maxHeartbeats 100000 in
def k71_109 : ex_C := c_iload 6 (c_iload 3 (c_icmp_gt 119 (c_psh 1 (c_goto 130))))
set_option maxHeartbeats 100000 in
theorem kE71_109 : ex_CE 0 [] cd_71 k71_109 q71_109 := e_iload_iload 109 0 6 (e_iload_iload_n 111 0 3 3 rfl (e_icmp_gt 112 119 7 (e_psh_iconst 115 1 1 (e_goto 116 130 14))))
set_option maxHeartbeats 100000 in
def k71_100 : ex_C := c_iadd (c_istore 6 (c_iinc 7 1 (c_goto 37)))
set_option maxHeartbeats 100000 in
theorem kE71_100 : ex_CE 0 [] cd_71 k71_100 q71_100 := e_iadd 100 0 (e_istore_istore 101 0 6 (e_iinc 103 1 7 1 (e_goto 106 37 (-69))))
set_option maxHeartbeats 100000 in
def k71_99 : ex_C := c_psh 0 (k71_100)
set_option maxHeartbeats 100000 in
theorem kE71_99 : ex_CE 0 [] cd_71 k71_99 q71_99 := e_psh_iconst 99 0 0 (kE71_100)
set_option maxHeartbeats 100000 in
def k71_83 : ex_C := c_iadd (c_istore 5 (c_iload 6 (c_iload 8 (c_iload 4 (c_icmp_gt 99 (c_psh 1 (c_goto 100)))))))
set_option maxHeartbeats 100000 in
theorem kE71_83 : ex_CE 0 [] cd_71 k71_83 q71_83 := e_iadd 83 0 (e_istore_istore 84 0 5 (e_iload_iload 86 0 6 (e_iload_iload 88 0 8 (e_iload_iload 90 0 4 (e_icmp_gt 92 99 7 (e_psh_iconst 95 1 1 (e_goto 96 100 4)))))))
set_option maxHeartbeats 100000 in
def k71_82 : ex_C := c_psh 0 (k71_83)
set_option maxHeartbeats 100000 in
theorem kE71_82 : ex_CE 0 [] cd_71 k71_82 q71_82 := e_psh_iconst 82 0 0 (kE71_83)
set_option maxHeartbeats 100000 in
def k71_37 : ex_C := c_iload 7 (c_aload 1 (c_gf 3 14 (c_icmp_ge 109 (c_aload 1 (c_gf 3 0 (c_iload 7 (c_iaload (c_invS [] cd_71 53 1 299 (c_aload 1 (c_gf 3 1 (c_iload 7 (c_iaload (c_invS [] cd_71 63 1 299 (c_iadd (c_istore 8 (c_iload 5 (c_iload 8 (c_iload 4 (c_icmp_ge 82 (c_psh 1 (c_goto 83)))))))))))))))))))))
set_option maxHeartbeats 100000 in
theorem kE71_37 : ex_CE 0 [] cd_71 k71_37 q71_37 := e_iload_iload 37 0 7 (e_aload_aload_n 39 0 1 1 rfl (e_gf 40 206 51 3 14 rfl rfl (e_icmp_ge 43 109 66 (e_aload_aload_n 46 0 1 1 rfl (e_gf 47 86208 67 3 0 rfl rfl (e_iload_iload 50 0 7 (e_iaload 52 0 (e_invS 53 2588641 70 1 299 rfl rfl rfl (e_aload_aload_n 56 0 1 1 rfl (e_gf 57 86209 75 3 1 rfl rfl (e_iload_iload 60 0 7 (e_iaload 62 0 (e_invS 63 2588641 70 1 299 rfl rfl rfl (e_iadd 66 0 (e_istore_istore 67 0 8 (e_iload_iload 69 0 5 (e_iload_iload 71 0 8 (e_iload_iload 73 0 4 (e_icmp_ge 75 82 7 (e_psh_iconst 78 1 1 (e_goto 79 83 4)))))))))))))))))))))
set_option maxHeartbeats 100000 in
def k71_0 : ex_C := c_aload 1 (c_gf 3 14 (c_psh 2 (c_idiv   (c_istore 3 (c_aload 1 (c_gf 3 0 (c_iload 2 (c_iaload (c_invS [] cd_71 13 1 299 (c_aload 1 (c_gf 3 1 (c_iload 2 (c_iaload (c_invS [] cd_71 22 1 299 (c_iadd (c_istore 4 (c_psh 0 (c_istore 5 (c_psh 0 (c_istore 6 (c_psh 0 (c_istore 7 (k71_37)))))))))))))))))))))))
set_option maxHeartbeats 100000 in
theorem kE71_0 : ex_CE 0 [] cd_71 k71_0 q71_0 := e_aload_aload_n 0 0 1 1 rfl (e_gf 1 206 51 3 14 rfl rfl (e_psh_iconst 4 2 2 (e_idiv 5 0  (e_istore_istore_n 6 0 3 3 rfl (e_aload_aload_n 7 0 1 1 rfl (e_gf 8 86208 67 3 0 rfl rfl (e_iload_iload_n 11 0 2 2 rfl (e_iaload 12 0 (e_invS 13 2588641 70 1 299 rfl rfl rfl (e_aload_aload_n 16 0 1 1 rfl (e_gf 17 86209 75 3 1 rfl rfl (e_iload_iload_n 20 0 2 2 rfl (e_iaload 21 0 (e_invS 22 2588641 70 1 299 rfl rfl rfl (e_iadd 25 0 (e_istore_istore 26 0 4 (e_psh_iconst 28 0 0 (e_istore_istore 29 0 5 (e_psh_iconst 31 0 0 (e_istore_istore 32 0 6 (e_psh_iconst 34 0 0 (e_istore_istore 35 0 7 (kE71_37)))))))))))))))))))))))
def kt_71 : Nat → Option ex_C := fun pc => @Bool.rec (fun _ => Nat → Option ex_C) (fun pc => @Bool.rec (fun _ => Nat → Option ex_C) (fun pc => @Bool.rec (fun _ => Nat → Option ex_C) (fun pc => @Bool.rec (fun _ => Nat → Option ex_C) (fun pc => @Bool.rec (fun _ => Option ex_C) none (some k71_130) (Nat.beq pc 130)) (fun pc => @Bool.rec (fun _ => Option ex_C) none (some k71_129) (Nat.beq pc 129)) (Nat.ble pc 129) pc) (fun pc => @Bool.rec (fun _ => Option ex_C) none (some k71_119) (Nat.beq pc 119)) (Nat.ble pc 119) pc) (fun pc => @Bool.rec (fun _ => Nat → Option ex_C) (fun pc => @Bool.rec (fun _ => Option ex_C) none (some k71_109) (Nat.beq pc 109)) (fun pc => @Bool.rec (fun _ => Option ex_C) none (some k71_100) (Nat.beq pc 100)) (Nat.ble pc 100) pc) (Nat.ble pc 109) pc) (fun pc => @Bool.rec (fun _ => Nat → Option ex_C) (fun pc => @Bool.rec (fun _ => Nat → Option ex_C) (fun pc => @Bool.rec (fun _ => Nat → Option ex_C) (fun pc => @Bool.rec (fun _ => Option ex_C) none (some k71_99) (Nat.beq pc 99)) (fun pc => @Bool.rec (fun _ => Option ex_C) none (some k71_83) (Nat.beq pc 83)) (Nat.ble pc 83) pc) (fun pc => @Bool.rec (fun _ => Option ex_C) none (some k71_82) (Nat.beq pc 82)) (Nat.ble pc 82) pc) (fun pc => @Bool.rec (fun _ => Nat → Option ex_C) (fun pc => @Bool.rec (fun _ => Option ex_C) none (some k71_37) (Nat.beq pc 37)) (fun pc => @Bool.rec (fun _ => Option ex_C) none (some k71_0) (Nat.beq pc 0)) (Nat.ble pc 0) pc) (Nat.ble pc 37) pc) (Nat.ble pc 99) pc
theorem ktE_71 : ex_CTT 0 [] cd_71 kt_71 cd_71 := (ex_ct2 (ex_ct2 (ex_ct2 (ex_ct1 kE71_0) (ex_ct1 kE71_37)) (ex_ct2 (ex_ct1 kE71_82) (ex_ct2 (ex_ct1 kE71_83) (ex_ct1 kE71_99)))) (ex_ct2 (ex_ct2 (ex_ct1 kE71_100) (ex_ct1 kE71_109)) (ex_ct2 (ex_ct1 kE71_119) (ex_ct2 (ex_ct1 kE71_129) (ex_ct1 kE71_130)))))
set_option maxHeartbeats 100000 in
def k72_109 : ex_C := c_return_  15
set_option maxHeartbeats 100000 in
theorem kE72_109 : ex_CE 15 [] cd_72 k72_109 q72_109 := e_return_ 109 0 
set_option maxHeartbeats 100000 in
def k72_106 : ex_C := c_invV [] cd_72 106 3 76 4 (k72_109)
set_option maxHeartbeats 100000 in
theorem kE72_106 : ex_CE 15 [] cd_72 k72_106 q72_106 := e_invV_invokevirtual 106 753795 94 3 76 4 rfl rfl rfl rfl rfl rfl (kE72_109)
set_option maxHeartbeats 100000 in
def k72_105 : ex_C := c_psh 0 (k72_106)
set_option maxHeartbeats 100000 in
theorem kE72_105 : ex_CE 15 [] cd_72 k72_105 q72_105 := e_psh_iconst 105 0 0 (kE72_106)
set_option maxHeartbeats 100000 in
def k72_87 : ex_C := c_iload 2 (c_psh 6 (c_icmp_lt 109 (c_aload 0 (c_aload 1 (c_iload 2 (c_psh 12 (c_icmp_ne 105 (c_psh 1 (c_goto 106)))))))))
set_option maxHeartbeats 100000 in
theorem kE72_87 : ex_CE 15 [] cd_72 k72_87 q72_87 := e_iload_iload_n 87 0 2 2 rfl (e_psh_bipush 88 6 6 (e_icmp_lt 90 109 19 (e_aload_aload_n 93 0 0 0 rfl (e_aload_aload_n 94 0 1 1 rfl (e_iload_iload_n 95 0 2 2 rfl (e_psh_bipush 96 12 12 (e_icmp_ne 98 105 7 (e_psh_iconst 101 1 1 (e_goto 102 106 4)))))))))
set_option maxHeartbeats 100000 in
def k72_73 : ex_C := c_iload 2 (c_psh 11 (c_icmp_ne 87 (c_aload 0 (c_aload 1 (c_invV [] cd_72 81 2 80 4 (c_goto 109))))))
set_option maxHeartbeats 100000 in
theorem kE72_73 : ex_CE 15 [] cd_72 k72_73 q72_73 := e_iload_iload_n 73 0 2 2 rfl (e_psh_bipush 74 11 11 (e_icmp_ne 76 87 11 (e_aload_aload_n 79 0 0 0 rfl (e_aload_aload_n 80 0 1 1 rfl (e_invV_invokevirtual 81 786562 91 2 80 4 rfl rfl rfl rfl rfl rfl (e_goto 84 109 25))))))
set_option maxHeartbeats 100000 in
def k72_65 : ex_C := c_aload 0 (c_aload 1 (c_invV [] cd_72 67 2 75 4 (c_goto 109)))
set_option maxHeartbeats 100000 in
theorem kE72_65 : ex_CE 15 [] cd_72 k72_65 q72_65 := e_aload_aload_n 65 0 0 0 rfl (e_aload_aload_n 66 0 1 1 rfl (e_invV_invokevirtual 67 745602 88 2 75 4 rfl rfl rfl rfl rfl rfl (e_goto 70 109 39)))
set_option maxHeartbeats 100000 in
def k72_50 : ex_C := c_aload 0 (c_aload 1 (c_invV [] cd_72 52 2 73 4 (c_iload 2 (c_psh 4 (c_icmp_eq 65 (c_iload 2 (c_psh 5 (c_icmp_ne 73 (k72_65)))))))))
set_option maxHeartbeats 100000 in
theorem kE72_50 : ex_CE 15 [] cd_72 k72_50 q72_50 := e_aload_aload_n 50 0 0 0 rfl (e_aload_aload_n 51 0 1 1 rfl (e_invV_invokevirtual 52 729218 84 2 73 4 rfl rfl rfl rfl rfl rfl (e_iload_iload_n 55 0 2 2 rfl (e_psh_iconst 56 4 4 (e_icmp_eq 57 65 8 (e_iload_iload_n 60 0 2 2 rfl (e_psh_iconst 61 5 5 (e_icmp_ne 62 73 11 (kE72_65)))))))))
set_option maxHeartbeats 100000 in
def k72_43 : ex_C := c_bastore (c_iinc 3 1 (c_goto 2))
set_option maxHeartbeats 100000 in
theorem kE72_43 : ex_CE 15 [] cd_72 k72_43 q72_43 := e_bastore 43 0 (e_iinc 44 1 3 1 (e_goto 47 2 (-45)))
set_option maxHeartbeats 100000 in
def k72_42 : ex_C := c_psh 0 (k72_43)
set_option maxHeartbeats 100000 in
theorem kE72_42 : ex_CE 15 [] cd_72 k72_42 q72_42 := e_psh_iconst 42 0 0 (kE72_43)
set_option maxHeartbeats 100000 in
def k72_2 : ex_C := c_iload 3 (c_aload 1 (c_gf 3 14 (c_icmp_ge 50 (c_aload 0 (c_gf 4 1 (c_iload 3 (c_aload 0 (c_gf 4 0 (c_iload 3 (c_baload (c_if_eq 42 (c_aload 1 (c_gf 3 4 (c_iload 3 (c_iaload (c_psh 17179869185 (c_iload 2 (c_iaload (c_icmp_lt 42 (c_psh 1 (c_goto 43)))))))))))))))))))))
set_option maxHeartbeats 100000 in
theorem kE72_2 : ex_CE 15 [] cd_72 k72_2 q72_2 := e_iload_iload_n 2 0 3 3 rfl (e_aload_aload_n 3 0 1 1 rfl (e_gf 4 206 51 3 14 rfl rfl (e_icmp_ge 7 50 43 (e_aload_aload_n 10 0 0 0 rfl (e_gf 11 86273 15 4 1 rfl rfl (e_iload_iload_n 14 0 3 3 rfl (e_aload_aload_n 15 0 0 0 rfl (e_gf 16 86272 9 4 0 rfl rfl (e_iload_iload_n 19 0 3 3 rfl (e_baload 20 0 (e_if_eq 21 42 21 (e_aload_aload_n 24 0 1 1 rfl (e_gf 25 86212 78 3 4 rfl rfl (e_iload_iload_n 28 0 3 3 rfl (e_iaload 29 0 (e_psh_getstatic 30 17179869185 81 (e_iload_iload_n 33 0 2 2 rfl (e_iaload 34 0 (e_icmp_lt 35 42 7 (e_psh_iconst 38 1 1 (e_goto 39 43 4)))))))))))))))))))))
set_option maxHeartbeats 100000 in
def k72_0 : ex_C := c_psh 0 (c_istore 3 (k72_2))
set_option maxHeartbeats 100000 in
theorem kE72_0 : ex_CE 15 [] cd_72 k72_0 q72_0 := e_psh_iconst 0 0 0 (e_istore_istore_n 1 0 3 3 rfl (kE72_2))
def kt_72 : Nat → Option ex_C := fun pc => @Bool.rec (fun _ => Nat → Option ex_C) (fun pc => @Bool.rec (fun _ => Nat → Option ex_C) (fun pc => @Bool.rec (fun _ => Nat → Option ex_C) (fun pc => @Bool.rec (fun _ => Nat → Option ex_C) (fun pc => @Bool.rec (fun _ => Option ex_C) none (some k72_109) (Nat.beq pc 109)) (fun pc => @Bool.rec (fun _ => Option ex_C) none (some k72_106) (Nat.beq pc 106)) (Nat.ble pc 106) pc) (fun pc => @Bool.rec (fun _ => Option ex_C) none (some k72_105) (Nat.beq pc 105)) (Nat.ble pc 105) pc) (fun pc => @Bool.rec (fun _ => Nat → Option ex_C) (fun pc => @Bool.rec (fun _ => Nat → Option ex_C) (fun pc => @Bool.rec (fun _ => Option ex_C) none (some k72_87) (Nat.beq pc 87)) (fun pc => @Bool.rec (fun _ => Option ex_C) none (some k72_73) (Nat.beq pc 73)) (Nat.ble pc 73) pc) (fun pc => @Bool.rec (fun _ => Option ex_C) none (some k72_65) (Nat.beq pc 65)) (Nat.ble pc 65) pc) (Nat.ble pc 87) pc) (fun pc => @Bool.rec (fun _ => Nat → Option ex_C) (fun pc => @Bool.rec (fun _ => Nat → Option ex_C) (fun pc => @Bool.rec (fun _ => Nat → Option ex_C) (fun pc => @Bool.rec (fun _ => Option ex_C) none (some k72_50) (Nat.beq pc 50)) (fun pc => @Bool.rec (fun _ => Option ex_C) none (some k72_43) (Nat.beq pc 43)) (Nat.ble pc 43) pc) (fun pc => @Bool.rec (fun _ => Option ex_C) none (some k72_42) (Nat.beq pc 42)) (Nat.ble pc 42) pc) (fun pc => @Bool.rec (fun _ => Nat → Option ex_C) (fun pc => @Bool.rec (fun _ => Option ex_C) none (some k72_2) (Nat.beq pc 2)) (fun pc => @Bool.rec (fun _ => Option ex_C) none (some k72_0) (Nat.beq pc 0)) (Nat.ble pc 0) pc) (Nat.ble pc 2) pc) (Nat.ble pc 50) pc
theorem ktE_72 : ex_CTT 15 [] cd_72 kt_72 cd_72 := (ex_ct2 (ex_ct2 (ex_ct2 (ex_ct1 kE72_0) (ex_ct1 kE72_2)) (ex_ct2 (ex_ct1 kE72_42) (ex_ct2 (ex_ct1 kE72_43) (ex_ct1 kE72_50)))) (ex_ct2 (ex_ct2 (ex_ct1 kE72_65) (ex_ct2 (ex_ct1 kE72_73) (ex_ct1 kE72_87))) (ex_ct2 (ex_ct1 kE72_105) (ex_ct2 (ex_ct1 kE72_106) (ex_ct1 kE72_109)))))
set_option maxHeartbeats 100000 in
def k73_192 : ex_C := c_return_  15
set_option maxHeartbeats 100000 in
theorem kE73_192 : ex_CE 15 [] cd_73 k73_192 q73_192 := e_return_ 192 0 
set_option maxHeartbeats 100000 in
def k73_178 : ex_C := c_aload 0 (c_gf 4 2 (c_iload 5 (c_iload 2 (c_iastore (c_iinc 2 1 (c_goto 2))))))
set_option maxHeartbeats 100000 in
theorem kE73_178 : ex_CE 15 [] cd_73 k73_178 q73_178 := e_aload_aload_n 178 0 0 0 rfl (e_gf 179 86274 18 4 2 rfl rfl (e_iload_iload 182 0 5 (e_iload_iload_n 184 0 2 2 rfl (e_iastore 185 0 (e_iinc 186 1 2 1 (e_goto 189 2 (-187)))))))
set_option maxHeartbeats 100000 in
def k73_133 : ex_C := c_iload 5 (c_if_le 178 (c_aload 0 (c_aload 1 (c_iload 2 (c_aload 0 (c_gf 4 2 (c_iload 5 (c_psh 1 (c_isub (c_iaload (c_invV [] cd_73 150 4 74 4 (c_if_eq 178 (c_aload 0 (c_gf 4 2 (c_iload 5 (c_aload 0 (c_gf 4 2 (c_iload 5 (c_psh 1 (c_isub (c_iaload (c_iastore (c_iinc 5 4294967295 (c_goto 133))))))))))))))))))))))))
set_option maxHeartbeats 100000 in
theorem kE73_133 : ex_CE 15 [] cd_73 k73_133 q73_133 := e_iload_iload 133 0 5 (e_if_le 135 178 43 (e_aload_aload_n 138 0 0 0 rfl (e_aload_aload_n 139 0 1 1 rfl (e_iload_iload_n 140 0 2 2 rfl (e_aload_aload_n 141 0 0 0 rfl (e_gf 142 86274 18 4 2 rfl rfl (e_iload_iload 145 0 5 (e_psh_iconst 147 1 1 (e_isub 148 0 (e_iaload 149 0 (e_invV_invokevirtual 150 737412 98 4 74 4 rfl rfl rfl rfl rfl rfl (e_if_eq 153 178 25 (e_aload_aload_n 156 0 0 0 rfl (e_gf 157 86274 18 4 2 rfl rfl (e_iload_iload 160 0 5 (e_aload_aload_n 162 0 0 0 rfl (e_gf 163 86274 18 4 2 rfl rfl (e_iload_iload 166 0 5 (e_psh_iconst 168 1 1 (e_isub 169 0 (e_iaload 170 0 (e_iastore 171 0 (e_iinc 172 4294967295 5 (-1) (e_goto 175 133 (-42)))))))))))))))))))))))))
set_option maxHeartbeats 100000 in
def k73_129 : ex_C := c_iastore (c_iload 2 (c_istore 5 (k73_133)))
set_option maxHeartbeats 100000 in
theorem kE73_129 : ex_CE 15 [] cd_73 k73_129 q73_129 := e_iastore 129 0 (e_iload_iload_n 130 0 2 2 rfl (e_istore_istore 131 0 5 (kE73_133)))
set_option maxHeartbeats 100000 in
def k73_127 : ex_C := c_iload 4 (k73_129)
set_option maxHeartbeats 100000 in
theorem kE73_127 : ex_CE 15 [] cd_73 k73_127 q73_127 := e_iload_iload 127 0 4 (kE73_129)
set_option maxHeartbeats 100000 in
def k73_111 : ex_C := c_iadd (c_istore 4 (c_aload 0 (c_gf 4 3 (c_iload 2 (c_iload 3 (c_if_eq 127 (c_psh 4294967295 (c_goto 129))))))))
set_option maxHeartbeats 100000 in
theorem kE73_111 : ex_CE 15 [] cd_73 k73_111 q73_111 := e_iadd 111 0 (e_istore_istore 112 0 4 (e_aload_aload_n 114 0 0 0 rfl (e_gf 115 86275 22 4 3 rfl rfl (e_iload_iload_n 118 0 2 2 rfl (e_iload_iload_n 119 0 3 3 rfl (e_if_eq 120 127 7 (e_psh_iconst 123 4294967295 (-1) (e_goto 124 129 5))))))))
set_option maxHeartbeats 100000 in
def k73_110 : ex_C := c_psh 0 (k73_111)
set_option maxHeartbeats 100000 in
theorem kE73_110 : ex_CE 15 [] cd_73 k73_110 q73_110 := e_psh_iconst 110 0 0 (kE73_111)
set_option maxHeartbeats 100000 in
def k73_90 : ex_C := c_aload 0 (c_gf 4 11 (c_if_eq 110 (c_aload 1 (c_gf 3 1 (c_iload 2 (c_iaload (c_if_le 110 (c_psh 2 (c_goto 111)))))))))
set_option maxHeartbeats 100000 in
theorem kE73_90 : ex_CE 15 [] cd_73 k73_90 q73_90 := e_aload_aload_n 90 0 0 0 rfl (e_gf 91 4363 48 4 11 rfl rfl (e_if_eq 94 110 16 (e_aload_aload_n 97 0 1 1 rfl (e_gf 98 86209 75 3 1 rfl rfl (e_iload_iload_n 101 0 2 2 rfl (e_iaload 102 0 (e_if_le 103 110 7 (e_psh_iconst 106 2 2 (e_goto 107 111 4)))))))))
set_option maxHeartbeats 100000 in
def k73_89 : ex_C := c_psh 0 (k73_90)
set_option maxHeartbeats 100000 in
theorem kE73_89 : ex_CE 15 [] cd_73 k73_89 q73_89 := e_psh_iconst 89 0 0 (kE73_90)
set_option maxHeartbeats 100000 in
def k73_68 : ex_C := c_istore 3 (c_aload 0 (c_gf 4 10 (c_if_eq 89 (c_aload 1 (c_gf 3 0 (c_iload 2 (c_iaload (c_if_le 89 (c_psh 1 (c_goto 90))))))))))
set_option maxHeartbeats 100000 in
theorem kE73_68 : ex_CE 15 [] cd_73 k73_68 q73_68 := e_istore_istore_n 68 0 3 3 rfl (e_aload_aload_n 69 0 0 0 rfl (e_gf 70 4362 44 4 10 rfl rfl (e_if_eq 73 89 16 (e_aload_aload_n 76 0 1 1 rfl (e_gf 77 86208 67 3 0 rfl rfl (e_iload_iload_n 80 0 2 2 rfl (e_iaload 81 0 (e_if_le 82 89 7 (e_psh_iconst 85 1 1 (e_goto 86 90 4))))))))))
set_option maxHeartbeats 100000 in
def k73_67 : ex_C := c_psh 0 (k73_68)
set_option maxHeartbeats 100000 in
theorem kE73_67 : ex_CE 15 [] cd_73 k73_67 q73_67 := e_psh_iconst 67 0 0 (kE73_68)
set_option maxHeartbeats 100000 in
def k73_63 : ex_C := c_psh 1 (c_goto 68)
set_option maxHeartbeats 100000 in
theorem kE73_63 : ex_CE 15 [] cd_73 k73_63 q73_63 := e_psh_iconst 63 1 1 (e_goto 64 68 4)
set_option maxHeartbeats 100000 in
def k73_47 : ex_C := c_aload 0 (c_gf 4 11 (c_if_eq 67 (c_aload 1 (c_gf 3 1 (c_iload 2 (c_iaload (c_if_ne 67 (k73_63))))))))
set_option maxHeartbeats 100000 in
theorem kE73_47 : ex_CE 15 [] cd_73 k73_47 q73_47 := e_aload_aload_n 47 0 0 0 rfl (e_gf 48 4363 48 4 11 rfl rfl (e_if_eq 51 67 16 (e_aload_aload_n 54 0 1 1 rfl (e_gf 55 86209 75 3 1 rfl rfl (e_iload_iload_n 58 0 2 2 rfl (e_iaload 59 0 (e_if_ne 60 67 7 (kE73_63))))))))
set_option maxHeartbeats 100000 in
def k73_2 : ex_C := c_iload 2 (c_aload 1 (c_gf 3 14 (c_icmp_ge 192 (c_aload 0 (c_gf 4 4 (c_iload 2 (c_psh 4294967295 (c_iastore (c_aload 0 (c_gf 4 5 (c_iload 2 (c_psh 0 (c_iastore (c_aload 0 (c_gf 4 6 (c_iload 2 (c_psh 0 (c_bastore (c_aload 0 (c_gf 4 10 (c_if_eq 47 (c_aload 1 (c_gf 3 0 (c_iload 2 (c_iaload (c_if_eq 63 (k73_47)))))))))))))))))))))))))))
set_option maxHeartbeats 100000 in
theorem kE73_2 : ex_CE 15 [] cd_73 k73_2 q73_2 := e_iload_iload_n 2 0 2 2 rfl (e_aload_aload_n 3 0 1 1 rfl (e_gf 4 206 51 3 14 rfl rfl (e_icmp_ge 7 192 185 (e_aload_aload_n 10 0 0 0 rfl (e_gf 11 86276 25 4 4 rfl rfl (e_iload_iload_n 14 0 2 2 rfl (e_psh_iconst 15 4294967295 (-1) (e_iastore 16 0 (e_aload_aload_n 17 0 0 0 rfl (e_gf 18 86277 28 4 5 rfl rfl (e_iload_iload_n 21 0 2 2 rfl (e_psh_iconst 22 0 0 (e_iastore 23 0 (e_aload_aload_n 24 0 0 0 rfl (e_gf 25 86278 31 4 6 rfl rfl (e_iload_iload_n 28 0 2 2 rfl (e_psh_iconst 29 0 0 (e_bastore 30 0 (e_aload_aload_n 31 0 0 0 rfl (e_gf 32 4362 44 4 10 rfl rfl (e_if_eq 35 47 12 (e_aload_aload_n 38 0 1 1 rfl (e_gf 39 86208 67 3 0 rfl rfl (e_iload_iload_n 42 0 2 2 rfl (e_iaload 43 0 (e_if_eq 44 63 19 (kE73_47)))))))))))))))))))))))))))
set_option maxHeartbeats 100000 in
def k73_0 : ex_C := c_psh 0 (c_istore 2 (k73_2))
set_option maxHeartbeats 100000 in
theorem kE73_0 : ex_CE 15 [] cd_73 k73_0 q73_0 := e_psh_iconst 0 0 0 (e_istore_istore_n 1 0 2 2 rfl (kE73_2))
def kt_73 : Nat → Option ex_C := fun pc => @Bool.rec (fun _ => Nat → Option ex_C) (fun pc => @Bool.rec (fun _ => Nat → Option ex_C) (fun pc => @Bool.rec (fun _ => Nat → Option ex_C) (fun pc => @Bool.rec (fun _ => Nat → Option ex_C) (fun pc => @Bool.rec (fun _ => Option ex_C) none (some k73_192) (Nat.beq pc 192)) (fun pc => @Bool.rec (fun _ => Option ex_C) none (some k73_178) (Nat.beq pc 178)) (Nat.ble pc 178) pc) (fun pc => @Bool.rec (fun _ => Nat → Option ex_C) (fun pc => @Bool.rec (fun _ => Option ex_C) none (some k73_133) (Nat.beq pc 133)) (fun pc => @Bool.rec (fun _ => Option ex_C) none (some k73_129) (Nat.beq pc 129)) (Nat.ble pc 129) pc) (Nat.ble pc 133) pc) (fun pc => @Bool.rec (fun _ => Nat → Option ex_C) (fun pc => @Bool.rec (fun _ => Nat → Option ex_C) (fun pc => @Bool.rec (fun _ => Option ex_C) none (some k73_127) (Nat.beq pc 127)) (fun pc => @Bool.rec (fun _ => Option ex_C) none (some k73_111) (Nat.beq pc 111)) (Nat.ble pc 111) pc) (fun pc => @Bool.rec (fun _ => Nat → Option ex_C) (fun pc => @Bool.rec (fun _ => Option ex_C) none (some k73_110) (Nat.beq pc 110)) (fun pc => @Bool.rec (fun _ => Option ex_C) none (some k73_90) (Nat.beq pc 90)) (Nat.ble pc 90) pc) (Nat.ble pc 110) pc) (Nat.ble pc 127) pc) (fun pc => @Bool.rec (fun _ => Nat → Option ex_C) (fun pc => @Bool.rec (fun _ => Nat → Option ex_C) (fun pc => @Bool.rec (fun _ => Nat → Option ex_C) (fun pc => @Bool.rec (fun _ => Option ex_C) none (some k73_89) (Nat.beq pc 89)) (fun pc => @Bool.rec (fun _ => Option ex_C) none (some k73_68) (Nat.beq pc 68)) (Nat.ble pc 68) pc) (fun pc => @Bool.rec (fun _ => Nat → Option ex_C) (fun pc => @Bool.rec (fun _ => Option ex_C) none (some k73_67) (Nat.beq pc 67)) (fun pc => @Bool.rec (fun _ => Option ex_C) none (some k73_63) (Nat.beq pc 63)) (Nat.ble pc 63) pc) (Nat.ble pc 67) pc) (fun pc => @Bool.rec (fun _ => Nat → Option ex_C) (fun pc => @Bool.rec (fun _ => Nat → Option ex_C) (fun pc => @Bool.rec (fun _ => Option ex_C) none (some k73_47) (Nat.beq pc 47)) (fun pc => @Bool.rec (fun _ => Option ex_C) none (some k73_2) (Nat.beq pc 2)) (Nat.ble pc 2) pc) (fun pc => @Bool.rec (fun _ => Option ex_C) none (some k73_0) (Nat.beq pc 0)) (Nat.ble pc 0) pc) (Nat.ble pc 47) pc) (Nat.ble pc 89) pc
theorem ktE_73 : ex_CTT 15 [] cd_73 kt_73 cd_73 := (ex_ct2 (ex_ct2 (ex_ct2 (ex_ct1 kE73_0) (ex_ct2 (ex_ct1 kE73_2) (ex_ct1 kE73_47))) (ex_ct2 (ex_ct2 (ex_ct1 kE73_63) (ex_ct1 kE73_67)) (ex_ct2 (ex_ct1 kE73_68) (ex_ct1 kE73_89)))) (ex_ct2 (ex_ct2 (ex_ct2 (ex_ct1 kE73_90) (ex_ct1 kE73_110)) (ex_ct2 (ex_ct1 kE73_111) (ex_ct1 kE73_127))) (ex_ct2 (ex_ct2 (ex_ct1 kE73_129) (ex_ct1 kE73_133)) (ex_ct2 (ex_ct1 kE73_178) (ex_ct1 kE73_192)))))
set_option maxHeartbeats 100000 in
def k74_92 : ex_C := c_ireturn  1
set_option maxHeartbeats 100000 in
theorem kE74_92 : ex_CE 1 [] cd_74 k74_92 q74_92 := e_ireturn 92 0 
set_option maxHeartbeats 100000 in
def k74_91 : ex_C := c_psh 0 (k74_92)
set_option maxHeartbeats 100000 in
theorem kE74_91 : ex_CE 1 [] cd_74 k74_91 q74_91 := e_psh_iconst 91 0 0 (kE74_92)
set_option maxHeartbeats 100000 in
def k74_72 : ex_C := c_aload 1 (c_gf 3 3 (c_iload 2 (c_iaload (c_aload 1 (c_gf 3 3 (c_iload 3 (c_iaload (c_icmp_ge 91 (c_psh 1 (c_goto 92))))))))))
set_option maxHeartbeats 100000 in
theorem kE74_72 : ex_CE 1 [] cd_74 k74_72 q74_72 := e_aload_aload_n 72 0 1 1 rfl (e_gf 73 86211 102 3 3 rfl rfl (e_iload_iload_n 76 0 2 2 rfl (e_iaload 77 0 (e_aload_aload_n 78 0 1 1 rfl (e_gf 79 86211 102 3 3 rfl rfl (e_iload_iload_n 82 0 3 3 rfl (e_iaload 83 0 (e_icmp_ge 84 91 7 (e_psh_iconst 87 1 1 (e_goto 88 92 4))))))))))
set_option maxHeartbeats 100000 in
def k74_71 : ex_C := c_ireturn  1
set_option maxHeartbeats 100000 in
theorem kE74_71 : ex_CE 1 [] cd_74 k74_71 q74_71 := e_ireturn 71 0 
set_option maxHeartbeats 100000 in
def k74_70 : ex_C := c_psh 0 (k74_71)
set_option maxHeartbeats 100000 in
theorem kE74_70 : ex_CE 1 [] cd_74 k74_70 q74_70 := e_psh_iconst 70 0 0 (kE74_71)
set_option maxHeartbeats 100000 in
def k74_36 : ex_C := c_aload 1 (c_gf 3 1 (c_iload 2 (c_iaload (c_aload 1 (c_gf 3 1 (c_iload 3 (c_iaload (c_icmp_eq 72 (c_aload 1 (c_gf 3 1 (c_iload 2 (c_iaload (c_aload 1 (c_gf 3 1 (c_iload 3 (c_iaload (c_icmp_ge 70 (c_psh 1 (c_goto 71)))))))))))))))))))
set_option maxHeartbeats 100000 in
theorem kE74_36 : ex_CE 1 [] cd_74 k74_36 q74_36 := e_aload_aload_n 36 0 1 1 rfl (e_gf 37 86209 75 3 1 rfl rfl (e_iload_iload_n 40 0 2 2 rfl (e_iaload 41 0 (e_aload_aload_n 42 0 1 1 rfl (e_gf 43 86209 75 3 1 rfl rfl (e_iload_iload_n 46 0 3 3 rfl (e_iaload 47 0 (e_icmp_eq 48 72 24 (e_aload_aload_n 51 0 1 1 rfl (e_gf 52 86209 75 3 1 rfl rfl (e_iload_iload_n 55 0 2 2 rfl (e_iaload 56 0 (e_aload_aload_n 57 0 1 1 rfl (e_gf 58 86209 75 3 1 rfl rfl (e_iload_iload_n 61 0 3 3 rfl (e_iaload 62 0 (e_icmp_ge 63 70 7 (e_psh_iconst 66 1 1 (e_goto 67 71 4)))))))))))))))))))
set_option maxHeartbeats 100000 in
def k74_35 : ex_C := c_ireturn  1
set_option maxHeartbeats 100000 in
theorem kE74_35 : ex_CE 1 [] cd_74 k74_35 q74_35 := e_ireturn 35 0 
set_option maxHeartbeats 100000 in
def k74_34 : ex_C := c_psh 0 (k74_35)
set_option maxHeartbeats 100000 in
theorem kE74_34 : ex_CE 1 [] cd_74 k74_34 q74_34 := e_psh_iconst 34 0 0 (kE74_35)
set_option maxHeartbeats 100000 in
def k74_0 : ex_C := c_aload 1 (c_gf 3 0 (c_iload 2 (c_iaload (c_aload 1 (c_gf 3 0 (c_iload 3 (c_iaload (c_icmp_eq 36 (c_aload 1 (c_gf 3 0 (c_iload 2 (c_iaload (c_aload 1 (c_gf 3 0 (c_iload 3 (c_iaload (c_icmp_ge 34 (c_psh 1 (c_goto 35)))))))))))))))))))
set_option maxHeartbeats 100000 in
theorem kE74_0 : ex_CE 1 [] cd_74 k74_0 q74_0 := e_aload_aload_n 0 0 1 1 rfl (e_gf 1 86208 67 3 0 rfl rfl (e_iload_iload_n 4 0 2 2 rfl (e_iaload 5 0 (e_aload_aload_n 6 0 1 1 rfl (e_gf 7 86208 67 3 0 rfl rfl (e_iload_iload_n 10 0 3 3 rfl (e_iaload 11 0 (e_icmp_eq 12 36 24 (e_aload_aload_n 15 0 1 1 rfl (e_gf 16 86208 67 3 0 rfl rfl (e_iload_iload_n 19 0 2 2 rfl (e_iaload 20 0 (e_aload_aload_n 21 0 1 1 rfl (e_gf 22 86208 67 3 0 rfl rfl (e_iload_iload_n 25 0 3 3 rfl (e_iaload 26 0 (e_icmp_ge 27 34 7 (e_psh_iconst 30 1 1 (e_goto 31 35 4)))))))))))))))))))
def kt_74 : Nat → Option ex_C := fun pc => @Bool.rec (fun _ => Nat → Option ex_C) (fun pc => @Bool.rec (fun _ => Nat → Option ex_C) (fun pc => @Bool.rec (fun _ => Nat → Option ex_C) (fun pc => @Bool.rec (fun _ => Nat → Option ex_C) (fun pc => @Bool.rec (fun _ => Option ex_C) none (some k74_92) (Nat.beq pc 92)) (fun pc => @Bool.rec (fun _ => Option ex_C) none (some k74_91) (Nat.beq pc 91)) (Nat.ble pc 91) pc) (fun pc => @Bool.rec (fun _ => Option ex_C) none (some k74_72) (Nat.beq pc 72)) (Nat.ble pc 72) pc) (fun pc => @Bool.rec (fun _ => Nat → Option ex_C) (fun pc => @Bool.rec (fun _ => Option ex_C) none (some k74_71) (Nat.beq pc 71)) (fun pc => @Bool.rec (fun _ => Option ex_C) none (some k74_70) (Nat.beq pc 70)) (Nat.ble pc 70) pc) (Nat.ble pc 71) pc) (fun pc => @Bool.rec (fun _ => Nat → Option ex_C) (fun pc => @Bool.rec (fun _ => Nat → Option ex_C) (fun pc => @Bool.rec (fun _ => Option ex_C) none (some k74_36) (Nat.beq pc 36)) (fun pc => @Bool.rec (fun _ => Option ex_C) none (some k74_35) (Nat.beq pc 35)) (Nat.ble pc 35) pc) (fun pc => @Bool.rec (fun _ => Nat → Option ex_C) (fun pc => @Bool.rec (fun _ => Option ex_C) none (some k74_34) (Nat.beq pc 34)) (fun pc => @Bool.rec (fun _ => Option ex_C) none (some k74_0) (Nat.beq pc 0)) (Nat.ble pc 0) pc) (Nat.ble pc 34) pc) (Nat.ble pc 36) pc
theorem ktE_74 : ex_CTT 1 [] cd_74 kt_74 cd_74 := (ex_ct2 (ex_ct2 (ex_ct2 (ex_ct1 kE74_0) (ex_ct1 kE74_34)) (ex_ct2 (ex_ct1 kE74_35) (ex_ct1 kE74_36))) (ex_ct2 (ex_ct2 (ex_ct1 kE74_70) (ex_ct1 kE74_71)) (ex_ct2 (ex_ct1 kE74_72) (ex_ct2 (ex_ct1 kE74_91) (ex_ct1 kE74_92)))))
set_option maxHeartbeats 100000 in
def k75_190 : ex_C := c_return_  15
set_option maxHeartbeats 100000 in
theorem kE75_190 : ex_CE 15 [] cd_75 k75_190 q75_190 := e_return_ 190 0 
set_option maxHeartbeats 100000 in
def k75_184 : ex_C := c_iinc 2 1 (c_goto 2)
set_option maxHeartbeats 100000 in
theorem kE75_184 : ex_CE 15 [] cd_75 k75_184 q75_184 := e_iinc 184 1 2 1 (e_goto 187 2 (-185))
set_option maxHeartbeats 100000 in
def k75_178 : ex_C := c_iinc 6 1 (c_goto 78)
set_option maxHeartbeats 100000 in
theorem kE75_178 : ex_CE 15 [] cd_75 k75_178 q75_178 := e_iinc 178 1 6 1 (e_goto 181 78 (-103))
set_option maxHeartbeats 100000 in
def k75_78 : ex_C := c_iload 6 (c_aload 1 (c_gf 3 14 (c_icmp_ge 184 (c_aload 0 (c_gf 4 4 (c_iload 2 (c_iaload (c_if_ge 184 (c_aload 0 (c_gf 4 2 (c_iload 6 (c_iaload (c_istore 7 (c_aload 0 (c_gf 4 1 (c_iload 7 (c_baload (c_if_eq 178 (c_aload 0 (c_gf 4 3 (c_iload 7 (c_iaload (c_aload 0 (c_gf 4 3 (c_iload 2 (c_iaload (c_icmp_ne 178 (c_aload 1 (c_gf 3 0 (c_iload 7 (c_iaload (c_iload 4 (c_icmp_ne 178 (c_aload 1 (c_gf 3 1 (c_iload 7 (c_iaload (c_iload 5 (c_icmp_ne 178 (c_aload 1 (c_gf 3 2 (c_iload 7 (c_iaload (c_iload 3 (c_psh 2 (c_iadd (c_psh 3 (c_iand (c_icmp_ne 178 (c_aload 0 (c_gf 4 4 (c_iload 2 (c_iload 7 (c_iastore (k75_178)))))))))))))))))))))))))))))))))))))))))))))))))))))))
set_option maxHeartbeats 100000 in
theorem kE75_78 : ex_CE 15 [] cd_75 k75_78 q75_78 := e_iload_iload 78 0 6 (e_aload_aload_n 80 0 1 1 rfl (e_gf 81 206 51 3 14 rfl rfl (e_icmp_ge 84 184 100 (e_aload_aload_n 87 0 0 0 rfl (e_gf 88 86276 25 4 4 rfl rfl (e_iload_iload_n 91 0 2 2 rfl (e_iaload 92 0 (e_if_ge 93 184 91 (e_aload_aload_n 96 0 0 0 rfl (e_gf 97 86274 18 4 2 rfl rfl (e_iload_iload 100 0 6 (e_iaload 102 0 (e_istore_istore 103 0 7 (e_aload_aload_n 105 0 0 0 rfl (e_gf 106 86273 15 4 1 rfl rfl (e_iload_iload 109 0 7 (e_baload 111 0 (e_if_eq 112 178 66 (e_aload_aload_n 115 0 0 0 rfl (e_gf 116 86275 22 4 3 rfl rfl (e_iload_iload 119 0 7 (e_iaload 121 0 (e_aload_aload_n 122 0 0 0 rfl (e_gf 123 86275 22 4 3 rfl rfl (e_iload_iload_n 126 0 2 2 rfl (e_iaload 127 0 (e_icmp_ne 128 178 50 (e_aload_aload_n 131 0 1 1 rfl (e_gf 132 86208 67 3 0 rfl rfl (e_iload_iload 135 0 7 (e_iaload 137 0 (e_iload_iload 138 0 4 (e_icmp_ne 140 178 38 (e_aload_aload_n 143 0 1 1 rfl (e_gf 144 86209 75 3 1 rfl rfl (e_iload_iload 147 0 7 (e_iaload 149 0 (e_iload_iload 150 0 5 (e_icmp_ne 152 178 26 (e_aload_aload_n 155 0 1 1 rfl (e_gf 156 86210 105 3 2 rfl rfl (e_iload_iload 159 0 7 (e_iaload 161 0 (e_iload_iload_n 162 0 3 3 rfl (e_psh_iconst 163 2 2 (e_iadd 164 0 (e_psh_iconst 165 3 3 (e_iand 166 0 (e_icmp_ne 167 178 11 (e_aload_aload_n 170 0 0 0 rfl (e_gf 171 86276 25 4 4 rfl rfl (e_iload_iload_n 174 0 2 2 rfl (e_iload_iload 175 0 7 (e_iastore 177 0 (kE75_178)))))))))))))))))))))))))))))))))))))))))))))))))))))))
set_option maxHeartbeats 100000 in
def k75_2 : ex_C := c_iload 2 (c_aload 1 (c_gf 3 14 (c_icmp_ge 190 (c_aload 0 (c_gf 4 1 (c_iload 2 (c_baload (c_if_eq 184 (c_aload 0 (c_gf 4 3 (c_iload 2 (c_iaload (c_if_lt 184 (c_aload 1 (c_gf 3 2 (c_iload 2 (c_iaload (c_psh 3 (c_iand (c_istore 3 (c_aload 1 (c_gf 3 0 (c_iload 2 (c_iaload (c_aload 0 (c_gf 4 9 (c_psh 17179869193 (c_iload 3 (c_iaload (c_imul (c_iadd (c_istore 4 (c_aload 1 (c_gf 3 1 (c_iload 2 (c_iaload (c_aload 0 (c_gf 4 9 (c_psh 17179869194 (c_iload 3 (c_iaload (c_imul (c_iadd (c_istore 5 (c_psh 0 (c_istore 6 (k75_78)))))))))))))))))))))))))))))))))))))))))))))))
set_option maxHeartbeats 100000 in
theorem kE75_2 : ex_CE 15 [] cd_75 k75_2 q75_2 := e_iload_iload_n 2 0 2 2 rfl (e_aload_aload_n 3 0 1 1 rfl (e_gf 4 206 51 3 14 rfl rfl (e_icmp_ge 7 190 183 (e_aload_aload_n 10 0 0 0 rfl (e_gf 11 86273 15 4 1 rfl rfl (e_iload_iload_n 14 0 2 2 rfl (e_baload 15 0 (e_if_eq 16 184 168 (e_aload_aload_n 19 0 0 0 rfl (e_gf 20 86275 22 4 3 rfl rfl (e_iload_iload_n 23 0 2 2 rfl (e_iaload 24 0 (e_if_lt 25 184 159 (e_aload_aload_n 28 0 1 1 rfl (e_gf 29 86210 105 3 2 rfl rfl (e_iload_iload_n 32 0 2 2 rfl (e_iaload 33 0 (e_psh_iconst 34 3 3 (e_iand 35 0 (e_istore_istore_n 36 0 3 3 rfl (e_aload_aload_n 37 0 1 1 rfl (e_gf 38 86208 67 3 0 rfl rfl (e_iload_iload_n 41 0 2 2 rfl (e_iaload 42 0 (e_aload_aload_n 43 0 0 0 rfl (e_gf 44 265 40 4 9 rfl rfl (e_psh_getstatic 47 17179869193 108 (e_iload_iload_n 50 0 3 3 rfl (e_iaload 51 0 (e_imul 52 0 (e_iadd 53 0 (e_istore_istore 54 0 4 (e_aload_aload_n 56 0 1 1 rfl (e_gf 57 86209 75 3 1 rfl rfl (e_iload_iload_n 60 0 2 2 rfl (e_iaload 61 0 (e_aload_aload_n 62 0 0 0 rfl (e_gf 63 265 40 4 9 rfl rfl (e_psh_getstatic 66 17179869194 111 (e_iload_iload_n 69 0 3 3 rfl (e_iaload 70 0 (e_imul 71 0 (e_iadd 72 0 (e_istore_istore 73 0 5 (e_psh_iconst 75 0 0 (e_istore_istore 76 0 6 (kE75_78)))))))))))))))))))))))))))))))))))))))))))))))
set_option maxHeartbeats 100000 in
def k75_0 : ex_C := c_psh 0 (c_istore 2 (k75_2))
set_option maxHeartbeats 100000 in
theorem kE75_0 : ex_CE 15 [] cd_75 k75_0 q75_0 := e_psh_iconst 0 0 0 (e_istore_istore_n 1 0 2 2 rfl (kE75_2))
def kt_75 : Nat → Option ex_C := fun pc => @Bool.rec (fun _ => Nat → Option ex_C) (fun pc => @Bool.rec (fun _ => Nat → Option ex_C) (fun pc => @Bool.rec (fun _ => Nat → Option ex_C) (fun pc => @Bool.rec (fun _ => Option ex_C) none (some k75_190) (Nat.beq pc 190)) (fun pc => @Bool.rec (fun _ => Option ex_C) none (some k75_184) (Nat.beq pc 184)) (Nat.ble pc 184) pc) (fun pc => @Bool.rec (fun _ => Option ex_C) none (some k75_178) (Nat.beq pc 178)) (Nat.ble pc 178) pc) (fun pc => @Bool.rec (fun _ => Nat → Option ex_C) (fun pc => @Bool.rec (fun _ => Nat → Option ex_C) (fun pc => @Bool.rec (fun _ => Option ex_C) none (some k75_78) (Nat.beq pc 78)) (fun pc => @Bool.rec (fun _ => Option ex_C) none (some k75_2) (Nat.beq pc 2)) (Nat.ble pc 2) pc) (fun pc => @Bool.rec (fun _ => Option ex_C) none (some k75_0) (Nat.beq pc 0)) (Nat.ble pc 0) pc) (Nat.ble pc 78) pc
theorem ktE_75 : ex_CTT 15 [] cd_75 kt_75 cd_75 := (ex_ct2 (ex_ct2 (ex_ct1 kE75_0) (ex_ct2 (ex_ct1 kE75_2) (ex_ct1 kE75_78))) (ex_ct2 (ex_ct1 kE75_178) (ex_ct2 (ex_ct1 kE75_184) (ex_ct1 kE75_190))))
set_option maxHeartbeats 100000 in
def k76_158 : ex_C := c_return_  15
set_option maxHeartbeats 100000 in
theorem kE76_158 : ex_CE 15 [] cd_76 k76_158 q76_158 := e_return_ 158 0 
set_option maxHeartbeats 100000 in
def k76_152 : ex_C := c_iinc 3 1 (c_goto 2)
set_option maxHeartbeats 100000 in
theorem kE76_152 : ex_CE 15 [] cd_76 k76_152 q76_152 := e_iinc 152 1 3 1 (e_goto 155 2 (-153))
set_option maxHeartbeats 100000 in
def k76_137 : ex_C := c_iastore (c_aload 0 (c_gf 4 5 (c_iload 5 (c_aload 0 (c_gf 4 5 (c_iload 4 (c_iaload (c_iastore (k76_152)))))))))
set_option maxHeartbeats 100000 in
theorem kE76_137 : ex_CE 15 [] cd_76 k76_137 q76_137 := e_iastore 137 0 (e_aload_aload_n 138 0 0 0 rfl (e_gf 139 86277 28 4 5 rfl rfl (e_iload_iload 142 0 5 (e_aload_aload_n 144 0 0 0 rfl (e_gf 145 86277 28 4 5 rfl rfl (e_iload_iload 148 0 4 (e_iaload 150 0 (e_iastore 151 0 (kE76_152)))))))))
set_option maxHeartbeats 100000 in
def k76_136 : ex_C := c_psh 3 (k76_137)
set_option maxHeartbeats 100000 in
theorem kE76_136 : ex_CE 15 [] cd_76 k76_136 q76_136 := e_psh_iconst 136 3 3 (kE76_137)
set_option maxHeartbeats 100000 in
def k76_112 : ex_C := c_aload 1 (c_iload 5 (c_iload 4 (c_aload 1 (c_gf 3 2 (c_iload 4 (c_iaload (c_psh 1 (c_iadd (c_invV [] cd_76 126 4 13 3 (c_if_eq 136 (c_psh 2 (c_goto 137))))))))))))
set_option maxHeartbeats 100000 in
theorem kE76_112 : ex_CE 15 [] cd_76 k76_112 q76_112 := e_aload_aload_n 112 0 1 1 rfl (e_iload_iload 113 0 5 (e_iload_iload 115 0 4 (e_aload_aload_n 117 0 1 1 rfl (e_gf 118 86210 105 3 2 rfl rfl (e_iload_iload 121 0 4 (e_iaload 123 0 (e_psh_iconst 124 1 1 (e_iadd 125 0 (e_invV_invokevirtual 126 237668 118 4 13 3 rfl rfl rfl rfl rfl rfl (e_if_eq 129 136 7 (e_psh_iconst 132 2 2 (e_goto 133 137 4))))))))))))
set_option maxHeartbeats 100000 in
def k76_52 : ex_C := c_aload 0 (c_aload 1 (c_iload 4 (c_iload 2 (c_invV [] cd_76 57 4 77 4 (c_istore 5 (c_iload 5 (c_if_lt 152 (c_aload 0 (c_gf 4 4 (c_iload 4 (c_iload 5 (c_iastore (c_aload 0 (c_gf 4 4 (c_iload 5 (c_iload 4 (c_iastore (c_aload 0 (c_gf 4 5 (c_iload 4 (c_aload 1 (c_gf 3 2 (c_iload 4 (c_iaload (c_aload 1 (c_gf 3 2 (c_iload 5 (c_iaload (c_icmp_ne 112 (c_psh 1 (c_goto 137)))))))))))))))))))))))))))))))
set_option maxHeartbeats 100000 in
theorem kE76_52 : ex_CE 15 [] cd_76 k76_52 q76_52 := e_aload_aload_n 52 0 0 0 rfl (e_aload_aload_n 53 0 1 1 rfl (e_iload_iload 54 0 4 (e_iload_iload_n 56 0 2 2 rfl (e_invV_invokevirtual 57 761988 114 4 77 4 rfl rfl rfl rfl rfl rfl (e_istore_istore 60 0 5 (e_iload_iload 62 0 5 (e_if_lt 64 152 88 (e_aload_aload_n 67 0 0 0 rfl (e_gf 68 86276 25 4 4 rfl rfl (e_iload_iload 71 0 4 (e_iload_iload 73 0 5 (e_iastore 75 0 (e_aload_aload_n 76 0 0 0 rfl (e_gf 77 86276 25 4 4 rfl rfl (e_iload_iload 80 0 5 (e_iload_iload 82 0 4 (e_iastore 84 0 (e_aload_aload_n 85 0 0 0 rfl (e_gf 86 86277 28 4 5 rfl rfl (e_iload_iload 89 0 4 (e_aload_aload_n 91 0 1 1 rfl (e_gf 92 86210 105 3 2 rfl rfl (e_iload_iload 95 0 4 (e_iaload 97 0 (e_aload_aload_n 98 0 1 1 rfl (e_gf 99 86210 105 3 2 rfl rfl (e_iload_iload 102 0 5 (e_iaload 104 0 (e_icmp_ne 105 112 7 (e_psh_iconst 108 1 1 (e_goto 109 137 28)))))))))))))))))))))))))))))))
set_option maxHeartbeats 100000 in
def k76_2 : ex_C := c_iload 3 (c_aload 1 (c_gf 3 14 (c_icmp_ge 158 (c_aload 0 (c_gf 4 2 (c_iload 3 (c_iaload (c_istore 4 (c_aload 0 (c_gf 4 4 (c_iload 4 (c_iaload (c_if_ge 152 (c_aload 0 (c_gf 4 3 (c_iload 4 (c_iaload (c_if_lt 152 (c_iload 2 (c_if_ne 52 (c_aload 0 (c_gf 4 1 (c_iload 4 (c_baload (c_if_eq 152 (k76_52))))))))))))))))))))))))))
set_option maxHeartbeats 100000 in
theorem kE76_2 : ex_CE 15 [] cd_76 k76_2 q76_2 := e_iload_iload_n 2 0 3 3 rfl (e_aload_aload_n 3 0 1 1 rfl (e_gf 4 206 51 3 14 rfl rfl (e_icmp_ge 7 158 151 (e_aload_aload_n 10 0 0 0 rfl (e_gf 11 86274 18 4 2 rfl rfl (e_iload_iload_n 14 0 3 3 rfl (e_iaload 15 0 (e_istore_istore 16 0 4 (e_aload_aload_n 18 0 0 0 rfl (e_gf 19 86276 25 4 4 rfl rfl (e_iload_iload 22 0 4 (e_iaload 24 0 (e_if_ge 25 152 127 (e_aload_aload_n 28 0 0 0 rfl (e_gf 29 86275 22 4 3 rfl rfl (e_iload_iload 32 0 4 (e_iaload 34 0 (e_if_lt 35 152 117 (e_iload_iload_n 38 0 2 2 rfl (e_if_ne 39 52 13 (e_aload_aload_n 42 0 0 0 rfl (e_gf 43 86273 15 4 1 rfl rfl (e_iload_iload 46 0 4 (e_baload 48 0 (e_if_eq 49 152 103 (kE76_52))))))))))))))))))))))))))
set_option maxHeartbeats 100000 in
def k76_0 : ex_C := c_psh 0 (c_istore 3 (k76_2))
set_option maxHeartbeats 100000 in
theorem kE76_0 : ex_CE 15 [] cd_76 k76_0 q76_0 := e_psh_iconst 0 0 0 (e_istore_istore_n 1 0 3 3 rfl (kE76_2))
def kt_76 : Nat → Option ex_C := fun pc => @Bool.rec (fun _ => Nat → Option ex_C) (fun pc => @Bool.rec (fun _ => Nat → Option ex_C) (fun pc => @Bool.rec (fun _ => Nat → Option ex_C) (fun pc => @Bool.rec (fun _ => Option ex_C) none (some k76_158) (Nat.beq pc 158)) (fun pc => @Bool.rec (fun _ => Option ex_C) none (some k76_152) (Nat.beq pc 152)) (Nat.ble pc 152) pc) (fun pc => @Bool.rec (fun _ => Nat → Option ex_C) (fun pc => @Bool.rec (fun _ => Option ex_C) none (some k76_137) (Nat.beq pc 137)) (fun pc => @Bool.rec (fun _ => Option ex_C) none (some k76_136) (Nat.beq pc 136)) (Nat.ble pc 136) pc) (Nat.ble pc 137) pc) (fun pc => @Bool.rec (fun _ => Nat → Option ex_C) (fun pc => @Bool.rec (fun _ => Nat → Option ex_C) (fun pc => @Bool.rec (fun _ => Option ex_C) none (some k76_112) (Nat.beq pc 112)) (fun pc => @Bool.rec (fun _ => Option ex_C) none (some k76_52) (Nat.beq pc 52)) (Nat.ble pc 52) pc) (fun pc => @Bool.rec (fun _ => Nat → Option ex_C) (fun pc => @Bool.rec (fun _ => Option ex_C) none (some k76_2) (Nat.beq pc 2)) (fun pc => @Bool.rec (fun _ => Option ex_C) none (some k76_0) (Nat.beq pc 0)) (Nat.ble pc 0) pc) (Nat.ble pc 2) pc) (Nat.ble pc 112) pc
theorem ktE_76 : ex_CTT 15 [] cd_76 kt_76 cd_76 := (ex_ct2 (ex_ct2 (ex_ct2 (ex_ct1 kE76_0) (ex_ct1 kE76_2)) (ex_ct2 (ex_ct1 kE76_52) (ex_ct1 kE76_112))) (ex_ct2 (ex_ct2 (ex_ct1 kE76_136) (ex_ct1 kE76_137)) (ex_ct2 (ex_ct1 kE76_152) (ex_ct1 kE76_158))))
set_option maxHeartbeats 100000 in
def k77_186 : ex_C := c_psh 4294967295 (c_ireturn  0)
set_option maxHeartbeats 100000 in
theorem kE77_186 : ex_CE 0 [] cd_77 k77_186 q77_186 := e_psh_iconst 186 4294967295 (-1) (e_ireturn 187 0 )
set_option maxHeartbeats 100000 in
def k77_180 : ex_C := c_iinc 7 1 (c_goto 75)
set_option maxHeartbeats 100000 in
theorem kE77_180 : ex_CE 0 [] cd_77 k77_180 q77_180 := e_iinc 180 1 7 1 (e_goto 183 75 (-108))
set_option maxHeartbeats 100000 in
def k77_133 : ex_C := c_aload 1 (c_gf 3 0 (c_iload 8 (c_iaload (c_iload 5 (c_icmp_ne 180 (c_aload 1 (c_gf 3 1 (c_iload 8 (c_iaload (c_iload 6 (c_icmp_ne 180 (c_aload 1 (c_gf 3 2 (c_iload 8 (c_iaload (c_psh 2 (c_irem   (c_aload 1 (c_gf 3 2 (c_iload 2 (c_iaload (c_psh 2 (c_irem   (c_icmp_ne 180 (c_iload 8 (c_ireturn  0))))))))))))))))))))))))))
set_option maxHeartbeats 100000 in
theorem kE77_133 : ex_CE 0 [] cd_77 k77_133 q77_133 := e_aload_aload_n 133 0 1 1 rfl (e_gf 134 86208 67 3 0 rfl rfl (e_iload_iload 137 0 8 (e_iaload 139 0 (e_iload_iload 140 0 5 (e_icmp_ne 142 180 38 (e_aload_aload_n 145 0 1 1 rfl (e_gf 146 86209 75 3 1 rfl rfl (e_iload_iload 149 0 8 (e_iaload 151 0 (e_iload_iload 152 0 6 (e_icmp_ne 154 180 26 (e_aload_aload_n 157 0 1 1 rfl (e_gf 158 86210 105 3 2 rfl rfl (e_iload_iload 161 0 8 (e_iaload 163 0 (e_psh_iconst 164 2 2 (e_irem 165 0  (e_aload_aload_n 166 0 1 1 rfl (e_gf 167 86210 105 3 2 rfl rfl (e_iload_iload_n 170 0 2 2 rfl (e_iaload 171 0 (e_psh_iconst 172 2 2 (e_irem 173 0  (e_icmp_ne 174 180 6 (e_iload_iload 177 0 8 (e_ireturn 179 0 ))))))))))))))))))))))))))
set_option maxHeartbeats 100000 in
def k77_75 : ex_C := c_iload 7 (c_aload 1 (c_gf 3 14 (c_icmp_ge 186 (c_aload 0 (c_gf 4 2 (c_iload 7 (c_iaload (c_istore 8 (c_aload 0 (c_gf 4 4 (c_iload 8 (c_iaload (c_if_ge 180 (c_aload 0 (c_gf 4 3 (c_iload 8 (c_iaload (c_aload 0 (c_gf 4 3 (c_iload 2 (c_iaload (c_icmp_ne 180 (c_iload 3 (c_if_ne 133 (c_aload 0 (c_gf 4 1 (c_iload 8 (c_baload (c_if_eq 180 (k77_133))))))))))))))))))))))))))))))
set_option maxHeartbeats 100000 in
theorem kE77_75 : ex_CE 0 [] cd_77 k77_75 q77_75 := e_iload_iload 75 0 7 (e_aload_aload_n 77 0 1 1 rfl (e_gf 78 206 51 3 14 rfl rfl (e_icmp_ge 81 186 105 (e_aload_aload_n 84 0 0 0 rfl (e_gf 85 86274 18 4 2 rfl rfl (e_iload_iload 88 0 7 (e_iaload 90 0 (e_istore_istore 91 0 8 (e_aload_aload_n 93 0 0 0 rfl (e_gf 94 86276 25 4 4 rfl rfl (e_iload_iload 97 0 8 (e_iaload 99 0 (e_if_ge 100 180 80 (e_aload_aload_n 103 0 0 0 rfl (e_gf 104 86275 22 4 3 rfl rfl (e_iload_iload 107 0 8 (e_iaload 109 0 (e_aload_aload_n 110 0 0 0 rfl (e_gf 111 86275 22 4 3 rfl rfl (e_iload_iload_n 114 0 2 2 rfl (e_iaload 115 0 (e_icmp_ne 116 180 64 (e_iload_iload_n 119 0 3 3 rfl (e_if_ne 120 133 13 (e_aload_aload_n 123 0 0 0 rfl (e_gf 124 86273 15 4 1 rfl rfl (e_iload_iload 127 0 8 (e_baload 129 0 (e_if_eq 130 180 50 (kE77_133))))))))))))))))))))))))))))))
set_option maxHeartbeats 100000 in
def k77_70 : ex_C := c_istore 6 (c_psh 0 (c_istore 7 (k77_75)))
set_option maxHeartbeats 100000 in
theorem kE77_70 : ex_CE 0 [] cd_77 k77_70 q77_70 := e_istore_istore 70 0 6 (e_psh_iconst 72 0 0 (e_istore_istore 73 0 7 (kE77_75)))
set_option maxHeartbeats 100000 in
def k77_59 : ex_C := c_aload 1 (c_gf 3 1 (c_iload 2 (c_iaload (c_aload 0 (c_gf 4 9 (c_iadd (k77_70)))))))
set_option maxHeartbeats 100000 in
theorem kE77_59 : ex_CE 0 [] cd_77 k77_59 q77_59 := e_aload_aload_n 59 0 1 1 rfl (e_gf 60 86209 75 3 1 rfl rfl (e_iload_iload_n 63 0 2 2 rfl (e_iaload 64 0 (e_aload_aload_n 65 0 0 0 rfl (e_gf 66 265 40 4 9 rfl rfl (e_iadd 69 0 (kE77_70)))))))
set_option maxHeartbeats 100000 in
def k77_43 : ex_C := c_istore 5 (c_iload 4 (c_if_eq 59 (c_aload 1 (c_gf 3 1 (c_iload 2 (c_iaload (c_goto 70)))))))
set_option maxHeartbeats 100000 in
theorem kE77_43 : ex_CE 0 [] cd_77 k77_43 q77_43 := e_istore_istore 43 0 5 (e_iload_iload 45 0 4 (e_if_eq 47 59 12 (e_aload_aload_n 50 0 1 1 rfl (e_gf 51 86209 75 3 1 rfl rfl (e_iload_iload_n 54 0 2 2 rfl (e_iaload 55 0 (e_goto 56 70 14)))))))
set_option maxHeartbeats 100000 in
def k77_37 : ex_C := c_aload 1 (c_gf 3 0 (c_iload 2 (c_iaload (k77_43))))
set_option maxHeartbeats 100000 in
theorem kE77_37 : ex_CE 0 [] cd_77 k77_37 q77_37 := e_aload_aload_n 37 0 1 1 rfl (e_gf 38 86208 67 3 0 rfl rfl (e_iload_iload_n 41 0 2 2 rfl (e_iaload 42 0 (kE77_43))))
set_option maxHeartbeats 100000 in
def k77_16 : ex_C := c_istore 4 (c_iload 4 (c_if_eq 37 (c_aload 1 (c_gf 3 0 (c_iload 2 (c_iaload (c_aload 0 (c_gf 4 9 (c_iadd (c_goto 43))))))))))
set_option maxHeartbeats 100000 in
theorem kE77_16 : ex_CE 0 [] cd_77 k77_16 q77_16 := e_istore_istore 16 0 4 (e_iload_iload 18 0 4 (e_if_eq 20 37 17 (e_aload_aload_n 23 0 1 1 rfl (e_gf 24 86208 67 3 0 rfl rfl (e_iload_iload_n 27 0 2 2 rfl (e_iaload 28 0 (e_aload_aload_n 29 0 0 0 rfl (e_gf 30 265 40 4 9 rfl rfl (e_iadd 33 0 (e_goto 34 43 9))))))))))
set_option maxHeartbeats 100000 in
def k77_15 : ex_C := c_psh 0 (k77_16)
set_option maxHeartbeats 100000 in
theorem kE77_15 : ex_CE 0 [] cd_77 k77_15 q77_15 := e_psh_iconst 15 0 0 (kE77_16)
set_option maxHeartbeats 100000 in
def k77_0 : ex_C := c_aload 1 (c_gf 3 2 (c_iload 2 (c_iaload (c_psh 2 (c_irem   (c_if_ne 15 (c_psh 1 (c_goto 16))))))))
set_option maxHeartbeats 100000 in
theorem kE77_0 : ex_CE 0 [] cd_77 k77_0 q77_0 := e_aload_aload_n 0 0 1 1 rfl (e_gf 1 86210 105 3 2 rfl rfl (e_iload_iload_n 4 0 2 2 rfl (e_iaload 5 0 (e_psh_iconst 6 2 2 (e_irem 7 0  (e_if_ne 8 15 7 (e_psh_iconst 11 1 1 (e_goto 12 16 4))))))))
def kt_77 : Nat → Option ex_C := fun pc => @Bool.rec (fun _ => Nat → Option ex_C) (fun pc => @Bool.rec (fun _ => Nat → Option ex_C) (fun pc => @Bool.rec (fun _ => Nat → Option ex_C) (fun pc => @Bool.rec (fun _ => Nat → Option ex_C) (fun pc => @Bool.rec (fun _ => Option ex_C) none (some k77_186) (Nat.beq pc 186)) (fun pc => @Bool.rec (fun _ => Option ex_C) none (some k77_180) (Nat.beq pc 180)) (Nat.ble pc 180) pc) (fun pc => @Bool.rec (fun _ => Option ex_C) none (some k77_133) (Nat.beq pc 133)) (Nat.ble pc 133) pc) (fun pc => @Bool.rec (fun _ => Nat → Option ex_C) (fun pc => @Bool.rec (fun _ => Nat → Option ex_C) (fun pc => @Bool.rec (fun _ => Option ex_C) none (some k77_75) (Nat.beq pc 75)) (fun pc => @Bool.rec (fun _ => Option ex_C) none (some k77_70) (Nat.beq pc 70)) (Nat.ble pc 70) pc) (fun pc => @Bool.rec (fun _ => Option ex_C) none (some k77_59) (Nat.beq pc 59)) (Nat.ble pc 59) pc) (Nat.ble pc 75) pc) (fun pc => @Bool.rec (fun _ => Nat → Option ex_C) (fun pc => @Bool.rec (fun _ => Nat → Option ex_C) (fun pc => @Bool.rec (fun _ => Nat → Option ex_C) (fun pc => @Bool.rec (fun _ => Option ex_C) none (some k77_43) (Nat.beq pc 43)) (fun pc => @Bool.rec (fun _ => Option ex_C) none (some k77_37) (Nat.beq pc 37)) (Nat.ble pc 37) pc) (fun pc => @Bool.rec (fun _ => Option ex_C) none (some k77_16) (Nat.beq pc 16)) (Nat.ble pc 16) pc) (fun pc => @Bool.rec (fun _ => Nat → Option ex_C) (fun pc => @Bool.rec (fun _ => Option ex_C) none (some k77_15) (Nat.beq pc 15)) (fun pc => @Bool.rec (fun _ => Option ex_C) none (some k77_0) (Nat.beq pc 0)) (Nat.ble pc 0) pc) (Nat.ble pc 15) pc) (Nat.ble pc 43) pc
theorem ktE_77 : ex_CTT 0 [] cd_77 kt_77 cd_77 := (ex_ct2 (ex_ct2 (ex_ct2 (ex_ct1 kE77_0) (ex_ct1 kE77_15)) (ex_ct2 (ex_ct1 kE77_16) (ex_ct2 (ex_ct1 kE77_37) (ex_ct1 kE77_43)))) (ex_ct2 (ex_ct2 (ex_ct1 kE77_59) (ex_ct2 (ex_ct1 kE77_70) (ex_ct1 kE77_75))) (ex_ct2 (ex_ct1 kE77_133) (ex_ct2 (ex_ct1 kE77_180) (ex_ct1 kE77_186)))))
set_option maxHeartbeats 100000 in
def k78_30 : ex_C := c_return_  15
set_option maxHeartbeats 100000 in
theorem kE78_30 : ex_CE 15 [] cd_78 k78_30 q78_30 := e_return_ 30 0 
set_option maxHeartbeats 100000 in
def k78_24 : ex_C := c_aload 0 (c_aload 1 (c_psh 1 (c_invV [] cd_78 27 3 76 4 (k78_30))))
set_option maxHeartbeats 100000 in
theorem kE78_24 : ex_CE 15 [] cd_78 k78_24 q78_24 := e_aload_aload_n 24 0 0 0 rfl (e_aload_aload_n 25 0 1 1 rfl (e_psh_iconst 26 1 1 (e_invV_invokevirtual 27 753795 94 3 76 4 rfl rfl rfl rfl rfl rfl (kE78_30))))
set_option maxHeartbeats 100000 in
def k78_0 : ex_C := c_aload 0 (c_psh 2 (c_psh 0 (c_psh 0 (c_invV [] cd_78 4 4 69 4 (c_aload 0 (c_aload 1 (c_invV [] cd_78 9 2 73 4 (c_iload 2 (c_if_eq 24 (c_aload 0 (c_aload 1 (c_invV [] cd_78 18 2 79 4 (c_goto 30)))))))))))))
set_option maxHeartbeats 100000 in
theorem kE78_0 : ex_CE 15 [] cd_78 k78_0 q78_0 := e_aload_aload_n 0 0 0 0 rfl (e_psh_iconst 1 2 2 (e_psh_iconst 2 0 0 (e_psh_iconst 3 0 0 (e_invV_invokevirtual 4 696452 122 4 69 4 rfl rfl rfl rfl rfl rfl (e_aload_aload_n 7 0 0 0 rfl (e_aload_aload_n 8 0 1 1 rfl (e_invV_invokevirtual 9 729218 84 2 73 4 rfl rfl rfl rfl rfl rfl (e_iload_iload_n 12 0 2 2 rfl (e_if_eq 13 24 11 (e_aload_aload_n 16 0 0 0 rfl (e_aload_aload_n 17 0 1 1 rfl (e_invV_invokevirtual 18 778370 126 2 79 4 rfl rfl rfl rfl rfl rfl (e_goto 21 30 9)))))))))))))
def kt_78 : Nat → Option ex_C := fun pc => @Bool.rec (fun _ => Nat → Option ex_C) (fun pc => @Bool.rec (fun _ => Nat → Option ex_C) (fun pc => @Bool.rec (fun _ => Option ex_C) none (some k78_30) (Nat.beq pc 30)) (fun pc => @Bool.rec (fun _ => Option ex_C) none (some k78_24) (Nat.beq pc 24)) (Nat.ble pc 24) pc) (fun pc => @Bool.rec (fun _ => Option ex_C) none (some k78_0) (Nat.beq pc 0)) (Nat.ble pc 0) pc
theorem ktE_78 : ex_CTT 15 [] cd_78 kt_78 cd_78 := (ex_ct2 (ex_ct1 kE78_0) (ex_ct2 (ex_ct1 kE78_24) (ex_ct1 kE78_30)))
set_option maxHeartbeats 100000 in
def k79_206 : ex_C := c_return_  15
set_option maxHeartbeats 100000 in
theorem kE79_206 : ex_CE 15 [] cd_79 k79_206 q79_206 := e_return_ 206 0 
set_option maxHeartbeats 100000 in
def k79_200 : ex_C := c_iinc 2 1 (c_goto 2)
set_option maxHeartbeats 100000 in
theorem kE79_200 : ex_CE 15 [] cd_79 k79_200 q79_200 := e_iinc 200 1 2 1 (e_goto 203 2 (-201))
set_option maxHeartbeats 100000 in
def k79_194 : ex_C := c_iinc 7 1 (c_goto 86)
set_option maxHeartbeats 100000 in
theorem kE79_194 : ex_CE 15 [] cd_79 k79_194 q79_194 := e_iinc 194 1 7 1 (e_goto 197 86 (-111))
set_option maxHeartbeats 100000 in
def k79_86 : ex_C := c_iload 7 (c_aload 1 (c_gf 3 14 (c_icmp_ge 200 (c_aload 0 (c_gf 4 4 (c_iload 3 (c_iaload (c_if_ge 200 (c_aload 0 (c_gf 4 2 (c_iload 7 (c_iaload (c_istore 8 (c_aload 0 (c_gf 4 4 (c_iload 8 (c_iaload (c_if_ge 194 (c_aload 1 (c_gf 3 0 (c_iload 8 (c_iaload (c_iload 5 (c_icmp_ne 194 (c_aload 1 (c_gf 3 1 (c_iload 8 (c_iaload (c_iload 6 (c_icmp_ne 194 (c_aload 1 (c_gf 3 2 (c_iload 8 (c_iaload (c_aload 1 (c_gf 3 2 (c_iload 3 (c_iaload (c_icmp_ne 194 (c_aload 0 (c_gf 4 4 (c_iload 3 (c_iload 8 (c_iastore (c_aload 0 (c_gf 4 4 (c_iload 8 (c_iload 3 (c_iastore (c_aload 0 (c_gf 4 5 (c_iload 3 (c_psh 1 (c_iastore (c_aload 0 (c_gf 4 5 (c_iload 8 (c_psh 1 (c_iastore (k79_194))))))))))))))))))))))))))))))))))))))))))))))))))))))))))))
set_option maxHeartbeats 100000 in
theorem kE79_86 : ex_CE 15 [] cd_79 k79_86 q79_86 := e_iload_iload 86 0 7 (e_aload_aload_n 88 0 1 1 rfl (e_gf 89 206 51 3 14 rfl rfl (e_icmp_ge 92 200 108 (e_aload_aload_n 95 0 0 0 rfl (e_gf 96 86276 25 4 4 rfl rfl (e_iload_iload_n 99 0 3 3 rfl (e_iaload 100 0 (e_if_ge 101 200 99 (e_aload_aload_n 104 0 0 0 rfl (e_gf 105 86274 18 4 2 rfl rfl (e_iload_iload 108 0 7 (e_iaload 110 0 (e_istore_istore 111 0 8 (e_aload_aload_n 113 0 0 0 rfl (e_gf 114 86276 25 4 4 rfl rfl (e_iload_iload 117 0 8 (e_iaload 119 0 (e_if_ge 120 194 74 (e_aload_aload_n 123 0 1 1 rfl (e_gf 124 86208 67 3 0 rfl rfl (e_iload_iload 127 0 8 (e_iaload 129 0 (e_iload_iload 130 0 5 (e_icmp_ne 132 194 62 (e_aload_aload_n 135 0 1 1 rfl (e_gf 136 86209 75 3 1 rfl rfl (e_iload_iload 139 0 8 (e_iaload 141 0 (e_iload_iload 142 0 6 (e_icmp_ne 144 194 50 (e_aload_aload_n 147 0 1 1 rfl (e_gf 148 86210 105 3 2 rfl rfl (e_iload_iload 151 0 8 (e_iaload 153 0 (e_aload_aload_n 154 0 1 1 rfl (e_gf 155 86210 105 3 2 rfl rfl (e_iload_iload_n 158 0 3 3 rfl (e_iaload 159 0 (e_icmp_ne 160 194 34 (e_aload_aload_n 163 0 0 0 rfl (e_gf 164 86276 25 4 4 rfl rfl (e_iload_iload_n 167 0 3 3 rfl (e_iload_iload 168 0 8 (e_iastore 170 0 (e_aload_aload_n 171 0 0 0 rfl (e_gf 172 86276 25 4 4 rfl rfl (e_iload_iload 175 0 8 (e_iload_iload_n 177 0 3 3 rfl (e_iastore 178 0 (e_aload_aload_n 179 0 0 0 rfl (e_gf 180 86277 28 4 5 rfl rfl (e_iload_iload_n 183 0 3 3 rfl (e_psh_iconst 184 1 1 (e_iastore 185 0 (e_aload_aload_n 186 0 0 0 rfl (e_gf 187 86277 28 4 5 rfl rfl (e_iload_iload 190 0 8 (e_psh_iconst 192 1 1 (e_iastore 193 0 (kE79_194))))))))))))))))))))))))))))))))))))))))))))))))))))))))))))
set_option maxHeartbeats 100000 in
def k79_81 : ex_C := c_istore 6 (c_psh 0 (c_istore 7 (k79_86)))
set_option maxHeartbeats 100000 in
theorem kE79_81 : ex_CE 15 [] cd_79 k79_81 q79_81 := e_istore_istore 81 0 6 (e_psh_iconst 83 0 0 (e_istore_istore 84 0 7 (kE79_86)))
set_option maxHeartbeats 100000 in
def k79_73 : ex_C := c_aload 1 (c_gf 3 1 (c_iload 3 (c_iaload (c_psh 2 (c_iadd (k79_81))))))
set_option maxHeartbeats 100000 in
theorem kE79_73 : ex_CE 15 [] cd_79 k79_73 q79_73 := e_aload_aload_n 73 0 1 1 rfl (e_gf 74 86209 75 3 1 rfl rfl (e_iload_iload_n 77 0 3 3 rfl (e_iaload 78 0 (e_psh_iconst 79 2 2 (e_iadd 80 0 (kE79_81))))))
set_option maxHeartbeats 100000 in
def k79_57 : ex_C := c_istore 5 (c_iload 4 (c_if_eq 73 (c_aload 1 (c_gf 3 1 (c_iload 3 (c_iaload (c_goto 81)))))))
set_option maxHeartbeats 100000 in
theorem kE79_57 : ex_CE 15 [] cd_79 k79_57 q79_57 := e_istore_istore 57 0 5 (e_iload_iload 59 0 4 (e_if_eq 61 73 12 (e_aload_aload_n 64 0 1 1 rfl (e_gf 65 86209 75 3 1 rfl rfl (e_iload_iload_n 68 0 3 3 rfl (e_iaload 69 0 (e_goto 70 81 11)))))))
set_option maxHeartbeats 100000 in
def k79_51 : ex_C := c_aload 1 (c_gf 3 0 (c_iload 3 (c_iaload (k79_57))))
set_option maxHeartbeats 100000 in
theorem kE79_51 : ex_CE 15 [] cd_79 k79_51 q79_51 := e_aload_aload_n 51 0 1 1 rfl (e_gf 52 86208 67 3 0 rfl rfl (e_iload_iload_n 55 0 3 3 rfl (e_iaload 56 0 (kE79_57))))
set_option maxHeartbeats 100000 in
def k79_33 : ex_C := c_istore 4 (c_iload 4 (c_if_eq 51 (c_aload 1 (c_gf 3 0 (c_iload 3 (c_iaload (c_psh 2 (c_iadd (c_goto 57)))))))))
set_option maxHeartbeats 100000 in
theorem kE79_33 : ex_CE 15 [] cd_79 k79_33 q79_33 := e_istore_istore 33 0 4 (e_iload_iload 35 0 4 (e_if_eq 37 51 14 (e_aload_aload_n 40 0 1 1 rfl (e_gf 41 86208 67 3 0 rfl rfl (e_iload_iload_n 44 0 3 3 rfl (e_iaload 45 0 (e_psh_iconst 46 2 2 (e_iadd 47 0 (e_goto 48 57 9)))))))))
set_option maxHeartbeats 100000 in
def k79_32 : ex_C := c_psh 0 (k79_33)
set_option maxHeartbeats 100000 in
theorem kE79_32 : ex_CE 15 [] cd_79 k79_32 q79_32 := e_psh_iconst 32 0 0 (kE79_33)
set_option maxHeartbeats 100000 in
def k79_2 : ex_C := c_iload 2 (c_aload 1 (c_gf 3 14 (c_icmp_ge 206 (c_aload 0 (c_gf 4 2 (c_iload 2 (c_iaload (c_istore 3 (c_aload 1 (c_gf 3 2 (c_iload 3 (c_iaload (c_psh 2 (c_irem   (c_if_eq 32 (c_psh 1 (c_goto 33)))))))))))))))))
set_option maxHeartbeats 100000 in
theorem kE79_2 : ex_CE 15 [] cd_79 k79_2 q79_2 := e_iload_iload_n 2 0 2 2 rfl (e_aload_aload_n 3 0 1 1 rfl (e_gf 4 206 51 3 14 rfl rfl (e_icmp_ge 7 206 199 (e_aload_aload_n 10 0 0 0 rfl (e_gf 11 86274 18 4 2 rfl rfl (e_iload_iload_n 14 0 2 2 rfl (e_iaload 15 0 (e_istore_istore_n 16 0 3 3 rfl (e_aload_aload_n 17 0 1 1 rfl (e_gf 18 86210 105 3 2 rfl rfl (e_iload_iload_n 21 0 3 3 rfl (e_iaload 22 0 (e_psh_iconst 23 2 2 (e_irem 24 0  (e_if_eq 25 32 7 (e_psh_iconst 28 1 1 (e_goto 29 33 4)))))))))))))))))
set_option maxHeartbeats 100000 in
def k79_0 : ex_C := c_psh 0 (c_istore 2 (k79_2))
set_option maxHeartbeats 100000 in
theorem kE79_0 : ex_CE 15 [] cd_79 k79_0 q79_0 := e_psh_iconst 0 0 0 (e_istore_istore_n 1 0 2 2 rfl (kE79_2))
def kt_79 : Nat → Option ex_C := fun pc => @Bool.rec (fun _ => Nat → Option ex_C) (fun pc => @Bool.rec (fun _ => Nat → Option ex_C) (fun pc => @Bool.rec (fun _ => Nat → Option ex_C) (fun pc => @Bool.rec (fun _ => Nat → Option ex_C) (fun pc => @Bool.rec (fun _ => Option ex_C) none (some k79_206) (Nat.beq pc 206)) (fun pc => @Bool.rec (fun _ => Option ex_C) none (some k79_200) (Nat.beq pc 200)) (Nat.ble pc 200) pc) (fun pc => @Bool.rec (fun _ => Option ex_C) none (some k79_194) (Nat.beq pc 194)) (Nat.ble pc 194) pc) (fun pc => @Bool.rec (fun _ => Nat → Option ex_C) (fun pc => @Bool.rec (fun _ => Nat → Option ex_C) (fun pc => @Bool.rec (fun _ => Option ex_C) none (some k79_86) (Nat.beq pc 86)) (fun pc => @Bool.rec (fun _ => Option ex_C) none (some k79_81) (Nat.beq pc 81)) (Nat.ble pc 81) pc) (fun pc => @Bool.rec (fun _ => Option ex_C) none (some k79_73) (Nat.beq pc 73)) (Nat.ble pc 73) pc) (Nat.ble pc 86) pc) (fun pc => @Bool.rec (fun _ => Nat → Option ex_C) (fun pc => @Bool.rec (fun _ => Nat → Option ex_C) (fun pc => @Bool.rec (fun _ => Nat → Option ex_C) (fun pc => @Bool.rec (fun _ => Option ex_C) none (some k79_57) (Nat.beq pc 57)) (fun pc => @Bool.rec (fun _ => Option ex_C) none (some k79_51) (Nat.beq pc 51)) (Nat.ble pc 51) pc) (fun pc => @Bool.rec (fun _ => Option ex_C) none (some k79_33) (Nat.beq pc 33)) (Nat.ble pc 33) pc) (fun pc => @Bool.rec (fun _ => Nat → Option ex_C) (fun pc => @Bool.rec (fun _ => Nat → Option ex_C) (fun pc => @Bool.rec (fun _ => Option ex_C) none (some k79_32) (Nat.beq pc 32)) (fun pc => @Bool.rec (fun _ => Option ex_C) none (some k79_2) (Nat.beq pc 2)) (Nat.ble pc 2) pc) (fun pc => @Bool.rec (fun _ => Option ex_C) none (some k79_0) (Nat.beq pc 0)) (Nat.ble pc 0) pc) (Nat.ble pc 32) pc) (Nat.ble pc 57) pc
theorem ktE_79 : ex_CTT 15 [] cd_79 kt_79 cd_79 := (ex_ct2 (ex_ct2 (ex_ct2 (ex_ct1 kE79_0) (ex_ct2 (ex_ct1 kE79_2) (ex_ct1 kE79_32))) (ex_ct2 (ex_ct1 kE79_33) (ex_ct2 (ex_ct1 kE79_51) (ex_ct1 kE79_57)))) (ex_ct2 (ex_ct2 (ex_ct1 kE79_73) (ex_ct2 (ex_ct1 kE79_81) (ex_ct1 kE79_86))) (ex_ct2 (ex_ct1 kE79_194) (ex_ct2 (ex_ct1 kE79_200) (ex_ct1 kE79_206)))))
set_option maxHeartbeats 100000 in
def k80_119 : ex_C := c_return_  15
set_option maxHeartbeats 100000 in
theorem kE80_119 : ex_CE 15 [] cd_80 k80_119 q80_119 := e_return_ 119 0 
set_option maxHeartbeats 100000 in
def k80_113 : ex_C := c_iinc 2 1 (c_goto 2)
set_option maxHeartbeats 100000 in
theorem kE80_113 : ex_CE 15 [] cd_80 k80_113 q80_113 := e_iinc 113 1 2 1 (e_goto 116 2 (-114))
set_option maxHeartbeats 100000 in
def k80_2 : ex_C := c_iload 2 (c_aload 1 (c_gf 3 14 (c_icmp_ge 119 (c_aload 0 (c_gf 4 2 (c_iload 2 (c_iaload (c_istore 3 (c_aload 0 (c_aload 1 (c_iload 3 (c_psh 0 (c_aload 0 (c_gf 4 9 (c_invV [] cd_80 25 5 82 4 (c_istore 4 (c_aload 0 (c_aload 1 (c_iload 3 (c_aload 0 (c_gf 4 9 (c_psh 0 (c_invV [] cd_80 38 5 82 4 (c_istore 5 (c_aload 0 (c_aload 1 (c_iload 3 (c_aload 0 (c_gf 4 9 (c_aload 0 (c_gf 4 9 (c_invV [] cd_80 54 5 82 4 (c_istore 6 (c_aload 0 (c_iload 3 (c_invV [] cd_80 61 2 81 4 (c_if_eq 113 (c_iload 4 (c_if_lt 113 (c_iload 5 (c_if_lt 113 (c_iload 6 (c_if_lt 113 (c_aload 0 (c_aload 1 (c_iload 3 (c_iload 3 (c_invV [] cd_80 86 4 83 4 (c_aload 0 (c_aload 1 (c_iload 4 (c_iload 3 (c_invV [] cd_80 94 4 83 4 (c_aload 0 (c_aload 1 (c_iload 5 (c_iload 3 (c_invV [] cd_80 102 4 83 4 (c_aload 0 (c_aload 1 (c_iload 6 (c_iload 3 (c_invV [] cd_80 110 4 83 4 (k80_113))))))))))))))))))))))))))))))))))))))))))))))))))))))))))))))))
set_option maxHeartbeats 100000 in
theorem kE80_2 : ex_CE 15 [] cd_80 k80_2 q80_2 := e_iload_iload_n 2 0 2 2 rfl (e_aload_aload_n 3 0 1 1 rfl (e_gf 4 206 51 3 14 rfl rfl (e_icmp_ge 7 119 112 (e_aload_aload_n 10 0 0 0 rfl (e_gf 11 86274 18 4 2 rfl rfl (e_iload_iload_n 14 0 2 2 rfl (e_iaload 15 0 (e_istore_istore_n 16 0 3 3 rfl (e_aload_aload_n 17 0 0 0 rfl (e_aload_aload_n 18 0 1 1 rfl (e_iload_iload_n 19 0 3 3 rfl (e_psh_iconst 20 0 0 (e_aload_aload_n 21 0 0 0 rfl (e_gf 22 265 40 4 9 rfl rfl (e_invV_invokevirtual 25 802949 129 5 82 4 rfl rfl rfl rfl rfl rfl (e_istore_istore 28 0 4 (e_aload_aload_n 30 0 0 0 rfl (e_aload_aload_n 31 0 1 1 rfl (e_iload_iload_n 32 0 3 3 rfl (e_aload_aload_n 33 0 0 0 rfl (e_gf 34 265 40 4 9 rfl rfl (e_psh_iconst 37 0 0 (e_invV_invokevirtual 38 802949 129 5 82 4 rfl rfl rfl rfl rfl rfl (e_istore_istore 41 0 5 (e_aload_aload_n 43 0 0 0 rfl (e_aload_aload_n 44 0 1 1 rfl (e_iload_iload_n 45 0 3 3 rfl (e_aload_aload_n 46 0 0 0 rfl (e_gf 47 265 40 4 9 rfl rfl (e_aload_aload_n 50 0 0 0 rfl (e_gf 51 265 40 4 9 rfl rfl (e_invV_invokevirtual 54 802949 129 5 82 4 rfl rfl rfl rfl rfl rfl (e_istore_istore 57 0 6 (e_aload_aload_n 59 0 0 0 rfl (e_iload_iload_n 60 0 3 3 rfl (e_invV_invokevirtual 61 794754 133 2 81 4 rfl rfl rfl rfl rfl rfl (e_if_eq 64 113 49 (e_iload_iload 67 0 4 (e_if_lt 69 113 44 (e_iload_iload 72 0 5 (e_if_lt 74 113 39 (e_iload_iload 77 0 6 (e_if_lt 79 113 34 (e_aload_aload_n 82 0 0 0 rfl (e_aload_aload_n 83 0 1 1 rfl (e_iload_iload_n 84 0 3 3 rfl (e_iload_iload_n 85 0 3 3 rfl (e_invV_invokevirtual 86 811140 137 4 83 4 rfl rfl rfl rfl rfl rfl (e_aload_aload_n 89 0 0 0 rfl (e_aload_aload_n 90 0 1 1 rfl (e_iload_iload 91 0 4 (e_iload_iload_n 93 0 3 3 rfl (e_invV_invokevirtual 94 811140 137 4 83 4 rfl rfl rfl rfl rfl rfl (e_aload_aload_n 97 0 0 0 rfl (e_aload_aload_n 98 0 1 1 rfl (e_iload_iload 99 0 5 (e_iload_iload_n 101 0 3 3 rfl (e_invV_invokevirtual 102 811140 137 4 83 4 rfl rfl rfl rfl rfl rfl (e_aload_aload_n 105 0 0 0 rfl (e_aload_aload_n 106 0 1 1 rfl (e_iload_iload 107 0 6 (e_iload_iload_n 109 0 3 3 rfl (e_invV_invokevirtual 110 811140 137 4 83 4 rfl rfl rfl rfl rfl rfl (kE80_113))))))))))))))))))))))))))))))))))))))))))))))))))))))))))))))))
set_option maxHeartbeats 100000 in
def k80_0 : ex_C := c_psh 0 (c_istore 2 (k80_2))
set_option maxHeartbeats 100000 in
theorem kE80_0 : ex_CE 15 [] cd_80 k80_0 q80_0 := e_psh_iconst 0 0 0 (e_istore_istore_n 1 0 2 2 rfl (kE80_2))
def kt_80 : Nat → Option ex_C := fun pc => @Bool.rec (fun _ => Nat → Option ex_C) (fun pc => @Bool.rec (fun _ => Nat → Option ex_C) (fun pc => @Bool.rec (fun _ => Option ex_C) none (some k80_119) (Nat.beq pc 119)) (fun pc => @Bool.rec (fun _ => Option ex_C) none (some k80_113) (Nat.beq pc 113)) (Nat.ble pc 113) pc) (fun pc => @Bool.rec (fun _ => Nat → Option ex_C) (fun pc => @Bool.rec (fun _ => Option ex_C) none (some k80_2) (Nat.beq pc 2)) (fun pc => @Bool.rec (fun _ => Option ex_C) none (some k80_0) (Nat.beq pc 0)) (Nat.ble pc 0) pc) (Nat.ble pc 2) pc
theorem ktE_80 : ex_CTT 15 [] cd_80 kt_80 cd_80 := (ex_ct2 (ex_ct2 (ex_ct1 kE80_0) (ex_ct1 kE80_2)) (ex_ct2 (ex_ct1 kE80_113) (ex_ct1 kE80_119)))
set_option maxHeartbeats 100000 in
def k81_32 : ex_C := c_ireturn  1
set_option maxHeartbeats 100000 in
theorem kE81_32 : ex_CE 1 [] cd_81 k81_32 q81_32 := e_ireturn 32 0 
set_option maxHeartbeats 100000 in
def k81_31 : ex_C := c_psh 0 (k81_32)
set_option maxHeartbeats 100000 in
theorem kE81_31 : ex_CE 1 [] cd_81 k81_31 q81_31 := e_psh_iconst 31 0 0 (kE81_32)
set_option maxHeartbeats 100000 in
def k81_0 : ex_C := c_aload 0 (c_gf 4 1 (c_iload 1 (c_baload (c_if_eq 31 (c_aload 0 (c_gf 4 6 (c_iload 1 (c_baload (c_if_ne 31 (c_aload 0 (c_gf 4 3 (c_iload 1 (c_iaload (c_if_lt 31 (c_psh 1 (c_goto 32))))))))))))))))
set_option maxHeartbeats 100000 in
theorem kE81_0 : ex_CE 1 [] cd_81 k81_0 q81_0 := e_aload_aload_n 0 0 0 0 rfl (e_gf 1 86273 15 4 1 rfl rfl (e_iload_iload_n 4 0 1 1 rfl (e_baload 5 0 (e_if_eq 6 31 25 (e_aload_aload_n 9 0 0 0 rfl (e_gf 10 86278 31 4 6 rfl rfl (e_iload_iload_n 13 0 1 1 rfl (e_baload 14 0 (e_if_ne 15 31 16 (e_aload_aload_n 18 0 0 0 rfl (e_gf 19 86275 22 4 3 rfl rfl (e_iload_iload_n 22 0 1 1 rfl (e_iaload 23 0 (e_if_lt 24 31 7 (e_psh_iconst 27 1 1 (e_goto 28 32 4))))))))))))))))
def kt_81 : Nat → Option ex_C := fun pc => @Bool.rec (fun _ => Nat → Option ex_C) (fun pc => @Bool.rec (fun _ => Nat → Option ex_C) (fun pc => @Bool.rec (fun _ => Option ex_C) none (some k81_32) (Nat.beq pc 32)) (fun pc => @Bool.rec (fun _ => Option ex_C) none (some k81_31) (Nat.beq pc 31)) (Nat.ble pc 31) pc) (fun pc => @Bool.rec (fun _ => Option ex_C) none (some k81_0) (Nat.beq pc 0)) (Nat.ble pc 0) pc
theorem ktE_81 : ex_CTT 1 [] cd_81 kt_81 cd_81 := (ex_ct2 (ex_ct1 kE81_0) (ex_ct2 (ex_ct1 kE81_31) (ex_ct1 kE81_32)))
set_option maxHeartbeats 100000 in
def k82_92 : ex_C := c_psh 4294967295 (c_ireturn  0)
set_option maxHeartbeats 100000 in
theorem kE82_92 : ex_CE 0 [] cd_82 k82_92 q82_92 := e_psh_iconst 92 4294967295 (-1) (e_ireturn 93 0 )
set_option maxHeartbeats 100000 in
def k82_86 : ex_C := c_iinc 5 1 (c_goto 3)
set_option maxHeartbeats 100000 in
theorem kE82_86 : ex_CE 0 [] cd_82 k82_86 q82_86 := e_iinc 86 1 5 1 (e_goto 89 3 (-86))
set_option maxHeartbeats 100000 in
def k82_3 : ex_C := c_iload 5 (c_aload 1 (c_gf 3 14 (c_icmp_ge 92 (c_aload 0 (c_gf 4 2 (c_iload 5 (c_iaload (c_istore 6 (c_aload 0 (c_iload 6 (c_invV [] cd_82 24 2 81 4 (c_if_eq 86 (c_aload 0 (c_gf 4 3 (c_iload 6 (c_iaload (c_aload 0 (c_gf 4 3 (c_iload 2 (c_iaload (c_icmp_ne 86 (c_aload 1 (c_gf 3 0 (c_iload 6 (c_iaload (c_aload 1 (c_gf 3 0 (c_iload 2 (c_iaload (c_iload 3 (c_iadd (c_icmp_ne 86 (c_aload 1 (c_gf 3 1 (c_iload 6 (c_iaload (c_aload 1 (c_gf 3 1 (c_iload 2 (c_iaload (c_iload 4 (c_iadd (c_icmp_ne 86 (c_iload 6 (c_ireturn  0)))))))))))))))))))))))))))))))))))))))))))))
set_option maxHeartbeats 100000 in
theorem kE82_3 : ex_CE 0 [] cd_82 k82_3 q82_3 := e_iload_iload 3 0 5 (e_aload_aload_n 5 0 1 1 rfl (e_gf 6 206 51 3 14 rfl rfl (e_icmp_ge 9 92 83 (e_aload_aload_n 12 0 0 0 rfl (e_gf 13 86274 18 4 2 rfl rfl (e_iload_iload 16 0 5 (e_iaload 18 0 (e_istore_istore 19 0 6 (e_aload_aload_n 21 0 0 0 rfl (e_iload_iload 22 0 6 (e_invV_invokevirtual 24 794754 133 2 81 4 rfl rfl rfl rfl rfl rfl (e_if_eq 27 86 59 (e_aload_aload_n 30 0 0 0 rfl (e_gf 31 86275 22 4 3 rfl rfl (e_iload_iload 34 0 6 (e_iaload 36 0 (e_aload_aload_n 37 0 0 0 rfl (e_gf 38 86275 22 4 3 rfl rfl (e_iload_iload_n 41 0 2 2 rfl (e_iaload 42 0 (e_icmp_ne 43 86 43 (e_aload_aload_n 46 0 1 1 rfl (e_gf 47 86208 67 3 0 rfl rfl (e_iload_iload 50 0 6 (e_iaload 52 0 (e_aload_aload_n 53 0 1 1 rfl (e_gf 54 86208 67 3 0 rfl rfl (e_iload_iload_n 57 0 2 2 rfl (e_iaload 58 0 (e_iload_iload_n 59 0 3 3 rfl (e_iadd 60 0 (e_icmp_ne 61 86 25 (e_aload_aload_n 64 0 1 1 rfl (e_gf 65 86209 75 3 1 rfl rfl (e_iload_iload 68 0 6 (e_iaload 70 0 (e_aload_aload_n 71 0 1 1 rfl (e_gf 72 86209 75 3 1 rfl rfl (e_iload_iload_n 75 0 2 2 rfl (e_iaload 76 0 (e_iload_iload 77 0 4 (e_iadd 79 0 (e_icmp_ne 80 86 6 (e_iload_iload 83 0 6 (e_ireturn 85 0 )))))))))))))))))))))))))))))))))))))))))))))
set_option maxHeartbeats 100000 in
def k82_0 : ex_C := c_psh 0 (c_istore 5 (k82_3))
set_option maxHeartbeats 100000 in
theorem kE82_0 : ex_CE 0 [] cd_82 k82_0 q82_0 := e_psh_iconst 0 0 0 (e_istore_istore 1 0 5 (kE82_3))
def kt_82 : Nat → Option ex_C := fun pc => @Bool.rec (fun _ => Nat → Option ex_C) (fun pc => @Bool.rec (fun _ => Nat → Option ex_C) (fun pc => @Bool.rec (fun _ => Option ex_C) none (some k82_92) (Nat.beq pc 92)) (fun pc => @Bool.rec (fun _ => Option ex_C) none (some k82_86) (Nat.beq pc 86)) (Nat.ble pc 86) pc) (fun pc => @Bool.rec (fun _ => Nat → Option ex_C) (fun pc => @Bool.rec (fun _ => Option ex_C) none (some k82_3) (Nat.beq pc 3)) (fun pc => @Bool.rec (fun _ => Option ex_C) none (some k82_0) (Nat.beq pc 0)) (Nat.ble pc 0) pc) (Nat.ble pc 3) pc
theorem ktE_82 : ex_CTT 0 [] cd_82 kt_82 cd_82 := (ex_ct2 (ex_ct2 (ex_ct1 kE82_0) (ex_ct1 kE82_3)) (ex_ct2 (ex_ct1 kE82_86) (ex_ct1 kE82_92)))
set_option maxHeartbeats 100000 in
def k83_0 : ex_C := c_aload 0 (c_gf 4 6 (c_iload 2 (c_psh 1 (c_bastore (c_aload 0 (c_gf 4 7 (c_iload 2 (c_aload 1 (c_gf 3 0 (c_iload 3 (c_iaload (c_iastore (c_aload 0 (c_gf 4 8 (c_iload 2 (c_aload 1 (c_gf 3 1 (c_iload 3 (c_iaload (c_iastore (c_return_  15)))))))))))))))))))))
set_option maxHeartbeats 100000 in
theorem kE83_0 : ex_CE 15 [] cd_83 k83_0 q83_0 := e_aload_aload_n 0 0 0 0 rfl (e_gf 1 86278 31 4 6 rfl rfl (e_iload_iload_n 4 0 2 2 rfl (e_psh_iconst 5 1 1 (e_bastore 6 0 (e_aload_aload_n 7 0 0 0 rfl (e_gf 8 86279 34 4 7 rfl rfl (e_iload_iload_n 11 0 2 2 rfl (e_aload_aload_n 12 0 1 1 rfl (e_gf 13 86208 67 3 0 rfl rfl (e_iload_iload_n 16 0 3 3 rfl (e_iaload 17 0 (e_iastore 18 0 (e_aload_aload_n 19 0 0 0 rfl (e_gf 20 86280 37 4 8 rfl rfl (e_iload_iload_n 23 0 2 2 rfl (e_aload_aload_n 24 0 1 1 rfl (e_gf 25 86209 75 3 1 rfl rfl (e_iload_iload_n 28 0 3 3 rfl (e_iaload 29 0 (e_iastore 30 0 (e_return_ 31 0 )))))))))))))))))))))
def kt_83 : Nat → Option ex_C := fun pc => @Bool.rec (fun _ => Option ex_C) none (some k83_0) (Nat.beq pc 0)
theorem ktE_83 : ex_CTT 15 [] cd_83 kt_83 cd_83 := (ex_ct1 kE83_0)
set_option maxHeartbeats 100000 in
def k84_63 : ex_C := c_iload 3 (c_ireturn  0)
set_option maxHeartbeats 100000 in
theorem kE84_63 : ex_CE 0 [] cd_84 k84_63 q84_63 := e_iload_iload_n 63 0 3 3 rfl (e_ireturn 64 0 )
set_option maxHeartbeats 100000 in
def k84_57 : ex_C := c_iinc 4 1 (c_goto 5)
set_option maxHeartbeats 100000 in
theorem kE84_57 : ex_CE 0 [] cd_84 k84_57 q84_57 := e_iinc 57 1 4 1 (e_goto 60 5 (-55))
set_option maxHeartbeats 100000 in
def k84_49 : ex_C := c_aload 1 (c_gf 3 3 (c_iload 4 (c_iaload (c_istore 3 (k84_57)))))
set_option maxHeartbeats 100000 in
theorem kE84_49 : ex_CE 0 [] cd_84 k84_49 q84_49 := e_aload_aload_n 49 0 1 1 rfl (e_gf 50 86211 102 3 3 rfl rfl (e_iload_iload 53 0 4 (e_iaload 55 0 (e_istore_istore_n 56 0 3 3 rfl (kE84_57)))))
set_option maxHeartbeats 100000 in
def k84_5 : ex_C := c_iload 4 (c_aload 1 (c_gf 3 14 (c_icmp_ge 63 (c_aload 0 (c_gf 4 1 (c_iload 4 (c_baload (c_if_eq 57 (c_aload 0 (c_iload 4 (c_iload 2 (c_invV [] cd_84 28 3 85 4 (c_if_ne 57 (c_iload 3 (c_if_lt 49 (c_aload 1 (c_gf 3 3 (c_iload 4 (c_iaload (c_iload 3 (c_icmp_ge 57 (k84_49))))))))))))))))))))))
set_option maxHeartbeats 100000 in
theorem kE84_5 : ex_CE 0 [] cd_84 k84_5 q84_5 := e_iload_iload 5 0 4 (e_aload_aload_n 7 0 1 1 rfl (e_gf 8 206 51 3 14 rfl rfl (e_icmp_ge 11 63 52 (e_aload_aload_n 14 0 0 0 rfl (e_gf 15 86273 15 4 1 rfl rfl (e_iload_iload 18 0 4 (e_baload 20 0 (e_if_eq 21 57 36 (e_aload_aload_n 24 0 0 0 rfl (e_iload_iload 25 0 4 (e_iload_iload_n 27 0 2 2 rfl (e_invV_invokevirtual 28 827523 141 3 85 4 rfl rfl rfl rfl rfl rfl (e_if_ne 31 57 26 (e_iload_iload_n 34 0 3 3 rfl (e_if_lt 35 49 14 (e_aload_aload_n 38 0 1 1 rfl (e_gf 39 86211 102 3 3 rfl rfl (e_iload_iload 42 0 4 (e_iaload 44 0 (e_iload_iload_n 45 0 3 3 rfl (e_icmp_ge 46 57 11 (kE84_49))))))))))))))))))))))
set_option maxHeartbeats 100000 in
def k84_0 : ex_C := c_psh 4294967295 (c_istore 3 (c_psh 0 (c_istore 4 (k84_5))))
set_option maxHeartbeats 100000 in
theorem kE84_0 : ex_CE 0 [] cd_84 k84_0 q84_0 := e_psh_iconst 0 4294967295 (-1) (e_istore_istore_n 1 0 3 3 rfl (e_psh_iconst 2 0 0 (e_istore_istore 3 0 4 (kE84_5))))
def kt_84 : Nat → Option ex_C := fun pc => @Bool.rec (fun _ => Nat → Option ex_C) (fun pc => @Bool.rec (fun _ => Nat → Option ex_C) (fun pc => @Bool.rec (fun _ => Nat → Option ex_C) (fun pc => @Bool.rec (fun _ => Option ex_C) none (some k84_63) (Nat.beq pc 63)) (fun pc => @Bool.rec (fun _ => Option ex_C) none (some k84_57) (Nat.beq pc 57)) (Nat.ble pc 57) pc) (fun pc => @Bool.rec (fun _ => Option ex_C) none (some k84_49) (Nat.beq pc 49)) (Nat.ble pc 49) pc) (fun pc => @Bool.rec (fun _ => Nat → Option ex_C) (fun pc => @Bool.rec (fun _ => Option ex_C) none (some k84_5) (Nat.beq pc 5)) (fun pc => @Bool.rec (fun _ => Option ex_C) none (some k84_0) (Nat.beq pc 0)) (Nat.ble pc 0) pc) (Nat.ble pc 5) pc
theorem ktE_84 : ex_CTT 0 [] cd_84 kt_84 cd_84 := (ex_ct2 (ex_ct2 (ex_ct1 kE84_0) (ex_ct1 kE84_5)) (ex_ct2 (ex_ct1 kE84_49) (ex_ct2 (ex_ct1 kE84_57) (ex_ct1 kE84_63))))
set_option maxHeartbeats 100000 in
def k85_105 : ex_C := c_ireturn  1
set_option maxHeartbeats 100000 in
theorem kE85_105 : ex_CE 1 [] cd_85 k85_105 q85_105 := e_ireturn 105 0 
set_option maxHeartbeats 100000 in
def k85_104 : ex_C := c_psh 0 (k85_105)
set_option maxHeartbeats 100000 in
theorem kE85_104 : ex_CE 1 [] cd_85 k85_104 q85_104 := e_psh_iconst 104 0 0 (kE85_105)
set_option maxHeartbeats 100000 in
def k85_100 : ex_C := c_psh 1 (c_goto 105)
set_option maxHeartbeats 100000 in
theorem kE85_100 : ex_CE 1 [] cd_85 k85_100 q85_100 := e_psh_iconst 100 1 1 (e_goto 101 105 4)
set_option maxHeartbeats 100000 in
def k85_85 : ex_C := c_iload 2 (c_psh 12 (c_icmp_ne 100 (c_aload 0 (c_gf 4 1 (c_iload 3 (c_baload (c_if_ne 104 (k85_100))))))))
set_option maxHeartbeats 100000 in
theorem kE85_85 : ex_CE 1 [] cd_85 k85_85 q85_85 := e_iload_iload_n 85 0 2 2 rfl (e_psh_bipush 86 12 12 (e_icmp_ne 88 100 12 (e_aload_aload_n 91 0 0 0 rfl (e_gf 92 86273 15 4 1 rfl rfl (e_iload_iload_n 95 0 3 3 rfl (e_baload 96 0 (e_if_ne 97 104 7 (kE85_100))))))))
set_option maxHeartbeats 100000 in
def k85_81 : ex_C := c_psh 0 (c_goto 105)
set_option maxHeartbeats 100000 in
theorem kE85_81 : ex_CE 1 [] cd_85 k85_81 q85_81 := e_psh_iconst 81 0 0 (e_goto 82 105 23)
set_option maxHeartbeats 100000 in
def k85_61 : ex_C := c_iload 2 (c_psh 9 (c_icmp_ne 85 (c_aload 0 (c_gf 4 5 (c_iload 1 (c_iaload (c_psh 1 (c_icmp_ne 81 (c_psh 1 (c_goto 105))))))))))
set_option maxHeartbeats 100000 in
theorem kE85_61 : ex_CE 1 [] cd_85 k85_61 q85_61 := e_iload_iload_n 61 0 2 2 rfl (e_psh_bipush 62 9 9 (e_icmp_ne 64 85 21 (e_aload_aload_n 67 0 0 0 rfl (e_gf 68 86277 28 4 5 rfl rfl (e_iload_iload_n 71 0 1 1 rfl (e_iaload 72 0 (e_psh_iconst 73 1 1 (e_icmp_ne 74 81 7 (e_psh_iconst 77 1 1 (e_goto 78 105 27))))))))))
set_option maxHeartbeats 100000 in
def k85_60 : ex_C := c_ireturn  1
set_option maxHeartbeats 100000 in
theorem kE85_60 : ex_CE 1 [] cd_85 k85_60 q85_60 := e_ireturn 60 0 
set_option maxHeartbeats 100000 in
def k85_59 : ex_C := c_psh 0 (k85_60)
set_option maxHeartbeats 100000 in
theorem kE85_59 : ex_CE 1 [] cd_85 k85_59 q85_59 := e_psh_iconst 59 0 0 (kE85_60)
set_option maxHeartbeats 100000 in
def k85_45 : ex_C := c_aload 0 (c_gf 4 5 (c_iload 1 (c_iaload (c_psh 1 (c_icmp_eq 59 (c_psh 1 (c_goto 60)))))))
set_option maxHeartbeats 100000 in
theorem kE85_45 : ex_CE 1 [] cd_85 k85_45 q85_45 := e_aload_aload_n 45 0 0 0 rfl (e_gf 46 86277 28 4 5 rfl rfl (e_iload_iload_n 49 0 1 1 rfl (e_iaload 50 0 (e_psh_iconst 51 1 1 (e_icmp_eq 52 59 7 (e_psh_iconst 55 1 1 (e_goto 56 60 4)))))))
set_option maxHeartbeats 100000 in
def k85_33 : ex_C := c_iload 2 (c_psh 6 (c_icmp_eq 45 (c_iload 2 (c_psh 7 (c_icmp_ne 61 (k85_45))))))
set_option maxHeartbeats 100000 in
theorem kE85_33 : ex_CE 1 [] cd_85 k85_33 q85_33 := e_iload_iload_n 33 0 2 2 rfl (e_psh_bipush 34 6 6 (e_icmp_eq 36 45 9 (e_iload_iload_n 39 0 2 2 rfl (e_psh_bipush 40 7 7 (e_icmp_ne 42 61 19 (kE85_45))))))
set_option maxHeartbeats 100000 in
def k85_20 : ex_C := c_aload 0 (c_gf 4 4 (c_iload 1 (c_iaload (c_istore 3 (c_iload 3 (c_if_ge 33 (c_psh 0 (c_ireturn  1))))))))
set_option maxHeartbeats 100000 in
theorem kE85_20 : ex_CE 1 [] cd_85 k85_20 q85_20 := e_aload_aload_n 20 0 0 0 rfl (e_gf 21 86276 25 4 4 rfl rfl (e_iload_iload_n 24 0 1 1 rfl (e_iaload 25 0 (e_istore_istore_n 26 0 3 3 rfl (e_iload_iload_n 27 0 3 3 rfl (e_if_ge 28 33 5 (e_psh_iconst 31 0 0 (e_ireturn 32 0 ))))))))
set_option maxHeartbeats 100000 in
def k85_7 : ex_C := c_iload 2 (c_psh 11 (c_icmp_ne 20 (c_aload 0 (c_gf 4 6 (c_iload 1 (c_baload (c_ireturn  1)))))))
set_option maxHeartbeats 100000 in
theorem kE85_7 : ex_CE 1 [] cd_85 k85_7 q85_7 := e_iload_iload_n 7 0 2 2 rfl (e_psh_bipush 8 11 11 (e_icmp_ne 10 20 10 (e_aload_aload_n 13 0 0 0 rfl (e_gf 14 86278 31 4 6 rfl rfl (e_iload_iload_n 17 0 1 1 rfl (e_baload 18 0 (e_ireturn 19 0 )))))))
set_option maxHeartbeats 100000 in
def k85_0 : ex_C := c_iload 2 (c_psh 4 (c_icmp_ge 7 (c_psh 1 (c_ireturn  1))))
set_option maxHeartbeats 100000 in
theorem kE85_0 : ex_CE 1 [] cd_85 k85_0 q85_0 := e_iload_iload_n 0 0 2 2 rfl (e_psh_iconst 1 4 4 (e_icmp_ge 2 7 5 (e_psh_iconst 5 1 1 (e_ireturn 6 0 ))))
def kt_85 : Nat → Option ex_C := fun pc => @Bool.rec (fun _ => Nat → Option ex_C) (fun pc => @Bool.rec (fun _ => Nat → Option ex_C) (fun pc => @Bool.rec (fun _ => Nat → Option ex_C) (fun pc => @Bool.rec (fun _ => Nat → Option ex_C) (fun pc => @Bool.rec (fun _ => Option ex_C) none (some k85_105) (Nat.beq pc 105)) (fun pc => @Bool.rec (fun _ => Option ex_C) none (some k85_104) (Nat.beq pc 104)) (Nat.ble pc 104) pc) (fun pc => @Bool.rec (fun _ => Nat → Option ex_C) (fun pc => @Bool.rec (fun _ => Option ex_C) none (some k85_100) (Nat.beq pc 100)) (fun pc => @Bool.rec (fun _ => Option ex_C) none (some k85_85) (Nat.beq pc 85)) (Nat.ble pc 85) pc) (Nat.ble pc 100) pc) (fun pc => @Bool.rec (fun _ => Nat → Option ex_C) (fun pc => @Bool.rec (fun _ => Nat → Option ex_C) (fun pc => @Bool.rec (fun _ => Option ex_C) none (some k85_81) (Nat.beq pc 81)) (fun pc => @Bool.rec (fun _ => Option ex_C) none (some k85_61) (Nat.beq pc 61)) (Nat.ble pc 61) pc) (fun pc => @Bool.rec (fun _ => Option ex_C) none (some k85_60) (Nat.beq pc 60)) (Nat.ble pc 60) pc) (Nat.ble pc 81) pc) (fun pc => @Bool.rec (fun _ => Nat → Option ex_C) (fun pc => @Bool.rec (fun _ => Nat → Option ex_C) (fun pc => @Bool.rec (fun _ => Nat → Option ex_C) (fun pc => @Bool.rec (fun _ => Option ex_C) none (some k85_59) (Nat.beq pc 59)) (fun pc => @Bool.rec (fun _ => Option ex_C) none (some k85_45) (Nat.beq pc 45)) (Nat.ble pc 45) pc) (fun pc => @Bool.rec (fun _ => Option ex_C) none (some k85_33) (Nat.beq pc 33)) (Nat.ble pc 33) pc) (fun pc => @Bool.rec (fun _ => Nat → Option ex_C) (fun pc => @Bool.rec (fun _ => Nat → Option ex_C) (fun pc => @Bool.rec (fun _ => Option ex_C) none (some k85_20) (Nat.beq pc 20)) (fun pc => @Bool.rec (fun _ => Option ex_C) none (some k85_7) (Nat.beq pc 7)) (Nat.ble pc 7) pc) (fun pc => @Bool.rec (fun _ => Option ex_C) none (some k85_0) (Nat.beq pc 0)) (Nat.ble pc 0) pc) (Nat.ble pc 20) pc) (Nat.ble pc 59) pc
theorem ktE_85 : ex_CTT 1 [] cd_85 kt_85 cd_85 := (ex_ct2 (ex_ct2 (ex_ct2 (ex_ct1 kE85_0) (ex_ct2 (ex_ct1 kE85_7) (ex_ct1 kE85_20))) (ex_ct2 (ex_ct1 kE85_33) (ex_ct2 (ex_ct1 kE85_45) (ex_ct1 kE85_59)))) (ex_ct2 (ex_ct2 (ex_ct1 kE85_60) (ex_ct2 (ex_ct1 kE85_61) (ex_ct1 kE85_81))) (ex_ct2 (ex_ct2 (ex_ct1 kE85_85) (ex_ct1 kE85_100)) (ex_ct2 (ex_ct1 kE85_104) (ex_ct1 kE85_105)))))
set_option maxHeartbeats 100000 in
def k86_74 : ex_C := c_return_  15
set_option maxHeartbeats 100000 in
theorem kE86_74 : ex_CE 15 [] cd_86 k86_74 q86_74 := e_return_ 74 0 
set_option maxHeartbeats 100000 in
def k86_68 : ex_C := c_iinc 3 1 (c_goto 20)
set_option maxHeartbeats 100000 in
theorem kE86_68 : ex_CE 15 [] cd_86 k86_68 q86_68 := e_iinc 68 1 3 1 (e_goto 71 20 (-51))
set_option maxHeartbeats 100000 in
def k86_57 : ex_C := c_aload 1 (c_iload 3 (c_aload 0 (c_gf 4 5 (c_iload 3 (c_iaload (c_invV [] cd_86 65 3 19 3 (k86_68)))))))
set_option maxHeartbeats 100000 in
theorem kE86_57 : ex_CE 15 [] cd_86 k86_57 q86_57 := e_aload_aload_n 57 0 1 1 rfl (e_iload_iload_n 58 0 3 3 rfl (e_aload_aload_n 59 0 0 0 rfl (e_gf 60 86277 28 4 5 rfl rfl (e_iload_iload_n 63 0 3 3 rfl (e_iaload 64 0 (e_invV_invokevirtual 65 286819 145 3 19 3 rfl rfl rfl rfl rfl rfl (kE86_68)))))))
set_option maxHeartbeats 100000 in
def k86_20 : ex_C := c_iload 3 (c_aload 1 (c_gf 3 14 (c_icmp_ge 74 (c_aload 0 (c_gf 4 1 (c_iload 3 (c_baload (c_if_eq 68 (c_aload 0 (c_gf 4 5 (c_iload 3 (c_iaload (c_psh 2 (c_icmp_eq 57 (c_aload 0 (c_gf 4 5 (c_iload 3 (c_iaload (c_psh 3 (c_icmp_ne 68 (k86_57)))))))))))))))))))))
set_option maxHeartbeats 100000 in
theorem kE86_20 : ex_CE 15 [] cd_86 k86_20 q86_20 := e_iload_iload_n 20 0 3 3 rfl (e_aload_aload_n 21 0 1 1 rfl (e_gf 22 206 51 3 14 rfl rfl (e_icmp_ge 25 74 49 (e_aload_aload_n 28 0 0 0 rfl (e_gf 29 86273 15 4 1 rfl rfl (e_iload_iload_n 32 0 3 3 rfl (e_baload 33 0 (e_if_eq 34 68 34 (e_aload_aload_n 37 0 0 0 rfl (e_gf 38 86277 28 4 5 rfl rfl (e_iload_iload_n 41 0 3 3 rfl (e_iaload 42 0 (e_psh_iconst 43 2 2 (e_icmp_eq 44 57 13 (e_aload_aload_n 47 0 0 0 rfl (e_gf 48 86277 28 4 5 rfl rfl (e_iload_iload_n 51 0 3 3 rfl (e_iaload 52 0 (e_psh_iconst 53 3 3 (e_icmp_ne 54 68 14 (kE86_57)))))))))))))))))))))
set_option maxHeartbeats 100000 in
def k86_18 : ex_C := c_psh 0 (c_istore 3 (k86_20))
set_option maxHeartbeats 100000 in
theorem kE86_18 : ex_CE 15 [] cd_86 k86_18 q86_18 := e_psh_iconst 18 0 0 (e_istore_istore_n 19 0 3 3 rfl (kE86_20))
set_option maxHeartbeats 100000 in
def k86_0 : ex_C := c_iload 2 (c_psh 6 (c_icmp_eq 18 (c_iload 2 (c_psh 7 (c_icmp_eq 18 (c_iload 2 (c_psh 8 (c_icmp_ne 74 (k86_18)))))))))
set_option maxHeartbeats 100000 in
theorem kE86_0 : ex_CE 15 [] cd_86 k86_0 q86_0 := e_iload_iload_n 0 0 2 2 rfl (e_psh_bipush 1 6 6 (e_icmp_eq 3 18 15 (e_iload_iload_n 6 0 2 2 rfl (e_psh_bipush 7 7 7 (e_icmp_eq 9 18 9 (e_iload_iload_n 12 0 2 2 rfl (e_psh_bipush 13 8 8 (e_icmp_ne 15 74 59 (kE86_18)))))))))
def kt_86 : Nat → Option ex_C := fun pc => @Bool.rec (fun _ => Nat → Option ex_C) (fun pc => @Bool.rec (fun _ => Nat → Option ex_C) (fun pc => @Bool.rec (fun _ => Nat → Option ex_C) (fun pc => @Bool.rec (fun _ => Option ex_C) none (some k86_74) (Nat.beq pc 74)) (fun pc => @Bool.rec (fun _ => Option ex_C) none (some k86_68) (Nat.beq pc 68)) (Nat.ble pc 68) pc) (fun pc => @Bool.rec (fun _ => Option ex_C) none (some k86_57) (Nat.beq pc 57)) (Nat.ble pc 57) pc) (fun pc => @Bool.rec (fun _ => Nat → Option ex_C) (fun pc => @Bool.rec (fun _ => Nat → Option ex_C) (fun pc => @Bool.rec (fun _ => Option ex_C) none (some k86_20) (Nat.beq pc 20)) (fun pc => @Bool.rec (fun _ => Option ex_C) none (some k86_18) (Nat.beq pc 18)) (Nat.ble pc 18) pc) (fun pc => @Bool.rec (fun _ => Option ex_C) none (some k86_0) (Nat.beq pc 0)) (Nat.ble pc 0) pc) (Nat.ble pc 20) pc
theorem ktE_86 : ex_CTT 15 [] cd_86 kt_86 cd_86 := (ex_ct2 (ex_ct2 (ex_ct1 kE86_0) (ex_ct2 (ex_ct1 kE86_18) (ex_ct1 kE86_20))) (ex_ct2 (ex_ct1 kE86_57) (ex_ct2 (ex_ct1 kE86_68) (ex_ct1 kE86_74))))
set_option maxHeartbeats 100000 in
def k87_85 : ex_C := c_return_  15
set_option maxHeartbeats 100000 in
theorem kE87_85 : ex_CE 15 [] cd_87 k87_85 q87_85 := e_return_ 85 0 
set_option maxHeartbeats 100000 in
def k87_79 : ex_C := c_iinc 4 1 (c_goto 3)
set_option maxHeartbeats 100000 in
theorem kE87_79 : ex_CE 15 [] cd_87 k87_79 q87_79 := e_iinc 79 1 4 1 (e_goto 82 3 (-79))
set_option maxHeartbeats 100000 in
def k87_71 : ex_C := c_aload 0 (c_aload 1 (c_iload 4 (c_iload 2 (c_invV [] cd_87 76 4 92 4 (k87_79)))))
set_option maxHeartbeats 100000 in
theorem kE87_71 : ex_CE 15 [] cd_87 k87_71 q87_71 := e_aload_aload_n 71 0 0 0 rfl (e_aload_aload_n 72 0 1 1 rfl (e_iload_iload 73 0 4 (e_iload_iload_n 75 0 2 2 rfl (e_invV_invokevirtual 76 884868 159 4 92 4 rfl rfl rfl rfl rfl rfl (kE87_79)))))
set_option maxHeartbeats 100000 in
def k87_55 : ex_C := c_iload 2 (c_psh 11 (c_icmp_ne 71 (c_aload 0 (c_aload 1 (c_iload 4 (c_invV [] cd_87 65 3 90 4 (c_goto 79)))))))
set_option maxHeartbeats 100000 in
theorem kE87_55 : ex_CE 15 [] cd_87 k87_55 q87_55 := e_iload_iload_n 55 0 2 2 rfl (e_psh_bipush 56 11 11 (e_icmp_ne 58 71 13 (e_aload_aload_n 61 0 0 0 rfl (e_aload_aload_n 62 0 1 1 rfl (e_iload_iload 63 0 4 (e_invV_invokevirtual 65 868483 155 3 90 4 rfl rfl rfl rfl rfl rfl (e_goto 68 79 11)))))))
set_option maxHeartbeats 100000 in
def k87_38 : ex_C := c_iload 2 (c_psh 6 (c_icmp_ge 55 (c_aload 0 (c_aload 1 (c_iload 4 (c_iload 3 (c_invV [] cd_87 49 4 89 4 (c_goto 79))))))))
set_option maxHeartbeats 100000 in
theorem kE87_38 : ex_CE 15 [] cd_87 k87_38 q87_38 := e_iload_iload_n 38 0 2 2 rfl (e_psh_bipush 39 6 6 (e_icmp_ge 41 55 14 (e_aload_aload_n 44 0 0 0 rfl (e_aload_aload_n 45 0 1 1 rfl (e_iload_iload 46 0 4 (e_iload_iload_n 48 0 3 3 rfl (e_invV_invokevirtual 49 860292 152 4 89 4 rfl rfl rfl rfl rfl rfl (e_goto 52 79 27))))))))
set_option maxHeartbeats 100000 in
def k87_3 : ex_C := c_iload 4 (c_aload 1 (c_gf 3 14 (c_icmp_ge 85 (c_aload 0 (c_gf 4 1 (c_iload 4 (c_baload (c_if_eq 79 (c_iload 2 (c_psh 4 (c_icmp_ge 38 (c_aload 0 (c_aload 1 (c_iload 4 (c_iload 2 (c_invV [] cd_87 32 4 88 4 (c_goto 79)))))))))))))))))
set_option maxHeartbeats 100000 in
theorem kE87_3 : ex_CE 15 [] cd_87 k87_3 q87_3 := e_iload_iload 3 0 4 (e_aload_aload_n 5 0 1 1 rfl (e_gf 6 206 51 3 14 rfl rfl (e_icmp_ge 9 85 76 (e_aload_aload_n 12 0 0 0 rfl (e_gf 13 86273 15 4 1 rfl rfl (e_iload_iload 16 0 4 (e_baload 18 0 (e_if_eq 19 79 60 (e_iload_iload_n 22 0 2 2 rfl (e_psh_iconst 23 4 4 (e_icmp_ge 24 38 14 (e_aload_aload_n 27 0 0 0 rfl (e_aload_aload_n 28 0 1 1 rfl (e_iload_iload 29 0 4 (e_iload_iload_n 31 0 2 2 rfl (e_invV_invokevirtual 32 852100 149 4 88 4 rfl rfl rfl rfl rfl rfl (e_goto 35 79 44)))))))))))))))))
set_option maxHeartbeats 100000 in
def k87_0 : ex_C := c_psh 0 (c_istore 4 (k87_3))
set_option maxHeartbeats 100000 in
theorem kE87_0 : ex_CE 15 [] cd_87 k87_0 q87_0 := e_psh_iconst 0 0 0 (e_istore_istore 1 0 4 (kE87_3))
def kt_87 : Nat → Option ex_C := fun pc => @Bool.rec (fun _ => Nat → Option ex_C) (fun pc => @Bool.rec (fun _ => Nat → Option ex_C) (fun pc => @Bool.rec (fun _ => Nat → Option ex_C) (fun pc => @Bool.rec (fun _ => Option ex_C) none (some k87_85) (Nat.beq pc 85)) (fun pc => @Bool.rec (fun _ => Option ex_C) none (some k87_79) (Nat.beq pc 79)) (Nat.ble pc 79) pc) (fun pc => @Bool.rec (fun _ => Nat → Option ex_C) (fun pc => @Bool.rec (fun _ => Option ex_C) none (some k87_71) (Nat.beq pc 71)) (fun pc => @Bool.rec (fun _ => Option ex_C) none (some k87_55) (Nat.beq pc 55)) (Nat.ble pc 55) pc) (Nat.ble pc 71) pc) (fun pc => @Bool.rec (fun _ => Nat → Option ex_C) (fun pc => @Bool.rec (fun _ => Nat → Option ex_C) (fun pc => @Bool.rec (fun _ => Option ex_C) none (some k87_38) (Nat.beq pc 38)) (fun pc => @Bool.rec (fun _ => Option ex_C) none (some k87_3) (Nat.beq pc 3)) (Nat.ble pc 3) pc) (fun pc => @Bool.rec (fun _ => Option ex_C) none (some k87_0) (Nat.beq pc 0)) (Nat.ble pc 0) pc) (Nat.ble pc 38) pc
theorem ktE_87 : ex_CTT 15 [] cd_87 kt_87 cd_87 := (ex_ct2 (ex_ct2 (ex_ct1 kE87_0) (ex_ct2 (ex_ct1 kE87_3) (ex_ct1 kE87_38))) (ex_ct2 (ex_ct2 (ex_ct1 kE87_55) (ex_ct1 kE87_71)) (ex_ct2 (ex_ct1 kE87_79) (ex_ct1 kE87_85))))
set_option maxHeartbeats 100000 in
def k88_34 : ex_C := c_return_  15
set_option maxHeartbeats 100000 in
theorem kE88_34 : ex_CE 15 [] cd_88 k88_34 q88_34 := e_return_ 34 0 
set_option maxHeartbeats 100000 in
def k88_31 : ex_C := c_invV [] cd_88 31 3 16 3 (k88_34)
set_option maxHeartbeats 100000 in
theorem kE88_31 : ex_CE 15 [] cd_88 k88_31 q88_31 := e_invV_invokevirtual 31 262243 166 3 16 3 rfl rfl rfl rfl rfl rfl (kE88_34)
set_option maxHeartbeats 100000 in
def k88_30 : ex_C := c_psh 1 (k88_31)
set_option maxHeartbeats 100000 in
theorem kE88_30 : ex_CE 15 [] cd_88 k88_30 q88_30 := e_psh_iconst 30 1 1 (kE88_31)
set_option maxHeartbeats 100000 in
def k88_19 : ex_C := c_aload 1 (c_iload 2 (c_iload 3 (c_psh 2 (c_icmp_ne 30 (c_psh 4294967295 (c_goto 31))))))
set_option maxHeartbeats 100000 in
theorem kE88_19 : ex_CE 15 [] cd_88 k88_19 q88_19 := e_aload_aload_n 19 0 1 1 rfl (e_iload_iload_n 20 0 2 2 rfl (e_iload_iload_n 21 0 3 3 rfl (e_psh_iconst 22 2 2 (e_icmp_ne 23 30 7 (e_psh_iconst 26 4294967295 (-1) (e_goto 27 31 4))))))
set_option maxHeartbeats 100000 in
def k88_0 : ex_C := c_iload 3 (c_if_ne 19 (c_aload 1 (c_iload 2 (c_aload 1 (c_gf 3 2 (c_iload 2 (c_iaload (c_psh 1 (c_invV [] cd_88 13 4 15 3 (c_goto 34))))))))))
set_option maxHeartbeats 100000 in
theorem kE88_0 : ex_CE 15 [] cd_88 k88_0 q88_0 := e_iload_iload_n 0 0 3 3 rfl (e_if_ne 1 19 18 (e_aload_aload_n 4 0 1 1 rfl (e_iload_iload_n 5 0 2 2 rfl (e_aload_aload_n 6 0 1 1 rfl (e_gf 7 86210 105 3 2 rfl rfl (e_iload_iload_n 10 0 2 2 rfl (e_iaload 11 0 (e_psh_iconst 12 1 1 (e_invV_invokevirtual 13 254052 162 4 15 3 rfl rfl rfl rfl rfl rfl (e_goto 16 34 18))))))))))
def kt_88 : Nat → Option ex_C := fun pc => @Bool.rec (fun _ => Nat → Option ex_C) (fun pc => @Bool.rec (fun _ => Nat → Option ex_C) (fun pc => @Bool.rec (fun _ => Nat → Option ex_C) (fun pc => @Bool.rec (fun _ => Option ex_C) none (some k88_34) (Nat.beq pc 34)) (fun pc => @Bool.rec (fun _ => Option ex_C) none (some k88_31) (Nat.beq pc 31)) (Nat.ble pc 31) pc) (fun pc => @Bool.rec (fun _ => Option ex_C) none (some k88_30) (Nat.beq pc 30)) (Nat.ble pc 30) pc) (fun pc => @Bool.rec (fun _ => Nat → Option ex_C) (fun pc => @Bool.rec (fun _ => Option ex_C) none (some k88_19) (Nat.beq pc 19)) (fun pc => @Bool.rec (fun _ => Option ex_C) none (some k88_0) (Nat.beq pc 0)) (Nat.ble pc 0) pc) (Nat.ble pc 19) pc
theorem ktE_88 : ex_CTT 15 [] cd_88 kt_88 cd_88 := (ex_ct2 (ex_ct2 (ex_ct1 kE88_0) (ex_ct1 kE88_19)) (ex_ct2 (ex_ct1 kE88_30) (ex_ct2 (ex_ct1 kE88_31) (ex_ct1 kE88_34))))
set_option maxHeartbeats 100000 in
def k89_68 : ex_C := c_return_  15
set_option maxHeartbeats 100000 in
theorem kE89_68 : ex_CE 15 [] cd_89 k89_68 q89_68 := e_return_ 68 0 
set_option maxHeartbeats 100000 in
def k89_63 : ex_C := c_iadd (c_psh 1 (c_invV [] cd_89 65 4 15 3 (k89_68)))
set_option maxHeartbeats 100000 in
theorem kE89_63 : ex_CE 15 [] cd_89 k89_63 q89_63 := e_iadd 63 0 (e_psh_iconst 64 1 1 (e_invV_invokevirtual 65 254052 162 4 15 3 rfl rfl rfl rfl rfl rfl (kE89_68)))
set_option maxHeartbeats 100000 in
def k89_62 : ex_C := c_psh 1 (k89_63)
set_option maxHeartbeats 100000 in
theorem kE89_62 : ex_CE 15 [] cd_89 k89_62 q89_62 := e_psh_iconst 62 1 1 (kE89_63)
set_option maxHeartbeats 100000 in
def k89_29 : ex_C := c_aload 1 (c_iload 2 (c_aload 1 (c_gf 3 2 (c_iload 2 (c_iaload (c_aload 0 (c_gf 4 9 (c_psh 2 (c_idiv   (c_invV [] cd_89 43 4 15 3 (c_aload 1 (c_iload 2 (c_aload 1 (c_gf 3 2 (c_iload 2 (c_iaload (c_iload 3 (c_if_ne 62 (c_psh 3 (c_goto 63))))))))))))))))))))
set_option maxHeartbeats 100000 in
theorem kE89_29 : ex_CE 15 [] cd_89 k89_29 q89_29 := e_aload_aload_n 29 0 1 1 rfl (e_iload_iload_n 30 0 2 2 rfl (e_aload_aload_n 31 0 1 1 rfl (e_gf 32 86210 105 3 2 rfl rfl (e_iload_iload_n 35 0 2 2 rfl (e_iaload 36 0 (e_aload_aload_n 37 0 0 0 rfl (e_gf 38 265 40 4 9 rfl rfl (e_psh_iconst 41 2 2 (e_idiv 42 0  (e_invV_invokevirtual 43 254052 162 4 15 3 rfl rfl rfl rfl rfl rfl (e_aload_aload_n 46 0 1 1 rfl (e_iload_iload_n 47 0 2 2 rfl (e_aload_aload_n 48 0 1 1 rfl (e_gf 49 86210 105 3 2 rfl rfl (e_iload_iload_n 52 0 2 2 rfl (e_iaload 53 0 (e_iload_iload_n 54 0 3 3 rfl (e_if_ne 55 62 7 (e_psh_iconst 58 3 3 (e_goto 59 63 4))))))))))))))))))))
set_option maxHeartbeats 100000 in
def k89_23 : ex_C := c_invV [] cd_89 23 3 16 3 (c_goto 68)
set_option maxHeartbeats 100000 in
theorem kE89_23 : ex_CE 15 [] cd_89 k89_23 q89_23 := e_invV_invokevirtual 23 262243 166 3 16 3 rfl rfl rfl rfl rfl rfl (e_goto 26 68 42)
set_option maxHeartbeats 100000 in
def k89_22 : ex_C := c_psh 4294967295 (k89_23)
set_option maxHeartbeats 100000 in
theorem kE89_22 : ex_CE 15 [] cd_89 k89_22 q89_22 := e_psh_iconst 22 4294967295 (-1) (kE89_23)
set_option maxHeartbeats 100000 in
def k89_0 : ex_C := c_iload 3 (c_psh 1 (c_icmp_le 29 (c_aload 1 (c_iload 2 (c_aload 1 (c_gf 3 3 (c_iload 2 (c_iaload (c_psh 2 (c_irem   (c_if_ne 22 (c_psh 1 (c_goto 23)))))))))))))
set_option maxHeartbeats 100000 in
theorem kE89_0 : ex_CE 15 [] cd_89 k89_0 q89_0 := e_iload_iload_n 0 0 3 3 rfl (e_psh_iconst 1 1 1 (e_icmp_le 2 29 27 (e_aload_aload_n 5 0 1 1 rfl (e_iload_iload_n 6 0 2 2 rfl (e_aload_aload_n 7 0 1 1 rfl (e_gf 8 86211 102 3 3 rfl rfl (e_iload_iload_n 11 0 2 2 rfl (e_iaload 12 0 (e_psh_iconst 13 2 2 (e_irem 14 0  (e_if_ne 15 22 7 (e_psh_iconst 18 1 1 (e_goto 19 23 4)))))))))))))
def kt_89 : Nat → Option ex_C := fun pc => @Bool.rec (fun _ => Nat → Option ex_C) (fun pc => @Bool.rec (fun _ => Nat → Option ex_C) (fun pc => @Bool.rec (fun _ => Nat → Option ex_C) (fun pc => @Bool.rec (fun _ => Option ex_C) none (some k89_68) (Nat.beq pc 68)) (fun pc => @Bool.rec (fun _ => Option ex_C) none (some k89_63) (Nat.beq pc 63)) (Nat.ble pc 63) pc) (fun pc => @Bool.rec (fun _ => Nat → Option ex_C) (fun pc => @Bool.rec (fun _ => Option ex_C) none (some k89_62) (Nat.beq pc 62)) (fun pc => @Bool.rec (fun _ => Option ex_C) none (some k89_29) (Nat.beq pc 29)) (Nat.ble pc 29) pc) (Nat.ble pc 62) pc) (fun pc => @Bool.rec (fun _ => Nat → Option ex_C) (fun pc => @Bool.rec (fun _ => Nat → Option ex_C) (fun pc => @Bool.rec (fun _ => Option ex_C) none (some k89_23) (Nat.beq pc 23)) (fun pc => @Bool.rec (fun _ => Option ex_C) none (some k89_22) (Nat.beq pc 22)) (Nat.ble pc 22) pc) (fun pc => @Bool.rec (fun _ => Option ex_C) none (some k89_0) (Nat.beq pc 0)) (Nat.ble pc 0) pc) (Nat.ble pc 23) pc
theorem ktE_89 : ex_CTT 15 [] cd_89 kt_89 cd_89 := (ex_ct2 (ex_ct2 (ex_ct1 kE89_0) (ex_ct2 (ex_ct1 kE89_22) (ex_ct1 kE89_23))) (ex_ct2 (ex_ct2 (ex_ct1 kE89_29) (ex_ct1 kE89_62)) (ex_ct2 (ex_ct1 kE89_63) (ex_ct1 kE89_68))))
set_option maxHeartbeats 100000 in
def k90_77 : ex_C := c_return_  15
set_option maxHeartbeats 100000 in
theorem kE90_77 : ex_CE 15 [] cd_90 k90_77 q90_77 := e_return_ 77 0 
set_option maxHeartbeats 100000 in
def k90_63 : ex_C := c_iadd (c_aload 0 (c_gf 4 9 (c_invV [] cd_90 68 4 15 3 (c_aload 1 (c_iload 2 (c_psh 2 (c_invV [] cd_90 74 3 16 3 (k90_77))))))))
set_option maxHeartbeats 100000 in
theorem kE90_63 : ex_CE 15 [] cd_90 k90_63 q90_63 := e_iadd 63 0 (e_aload_aload_n 64 0 0 0 rfl (e_gf 65 265 40 4 9 rfl rfl (e_invV_invokevirtual 68 254052 162 4 15 3 rfl rfl rfl rfl rfl rfl (e_aload_aload_n 71 0 1 1 rfl (e_iload_iload_n 72 0 2 2 rfl (e_psh_iconst 73 2 2 (e_invV_invokevirtual 74 262243 166 3 16 3 rfl rfl rfl rfl rfl rfl (kE90_77))))))))
set_option maxHeartbeats 100000 in
def k90_62 : ex_C := c_psh 3 (k90_63)
set_option maxHeartbeats 100000 in
theorem kE90_62 : ex_CE 15 [] cd_90 k90_62 q90_62 := e_psh_iconst 62 3 3 (kE90_63)
set_option maxHeartbeats 100000 in
def k90_33 : ex_C := c_aload 1 (c_iload 2 (c_aload 1 (c_gf 3 2 (c_iload 2 (c_iaload (c_aload 0 (c_aload 1 (c_iload 2 (c_aload 1 (c_gf 3 2 (c_iload 2 (c_iaload (c_psh 1 (c_iadd (c_invV [] cd_90 52 4 91 4 (c_if_eq 62 (c_psh 1 (c_goto 63))))))))))))))))))
set_option maxHeartbeats 100000 in
theorem kE90_33 : ex_CE 15 [] cd_90 k90_33 q90_33 := e_aload_aload_n 33 0 1 1 rfl (e_iload_iload_n 34 0 2 2 rfl (e_aload_aload_n 35 0 1 1 rfl (e_gf 36 86210 105 3 2 rfl rfl (e_iload_iload_n 39 0 2 2 rfl (e_iaload 40 0 (e_aload_aload_n 41 0 0 0 rfl (e_aload_aload_n 42 0 1 1 rfl (e_iload_iload_n 43 0 2 2 rfl (e_aload_aload_n 44 0 1 1 rfl (e_gf 45 86210 105 3 2 rfl rfl (e_iload_iload_n 48 0 2 2 rfl (e_iaload 49 0 (e_psh_iconst 50 1 1 (e_iadd 51 0 (e_invV_invokevirtual 52 876676 169 4 91 4 rfl rfl rfl rfl rfl rfl (e_if_eq 55 62 7 (e_psh_iconst 58 1 1 (e_goto 59 63 4))))))))))))))))))
set_option maxHeartbeats 100000 in
def k90_0 : ex_C := c_aload 0 (c_aload 1 (c_iload 2 (c_aload 1 (c_gf 3 2 (c_iload 2 (c_iaload (c_invV [] cd_90 9 4 91 4 (c_if_eq 33 (c_aload 1 (c_iload 2 (c_aload 1 (c_gf 3 2 (c_iload 2 (c_iaload (c_aload 0 (c_gf 4 9 (c_invV [] cd_90 27 4 15 3 (c_goto 77))))))))))))))))))
set_option maxHeartbeats 100000 in
theorem kE90_0 : ex_CE 15 [] cd_90 k90_0 q90_0 := e_aload_aload_n 0 0 0 0 rfl (e_aload_aload_n 1 0 1 1 rfl (e_iload_iload_n 2 0 2 2 rfl (e_aload_aload_n 3 0 1 1 rfl (e_gf 4 86210 105 3 2 rfl rfl (e_iload_iload_n 7 0 2 2 rfl (e_iaload 8 0 (e_invV_invokevirtual 9 876676 169 4 91 4 rfl rfl rfl rfl rfl rfl (e_if_eq 12 33 21 (e_aload_aload_n 15 0 1 1 rfl (e_iload_iload_n 16 0 2 2 rfl (e_aload_aload_n 17 0 1 1 rfl (e_gf 18 86210 105 3 2 rfl rfl (e_iload_iload_n 21 0 2 2 rfl (e_iaload 22 0 (e_aload_aload_n 23 0 0 0 rfl (e_gf 24 265 40 4 9 rfl rfl (e_invV_invokevirtual 27 254052 162 4 15 3 rfl rfl rfl rfl rfl rfl (e_goto 30 77 47))))))))))))))))))
def kt_90 : Nat → Option ex_C := fun pc => @Bool.rec (fun _ => Nat → Option ex_C) (fun pc => @Bool.rec (fun _ => Nat → Option ex_C) (fun pc => @Bool.rec (fun _ => Nat → Option ex_C) (fun pc => @Bool.rec (fun _ => Option ex_C) none (some k90_77) (Nat.beq pc 77)) (fun pc => @Bool.rec (fun _ => Option ex_C) none (some k90_63) (Nat.beq pc 63)) (Nat.ble pc 63) pc) (fun pc => @Bool.rec (fun _ => Option ex_C) none (some k90_62) (Nat.beq pc 62)) (Nat.ble pc 62) pc) (fun pc => @Bool.rec (fun _ => Nat → Option ex_C) (fun pc => @Bool.rec (fun _ => Option ex_C) none (some k90_33) (Nat.beq pc 33)) (fun pc => @Bool.rec (fun _ => Option ex_C) none (some k90_0) (Nat.beq pc 0)) (Nat.ble pc 0) pc) (Nat.ble pc 33) pc
theorem ktE_90 : ex_CTT 15 [] cd_90 kt_90 cd_90 := (ex_ct2 (ex_ct2 (ex_ct1 kE90_0) (ex_ct1 kE90_33)) (ex_ct2 (ex_ct1 kE90_62) (ex_ct2 (ex_ct1 kE90_63) (ex_ct1 kE90_77))))
set_option maxHeartbeats 100000 in
def k91_104 : ex_C := c_ireturn  1
set_option maxHeartbeats 100000 in
theorem kE91_104 : ex_CE 1 [] cd_91 k91_104 q91_104 := e_ireturn 104 0 
set_option maxHeartbeats 100000 in
def k91_103 : ex_C := c_psh 0 (k91_104)
set_option maxHeartbeats 100000 in
theorem kE91_103 : ex_CE 1 [] cd_91 k91_103 q91_103 := e_psh_iconst 103 0 0 (kE91_104)
set_option maxHeartbeats 100000 in
def k91_0 : ex_C := c_iload 3 (c_psh 3 (c_iand (c_istore 4 (c_aload 1 (c_gf 3 0 (c_iload 2 (c_iaload (c_aload 0 (c_gf 4 9 (c_psh 17179869193 (c_iload 4 (c_iaload (c_imul (c_iadd (c_istore 5 (c_aload 1 (c_gf 3 1 (c_iload 2 (c_iaload (c_aload 0 (c_gf 4 9 (c_psh 17179869194 (c_iload 4 (c_iaload (c_imul (c_iadd (c_istore 6 (c_iload 5 (c_aload 0 (c_gf 4 7 (c_iload 2 (c_iaload (c_icmp_lt 103 (c_iload 5 (c_aload 0 (c_gf 4 7 (c_iload 2 (c_iaload (c_aload 0 (c_gf 4 9 (c_iadd (c_icmp_gt 103 (c_iload 6 (c_aload 0 (c_gf 4 8 (c_iload 2 (c_iaload (c_icmp_lt 103 (c_iload 6 (c_aload 0 (c_gf 4 8 (c_iload 2 (c_iaload (c_aload 0 (c_gf 4 9 (c_iadd (c_icmp_gt 103 (c_psh 1 (c_goto 104)))))))))))))))))))))))))))))))))))))))))))))))))))))))))))
set_option maxHeartbeats 100000 in
theorem kE91_0 : ex_CE 1 [] cd_91 k91_0 q91_0 := e_iload_iload_n 0 0 3 3 rfl (e_psh_iconst 1 3 3 (e_iand 2 0 (e_istore_istore 3 0 4 (e_aload_aload_n 5 0 1 1 rfl (e_gf 6 86208 67 3 0 rfl rfl (e_iload_iload_n 9 0 2 2 rfl (e_iaload 10 0 (e_aload_aload_n 11 0 0 0 rfl (e_gf 12 265 40 4 9 rfl rfl (e_psh_getstatic 15 17179869193 108 (e_iload_iload 18 0 4 (e_iaload 20 0 (e_imul 21 0 (e_iadd 22 0 (e_istore_istore 23 0 5 (e_aload_aload_n 25 0 1 1 rfl (e_gf 26 86209 75 3 1 rfl rfl (e_iload_iload_n 29 0 2 2 rfl (e_iaload 30 0 (e_aload_aload_n 31 0 0 0 rfl (e_gf 32 265 40 4 9 rfl rfl (e_psh_getstatic 35 17179869194 111 (e_iload_iload 38 0 4 (e_iaload 40 0 (e_imul 41 0 (e_iadd 42 0 (e_istore_istore 43 0 6 (e_iload_iload 45 0 5 (e_aload_aload_n 47 0 0 0 rfl (e_gf 48 86279 34 4 7 rfl rfl (e_iload_iload_n 51 0 2 2 rfl (e_iaload 52 0 (e_icmp_lt 53 103 50 (e_iload_iload 56 0 5 (e_aload_aload_n 58 0 0 0 rfl (e_gf 59 86279 34 4 7 rfl rfl (e_iload_iload_n 62 0 2 2 rfl (e_iaload 63 0 (e_aload_aload_n 64 0 0 0 rfl (e_gf 65 265 40 4 9 rfl rfl (e_iadd 68 0 (e_icmp_gt 69 103 34 (e_iload_iload 72 0 6 (e_aload_aload_n 74 0 0 0 rfl (e_gf 75 86280 37 4 8 rfl rfl (e_iload_iload_n 78 0 2 2 rfl (e_iaload 79 0 (e_icmp_lt 80 103 23 (e_iload_iload 83 0 6 (e_aload_aload_n 85 0 0 0 rfl (e_gf 86 86280 37 4 8 rfl rfl (e_iload_iload_n 89 0 2 2 rfl (e_iaload 90 0 (e_aload_aload_n 91 0 0 0 rfl (e_gf 92 265 40 4 9 rfl rfl (e_iadd 95 0 (e_icmp_gt 96 103 7 (e_psh_iconst 99 1 1 (e_goto 100 104 4)))))))))))))))))))))))))))))))))))))))))))))))))))))))))))
def kt_91 : Nat → Option ex_C := fun pc => @Bool.rec (fun _ => Nat → Option ex_C) (fun pc => @Bool.rec (fun _ => Nat → Option ex_C) (fun pc => @Bool.rec (fun _ => Option ex_C) none (some k91_104) (Nat.beq pc 104)) (fun pc => @Bool.rec (fun _ => Option ex_C) none (some k91_103) (Nat.beq pc 103)) (Nat.ble pc 103) pc) (fun pc => @Bool.rec (fun _ => Option ex_C) none (some k91_0) (Nat.beq pc 0)) (Nat.ble pc 0) pc
theorem ktE_91 : ex_CTT 1 [] cd_91 kt_91 cd_91 := (ex_ct2 (ex_ct1 kE91_0) (ex_ct2 (ex_ct1 kE91_103) (ex_ct1 kE91_104)))
set_option maxHeartbeats 100000 in
def k92_159 : ex_C := c_return_  15
set_option maxHeartbeats 100000 in
theorem kE92_159 : ex_CE 15 [] cd_92 k92_159 q92_159 := e_return_ 159 0 
set_option maxHeartbeats 100000 in
def k92_98 : ex_C := c_istore 5 (c_aload 1 (c_gf 3 0 (c_iload 2 (c_iaload (c_aload 1 (c_gf 3 0 (c_iload 4 (c_iaload (c_iadd (c_psh 2 (c_idiv   (c_istore 6 (c_aload 1 (c_gf 3 1 (c_iload 2 (c_iaload (c_aload 1 (c_gf 3 1 (c_iload 4 (c_iaload (c_iadd (c_psh 2 (c_idiv   (c_istore 7 (c_aload 1 (c_iload 2 (c_iload 6 (c_iload 7 (c_iload 5 (c_invV [] cd_92 144 5 17 3 (c_aload 1 (c_iload 4 (c_iload 6 (c_iload 7 (c_iload 5 (c_invV [] cd_92 156 5 17 3 (k92_159)))))))))))))))))))))))))))))))))))))
set_option maxHeartbeats 100000 in
theorem kE92_98 : ex_CE 15 [] cd_92 k92_98 q92_98 := e_istore_istore 98 0 5 (e_aload_aload_n 100 0 1 1 rfl (e_gf 101 86208 67 3 0 rfl rfl (e_iload_iload_n 104 0 2 2 rfl (e_iaload 105 0 (e_aload_aload_n 106 0 1 1 rfl (e_gf 107 86208 67 3 0 rfl rfl (e_iload_iload 110 0 4 (e_iaload 112 0 (e_iadd 113 0 (e_psh_iconst 114 2 2 (e_idiv 115 0  (e_istore_istore 116 0 6 (e_aload_aload_n 118 0 1 1 rfl (e_gf 119 86209 75 3 1 rfl rfl (e_iload_iload_n 122 0 2 2 rfl (e_iaload 123 0 (e_aload_aload_n 124 0 1 1 rfl (e_gf 125 86209 75 3 1 rfl rfl (e_iload_iload 128 0 4 (e_iaload 130 0 (e_iadd 131 0 (e_psh_iconst 132 2 2 (e_idiv 133 0  (e_istore_istore 134 0 7 (e_aload_aload_n 136 0 1 1 rfl (e_iload_iload_n 137 0 2 2 rfl (e_iload_iload 138 0 6 (e_iload_iload 140 0 7 (e_iload_iload 142 0 5 (e_invV_invokevirtual 144 270437 175 5 17 3 rfl rfl rfl rfl rfl rfl (e_aload_aload_n 147 0 1 1 rfl (e_iload_iload 148 0 4 (e_iload_iload 150 0 6 (e_iload_iload 152 0 7 (e_iload_iload 154 0 5 (e_invV_invokevirtual 156 270437 175 5 17 3 rfl rfl rfl rfl rfl rfl (kE92_159)))))))))))))))))))))))))))))))))))))
set_option maxHeartbeats 100000 in
def k92_97 : ex_C := c_psh 1 (k92_98)
set_option maxHeartbeats 100000 in
theorem kE92_97 : ex_CE 15 [] cd_92 k92_97 q92_97 := e_psh_iconst 97 1 1 (kE92_98)
set_option maxHeartbeats 100000 in
def k92_93 : ex_C := c_psh 4294967295 (c_goto 98)
set_option maxHeartbeats 100000 in
theorem kE92_93 : ex_CE 15 [] cd_92 k92_93 q92_93 := e_psh_iconst 93 4294967295 (-1) (e_goto 94 98 4)
set_option maxHeartbeats 100000 in
def k92_77 : ex_C := c_iload 3 (c_psh 9 (c_icmp_eq 93 (c_aload 0 (c_gf 4 5 (c_iload 2 (c_iaload (c_psh 3 (c_icmp_ne 97 (k92_93)))))))))
set_option maxHeartbeats 100000 in
theorem kE92_77 : ex_CE 15 [] cd_92 k92_77 q92_77 := e_iload_iload_n 77 0 3 3 rfl (e_psh_bipush 78 9 9 (e_icmp_eq 80 93 13 (e_aload_aload_n 83 0 0 0 rfl (e_gf 84 86277 28 4 5 rfl rfl (e_iload_iload_n 87 0 2 2 rfl (e_iaload 88 0 (e_psh_iconst 89 3 3 (e_icmp_ne 90 97 7 (kE92_93)))))))))
set_option maxHeartbeats 100000 in
def k92_55 : ex_C := c_iload 3 (c_psh 12 (c_icmp_ne 77 (c_aload 1 (c_iload 2 (c_iload 4 (c_invV [] cd_92 65 3 18 3 (c_aload 1 (c_iload 2 (c_psh 2 (c_invV [] cd_92 71 3 16 3 (c_goto 159)))))))))))
set_option maxHeartbeats 100000 in
theorem kE92_55 : ex_CE 15 [] cd_92 k92_55 q92_55 := e_iload_iload_n 55 0 3 3 rfl (e_psh_bipush 56 12 12 (e_icmp_ne 58 77 19 (e_aload_aload_n 61 0 1 1 rfl (e_iload_iload_n 62 0 2 2 rfl (e_iload_iload 63 0 4 (e_invV_invokevirtual 65 278627 172 3 18 3 rfl rfl rfl rfl rfl rfl (e_aload_aload_n 68 0 1 1 rfl (e_iload_iload_n 69 0 2 2 rfl (e_psh_iconst 70 2 2 (e_invV_invokevirtual 71 262243 166 3 16 3 rfl rfl rfl rfl rfl rfl (e_goto 74 159 85)))))))))))
set_option maxHeartbeats 100000 in
def k92_39 : ex_C := c_iload 3 (c_psh 10 (c_icmp_ne 55 (c_aload 1 (c_iload 2 (c_iload 4 (c_invV [] cd_92 49 3 18 3 (c_goto 159)))))))
set_option maxHeartbeats 100000 in
theorem kE92_39 : ex_CE 15 [] cd_92 k92_39 q92_39 := e_iload_iload_n 39 0 3 3 rfl (e_psh_bipush 40 10 10 (e_icmp_ne 42 55 13 (e_aload_aload_n 45 0 1 1 rfl (e_iload_iload_n 46 0 2 2 rfl (e_iload_iload 47 0 4 (e_invV_invokevirtual 49 278627 172 3 18 3 rfl rfl rfl rfl rfl rfl (e_goto 52 159 107)))))))
set_option maxHeartbeats 100000 in
def k92_38 : ex_C := c_return_  15
set_option maxHeartbeats 100000 in
theorem kE92_38 : ex_CE 15 [] cd_92 k92_38 q92_38 := e_return_ 38 0 
set_option maxHeartbeats 100000 in
def k92_0 : ex_C := c_aload 0 (c_gf 4 4 (c_iload 2 (c_iaload (c_istore 4 (c_iload 4 (c_if_lt 38 (c_iload 4 (c_aload 1 (c_gf 3 14 (c_icmp_ge 38 (c_iload 4 (c_iload 2 (c_icmp_ge 39 (c_aload 0 (c_gf 4 1 (c_iload 4 (c_baload (c_if_eq 39 (k92_38)))))))))))))))))))
set_option maxHeartbeats 100000 in
theorem kE92_0 : ex_CE 15 [] cd_92 k92_0 q92_0 := e_aload_aload_n 0 0 0 0 rfl (e_gf 1 86276 25 4 4 rfl rfl (e_iload_iload_n 4 0 2 2 rfl (e_iaload 5 0 (e_istore_istore 6 0 4 (e_iload_iload 8 0 4 (e_if_lt 10 38 28 (e_iload_iload 13 0 4 (e_aload_aload_n 15 0 1 1 rfl (e_gf 16 206 51 3 14 rfl rfl (e_icmp_ge 19 38 19 (e_iload_iload 22 0 4 (e_iload_iload_n 24 0 2 2 rfl (e_icmp_ge 25 39 14 (e_aload_aload_n 28 0 0 0 rfl (e_gf 29 86273 15 4 1 rfl rfl (e_iload_iload 32 0 4 (e_baload 34 0 (e_if_eq 35 39 4 (kE92_38)))))))))))))))))))
def kt_92 : Nat → Option ex_C := fun pc => @Bool.rec (fun _ => Nat → Option ex_C) (fun pc => @Bool.rec (fun _ => Nat → Option ex_C) (fun pc => @Bool.rec (fun _ => Nat → Option ex_C) (fun pc => @Bool.rec (fun _ => Nat → Option ex_C) (fun pc => @Bool.rec (fun _ => Option ex_C) none (some k92_159) (Nat.beq pc 159)) (fun pc => @Bool.rec (fun _ => Option ex_C) none (some k92_98) (Nat.beq pc 98)) (Nat.ble pc 98) pc) (fun pc => @Bool.rec (fun _ => Option ex_C) none (some k92_97) (Nat.beq pc 97)) (Nat.ble pc 97) pc) (fun pc => @Bool.rec (fun _ => Nat → Option ex_C) (fun pc => @Bool.rec (fun _ => Option ex_C) none (some k92_93) (Nat.beq pc 93)) (fun pc => @Bool.rec (fun _ => Option ex_C) none (some k92_77) (Nat.beq pc 77)) (Nat.ble pc 77) pc) (Nat.ble pc 93) pc) (fun pc => @Bool.rec (fun _ => Nat → Option ex_C) (fun pc => @Bool.rec (fun _ => Nat → Option ex_C) (fun pc => @Bool.rec (fun _ => Option ex_C) none (some k92_55) (Nat.beq pc 55)) (fun pc => @Bool.rec (fun _ => Option ex_C) none (some k92_39) (Nat.beq pc 39)) (Nat.ble pc 39) pc) (fun pc => @Bool.rec (fun _ => Nat → Option ex_C) (fun pc => @Bool.rec (fun _ => Option ex_C) none (some k92_38) (Nat.beq pc 38)) (fun pc => @Bool.rec (fun _ => Option ex_C) none (some k92_0) (Nat.beq pc 0)) (Nat.ble pc 0) pc) (Nat.ble pc 38) pc) (Nat.ble pc 55) pc
theorem ktE_92 : ex_CTT 15 [] cd_92 kt_92 cd_92 := (ex_ct2 (ex_ct2 (ex_ct2 (ex_ct1 kE92_0) (ex_ct1 kE92_38)) (ex_ct2 (ex_ct1 kE92_39) (ex_ct1 kE92_55))) (ex_ct2 (ex_ct2 (ex_ct1 kE92_77) (ex_ct1 kE92_93)) (ex_ct2 (ex_ct1 kE92_97) (ex_ct2 (ex_ct1 kE92_98) (ex_ct1 kE92_159)))))
set_option maxHeartbeats 100000 in
def k93_0 : ex_C := c_aload 0 (c_oinit (c_aload 0 (c_psh 0 (c_pf 11 0 0 (c_aload 0 (c_psh 0 (c_pf 11 0 1 (c_aload 0 (c_psh 45 (c_pf 11 2 2 (c_aload 0 (c_psh 4294967295 (c_pf 11 0 3 (c_return_  15))))))))))))))
set_option maxHeartbeats 100000 in
theorem kE93_0 : ex_CE 15 [] cd_93 k93_0 q93_0 := e_aload_aload_n 0 0 0 0 rfl (e_oinit (e_aload_aload_n 4 0 0 0 rfl (e_psh_iconst 5 0 0 (e_pf 6 704 7 11 0 0 rfl rfl rfl (e_aload_aload_n 9 0 0 0 rfl (e_psh_iconst 10 0 0 (e_pf 11 705 13 11 0 1 rfl rfl rfl (e_aload_aload_n 14 0 0 0 rfl (e_psh_bipush 15 45 45 (e_pf 17 8898 16 11 2 2 rfl rfl rfl (e_aload_aload_n 20 0 0 0 rfl (e_psh_iconst 21 4294967295 (-1) (e_pf 22 707 20 11 0 3 rfl rfl rfl (e_return_ 25 0 ))))))))))))))
def kt_93 : Nat → Option ex_C := fun pc => @Bool.rec (fun _ => Option ex_C) none (some k93_0) (Nat.beq pc 0)
theorem ktE_93 : ex_CTT 15 [] cd_93 kt_93 cd_93 := (ex_ct1 kE93_0)
set_option maxHeartbeats 100000 in
def k94_248 : ex_C := c_return_  15
set_option maxHeartbeats 100000 in
theorem kE94_248 : ex_CE 15 [] cd_94 k94_248 q94_248 := e_return_ 248 0 
set_option maxHeartbeats 100000 in
def k94_199 : ex_C := c_iload 1 (c_psh 8 (c_icmp_ge 248 (c_aload 0 (c_gf 0 0 (c_iload 1 (c_psh 17179869191 (c_iload 1 (c_iaload (c_psh 17179869192 (c_iload 1 (c_iaload (c_psh 17179869190 (c_iload 1 (c_iaload (c_invV [] cd_94 225 5 42 1 (c_aload 0 (c_gf 0 3 (c_iload 1 (c_psh 3 (c_iastore (c_aload 0 (c_gf 0 4 (c_iload 1 (c_psh 3 (c_iastore (c_iinc 1 1 (c_goto 199)))))))))))))))))))))))))))
set_option maxHeartbeats 100000 in
theorem kE94_199 : ex_CE 15 [] cd_94 k94_199 q94_199 := e_iload_iload_n 199 0 1 1 rfl (e_psh_bipush 200 8 8 (e_icmp_ge 202 248 46 (e_aload_aload_n 205 0 0 0 rfl (e_gf 206 86016 10 0 0 rfl rfl (e_iload_iload_n 209 0 1 1 rfl (e_psh_getstatic 210 17179869191 109 (e_iload_iload_n 213 0 1 1 rfl (e_iaload 214 0 (e_psh_getstatic 215 17179869192 112 (e_iload_iload_n 218 0 1 1 rfl (e_iaload 219 0 (e_psh_getstatic 220 17179869190 115 (e_iload_iload_n 223 0 1 1 rfl (e_iaload 224 0 (e_invV_invokevirtual 225 475173 118 5 42 1 rfl rfl rfl rfl rfl rfl (e_aload_aload_n 228 0 0 0 rfl (e_gf 229 86019 22 0 3 rfl rfl (e_iload_iload_n 232 0 1 1 rfl (e_psh_iconst 233 3 3 (e_iastore 234 0 (e_aload_aload_n 235 0 0 0 rfl (e_gf 236 86020 26 0 4 rfl rfl (e_iload_iload_n 239 0 1 1 rfl (e_psh_iconst 240 3 3 (e_iastore 241 0 (e_iinc 242 1 1 1 (e_goto 245 199 (-46))))))))))))))))))))))))))))
set_option maxHeartbeats 100000 in
def k94_0 : ex_C := c_aload 0 (c_oinit (c_aload 0 (c_newo 5708990770829031821091683427792993911505421313 4 (c_dup   (c_invP [] cd_94 9 1 41 (c_pf 0 5 0 (c_aload 0 (c_newo 5708990770829031821091683427792993911505421313 4 (c_dup   (c_invP [] cd_94 20 1 41 (c_pf 0 5 1 (c_aload 0 (c_newo 5708990770829031821091683427792993911505421313 4 (c_dup   (c_invP [] cd_94 31 1 41 (c_pf 0 5 2 (c_aload 0 (c_psh 8 (c_newarr 64 0 (c_pf 0 5 3 (c_aload 0 (c_psh 8 (c_newarr 64 0 (c_pf 0 5 4 (c_aload 0 (c_newo 6901746346796840889170148252031632070906137730269916703600899763734530 8 (c_dup   (c_aload 0 (c_gf 0 1 (c_invP [] cd_94 62 2 58 (c_pf 0 5 5 (c_aload 0 (c_newo 8343699359073643559715817195654438892581233081332998815952749606698165965972873344291042232069 7 (c_dup   (c_invP [] cd_94 73 1 0 (c_pf 0 5 6 (c_aload 0 (c_newo 5708990770829031821091683427792993911505422598 9 (c_dup   (c_invP [] cd_94 84 1 46 (c_pf 0 5 7 (c_aload 0 (c_newo 5708990770829031821091683427792993911505422598 9 (c_dup   (c_invP [] cd_94 95 1 46 (c_pf 0 5 8 (c_aload 0 (c_newo 5192296858539549995013365974434823 4 (c_dup   (c_invP [] cd_94 106 1 36 (c_pf 0 5 9 (c_aload 0 (c_newo 5708990770829031821091683427792993911505421576 5 (c_dup   (c_invP [] cd_94 117 1 26 (c_pf 0 5 10 (c_aload 0 (c_newo 602601766597121353328235784627935975945826122668547313239049 4 (c_dup   (c_invP [] cd_94 128 1 55 (c_pf 0 5 11 (c_aload 0 (c_newo 5708990770829031821091683427792993911505421578 5 (c_dup   (c_invP [] cd_94 139 1 29 (c_pf 0 5 12 (c_aload 0 (c_newo 1035 4 (c_dup   (c_invP [] cd_94 150 1 93 (c_pf 0 5 13 (c_aload 0 (c_psh 8 (c_newarr 64 0 (c_pf 0 5 14 (c_aload 0 (c_psh 2 (c_newarr 64 0 (c_pf 0 5 15 (c_aload 0 (c_psh 0 (c_pf 0 0 16 (c_aload 0 (c_psh 3 (c_pf 0 0 17 (c_aload 0 (c_psh 2000 (c_pf 0 0 18 (c_aload 0 (c_gf 0 0 (c_psh 8 (c_pf 1 0 3 (c_psh 0 (c_istore 1 (k94_199)))))))))))))))))))))))))))))))))))))))))))))))))))))))))))))))))))))))))))))))))))))))))))))))
set_option maxHeartbeats 100000 in
theorem kE94_0 : ex_CE 15 [] cd_94 k94_0 q94_0 := e_aload_aload_n 0 0 0 0 rfl (e_oinit (e_aload_aload_n 4 0 0 0 rfl (e_newo 5 1 7 5708990770829031821091683427792993911505421313 4 rfl rfl rfl (e_dup 8 0  (e_invP 9 475073 9 1 41 rfl rfl rfl rfl (e_pf 12 86016 10 0 5 0 rfl rfl rfl (e_aload_aload_n 15 0 0 0 rfl (e_newo 16 1 7 5708990770829031821091683427792993911505421313 4 rfl rfl rfl (e_dup 19 0  (e_invP 20 475073 9 1 41 rfl rfl rfl rfl (e_pf 23 86017 16 0 5 1 rfl rfl rfl (e_aload_aload_n 26 0 0 0 rfl (e_newo 27 1 7 5708990770829031821091683427792993911505421313 4 rfl rfl rfl (e_dup 30 0  (e_invP 31 475073 9 1 41 rfl rfl rfl rfl (e_pf 34 86018 19 0 5 2 rfl rfl rfl (e_aload_aload_n 37 0 0 0 rfl (e_psh_bipush 38 8 8 (e_newarr 40 64 0 rfl (e_pf 42 86019 22 0 5 3 rfl rfl rfl (e_aload_aload_n 45 0 0 0 rfl (e_psh_bipush 46 8 8 (e_newarr 48 64 0 rfl (e_pf 50 86020 26 0 5 4 rfl rfl rfl (e_aload_aload_n 53 0 0 0 rfl (e_newo 54 2 29 6901746346796840889170148252031632070906137730269916703600899763734530 8 rfl rfl rfl (e_dup 57 0  (e_aload_aload_n 58 0 0 0 rfl (e_gf 59 86017 16 0 1 rfl rfl (e_invP 62 614338 31 2 58 rfl rfl rfl rfl (e_pf 65 86021 34 0 5 5 rfl rfl rfl (e_aload_aload_n 68 0 0 0 rfl (e_newo 69 5 38 8343699359073643559715817195654438892581233081332998815952749606698165965972873344291042232069 7 rfl rfl rfl (e_dup 72 0  (e_invP 73 139201 40 1 0 rfl rfl rfl rfl (e_pf 76 86022 41 0 5 6 rfl rfl rfl (e_aload_aload_n 79 0 0 0 rfl (e_newo 80 6 45 5708990770829031821091683427792993911505422598 9 rfl rfl rfl (e_dup 83 0  (e_invP 84 516033 47 1 46 rfl rfl rfl rfl (e_pf 87 86023 48 0 5 7 rfl rfl rfl (e_aload_aload_n 90 0 0 0 rfl (e_newo 91 6 45 5708990770829031821091683427792993911505422598 9 rfl rfl rfl (e_dup 94 0  (e_invP 95 516033 47 1 46 rfl rfl rfl rfl (e_pf 98 86024 52 0 5 8 rfl rfl rfl (e_aload_aload_n 101 0 0 0 rfl (e_newo 102 7 55 5192296858539549995013365974434823 4 rfl rfl rfl (e_dup 105 0  (e_invP 106 434113 57 1 36 rfl rfl rfl rfl (e_pf 109 86025 58 0 5 9 rfl rfl rfl (e_aload_aload_n 112 0 0 0 rfl (e_newo 113 8 62 5708990770829031821091683427792993911505421576 5 rfl rfl rfl (e_dup 116 0  (e_invP 117 352193 64 1 26 rfl rfl rfl rfl (e_pf 120 86026 65 0 5 10 rfl rfl rfl (e_aload_aload_n 123 0 0 0 rfl (e_newo 124 9 69 602601766597121353328235784627935975945826122668547313239049 4 rfl rfl rfl (e_dup 127 0  (e_invP 128 589761 71 1 55 rfl rfl rfl rfl (e_pf 131 86027 72 0 5 11 rfl rfl rfl (e_aload_aload_n 134 0 0 0 rfl (e_newo 135 10 76 5708990770829031821091683427792993911505421578 5 rfl rfl rfl (e_dup 138 0  (e_invP 139 376769 78 1 29 rfl rfl rfl rfl (e_pf 142 86028 79 0 5 12 rfl rfl rfl (e_aload_aload_n 145 0 0 0 rfl (e_newo 146 11 83 1035 4 rfl rfl rfl (e_dup 149 0  (e_invP 150 901057 85 1 93 rfl rfl rfl rfl (e_pf 153 86029 86 0 5 13 rfl rfl rfl (e_aload_aload_n 156 0 0 0 rfl (e_psh_bipush 157 8 8 (e_newarr 159 64 0 rfl (e_pf 161 86030 90 0 5 14 rfl rfl rfl (e_aload_aload_n 164 0 0 0 rfl (e_psh_iconst 165 2 2 (e_newarr 166 64 0 rfl (e_pf 168 86031 93 0 5 15 rfl rfl rfl (e_aload_aload_n 171 0 0 0 rfl (e_psh_iconst 172 0 0 (e_pf 173 16 96 0 0 16 rfl rfl rfl (e_aload_aload_n 176 0 0 0 rfl (e_psh_iconst 177 3 3 (e_pf 178 17 100 0 0 17 rfl rfl rfl (e_aload_aload_n 181 0 0 0 rfl (e_psh_sipush 182 2000 2000 (e_pf 185 18 103 0 0 18 rfl rfl rfl (e_aload_aload_n 188 0 0 0 rfl (e_gf 189 86016 10 0 0 rfl rfl (e_psh_bipush 192 8 8 (e_pf 194 67 106 1 0 3 rfl rfl rfl (e_psh_iconst 197 0 0 (e_istore_istore_n 198 0 1 1 rfl (kE94_199)))))))))))))))))))))))))))))))))))))))))))))))))))))))))))))))))))))))))))))))))))))))))))))))
def kt_94 : Nat → Option ex_C := fun pc => @Bool.rec (fun _ => Nat → Option ex_C) (fun pc => @Bool.rec (fun _ => Nat → Option ex_C) (fun pc => @Bool.rec (fun _ => Option ex_C) none (some k94_248) (Nat.beq pc 248)) (fun pc => @Bool.rec (fun _ => Option ex_C) none (some k94_199) (Nat.beq pc 199)) (Nat.ble pc 199) pc) (fun pc => @Bool.rec (fun _ => Option ex_C) none (some k94_0) (Nat.beq pc 0)) (Nat.ble pc 0) pc
theorem ktE_94 : ex_CTT 15 [] cd_94 kt_94 cd_94 := (ex_ct2 (ex_ct1 kE94_0) (ex_ct2 (ex_ct1 kE94_199) (ex_ct1 kE94_248)))
set_option maxHeartbeats 100000 in
def k95_0 : ex_C := c_aload 0 (c_invV [] cd_95 1 1 165 0 (c_istore 1 (c_aload 0 (c_invV [] cd_95 6 1 162 0 (c_iload 1 (c_ireturn  0))))))
set_option maxHeartbeats 100000 in
theorem kE95_0 : ex_CE 0 [] cd_95 k95_0 q95_0 := e_aload_aload_n 0 0 0 0 rfl (e_invV_invokevirtual 1 1482753 122 1 165 0 rfl rfl rfl rfl rfl rfl (e_istore_istore_n 4 0 1 1 rfl (e_aload_aload_n 5 0 0 0 rfl (e_invV_invokevirtual 6 1458177 126 1 162 0 rfl rfl rfl rfl rfl rfl (e_iload_iload_n 9 0 1 1 rfl (e_ireturn 10 0 ))))))
def kt_95 : Nat → Option ex_C := fun pc => @Bool.rec (fun _ => Option ex_C) none (some k95_0) (Nat.beq pc 0)
theorem ktE_95 : ex_CTT 0 [] cd_95 kt_95 cd_95 := (ex_ct1 kE95_0)
set_option maxHeartbeats 100000 in
def k96_0 : ex_C := c_aload 0 (c_iload 1 (c_invV [] cd_96 2 2 147 0 (c_aload 0 (c_gf 0 0 (c_gf 1 0 (c_iload 1 (c_iaload (c_ireturn  0))))))))
set_option maxHeartbeats 100000 in
theorem kE96_0 : ex_CE 0 [] cd_96 k96_0 q96_0 := e_aload_aload_n 0 0 0 0 rfl (e_iload_iload_n 1 0 1 1 rfl (e_invV_invokevirtual 2 1335298 129 2 147 0 rfl rfl rfl rfl rfl rfl (e_aload_aload_n 5 0 0 0 rfl (e_gf 6 86016 10 0 0 rfl rfl (e_gf 9 86080 133 1 0 rfl rfl (e_iload_iload_n 12 0 1 1 rfl (e_iaload 13 0 (e_ireturn 14 0 ))))))))
def kt_96 : Nat → Option ex_C := fun pc => @Bool.rec (fun _ => Option ex_C) none (some k96_0) (Nat.beq pc 0)
theorem ktE_96 : ex_CTT 0 [] cd_96 kt_96 cd_96 := (ex_ct1 kE96_0)
set_option maxHeartbeats 100000 in
def k97_0 : ex_C := c_aload 0 (c_iload 1 (c_invV [] cd_97 2 2 147 0 (c_aload 0 (c_gf 0 0 (c_gf 1 1 (c_iload 1 (c_iaload (c_ireturn  0))))))))
set_option maxHeartbeats 100000 in
theorem kE97_0 : ex_CE 0 [] cd_97 k97_0 q97_0 := e_aload_aload_n 0 0 0 0 rfl (e_iload_iload_n 1 0 1 1 rfl (e_invV_invokevirtual 2 1335298 129 2 147 0 rfl rfl rfl rfl rfl rfl (e_aload_aload_n 5 0 0 0 rfl (e_gf 6 86016 10 0 0 rfl rfl (e_gf 9 86081 136 1 1 rfl rfl (e_iload_iload_n 12 0 1 1 rfl (e_iaload 13 0 (e_ireturn 14 0 ))))))))
def kt_97 : Nat → Option ex_C := fun pc => @Bool.rec (fun _ => Option ex_C) none (some k97_0) (Nat.beq pc 0)
theorem ktE_97 : ex_CTT 0 [] cd_97 kt_97 cd_97 := (ex_ct1 kE97_0)
set_option maxHeartbeats 100000 in
def k98_0 : ex_C := c_aload 0 (c_iload 1 (c_invV [] cd_98 2 2 147 0 (c_aload 0 (c_gf 0 0 (c_gf 1 2 (c_iload 1 (c_iaload (c_ireturn  0))))))))
set_option maxHeartbeats 100000 in
theorem kE98_0 : ex_CE 0 [] cd_98 k98_0 q98_0 := e_aload_aload_n 0 0 0 0 rfl (e_iload_iload_n 1 0 1 1 rfl (e_invV_invokevirtual 2 1335298 129 2 147 0 rfl rfl rfl rfl rfl rfl (e_aload_aload_n 5 0 0 0 rfl (e_gf 6 86016 10 0 0 rfl rfl (e_gf 9 86082 139 1 2 rfl rfl (e_iload_iload_n 12 0 1 1 rfl (e_iaload 13 0 (e_ireturn 14 0 ))))))))
def kt_98 : Nat → Option ex_C := fun pc => @Bool.rec (fun _ => Option ex_C) none (some k98_0) (Nat.beq pc 0)
theorem ktE_98 : ex_CTT 0 [] cd_98 kt_98 cd_98 := (ex_ct1 kE98_0)
set_option maxHeartbeats 100000 in
def k99_43 : ex_C := c_aload 0 (c_gf 0 0 (c_gf 1 2 (c_iload 1 (c_iaload (c_istore 6 (c_aload 0 (c_gf 0 0 (c_iload 1 (c_iload 2 (c_iload 3 (c_iload 4 (c_invV [] cd_99 63 5 42 1 (c_aload 0 (c_invV [] cd_99 67 1 163 0 (c_iload 6 (c_ireturn  0))))))))))))))))
set_option maxHeartbeats 100000 in
theorem kE99_43 : ex_CE 0 [] cd_99 k99_43 q99_43 := e_aload_aload_n 43 0 0 0 rfl (e_gf 44 86016 10 0 0 rfl rfl (e_gf 47 86082 139 1 2 rfl rfl (e_iload_iload_n 50 0 1 1 rfl (e_iaload 51 0 (e_istore_istore 52 0 6 (e_aload_aload_n 54 0 0 0 rfl (e_gf 55 86016 10 0 0 rfl rfl (e_iload_iload_n 58 0 1 1 rfl (e_iload_iload_n 59 0 2 2 rfl (e_iload_iload_n 60 0 3 3 rfl (e_iload_iload 61 0 4 (e_invV_invokevirtual 63 475173 118 5 42 1 rfl rfl rfl rfl rfl rfl (e_aload_aload_n 66 0 0 0 rfl (e_invV_invokevirtual 67 1466369 153 1 163 0 rfl rfl rfl rfl rfl rfl (e_iload_iload 70 0 6 (e_ireturn 72 0 ))))))))))))))))
set_option maxHeartbeats 100000 in
def k99_0 : ex_C := c_aload 0 (c_iload 1 (c_invV [] cd_99 2 2 147 0 (c_aload 0 (c_iload 2 (c_iload 3 (c_iload 4 (c_invV [] cd_99 10 4 148 0 (c_aload 0 (c_gf 0 0 (c_iload 2 (c_iload 3 (c_invV [] cd_99 19 3 43 1 (c_istore 5 (c_iload 5 (c_if_lt 43 (c_iload 5 (c_iload 1 (c_icmp_eq 43 (c_newx 549755813891)))))))))))))))))))
set_option maxHeartbeats 100000 in
theorem kE99_0 : ex_CE 0 [] cd_99 k99_0 q99_0 := e_aload_aload_n 0 0 0 0 rfl (e_iload_iload_n 1 0 1 1 rfl (e_invV_invokevirtual 2 1335298 129 2 147 0 rfl rfl rfl rfl rfl rfl (e_aload_aload_n 5 0 0 0 rfl (e_iload_iload_n 6 0 2 2 rfl (e_iload_iload_n 7 0 3 3 rfl (e_iload_iload 8 0 4 (e_invV_invokevirtual 10 1343492 142 4 148 0 rfl rfl rfl rfl rfl rfl (e_aload_aload_n 13 0 0 0 rfl (e_gf 14 86016 10 0 0 rfl rfl (e_iload_iload_n 17 0 2 2 rfl (e_iload_iload_n 18 0 3 3 rfl (e_invV_invokevirtual 19 483363 146 3 43 1 rfl rfl rfl rfl rfl rfl (e_istore_istore 22 0 5 (e_iload_iload 24 0 5 (e_if_lt 26 43 17 (e_iload_iload 29 0 5 (e_iload_iload_n 31 0 1 1 rfl (e_icmp_eq 32 43 11 (e_newx 35 1003 150 152 549755813891 rfl rfl rfl)))))))))))))))))))
def kt_99 : Nat → Option ex_C := fun pc => @Bool.rec (fun _ => Nat → Option ex_C) (fun pc => @Bool.rec (fun _ => Option ex_C) none (some k99_43) (Nat.beq pc 43)) (fun pc => @Bool.rec (fun _ => Option ex_C) none (some k99_0) (Nat.beq pc 0)) (Nat.ble pc 0) pc
theorem ktE_99 : ex_CTT 0 [] cd_99 kt_99 cd_99 := (ex_ct2 (ex_ct1 kE99_0) (ex_ct1 kE99_43))
set_option maxHeartbeats 100000 in
def k100_23 : ex_C := c_aload 0 (c_gf 0 0 (c_gf 1 0 (c_iload 1 (c_iaload (c_istore 3 (c_aload 0 (c_gf 0 0 (c_gf 1 1 (c_iload 1 (c_iaload (c_istore 4 (c_aload 0 (c_gf 0 0 (c_gf 1 2 (c_iload 1 (c_iaload (c_istore 5 (c_iload 3 (c_aload 0 (c_gf 0 0 (c_gf 1 0 (c_iload 2 (c_iaload (c_isub (c_invS [] cd_100 66 1 299 (c_iload 4 (c_aload 0 (c_gf 0 0 (c_gf 1 1 (c_iload 2 (c_iaload (c_isub (c_invS [] cd_100 81 1 299 (c_iadd (c_istore 6 (c_aload 0 (c_gf 0 0 (c_iload 1 (c_aload 0 (c_gf 0 0 (c_gf 1 0 (c_iload 2 (c_iaload (c_aload 0 (c_gf 0 0 (c_gf 1 1 (c_iload 2 (c_iaload (c_aload 0 (c_gf 0 0 (c_gf 1 2 (c_iload 2 (c_iaload (c_invV [] cd_100 119 5 42 1 (c_aload 0 (c_gf 0 0 (c_iload 2 (c_iload 3 (c_iload 4 (c_iload 5 (c_invV [] cd_100 132 5 42 1 (c_aload 0 (c_invV [] cd_100 136 1 163 0 (c_iload 6 (c_ireturn  0)))))))))))))))))))))))))))))))))))))))))))))))))))))))))))))))))
set_option maxHeartbeats 100000 in
theorem kE100_23 : ex_CE 0 [] cd_100 k100_23 q100_23 := e_aload_aload_n 23 0 0 0 rfl (e_gf 24 86016 10 0 0 rfl rfl (e_gf 27 86080 133 1 0 rfl rfl (e_iload_iload_n 30 0 1 1 rfl (e_iaload 31 0 (e_istore_istore_n 32 0 3 3 rfl (e_aload_aload_n 33 0 0 0 rfl (e_gf 34 86016 10 0 0 rfl rfl (e_gf 37 86081 136 1 1 rfl rfl (e_iload_iload_n 40 0 1 1 rfl (e_iaload 41 0 (e_istore_istore 42 0 4 (e_aload_aload_n 44 0 0 0 rfl (e_gf 45 86016 10 0 0 rfl rfl (e_gf 48 86082 139 1 2 rfl rfl (e_iload_iload_n 51 0 1 1 rfl (e_iaload 52 0 (e_istore_istore 53 0 5 (e_iload_iload_n 55 0 3 3 rfl (e_aload_aload_n 56 0 0 0 rfl (e_gf 57 86016 10 0 0 rfl rfl (e_gf 60 86080 133 1 0 rfl rfl (e_iload_iload_n 63 0 2 2 rfl (e_iaload 64 0 (e_isub 65 0 (e_invS 66 2588641 159 1 299 rfl rfl rfl (e_iload_iload 69 0 4 (e_aload_aload_n 71 0 0 0 rfl (e_gf 72 86016 10 0 0 rfl rfl (e_gf 75 86081 136 1 1 rfl rfl (e_iload_iload_n 78 0 2 2 rfl (e_iaload 79 0 (e_isub 80 0 (e_invS 81 2588641 159 1 299 rfl rfl rfl (e_iadd 84 0 (e_istore_istore 85 0 6 (e_aload_aload_n 87 0 0 0 rfl (e_gf 88 86016 10 0 0 rfl rfl (e_iload_iload_n 91 0 1 1 rfl (e_aload_aload_n 92 0 0 0 rfl (e_gf 93 86016 10 0 0 rfl rfl (e_gf 96 86080 133 1 0 rfl rfl (e_iload_iload_n 99 0 2 2 rfl (e_iaload 100 0 (e_aload_aload_n 101 0 0 0 rfl (e_gf 102 86016 10 0 0 rfl rfl (e_gf 105 86081 136 1 1 rfl rfl (e_iload_iload_n 108 0 2 2 rfl (e_iaload 109 0 (e_aload_aload_n 110 0 0 0 rfl (e_gf 111 86016 10 0 0 rfl rfl (e_gf 114 86082 139 1 2 rfl rfl (e_iload_iload_n 117 0 2 2 rfl (e_iaload 118 0 (e_invV_invokevirtual 119 475173 118 5 42 1 rfl rfl rfl rfl rfl rfl (e_aload_aload_n 122 0 0 0 rfl (e_gf 123 86016 10 0 0 rfl rfl (e_iload_iload_n 126 0 2 2 rfl (e_iload_iload_n 127 0 3 3 rfl (e_iload_iload 128 0 4 (e_iload_iload 130 0 5 (e_invV_invokevirtual 132 475173 118 5 42 1 rfl rfl rfl rfl rfl rfl (e_aload_aload_n 135 0 0 0 rfl (e_invV_invokevirtual 136 1466369 153 1 163 0 rfl rfl rfl rfl rfl rfl (e_iload_iload 139 0 6 (e_ireturn 141 0 )))))))))))))))))))))))))))))))))))))))))))))))))))))))))))))))))
set_option maxHeartbeats 100000 in
def k100_0 : ex_C := c_aload 0 (c_iload 1 (c_invV [] cd_100 2 2 147 0 (c_aload 0 (c_iload 2 (c_invV [] cd_100 7 2 147 0 (c_iload 1 (c_iload 2 (c_icmp_ne 23 (c_newx 549755813890)))))))))
set_option maxHeartbeats 100000 in
theorem kE100_0 : ex_CE 0 [] cd_100 k100_0 q100_0 := e_aload_aload_n 0 0 0 0 rfl (e_iload_iload_n 1 0 1 1 rfl (e_invV_invokevirtual 2 1335298 129 2 147 0 rfl rfl rfl rfl rfl rfl (e_aload_aload_n 5 0 0 0 rfl (e_iload_iload_n 6 0 2 2 rfl (e_invV_invokevirtual 7 1335298 129 2 147 0 rfl rfl rfl rfl rfl rfl (e_iload_iload_n 10 0 1 1 rfl (e_iload_iload_n 11 0 2 2 rfl (e_icmp_ne 12 23 11 (e_newx 15 1002 156 158 549755813890 rfl rfl rfl)))))))))
def kt_100 : Nat → Option ex_C := fun pc => @Bool.rec (fun _ => Nat → Option ex_C) (fun pc => @Bool.rec (fun _ => Option ex_C) none (some k100_23) (Nat.beq pc 23)) (fun pc => @Bool.rec (fun _ => Option ex_C) none (some k100_0) (Nat.beq pc 0)) (Nat.ble pc 0) pc
theorem ktE_100 : ex_CTT 0 [] cd_100 kt_100 cd_100 := (ex_ct2 (ex_ct1 kE100_0) (ex_ct1 kE100_23))
set_option maxHeartbeats 100000 in
def k101_88 : ex_C := c_aload 0 (c_invV [] cd_101 89 1 163 0 (c_aload 0 (c_gf 0 0 (c_gf 1 2 (c_psh 0 (c_iaload (c_ireturn  0)))))))
set_option maxHeartbeats 100000 in
theorem kE101_88 : ex_CE 0 [] cd_101 k101_88 q101_88 := e_aload_aload_n 88 0 0 0 rfl (e_invV_invokevirtual 89 1466369 153 1 163 0 rfl rfl rfl rfl rfl rfl (e_aload_aload_n 92 0 0 0 rfl (e_gf 93 86016 10 0 0 rfl rfl (e_gf 96 86082 139 1 2 rfl rfl (e_psh_iconst 99 0 0 (e_iaload 100 0 (e_ireturn 101 0 )))))))
set_option maxHeartbeats 100000 in
def k101_20 : ex_C := c_iload 2 (c_psh 8 (c_icmp_ge 88 (c_aload 0 (c_gf 0 0 (c_gf 1 0 (c_iload 2 (c_iaload (c_istore 3 (c_aload 0 (c_gf 0 0 (c_gf 1 1 (c_iload 2 (c_iaload (c_istore 4 (c_aload 0 (c_gf 0 0 (c_iload 2 (c_iload 3 (c_iload 4 (c_iload 1 (c_invS [] cd_101 56 3 169 (c_iload 3 (c_iload 4 (c_iload 1 (c_invS [] cd_101 63 3 170 (c_aload 0 (c_gf 0 0 (c_gf 1 2 (c_iload 2 (c_iaload (c_iload 1 (c_isub (c_psh 3 (c_iand (c_invV [] cd_101 79 5 42 1 (c_iinc 2 1 (c_goto 20)))))))))))))))))))))))))))))))))))))
set_option maxHeartbeats 100000 in
theorem kE101_20 : ex_CE 0 [] cd_101 k101_20 q101_20 := e_iload_iload_n 20 0 2 2 rfl (e_psh_bipush 21 8 8 (e_icmp_ge 23 88 65 (e_aload_aload_n 26 0 0 0 rfl (e_gf 27 86016 10 0 0 rfl rfl (e_gf 30 86080 133 1 0 rfl rfl (e_iload_iload_n 33 0 2 2 rfl (e_iaload 34 0 (e_istore_istore_n 35 0 3 3 rfl (e_aload_aload_n 36 0 0 0 rfl (e_gf 37 86016 10 0 0 rfl rfl (e_gf 40 86081 136 1 1 rfl rfl (e_iload_iload_n 43 0 2 2 rfl (e_iaload 44 0 (e_istore_istore 45 0 4 (e_aload_aload_n 47 0 0 0 rfl (e_gf 48 86016 10 0 0 rfl rfl (e_iload_iload_n 51 0 2 2 rfl (e_iload_iload_n 52 0 3 3 rfl (e_iload_iload 53 0 4 (e_iload_iload_n 55 0 1 1 rfl (e_invS 56 1523683 165 3 169 rfl rfl rfl (e_iload_iload_n 59 0 3 3 rfl (e_iload_iload 60 0 4 (e_iload_iload_n 62 0 1 1 rfl (e_invS 63 1531875 169 3 170 rfl rfl rfl (e_aload_aload_n 66 0 0 0 rfl (e_gf 67 86016 10 0 0 rfl rfl (e_gf 70 86082 139 1 2 rfl rfl (e_iload_iload_n 73 0 2 2 rfl (e_iaload 74 0 (e_iload_iload_n 75 0 1 1 rfl (e_isub 76 0 (e_psh_iconst 77 3 3 (e_iand 78 0 (e_invV_invokevirtual 79 475173 118 5 42 1 rfl rfl rfl rfl rfl rfl (e_iinc 82 1 2 1 (e_goto 85 20 (-65))))))))))))))))))))))))))))))))))))))
set_option maxHeartbeats 100000 in
def k101_18 : ex_C := c_psh 0 (c_istore 2 (k101_20))
set_option maxHeartbeats 100000 in
theorem kE101_18 : ex_CE 0 [] cd_101 k101_18 q101_18 := e_psh_iconst 18 0 0 (e_istore_istore_n 19 0 2 2 rfl (kE101_20))
set_option maxHeartbeats 100000 in
def k101_10 : ex_C := c_newx 549755813890
set_option maxHeartbeats 100000 in
theorem kE101_10 : ex_CE 0 [] cd_101 k101_10 q101_10 := e_newx 10 1002 156 158 549755813890 rfl rfl rfl
set_option maxHeartbeats 100000 in
def k101_0 : ex_C := c_iload 1 (c_psh 1 (c_icmp_lt 10 (c_iload 1 (c_psh 3 (c_icmp_le 18 (k101_10))))))
set_option maxHeartbeats 100000 in
theorem kE101_0 : ex_CE 0 [] cd_101 k101_0 q101_0 := e_iload_iload_n 0 0 1 1 rfl (e_psh_iconst 1 1 1 (e_icmp_lt 2 10 8 (e_iload_iload_n 5 0 1 1 rfl (e_psh_iconst 6 3 3 (e_icmp_le 7 18 11 (kE101_10))))))
def kt_101 : Nat → Option ex_C := fun pc => @Bool.rec (fun _ => Nat → Option ex_C) (fun pc => @Bool.rec (fun _ => Nat → Option ex_C) (fun pc => @Bool.rec (fun _ => Nat → Option ex_C) (fun pc => @Bool.rec (fun _ => Option ex_C) none (some k101_88) (Nat.beq pc 88)) (fun pc => @Bool.rec (fun _ => Option ex_C) none (some k101_20) (Nat.beq pc 20)) (Nat.ble pc 20) pc) (fun pc => @Bool.rec (fun _ => Option ex_C) none (some k101_18) (Nat.beq pc 18)) (Nat.ble pc 18) pc) (fun pc => @Bool.rec (fun _ => Nat → Option ex_C) (fun pc => @Bool.rec (fun _ => Option ex_C) none (some k101_10) (Nat.beq pc 10)) (fun pc => @Bool.rec (fun _ => Option ex_C) none (some k101_0) (Nat.beq pc 0)) (Nat.ble pc 0) pc) (Nat.ble pc 10) pc
theorem ktE_101 : ex_CTT 0 [] cd_101 kt_101 cd_101 := (ex_ct2 (ex_ct2 (ex_ct1 kE101_0) (ex_ct1 kE101_10)) (ex_ct2 (ex_ct1 kE101_18) (ex_ct2 (ex_ct1 kE101_20) (ex_ct1 kE101_88))))
set_option maxHeartbeats 100000 in
def k102_22 : ex_C := c_iload 3 (c_ireturn  0)
set_option maxHeartbeats 100000 in
theorem kE102_22 : ex_CE 0 [] cd_102 k102_22 q102_22 := e_iload_iload_n 22 0 3 3 rfl (e_ireturn 23 0 )
set_option maxHeartbeats 100000 in
def k102_0 : ex_C := c_aload 0 (c_gf 0 0 (c_iload 1 (c_iload 2 (c_invV [] cd_102 6 3 43 1 (c_istore 3 (c_iload 3 (c_if_ge 22 (c_newx 549755813892))))))))
set_option maxHeartbeats 100000 in
theorem kE102_0 : ex_CE 0 [] cd_102 k102_0 q102_0 := e_aload_aload_n 0 0 0 0 rfl (e_gf 1 86016 10 0 0 rfl rfl (e_iload_iload_n 4 0 1 1 rfl (e_iload_iload_n 5 0 2 2 rfl (e_invV_invokevirtual 6 483363 146 3 43 1 rfl rfl rfl rfl rfl rfl (e_istore_istore_n 9 0 3 3 rfl (e_iload_iload_n 10 0 3 3 rfl (e_if_ge 11 22 11 (e_newx 14 1004 172 174 549755813892 rfl rfl rfl))))))))
def kt_102 : Nat → Option ex_C := fun pc => @Bool.rec (fun _ => Nat → Option ex_C) (fun pc => @Bool.rec (fun _ => Option ex_C) none (some k102_22) (Nat.beq pc 22)) (fun pc => @Bool.rec (fun _ => Option ex_C) none (some k102_0) (Nat.beq pc 0)) (Nat.ble pc 0) pc
theorem ktE_102 : ex_CTT 0 [] cd_102 kt_102 cd_102 := (ex_ct2 (ex_ct1 kE102_0) (ex_ct1 kE102_22))
set_option maxHeartbeats 100000 in
def k103_22 : ex_C := c_aload 0 (c_gf 0 3 (c_iload 1 (c_iaload (c_istore 3 (c_aload 0 (c_gf 0 3 (c_iload 1 (c_iload 2 (c_iastore (c_aload 0 (c_gf 0 8 (c_invV [] cd_103 40 1 47 6 (c_iload 3 (c_ireturn  0))))))))))))))
set_option maxHeartbeats 100000 in
theorem kE103_22 : ex_CE 0 [] cd_103 k103_22 q103_22 := e_aload_aload_n 22 0 0 0 rfl (e_gf 23 86019 22 0 3 rfl rfl (e_iload_iload_n 26 0 1 1 rfl (e_iaload 27 0 (e_istore_istore_n 28 0 3 3 rfl (e_aload_aload_n 29 0 0 0 rfl (e_gf 30 86019 22 0 3 rfl rfl (e_iload_iload_n 33 0 1 1 rfl (e_iload_iload_n 34 0 2 2 rfl (e_iastore 35 0 (e_aload_aload_n 36 0 0 0 rfl (e_gf 37 86024 52 0 8 rfl rfl (e_invV_invokevirtual 40 516289 175 1 47 6 rfl rfl rfl rfl rfl rfl (e_iload_iload_n 43 0 3 3 rfl (e_ireturn 44 0 ))))))))))))))
set_option maxHeartbeats 100000 in
def k103_14 : ex_C := c_newx 549755813890
set_option maxHeartbeats 100000 in
theorem kE103_14 : ex_CE 0 [] cd_103 k103_14 q103_14 := e_newx 14 1002 156 158 549755813890 rfl rfl rfl
set_option maxHeartbeats 100000 in
def k103_0 : ex_C := c_aload 0 (c_iload 1 (c_invV [] cd_103 2 2 147 0 (c_iload 2 (c_if_lt 14 (c_iload 2 (c_psh 3 (c_icmp_le 22 (k103_14))))))))
set_option maxHeartbeats 100000 in
theorem kE103_0 : ex_CE 0 [] cd_103 k103_0 q103_0 := e_aload_aload_n 0 0 0 0 rfl (e_iload_iload_n 1 0 1 1 rfl (e_invV_invokevirtual 2 1335298 129 2 147 0 rfl rfl rfl rfl rfl rfl (e_iload_iload_n 5 0 2 2 rfl (e_if_lt 6 14 8 (e_iload_iload_n 9 0 2 2 rfl (e_psh_iconst 10 3 3 (e_icmp_le 11 22 11 (kE103_14))))))))
def kt_103 : Nat → Option ex_C := fun pc => @Bool.rec (fun _ => Nat → Option ex_C) (fun pc => @Bool.rec (fun _ => Nat → Option ex_C) (fun pc => @Bool.rec (fun _ => Option ex_C) none (some k103_22) (Nat.beq pc 22)) (fun pc => @Bool.rec (fun _ => Option ex_C) none (some k103_14) (Nat.beq pc 14)) (Nat.ble pc 14) pc) (fun pc => @Bool.rec (fun _ => Option ex_C) none (some k103_0) (Nat.beq pc 0)) (Nat.ble pc 0) pc
theorem ktE_103 : ex_CTT 0 [] cd_103 kt_103 cd_103 := (ex_ct2 (ex_ct1 kE103_0) (ex_ct2 (ex_ct1 kE103_14) (ex_ct1 kE103_22)))
set_option maxHeartbeats 100000 in
def k104_47 : ex_C := c_aload 0 (c_gf 0 1 (c_aload 0 (c_gf 0 1 (c_gf 1 3 (c_iload 1 (c_iload 2 (c_iload 3 (c_invV [] cd_104 61 5 42 1 (c_aload 0 (c_gf 0 1 (c_dup   (c_gf 1 3 (c_psh 1 (c_iadd (c_pf 1 0 3 (c_aload 0 (c_gf 0 8 (c_invV [] cd_104 81 1 47 6 (c_aload 0 (c_gf 0 1 (c_gf 1 3 (c_ireturn  0))))))))))))))))))))))
set_option maxHeartbeats 100000 in
theorem kE104_47 : ex_CE 0 [] cd_104 k104_47 q104_47 := e_aload_aload_n 47 0 0 0 rfl (e_gf 48 86017 16 0 1 rfl rfl (e_aload_aload_n 51 0 0 0 rfl (e_gf 52 86017 16 0 1 rfl rfl (e_gf 55 67 106 1 3 rfl rfl (e_iload_iload_n 58 0 1 1 rfl (e_iload_iload_n 59 0 2 2 rfl (e_iload_iload_n 60 0 3 3 rfl (e_invV_invokevirtual 61 475173 118 5 42 1 rfl rfl rfl rfl rfl rfl (e_aload_aload_n 64 0 0 0 rfl (e_gf 65 86017 16 0 1 rfl rfl (e_dup 68 0  (e_gf 69 67 106 1 3 rfl rfl (e_psh_iconst 72 1 1 (e_iadd 73 0 (e_pf 74 67 106 1 0 3 rfl rfl rfl (e_aload_aload_n 77 0 0 0 rfl (e_gf 78 86024 52 0 8 rfl rfl (e_invV_invokevirtual 81 516289 175 1 47 6 rfl rfl rfl rfl rfl rfl (e_aload_aload_n 84 0 0 0 rfl (e_gf 85 86017 16 0 1 rfl rfl (e_gf 88 67 106 1 3 rfl rfl (e_ireturn 91 0 ))))))))))))))))))))))
set_option maxHeartbeats 100000 in
def k104_27 : ex_C := c_aload 0 (c_gf 0 1 (c_gf 1 3 (c_psh 8 (c_icmp_lt 47 (c_newx 549755813893)))))
set_option maxHeartbeats 100000 in
theorem kE104_27 : ex_CE 0 [] cd_104 k104_27 q104_27 := e_aload_aload_n 27 0 0 0 rfl (e_gf 28 86017 16 0 1 rfl rfl (e_gf 31 67 106 1 3 rfl rfl (e_psh_bipush 34 8 8 (e_icmp_lt 36 47 11 (e_newx 39 1005 178 180 549755813893 rfl rfl rfl)))))
set_option maxHeartbeats 100000 in
def k104_0 : ex_C := c_aload 0 (c_iload 1 (c_iload 2 (c_iload 3 (c_invV [] cd_104 4 4 148 0 (c_aload 0 (c_gf 0 1 (c_iload 1 (c_iload 2 (c_invV [] cd_104 13 3 43 1 (c_if_lt 27 (c_newx 549755813891)))))))))))
set_option maxHeartbeats 100000 in
theorem kE104_0 : ex_CE 0 [] cd_104 k104_0 q104_0 := e_aload_aload_n 0 0 0 0 rfl (e_iload_iload_n 1 0 1 1 rfl (e_iload_iload_n 2 0 2 2 rfl (e_iload_iload_n 3 0 3 3 rfl (e_invV_invokevirtual 4 1343492 142 4 148 0 rfl rfl rfl rfl rfl rfl (e_aload_aload_n 7 0 0 0 rfl (e_gf 8 86017 16 0 1 rfl rfl (e_iload_iload_n 11 0 1 1 rfl (e_iload_iload_n 12 0 2 2 rfl (e_invV_invokevirtual 13 483363 146 3 43 1 rfl rfl rfl rfl rfl rfl (e_if_lt 16 27 11 (e_newx 19 1003 150 152 549755813891 rfl rfl rfl)))))))))))
def kt_104 : Nat → Option ex_C := fun pc => @Bool.rec (fun _ => Nat → Option ex_C) (fun pc => @Bool.rec (fun _ => Nat → Option ex_C) (fun pc => @Bool.rec (fun _ => Option ex_C) none (some k104_47) (Nat.beq pc 47)) (fun pc => @Bool.rec (fun _ => Option ex_C) none (some k104_27) (Nat.beq pc 27)) (Nat.ble pc 27) pc) (fun pc => @Bool.rec (fun _ => Option ex_C) none (some k104_0) (Nat.beq pc 0)) (Nat.ble pc 0) pc
theorem ktE_104 : ex_CTT 0 [] cd_104 kt_104 cd_104 := (ex_ct2 (ex_ct1 kE104_0) (ex_ct2 (ex_ct1 kE104_27) (ex_ct1 kE104_47)))
set_option maxHeartbeats 100000 in
def k105_0 : ex_C := c_aload 0 (c_gf 0 1 (c_gf 1 3 (c_istore 1 (c_aload 0 (c_gf 0 1 (c_psh 0 (c_pf 1 0 3 (c_aload 0 (c_gf 0 8 (c_invV [] cd_105 20 1 47 6 (c_iload 1 (c_ireturn  0))))))))))))
set_option maxHeartbeats 100000 in
theorem kE105_0 : ex_CE 0 [] cd_105 k105_0 q105_0 := e_aload_aload_n 0 0 0 0 rfl (e_gf 1 86017 16 0 1 rfl rfl (e_gf 4 67 106 1 3 rfl rfl (e_istore_istore_n 7 0 1 1 rfl (e_aload_aload_n 8 0 0 0 rfl (e_gf 9 86017 16 0 1 rfl rfl (e_psh_iconst 12 0 0 (e_pf 13 67 106 1 0 3 rfl rfl rfl (e_aload_aload_n 16 0 0 0 rfl (e_gf 17 86024 52 0 8 rfl rfl (e_invV_invokevirtual 20 516289 175 1 47 6 rfl rfl rfl rfl rfl rfl (e_iload_iload_n 23 0 1 1 rfl (e_ireturn 24 0 ))))))))))))
def kt_105 : Nat → Option ex_C := fun pc => @Bool.rec (fun _ => Option ex_C) none (some k105_0) (Nat.beq pc 0)
theorem ktE_105 : ex_CTT 0 [] cd_105 kt_105 cd_105 := (ex_ct1 kE105_0)
set_option maxHeartbeats 100000 in
def k106_18 : ex_C := c_aload 0 (c_gf 0 17 (c_istore 2 (c_aload 0 (c_iload 1 (c_pf 0 0 17 (c_iload 2 (c_ireturn  0)))))))
set_option maxHeartbeats 100000 in
theorem kE106_18 : ex_CE 0 [] cd_106 k106_18 q106_18 := e_aload_aload_n 18 0 0 0 rfl (e_gf 19 17 100 0 17 rfl rfl (e_istore_istore_n 22 0 2 2 rfl (e_aload_aload_n 23 0 0 0 rfl (e_iload_iload_n 24 0 1 1 rfl (e_pf 25 17 100 0 0 17 rfl rfl rfl (e_iload_iload_n 28 0 2 2 rfl (e_ireturn 29 0 )))))))
set_option maxHeartbeats 100000 in
def k106_10 : ex_C := c_newx 549755813890
set_option maxHeartbeats 100000 in
theorem kE106_10 : ex_CE 0 [] cd_106 k106_10 q106_10 := e_newx 10 1002 156 158 549755813890 rfl rfl rfl
set_option maxHeartbeats 100000 in
def k106_0 : ex_C := c_iload 1 (c_psh 1 (c_icmp_lt 10 (c_iload 1 (c_psh 3 (c_icmp_le 18 (k106_10))))))
set_option maxHeartbeats 100000 in
theorem kE106_0 : ex_CE 0 [] cd_106 k106_0 q106_0 := e_iload_iload_n 0 0 1 1 rfl (e_psh_iconst 1 1 1 (e_icmp_lt 2 10 8 (e_iload_iload_n 5 0 1 1 rfl (e_psh_iconst 6 3 3 (e_icmp_le 7 18 11 (kE106_10))))))
def kt_106 : Nat → Option ex_C := fun pc => @Bool.rec (fun _ => Nat → Option ex_C) (fun pc => @Bool.rec (fun _ => Nat → Option ex_C) (fun pc => @Bool.rec (fun _ => Option ex_C) none (some k106_18) (Nat.beq pc 18)) (fun pc => @Bool.rec (fun _ => Option ex_C) none (some k106_10) (Nat.beq pc 10)) (Nat.ble pc 10) pc) (fun pc => @Bool.rec (fun _ => Option ex_C) none (some k106_0) (Nat.beq pc 0)) (Nat.ble pc 0) pc
theorem ktE_106 : ex_CTT 0 [] cd_106 kt_106 cd_106 := (ex_ct2 (ex_ct1 kE106_0) (ex_ct2 (ex_ct1 kE106_10) (ex_ct1 kE106_18)))
set_option maxHeartbeats 100000 in
def k107_0 : ex_C := c_aload 0 (c_iload 1 (c_invV [] cd_107 2 2 149 0 (c_aload 0 (c_gf 0 18 (c_istore 2 (c_aload 0 (c_iload 1 (c_pf 0 0 18 (c_aload 0 (c_gf 0 8 (c_invV [] cd_107 19 1 47 6 (c_iload 2 (c_ireturn  0)))))))))))))
set_option maxHeartbeats 100000 in
theorem kE107_0 : ex_CE 0 [] cd_107 k107_0 q107_0 := e_aload_aload_n 0 0 0 0 rfl (e_iload_iload_n 1 0 1 1 rfl (e_invV_invokevirtual 2 1351682 181 2 149 0 rfl rfl rfl rfl rfl rfl (e_aload_aload_n 5 0 0 0 rfl (e_gf 6 18 103 0 18 rfl rfl (e_istore_istore_n 9 0 2 2 rfl (e_aload_aload_n 10 0 0 0 rfl (e_iload_iload_n 11 0 1 1 rfl (e_pf 12 18 103 0 0 18 rfl rfl rfl (e_aload_aload_n 15 0 0 0 rfl (e_gf 16 86024 52 0 8 rfl rfl (e_invV_invokevirtual 19 516289 175 1 47 6 rfl rfl rfl rfl rfl rfl (e_iload_iload_n 22 0 2 2 rfl (e_ireturn 23 0 )))))))))))))
def kt_107 : Nat → Option ex_C := fun pc => @Bool.rec (fun _ => Option ex_C) none (some k107_0) (Nat.beq pc 0)
theorem ktE_107 : ex_CTT 0 [] cd_107 kt_107 cd_107 := (ex_ct1 kE107_0)
set_option maxHeartbeats 100000 in
def k108_56 : ex_C := c_aload 0 (c_gf 0 8 (c_invV [] cd_108 60 1 47 6 (c_aload 0 (c_gf 0 6 (c_iload 6 (c_iload 2 (c_iload 7 (c_iload 8 (c_iload 9 (c_invV [] cd_108 76 6 4 5 (c_ireturn  0)))))))))))
set_option maxHeartbeats 100000 in
theorem kE108_56 : ex_CE 0 [] cd_108 k108_56 q108_56 := e_aload_aload_n 56 0 0 0 rfl (e_gf 57 86024 52 0 8 rfl rfl (e_invV_invokevirtual 60 516289 175 1 47 6 rfl rfl rfl rfl rfl rfl (e_aload_aload_n 63 0 0 0 rfl (e_gf 64 86022 41 0 6 rfl rfl (e_iload_iload 67 0 6 (e_iload_iload_n 69 0 2 2 rfl (e_iload_iload 70 0 7 (e_iload_iload 72 0 8 (e_iload_iload 74 0 9 (e_invV_invokevirtual 76 164006 201 6 4 5 rfl rfl rfl rfl rfl rfl (e_ireturn 79 0 )))))))))))
set_option maxHeartbeats 100000 in
def k108_0 : ex_C := c_aload 0 (c_iload 1 (c_invV [] cd_108 2 2 151 0 (c_istore 6 (c_aload 0 (c_iload 3 (c_invV [] cd_108 9 2 152 0 (c_istore 7 (c_aload 0 (c_iload 4 (c_invV [] cd_108 17 2 153 0 (c_istore 8 (c_aload 0 (c_iload 5 (c_invV [] cd_108 25 2 154 0 (c_istore 9 (c_aload 0 (c_iload 2 (c_invV [] cd_108 32 2 149 0 (c_aload 0 (c_gf 0 6 (c_iload 6 (c_iload 2 (c_invV [] cd_108 42 3 3 5 (c_if_ne 56 (c_newx 549755813893)))))))))))))))))))))))))
set_option maxHeartbeats 100000 in
theorem kE108_0 : ex_CE 0 [] cd_108 k108_0 q108_0 := e_aload_aload_n 0 0 0 0 rfl (e_iload_iload_n 1 0 1 1 rfl (e_invV_invokevirtual 2 1368066 184 2 151 0 rfl rfl rfl rfl rfl rfl (e_istore_istore 5 0 6 (e_aload_aload_n 7 0 0 0 rfl (e_iload_iload_n 8 0 3 3 rfl (e_invV_invokevirtual 9 1376258 188 2 152 0 rfl rfl rfl rfl rfl rfl (e_istore_istore 12 0 7 (e_aload_aload_n 14 0 0 0 rfl (e_iload_iload 15 0 4 (e_invV_invokevirtual 17 1384450 191 2 153 0 rfl rfl rfl rfl rfl rfl (e_istore_istore 20 0 8 (e_aload_aload_n 22 0 0 0 rfl (e_iload_iload 23 0 5 (e_invV_invokevirtual 25 1392642 194 2 154 0 rfl rfl rfl rfl rfl rfl (e_istore_istore 28 0 9 (e_aload_aload_n 30 0 0 0 rfl (e_iload_iload_n 31 0 2 2 rfl (e_invV_invokevirtual 32 1351682 181 2 149 0 rfl rfl rfl rfl rfl rfl (e_aload_aload_n 35 0 0 0 rfl (e_gf 36 86022 41 0 6 rfl rfl (e_iload_iload 39 0 6 (e_iload_iload_n 41 0 2 2 rfl (e_invV_invokevirtual 42 155811 197 3 3 5 rfl rfl rfl rfl rfl rfl (e_if_ne 45 56 11 (e_newx 48 1005 178 180 549755813893 rfl rfl rfl)))))))))))))))))))))))))
def kt_108 : Nat → Option ex_C := fun pc => @Bool.rec (fun _ => Nat → Option ex_C) (fun pc => @Bool.rec (fun _ => Option ex_C) none (some k108_56) (Nat.beq pc 56)) (fun pc => @Bool.rec (fun _ => Option ex_C) none (some k108_0) (Nat.beq pc 0)) (Nat.ble pc 0) pc
theorem ktE_108 : ex_CTT 0 [] cd_108 kt_108 cd_108 := (ex_ct2 (ex_ct1 kE108_0) (ex_ct1 kE108_56))
set_option maxHeartbeats 100000 in
def k109_0 : ex_C := c_aload 0 (c_iload 1 (c_invV [] cd_109 2 2 151 0 (c_istore 2 (c_aload 0 (c_gf 0 8 (c_invV [] cd_109 10 1 47 6 (c_aload 0 (c_gf 0 6 (c_iload 2 (c_invV [] cd_109 18 2 5 5 (c_ireturn  0)))))))))))
set_option maxHeartbeats 100000 in
theorem kE109_0 : ex_CE 0 [] cd_109 k109_0 q109_0 := e_aload_aload_n 0 0 0 0 rfl (e_iload_iload_n 1 0 1 1 rfl (e_invV_invokevirtual 2 1368066 184 2 151 0 rfl rfl rfl rfl rfl rfl (e_istore_istore_n 5 0 2 2 rfl (e_aload_aload_n 6 0 0 0 rfl (e_gf 7 86024 52 0 8 rfl rfl (e_invV_invokevirtual 10 516289 175 1 47 6 rfl rfl rfl rfl rfl rfl (e_aload_aload_n 13 0 0 0 rfl (e_gf 14 86022 41 0 6 rfl rfl (e_iload_iload_n 17 0 2 2 rfl (e_invV_invokevirtual 18 172194 205 2 5 5 rfl rfl rfl rfl rfl rfl (e_ireturn 21 0 )))))))))))
def kt_109 : Nat → Option ex_C := fun pc => @Bool.rec (fun _ => Option ex_C) none (some k109_0) (Nat.beq pc 0)
theorem ktE_109 : ex_CTT 0 [] cd_109 kt_109 cd_109 := (ex_ct1 kE109_0)
set_option maxHeartbeats 100000 in
def k110_51 : ex_C := c_aload 0 (c_gf 0 7 (c_aload 0 (c_gf 0 6 (c_iload 5 (c_invV [] cd_110 61 3 51 6 (c_aload 0 (c_gf 0 6 (c_gf 5 3 (c_iload 5 (c_iload 3 (c_iastore (c_aload 0 (c_gf 0 8 (c_invV [] cd_110 79 1 47 6 (c_aload 0 (c_gf 0 7 (c_gf 6 6 (c_ireturn  0))))))))))))))))))
set_option maxHeartbeats 100000 in
theorem kE110_51 : ex_CE 0 [] cd_110 k110_51 q110_51 := e_aload_aload_n 51 0 0 0 rfl (e_gf 52 86023 48 0 7 rfl rfl (e_aload_aload_n 55 0 0 0 rfl (e_gf 56 86022 41 0 6 rfl rfl (e_iload_iload 59 0 5 (e_invV_invokevirtual 61 549059 211 3 51 6 rfl rfl rfl rfl rfl rfl (e_aload_aload_n 64 0 0 0 rfl (e_gf 65 86022 41 0 6 rfl rfl (e_gf 68 86339 215 5 3 rfl rfl (e_iload_iload 71 0 5 (e_iload_iload_n 73 0 3 3 rfl (e_iastore 74 0 (e_aload_aload_n 75 0 0 0 rfl (e_gf 76 86024 52 0 8 rfl rfl (e_invV_invokevirtual 79 516289 175 1 47 6 rfl rfl rfl rfl rfl rfl (e_aload_aload_n 82 0 0 0 rfl (e_gf 83 86023 48 0 7 rfl rfl (e_gf 86 390 218 6 6 rfl rfl (e_ireturn 89 0 ))))))))))))))))))
set_option maxHeartbeats 100000 in
def k110_26 : ex_C := c_aload 0 (c_gf 0 6 (c_iload 4 (c_iload 2 (c_invV [] cd_110 33 3 1 5 (c_istore 5 (c_iload 5 (c_if_ge 51 (c_newx 549755813892))))))))
set_option maxHeartbeats 100000 in
theorem kE110_26 : ex_CE 0 [] cd_110 k110_26 q110_26 := e_aload_aload_n 26 0 0 0 rfl (e_gf 27 86022 41 0 6 rfl rfl (e_iload_iload 30 0 4 (e_iload_iload_n 32 0 2 2 rfl (e_invV_invokevirtual 33 139427 208 3 1 5 rfl rfl rfl rfl rfl rfl (e_istore_istore 36 0 5 (e_iload_iload 38 0 5 (e_if_ge 40 51 11 (e_newx 43 1004 172 174 549755813892 rfl rfl rfl))))))))
set_option maxHeartbeats 100000 in
def k110_18 : ex_C := c_newx 549755813890
set_option maxHeartbeats 100000 in
theorem kE110_18 : ex_CE 0 [] cd_110 k110_18 q110_18 := e_newx 18 1002 156 158 549755813890 rfl rfl rfl
set_option maxHeartbeats 100000 in
def k110_0 : ex_C := c_aload 0 (c_iload 1 (c_invV [] cd_110 2 2 151 0 (c_istore 4 (c_iload 3 (c_psh 1 (c_icmp_lt 18 (c_iload 3 (c_psh 99 (c_icmp_le 26 (k110_18))))))))))
set_option maxHeartbeats 100000 in
theorem kE110_0 : ex_CE 0 [] cd_110 k110_0 q110_0 := e_aload_aload_n 0 0 0 0 rfl (e_iload_iload_n 1 0 1 1 rfl (e_invV_invokevirtual 2 1368066 184 2 151 0 rfl rfl rfl rfl rfl rfl (e_istore_istore 5 0 4 (e_iload_iload_n 7 0 3 3 rfl (e_psh_iconst 8 1 1 (e_icmp_lt 9 18 9 (e_iload_iload_n 12 0 3 3 rfl (e_psh_bipush 13 99 99 (e_icmp_le 15 26 11 (kE110_18))))))))))
def kt_110 : Nat → Option ex_C := fun pc => @Bool.rec (fun _ => Nat → Option ex_C) (fun pc => @Bool.rec (fun _ => Nat → Option ex_C) (fun pc => @Bool.rec (fun _ => Option ex_C) none (some k110_51) (Nat.beq pc 51)) (fun pc => @Bool.rec (fun _ => Option ex_C) none (some k110_26) (Nat.beq pc 26)) (Nat.ble pc 26) pc) (fun pc => @Bool.rec (fun _ => Nat → Option ex_C) (fun pc => @Bool.rec (fun _ => Option ex_C) none (some k110_18) (Nat.beq pc 18)) (fun pc => @Bool.rec (fun _ => Option ex_C) none (some k110_0) (Nat.beq pc 0)) (Nat.ble pc 0) pc) (Nat.ble pc 18) pc
theorem ktE_110 : ex_CTT 0 [] cd_110 kt_110 cd_110 := (ex_ct2 (ex_ct2 (ex_ct1 kE110_0) (ex_ct1 kE110_18)) (ex_ct2 (ex_ct1 kE110_26) (ex_ct1 kE110_51)))
set_option maxHeartbeats 100000 in
def k111_0 : ex_C := c_aload 0 (c_iload 1 (c_invV [] cd_111 2 2 156 0 (c_aload 0 (c_gf 0 7 (c_gf 6 5 (c_ireturn  0))))))
set_option maxHeartbeats 100000 in
theorem kE111_0 : ex_CE 0 [] cd_111 k111_0 q111_0 := e_aload_aload_n 0 0 0 0 rfl (e_iload_iload_n 1 0 1 1 rfl (e_invV_invokevirtual 2 1409026 221 2 156 0 rfl rfl rfl rfl rfl rfl (e_aload_aload_n 5 0 0 0 rfl (e_gf 6 86023 48 0 7 rfl rfl (e_gf 9 389 225 6 5 rfl rfl (e_ireturn 12 0 ))))))
def kt_111 : Nat → Option ex_C := fun pc => @Bool.rec (fun _ => Option ex_C) none (some k111_0) (Nat.beq pc 0)
theorem ktE_111 : ex_CTT 0 [] cd_111 kt_111 cd_111 := (ex_ct1 kE111_0)
set_option maxHeartbeats 100000 in
def k112_0 : ex_C := c_aload 0 (c_iload 1 (c_invV [] cd_112 2 2 156 0 (c_aload 0 (c_gf 0 7 (c_gf 6 6 (c_ireturn  0))))))
set_option maxHeartbeats 100000 in
theorem kE112_0 : ex_CE 0 [] cd_112 k112_0 q112_0 := e_aload_aload_n 0 0 0 0 rfl (e_iload_iload_n 1 0 1 1 rfl (e_invV_invokevirtual 2 1409026 221 2 156 0 rfl rfl rfl rfl rfl rfl (e_aload_aload_n 5 0 0 0 rfl (e_gf 6 86023 48 0 7 rfl rfl (e_gf 9 390 218 6 6 rfl rfl (e_ireturn 12 0 ))))))
def kt_112 : Nat → Option ex_C := fun pc => @Bool.rec (fun _ => Option ex_C) none (some k112_0) (Nat.beq pc 0)
theorem ktE_112 : ex_CTT 0 [] cd_112 kt_112 cd_112 := (ex_ct1 kE112_0)
set_option maxHeartbeats 100000 in
def k113_0 : ex_C := c_aload 0 (c_iload 1 (c_invV [] cd_113 2 2 156 0 (c_aload 0 (c_gf 0 7 (c_gf 6 7 (c_ireturn  0))))))
set_option maxHeartbeats 100000 in
theorem kE113_0 : ex_CE 0 [] cd_113 k113_0 q113_0 := e_aload_aload_n 0 0 0 0 rfl (e_iload_iload_n 1 0 1 1 rfl (e_invV_invokevirtual 2 1409026 221 2 156 0 rfl rfl rfl rfl rfl rfl (e_aload_aload_n 5 0 0 0 rfl (e_gf 6 86023 48 0 7 rfl rfl (e_gf 9 391 228 6 7 rfl rfl (e_ireturn 12 0 ))))))
def kt_113 : Nat → Option ex_C := fun pc => @Bool.rec (fun _ => Option ex_C) none (some k113_0) (Nat.beq pc 0)
theorem ktE_113 : ex_CTT 0 [] cd_113 kt_113 cd_113 := (ex_ct1 kE113_0)
set_option maxHeartbeats 100000 in
def k114_202 : ex_C := c_iload 9 (c_ireturn  0)
set_option maxHeartbeats 100000 in
theorem kE114_202 : ex_CE 0 [] cd_114 k114_202 q114_202 := e_iload_iload 202 0 9 (e_ireturn 204 0 )
set_option maxHeartbeats 100000 in
def k114_139 : ex_C := c_iload 9 (c_psh 0 (c_invV [] cd_114 142 5 157 0 (c_aload 0 (c_gf 0 9 (c_aload 0 (c_gf 0 0 (c_iload 1 (c_invV [] cd_114 154 3 37 7 (c_aload 0 (c_aload 0 (c_gf 0 7 (c_iload 9 (c_invV [] cd_114 164 2 54 6 (c_invV [] cd_114 167 2 158 0 (c_aload 0 (c_gf 0 8 (c_invV [] cd_114 174 1 47 6 (c_iload 9 (c_aload 0 (c_gf 0 7 (c_gf 6 5 (c_icmp_ge 202 (c_aload 0 (c_gf 0 8 (c_aload 0 (c_gf 0 7 (c_iload 9 (c_invV [] cd_114 199 3 52 6 (k114_202)))))))))))))))))))))))))))))
set_option maxHeartbeats 100000 in
theorem kE114_139 : ex_CE 0 [] cd_114 k114_139 q114_139 := e_iload_iload 139 0 9 (e_psh_iconst 141 0 0 (e_invV_invokevirtual 142 1417221 246 5 157 0 rfl rfl rfl rfl rfl rfl (e_aload_aload_n 145 0 0 0 rfl (e_gf 146 86025 58 0 9 rfl rfl (e_aload_aload_n 149 0 0 0 rfl (e_gf 150 86016 10 0 0 rfl rfl (e_iload_iload_n 153 0 1 1 rfl (e_invV_invokevirtual 154 434403 250 3 37 7 rfl rfl rfl rfl rfl rfl (e_aload_aload_n 157 0 0 0 rfl (e_aload_aload_n 158 0 0 0 rfl (e_gf 159 86023 48 0 7 rfl rfl (e_iload_iload 162 0 9 (e_invV_invokevirtual 164 573634 254 2 54 6 rfl rfl rfl rfl rfl rfl (e_invV_invokevirtual 167 1425410 257 2 158 0 rfl rfl rfl rfl rfl rfl (e_aload_aload_n 170 0 0 0 rfl (e_gf 171 86024 52 0 8 rfl rfl (e_invV_invokevirtual 174 516289 175 1 47 6 rfl rfl rfl rfl rfl rfl (e_iload_iload 177 0 9 (e_aload_aload_n 179 0 0 0 rfl (e_gf 180 86023 48 0 7 rfl rfl (e_gf 183 389 225 6 5 rfl rfl (e_icmp_ge 186 202 16 (e_aload_aload_n 189 0 0 0 rfl (e_gf 190 86024 52 0 8 rfl rfl (e_aload_aload_n 193 0 0 0 rfl (e_gf 194 86023 48 0 7 rfl rfl (e_iload_iload 197 0 9 (e_invV_invokevirtual 199 557251 260 3 52 6 rfl rfl rfl rfl rfl rfl (kE114_202)))))))))))))))))))))))))))))
set_option maxHeartbeats 100000 in
def k114_138 : ex_C := c_psh 0 (k114_139)
set_option maxHeartbeats 100000 in
theorem kE114_138 : ex_CE 0 [] cd_114 k114_138 q114_138 := e_psh_iconst 138 0 0 (kE114_139)
set_option maxHeartbeats 100000 in
def k114_71 : ex_C := c_aload 0 (c_iload 1 (c_invV [] cd_114 73 2 156 0 (c_aload 0 (c_gf 0 7 (c_iload 6 (c_iload 7 (c_invV [] cd_114 84 3 50 6 (c_aload 0 (c_gf 0 7 (c_gf 6 5 (c_iload 4 (c_imul (c_istore 8 (c_iload 8 (c_iload 5 (c_idiv   (c_istore 9 (c_aload 0 (c_gf 0 5 (c_aload 0 (c_gf 0 0 (c_aload 0 (c_gf 0 3 (c_invV [] cd_114 118 3 59 2 (c_aload 0 (c_aload 0 (c_gf 0 7 (c_iload 8 (c_iload 5 (c_irem   (c_if_ne 138 (c_psh 1 (c_goto 139)))))))))))))))))))))))))))))))))
set_option maxHeartbeats 100000 in
theorem kE114_71 : ex_CE 0 [] cd_114 k114_71 q114_71 := e_aload_aload_n 71 0 0 0 rfl (e_iload_iload_n 72 0 1 1 rfl (e_invV_invokevirtual 73 1409026 221 2 156 0 rfl rfl rfl rfl rfl rfl (e_aload_aload_n 76 0 0 0 rfl (e_gf 77 86023 48 0 7 rfl rfl (e_iload_iload 80 0 6 (e_iload_iload 82 0 7 (e_invV_invokevirtual 84 540867 238 3 50 6 rfl rfl rfl rfl rfl rfl (e_aload_aload_n 87 0 0 0 rfl (e_gf 88 86023 48 0 7 rfl rfl (e_gf 91 389 225 6 5 rfl rfl (e_iload_iload 94 0 4 (e_imul 96 0 (e_istore_istore 97 0 8 (e_iload_iload 99 0 8 (e_iload_iload 101 0 5 (e_idiv 103 0  (e_istore_istore 104 0 9 (e_aload_aload_n 106 0 0 0 rfl (e_gf 107 86021 34 0 5 rfl rfl (e_aload_aload_n 110 0 0 0 rfl (e_gf 111 86016 10 0 0 rfl rfl (e_aload_aload_n 114 0 0 0 rfl (e_gf 115 86019 22 0 3 rfl rfl (e_invV_invokevirtual 118 614467 242 3 59 2 rfl rfl rfl rfl rfl rfl (e_aload_aload_n 121 0 0 0 rfl (e_aload_aload_n 122 0 0 0 rfl (e_gf 123 86023 48 0 7 rfl rfl (e_iload_iload 126 0 8 (e_iload_iload 128 0 5 (e_irem 130 0  (e_if_ne 131 138 7 (e_psh_iconst 134 1 1 (e_goto 135 139 4)))))))))))))))))))))))))))))))))
set_option maxHeartbeats 100000 in
def k114_63 : ex_C := c_newx 549755813890
set_option maxHeartbeats 100000 in
theorem kE114_63 : ex_CE 0 [] cd_114 k114_63 q114_63 := e_newx 63 1002 156 158 549755813890 rfl rfl rfl
set_option maxHeartbeats 100000 in
def k114_36 : ex_C := c_iload 4 (c_psh 1 (c_icmp_lt 63 (c_iload 4 (c_psh 12 (c_icmp_gt 63 (c_iload 5 (c_iload 4 (c_icmp_lt 63 (c_iload 5 (c_psh 12 (c_icmp_le 71 (k114_63))))))))))))
set_option maxHeartbeats 100000 in
theorem kE114_36 : ex_CE 0 [] cd_114 k114_36 q114_36 := e_iload_iload 36 0 4 (e_psh_iconst 38 1 1 (e_icmp_lt 39 63 24 (e_iload_iload 42 0 4 (e_psh_bipush 44 12 12 (e_icmp_gt 46 63 17 (e_iload_iload 49 0 5 (e_iload_iload 51 0 4 (e_icmp_lt 53 63 10 (e_iload_iload 56 0 5 (e_psh_bipush 58 12 12 (e_icmp_le 60 71 11 (kE114_63))))))))))))
set_option maxHeartbeats 100000 in
def k114_0 : ex_C := c_aload 0 (c_iload 2 (c_invV [] cd_114 2 2 153 0 (c_istore 6 (c_aload 0 (c_iload 3 (c_invV [] cd_114 9 2 154 0 (c_istore 7 (c_psh 17179869203 (c_iload 1 (c_invV [] cd_114 17 2 305 18 (c_if_ge 36 (c_iload 6 (c_if_eq 36 (c_newx 549755813890))))))))))))))
set_option maxHeartbeats 100000 in
theorem kE114_0 : ex_CE 0 [] cd_114 k114_0 q114_0 := e_aload_aload_n 0 0 0 0 rfl (e_iload_iload_n 1 0 2 2 rfl (e_invV_invokevirtual 2 1384450 191 2 153 0 rfl rfl rfl rfl rfl rfl (e_istore_istore 5 0 6 (e_aload_aload_n 7 0 0 0 rfl (e_iload_iload_n 8 0 3 3 rfl (e_invV_invokevirtual 9 1392642 194 2 154 0 rfl rfl rfl rfl rfl rfl (e_istore_istore 12 0 7 (e_psh_ldc 14 17179869203 231 (e_iload_iload_n 16 0 1 1 rfl (e_invV_invokevirtual 17 2630210 233 2 305 18 rfl rfl rfl rfl rfl rfl (e_if_ge 20 36 16 (e_iload_iload 23 0 6 (e_if_eq 25 36 11 (e_newx 28 1002 156 158 549755813890 rfl rfl rfl))))))))))))))
def kt_114 : Nat → Option ex_C := fun pc => @Bool.rec (fun _ => Nat → Option ex_C) (fun pc => @Bool.rec (fun _ => Nat → Option ex_C) (fun pc => @Bool.rec (fun _ => Nat → Option ex_C) (fun pc => @Bool.rec (fun _ => Option ex_C) none (some k114_202) (Nat.beq pc 202)) (fun pc => @Bool.rec (fun _ => Option ex_C) none (some k114_139) (Nat.beq pc 139)) (Nat.ble pc 139) pc) (fun pc => @Bool.rec (fun _ => Nat → Option ex_C) (fun pc => @Bool.rec (fun _ => Option ex_C) none (some k114_138) (Nat.beq pc 138)) (fun pc => @Bool.rec (fun _ => Option ex_C) none (some k114_71) (Nat.beq pc 71)) (Nat.ble pc 71) pc) (Nat.ble pc 138) pc) (fun pc => @Bool.rec (fun _ => Nat → Option ex_C) (fun pc => @Bool.rec (fun _ => Nat → Option ex_C) (fun pc => @Bool.rec (fun _ => Option ex_C) none (some k114_63) (Nat.beq pc 63)) (fun pc => @Bool.rec (fun _ => Option ex_C) none (some k114_36) (Nat.beq pc 36)) (Nat.ble pc 36) pc) (fun pc => @Bool.rec (fun _ => Option ex_C) none (some k114_0) (Nat.beq pc 0)) (Nat.ble pc 0) pc) (Nat.ble pc 63) pc
theorem ktE_114 : ex_CTT 0 [] cd_114 kt_114 cd_114 := (ex_ct2 (ex_ct2 (ex_ct1 kE114_0) (ex_ct2 (ex_ct1 kE114_36) (ex_ct1 kE114_63))) (ex_ct2 (ex_ct2 (ex_ct1 kE114_71) (ex_ct1 kE114_138)) (ex_ct2 (ex_ct1 kE114_139) (ex_ct1 kE114_202))))
set_option maxHeartbeats 100000 in
def k115_17 : ex_C := c_aload 0 (c_gf 0 9 (c_aload 0 (c_gf 0 2 (c_invV [] cd_115 25 2 38 7 (c_aload 0 (c_gf 0 5 (c_aload 0 (c_gf 0 2 (c_aload 0 (c_gf 0 3 (c_invV [] cd_115 40 3 59 2 (c_aload 0 (c_aload 0 (c_gf 0 8 (c_psh 1 (c_aload 0 (c_gf 0 8 (c_gf 6 5 (c_aload 0 (c_gf 0 8 (c_gf 6 8 (c_invV [] cd_115 63 5 157 0 (c_aload 0 (c_aload 0 (c_gf 0 8 (c_gf 6 6 (c_aload 0 (c_gf 0 8 (c_aload 0 (c_gf 0 8 (c_gf 6 8 (c_invV [] cd_115 85 2 54 6 (c_isub (c_invV [] cd_115 89 2 158 0 (c_aload 0 (c_gf 0 8 (c_invV [] cd_115 96 1 47 6 (c_iload 1 (c_ireturn  0)))))))))))))))))))))))))))))))))))))))
set_option maxHeartbeats 100000 in
theorem kE115_17 : ex_CE 0 [] cd_115 k115_17 q115_17 := e_aload_aload_n 17 0 0 0 rfl (e_gf 18 86025 58 0 9 rfl rfl (e_aload_aload_n 21 0 0 0 rfl (e_gf 22 86018 19 0 2 rfl rfl (e_invV_invokevirtual 25 442594 267 2 38 7 rfl rfl rfl rfl rfl rfl (e_aload_aload_n 28 0 0 0 rfl (e_gf 29 86021 34 0 5 rfl rfl (e_aload_aload_n 32 0 0 0 rfl (e_gf 33 86018 19 0 2 rfl rfl (e_aload_aload_n 36 0 0 0 rfl (e_gf 37 86019 22 0 3 rfl rfl (e_invV_invokevirtual 40 614467 242 3 59 2 rfl rfl rfl rfl rfl rfl (e_aload_aload_n 43 0 0 0 rfl (e_aload_aload_n 44 0 0 0 rfl (e_gf 45 86024 52 0 8 rfl rfl (e_psh_iconst 48 1 1 (e_aload_aload_n 49 0 0 0 rfl (e_gf 50 86024 52 0 8 rfl rfl (e_gf 53 389 225 6 5 rfl rfl (e_aload_aload_n 56 0 0 0 rfl (e_gf 57 86024 52 0 8 rfl rfl (e_gf 60 392 270 6 8 rfl rfl (e_invV_invokevirtual 63 1417221 246 5 157 0 rfl rfl rfl rfl rfl rfl (e_aload_aload_n 66 0 0 0 rfl (e_aload_aload_n 67 0 0 0 rfl (e_gf 68 86024 52 0 8 rfl rfl (e_gf 71 390 218 6 6 rfl rfl (e_aload_aload_n 74 0 0 0 rfl (e_gf 75 86024 52 0 8 rfl rfl (e_aload_aload_n 78 0 0 0 rfl (e_gf 79 86024 52 0 8 rfl rfl (e_gf 82 392 270 6 8 rfl rfl (e_invV_invokevirtual 85 573634 254 2 54 6 rfl rfl rfl rfl rfl rfl (e_isub 88 0 (e_invV_invokevirtual 89 1425410 257 2 158 0 rfl rfl rfl rfl rfl rfl (e_aload_aload_n 92 0 0 0 rfl (e_gf 93 86024 52 0 8 rfl rfl (e_invV_invokevirtual 96 516289 175 1 47 6 rfl rfl rfl rfl rfl rfl (e_iload_iload_n 99 0 1 1 rfl (e_ireturn 100 0 )))))))))))))))))))))))))))))))))))))))
set_option maxHeartbeats 100000 in
def k115_0 : ex_C := c_aload 0 (c_invV [] cd_115 1 1 116 0 (c_istore 1 (c_iload 1 (c_if_ne 17 (c_newx 549755813893)))))
set_option maxHeartbeats 100000 in
theorem kE115_0 : ex_CE 0 [] cd_115 k115_0 q115_0 := e_aload_aload_n 0 0 0 0 rfl (e_invV_invokevirtual 1 1081345 264 1 116 0 rfl rfl rfl rfl rfl rfl (e_istore_istore_n 4 0 1 1 rfl (e_iload_iload_n 5 0 1 1 rfl (e_if_ne 6 17 11 (e_newx 9 1005 178 180 549755813893 rfl rfl rfl)))))
def kt_115 : Nat → Option ex_C := fun pc => @Bool.rec (fun _ => Nat → Option ex_C) (fun pc => @Bool.rec (fun _ => Option ex_C) none (some k115_17) (Nat.beq pc 17)) (fun pc => @Bool.rec (fun _ => Option ex_C) none (some k115_0) (Nat.beq pc 0)) (Nat.ble pc 0) pc
theorem ktE_115 : ex_CTT 0 [] cd_115 kt_115 cd_115 := (ex_ct2 (ex_ct1 kE115_0) (ex_ct1 kE115_17))
set_option maxHeartbeats 100000 in
def k116_0 : ex_C := c_aload 0 (c_gf 0 8 (c_gf 6 5 (c_aload 0 (c_gf 0 8 (c_gf 6 8 (c_isub (c_ireturn  0)))))))
set_option maxHeartbeats 100000 in
theorem kE116_0 : ex_CE 0 [] cd_116 k116_0 q116_0 := e_aload_aload_n 0 0 0 0 rfl (e_gf 1 86024 52 0 8 rfl rfl (e_gf 4 389 225 6 5 rfl rfl (e_aload_aload_n 7 0 0 0 rfl (e_gf 8 86024 52 0 8 rfl rfl (e_gf 11 392 270 6 8 rfl rfl (e_isub 14 0 (e_ireturn 15 0 )))))))
def kt_116 : Nat → Option ex_C := fun pc => @Bool.rec (fun _ => Option ex_C) none (some k116_0) (Nat.beq pc 0)
theorem ktE_116 : ex_CTT 0 [] cd_116 kt_116 cd_116 := (ex_ct1 kE116_0)
set_option maxHeartbeats 100000 in
def k117_0 : ex_C := c_aload 0 (c_gf 0 13 (c_gf 11 2 (c_ireturn  2)))
set_option maxHeartbeats 100000 in
theorem kE117_0 : ex_CE 2 [] cd_117 k117_0 q117_0 := e_aload_aload_n 0 0 0 0 rfl (e_gf 1 86029 86 0 13 rfl rfl (e_gf 4 8898 273 11 2 rfl rfl (e_ireturn 7 0 )))
def kt_117 : Nat → Option ex_C := fun pc => @Bool.rec (fun _ => Option ex_C) none (some k117_0) (Nat.beq pc 0)
theorem ktE_117 : ex_CTT 2 [] cd_117 kt_117 cd_117 := (ex_ct1 kE117_0)
set_option maxHeartbeats 100000 in
def k118_18 : ex_C := c_aload 0 (c_gf 0 13 (c_gf 11 3 (c_ireturn  0)))
set_option maxHeartbeats 100000 in
theorem kE118_18 : ex_CE 0 [] cd_118 k118_18 q118_18 := e_aload_aload_n 18 0 0 0 rfl (e_gf 19 86029 86 0 13 rfl rfl (e_gf 22 707 277 11 3 rfl rfl (e_ireturn 25 0 )))
set_option maxHeartbeats 100000 in
def k118_0 : ex_C := c_aload 0 (c_gf 0 13 (c_gf 11 3 (c_if_ge 18 (c_newx 549755813892))))
set_option maxHeartbeats 100000 in
theorem kE118_0 : ex_CE 0 [] cd_118 k118_0 q118_0 := e_aload_aload_n 0 0 0 0 rfl (e_gf 1 86029 86 0 13 rfl rfl (e_gf 4 707 277 11 3 rfl rfl (e_if_ge 7 18 11 (e_newx 10 1004 172 174 549755813892 rfl rfl rfl))))
def kt_118 : Nat → Option ex_C := fun pc => @Bool.rec (fun _ => Nat → Option ex_C) (fun pc => @Bool.rec (fun _ => Option ex_C) none (some k118_18) (Nat.beq pc 18)) (fun pc => @Bool.rec (fun _ => Option ex_C) none (some k118_0) (Nat.beq pc 0)) (Nat.ble pc 0) pc
theorem ktE_118 : ex_CTT 0 [] cd_118 kt_118 cd_118 := (ex_ct2 (ex_ct1 kE118_0) (ex_ct1 kE118_18))
set_option maxHeartbeats 100000 in
def k119_85 : ex_C := c_ireturn  1
set_option maxHeartbeats 100000 in
theorem kE119_85 : ex_CE 1 [] cd_119 k119_85 q119_85 := e_ireturn 85 0 
set_option maxHeartbeats 100000 in
def k119_84 : ex_C := c_psh 0 (k119_85)
set_option maxHeartbeats 100000 in
theorem kE119_84 : ex_CE 1 [] cd_119 k119_84 q119_84 := e_psh_iconst 84 0 0 (kE119_85)
set_option maxHeartbeats 100000 in
def k119_0 : ex_C := c_aload 0 (c_iload 1 (c_invV [] cd_119 2 2 152 0 (c_istore 4 (c_aload 0 (c_iload 2 (c_invV [] cd_119 9 2 153 0 (c_istore 5 (c_aload 0 (c_iload 3 (c_invV [] cd_119 16 2 154 0 (c_istore 6 (c_aload 0 (c_gf 0 7 (c_iload 4 (c_invV [] cd_119 27 2 49 6 (c_aload 0 (c_gf 0 7 (c_iload 5 (c_iload 6 (c_invV [] cd_119 38 3 50 6 (c_aload 0 (c_gf 0 5 (c_aload 0 (c_gf 0 0 (c_aload 0 (c_gf 0 3 (c_invV [] cd_119 53 3 59 2 (c_aload 0 (c_gf 0 5 (c_aload 0 (c_gf 0 7 (c_aload 0 (c_gf 0 7 (c_gf 6 5 (c_psh 0 (c_invV [] cd_119 72 4 60 2 (c_psh 45 (c_icmp_ne 84 (c_psh 1 (c_goto 85))))))))))))))))))))))))))))))))))))))))
set_option maxHeartbeats 100000 in
theorem kE119_0 : ex_CE 1 [] cd_119 k119_0 q119_0 := e_aload_aload_n 0 0 0 0 rfl (e_iload_iload_n 1 0 1 1 rfl (e_invV_invokevirtual 2 1376258 188 2 152 0 rfl rfl rfl rfl rfl rfl (e_istore_istore 5 0 4 (e_aload_aload_n 7 0 0 0 rfl (e_iload_iload_n 8 0 2 2 rfl (e_invV_invokevirtual 9 1384450 191 2 153 0 rfl rfl rfl rfl rfl rfl (e_istore_istore 12 0 5 (e_aload_aload_n 14 0 0 0 rfl (e_iload_iload_n 15 0 3 3 rfl (e_invV_invokevirtual 16 1392642 194 2 154 0 rfl rfl rfl rfl rfl rfl (e_istore_istore 19 0 6 (e_aload_aload_n 21 0 0 0 rfl (e_gf 22 86023 48 0 7 rfl rfl (e_iload_iload 25 0 4 (e_invV_invokevirtual 27 532674 280 2 49 6 rfl rfl rfl rfl rfl rfl (e_aload_aload_n 30 0 0 0 rfl (e_gf 31 86023 48 0 7 rfl rfl (e_iload_iload 34 0 5 (e_iload_iload 36 0 6 (e_invV_invokevirtual 38 540867 238 3 50 6 rfl rfl rfl rfl rfl rfl (e_aload_aload_n 41 0 0 0 rfl (e_gf 42 86021 34 0 5 rfl rfl (e_aload_aload_n 45 0 0 0 rfl (e_gf 46 86016 10 0 0 rfl rfl (e_aload_aload_n 49 0 0 0 rfl (e_gf 50 86019 22 0 3 rfl rfl (e_invV_invokevirtual 53 614467 242 3 59 2 rfl rfl rfl rfl rfl rfl (e_aload_aload_n 56 0 0 0 rfl (e_gf 57 86021 34 0 5 rfl rfl (e_aload_aload_n 60 0 0 0 rfl (e_gf 61 86023 48 0 7 rfl rfl (e_aload_aload_n 64 0 0 0 rfl (e_gf 65 86023 48 0 7 rfl rfl (e_gf 68 389 225 6 5 rfl rfl (e_psh_iconst 71 0 0 (e_invV_invokevirtual 72 622660 283 4 60 2 rfl rfl rfl rfl rfl rfl (e_psh_bipush 75 45 45 (e_icmp_ne 77 84 7 (e_psh_iconst 80 1 1 (e_goto 81 85 4))))))))))))))))))))))))))))))))))))))))
def kt_119 : Nat → Option ex_C := fun pc => @Bool.rec (fun _ => Nat → Option ex_C) (fun pc => @Bool.rec (fun _ => Nat → Option ex_C) (fun pc => @Bool.rec (fun _ => Option ex_C) none (some k119_85) (Nat.beq pc 85)) (fun pc => @Bool.rec (fun _ => Option ex_C) none (some k119_84) (Nat.beq pc 84)) (Nat.ble pc 84) pc) (fun pc => @Bool.rec (fun _ => Option ex_C) none (some k119_0) (Nat.beq pc 0)) (Nat.ble pc 0) pc
theorem ktE_119 : ex_CTT 1 [] cd_119 kt_119 cd_119 := (ex_ct2 (ex_ct1 kE119_0) (ex_ct2 (ex_ct1 kE119_84) (ex_ct1 kE119_85)))
set_option maxHeartbeats 100000 in
def k120_18 : ex_C := c_aload 0 (c_gf 0 9 (c_aload 0 (c_gf 0 0 (c_invV [] cd_120 26 2 38 7 (c_aload 0 (c_gf 0 9 (c_invV [] cd_120 33 1 39 7 (c_aload 0 (c_gf 0 8 (c_invV [] cd_120 40 1 47 6 (c_aload 0 (c_gf 0 9 (c_gf 7 3 (c_ireturn  0))))))))))))))
set_option maxHeartbeats 100000 in
theorem kE120_18 : ex_CE 0 [] cd_120 k120_18 q120_18 := e_aload_aload_n 18 0 0 0 rfl (e_gf 19 86025 58 0 9 rfl rfl (e_aload_aload_n 22 0 0 0 rfl (e_gf 23 86016 10 0 0 rfl rfl (e_invV_invokevirtual 26 442594 267 2 38 7 rfl rfl rfl rfl rfl rfl (e_aload_aload_n 29 0 0 0 rfl (e_gf 30 86025 58 0 9 rfl rfl (e_invV_invokevirtual 33 450785 290 1 39 7 rfl rfl rfl rfl rfl rfl (e_aload_aload_n 36 0 0 0 rfl (e_gf 37 86024 52 0 8 rfl rfl (e_invV_invokevirtual 40 516289 175 1 47 6 rfl rfl rfl rfl rfl rfl (e_aload_aload_n 43 0 0 0 rfl (e_gf 44 86025 58 0 9 rfl rfl (e_gf 47 451 287 7 3 rfl rfl (e_ireturn 50 0 ))))))))))))))
set_option maxHeartbeats 100000 in
def k120_0 : ex_C := c_aload 0 (c_gf 0 9 (c_gf 7 3 (c_if_ne 18 (c_newx 549755813892))))
set_option maxHeartbeats 100000 in
theorem kE120_0 : ex_CE 0 [] cd_120 k120_0 q120_0 := e_aload_aload_n 0 0 0 0 rfl (e_gf 1 86025 58 0 9 rfl rfl (e_gf 4 451 287 7 3 rfl rfl (e_if_ne 7 18 11 (e_newx 10 1004 172 174 549755813892 rfl rfl rfl))))
def kt_120 : Nat → Option ex_C := fun pc => @Bool.rec (fun _ => Nat → Option ex_C) (fun pc => @Bool.rec (fun _ => Option ex_C) none (some k120_18) (Nat.beq pc 18)) (fun pc => @Bool.rec (fun _ => Option ex_C) none (some k120_0) (Nat.beq pc 0)) (Nat.ble pc 0) pc
theorem ktE_120 : ex_CTT 0 [] cd_120 kt_120 cd_120 := (ex_ct2 (ex_ct1 kE120_0) (ex_ct1 kE120_18))
set_option maxHeartbeats 100000 in
def k121_0 : ex_C := c_aload 0 (c_gf 0 9 (c_gf 7 3 (c_ireturn  0)))
set_option maxHeartbeats 100000 in
theorem kE121_0 : ex_CE 0 [] cd_121 k121_0 q121_0 := e_aload_aload_n 0 0 0 0 rfl (e_gf 1 86025 58 0 9 rfl rfl (e_gf 4 451 287 7 3 rfl rfl (e_ireturn 7 0 )))
def kt_121 : Nat → Option ex_C := fun pc => @Bool.rec (fun _ => Option ex_C) none (some k121_0) (Nat.beq pc 0)
theorem ktE_121 : ex_CTT 0 [] cd_121 kt_121 cd_121 := (ex_ct1 kE121_0)
set_option maxHeartbeats 100000 in
def k122_23 : ex_C := c_aload 0 (c_gf 0 9 (c_iload 1 (c_invV [] cd_122 28 2 40 7 (c_ireturn  2))))
set_option maxHeartbeats 100000 in
theorem kE122_23 : ex_CE 2 [] cd_122 k122_23 q122_23 := e_aload_aload_n 23 0 0 0 rfl (e_gf 24 86025 58 0 9 rfl rfl (e_iload_iload_n 27 0 1 1 rfl (e_invV_invokevirtual 28 458978 295 2 40 7 rfl rfl rfl rfl rfl rfl (e_ireturn 31 0 ))))
set_option maxHeartbeats 100000 in
def k122_15 : ex_C := c_newx 549755813889
set_option maxHeartbeats 100000 in
theorem kE122_15 : ex_CE 2 [] cd_122 k122_15 q122_15 := e_newx 15 1001 292 294 549755813889 rfl rfl rfl
set_option maxHeartbeats 100000 in
def k122_0 : ex_C := c_iload 1 (c_if_lt 15 (c_iload 1 (c_aload 0 (c_gf 0 9 (c_gf 7 3 (c_icmp_lt 23 (k122_15)))))))
set_option maxHeartbeats 100000 in
theorem kE122_0 : ex_CE 2 [] cd_122 k122_0 q122_0 := e_iload_iload_n 0 0 1 1 rfl (e_if_lt 1 15 14 (e_iload_iload_n 4 0 1 1 rfl (e_aload_aload_n 5 0 0 0 rfl (e_gf 6 86025 58 0 9 rfl rfl (e_gf 9 451 287 7 3 rfl rfl (e_icmp_lt 12 23 11 (kE122_15)))))))
def kt_122 : Nat → Option ex_C := fun pc => @Bool.rec (fun _ => Nat → Option ex_C) (fun pc => @Bool.rec (fun _ => Nat → Option ex_C) (fun pc => @Bool.rec (fun _ => Option ex_C) none (some k122_23) (Nat.beq pc 23)) (fun pc => @Bool.rec (fun _ => Option ex_C) none (some k122_15) (Nat.beq pc 15)) (Nat.ble pc 15) pc) (fun pc => @Bool.rec (fun _ => Option ex_C) none (some k122_0) (Nat.beq pc 0)) (Nat.ble pc 0) pc
theorem ktE_122 : ex_CTT 2 [] cd_122 kt_122 cd_122 := (ex_ct2 (ex_ct1 kE122_0) (ex_ct2 (ex_ct1 kE122_15) (ex_ct1 kE122_23)))
set_option maxHeartbeats 100000 in
def k123_55 : ex_C := c_aload 0 (c_gf 0 5 (c_gf 2 3 (c_gf 4 0 (c_iload 1 (c_baload (c_ireturn  1))))))
set_option maxHeartbeats 100000 in
theorem kE123_55 : ex_CE 1 [] cd_123 k123_55 q123_55 := e_aload_aload_n 55 0 0 0 rfl (e_gf 56 86021 34 0 5 rfl rfl (e_gf 59 86147 299 2 3 rfl rfl (e_gf 62 86272 312 4 0 rfl rfl (e_iload_iload_n 65 0 1 1 rfl (e_baload 66 0 (e_ireturn 67 0 ))))))
set_option maxHeartbeats 100000 in
def k123_0 : ex_C := c_aload 0 (c_iload 1 (c_invV [] cd_123 2 2 147 0 (c_aload 0 (c_iload 2 (c_invV [] cd_123 7 2 153 0 (c_istore 3 (c_aload 0 (c_gf 0 5 (c_aload 0 (c_gf 0 0 (c_aload 0 (c_gf 0 4 (c_invV [] cd_123 23 3 59 2 (c_aload 0 (c_gf 0 5 (c_gf 2 3 (c_aload 0 (c_gf 0 5 (c_gf 2 0 (c_iload 3 (c_invV [] cd_123 41 3 70 4 (c_if_ne 55 (c_newx 549755813892)))))))))))))))))))))))
set_option maxHeartbeats 100000 in
theorem kE123_0 : ex_CE 1 [] cd_123 k123_0 q123_0 := e_aload_aload_n 0 0 0 0 rfl (e_iload_iload_n 1 0 1 1 rfl (e_invV_invokevirtual 2 1335298 129 2 147 0 rfl rfl rfl rfl rfl rfl (e_aload_aload_n 5 0 0 0 rfl (e_iload_iload_n 6 0 2 2 rfl (e_invV_invokevirtual 7 1384450 191 2 153 0 rfl rfl rfl rfl rfl rfl (e_istore_istore_n 10 0 3 3 rfl (e_aload_aload_n 11 0 0 0 rfl (e_gf 12 86021 34 0 5 rfl rfl (e_aload_aload_n 15 0 0 0 rfl (e_gf 16 86016 10 0 0 rfl rfl (e_aload_aload_n 19 0 0 0 rfl (e_gf 20 86020 26 0 4 rfl rfl (e_invV_invokevirtual 23 614467 242 3 59 2 rfl rfl rfl rfl rfl rfl (e_aload_aload_n 26 0 0 0 rfl (e_gf 27 86021 34 0 5 rfl rfl (e_gf 30 86147 299 2 3 rfl rfl (e_aload_aload_n 33 0 0 0 rfl (e_gf 34 86021 34 0 5 rfl rfl (e_gf 37 86144 303 2 0 rfl rfl (e_iload_iload_n 40 0 3 3 rfl (e_invV_invokevirtual 41 704643 307 3 70 4 rfl rfl rfl rfl rfl rfl (e_if_ne 44 55 11 (e_newx 47 1004 172 174 549755813892 rfl rfl rfl)))))))))))))))))))))))
def kt_123 : Nat → Option ex_C := fun pc => @Bool.rec (fun _ => Nat → Option ex_C) (fun pc => @Bool.rec (fun _ => Option ex_C) none (some k123_55) (Nat.beq pc 55)) (fun pc => @Bool.rec (fun _ => Option ex_C) none (some k123_0) (Nat.beq pc 0)) (Nat.ble pc 0) pc
theorem ktE_123 : ex_CTT 1 [] cd_123 kt_123 cd_123 := (ex_ct2 (ex_ct1 kE123_0) (ex_ct1 kE123_55))
set_option maxHeartbeats 100000 in
def k124_65 : ex_C := c_iload 4 (c_ireturn  0)
set_option maxHeartbeats 100000 in
theorem kE124_65 : ex_CE 0 [] cd_124 k124_65 q124_65 := e_iload_iload 65 0 4 (e_ireturn 67 0 )
set_option maxHeartbeats 100000 in
def k124_34 : ex_C := c_iload 3 (c_invV [] cd_124 35 3 159 0 (c_aload 0 (c_gf 0 5 (c_gf 2 3 (c_gf 4 4 (c_iload 1 (c_iaload (c_istore 4 (c_iload 4 (c_if_ge 65 (c_newx 549755813892)))))))))))
set_option maxHeartbeats 100000 in
theorem kE124_34 : ex_CE 0 [] cd_124 k124_34 q124_34 := e_iload_iload_n 34 0 3 3 rfl (e_invV_invokevirtual 35 1433603 316 3 159 0 rfl rfl rfl rfl rfl rfl (e_aload_aload_n 38 0 0 0 rfl (e_gf 39 86021 34 0 5 rfl rfl (e_gf 42 86147 299 2 3 rfl rfl (e_gf 45 86276 319 4 4 rfl rfl (e_iload_iload_n 48 0 1 1 rfl (e_iaload 49 0 (e_istore_istore 50 0 4 (e_iload_iload 52 0 4 (e_if_ge 54 65 11 (e_newx 57 1004 172 174 549755813892 rfl rfl rfl)))))))))))
set_option maxHeartbeats 100000 in
def k124_32 : ex_C := c_psh 8 (k124_34)
set_option maxHeartbeats 100000 in
theorem kE124_32 : ex_CE 0 [] cd_124 k124_32 q124_32 := e_psh_bipush 32 8 8 (kE124_34)
set_option maxHeartbeats 100000 in
def k124_23 : ex_C := c_aload 0 (c_iload 2 (c_if_eq 32 (c_psh 4 (c_goto 34))))
set_option maxHeartbeats 100000 in
theorem kE124_23 : ex_CE 0 [] cd_124 k124_23 q124_23 := e_aload_aload_n 23 0 0 0 rfl (e_iload_iload_n 24 0 2 2 rfl (e_if_eq 25 32 7 (e_psh_iconst 28 4 4 (e_goto 29 34 5))))
set_option maxHeartbeats 100000 in
def k124_0 : ex_C := c_aload 0 (c_iload 1 (c_invV [] cd_124 2 2 147 0 (c_iload 3 (c_psh 2 (c_icmp_eq 23 (c_iload 3 (c_psh 4 (c_icmp_eq 23 (c_newx 549755813890)))))))))
set_option maxHeartbeats 100000 in
theorem kE124_0 : ex_CE 0 [] cd_124 k124_0 q124_0 := e_aload_aload_n 0 0 0 0 rfl (e_iload_iload_n 1 0 1 1 rfl (e_invV_invokevirtual 2 1335298 129 2 147 0 rfl rfl rfl rfl rfl rfl (e_iload_iload_n 5 0 3 3 rfl (e_psh_iconst 6 2 2 (e_icmp_eq 7 23 16 (e_iload_iload_n 10 0 3 3 rfl (e_psh_iconst 11 4 4 (e_icmp_eq 12 23 11 (e_newx 15 1002 156 158 549755813890 rfl rfl rfl)))))))))
def kt_124 : Nat → Option ex_C := fun pc => @Bool.rec (fun _ => Nat → Option ex_C) (fun pc => @Bool.rec (fun _ => Nat → Option ex_C) (fun pc => @Bool.rec (fun _ => Nat → Option ex_C) (fun pc => @Bool.rec (fun _ => Option ex_C) none (some k124_65) (Nat.beq pc 65)) (fun pc => @Bool.rec (fun _ => Option ex_C) none (some k124_34) (Nat.beq pc 34)) (Nat.ble pc 34) pc) (fun pc => @Bool.rec (fun _ => Option ex_C) none (some k124_32) (Nat.beq pc 32)) (Nat.ble pc 32) pc) (fun pc => @Bool.rec (fun _ => Nat → Option ex_C) (fun pc => @Bool.rec (fun _ => Option ex_C) none (some k124_23) (Nat.beq pc 23)) (fun pc => @Bool.rec (fun _ => Option ex_C) none (some k124_0) (Nat.beq pc 0)) (Nat.ble pc 0) pc) (Nat.ble pc 23) pc
theorem ktE_124 : ex_CTT 0 [] cd_124 kt_124 cd_124 := (ex_ct2 (ex_ct2 (ex_ct1 kE124_0) (ex_ct1 kE124_23)) (ex_ct2 (ex_ct1 kE124_32) (ex_ct2 (ex_ct1 kE124_34) (ex_ct1 kE124_65))))
set_option maxHeartbeats 100000 in
def k125_59 : ex_C := c_ireturn  2
set_option maxHeartbeats 100000 in
theorem kE125_59 : ex_CE 2 [] cd_125 k125_59 q125_59 := e_ireturn 59 0 
set_option maxHeartbeats 100000 in
def k125_57 : ex_C := c_psh 108 (k125_59)
set_option maxHeartbeats 100000 in
theorem kE125_57 : ex_CE 2 [] cd_125 k125_57 q125_57 := e_psh_bipush 57 108 108 (kE125_59)
set_option maxHeartbeats 100000 in
def k125_47 : ex_C := c_iload 2 (c_psh 2 (c_icmp_ne 57 (c_psh 114 (c_goto 59))))
set_option maxHeartbeats 100000 in
theorem kE125_47 : ex_CE 2 [] cd_125 k125_47 q125_47 := e_iload_iload_n 47 0 2 2 rfl (e_psh_iconst 48 2 2 (e_icmp_ne 49 57 8 (e_psh_bipush 52 114 114 (e_goto 54 59 5))))
set_option maxHeartbeats 100000 in
def k125_37 : ex_C := c_iload 2 (c_psh 1 (c_icmp_ne 47 (c_psh 99 (c_goto 59))))
set_option maxHeartbeats 100000 in
theorem kE125_37 : ex_CE 2 [] cd_125 k125_37 q125_37 := e_iload_iload_n 37 0 2 2 rfl (e_psh_iconst 38 1 1 (e_icmp_ne 39 47 8 (e_psh_bipush 42 99 99 (e_goto 44 59 15))))
set_option maxHeartbeats 100000 in
def k125_0 : ex_C := c_aload 0 (c_iload 1 (c_invV [] cd_125 2 2 147 0 (c_aload 0 (c_psh 8 (c_psh 2 (c_invV [] cd_125 9 3 159 0 (c_aload 0 (c_gf 0 5 (c_gf 2 3 (c_gf 4 5 (c_iload 1 (c_iaload (c_istore 2 (c_iload 2 (c_if_ne 37 (c_newx 549755813892))))))))))))))))
set_option maxHeartbeats 100000 in
theorem kE125_0 : ex_CE 2 [] cd_125 k125_0 q125_0 := e_aload_aload_n 0 0 0 0 rfl (e_iload_iload_n 1 0 1 1 rfl (e_invV_invokevirtual 2 1335298 129 2 147 0 rfl rfl rfl rfl rfl rfl (e_aload_aload_n 5 0 0 0 rfl (e_psh_bipush 6 8 8 (e_psh_iconst 8 2 2 (e_invV_invokevirtual 9 1433603 316 3 159 0 rfl rfl rfl rfl rfl rfl (e_aload_aload_n 12 0 0 0 rfl (e_gf 13 86021 34 0 5 rfl rfl (e_gf 16 86147 299 2 3 rfl rfl (e_gf 19 86277 322 4 5 rfl rfl (e_iload_iload_n 22 0 1 1 rfl (e_iaload 23 0 (e_istore_istore_n 24 0 2 2 rfl (e_iload_iload_n 25 0 2 2 rfl (e_if_ne 26 37 11 (e_newx 29 1004 172 174 549755813892 rfl rfl rfl))))))))))))))))
def kt_125 : Nat → Option ex_C := fun pc => @Bool.rec (fun _ => Nat → Option ex_C) (fun pc => @Bool.rec (fun _ => Nat → Option ex_C) (fun pc => @Bool.rec (fun _ => Nat → Option ex_C) (fun pc => @Bool.rec (fun _ => Option ex_C) none (some k125_59) (Nat.beq pc 59)) (fun pc => @Bool.rec (fun _ => Option ex_C) none (some k125_57) (Nat.beq pc 57)) (Nat.ble pc 57) pc) (fun pc => @Bool.rec (fun _ => Option ex_C) none (some k125_47) (Nat.beq pc 47)) (Nat.ble pc 47) pc) (fun pc => @Bool.rec (fun _ => Nat → Option ex_C) (fun pc => @Bool.rec (fun _ => Option ex_C) none (some k125_37) (Nat.beq pc 37)) (fun pc => @Bool.rec (fun _ => Option ex_C) none (some k125_0) (Nat.beq pc 0)) (Nat.ble pc 0) pc) (Nat.ble pc 37) pc
theorem ktE_125 : ex_CTT 2 [] cd_125 kt_125 cd_125 := (ex_ct2 (ex_ct2 (ex_ct1 kE125_0) (ex_ct1 kE125_37)) (ex_ct2 (ex_ct1 kE125_47) (ex_ct2 (ex_ct1 kE125_57) (ex_ct1 kE125_59))))
set_option maxHeartbeats 100000 in
def k126_34 : ex_C := c_psh 45 (c_ireturn  2)
set_option maxHeartbeats 100000 in
theorem kE126_34 : ex_CE 2 [] cd_126 k126_34 q126_34 := e_psh_bipush 34 45 45 (e_ireturn 36 0 )
set_option maxHeartbeats 100000 in
def k126_28 : ex_C := c_iinc 1 1 (c_goto 2)
set_option maxHeartbeats 100000 in
theorem kE126_28 : ex_CE 2 [] cd_126 k126_28 q126_28 := e_iinc 28 1 1 1 (e_goto 31 2 (-29))
set_option maxHeartbeats 100000 in
def k126_2 : ex_C := c_iload 1 (c_psh 17179869201 (c_invV [] cd_126 6 1 303 18 (c_icmp_ge 34 (c_aload 0 (c_iload 1 (c_invV [] cd_126 14 2 167 0 (c_if_ne 28 (c_psh 17179869201 (c_iload 1 (c_invV [] cd_126 24 2 304 18 (c_ireturn  2)))))))))))
set_option maxHeartbeats 100000 in
theorem kE126_2 : ex_CE 2 [] cd_126 k126_2 q126_2 := e_iload_iload_n 2 0 1 1 rfl (e_psh_ldc_w 3 17179869201 325 (e_invV_invokevirtual 6 2613825 327 1 303 18 rfl rfl rfl rfl rfl rfl (e_icmp_ge 9 34 25 (e_aload_aload_n 12 0 0 0 rfl (e_iload_iload_n 13 0 1 1 rfl (e_invV_invokevirtual 14 1499138 330 2 167 0 rfl rfl rfl rfl rfl rfl (e_if_ne 17 28 11 (e_psh_ldc_w 20 17179869201 325 (e_iload_iload_n 23 0 1 1 rfl (e_invV_invokevirtual 24 2622018 333 2 304 18 rfl rfl rfl rfl rfl rfl (e_ireturn 27 0 )))))))))))
set_option maxHeartbeats 100000 in
def k126_0 : ex_C := c_psh 0 (c_istore 1 (k126_2))
set_option maxHeartbeats 100000 in
theorem kE126_0 : ex_CE 2 [] cd_126 k126_0 q126_0 := e_psh_iconst 0 0 0 (e_istore_istore_n 1 0 1 1 rfl (kE126_2))
def kt_126 : Nat → Option ex_C := fun pc => @Bool.rec (fun _ => Nat → Option ex_C) (fun pc => @Bool.rec (fun _ => Nat → Option ex_C) (fun pc => @Bool.rec (fun _ => Option ex_C) none (some k126_34) (Nat.beq pc 34)) (fun pc => @Bool.rec (fun _ => Option ex_C) none (some k126_28) (Nat.beq pc 28)) (Nat.ble pc 28) pc) (fun pc => @Bool.rec (fun _ => Nat → Option ex_C) (fun pc => @Bool.rec (fun _ => Option ex_C) none (some k126_2) (Nat.beq pc 2)) (fun pc => @Bool.rec (fun _ => Option ex_C) none (some k126_0) (Nat.beq pc 0)) (Nat.ble pc 0) pc) (Nat.ble pc 2) pc
theorem ktE_126 : ex_CTT 2 [] cd_126 kt_126 cd_126 := (ex_ct2 (ex_ct2 (ex_ct1 kE126_0) (ex_ct1 kE126_2)) (ex_ct2 (ex_ct1 kE126_28) (ex_ct1 kE126_34)))
set_option maxHeartbeats 100000 in
def k127_20 : ex_C := c_aload 0 (c_iload 2 (c_invV [] cd_127 22 2 167 0 (c_ireturn  0)))
set_option maxHeartbeats 100000 in
theorem kE127_20 : ex_CE 0 [] cd_127 k127_20 q127_20 := e_aload_aload_n 20 0 0 0 rfl (e_iload_iload_n 21 0 2 2 rfl (e_invV_invokevirtual 22 1499138 330 2 167 0 rfl rfl rfl rfl rfl rfl (e_ireturn 25 0 )))
set_option maxHeartbeats 100000 in
def k127_0 : ex_C := c_psh 17179869201 (c_iload 1 (c_invV [] cd_127 4 2 305 18 (c_istore 2 (c_iload 2 (c_if_ge 20 (c_newx 549755813890))))))
set_option maxHeartbeats 100000 in
theorem kE127_0 : ex_CE 0 [] cd_127 k127_0 q127_0 := e_psh_ldc_w 0 17179869201 325 (e_iload_iload_n 3 0 1 1 rfl (e_invV_invokevirtual 4 2630210 233 2 305 18 rfl rfl rfl rfl rfl rfl (e_istore_istore_n 7 0 2 2 rfl (e_iload_iload_n 8 0 2 2 rfl (e_if_ge 9 20 11 (e_newx 12 1002 156 158 549755813890 rfl rfl rfl))))))
def kt_127 : Nat → Option ex_C := fun pc => @Bool.rec (fun _ => Nat → Option ex_C) (fun pc => @Bool.rec (fun _ => Option ex_C) none (some k127_20) (Nat.beq pc 20)) (fun pc => @Bool.rec (fun _ => Option ex_C) none (some k127_0) (Nat.beq pc 0)) (Nat.ble pc 0) pc
theorem ktE_127 : ex_CTT 0 [] cd_127 kt_127 cd_127 := (ex_ct2 (ex_ct1 kE127_0) (ex_ct1 kE127_20))
set_option maxHeartbeats 100000 in
def k128_0 : ex_C := c_aload 0 (c_aload 0 (c_gf 0 0 (c_gf 1 0 (c_aload 0 (c_gf 0 0 (c_gf 1 1 (c_aload 0 (c_gf 0 0 (c_gf 1 2 (c_invV [] cd_128 22 4 166 0 (c_ireturn  1)))))))))))
set_option maxHeartbeats 100000 in
theorem kE128_0 : ex_CE 1 [] cd_128 k128_0 q128_0 := e_aload_aload_n 0 0 0 0 rfl (e_aload_aload_n 1 0 0 0 rfl (e_gf 2 86016 10 0 0 rfl rfl (e_gf 5 86080 133 1 0 rfl rfl (e_aload_aload_n 8 0 0 0 rfl (e_gf 9 86016 10 0 0 rfl rfl (e_gf 12 86081 136 1 1 rfl rfl (e_aload_aload_n 15 0 0 0 rfl (e_gf 16 86016 10 0 0 rfl rfl (e_gf 19 86082 139 1 2 rfl rfl (e_invV_invokevirtual 22 1490948 336 4 166 0 rfl rfl rfl rfl rfl rfl (e_ireturn 25 0 )))))))))))
def kt_128 : Nat → Option ex_C := fun pc => @Bool.rec (fun _ => Option ex_C) none (some k128_0) (Nat.beq pc 0)
theorem ktE_128 : ex_CTT 1 [] cd_128 kt_128 cd_128 := (ex_ct1 kE128_0)
set_option maxHeartbeats 100000 in
def k129_92 : ex_C := c_psh 1 (c_ireturn  1)
set_option maxHeartbeats 100000 in
theorem kE129_92 : ex_CE 1 [] cd_129 k129_92 q129_92 := e_psh_iconst 92 1 1 (e_ireturn 93 0 )
set_option maxHeartbeats 100000 in
def k129_86 : ex_C := c_iinc 1 1 (c_goto 2)
set_option maxHeartbeats 100000 in
theorem kE129_86 : ex_CE 1 [] cd_129 k129_86 q129_86 := e_iinc 86 1 1 1 (e_goto 89 2 (-87))
set_option maxHeartbeats 100000 in
def k129_84 : ex_C := c_psh 0 (c_ireturn  1)
set_option maxHeartbeats 100000 in
theorem kE129_84 : ex_CE 1 [] cd_129 k129_84 q129_84 := e_psh_iconst 84 0 0 (e_ireturn 85 0 )
set_option maxHeartbeats 100000 in
def k129_2 : ex_C := c_iload 1 (c_psh 8 (c_icmp_ge 92 (c_iload 1 (c_psh 4 (c_iadd (c_psh 8 (c_irem   (c_istore 2 (c_aload 0 (c_gf 0 0 (c_gf 1 0 (c_iload 1 (c_iaload (c_aload 0 (c_gf 0 0 (c_gf 1 0 (c_iload 2 (c_iaload (c_ineg   (c_icmp_ne 84 (c_aload 0 (c_gf 0 0 (c_gf 1 1 (c_iload 1 (c_iaload (c_aload 0 (c_gf 0 0 (c_gf 1 1 (c_iload 2 (c_iaload (c_ineg   (c_icmp_ne 84 (c_aload 0 (c_gf 0 0 (c_gf 1 2 (c_iload 1 (c_iaload (c_aload 0 (c_gf 0 0 (c_gf 1 2 (c_iload 2 (c_iaload (c_psh 2 (c_iadd (c_psh 3 (c_iand (c_icmp_eq 86 (k129_84))))))))))))))))))))))))))))))))))))))))))))))))
set_option maxHeartbeats 100000 in
theorem kE129_2 : ex_CE 1 [] cd_129 k129_2 q129_2 := e_iload_iload_n 2 0 1 1 rfl (e_psh_bipush 3 8 8 (e_icmp_ge 5 92 87 (e_iload_iload_n 8 0 1 1 rfl (e_psh_iconst 9 4 4 (e_iadd 10 0 (e_psh_bipush 11 8 8 (e_irem 13 0  (e_istore_istore_n 14 0 2 2 rfl (e_aload_aload_n 15 0 0 0 rfl (e_gf 16 86016 10 0 0 rfl rfl (e_gf 19 86080 133 1 0 rfl rfl (e_iload_iload_n 22 0 1 1 rfl (e_iaload 23 0 (e_aload_aload_n 24 0 0 0 rfl (e_gf 25 86016 10 0 0 rfl rfl (e_gf 28 86080 133 1 0 rfl rfl (e_iload_iload_n 31 0 2 2 rfl (e_iaload 32 0 (e_ineg 33 0  (e_icmp_ne 34 84 50 (e_aload_aload_n 37 0 0 0 rfl (e_gf 38 86016 10 0 0 rfl rfl (e_gf 41 86081 136 1 1 rfl rfl (e_iload_iload_n 44 0 1 1 rfl (e_iaload 45 0 (e_aload_aload_n 46 0 0 0 rfl (e_gf 47 86016 10 0 0 rfl rfl (e_gf 50 86081 136 1 1 rfl rfl (e_iload_iload_n 53 0 2 2 rfl (e_iaload 54 0 (e_ineg 55 0  (e_icmp_ne 56 84 28 (e_aload_aload_n 59 0 0 0 rfl (e_gf 60 86016 10 0 0 rfl rfl (e_gf 63 86082 139 1 2 rfl rfl (e_iload_iload_n 66 0 1 1 rfl (e_iaload 67 0 (e_aload_aload_n 68 0 0 0 rfl (e_gf 69 86016 10 0 0 rfl rfl (e_gf 72 86082 139 1 2 rfl rfl (e_iload_iload_n 75 0 2 2 rfl (e_iaload 76 0 (e_psh_iconst 77 2 2 (e_iadd 78 0 (e_psh_iconst 79 3 3 (e_iand 80 0 (e_icmp_eq 81 86 5 (kE129_84))))))))))))))))))))))))))))))))))))))))))))))))
set_option maxHeartbeats 100000 in
def k129_0 : ex_C := c_psh 0 (c_istore 1 (k129_2))
set_option maxHeartbeats 100000 in
theorem kE129_0 : ex_CE 1 [] cd_129 k129_0 q129_0 := e_psh_iconst 0 0 0 (e_istore_istore_n 1 0 1 1 rfl (kE129_2))
def kt_129 : Nat → Option ex_C := fun pc => @Bool.rec (fun _ => Nat → Option ex_C) (fun pc => @Bool.rec (fun _ => Nat → Option ex_C) (fun pc => @Bool.rec (fun _ => Nat → Option ex_C) (fun pc => @Bool.rec (fun _ => Option ex_C) none (some k129_92) (Nat.beq pc 92)) (fun pc => @Bool.rec (fun _ => Option ex_C) none (some k129_86) (Nat.beq pc 86)) (Nat.ble pc 86) pc) (fun pc => @Bool.rec (fun _ => Option ex_C) none (some k129_84) (Nat.beq pc 84)) (Nat.ble pc 84) pc) (fun pc => @Bool.rec (fun _ => Nat → Option ex_C) (fun pc => @Bool.rec (fun _ => Option ex_C) none (some k129_2) (Nat.beq pc 2)) (fun pc => @Bool.rec (fun _ => Option ex_C) none (some k129_0) (Nat.beq pc 0)) (Nat.ble pc 0) pc) (Nat.ble pc 2) pc
theorem ktE_129 : ex_CTT 1 [] cd_129 kt_129 cd_129 := (ex_ct2 (ex_ct2 (ex_ct1 kE129_0) (ex_ct1 kE129_2)) (ex_ct2 (ex_ct1 kE129_84) (ex_ct2 (ex_ct1 kE129_86) (ex_ct1 kE129_92))))
set_option maxHeartbeats 100000 in
def k130_0 : ex_C := c_aload 0 (c_iload 1 (c_invV [] cd_130 2 2 147 0 (c_aload 0 (c_gf 0 10 (c_gf 8 0 (c_iload 1 (c_iaload (c_ireturn  0))))))))
set_option maxHeartbeats 100000 in
theorem kE130_0 : ex_CE 0 [] cd_130 k130_0 q130_0 := e_aload_aload_n 0 0 0 0 rfl (e_iload_iload_n 1 0 1 1 rfl (e_invV_invokevirtual 2 1335298 129 2 147 0 rfl rfl rfl rfl rfl rfl (e_aload_aload_n 5 0 0 0 rfl (e_gf 6 86026 65 0 10 rfl rfl (e_gf 9 86528 340 8 0 rfl rfl (e_iload_iload_n 12 0 1 1 rfl (e_iaload 13 0 (e_ireturn 14 0 ))))))))
def kt_130 : Nat → Option ex_C := fun pc => @Bool.rec (fun _ => Option ex_C) none (some k130_0) (Nat.beq pc 0)
theorem ktE_130 : ex_CTT 0 [] cd_130 kt_130 cd_130 := (ex_ct1 kE130_0)
set_option maxHeartbeats 100000 in
def k131_0 : ex_C := c_aload 0 (c_gf 0 10 (c_gf 8 3 (c_ireturn  0)))
set_option maxHeartbeats 100000 in
theorem kE131_0 : ex_CE 0 [] cd_131 k131_0 q131_0 := e_aload_aload_n 0 0 0 0 rfl (e_gf 1 86026 65 0 10 rfl rfl (e_gf 4 515 343 8 3 rfl rfl (e_ireturn 7 0 )))
def kt_131 : Nat → Option ex_C := fun pc => @Bool.rec (fun _ => Option ex_C) none (some k131_0) (Nat.beq pc 0)
theorem ktE_131 : ex_CTT 0 [] cd_131 kt_131 cd_131 := (ex_ct1 kE131_0)
set_option maxHeartbeats 100000 in
def k132_0 : ex_C := c_aload 0 (c_gf 0 10 (c_gf 8 4 (c_ireturn  0)))
set_option maxHeartbeats 100000 in
theorem kE132_0 : ex_CE 0 [] cd_132 k132_0 q132_0 := e_aload_aload_n 0 0 0 0 rfl (e_gf 1 86026 65 0 10 rfl rfl (e_gf 4 516 346 8 4 rfl rfl (e_ireturn 7 0 )))
def kt_132 : Nat → Option ex_C := fun pc => @Bool.rec (fun _ => Option ex_C) none (some k132_0) (Nat.beq pc 0)
theorem ktE_132 : ex_CTT 0 [] cd_132 kt_132 cd_132 := (ex_ct1 kE132_0)
set_option maxHeartbeats 100000 in
def k133_160 : ex_C := c_newx 549755813892
set_option maxHeartbeats 100000 in
theorem kE133_160 : ex_CE 0 [] cd_133 k133_160 q133_160 := e_newx 160 1004 172 174 549755813892 rfl rfl rfl
set_option maxHeartbeats 100000 in
def k133_154 : ex_C := c_iinc 2 1 (c_goto 56)
set_option maxHeartbeats 100000 in
theorem kE133_154 : ex_CE 0 [] cd_133 k133_154 q133_154 := e_iinc 154 1 2 1 (e_goto 157 56 (-101))
set_option maxHeartbeats 100000 in
def k133_56 : ex_C := c_iload 2 (c_psh 12 (c_icmp_ge 160 (c_iload 1 (c_psh 1 (c_icmp_le 160 (c_aload 0 (c_gf 0 7 (c_iload 2 (c_invV [] cd_133 72 2 49 6 (c_aload 0 (c_gf 0 5 (c_aload 0 (c_gf 0 0 (c_aload 0 (c_gf 0 4 (c_invV [] cd_133 87 3 59 2 (c_aload 0 (c_gf 0 5 (c_aload 0 (c_gf 0 7 (c_aload 0 (c_gf 0 7 (c_gf 6 5 (c_psh 0 (c_invV [] cd_133 106 4 60 2 (c_psh 45 (c_icmp_ne 154 (c_aload 0 (c_gf 0 2 (c_aload 0 (c_gf 0 5 (c_gf 2 0 (c_invV [] cd_133 125 2 44 1 (c_aload 0 (c_aload 0 (c_gf 0 2 (c_psh 1 (c_invV [] cd_133 134 3 160 0 (c_if_eq 154 (c_aload 0 (c_gf 0 15 (c_psh 0 (c_iload 2 (c_iastore (c_aload 0 (c_psh 2 (c_pf 0 0 16 (c_psh 2 (c_ireturn  0)))))))))))))))))))))))))))))))))))))))))))))))))
set_option maxHeartbeats 100000 in
theorem kE133_56 : ex_CE 0 [] cd_133 k133_56 q133_56 := e_iload_iload_n 56 0 2 2 rfl (e_psh_bipush 57 12 12 (e_icmp_ge 59 160 101 (e_iload_iload_n 62 0 1 1 rfl (e_psh_iconst 63 1 1 (e_icmp_le 64 160 96 (e_aload_aload_n 67 0 0 0 rfl (e_gf 68 86023 48 0 7 rfl rfl (e_iload_iload_n 71 0 2 2 rfl (e_invV_invokevirtual 72 532674 280 2 49 6 rfl rfl rfl rfl rfl rfl (e_aload_aload_n 75 0 0 0 rfl (e_gf 76 86021 34 0 5 rfl rfl (e_aload_aload_n 79 0 0 0 rfl (e_gf 80 86016 10 0 0 rfl rfl (e_aload_aload_n 83 0 0 0 rfl (e_gf 84 86020 26 0 4 rfl rfl (e_invV_invokevirtual 87 614467 242 3 59 2 rfl rfl rfl rfl rfl rfl (e_aload_aload_n 90 0 0 0 rfl (e_gf 91 86021 34 0 5 rfl rfl (e_aload_aload_n 94 0 0 0 rfl (e_gf 95 86023 48 0 7 rfl rfl (e_aload_aload_n 98 0 0 0 rfl (e_gf 99 86023 48 0 7 rfl rfl (e_gf 102 389 225 6 5 rfl rfl (e_psh_iconst 105 0 0 (e_invV_invokevirtual 106 622660 283 4 60 2 rfl rfl rfl rfl rfl rfl (e_psh_bipush 109 45 45 (e_icmp_ne 111 154 43 (e_aload_aload_n 114 0 0 0 rfl (e_gf 115 86018 19 0 2 rfl rfl (e_aload_aload_n 118 0 0 0 rfl (e_gf 119 86021 34 0 5 rfl rfl (e_gf 122 86144 303 2 0 rfl rfl (e_invV_invokevirtual 125 491554 357 2 44 1 rfl rfl rfl rfl rfl rfl (e_aload_aload_n 128 0 0 0 rfl (e_aload_aload_n 129 0 0 0 rfl (e_gf 130 86018 19 0 2 rfl rfl (e_psh_iconst 133 1 1 (e_invV_invokevirtual 134 1441795 353 3 160 0 rfl rfl rfl rfl rfl rfl (e_if_eq 137 154 17 (e_aload_aload_n 140 0 0 0 rfl (e_gf 141 86031 93 0 15 rfl rfl (e_psh_iconst 144 0 0 (e_iload_iload_n 145 0 2 2 rfl (e_iastore 146 0 (e_aload_aload_n 147 0 0 0 rfl (e_psh_iconst 148 2 2 (e_pf 149 16 96 0 0 16 rfl rfl rfl (e_psh_iconst 152 2 2 (e_ireturn 153 0 )))))))))))))))))))))))))))))))))))))))))))))))))
set_option maxHeartbeats 100000 in
def k133_54 : ex_C := c_psh 0 (c_istore 2 (k133_56))
set_option maxHeartbeats 100000 in
theorem kE133_54 : ex_CE 0 [] cd_133 k133_54 q133_54 := e_psh_iconst 54 0 0 (e_istore_istore_n 55 0 2 2 rfl (kE133_56))
set_option maxHeartbeats 100000 in
def k133_31 : ex_C := c_iload 1 (c_if_le 54 (c_aload 0 (c_aload 0 (c_gf 0 0 (c_psh 0 (c_invV [] cd_133 41 3 160 0 (c_if_eq 54 (c_aload 0 (c_psh 1 (c_pf 0 0 16 (c_psh 1 (c_ireturn  0))))))))))))
set_option maxHeartbeats 100000 in
theorem kE133_31 : ex_CE 0 [] cd_133 k133_31 q133_31 := e_iload_iload_n 31 0 1 1 rfl (e_if_le 32 54 22 (e_aload_aload_n 35 0 0 0 rfl (e_aload_aload_n 36 0 0 0 rfl (e_gf 37 86016 10 0 0 rfl rfl (e_psh_iconst 40 0 0 (e_invV_invokevirtual 41 1441795 353 3 160 0 rfl rfl rfl rfl rfl rfl (e_if_eq 44 54 10 (e_aload_aload_n 47 0 0 0 rfl (e_psh_iconst 48 1 1 (e_pf 49 16 96 0 0 16 rfl rfl rfl (e_psh_iconst 52 1 1 (e_ireturn 53 0 ))))))))))))
set_option maxHeartbeats 100000 in
def k133_17 : ex_C := c_aload 0 (c_invV [] cd_133 18 1 128 0 (c_if_eq 31 (c_aload 0 (c_psh 0 (c_pf 0 0 16 (c_psh 0 (c_ireturn  0)))))))
set_option maxHeartbeats 100000 in
theorem kE133_17 : ex_CE 0 [] cd_133 k133_17 q133_17 := e_aload_aload_n 17 0 0 0 rfl (e_invV_invokevirtual 18 1179649 349 1 128 0 rfl rfl rfl rfl rfl rfl (e_if_eq 21 31 10 (e_aload_aload_n 24 0 0 0 rfl (e_psh_iconst 25 0 0 (e_pf 26 16 96 0 0 16 rfl rfl rfl (e_psh_iconst 29 0 0 (e_ireturn 30 0 )))))))
set_option maxHeartbeats 100000 in
def k133_9 : ex_C := c_newx 549755813890
set_option maxHeartbeats 100000 in
theorem kE133_9 : ex_CE 0 [] cd_133 k133_9 q133_9 := e_newx 9 1002 156 158 549755813890 rfl rfl rfl
set_option maxHeartbeats 100000 in
def k133_0 : ex_C := c_iload 1 (c_if_lt 9 (c_iload 1 (c_psh 2 (c_icmp_le 17 (k133_9)))))
set_option maxHeartbeats 100000 in
theorem kE133_0 : ex_CE 0 [] cd_133 k133_0 q133_0 := e_iload_iload_n 0 0 1 1 rfl (e_if_lt 1 9 8 (e_iload_iload_n 4 0 1 1 rfl (e_psh_iconst 5 2 2 (e_icmp_le 6 17 11 (kE133_9)))))
def kt_133 : Nat → Option ex_C := fun pc => @Bool.rec (fun _ => Nat → Option ex_C) (fun pc => @Bool.rec (fun _ => Nat → Option ex_C) (fun pc => @Bool.rec (fun _ => Nat → Option ex_C) (fun pc => @Bool.rec (fun _ => Option ex_C) none (some k133_160) (Nat.beq pc 160)) (fun pc => @Bool.rec (fun _ => Option ex_C) none (some k133_154) (Nat.beq pc 154)) (Nat.ble pc 154) pc) (fun pc => @Bool.rec (fun _ => Nat → Option ex_C) (fun pc => @Bool.rec (fun _ => Option ex_C) none (some k133_56) (Nat.beq pc 56)) (fun pc => @Bool.rec (fun _ => Option ex_C) none (some k133_54) (Nat.beq pc 54)) (Nat.ble pc 54) pc) (Nat.ble pc 56) pc) (fun pc => @Bool.rec (fun _ => Nat → Option ex_C) (fun pc => @Bool.rec (fun _ => Nat → Option ex_C) (fun pc => @Bool.rec (fun _ => Option ex_C) none (some k133_31) (Nat.beq pc 31)) (fun pc => @Bool.rec (fun _ => Option ex_C) none (some k133_17) (Nat.beq pc 17)) (Nat.ble pc 17) pc) (fun pc => @Bool.rec (fun _ => Nat → Option ex_C) (fun pc => @Bool.rec (fun _ => Option ex_C) none (some k133_9) (Nat.beq pc 9)) (fun pc => @Bool.rec (fun _ => Option ex_C) none (some k133_0) (Nat.beq pc 0)) (Nat.ble pc 0) pc) (Nat.ble pc 9) pc) (Nat.ble pc 31) pc
theorem ktE_133 : ex_CTT 0 [] cd_133 kt_133 cd_133 := (ex_ct2 (ex_ct2 (ex_ct2 (ex_ct1 kE133_0) (ex_ct1 kE133_9)) (ex_ct2 (ex_ct1 kE133_17) (ex_ct1 kE133_31))) (ex_ct2 (ex_ct2 (ex_ct1 kE133_54) (ex_ct1 kE133_56)) (ex_ct2 (ex_ct1 kE133_154) (ex_ct1 kE133_160))))
end
