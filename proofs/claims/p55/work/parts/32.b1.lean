noncomputable section
set_option maxHeartbeats 100000 in
def k68_0 : ex_C := c_aload 0 (c_iload 1 (c_pf 4 0 9 (c_aload 0 (c_iload 2 (c_pf 4 1 10 (c_aload 0 (c_iload 3 (c_pf 4 1 11 (c_return_  15)))))))))
set_option maxHeartbeats 100000 in
theorem kE68_0 : ex_CE 15 [] cd_68 k68_0 q68_0 := e_aload_aload_n 0 0 0 0 rfl (e_iload_iload_n 1 0 1 1 rfl (e_pf 2 265 40 4 0 9 rfl rfl rfl (e_aload_aload_n 5 0 0 0 rfl (e_iload_iload_n 6 0 2 2 rfl (e_pf 7 4362 44 4 1 10 rfl rfl rfl (e_aload_aload_n 10 0 0 0 rfl (e_iload_iload_n 11 0 3 3 rfl (e_pf 12 4363 48 4 1 11 rfl rfl rfl (e_return_ 15 0 )))))))))
def kt_68 : Nat → Option ex_C := fun pc => @Bool.rec (fun _ => Option ex_C) none (some k68_0) (Nat.beq pc 0)
theorem ktE_68 : ex_CTT 15 [] cd_68 kt_68 cd_68 := (ex_ct1 kE68_0)
set_option maxHeartbeats 100000 in
def k69_163 : ex_C := c_ireturn  1
set_option maxHeartbeats 100000 in
theorem kE69_163 : ex_CE 1 [] cd_69 k69_163 q69_163 := e_ireturn 163 0 
set_option maxHeartbeats 100000 in
def k69_162 : ex_C := c_psh 0 (k69_163)
set_option maxHeartbeats 100000 in
theorem kE69_162 : ex_CE 1 [] cd_69 k69_162 q69_162 := e_psh_iconst 162 0 0 (kE69_163)
set_option maxHeartbeats 100000 in
def k69_149 : ex_C := c_iload 3 (c_if_eq 162 (c_iload 4 (c_if_ne 162 (c_psh 1 (c_goto 163)))))
set_option maxHeartbeats 100000 in
theorem kE69_149 : ex_CE 1 [] cd_69 k69_149 q69_149 := e_iload_iload_n 149 0 3 3 rfl (e_if_eq 150 162 12 (e_iload_iload 153 0 4 (e_if_ne 155 162 7 (e_psh_iconst 158 1 1 (e_goto 159 163 4)))))
set_option maxHeartbeats 100000 in
def k69_142 : ex_C := c_istore 3 (c_iinc 5 1 (c_goto 8))
set_option maxHeartbeats 100000 in
theorem kE69_142 : ex_CE 1 [] cd_69 k69_142 q69_142 := e_istore_istore_n 142 0 3 3 rfl (e_iinc 143 1 5 1 (e_goto 146 8 (-138)))
set_option maxHeartbeats 100000 in
def k69_141 : ex_C := c_psh 0 (k69_142)
set_option maxHeartbeats 100000 in
theorem kE69_141 : ex_CE 1 [] cd_69 k69_141 q69_141 := e_psh_iconst 141 0 0 (kE69_142)
set_option maxHeartbeats 100000 in
def k69_137 : ex_C := c_psh 1 (c_goto 142)
set_option maxHeartbeats 100000 in
theorem kE69_137 : ex_CE 1 [] cd_69 k69_137 q69_137 := e_psh_iconst 137 1 1 (e_goto 138 142 4)
set_option maxHeartbeats 100000 in
def k69_122 : ex_C := c_bastore (c_iload 3 (c_if_ne 137 (c_aload 0 (c_gf 4 0 (c_iload 5 (c_baload (c_if_eq 141 (k69_137))))))))
set_option maxHeartbeats 100000 in
theorem kE69_122 : ex_CE 1 [] cd_69 k69_122 q69_122 := e_bastore 122 0 (e_iload_iload_n 123 0 3 3 rfl (e_if_ne 124 137 13 (e_aload_aload_n 127 0 0 0 rfl (e_gf 128 86272 9 4 0 rfl rfl (e_iload_iload 131 0 5 (e_baload 133 0 (e_if_eq 134 141 7 (kE69_137))))))))
set_option maxHeartbeats 100000 in
def k69_121 : ex_C := c_psh 0 (k69_122)
set_option maxHeartbeats 100000 in
theorem kE69_121 : ex_CE 1 [] cd_69 k69_121 q69_121 := e_psh_iconst 121 0 0 (kE69_122)
set_option maxHeartbeats 100000 in
def k69_114 : ex_C := c_icmp_ne 121 (c_psh 1 (c_goto 122))
set_option maxHeartbeats 100000 in
theorem kE69_114 : ex_CE 1 [] cd_69 k69_114 q69_114 := e_icmp_ne 114 121 7 (e_psh_iconst 117 1 1 (e_goto 118 122 4))
set_option maxHeartbeats 100000 in
def k69_113 : ex_C := c_psh 0 (k69_114)
set_option maxHeartbeats 100000 in
theorem kE69_113 : ex_CE 1 [] cd_69 k69_113 q69_113 := e_psh_iconst 113 0 0 (kE69_114)
set_option maxHeartbeats 100000 in
def k69_104 : ex_C := c_iload 2 (c_psh 5 (c_icmp_ne 113 (c_psh 1 (c_goto 114))))
set_option maxHeartbeats 100000 in
theorem kE69_104 : ex_CE 1 [] cd_69 k69_104 q69_104 := e_iload_iload_n 104 0 2 2 rfl (e_psh_iconst 105 5 5 (e_icmp_ne 106 113 7 (e_psh_iconst 109 1 1 (e_goto 110 114 4))))
set_option maxHeartbeats 100000 in
def k69_103 : ex_C := c_psh 0 (k69_104)
set_option maxHeartbeats 100000 in
theorem kE69_103 : ex_CE 1 [] cd_69 k69_103 q69_103 := e_psh_iconst 103 0 0 (kE69_104)
set_option maxHeartbeats 100000 in
def k69_94 : ex_C := c_iload 6 (c_if_le 103 (c_psh 1 (c_goto 104)))
set_option maxHeartbeats 100000 in
theorem kE69_94 : ex_CE 1 [] cd_69 k69_94 q69_94 := e_iload_iload 94 0 6 (e_if_le 96 103 7 (e_psh_iconst 99 1 1 (e_goto 100 104 4)))
set_option maxHeartbeats 100000 in
def k69_76 : ex_C := c_istore 7 (c_aload 0 (c_gf 4 0 (c_iload 5 (c_iload 2 (c_psh 5 (c_icmp_ge 94 (c_iload 7 (c_goto 122))))))))
set_option maxHeartbeats 100000 in
theorem kE69_76 : ex_CE 1 [] cd_69 k69_76 q69_76 := e_istore_istore 76 0 7 (e_aload_aload_n 78 0 0 0 rfl (e_gf 79 86272 9 4 0 rfl rfl (e_iload_iload 82 0 5 (e_iload_iload_n 84 0 2 2 rfl (e_psh_iconst 85 5 5 (e_icmp_ge 86 94 8 (e_iload_iload 89 0 7 (e_goto 91 122 31))))))))
set_option maxHeartbeats 100000 in
def k69_75 : ex_C := c_psh 0 (k69_76)
set_option maxHeartbeats 100000 in
theorem kE69_75 : ex_CE 1 [] cd_69 k69_75 q69_75 := e_psh_iconst 75 0 0 (kE69_76)
set_option maxHeartbeats 100000 in
def k69_71 : ex_C := c_psh 1 (c_goto 76)
set_option maxHeartbeats 100000 in
theorem kE69_71 : ex_CE 1 [] cd_69 k69_71 q69_71 := e_psh_iconst 71 1 1 (e_goto 72 76 4)
set_option maxHeartbeats 100000 in
def k69_67 : ex_C := c_iand (c_if_eq 75 (k69_71))
set_option maxHeartbeats 100000 in
theorem kE69_67 : ex_CE 1 [] cd_69 k69_67 q69_67 := e_iand 67 0 (e_if_eq 68 75 7 (kE69_71))
set_option maxHeartbeats 100000 in
def k69_50 : ex_C := c_istore 4 (c_iload 2 (c_if_eq 71 (c_aload 1 (c_gf 3 5 (c_iload 5 (c_iaload (c_iload 2 (c_invS [] cd_69 64 1 11 (k69_67)))))))))
set_option maxHeartbeats 100000 in
theorem kE69_50 : ex_CE 1 [] cd_69 k69_50 q69_50 := e_istore_istore 50 0 4 (e_iload_iload_n 52 0 2 2 rfl (e_if_eq 53 71 18 (e_aload_aload_n 56 0 1 1 rfl (e_gf 57 86213 60 3 5 rfl rfl (e_iload_iload 60 0 5 (e_iaload 62 0 (e_iload_iload_n 63 0 2 2 rfl (e_invS 64 229345 63 1 11 rfl rfl rfl (kE69_67)))))))))
set_option maxHeartbeats 100000 in
def k69_49 : ex_C := c_psh 0 (k69_50)
set_option maxHeartbeats 100000 in
theorem kE69_49 : ex_CE 1 [] cd_69 k69_49 q69_49 := e_psh_iconst 49 0 0 (kE69_50)
set_option maxHeartbeats 100000 in
def k69_45 : ex_C := c_psh 1 (c_goto 50)
set_option maxHeartbeats 100000 in
theorem kE69_45 : ex_CE 1 [] cd_69 k69_45 q69_45 := e_psh_iconst 45 1 1 (e_goto 46 50 4)
set_option maxHeartbeats 100000 in
def k69_33 : ex_C := c_istore 6 (c_iload 4 (c_if_ne 45 (c_iload 6 (c_if_ne 49 (k69_45)))))
set_option maxHeartbeats 100000 in
theorem kE69_33 : ex_CE 1 [] cd_69 k69_33 q69_33 := e_istore_istore 33 0 6 (e_iload_iload 35 0 4 (e_if_ne 37 45 8 (e_iload_iload 40 0 6 (e_if_ne 42 49 7 (kE69_45)))))
set_option maxHeartbeats 100000 in
def k69_26 : ex_C := c_aload 0 (c_aload 1 (c_iload 5 (c_invV [] cd_69 30 3 70 4 (k69_33))))
set_option maxHeartbeats 100000 in
theorem kE69_26 : ex_CE 1 [] cd_69 k69_26 q69_26 := e_aload_aload_n 26 0 0 0 rfl (e_aload_aload_n 27 0 1 1 rfl (e_iload_iload 28 0 5 (e_invV_invokevirtual 30 704643 56 3 70 4 rfl rfl rfl rfl rfl rfl (kE69_33))))
set_option maxHeartbeats 100000 in
def k69_8 : ex_C := c_iload 5 (c_aload 1 (c_gf 3 14 (c_icmp_ge 149 (c_iload 2 (c_psh 5 (c_icmp_ge 26 (c_psh 1 (c_goto 33))))))))
set_option maxHeartbeats 100000 in
theorem kE69_8 : ex_CE 1 [] cd_69 k69_8 q69_8 := e_iload_iload 8 0 5 (e_aload_aload_n 10 0 1 1 rfl (e_gf 11 206 51 3 14 rfl rfl (e_icmp_ge 14 149 135 (e_iload_iload_n 17 0 2 2 rfl (e_psh_iconst 18 5 5 (e_icmp_ge 19 26 7 (e_psh_iconst 22 1 1 (e_goto 23 33 10))))))))
set_option maxHeartbeats 100000 in
def k69_0 : ex_C := c_psh 0 (c_istore 3 (c_psh 0 (c_istore 4 (c_psh 0 (c_istore 5 (k69_8))))))
set_option maxHeartbeats 100000 in
theorem kE69_0 : ex_CE 1 [] cd_69 k69_0 q69_0 := e_psh_iconst 0 0 0 (e_istore_istore_n 1 0 3 3 rfl (e_psh_iconst 2 0 0 (e_istore_istore 3 0 4 (e_psh_iconst 5 0 0 (e_istore_istore 6 0 5 (kE69_8))))))
def kt_69 : Nat → Option ex_C := fun pc => @Bool.rec (fun _ => Nat → Option ex_C) (fun pc => @Bool.rec (fun _ => Nat → Option ex_C) (fun pc => @Bool.rec (fun _ => Nat → Option ex_C) (fun pc => @Bool.rec (fun _ => Nat → Option ex_C) (fun pc => @Bool.rec (fun _ => Nat → Option ex_C) (fun pc => @Bool.rec (fun _ => Option ex_C) none (some k69_163) (Nat.beq pc 163)) (fun pc => @Bool.rec (fun _ => Option ex_C) none (some k69_162) (Nat.beq pc 162)) (Nat.ble pc 162) pc) (fun pc => @Bool.rec (fun _ => Option ex_C) none (some k69_149) (Nat.beq pc 149)) (Nat.ble pc 149) pc) (fun pc => @Bool.rec (fun _ => Nat → Option ex_C) (fun pc => @Bool.rec (fun _ => Nat → Option ex_C) (fun pc => @Bool.rec (fun _ => Option ex_C) none (some k69_142) (Nat.beq pc 142)) (fun pc => @Bool.rec (fun _ => Option ex_C) none (some k69_141) (Nat.beq pc 141)) (Nat.ble pc 141) pc) (fun pc => @Bool.rec (fun _ => Option ex_C) none (some k69_137) (Nat.beq pc 137)) (Nat.ble pc 137) pc) (Nat.ble pc 142) pc) (fun pc => @Bool.rec (fun _ => Nat → Option ex_C) (fun pc => @Bool.rec (fun _ => Nat → Option ex_C) (fun pc => @Bool.rec (fun _ => Nat → Option ex_C) (fun pc => @Bool.rec (fun _ => Option ex_C) none (some k69_122) (Nat.beq pc 122)) (fun pc => @Bool.rec (fun _ => Option ex_C) none (some k69_121) (Nat.beq pc 121)) (Nat.ble pc 121) pc) (fun pc => @Bool.rec (fun _ => Option ex_C) none (some k69_114) (Nat.beq pc 114)) (Nat.ble pc 114) pc) (fun pc => @Bool.rec (fun _ => Nat → Option ex_C) (fun pc => @Bool.rec (fun _ => Nat → Option ex_C) (fun pc => @Bool.rec (fun _ => Option ex_C) none (some k69_113) (Nat.beq pc 113)) (fun pc => @Bool.rec (fun _ => Option ex_C) none (some k69_104) (Nat.beq pc 104)) (Nat.ble pc 104) pc) (fun pc => @Bool.rec (fun _ => Option ex_C) none (some k69_103) (Nat.beq pc 103)) (Nat.ble pc 103) pc) (Nat.ble pc 113) pc) (Nat.ble pc 122) pc) (fun pc => @Bool.rec (fun _ => Nat → Option ex_C) (fun pc => @Bool.rec (fun _ => Nat → Option ex_C) (fun pc => @Bool.rec (fun _ => Nat → Option ex_C) (fun pc => @Bool.rec (fun _ => Nat → Option ex_C) (fun pc => @Bool.rec (fun _ => Option ex_C) none (some k69_94) (Nat.beq pc 94)) (fun pc => @Bool.rec (fun _ => Option ex_C) none (some k69_76) (Nat.beq pc 76)) (Nat.ble pc 76) pc) (fun pc => @Bool.rec (fun _ => Option ex_C) none (some k69_75) (Nat.beq pc 75)) (Nat.ble pc 75) pc) (fun pc => @Bool.rec (fun _ => Nat → Option ex_C) (fun pc => @Bool.rec (fun _ => Nat → Option ex_C) (fun pc => @Bool.rec (fun _ => Option ex_C) none (some k69_71) (Nat.beq pc 71)) (fun pc => @Bool.rec (fun _ => Option ex_C) none (some k69_67) (Nat.beq pc 67)) (Nat.ble pc 67) pc) (fun pc => @Bool.rec (fun _ => Option ex_C) none (some k69_50) (Nat.beq pc 50)) (Nat.ble pc 50) pc) (Nat.ble pc 71) pc) (fun pc => @Bool.rec (fun _ => Nat → Option ex_C) (fun pc => @Bool.rec (fun _ => Nat → Option ex_C) (fun pc => @Bool.rec (fun _ => Nat → Option ex_C) (fun pc => @Bool.rec (fun _ => Option ex_C) none (some k69_49) (Nat.beq pc 49)) (fun pc => @Bool.rec (fun _ => Option ex_C) none (some k69_45) (Nat.beq pc 45)) (Nat.ble pc 45) pc) (fun pc => @Bool.rec (fun _ => Option ex_C) none (some k69_33) (Nat.beq pc 33)) (Nat.ble pc 33) pc) (fun pc => @Bool.rec (fun _ => Nat → Option ex_C) (fun pc => @Bool.rec (fun _ => Nat → Option ex_C) (fun pc => @Bool.rec (fun _ => Option ex_C) none (some k69_26) (Nat.beq pc 26)) (fun pc => @Bool.rec (fun _ => Option ex_C) none (some k69_8) (Nat.beq pc 8)) (Nat.ble pc 8) pc) (fun pc => @Bool.rec (fun _ => Option ex_C) none (some k69_0) (Nat.beq pc 0)) (Nat.ble pc 0) pc) (Nat.ble pc 26) pc) (Nat.ble pc 49) pc) (Nat.ble pc 94) pc
theorem ktE_69 : ex_CTT 1 [] cd_69 kt_69 cd_69 := (ex_ct2 (ex_ct2 (ex_ct2 (ex_ct2 (ex_ct1 kE69_0) (ex_ct2 (ex_ct1 kE69_8) (ex_ct1 kE69_26))) (ex_ct2 (ex_ct1 kE69_33) (ex_ct2 (ex_ct1 kE69_45) (ex_ct1 kE69_49)))) (ex_ct2 (ex_ct2 (ex_ct1 kE69_50) (ex_ct2 (ex_ct1 kE69_67) (ex_ct1 kE69_71))) (ex_ct2 (ex_ct1 kE69_75) (ex_ct2 (ex_ct1 kE69_76) (ex_ct1 kE69_94))))) (ex_ct2 (ex_ct2 (ex_ct2 (ex_ct1 kE69_103) (ex_ct2 (ex_ct1 kE69_104) (ex_ct1 kE69_113))) (ex_ct2 (ex_ct1 kE69_114) (ex_ct2 (ex_ct1 kE69_121) (ex_ct1 kE69_122)))) (ex_ct2 (ex_ct2 (ex_ct1 kE69_137) (ex_ct2 (ex_ct1 kE69_141) (ex_ct1 kE69_142))) (ex_ct2 (ex_ct1 kE69_149) (ex_ct2 (ex_ct1 kE69_162) (ex_ct1 kE69_163))))))
set_option maxHeartbeats 100000 in
def k70_130 : ex_C := c_ireturn  0
set_option maxHeartbeats 100000 in
theorem kE70_130 : ex_CE 0 [] cd_70 k70_130 q70_130 := e_ireturn 130 0 
set_option maxHeartbeats 100000 in
def k70_129 : ex_C := c_psh 0 (k70_130)
set_option maxHeartbeats 100000 in
theorem kE70_129 : ex_CE 0 [] cd_70 k70_129 q70_129 := e_psh_iconst 129 0 0 (kE70_130)
set_option maxHeartbeats 100000 in
def k70_119 : ex_C := c_iload 5 (c_iload 3 (c_icmp_lt 129 (c_psh 4294967295 (c_goto 130))))
set_option maxHeartbeats 100000 in
theorem kE70_119 : ex_CE 0 [] cd_70 k70_119 q70_119 := e_iload_iload 119 0 5 (e_iload_iload_n 121 0 3 3 rfl (e_icmp_lt 122 129 7 (e_psh_iconst 125 4294967295 (-1) (e_goto 126 130 4))))
set_option maxHeartbeats 100000 in
def k70_109 : ex_C := c_iload 6 (c_iload 3 (c_icmp_gt 119 (c_psh 1 (c_goto 130))))
set_option maxHeartbeats 100000 in
theorem kE70_109 : ex_CE 0 [] cd_70 k70_109 q70_109 := e_iload_iload 109 0 6 (e_iload_iload_n 111 0 3 3 rfl (e_icmp_gt 112 119 7 (e_psh_iconst 115 1 1 (e_goto 116 130 14))))
set_option maxHeartbeats 100000 in
def k70_100 : ex_C := c_iadd (c_istore 6 (c_iinc 7 1 (c_goto 37)))
set_option maxHeartbeats 100000 in
theorem kE70_100 : ex_CE 0 [] cd_70 k70_100 q70_100 := e_iadd 100 0 (e_istore_istore 101 0 6 (e_iinc 103 1 7 1 (e_goto 106 37 (-69))))
set_option maxHeartbeats 100000 in
def k70_99 : ex_C := c_psh 0 (k70_100)
set_option maxHeartbeats 100000 in
theorem kE70_99 : ex_CE 0 [] cd_70 k70_99 q70_99 := e_psh_iconst 99 0 0 (kE70_100)
set_option maxHeartbeats 100000 in
def k70_83 : ex_C := c_iadd (c_istore 5 (c_iload 6 (c_iload 8 (c_iload 4 (c_icmp_gt 99 (c_psh 1 (c_goto 100)))))))
set_option maxHeartbeats 100000 in
theorem kE70_83 : ex_CE 0 [] cd_70 k70_83 q70_83 := e_iadd 83 0 (e_istore_istore 84 0 5 (e_iload_iload 86 0 6 (e_iload_iload 88 0 8 (e_iload_iload 90 0 4 (e_icmp_gt 92 99 7 (e_psh_iconst 95 1 1 (e_goto 96 100 4)))))))
set_option maxHeartbeats 100000 in
def k70_82 : ex_C := c_psh 0 (k70_83)
set_option maxHeartbeats 100000 in
theorem kE70_82 : ex_CE 0 [] cd_70 k70_82 q70_82 := e_psh_iconst 82 0 0 (kE70_83)
set_option maxHeartbeats 100000 in
def k70_66 : ex_C := c_iadd (c_istore 8 (c_iload 5 (c_iload 8 (c_iload 4 (c_icmp_ge 82 (c_psh 1 (c_goto 83)))))))
set_option maxHeartbeats 100000 in
theorem kE70_66 : ex_CE 0 [] cd_70 k70_66 q70_66 := e_iadd 66 0 (e_istore_istore 67 0 8 (e_iload_iload 69 0 5 (e_iload_iload 71 0 8 (e_iload_iload 73 0 4 (e_icmp_ge 75 82 7 (e_psh_iconst 78 1 1 (e_goto 79 83 4)))))))
set_option maxHeartbeats 100000 in
def k70_56 : ex_C := c_aload 1 (c_gf 3 1 (c_iload 7 (c_iaload (c_invS [] cd_70 63 1 160 (k70_66)))))
set_option maxHeartbeats 100000 in
theorem kE70_56 : ex_CE 0 [] cd_70 k70_56 q70_56 := e_aload_aload_n 56 0 1 1 rfl (e_gf 57 86209 75 3 1 rfl rfl (e_iload_iload 60 0 7 (e_iaload 62 0 (e_invS 63 1449953 70 1 160 rfl rfl rfl (kE70_66)))))
set_option maxHeartbeats 100000 in
def k70_37 : ex_C := c_iload 7 (c_aload 1 (c_gf 3 14 (c_icmp_ge 109 (c_aload 1 (c_gf 3 0 (c_iload 7 (c_iaload (c_invS [] cd_70 53 1 160 (k70_56)))))))))
set_option maxHeartbeats 100000 in
theorem kE70_37 : ex_CE 0 [] cd_70 k70_37 q70_37 := e_iload_iload 37 0 7 (e_aload_aload_n 39 0 1 1 rfl (e_gf 40 206 51 3 14 rfl rfl (e_icmp_ge 43 109 66 (e_aload_aload_n 46 0 1 1 rfl (e_gf 47 86208 67 3 0 rfl rfl (e_iload_iload 50 0 7 (e_iaload 52 0 (e_invS 53 1449953 70 1 160 rfl rfl rfl (kE70_56)))))))))
set_option maxHeartbeats 100000 in
def k70_25 : ex_C := c_iadd (c_istore 4 (c_psh 0 (c_istore 5 (c_psh 0 (c_istore 6 (c_psh 0 (c_istore 7 (k70_37))))))))
set_option maxHeartbeats 100000 in
theorem kE70_25 : ex_CE 0 [] cd_70 k70_25 q70_25 := e_iadd 25 0 (e_istore_istore 26 0 4 (e_psh_iconst 28 0 0 (e_istore_istore 29 0 5 (e_psh_iconst 31 0 0 (e_istore_istore 32 0 6 (e_psh_iconst 34 0 0 (e_istore_istore 35 0 7 (kE70_37))))))))
set_option maxHeartbeats 100000 in
def k70_16 : ex_C := c_aload 1 (c_gf 3 1 (c_iload 2 (c_iaload (c_invS [] cd_70 22 1 160 (k70_25)))))
set_option maxHeartbeats 100000 in
theorem kE70_16 : ex_CE 0 [] cd_70 k70_16 q70_16 := e_aload_aload_n 16 0 1 1 rfl (e_gf 17 86209 75 3 1 rfl rfl (e_iload_iload_n 20 0 2 2 rfl (e_iaload 21 0 (e_invS 22 1449953 70 1 160 rfl rfl rfl (kE70_25)))))
set_option maxHeartbeats 100000 in
def k70_0 : ex_C := c_aload 1 (c_gf 3 14 (c_psh 2 (c_idiv   (c_istore 3 (c_aload 1 (c_gf 3 0 (c_iload 2 (c_iaload (c_invS [] cd_70 13 1 160 (k70_16))))))))))
set_option maxHeartbeats 100000 in
theorem kE70_0 : ex_CE 0 [] cd_70 k70_0 q70_0 := e_aload_aload_n 0 0 1 1 rfl (e_gf 1 206 51 3 14 rfl rfl (e_psh_iconst 4 2 2 (e_idiv 5 0  (e_istore_istore_n 6 0 3 3 rfl (e_aload_aload_n 7 0 1 1 rfl (e_gf 8 86208 67 3 0 rfl rfl (e_iload_iload_n 11 0 2 2 rfl (e_iaload 12 0 (e_invS 13 1449953 70 1 160 rfl rfl rfl (kE70_16))))))))))
def kt_70 : Nat → Option ex_C := fun pc => @Bool.rec (fun _ => Nat → Option ex_C) (fun pc => @Bool.rec (fun _ => Nat → Option ex_C) (fun pc => @Bool.rec (fun _ => Nat → Option ex_C) (fun pc => @Bool.rec (fun _ => Nat → Option ex_C) (fun pc => @Bool.rec (fun _ => Option ex_C) none (some k70_130) (Nat.beq pc 130)) (fun pc => @Bool.rec (fun _ => Option ex_C) none (some k70_129) (Nat.beq pc 129)) (Nat.ble pc 129) pc) (fun pc => @Bool.rec (fun _ => Nat → Option ex_C) (fun pc => @Bool.rec (fun _ => Option ex_C) none (some k70_119) (Nat.beq pc 119)) (fun pc => @Bool.rec (fun _ => Option ex_C) none (some k70_109) (Nat.beq pc 109)) (Nat.ble pc 109) pc) (Nat.ble pc 119) pc) (fun pc => @Bool.rec (fun _ => Nat → Option ex_C) (fun pc => @Bool.rec (fun _ => Nat → Option ex_C) (fun pc => @Bool.rec (fun _ => Option ex_C) none (some k70_100) (Nat.beq pc 100)) (fun pc => @Bool.rec (fun _ => Option ex_C) none (some k70_99) (Nat.beq pc 99)) (Nat.ble pc 99) pc) (fun pc => @Bool.rec (fun _ => Option ex_C) none (some k70_83) (Nat.beq pc 83)) (Nat.ble pc 83) pc) (Nat.ble pc 100) pc) (fun pc => @Bool.rec (fun _ => Nat → Option ex_C) (fun pc => @Bool.rec (fun _ => Nat → Option ex_C) (fun pc => @Bool.rec (fun _ => Nat → Option ex_C) (fun pc => @Bool.rec (fun _ => Option ex_C) none (some k70_82) (Nat.beq pc 82)) (fun pc => @Bool.rec (fun _ => Option ex_C) none (some k70_66) (Nat.beq pc 66)) (Nat.ble pc 66) pc) (fun pc => @Bool.rec (fun _ => Nat → Option ex_C) (fun pc => @Bool.rec (fun _ => Option ex_C) none (some k70_56) (Nat.beq pc 56)) (fun pc => @Bool.rec (fun _ => Option ex_C) none (some k70_37) (Nat.beq pc 37)) (Nat.ble pc 37) pc) (Nat.ble pc 56) pc) (fun pc => @Bool.rec (fun _ => Nat → Option ex_C) (fun pc => @Bool.rec (fun _ => Nat → Option ex_C) (fun pc => @Bool.rec (fun _ => Option ex_C) none (some k70_25) (Nat.beq pc 25)) (fun pc => @Bool.rec (fun _ => Option ex_C) none (some k70_16) (Nat.beq pc 16)) (Nat.ble pc 16) pc) (fun pc => @Bool.rec (fun _ => Option ex_C) none (some k70_0) (Nat.beq pc 0)) (Nat.ble pc 0) pc) (Nat.ble pc 25) pc) (Nat.ble pc 82) pc
theorem ktE_70 : ex_CTT 0 [] cd_70 kt_70 cd_70 := (ex_ct2 (ex_ct2 (ex_ct2 (ex_ct1 kE70_0) (ex_ct2 (ex_ct1 kE70_16) (ex_ct1 kE70_25))) (ex_ct2 (ex_ct2 (ex_ct1 kE70_37) (ex_ct1 kE70_56)) (ex_ct2 (ex_ct1 kE70_66) (ex_ct1 kE70_82)))) (ex_ct2 (ex_ct2 (ex_ct1 kE70_83) (ex_ct2 (ex_ct1 kE70_99) (ex_ct1 kE70_100))) (ex_ct2 (ex_ct2 (ex_ct1 kE70_109) (ex_ct1 kE70_119)) (ex_ct2 (ex_ct1 kE70_129) (ex_ct1 kE70_130)))))
set_option maxHeartbeats 100000 in
def k71_109 : ex_C := c_return_  15
set_option maxHeartbeats 100000 in
theorem kE71_109 : ex_CE 15 [] cd_71 k71_109 q71_109 := e_return_ 109 0 
set_option maxHeartbeats 100000 in
def k71_106 : ex_C := c_invV [] cd_71 106 3 75 4 (k71_109)
set_option maxHeartbeats 100000 in
theorem kE71_106 : ex_CE 15 [] cd_71 k71_106 q71_106 := e_invV_invokevirtual 106 745603 94 3 75 4 rfl rfl rfl rfl rfl rfl (kE71_109)
set_option maxHeartbeats 100000 in
def k71_105 : ex_C := c_psh 0 (k71_106)
set_option maxHeartbeats 100000 in
theorem kE71_105 : ex_CE 15 [] cd_71 k71_105 q71_105 := e_psh_iconst 105 0 0 (kE71_106)
set_option maxHeartbeats 100000 in
def k71_87 : ex_C := c_iload 2 (c_psh 6 (c_icmp_lt 109 (c_aload 0 (c_aload 1 (c_iload 2 (c_psh 12 (c_icmp_ne 105 (c_psh 1 (c_goto 106)))))))))
set_option maxHeartbeats 100000 in
theorem kE71_87 : ex_CE 15 [] cd_71 k71_87 q71_87 := e_iload_iload_n 87 0 2 2 rfl (e_psh_bipush 88 6 6 (e_icmp_lt 90 109 19 (e_aload_aload_n 93 0 0 0 rfl (e_aload_aload_n 94 0 1 1 rfl (e_iload_iload_n 95 0 2 2 rfl (e_psh_bipush 96 12 12 (e_icmp_ne 98 105 7 (e_psh_iconst 101 1 1 (e_goto 102 106 4)))))))))
set_option maxHeartbeats 100000 in
def k71_84 : ex_C := c_goto 109
set_option maxHeartbeats 100000 in
theorem kE71_84 : ex_CE 15 [] cd_71 k71_84 q71_84 := e_goto 84 109 25
set_option maxHeartbeats 100000 in
def k71_73 : ex_C := c_iload 2 (c_psh 11 (c_icmp_ne 87 (c_aload 0 (c_aload 1 (c_invV [] cd_71 81 2 79 4 (k71_84))))))
set_option maxHeartbeats 100000 in
theorem kE71_73 : ex_CE 15 [] cd_71 k71_73 q71_73 := e_iload_iload_n 73 0 2 2 rfl (e_psh_bipush 74 11 11 (e_icmp_ne 76 87 11 (e_aload_aload_n 79 0 0 0 rfl (e_aload_aload_n 80 0 1 1 rfl (e_invV_invokevirtual 81 778370 91 2 79 4 rfl rfl rfl rfl rfl rfl (kE71_84))))))
set_option maxHeartbeats 100000 in
def k71_70 : ex_C := c_goto 109
set_option maxHeartbeats 100000 in
theorem kE71_70 : ex_CE 15 [] cd_71 k71_70 q71_70 := e_goto 70 109 39
set_option maxHeartbeats 100000 in
def k71_65 : ex_C := c_aload 0 (c_aload 1 (c_invV [] cd_71 67 2 74 4 (k71_70)))
set_option maxHeartbeats 100000 in
theorem kE71_65 : ex_CE 15 [] cd_71 k71_65 q71_65 := e_aload_aload_n 65 0 0 0 rfl (e_aload_aload_n 66 0 1 1 rfl (e_invV_invokevirtual 67 737410 88 2 74 4 rfl rfl rfl rfl rfl rfl (kE71_70)))
set_option maxHeartbeats 100000 in
def k71_55 : ex_C := c_iload 2 (c_psh 4 (c_icmp_eq 65 (c_iload 2 (c_psh 5 (c_icmp_ne 73 (k71_65))))))
set_option maxHeartbeats 100000 in
theorem kE71_55 : ex_CE 15 [] cd_71 k71_55 q71_55 := e_iload_iload_n 55 0 2 2 rfl (e_psh_iconst 56 4 4 (e_icmp_eq 57 65 8 (e_iload_iload_n 60 0 2 2 rfl (e_psh_iconst 61 5 5 (e_icmp_ne 62 73 11 (kE71_65))))))
set_option maxHeartbeats 100000 in
def k71_50 : ex_C := c_aload 0 (c_aload 1 (c_invV [] cd_71 52 2 72 4 (k71_55)))
set_option maxHeartbeats 100000 in
theorem kE71_50 : ex_CE 15 [] cd_71 k71_50 q71_50 := e_aload_aload_n 50 0 0 0 rfl (e_aload_aload_n 51 0 1 1 rfl (e_invV_invokevirtual 52 721026 84 2 72 4 rfl rfl rfl rfl rfl rfl (kE71_55)))
set_option maxHeartbeats 100000 in
def k71_43 : ex_C := c_bastore (c_iinc 3 1 (c_goto 2))
set_option maxHeartbeats 100000 in
theorem kE71_43 : ex_CE 15 [] cd_71 k71_43 q71_43 := e_bastore 43 0 (e_iinc 44 1 3 1 (e_goto 47 2 (-45)))
set_option maxHeartbeats 100000 in
def k71_42 : ex_C := c_psh 0 (k71_43)
set_option maxHeartbeats 100000 in
theorem kE71_42 : ex_CE 15 [] cd_71 k71_42 q71_42 := e_psh_iconst 42 0 0 (kE71_43)
set_option maxHeartbeats 100000 in
def k71_2 : ex_C := c_iload 3 (c_aload 1 (c_gf 3 14 (c_icmp_ge 50 (c_aload 0 (c_gf 4 1 (c_iload 3 (c_aload 0 (c_gf 4 0 (c_iload 3 (c_baload (c_if_eq 42 (c_aload 1 (c_gf 3 4 (c_iload 3 (c_iaload (c_psh 17179869185 (c_iload 2 (c_iaload (c_icmp_lt 42 (c_psh 1 (c_goto 43)))))))))))))))))))))
set_option maxHeartbeats 100000 in
theorem kE71_2 : ex_CE 15 [] cd_71 k71_2 q71_2 := e_iload_iload_n 2 0 3 3 rfl (e_aload_aload_n 3 0 1 1 rfl (e_gf 4 206 51 3 14 rfl rfl (e_icmp_ge 7 50 43 (e_aload_aload_n 10 0 0 0 rfl (e_gf 11 86273 15 4 1 rfl rfl (e_iload_iload_n 14 0 3 3 rfl (e_aload_aload_n 15 0 0 0 rfl (e_gf 16 86272 9 4 0 rfl rfl (e_iload_iload_n 19 0 3 3 rfl (e_baload 20 0 (e_if_eq 21 42 21 (e_aload_aload_n 24 0 1 1 rfl (e_gf 25 86212 78 3 4 rfl rfl (e_iload_iload_n 28 0 3 3 rfl (e_iaload 29 0 (e_psh_getstatic 30 17179869185 81 (e_iload_iload_n 33 0 2 2 rfl (e_iaload 34 0 (e_icmp_lt 35 42 7 (e_psh_iconst 38 1 1 (e_goto 39 43 4)))))))))))))))))))))
set_option maxHeartbeats 100000 in
def k71_0 : ex_C := c_psh 0 (c_istore 3 (k71_2))
set_option maxHeartbeats 100000 in
theorem kE71_0 : ex_CE 15 [] cd_71 k71_0 q71_0 := e_psh_iconst 0 0 0 (e_istore_istore_n 1 0 3 3 rfl (kE71_2))
def kt_71 : Nat → Option ex_C := fun pc => @Bool.rec (fun _ => Nat → Option ex_C) (fun pc => @Bool.rec (fun _ => Nat → Option ex_C) (fun pc => @Bool.rec (fun _ => Nat → Option ex_C) (fun pc => @Bool.rec (fun _ => Nat → Option ex_C) (fun pc => @Bool.rec (fun _ => Option ex_C) none (some k71_109) (Nat.beq pc 109)) (fun pc => @Bool.rec (fun _ => Option ex_C) none (some k71_106) (Nat.beq pc 106)) (Nat.ble pc 106) pc) (fun pc => @Bool.rec (fun _ => Nat → Option ex_C) (fun pc => @Bool.rec (fun _ => Option ex_C) none (some k71_105) (Nat.beq pc 105)) (fun pc => @Bool.rec (fun _ => Option ex_C) none (some k71_87) (Nat.beq pc 87)) (Nat.ble pc 87) pc) (Nat.ble pc 105) pc) (fun pc => @Bool.rec (fun _ => Nat → Option ex_C) (fun pc => @Bool.rec (fun _ => Nat → Option ex_C) (fun pc => @Bool.rec (fun _ => Option ex_C) none (some k71_84) (Nat.beq pc 84)) (fun pc => @Bool.rec (fun _ => Option ex_C) none (some k71_73) (Nat.beq pc 73)) (Nat.ble pc 73) pc) (fun pc => @Bool.rec (fun _ => Option ex_C) none (some k71_70) (Nat.beq pc 70)) (Nat.ble pc 70) pc) (Nat.ble pc 84) pc) (fun pc => @Bool.rec (fun _ => Nat → Option ex_C) (fun pc => @Bool.rec (fun _ => Nat → Option ex_C) (fun pc => @Bool.rec (fun _ => Nat → Option ex_C) (fun pc => @Bool.rec (fun _ => Option ex_C) none (some k71_65) (Nat.beq pc 65)) (fun pc => @Bool.rec (fun _ => Option ex_C) none (some k71_55) (Nat.beq pc 55)) (Nat.ble pc 55) pc) (fun pc => @Bool.rec (fun _ => Nat → Option ex_C) (fun pc => @Bool.rec (fun _ => Option ex_C) none (some k71_50) (Nat.beq pc 50)) (fun pc => @Bool.rec (fun _ => Option ex_C) none (some k71_43) (Nat.beq pc 43)) (Nat.ble pc 43) pc) (Nat.ble pc 50) pc) (fun pc => @Bool.rec (fun _ => Nat → Option ex_C) (fun pc => @Bool.rec (fun _ => Nat → Option ex_C) (fun pc => @Bool.rec (fun _ => Option ex_C) none (some k71_42) (Nat.beq pc 42)) (fun pc => @Bool.rec (fun _ => Option ex_C) none (some k71_2) (Nat.beq pc 2)) (Nat.ble pc 2) pc) (fun pc => @Bool.rec (fun _ => Option ex_C) none (some k71_0) (Nat.beq pc 0)) (Nat.ble pc 0) pc) (Nat.ble pc 42) pc) (Nat.ble pc 65) pc
theorem ktE_71 : ex_CTT 15 [] cd_71 kt_71 cd_71 := (ex_ct2 (ex_ct2 (ex_ct2 (ex_ct1 kE71_0) (ex_ct2 (ex_ct1 kE71_2) (ex_ct1 kE71_42))) (ex_ct2 (ex_ct2 (ex_ct1 kE71_43) (ex_ct1 kE71_50)) (ex_ct2 (ex_ct1 kE71_55) (ex_ct1 kE71_65)))) (ex_ct2 (ex_ct2 (ex_ct1 kE71_70) (ex_ct2 (ex_ct1 kE71_73) (ex_ct1 kE71_84))) (ex_ct2 (ex_ct2 (ex_ct1 kE71_87) (ex_ct1 kE71_105)) (ex_ct2 (ex_ct1 kE71_106) (ex_ct1 kE71_109)))))
set_option maxHeartbeats 100000 in
def k72_192 : ex_C := c_return_  15
set_option maxHeartbeats 100000 in
theorem kE72_192 : ex_CE 15 [] cd_72 k72_192 q72_192 := e_return_ 192 0 
set_option maxHeartbeats 100000 in
def k72_178 : ex_C := c_aload 0 (c_gf 4 2 (c_iload 5 (c_iload 2 (c_iastore (c_iinc 2 1 (c_goto 2))))))
set_option maxHeartbeats 100000 in
theorem kE72_178 : ex_CE 15 [] cd_72 k72_178 q72_178 := e_aload_aload_n 178 0 0 0 rfl (e_gf 179 86274 18 4 2 rfl rfl (e_iload_iload 182 0 5 (e_iload_iload_n 184 0 2 2 rfl (e_iastore 185 0 (e_iinc 186 1 2 1 (e_goto 189 2 (-187)))))))
set_option maxHeartbeats 100000 in
def k72_153 : ex_C := c_if_eq 178 (c_aload 0 (c_gf 4 2 (c_iload 5 (c_aload 0 (c_gf 4 2 (c_iload 5 (c_psh 1 (c_isub (c_iaload (c_iastore (c_iinc 5 4294967295 (c_goto 133))))))))))))
set_option maxHeartbeats 100000 in
theorem kE72_153 : ex_CE 15 [] cd_72 k72_153 q72_153 := e_if_eq 153 178 25 (e_aload_aload_n 156 0 0 0 rfl (e_gf 157 86274 18 4 2 rfl rfl (e_iload_iload 160 0 5 (e_aload_aload_n 162 0 0 0 rfl (e_gf 163 86274 18 4 2 rfl rfl (e_iload_iload 166 0 5 (e_psh_iconst 168 1 1 (e_isub 169 0 (e_iaload 170 0 (e_iastore 171 0 (e_iinc 172 4294967295 5 (-1) (e_goto 175 133 (-42)))))))))))))
set_option maxHeartbeats 100000 in
def k72_133 : ex_C := c_iload 5 (c_if_le 178 (c_aload 0 (c_aload 1 (c_iload 2 (c_aload 0 (c_gf 4 2 (c_iload 5 (c_psh 1 (c_isub (c_iaload (c_invV [] cd_72 150 4 73 4 (k72_153))))))))))))
set_option maxHeartbeats 100000 in
theorem kE72_133 : ex_CE 15 [] cd_72 k72_133 q72_133 := e_iload_iload 133 0 5 (e_if_le 135 178 43 (e_aload_aload_n 138 0 0 0 rfl (e_aload_aload_n 139 0 1 1 rfl (e_iload_iload_n 140 0 2 2 rfl (e_aload_aload_n 141 0 0 0 rfl (e_gf 142 86274 18 4 2 rfl rfl (e_iload_iload 145 0 5 (e_psh_iconst 147 1 1 (e_isub 148 0 (e_iaload 149 0 (e_invV_invokevirtual 150 729220 98 4 73 4 rfl rfl rfl rfl rfl rfl (kE72_153))))))))))))
set_option maxHeartbeats 100000 in
def k72_129 : ex_C := c_iastore (c_iload 2 (c_istore 5 (k72_133)))
set_option maxHeartbeats 100000 in
theorem kE72_129 : ex_CE 15 [] cd_72 k72_129 q72_129 := e_iastore 129 0 (e_iload_iload_n 130 0 2 2 rfl (e_istore_istore 131 0 5 (kE72_133)))
set_option maxHeartbeats 100000 in
def k72_127 : ex_C := c_iload 4 (k72_129)
set_option maxHeartbeats 100000 in
theorem kE72_127 : ex_CE 15 [] cd_72 k72_127 q72_127 := e_iload_iload 127 0 4 (kE72_129)
set_option maxHeartbeats 100000 in
def k72_111 : ex_C := c_iadd (c_istore 4 (c_aload 0 (c_gf 4 3 (c_iload 2 (c_iload 3 (c_if_eq 127 (c_psh 4294967295 (c_goto 129))))))))
set_option maxHeartbeats 100000 in
theorem kE72_111 : ex_CE 15 [] cd_72 k72_111 q72_111 := e_iadd 111 0 (e_istore_istore 112 0 4 (e_aload_aload_n 114 0 0 0 rfl (e_gf 115 86275 22 4 3 rfl rfl (e_iload_iload_n 118 0 2 2 rfl (e_iload_iload_n 119 0 3 3 rfl (e_if_eq 120 127 7 (e_psh_iconst 123 4294967295 (-1) (e_goto 124 129 5))))))))
set_option maxHeartbeats 100000 in
def k72_110 : ex_C := c_psh 0 (k72_111)
set_option maxHeartbeats 100000 in
theorem kE72_110 : ex_CE 15 [] cd_72 k72_110 q72_110 := e_psh_iconst 110 0 0 (kE72_111)
set_option maxHeartbeats 100000 in
def k72_90 : ex_C := c_aload 0 (c_gf 4 11 (c_if_eq 110 (c_aload 1 (c_gf 3 1 (c_iload 2 (c_iaload (c_if_le 110 (c_psh 2 (c_goto 111)))))))))
set_option maxHeartbeats 100000 in
theorem kE72_90 : ex_CE 15 [] cd_72 k72_90 q72_90 := e_aload_aload_n 90 0 0 0 rfl (e_gf 91 4363 48 4 11 rfl rfl (e_if_eq 94 110 16 (e_aload_aload_n 97 0 1 1 rfl (e_gf 98 86209 75 3 1 rfl rfl (e_iload_iload_n 101 0 2 2 rfl (e_iaload 102 0 (e_if_le 103 110 7 (e_psh_iconst 106 2 2 (e_goto 107 111 4)))))))))
set_option maxHeartbeats 100000 in
def k72_89 : ex_C := c_psh 0 (k72_90)
set_option maxHeartbeats 100000 in
theorem kE72_89 : ex_CE 15 [] cd_72 k72_89 q72_89 := e_psh_iconst 89 0 0 (kE72_90)
set_option maxHeartbeats 100000 in
def k72_68 : ex_C := c_istore 3 (c_aload 0 (c_gf 4 10 (c_if_eq 89 (c_aload 1 (c_gf 3 0 (c_iload 2 (c_iaload (c_if_le 89 (c_psh 1 (c_goto 90))))))))))
set_option maxHeartbeats 100000 in
theorem kE72_68 : ex_CE 15 [] cd_72 k72_68 q72_68 := e_istore_istore_n 68 0 3 3 rfl (e_aload_aload_n 69 0 0 0 rfl (e_gf 70 4362 44 4 10 rfl rfl (e_if_eq 73 89 16 (e_aload_aload_n 76 0 1 1 rfl (e_gf 77 86208 67 3 0 rfl rfl (e_iload_iload_n 80 0 2 2 rfl (e_iaload 81 0 (e_if_le 82 89 7 (e_psh_iconst 85 1 1 (e_goto 86 90 4))))))))))
set_option maxHeartbeats 100000 in
def k72_67 : ex_C := c_psh 0 (k72_68)
set_option maxHeartbeats 100000 in
theorem kE72_67 : ex_CE 15 [] cd_72 k72_67 q72_67 := e_psh_iconst 67 0 0 (kE72_68)
set_option maxHeartbeats 100000 in
def k72_63 : ex_C := c_psh 1 (c_goto 68)
set_option maxHeartbeats 100000 in
theorem kE72_63 : ex_CE 15 [] cd_72 k72_63 q72_63 := e_psh_iconst 63 1 1 (e_goto 64 68 4)
set_option maxHeartbeats 100000 in
def k72_47 : ex_C := c_aload 0 (c_gf 4 11 (c_if_eq 67 (c_aload 1 (c_gf 3 1 (c_iload 2 (c_iaload (c_if_ne 67 (k72_63))))))))
set_option maxHeartbeats 100000 in
theorem kE72_47 : ex_CE 15 [] cd_72 k72_47 q72_47 := e_aload_aload_n 47 0 0 0 rfl (e_gf 48 4363 48 4 11 rfl rfl (e_if_eq 51 67 16 (e_aload_aload_n 54 0 1 1 rfl (e_gf 55 86209 75 3 1 rfl rfl (e_iload_iload_n 58 0 2 2 rfl (e_iaload 59 0 (e_if_ne 60 67 7 (kE72_63))))))))
set_option maxHeartbeats 100000 in
def k72_2 : ex_C := c_iload 2 (c_aload 1 (c_gf 3 14 (c_icmp_ge 192 (c_aload 0 (c_gf 4 4 (c_iload 2 (c_psh 4294967295 (c_iastore (c_aload 0 (c_gf 4 5 (c_iload 2 (c_psh 0 (c_iastore (c_aload 0 (c_gf 4 6 (c_iload 2 (c_psh 0 (c_bastore (c_aload 0 (c_gf 4 10 (c_if_eq 47 (c_aload 1 (c_gf 3 0 (c_iload 2 (c_iaload (c_if_eq 63 (k72_47)))))))))))))))))))))))))))
set_option maxHeartbeats 100000 in
theorem kE72_2 : ex_CE 15 [] cd_72 k72_2 q72_2 := e_iload_iload_n 2 0 2 2 rfl (e_aload_aload_n 3 0 1 1 rfl (e_gf 4 206 51 3 14 rfl rfl (e_icmp_ge 7 192 185 (e_aload_aload_n 10 0 0 0 rfl (e_gf 11 86276 25 4 4 rfl rfl (e_iload_iload_n 14 0 2 2 rfl (e_psh_iconst 15 4294967295 (-1) (e_iastore 16 0 (e_aload_aload_n 17 0 0 0 rfl (e_gf 18 86277 28 4 5 rfl rfl (e_iload_iload_n 21 0 2 2 rfl (e_psh_iconst 22 0 0 (e_iastore 23 0 (e_aload_aload_n 24 0 0 0 rfl (e_gf 25 86278 31 4 6 rfl rfl (e_iload_iload_n 28 0 2 2 rfl (e_psh_iconst 29 0 0 (e_bastore 30 0 (e_aload_aload_n 31 0 0 0 rfl (e_gf 32 4362 44 4 10 rfl rfl (e_if_eq 35 47 12 (e_aload_aload_n 38 0 1 1 rfl (e_gf 39 86208 67 3 0 rfl rfl (e_iload_iload_n 42 0 2 2 rfl (e_iaload 43 0 (e_if_eq 44 63 19 (kE72_47)))))))))))))))))))))))))))
set_option maxHeartbeats 100000 in
def k72_0 : ex_C := c_psh 0 (c_istore 2 (k72_2))
set_option maxHeartbeats 100000 in
theorem kE72_0 : ex_CE 15 [] cd_72 k72_0 q72_0 := e_psh_iconst 0 0 0 (e_istore_istore_n 1 0 2 2 rfl (kE72_2))
def kt_72 : Nat → Option ex_C := fun pc => @Bool.rec (fun _ => Nat → Option ex_C) (fun pc => @Bool.rec (fun _ => Nat → Option ex_C) (fun pc => @Bool.rec (fun _ => Nat → Option ex_C) (fun pc => @Bool.rec (fun _ => Nat → Option ex_C) (fun pc => @Bool.rec (fun _ => Option ex_C) none (some k72_192) (Nat.beq pc 192)) (fun pc => @Bool.rec (fun _ => Option ex_C) none (some k72_178) (Nat.beq pc 178)) (Nat.ble pc 178) pc) (fun pc => @Bool.rec (fun _ => Nat → Option ex_C) (fun pc => @Bool.rec (fun _ => Option ex_C) none (some k72_153) (Nat.beq pc 153)) (fun pc => @Bool.rec (fun _ => Option ex_C) none (some k72_133) (Nat.beq pc 133)) (Nat.ble pc 133) pc) (Nat.ble pc 153) pc) (fun pc => @Bool.rec (fun _ => Nat → Option ex_C) (fun pc => @Bool.rec (fun _ => Nat → Option ex_C) (fun pc => @Bool.rec (fun _ => Option ex_C) none (some k72_129) (Nat.beq pc 129)) (fun pc => @Bool.rec (fun _ => Option ex_C) none (some k72_127) (Nat.beq pc 127)) (Nat.ble pc 127) pc) (fun pc => @Bool.rec (fun _ => Nat → Option ex_C) (fun pc => @Bool.rec (fun _ => Option ex_C) none (some k72_111) (Nat.beq pc 111)) (fun pc => @Bool.rec (fun _ => Option ex_C) none (some k72_110) (Nat.beq pc 110)) (Nat.ble pc 110) pc) (Nat.ble pc 111) pc) (Nat.ble pc 129) pc) (fun pc => @Bool.rec (fun _ => Nat → Option ex_C) (fun pc => @Bool.rec (fun _ => Nat → Option ex_C) (fun pc => @Bool.rec (fun _ => Nat → Option ex_C) (fun pc => @Bool.rec (fun _ => Option ex_C) none (some k72_90) (Nat.beq pc 90)) (fun pc => @Bool.rec (fun _ => Option ex_C) none (some k72_89) (Nat.beq pc 89)) (Nat.ble pc 89) pc) (fun pc => @Bool.rec (fun _ => Nat → Option ex_C) (fun pc => @Bool.rec (fun _ => Option ex_C) none (some k72_68) (Nat.beq pc 68)) (fun pc => @Bool.rec (fun _ => Option ex_C) none (some k72_67) (Nat.beq pc 67)) (Nat.ble pc 67) pc) (Nat.ble pc 68) pc) (fun pc => @Bool.rec (fun _ => Nat → Option ex_C) (fun pc => @Bool.rec (fun _ => Nat → Option ex_C) (fun pc => @Bool.rec (fun _ => Option ex_C) none (some k72_63) (Nat.beq pc 63)) (fun pc => @Bool.rec (fun _ => Option ex_C) none (some k72_47) (Nat.beq pc 47)) (Nat.ble pc 47) pc) (fun pc => @Bool.rec (fun _ => Nat → Option ex_C) (fun pc => @Bool.rec (fun _ => Option ex_C) none (some k72_2) (Nat.beq pc 2)) (fun pc => @Bool.rec (fun _ => Option ex_C) none (some k72_0) (Nat.beq pc 0)) (Nat.ble pc 0) pc) (Nat.ble pc 2) pc) (Nat.ble pc 63) pc) (Nat.ble pc 90) pc
theorem ktE_72 : ex_CTT 15 [] cd_72 kt_72 cd_72 := (ex_ct2 (ex_ct2 (ex_ct2 (ex_ct2 (ex_ct1 kE72_0) (ex_ct1 kE72_2)) (ex_ct2 (ex_ct1 kE72_47) (ex_ct1 kE72_63))) (ex_ct2 (ex_ct2 (ex_ct1 kE72_67) (ex_ct1 kE72_68)) (ex_ct2 (ex_ct1 kE72_89) (ex_ct1 kE72_90)))) (ex_ct2 (ex_ct2 (ex_ct2 (ex_ct1 kE72_110) (ex_ct1 kE72_111)) (ex_ct2 (ex_ct1 kE72_127) (ex_ct1 kE72_129))) (ex_ct2 (ex_ct2 (ex_ct1 kE72_133) (ex_ct1 kE72_153)) (ex_ct2 (ex_ct1 kE72_178) (ex_ct1 kE72_192)))))
set_option maxHeartbeats 100000 in
def k73_92 : ex_C := c_ireturn  1
set_option maxHeartbeats 100000 in
theorem kE73_92 : ex_CE 1 [] cd_73 k73_92 q73_92 := e_ireturn 92 0 
set_option maxHeartbeats 100000 in
def k73_91 : ex_C := c_psh 0 (k73_92)
set_option maxHeartbeats 100000 in
theorem kE73_91 : ex_CE 1 [] cd_73 k73_91 q73_91 := e_psh_iconst 91 0 0 (kE73_92)
set_option maxHeartbeats 100000 in
def k73_72 : ex_C := c_aload 1 (c_gf 3 3 (c_iload 2 (c_iaload (c_aload 1 (c_gf 3 3 (c_iload 3 (c_iaload (c_icmp_ge 91 (c_psh 1 (c_goto 92))))))))))
set_option maxHeartbeats 100000 in
theorem kE73_72 : ex_CE 1 [] cd_73 k73_72 q73_72 := e_aload_aload_n 72 0 1 1 rfl (e_gf 73 86211 102 3 3 rfl rfl (e_iload_iload_n 76 0 2 2 rfl (e_iaload 77 0 (e_aload_aload_n 78 0 1 1 rfl (e_gf 79 86211 102 3 3 rfl rfl (e_iload_iload_n 82 0 3 3 rfl (e_iaload 83 0 (e_icmp_ge 84 91 7 (e_psh_iconst 87 1 1 (e_goto 88 92 4))))))))))
set_option maxHeartbeats 100000 in
def k73_71 : ex_C := c_ireturn  1
set_option maxHeartbeats 100000 in
theorem kE73_71 : ex_CE 1 [] cd_73 k73_71 q73_71 := e_ireturn 71 0 
set_option maxHeartbeats 100000 in
def k73_70 : ex_C := c_psh 0 (k73_71)
set_option maxHeartbeats 100000 in
theorem kE73_70 : ex_CE 1 [] cd_73 k73_70 q73_70 := e_psh_iconst 70 0 0 (kE73_71)
set_option maxHeartbeats 100000 in
def k73_36 : ex_C := c_aload 1 (c_gf 3 1 (c_iload 2 (c_iaload (c_aload 1 (c_gf 3 1 (c_iload 3 (c_iaload (c_icmp_eq 72 (c_aload 1 (c_gf 3 1 (c_iload 2 (c_iaload (c_aload 1 (c_gf 3 1 (c_iload 3 (c_iaload (c_icmp_ge 70 (c_psh 1 (c_goto 71)))))))))))))))))))
set_option maxHeartbeats 100000 in
theorem kE73_36 : ex_CE 1 [] cd_73 k73_36 q73_36 := e_aload_aload_n 36 0 1 1 rfl (e_gf 37 86209 75 3 1 rfl rfl (e_iload_iload_n 40 0 2 2 rfl (e_iaload 41 0 (e_aload_aload_n 42 0 1 1 rfl (e_gf 43 86209 75 3 1 rfl rfl (e_iload_iload_n 46 0 3 3 rfl (e_iaload 47 0 (e_icmp_eq 48 72 24 (e_aload_aload_n 51 0 1 1 rfl (e_gf 52 86209 75 3 1 rfl rfl (e_iload_iload_n 55 0 2 2 rfl (e_iaload 56 0 (e_aload_aload_n 57 0 1 1 rfl (e_gf 58 86209 75 3 1 rfl rfl (e_iload_iload_n 61 0 3 3 rfl (e_iaload 62 0 (e_icmp_ge 63 70 7 (e_psh_iconst 66 1 1 (e_goto 67 71 4)))))))))))))))))))
set_option maxHeartbeats 100000 in
def k73_35 : ex_C := c_ireturn  1
set_option maxHeartbeats 100000 in
theorem kE73_35 : ex_CE 1 [] cd_73 k73_35 q73_35 := e_ireturn 35 0 
set_option maxHeartbeats 100000 in
def k73_34 : ex_C := c_psh 0 (k73_35)
set_option maxHeartbeats 100000 in
theorem kE73_34 : ex_CE 1 [] cd_73 k73_34 q73_34 := e_psh_iconst 34 0 0 (kE73_35)
set_option maxHeartbeats 100000 in
def k73_0 : ex_C := c_aload 1 (c_gf 3 0 (c_iload 2 (c_iaload (c_aload 1 (c_gf 3 0 (c_iload 3 (c_iaload (c_icmp_eq 36 (c_aload 1 (c_gf 3 0 (c_iload 2 (c_iaload (c_aload 1 (c_gf 3 0 (c_iload 3 (c_iaload (c_icmp_ge 34 (c_psh 1 (c_goto 35)))))))))))))))))))
set_option maxHeartbeats 100000 in
theorem kE73_0 : ex_CE 1 [] cd_73 k73_0 q73_0 := e_aload_aload_n 0 0 1 1 rfl (e_gf 1 86208 67 3 0 rfl rfl (e_iload_iload_n 4 0 2 2 rfl (e_iaload 5 0 (e_aload_aload_n 6 0 1 1 rfl (e_gf 7 86208 67 3 0 rfl rfl (e_iload_iload_n 10 0 3 3 rfl (e_iaload 11 0 (e_icmp_eq 12 36 24 (e_aload_aload_n 15 0 1 1 rfl (e_gf 16 86208 67 3 0 rfl rfl (e_iload_iload_n 19 0 2 2 rfl (e_iaload 20 0 (e_aload_aload_n 21 0 1 1 rfl (e_gf 22 86208 67 3 0 rfl rfl (e_iload_iload_n 25 0 3 3 rfl (e_iaload 26 0 (e_icmp_ge 27 34 7 (e_psh_iconst 30 1 1 (e_goto 31 35 4)))))))))))))))))))
def kt_73 : Nat → Option ex_C := fun pc => @Bool.rec (fun _ => Nat → Option ex_C) (fun pc => @Bool.rec (fun _ => Nat → Option ex_C) (fun pc => @Bool.rec (fun _ => Nat → Option ex_C) (fun pc => @Bool.rec (fun _ => Nat → Option ex_C) (fun pc => @Bool.rec (fun _ => Option ex_C) none (some k73_92) (Nat.beq pc 92)) (fun pc => @Bool.rec (fun _ => Option ex_C) none (some k73_91) (Nat.beq pc 91)) (Nat.ble pc 91) pc) (fun pc => @Bool.rec (fun _ => Option ex_C) none (some k73_72) (Nat.beq pc 72)) (Nat.ble pc 72) pc) (fun pc => @Bool.rec (fun _ => Nat → Option ex_C) (fun pc => @Bool.rec (fun _ => Option ex_C) none (some k73_71) (Nat.beq pc 71)) (fun pc => @Bool.rec (fun _ => Option ex_C) none (some k73_70) (Nat.beq pc 70)) (Nat.ble pc 70) pc) (Nat.ble pc 71) pc) (fun pc => @Bool.rec (fun _ => Nat → Option ex_C) (fun pc => @Bool.rec (fun _ => Nat → Option ex_C) (fun pc => @Bool.rec (fun _ => Option ex_C) none (some k73_36) (Nat.beq pc 36)) (fun pc => @Bool.rec (fun _ => Option ex_C) none (some k73_35) (Nat.beq pc 35)) (Nat.ble pc 35) pc) (fun pc => @Bool.rec (fun _ => Nat → Option ex_C) (fun pc => @Bool.rec (fun _ => Option ex_C) none (some k73_34) (Nat.beq pc 34)) (fun pc => @Bool.rec (fun _ => Option ex_C) none (some k73_0) (Nat.beq pc 0)) (Nat.ble pc 0) pc) (Nat.ble pc 34) pc) (Nat.ble pc 36) pc
theorem ktE_73 : ex_CTT 1 [] cd_73 kt_73 cd_73 := (ex_ct2 (ex_ct2 (ex_ct2 (ex_ct1 kE73_0) (ex_ct1 kE73_34)) (ex_ct2 (ex_ct1 kE73_35) (ex_ct1 kE73_36))) (ex_ct2 (ex_ct2 (ex_ct1 kE73_70) (ex_ct1 kE73_71)) (ex_ct2 (ex_ct1 kE73_72) (ex_ct2 (ex_ct1 kE73_91) (ex_ct1 kE73_92)))))
set_option maxHeartbeats 100000 in
def k74_190 : ex_C := c_return_  15
set_option maxHeartbeats 100000 in
theorem kE74_190 : ex_CE 15 [] cd_74 k74_190 q74_190 := e_return_ 190 0 
set_option maxHeartbeats 100000 in
def k74_184 : ex_C := c_iinc 2 1 (c_goto 2)
set_option maxHeartbeats 100000 in
theorem kE74_184 : ex_CE 15 [] cd_74 k74_184 q74_184 := e_iinc 184 1 2 1 (e_goto 187 2 (-185))
set_option maxHeartbeats 100000 in
def k74_178 : ex_C := c_iinc 6 1 (c_goto 78)
set_option maxHeartbeats 100000 in
theorem kE74_178 : ex_CE 15 [] cd_74 k74_178 q74_178 := e_iinc 178 1 6 1 (e_goto 181 78 (-103))
set_option maxHeartbeats 100000 in
def k74_78 : ex_C := c_iload 6 (c_aload 1 (c_gf 3 14 (c_icmp_ge 184 (c_aload 0 (c_gf 4 4 (c_iload 2 (c_iaload (c_if_ge 184 (c_aload 0 (c_gf 4 2 (c_iload 6 (c_iaload (c_istore 7 (c_aload 0 (c_gf 4 1 (c_iload 7 (c_baload (c_if_eq 178 (c_aload 0 (c_gf 4 3 (c_iload 7 (c_iaload (c_aload 0 (c_gf 4 3 (c_iload 2 (c_iaload (c_icmp_ne 178 (c_aload 1 (c_gf 3 0 (c_iload 7 (c_iaload (c_iload 4 (c_icmp_ne 178 (c_aload 1 (c_gf 3 1 (c_iload 7 (c_iaload (c_iload 5 (c_icmp_ne 178 (c_aload 1 (c_gf 3 2 (c_iload 7 (c_iaload (c_iload 3 (c_psh 2 (c_iadd (c_psh 3 (c_iand (c_icmp_ne 178 (c_aload 0 (c_gf 4 4 (c_iload 2 (c_iload 7 (c_iastore (k74_178)))))))))))))))))))))))))))))))))))))))))))))))))))))))
set_option maxHeartbeats 100000 in
theorem kE74_78 : ex_CE 15 [] cd_74 k74_78 q74_78 := e_iload_iload 78 0 6 (e_aload_aload_n 80 0 1 1 rfl (e_gf 81 206 51 3 14 rfl rfl (e_icmp_ge 84 184 100 (e_aload_aload_n 87 0 0 0 rfl (e_gf 88 86276 25 4 4 rfl rfl (e_iload_iload_n 91 0 2 2 rfl (e_iaload 92 0 (e_if_ge 93 184 91 (e_aload_aload_n 96 0 0 0 rfl (e_gf 97 86274 18 4 2 rfl rfl (e_iload_iload 100 0 6 (e_iaload 102 0 (e_istore_istore 103 0 7 (e_aload_aload_n 105 0 0 0 rfl (e_gf 106 86273 15 4 1 rfl rfl (e_iload_iload 109 0 7 (e_baload 111 0 (e_if_eq 112 178 66 (e_aload_aload_n 115 0 0 0 rfl (e_gf 116 86275 22 4 3 rfl rfl (e_iload_iload 119 0 7 (e_iaload 121 0 (e_aload_aload_n 122 0 0 0 rfl (e_gf 123 86275 22 4 3 rfl rfl (e_iload_iload_n 126 0 2 2 rfl (e_iaload 127 0 (e_icmp_ne 128 178 50 (e_aload_aload_n 131 0 1 1 rfl (e_gf 132 86208 67 3 0 rfl rfl (e_iload_iload 135 0 7 (e_iaload 137 0 (e_iload_iload 138 0 4 (e_icmp_ne 140 178 38 (e_aload_aload_n 143 0 1 1 rfl (e_gf 144 86209 75 3 1 rfl rfl (e_iload_iload 147 0 7 (e_iaload 149 0 (e_iload_iload 150 0 5 (e_icmp_ne 152 178 26 (e_aload_aload_n 155 0 1 1 rfl (e_gf 156 86210 105 3 2 rfl rfl (e_iload_iload 159 0 7 (e_iaload 161 0 (e_iload_iload_n 162 0 3 3 rfl (e_psh_iconst 163 2 2 (e_iadd 164 0 (e_psh_iconst 165 3 3 (e_iand 166 0 (e_icmp_ne 167 178 11 (e_aload_aload_n 170 0 0 0 rfl (e_gf 171 86276 25 4 4 rfl rfl (e_iload_iload_n 174 0 2 2 rfl (e_iload_iload 175 0 7 (e_iastore 177 0 (kE74_178)))))))))))))))))))))))))))))))))))))))))))))))))))))))
set_option maxHeartbeats 100000 in
def k74_2 : ex_C := c_iload 2 (c_aload 1 (c_gf 3 14 (c_icmp_ge 190 (c_aload 0 (c_gf 4 1 (c_iload 2 (c_baload (c_if_eq 184 (c_aload 0 (c_gf 4 3 (c_iload 2 (c_iaload (c_if_lt 184 (c_aload 1 (c_gf 3 2 (c_iload 2 (c_iaload (c_psh 3 (c_iand (c_istore 3 (c_aload 1 (c_gf 3 0 (c_iload 2 (c_iaload (c_aload 0 (c_gf 4 9 (c_psh 17179869193 (c_iload 3 (c_iaload (c_imul (c_iadd (c_istore 4 (c_aload 1 (c_gf 3 1 (c_iload 2 (c_iaload (c_aload 0 (c_gf 4 9 (c_psh 17179869194 (c_iload 3 (c_iaload (c_imul (c_iadd (c_istore 5 (c_psh 0 (c_istore 6 (k74_78)))))))))))))))))))))))))))))))))))))))))))))))
set_option maxHeartbeats 100000 in
theorem kE74_2 : ex_CE 15 [] cd_74 k74_2 q74_2 := e_iload_iload_n 2 0 2 2 rfl (e_aload_aload_n 3 0 1 1 rfl (e_gf 4 206 51 3 14 rfl rfl (e_icmp_ge 7 190 183 (e_aload_aload_n 10 0 0 0 rfl (e_gf 11 86273 15 4 1 rfl rfl (e_iload_iload_n 14 0 2 2 rfl (e_baload 15 0 (e_if_eq 16 184 168 (e_aload_aload_n 19 0 0 0 rfl (e_gf 20 86275 22 4 3 rfl rfl (e_iload_iload_n 23 0 2 2 rfl (e_iaload 24 0 (e_if_lt 25 184 159 (e_aload_aload_n 28 0 1 1 rfl (e_gf 29 86210 105 3 2 rfl rfl (e_iload_iload_n 32 0 2 2 rfl (e_iaload 33 0 (e_psh_iconst 34 3 3 (e_iand 35 0 (e_istore_istore_n 36 0 3 3 rfl (e_aload_aload_n 37 0 1 1 rfl (e_gf 38 86208 67 3 0 rfl rfl (e_iload_iload_n 41 0 2 2 rfl (e_iaload 42 0 (e_aload_aload_n 43 0 0 0 rfl (e_gf 44 265 40 4 9 rfl rfl (e_psh_getstatic 47 17179869193 108 (e_iload_iload_n 50 0 3 3 rfl (e_iaload 51 0 (e_imul 52 0 (e_iadd 53 0 (e_istore_istore 54 0 4 (e_aload_aload_n 56 0 1 1 rfl (e_gf 57 86209 75 3 1 rfl rfl (e_iload_iload_n 60 0 2 2 rfl (e_iaload 61 0 (e_aload_aload_n 62 0 0 0 rfl (e_gf 63 265 40 4 9 rfl rfl (e_psh_getstatic 66 17179869194 111 (e_iload_iload_n 69 0 3 3 rfl (e_iaload 70 0 (e_imul 71 0 (e_iadd 72 0 (e_istore_istore 73 0 5 (e_psh_iconst 75 0 0 (e_istore_istore 76 0 6 (kE74_78)))))))))))))))))))))))))))))))))))))))))))))))
set_option maxHeartbeats 100000 in
def k74_0 : ex_C := c_psh 0 (c_istore 2 (k74_2))
set_option maxHeartbeats 100000 in
theorem kE74_0 : ex_CE 15 [] cd_74 k74_0 q74_0 := e_psh_iconst 0 0 0 (e_istore_istore_n 1 0 2 2 rfl (kE74_2))
def kt_74 : Nat → Option ex_C := fun pc => @Bool.rec (fun _ => Nat → Option ex_C) (fun pc => @Bool.rec (fun _ => Nat → Option ex_C) (fun pc => @Bool.rec (fun _ => Nat → Option ex_C) (fun pc => @Bool.rec (fun _ => Option ex_C) none (some k74_190) (Nat.beq pc 190)) (fun pc => @Bool.rec (fun _ => Option ex_C) none (some k74_184) (Nat.beq pc 184)) (Nat.ble pc 184) pc) (fun pc => @Bool.rec (fun _ => Option ex_C) none (some k74_178) (Nat.beq pc 178)) (Nat.ble pc 178) pc) (fun pc => @Bool.rec (fun _ => Nat → Option ex_C) (fun pc => @Bool.rec (fun _ => Nat → Option ex_C) (fun pc => @Bool.rec (fun _ => Option ex_C) none (some k74_78) (Nat.beq pc 78)) (fun pc => @Bool.rec (fun _ => Option ex_C) none (some k74_2) (Nat.beq pc 2)) (Nat.ble pc 2) pc) (fun pc => @Bool.rec (fun _ => Option ex_C) none (some k74_0) (Nat.beq pc 0)) (Nat.ble pc 0) pc) (Nat.ble pc 78) pc
theorem ktE_74 : ex_CTT 15 [] cd_74 kt_74 cd_74 := (ex_ct2 (ex_ct2 (ex_ct1 kE74_0) (ex_ct2 (ex_ct1 kE74_2) (ex_ct1 kE74_78))) (ex_ct2 (ex_ct1 kE74_178) (ex_ct2 (ex_ct1 kE74_184) (ex_ct1 kE74_190))))
set_option maxHeartbeats 100000 in
def k75_158 : ex_C := c_return_  15
set_option maxHeartbeats 100000 in
theorem kE75_158 : ex_CE 15 [] cd_75 k75_158 q75_158 := e_return_ 158 0 
set_option maxHeartbeats 100000 in
def k75_152 : ex_C := c_iinc 3 1 (c_goto 2)
set_option maxHeartbeats 100000 in
theorem kE75_152 : ex_CE 15 [] cd_75 k75_152 q75_152 := e_iinc 152 1 3 1 (e_goto 155 2 (-153))
set_option maxHeartbeats 100000 in
def k75_137 : ex_C := c_iastore (c_aload 0 (c_gf 4 5 (c_iload 5 (c_aload 0 (c_gf 4 5 (c_iload 4 (c_iaload (c_iastore (k75_152)))))))))
set_option maxHeartbeats 100000 in
theorem kE75_137 : ex_CE 15 [] cd_75 k75_137 q75_137 := e_iastore 137 0 (e_aload_aload_n 138 0 0 0 rfl (e_gf 139 86277 28 4 5 rfl rfl (e_iload_iload 142 0 5 (e_aload_aload_n 144 0 0 0 rfl (e_gf 145 86277 28 4 5 rfl rfl (e_iload_iload 148 0 4 (e_iaload 150 0 (e_iastore 151 0 (kE75_152)))))))))
set_option maxHeartbeats 100000 in
def k75_136 : ex_C := c_psh 3 (k75_137)
set_option maxHeartbeats 100000 in
theorem kE75_136 : ex_CE 15 [] cd_75 k75_136 q75_136 := e_psh_iconst 136 3 3 (kE75_137)
set_option maxHeartbeats 100000 in
def k75_129 : ex_C := c_if_eq 136 (c_psh 2 (c_goto 137))
set_option maxHeartbeats 100000 in
theorem kE75_129 : ex_CE 15 [] cd_75 k75_129 q75_129 := e_if_eq 129 136 7 (e_psh_iconst 132 2 2 (e_goto 133 137 4))
set_option maxHeartbeats 100000 in
def k75_112 : ex_C := c_aload 1 (c_iload 5 (c_iload 4 (c_aload 1 (c_gf 3 2 (c_iload 4 (c_iaload (c_psh 1 (c_iadd (c_invV [] cd_75 126 4 12 3 (k75_129))))))))))
set_option maxHeartbeats 100000 in
theorem kE75_112 : ex_CE 15 [] cd_75 k75_112 q75_112 := e_aload_aload_n 112 0 1 1 rfl (e_iload_iload 113 0 5 (e_iload_iload 115 0 4 (e_aload_aload_n 117 0 1 1 rfl (e_gf 118 86210 105 3 2 rfl rfl (e_iload_iload 121 0 4 (e_iaload 123 0 (e_psh_iconst 124 1 1 (e_iadd 125 0 (e_invV_invokevirtual 126 229476 118 4 12 3 rfl rfl rfl rfl rfl rfl (kE75_129))))))))))
set_option maxHeartbeats 100000 in
def k75_60 : ex_C := c_istore 5 (c_iload 5 (c_if_lt 152 (c_aload 0 (c_gf 4 4 (c_iload 4 (c_iload 5 (c_iastore (c_aload 0 (c_gf 4 4 (c_iload 5 (c_iload 4 (c_iastore (c_aload 0 (c_gf 4 5 (c_iload 4 (c_aload 1 (c_gf 3 2 (c_iload 4 (c_iaload (c_aload 1 (c_gf 3 2 (c_iload 5 (c_iaload (c_icmp_ne 112 (c_psh 1 (c_goto 137))))))))))))))))))))))))))
set_option maxHeartbeats 100000 in
theorem kE75_60 : ex_CE 15 [] cd_75 k75_60 q75_60 := e_istore_istore 60 0 5 (e_iload_iload 62 0 5 (e_if_lt 64 152 88 (e_aload_aload_n 67 0 0 0 rfl (e_gf 68 86276 25 4 4 rfl rfl (e_iload_iload 71 0 4 (e_iload_iload 73 0 5 (e_iastore 75 0 (e_aload_aload_n 76 0 0 0 rfl (e_gf 77 86276 25 4 4 rfl rfl (e_iload_iload 80 0 5 (e_iload_iload 82 0 4 (e_iastore 84 0 (e_aload_aload_n 85 0 0 0 rfl (e_gf 86 86277 28 4 5 rfl rfl (e_iload_iload 89 0 4 (e_aload_aload_n 91 0 1 1 rfl (e_gf 92 86210 105 3 2 rfl rfl (e_iload_iload 95 0 4 (e_iaload 97 0 (e_aload_aload_n 98 0 1 1 rfl (e_gf 99 86210 105 3 2 rfl rfl (e_iload_iload 102 0 5 (e_iaload 104 0 (e_icmp_ne 105 112 7 (e_psh_iconst 108 1 1 (e_goto 109 137 28))))))))))))))))))))))))))
set_option maxHeartbeats 100000 in
def k75_52 : ex_C := c_aload 0 (c_aload 1 (c_iload 4 (c_iload 2 (c_invV [] cd_75 57 4 76 4 (k75_60)))))
set_option maxHeartbeats 100000 in
theorem kE75_52 : ex_CE 15 [] cd_75 k75_52 q75_52 := e_aload_aload_n 52 0 0 0 rfl (e_aload_aload_n 53 0 1 1 rfl (e_iload_iload 54 0 4 (e_iload_iload_n 56 0 2 2 rfl (e_invV_invokevirtual 57 753796 114 4 76 4 rfl rfl rfl rfl rfl rfl (kE75_60)))))
set_option maxHeartbeats 100000 in
def k75_2 : ex_C := c_iload 3 (c_aload 1 (c_gf 3 14 (c_icmp_ge 158 (c_aload 0 (c_gf 4 2 (c_iload 3 (c_iaload (c_istore 4 (c_aload 0 (c_gf 4 4 (c_iload 4 (c_iaload (c_if_ge 152 (c_aload 0 (c_gf 4 3 (c_iload 4 (c_iaload (c_if_lt 152 (c_iload 2 (c_if_ne 52 (c_aload 0 (c_gf 4 1 (c_iload 4 (c_baload (c_if_eq 152 (k75_52))))))))))))))))))))))))))
set_option maxHeartbeats 100000 in
theorem kE75_2 : ex_CE 15 [] cd_75 k75_2 q75_2 := e_iload_iload_n 2 0 3 3 rfl (e_aload_aload_n 3 0 1 1 rfl (e_gf 4 206 51 3 14 rfl rfl (e_icmp_ge 7 158 151 (e_aload_aload_n 10 0 0 0 rfl (e_gf 11 86274 18 4 2 rfl rfl (e_iload_iload_n 14 0 3 3 rfl (e_iaload 15 0 (e_istore_istore 16 0 4 (e_aload_aload_n 18 0 0 0 rfl (e_gf 19 86276 25 4 4 rfl rfl (e_iload_iload 22 0 4 (e_iaload 24 0 (e_if_ge 25 152 127 (e_aload_aload_n 28 0 0 0 rfl (e_gf 29 86275 22 4 3 rfl rfl (e_iload_iload 32 0 4 (e_iaload 34 0 (e_if_lt 35 152 117 (e_iload_iload_n 38 0 2 2 rfl (e_if_ne 39 52 13 (e_aload_aload_n 42 0 0 0 rfl (e_gf 43 86273 15 4 1 rfl rfl (e_iload_iload 46 0 4 (e_baload 48 0 (e_if_eq 49 152 103 (kE75_52))))))))))))))))))))))))))
set_option maxHeartbeats 100000 in
def k75_0 : ex_C := c_psh 0 (c_istore 3 (k75_2))
set_option maxHeartbeats 100000 in
theorem kE75_0 : ex_CE 15 [] cd_75 k75_0 q75_0 := e_psh_iconst 0 0 0 (e_istore_istore_n 1 0 3 3 rfl (kE75_2))
def kt_75 : Nat → Option ex_C := fun pc => @Bool.rec (fun _ => Nat → Option ex_C) (fun pc => @Bool.rec (fun _ => Nat → Option ex_C) (fun pc => @Bool.rec (fun _ => Nat → Option ex_C) (fun pc => @Bool.rec (fun _ => Nat → Option ex_C) (fun pc => @Bool.rec (fun _ => Option ex_C) none (some k75_158) (Nat.beq pc 158)) (fun pc => @Bool.rec (fun _ => Option ex_C) none (some k75_152) (Nat.beq pc 152)) (Nat.ble pc 152) pc) (fun pc => @Bool.rec (fun _ => Option ex_C) none (some k75_137) (Nat.beq pc 137)) (Nat.ble pc 137) pc) (fun pc => @Bool.rec (fun _ => Nat → Option ex_C) (fun pc => @Bool.rec (fun _ => Option ex_C) none (some k75_136) (Nat.beq pc 136)) (fun pc => @Bool.rec (fun _ => Option ex_C) none (some k75_129) (Nat.beq pc 129)) (Nat.ble pc 129) pc) (Nat.ble pc 136) pc) (fun pc => @Bool.rec (fun _ => Nat → Option ex_C) (fun pc => @Bool.rec (fun _ => Nat → Option ex_C) (fun pc => @Bool.rec (fun _ => Nat → Option ex_C) (fun pc => @Bool.rec (fun _ => Option ex_C) none (some k75_112) (Nat.beq pc 112)) (fun pc => @Bool.rec (fun _ => Option ex_C) none (some k75_60) (Nat.beq pc 60)) (Nat.ble pc 60) pc) (fun pc => @Bool.rec (fun _ => Option ex_C) none (some k75_52) (Nat.beq pc 52)) (Nat.ble pc 52) pc) (fun pc => @Bool.rec (fun _ => Nat → Option ex_C) (fun pc => @Bool.rec (fun _ => Option ex_C) none (some k75_2) (Nat.beq pc 2)) (fun pc => @Bool.rec (fun _ => Option ex_C) none (some k75_0) (Nat.beq pc 0)) (Nat.ble pc 0) pc) (Nat.ble pc 2) pc) (Nat.ble pc 112) pc
theorem ktE_75 : ex_CTT 15 [] cd_75 kt_75 cd_75 := (ex_ct2 (ex_ct2 (ex_ct2 (ex_ct1 kE75_0) (ex_ct1 kE75_2)) (ex_ct2 (ex_ct1 kE75_52) (ex_ct2 (ex_ct1 kE75_60) (ex_ct1 kE75_112)))) (ex_ct2 (ex_ct2 (ex_ct1 kE75_129) (ex_ct1 kE75_136)) (ex_ct2 (ex_ct1 kE75_137) (ex_ct2 (ex_ct1 kE75_152) (ex_ct1 kE75_158)))))
set_option maxHeartbeats 100000 in
def k76_186 : ex_C := c_psh 4294967295 (c_ireturn  0)
set_option maxHeartbeats 100000 in
theorem kE76_186 : ex_CE 0 [] cd_76 k76_186 q76_186 := e_psh_iconst 186 4294967295 (-1) (e_ireturn 187 0 )
set_option maxHeartbeats 100000 in
def k76_180 : ex_C := c_iinc 7 1 (c_goto 75)
set_option maxHeartbeats 100000 in
theorem kE76_180 : ex_CE 0 [] cd_76 k76_180 q76_180 := e_iinc 180 1 7 1 (e_goto 183 75 (-108))
set_option maxHeartbeats 100000 in
def k76_133 : ex_C := c_aload 1 (c_gf 3 0 (c_iload 8 (c_iaload (c_iload 5 (c_icmp_ne 180 (c_aload 1 (c_gf 3 1 (c_iload 8 (c_iaload (c_iload 6 (c_icmp_ne 180 (c_aload 1 (c_gf 3 2 (c_iload 8 (c_iaload (c_psh 2 (c_irem   (c_aload 1 (c_gf 3 2 (c_iload 2 (c_iaload (c_psh 2 (c_irem   (c_icmp_ne 180 (c_iload 8 (c_ireturn  0))))))))))))))))))))))))))
set_option maxHeartbeats 100000 in
theorem kE76_133 : ex_CE 0 [] cd_76 k76_133 q76_133 := e_aload_aload_n 133 0 1 1 rfl (e_gf 134 86208 67 3 0 rfl rfl (e_iload_iload 137 0 8 (e_iaload 139 0 (e_iload_iload 140 0 5 (e_icmp_ne 142 180 38 (e_aload_aload_n 145 0 1 1 rfl (e_gf 146 86209 75 3 1 rfl rfl (e_iload_iload 149 0 8 (e_iaload 151 0 (e_iload_iload 152 0 6 (e_icmp_ne 154 180 26 (e_aload_aload_n 157 0 1 1 rfl (e_gf 158 86210 105 3 2 rfl rfl (e_iload_iload 161 0 8 (e_iaload 163 0 (e_psh_iconst 164 2 2 (e_irem 165 0  (e_aload_aload_n 166 0 1 1 rfl (e_gf 167 86210 105 3 2 rfl rfl (e_iload_iload_n 170 0 2 2 rfl (e_iaload 171 0 (e_psh_iconst 172 2 2 (e_irem 173 0  (e_icmp_ne 174 180 6 (e_iload_iload 177 0 8 (e_ireturn 179 0 ))))))))))))))))))))))))))
set_option maxHeartbeats 100000 in
def k76_75 : ex_C := c_iload 7 (c_aload 1 (c_gf 3 14 (c_icmp_ge 186 (c_aload 0 (c_gf 4 2 (c_iload 7 (c_iaload (c_istore 8 (c_aload 0 (c_gf 4 4 (c_iload 8 (c_iaload (c_if_ge 180 (c_aload 0 (c_gf 4 3 (c_iload 8 (c_iaload (c_aload 0 (c_gf 4 3 (c_iload 2 (c_iaload (c_icmp_ne 180 (c_iload 3 (c_if_ne 133 (c_aload 0 (c_gf 4 1 (c_iload 8 (c_baload (c_if_eq 180 (k76_133))))))))))))))))))))))))))))))
set_option maxHeartbeats 100000 in
theorem kE76_75 : ex_CE 0 [] cd_76 k76_75 q76_75 := e_iload_iload 75 0 7 (e_aload_aload_n 77 0 1 1 rfl (e_gf 78 206 51 3 14 rfl rfl (e_icmp_ge 81 186 105 (e_aload_aload_n 84 0 0 0 rfl (e_gf 85 86274 18 4 2 rfl rfl (e_iload_iload 88 0 7 (e_iaload 90 0 (e_istore_istore 91 0 8 (e_aload_aload_n 93 0 0 0 rfl (e_gf 94 86276 25 4 4 rfl rfl (e_iload_iload 97 0 8 (e_iaload 99 0 (e_if_ge 100 180 80 (e_aload_aload_n 103 0 0 0 rfl (e_gf 104 86275 22 4 3 rfl rfl (e_iload_iload 107 0 8 (e_iaload 109 0 (e_aload_aload_n 110 0 0 0 rfl (e_gf 111 86275 22 4 3 rfl rfl (e_iload_iload_n 114 0 2 2 rfl (e_iaload 115 0 (e_icmp_ne 116 180 64 (e_iload_iload_n 119 0 3 3 rfl (e_if_ne 120 133 13 (e_aload_aload_n 123 0 0 0 rfl (e_gf 124 86273 15 4 1 rfl rfl (e_iload_iload 127 0 8 (e_baload 129 0 (e_if_eq 130 180 50 (kE76_133))))))))))))))))))))))))))))))
set_option maxHeartbeats 100000 in
def k76_70 : ex_C := c_istore 6 (c_psh 0 (c_istore 7 (k76_75)))
set_option maxHeartbeats 100000 in
theorem kE76_70 : ex_CE 0 [] cd_76 k76_70 q76_70 := e_istore_istore 70 0 6 (e_psh_iconst 72 0 0 (e_istore_istore 73 0 7 (kE76_75)))
set_option maxHeartbeats 100000 in
def k76_59 : ex_C := c_aload 1 (c_gf 3 1 (c_iload 2 (c_iaload (c_aload 0 (c_gf 4 9 (c_iadd (k76_70)))))))
set_option maxHeartbeats 100000 in
theorem kE76_59 : ex_CE 0 [] cd_76 k76_59 q76_59 := e_aload_aload_n 59 0 1 1 rfl (e_gf 60 86209 75 3 1 rfl rfl (e_iload_iload_n 63 0 2 2 rfl (e_iaload 64 0 (e_aload_aload_n 65 0 0 0 rfl (e_gf 66 265 40 4 9 rfl rfl (e_iadd 69 0 (kE76_70)))))))
set_option maxHeartbeats 100000 in
def k76_43 : ex_C := c_istore 5 (c_iload 4 (c_if_eq 59 (c_aload 1 (c_gf 3 1 (c_iload 2 (c_iaload (c_goto 70)))))))
set_option maxHeartbeats 100000 in
theorem kE76_43 : ex_CE 0 [] cd_76 k76_43 q76_43 := e_istore_istore 43 0 5 (e_iload_iload 45 0 4 (e_if_eq 47 59 12 (e_aload_aload_n 50 0 1 1 rfl (e_gf 51 86209 75 3 1 rfl rfl (e_iload_iload_n 54 0 2 2 rfl (e_iaload 55 0 (e_goto 56 70 14)))))))
set_option maxHeartbeats 100000 in
def k76_37 : ex_C := c_aload 1 (c_gf 3 0 (c_iload 2 (c_iaload (k76_43))))
set_option maxHeartbeats 100000 in
theorem kE76_37 : ex_CE 0 [] cd_76 k76_37 q76_37 := e_aload_aload_n 37 0 1 1 rfl (e_gf 38 86208 67 3 0 rfl rfl (e_iload_iload_n 41 0 2 2 rfl (e_iaload 42 0 (kE76_43))))
set_option maxHeartbeats 100000 in
def k76_16 : ex_C := c_istore 4 (c_iload 4 (c_if_eq 37 (c_aload 1 (c_gf 3 0 (c_iload 2 (c_iaload (c_aload 0 (c_gf 4 9 (c_iadd (c_goto 43))))))))))
set_option maxHeartbeats 100000 in
theorem kE76_16 : ex_CE 0 [] cd_76 k76_16 q76_16 := e_istore_istore 16 0 4 (e_iload_iload 18 0 4 (e_if_eq 20 37 17 (e_aload_aload_n 23 0 1 1 rfl (e_gf 24 86208 67 3 0 rfl rfl (e_iload_iload_n 27 0 2 2 rfl (e_iaload 28 0 (e_aload_aload_n 29 0 0 0 rfl (e_gf 30 265 40 4 9 rfl rfl (e_iadd 33 0 (e_goto 34 43 9))))))))))
set_option maxHeartbeats 100000 in
def k76_15 : ex_C := c_psh 0 (k76_16)
set_option maxHeartbeats 100000 in
theorem kE76_15 : ex_CE 0 [] cd_76 k76_15 q76_15 := e_psh_iconst 15 0 0 (kE76_16)
set_option maxHeartbeats 100000 in
def k76_0 : ex_C := c_aload 1 (c_gf 3 2 (c_iload 2 (c_iaload (c_psh 2 (c_irem   (c_if_ne 15 (c_psh 1 (c_goto 16))))))))
set_option maxHeartbeats 100000 in
theorem kE76_0 : ex_CE 0 [] cd_76 k76_0 q76_0 := e_aload_aload_n 0 0 1 1 rfl (e_gf 1 86210 105 3 2 rfl rfl (e_iload_iload_n 4 0 2 2 rfl (e_iaload 5 0 (e_psh_iconst 6 2 2 (e_irem 7 0  (e_if_ne 8 15 7 (e_psh_iconst 11 1 1 (e_goto 12 16 4))))))))
def kt_76 : Nat → Option ex_C := fun pc => @Bool.rec (fun _ => Nat → Option ex_C) (fun pc => @Bool.rec (fun _ => Nat → Option ex_C) (fun pc => @Bool.rec (fun _ => Nat → Option ex_C) (fun pc => @Bool.rec (fun _ => Nat → Option ex_C) (fun pc => @Bool.rec (fun _ => Option ex_C) none (some k76_186) (Nat.beq pc 186)) (fun pc => @Bool.rec (fun _ => Option ex_C) none (some k76_180) (Nat.beq pc 180)) (Nat.ble pc 180) pc) (fun pc => @Bool.rec (fun _ => Option ex_C) none (some k76_133) (Nat.beq pc 133)) (Nat.ble pc 133) pc) (fun pc => @Bool.rec (fun _ => Nat → Option ex_C) (fun pc => @Bool.rec (fun _ => Nat → Option ex_C) (fun pc => @Bool.rec (fun _ => Option ex_C) none (some k76_75) (Nat.beq pc 75)) (fun pc => @Bool.rec (fun _ => Option ex_C) none (some k76_70) (Nat.beq pc 70)) (Nat.ble pc 70) pc) (fun pc => @Bool.rec (fun _ => Option ex_C) none (some k76_59) (Nat.beq pc 59)) (Nat.ble pc 59) pc) (Nat.ble pc 75) pc) (fun pc => @Bool.rec (fun _ => Nat → Option ex_C) (fun pc => @Bool.rec (fun _ => Nat → Option ex_C) (fun pc => @Bool.rec (fun _ => Nat → Option ex_C) (fun pc => @Bool.rec (fun _ => Option ex_C) none (some k76_43) (Nat.beq pc 43)) (fun pc => @Bool.rec (fun _ => Option ex_C) none (some k76_37) (Nat.beq pc 37)) (Nat.ble pc 37) pc) (fun pc => @Bool.rec (fun _ => Option ex_C) none (some k76_16) (Nat.beq pc 16)) (Nat.ble pc 16) pc) (fun pc => @Bool.rec (fun _ => Nat → Option ex_C) (fun pc => @Bool.rec (fun _ => Option ex_C) none (some k76_15) (Nat.beq pc 15)) (fun pc => @Bool.rec (fun _ => Option ex_C) none (some k76_0) (Nat.beq pc 0)) (Nat.ble pc 0) pc) (Nat.ble pc 15) pc) (Nat.ble pc 43) pc
theorem ktE_76 : ex_CTT 0 [] cd_76 kt_76 cd_76 := (ex_ct2 (ex_ct2 (ex_ct2 (ex_ct1 kE76_0) (ex_ct1 kE76_15)) (ex_ct2 (ex_ct1 kE76_16) (ex_ct2 (ex_ct1 kE76_37) (ex_ct1 kE76_43)))) (ex_ct2 (ex_ct2 (ex_ct1 kE76_59) (ex_ct2 (ex_ct1 kE76_70) (ex_ct1 kE76_75))) (ex_ct2 (ex_ct1 kE76_133) (ex_ct2 (ex_ct1 kE76_180) (ex_ct1 kE76_186)))))
set_option maxHeartbeats 100000 in
def k77_30 : ex_C := c_return_  15
set_option maxHeartbeats 100000 in
theorem kE77_30 : ex_CE 15 [] cd_77 k77_30 q77_30 := e_return_ 30 0 
set_option maxHeartbeats 100000 in
def k77_24 : ex_C := c_aload 0 (c_aload 1 (c_psh 1 (c_invV [] cd_77 27 3 75 4 (k77_30))))
set_option maxHeartbeats 100000 in
theorem kE77_24 : ex_CE 15 [] cd_77 k77_24 q77_24 := e_aload_aload_n 24 0 0 0 rfl (e_aload_aload_n 25 0 1 1 rfl (e_psh_iconst 26 1 1 (e_invV_invokevirtual 27 745603 94 3 75 4 rfl rfl rfl rfl rfl rfl (kE77_30))))
set_option maxHeartbeats 100000 in
def k77_21 : ex_C := c_goto 30
set_option maxHeartbeats 100000 in
theorem kE77_21 : ex_CE 15 [] cd_77 k77_21 q77_21 := e_goto 21 30 9
set_option maxHeartbeats 100000 in
def k77_12 : ex_C := c_iload 2 (c_if_eq 24 (c_aload 0 (c_aload 1 (c_invV [] cd_77 18 2 78 4 (k77_21)))))
set_option maxHeartbeats 100000 in
theorem kE77_12 : ex_CE 15 [] cd_77 k77_12 q77_12 := e_iload_iload_n 12 0 2 2 rfl (e_if_eq 13 24 11 (e_aload_aload_n 16 0 0 0 rfl (e_aload_aload_n 17 0 1 1 rfl (e_invV_invokevirtual 18 770178 126 2 78 4 rfl rfl rfl rfl rfl rfl (kE77_21)))))
set_option maxHeartbeats 100000 in
def k77_7 : ex_C := c_aload 0 (c_aload 1 (c_invV [] cd_77 9 2 72 4 (k77_12)))
set_option maxHeartbeats 100000 in
theorem kE77_7 : ex_CE 15 [] cd_77 k77_7 q77_7 := e_aload_aload_n 7 0 0 0 rfl (e_aload_aload_n 8 0 1 1 rfl (e_invV_invokevirtual 9 721026 84 2 72 4 rfl rfl rfl rfl rfl rfl (kE77_12)))
set_option maxHeartbeats 100000 in
def k77_0 : ex_C := c_aload 0 (c_psh 2 (c_psh 0 (c_psh 0 (c_invV [] cd_77 4 4 68 4 (k77_7)))))
set_option maxHeartbeats 100000 in
theorem kE77_0 : ex_CE 15 [] cd_77 k77_0 q77_0 := e_aload_aload_n 0 0 0 0 rfl (e_psh_iconst 1 2 2 (e_psh_iconst 2 0 0 (e_psh_iconst 3 0 0 (e_invV_invokevirtual 4 688260 122 4 68 4 rfl rfl rfl rfl rfl rfl (kE77_7)))))
def kt_77 : Nat → Option ex_C := fun pc => @Bool.rec (fun _ => Nat → Option ex_C) (fun pc => @Bool.rec (fun _ => Nat → Option ex_C) (fun pc => @Bool.rec (fun _ => Nat → Option ex_C) (fun pc => @Bool.rec (fun _ => Option ex_C) none (some k77_30) (Nat.beq pc 30)) (fun pc => @Bool.rec (fun _ => Option ex_C) none (some k77_24) (Nat.beq pc 24)) (Nat.ble pc 24) pc) (fun pc => @Bool.rec (fun _ => Option ex_C) none (some k77_21) (Nat.beq pc 21)) (Nat.ble pc 21) pc) (fun pc => @Bool.rec (fun _ => Nat → Option ex_C) (fun pc => @Bool.rec (fun _ => Nat → Option ex_C) (fun pc => @Bool.rec (fun _ => Option ex_C) none (some k77_12) (Nat.beq pc 12)) (fun pc => @Bool.rec (fun _ => Option ex_C) none (some k77_7) (Nat.beq pc 7)) (Nat.ble pc 7) pc) (fun pc => @Bool.rec (fun _ => Option ex_C) none (some k77_0) (Nat.beq pc 0)) (Nat.ble pc 0) pc) (Nat.ble pc 12) pc
theorem ktE_77 : ex_CTT 15 [] cd_77 kt_77 cd_77 := (ex_ct2 (ex_ct2 (ex_ct1 kE77_0) (ex_ct2 (ex_ct1 kE77_7) (ex_ct1 kE77_12))) (ex_ct2 (ex_ct1 kE77_21) (ex_ct2 (ex_ct1 kE77_24) (ex_ct1 kE77_30))))
set_option maxHeartbeats 100000 in
def k78_206 : ex_C := c_return_  15
set_option maxHeartbeats 100000 in
theorem kE78_206 : ex_CE 15 [] cd_78 k78_206 q78_206 := e_return_ 206 0 
set_option maxHeartbeats 100000 in
def k78_200 : ex_C := c_iinc 2 1 (c_goto 2)
set_option maxHeartbeats 100000 in
theorem kE78_200 : ex_CE 15 [] cd_78 k78_200 q78_200 := e_iinc 200 1 2 1 (e_goto 203 2 (-201))
set_option maxHeartbeats 100000 in
def k78_194 : ex_C := c_iinc 7 1 (c_goto 86)
set_option maxHeartbeats 100000 in
theorem kE78_194 : ex_CE 15 [] cd_78 k78_194 q78_194 := e_iinc 194 1 7 1 (e_goto 197 86 (-111))
set_option maxHeartbeats 100000 in
def k78_86 : ex_C := c_iload 7 (c_aload 1 (c_gf 3 14 (c_icmp_ge 200 (c_aload 0 (c_gf 4 4 (c_iload 3 (c_iaload (c_if_ge 200 (c_aload 0 (c_gf 4 2 (c_iload 7 (c_iaload (c_istore 8 (c_aload 0 (c_gf 4 4 (c_iload 8 (c_iaload (c_if_ge 194 (c_aload 1 (c_gf 3 0 (c_iload 8 (c_iaload (c_iload 5 (c_icmp_ne 194 (c_aload 1 (c_gf 3 1 (c_iload 8 (c_iaload (c_iload 6 (c_icmp_ne 194 (c_aload 1 (c_gf 3 2 (c_iload 8 (c_iaload (c_aload 1 (c_gf 3 2 (c_iload 3 (c_iaload (c_icmp_ne 194 (c_aload 0 (c_gf 4 4 (c_iload 3 (c_iload 8 (c_iastore (c_aload 0 (c_gf 4 4 (c_iload 8 (c_iload 3 (c_iastore (c_aload 0 (c_gf 4 5 (c_iload 3 (c_psh 1 (c_iastore (c_aload 0 (c_gf 4 5 (c_iload 8 (c_psh 1 (c_iastore (k78_194))))))))))))))))))))))))))))))))))))))))))))))))))))))))))))
set_option maxHeartbeats 100000 in
theorem kE78_86 : ex_CE 15 [] cd_78 k78_86 q78_86 := e_iload_iload 86 0 7 (e_aload_aload_n 88 0 1 1 rfl (e_gf 89 206 51 3 14 rfl rfl (e_icmp_ge 92 200 108 (e_aload_aload_n 95 0 0 0 rfl (e_gf 96 86276 25 4 4 rfl rfl (e_iload_iload_n 99 0 3 3 rfl (e_iaload 100 0 (e_if_ge 101 200 99 (e_aload_aload_n 104 0 0 0 rfl (e_gf 105 86274 18 4 2 rfl rfl (e_iload_iload 108 0 7 (e_iaload 110 0 (e_istore_istore 111 0 8 (e_aload_aload_n 113 0 0 0 rfl (e_gf 114 86276 25 4 4 rfl rfl (e_iload_iload 117 0 8 (e_iaload 119 0 (e_if_ge 120 194 74 (e_aload_aload_n 123 0 1 1 rfl (e_gf 124 86208 67 3 0 rfl rfl (e_iload_iload 127 0 8 (e_iaload 129 0 (e_iload_iload 130 0 5 (e_icmp_ne 132 194 62 (e_aload_aload_n 135 0 1 1 rfl (e_gf 136 86209 75 3 1 rfl rfl (e_iload_iload 139 0 8 (e_iaload 141 0 (e_iload_iload 142 0 6 (e_icmp_ne 144 194 50 (e_aload_aload_n 147 0 1 1 rfl (e_gf 148 86210 105 3 2 rfl rfl (e_iload_iload 151 0 8 (e_iaload 153 0 (e_aload_aload_n 154 0 1 1 rfl (e_gf 155 86210 105 3 2 rfl rfl (e_iload_iload_n 158 0 3 3 rfl (e_iaload 159 0 (e_icmp_ne 160 194 34 (e_aload_aload_n 163 0 0 0 rfl (e_gf 164 86276 25 4 4 rfl rfl (e_iload_iload_n 167 0 3 3 rfl (e_iload_iload 168 0 8 (e_iastore 170 0 (e_aload_aload_n 171 0 0 0 rfl (e_gf 172 86276 25 4 4 rfl rfl (e_iload_iload 175 0 8 (e_iload_iload_n 177 0 3 3 rfl (e_iastore 178 0 (e_aload_aload_n 179 0 0 0 rfl (e_gf 180 86277 28 4 5 rfl rfl (e_iload_iload_n 183 0 3 3 rfl (e_psh_iconst 184 1 1 (e_iastore 185 0 (e_aload_aload_n 186 0 0 0 rfl (e_gf 187 86277 28 4 5 rfl rfl (e_iload_iload 190 0 8 (e_psh_iconst 192 1 1 (e_iastore 193 0 (kE78_194))))))))))))))))))))))))))))))))))))))))))))))))))))))))))))
set_option maxHeartbeats 100000 in
def k78_81 : ex_C := c_istore 6 (c_psh 0 (c_istore 7 (k78_86)))
set_option maxHeartbeats 100000 in
theorem kE78_81 : ex_CE 15 [] cd_78 k78_81 q78_81 := e_istore_istore 81 0 6 (e_psh_iconst 83 0 0 (e_istore_istore 84 0 7 (kE78_86)))
set_option maxHeartbeats 100000 in
def k78_73 : ex_C := c_aload 1 (c_gf 3 1 (c_iload 3 (c_iaload (c_psh 2 (c_iadd (k78_81))))))
set_option maxHeartbeats 100000 in
theorem kE78_73 : ex_CE 15 [] cd_78 k78_73 q78_73 := e_aload_aload_n 73 0 1 1 rfl (e_gf 74 86209 75 3 1 rfl rfl (e_iload_iload_n 77 0 3 3 rfl (e_iaload 78 0 (e_psh_iconst 79 2 2 (e_iadd 80 0 (kE78_81))))))
set_option maxHeartbeats 100000 in
def k78_57 : ex_C := c_istore 5 (c_iload 4 (c_if_eq 73 (c_aload 1 (c_gf 3 1 (c_iload 3 (c_iaload (c_goto 81)))))))
set_option maxHeartbeats 100000 in
theorem kE78_57 : ex_CE 15 [] cd_78 k78_57 q78_57 := e_istore_istore 57 0 5 (e_iload_iload 59 0 4 (e_if_eq 61 73 12 (e_aload_aload_n 64 0 1 1 rfl (e_gf 65 86209 75 3 1 rfl rfl (e_iload_iload_n 68 0 3 3 rfl (e_iaload 69 0 (e_goto 70 81 11)))))))
set_option maxHeartbeats 100000 in
def k78_51 : ex_C := c_aload 1 (c_gf 3 0 (c_iload 3 (c_iaload (k78_57))))
set_option maxHeartbeats 100000 in
theorem kE78_51 : ex_CE 15 [] cd_78 k78_51 q78_51 := e_aload_aload_n 51 0 1 1 rfl (e_gf 52 86208 67 3 0 rfl rfl (e_iload_iload_n 55 0 3 3 rfl (e_iaload 56 0 (kE78_57))))
set_option maxHeartbeats 100000 in
def k78_33 : ex_C := c_istore 4 (c_iload 4 (c_if_eq 51 (c_aload 1 (c_gf 3 0 (c_iload 3 (c_iaload (c_psh 2 (c_iadd (c_goto 57)))))))))
set_option maxHeartbeats 100000 in
theorem kE78_33 : ex_CE 15 [] cd_78 k78_33 q78_33 := e_istore_istore 33 0 4 (e_iload_iload 35 0 4 (e_if_eq 37 51 14 (e_aload_aload_n 40 0 1 1 rfl (e_gf 41 86208 67 3 0 rfl rfl (e_iload_iload_n 44 0 3 3 rfl (e_iaload 45 0 (e_psh_iconst 46 2 2 (e_iadd 47 0 (e_goto 48 57 9)))))))))
set_option maxHeartbeats 100000 in
def k78_32 : ex_C := c_psh 0 (k78_33)
set_option maxHeartbeats 100000 in
theorem kE78_32 : ex_CE 15 [] cd_78 k78_32 q78_32 := e_psh_iconst 32 0 0 (kE78_33)
set_option maxHeartbeats 100000 in
def k78_2 : ex_C := c_iload 2 (c_aload 1 (c_gf 3 14 (c_icmp_ge 206 (c_aload 0 (c_gf 4 2 (c_iload 2 (c_iaload (c_istore 3 (c_aload 1 (c_gf 3 2 (c_iload 3 (c_iaload (c_psh 2 (c_irem   (c_if_eq 32 (c_psh 1 (c_goto 33)))))))))))))))))
set_option maxHeartbeats 100000 in
theorem kE78_2 : ex_CE 15 [] cd_78 k78_2 q78_2 := e_iload_iload_n 2 0 2 2 rfl (e_aload_aload_n 3 0 1 1 rfl (e_gf 4 206 51 3 14 rfl rfl (e_icmp_ge 7 206 199 (e_aload_aload_n 10 0 0 0 rfl (e_gf 11 86274 18 4 2 rfl rfl (e_iload_iload_n 14 0 2 2 rfl (e_iaload 15 0 (e_istore_istore_n 16 0 3 3 rfl (e_aload_aload_n 17 0 1 1 rfl (e_gf 18 86210 105 3 2 rfl rfl (e_iload_iload_n 21 0 3 3 rfl (e_iaload 22 0 (e_psh_iconst 23 2 2 (e_irem 24 0  (e_if_eq 25 32 7 (e_psh_iconst 28 1 1 (e_goto 29 33 4)))))))))))))))))
set_option maxHeartbeats 100000 in
def k78_0 : ex_C := c_psh 0 (c_istore 2 (k78_2))
set_option maxHeartbeats 100000 in
theorem kE78_0 : ex_CE 15 [] cd_78 k78_0 q78_0 := e_psh_iconst 0 0 0 (e_istore_istore_n 1 0 2 2 rfl (kE78_2))
def kt_78 : Nat → Option ex_C := fun pc => @Bool.rec (fun _ => Nat → Option ex_C) (fun pc => @Bool.rec (fun _ => Nat → Option ex_C) (fun pc => @Bool.rec (fun _ => Nat → Option ex_C) (fun pc => @Bool.rec (fun _ => Nat → Option ex_C) (fun pc => @Bool.rec (fun _ => Option ex_C) none (some k78_206) (Nat.beq pc 206)) (fun pc => @Bool.rec (fun _ => Option ex_C) none (some k78_200) (Nat.beq pc 200)) (Nat.ble pc 200) pc) (fun pc => @Bool.rec (fun _ => Option ex_C) none (some k78_194) (Nat.beq pc 194)) (Nat.ble pc 194) pc) (fun pc => @Bool.rec (fun _ => Nat → Option ex_C) (fun pc => @Bool.rec (fun _ => Nat → Option ex_C) (fun pc => @Bool.rec (fun _ => Option ex_C) none (some k78_86) (Nat.beq pc 86)) (fun pc => @Bool.rec (fun _ => Option ex_C) none (some k78_81) (Nat.beq pc 81)) (Nat.ble pc 81) pc) (fun pc => @Bool.rec (fun _ => Option ex_C) none (some k78_73) (Nat.beq pc 73)) (Nat.ble pc 73) pc) (Nat.ble pc 86) pc) (fun pc => @Bool.rec (fun _ => Nat → Option ex_C) (fun pc => @Bool.rec (fun _ => Nat → Option ex_C) (fun pc => @Bool.rec (fun _ => Nat → Option ex_C) (fun pc => @Bool.rec (fun _ => Option ex_C) none (some k78_57) (Nat.beq pc 57)) (fun pc => @Bool.rec (fun _ => Option ex_C) none (some k78_51) (Nat.beq pc 51)) (Nat.ble pc 51) pc) (fun pc => @Bool.rec (fun _ => Option ex_C) none (some k78_33) (Nat.beq pc 33)) (Nat.ble pc 33) pc) (fun pc => @Bool.rec (fun _ => Nat → Option ex_C) (fun pc => @Bool.rec (fun _ => Nat → Option ex_C) (fun pc => @Bool.rec (fun _ => Option ex_C) none (some k78_32) (Nat.beq pc 32)) (fun pc => @Bool.rec (fun _ => Option ex_C) none (some k78_2) (Nat.beq pc 2)) (Nat.ble pc 2) pc) (fun pc => @Bool.rec (fun _ => Option ex_C) none (some k78_0) (Nat.beq pc 0)) (Nat.ble pc 0) pc) (Nat.ble pc 32) pc) (Nat.ble pc 57) pc
theorem ktE_78 : ex_CTT 15 [] cd_78 kt_78 cd_78 := (ex_ct2 (ex_ct2 (ex_ct2 (ex_ct1 kE78_0) (ex_ct2 (ex_ct1 kE78_2) (ex_ct1 kE78_32))) (ex_ct2 (ex_ct1 kE78_33) (ex_ct2 (ex_ct1 kE78_51) (ex_ct1 kE78_57)))) (ex_ct2 (ex_ct2 (ex_ct1 kE78_73) (ex_ct2 (ex_ct1 kE78_81) (ex_ct1 kE78_86))) (ex_ct2 (ex_ct1 kE78_194) (ex_ct2 (ex_ct1 kE78_200) (ex_ct1 kE78_206)))))
set_option maxHeartbeats 100000 in
def k79_119 : ex_C := c_return_  15
set_option maxHeartbeats 100000 in
theorem kE79_119 : ex_CE 15 [] cd_79 k79_119 q79_119 := e_return_ 119 0 
set_option maxHeartbeats 100000 in
def k79_113 : ex_C := c_iinc 2 1 (c_goto 2)
set_option maxHeartbeats 100000 in
theorem kE79_113 : ex_CE 15 [] cd_79 k79_113 q79_113 := e_iinc 113 1 2 1 (e_goto 116 2 (-114))
set_option maxHeartbeats 100000 in
def k79_105 : ex_C := c_aload 0 (c_aload 1 (c_iload 6 (c_iload 3 (c_invV [] cd_79 110 4 82 4 (k79_113)))))
set_option maxHeartbeats 100000 in
theorem kE79_105 : ex_CE 15 [] cd_79 k79_105 q79_105 := e_aload_aload_n 105 0 0 0 rfl (e_aload_aload_n 106 0 1 1 rfl (e_iload_iload 107 0 6 (e_iload_iload_n 109 0 3 3 rfl (e_invV_invokevirtual 110 802948 137 4 82 4 rfl rfl rfl rfl rfl rfl (kE79_113)))))
set_option maxHeartbeats 100000 in
def k79_97 : ex_C := c_aload 0 (c_aload 1 (c_iload 5 (c_iload 3 (c_invV [] cd_79 102 4 82 4 (k79_105)))))
set_option maxHeartbeats 100000 in
theorem kE79_97 : ex_CE 15 [] cd_79 k79_97 q79_97 := e_aload_aload_n 97 0 0 0 rfl (e_aload_aload_n 98 0 1 1 rfl (e_iload_iload 99 0 5 (e_iload_iload_n 101 0 3 3 rfl (e_invV_invokevirtual 102 802948 137 4 82 4 rfl rfl rfl rfl rfl rfl (kE79_105)))))
set_option maxHeartbeats 100000 in
def k79_89 : ex_C := c_aload 0 (c_aload 1 (c_iload 4 (c_iload 3 (c_invV [] cd_79 94 4 82 4 (k79_97)))))
set_option maxHeartbeats 100000 in
theorem kE79_89 : ex_CE 15 [] cd_79 k79_89 q79_89 := e_aload_aload_n 89 0 0 0 rfl (e_aload_aload_n 90 0 1 1 rfl (e_iload_iload 91 0 4 (e_iload_iload_n 93 0 3 3 rfl (e_invV_invokevirtual 94 802948 137 4 82 4 rfl rfl rfl rfl rfl rfl (kE79_97)))))
set_option maxHeartbeats 100000 in
def k79_64 : ex_C := c_if_eq 113 (c_iload 4 (c_if_lt 113 (c_iload 5 (c_if_lt 113 (c_iload 6 (c_if_lt 113 (c_aload 0 (c_aload 1 (c_iload 3 (c_iload 3 (c_invV [] cd_79 86 4 82 4 (k79_89))))))))))))
set_option maxHeartbeats 100000 in
theorem kE79_64 : ex_CE 15 [] cd_79 k79_64 q79_64 := e_if_eq 64 113 49 (e_iload_iload 67 0 4 (e_if_lt 69 113 44 (e_iload_iload 72 0 5 (e_if_lt 74 113 39 (e_iload_iload 77 0 6 (e_if_lt 79 113 34 (e_aload_aload_n 82 0 0 0 rfl (e_aload_aload_n 83 0 1 1 rfl (e_iload_iload_n 84 0 3 3 rfl (e_iload_iload_n 85 0 3 3 rfl (e_invV_invokevirtual 86 802948 137 4 82 4 rfl rfl rfl rfl rfl rfl (kE79_89))))))))))))
set_option maxHeartbeats 100000 in
def k79_57 : ex_C := c_istore 6 (c_aload 0 (c_iload 3 (c_invV [] cd_79 61 2 80 4 (k79_64))))
set_option maxHeartbeats 100000 in
theorem kE79_57 : ex_CE 15 [] cd_79 k79_57 q79_57 := e_istore_istore 57 0 6 (e_aload_aload_n 59 0 0 0 rfl (e_iload_iload_n 60 0 3 3 rfl (e_invV_invokevirtual 61 786562 133 2 80 4 rfl rfl rfl rfl rfl rfl (kE79_64))))
set_option maxHeartbeats 100000 in
def k79_41 : ex_C := c_istore 5 (c_aload 0 (c_aload 1 (c_iload 3 (c_aload 0 (c_gf 4 9 (c_aload 0 (c_gf 4 9 (c_invV [] cd_79 54 5 81 4 (k79_57)))))))))
set_option maxHeartbeats 100000 in
theorem kE79_41 : ex_CE 15 [] cd_79 k79_41 q79_41 := e_istore_istore 41 0 5 (e_aload_aload_n 43 0 0 0 rfl (e_aload_aload_n 44 0 1 1 rfl (e_iload_iload_n 45 0 3 3 rfl (e_aload_aload_n 46 0 0 0 rfl (e_gf 47 265 40 4 9 rfl rfl (e_aload_aload_n 50 0 0 0 rfl (e_gf 51 265 40 4 9 rfl rfl (e_invV_invokevirtual 54 794757 129 5 81 4 rfl rfl rfl rfl rfl rfl (kE79_57)))))))))
set_option maxHeartbeats 100000 in
def k79_28 : ex_C := c_istore 4 (c_aload 0 (c_aload 1 (c_iload 3 (c_aload 0 (c_gf 4 9 (c_psh 0 (c_invV [] cd_79 38 5 81 4 (k79_41))))))))
set_option maxHeartbeats 100000 in
theorem kE79_28 : ex_CE 15 [] cd_79 k79_28 q79_28 := e_istore_istore 28 0 4 (e_aload_aload_n 30 0 0 0 rfl (e_aload_aload_n 31 0 1 1 rfl (e_iload_iload_n 32 0 3 3 rfl (e_aload_aload_n 33 0 0 0 rfl (e_gf 34 265 40 4 9 rfl rfl (e_psh_iconst 37 0 0 (e_invV_invokevirtual 38 794757 129 5 81 4 rfl rfl rfl rfl rfl rfl (kE79_41))))))))
set_option maxHeartbeats 100000 in
def k79_2 : ex_C := c_iload 2 (c_aload 1 (c_gf 3 14 (c_icmp_ge 119 (c_aload 0 (c_gf 4 2 (c_iload 2 (c_iaload (c_istore 3 (c_aload 0 (c_aload 1 (c_iload 3 (c_psh 0 (c_aload 0 (c_gf 4 9 (c_invV [] cd_79 25 5 81 4 (k79_28))))))))))))))))
set_option maxHeartbeats 100000 in
theorem kE79_2 : ex_CE 15 [] cd_79 k79_2 q79_2 := e_iload_iload_n 2 0 2 2 rfl (e_aload_aload_n 3 0 1 1 rfl (e_gf 4 206 51 3 14 rfl rfl (e_icmp_ge 7 119 112 (e_aload_aload_n 10 0 0 0 rfl (e_gf 11 86274 18 4 2 rfl rfl (e_iload_iload_n 14 0 2 2 rfl (e_iaload 15 0 (e_istore_istore_n 16 0 3 3 rfl (e_aload_aload_n 17 0 0 0 rfl (e_aload_aload_n 18 0 1 1 rfl (e_iload_iload_n 19 0 3 3 rfl (e_psh_iconst 20 0 0 (e_aload_aload_n 21 0 0 0 rfl (e_gf 22 265 40 4 9 rfl rfl (e_invV_invokevirtual 25 794757 129 5 81 4 rfl rfl rfl rfl rfl rfl (kE79_28))))))))))))))))
set_option maxHeartbeats 100000 in
def k79_0 : ex_C := c_psh 0 (c_istore 2 (k79_2))
set_option maxHeartbeats 100000 in
theorem kE79_0 : ex_CE 15 [] cd_79 k79_0 q79_0 := e_psh_iconst 0 0 0 (e_istore_istore_n 1 0 2 2 rfl (kE79_2))
def kt_79 : Nat → Option ex_C := fun pc => @Bool.rec (fun _ => Nat → Option ex_C) (fun pc => @Bool.rec (fun _ => Nat → Option ex_C) (fun pc => @Bool.rec (fun _ => Nat → Option ex_C) (fun pc => @Bool.rec (fun _ => Nat → Option ex_C) (fun pc => @Bool.rec (fun _ => Option ex_C) none (some k79_119) (Nat.beq pc 119)) (fun pc => @Bool.rec (fun _ => Option ex_C) none (some k79_113) (Nat.beq pc 113)) (Nat.ble pc 113) pc) (fun pc => @Bool.rec (fun _ => Option ex_C) none (some k79_105) (Nat.beq pc 105)) (Nat.ble pc 105) pc) (fun pc => @Bool.rec (fun _ => Nat → Option ex_C) (fun pc => @Bool.rec (fun _ => Nat → Option ex_C) (fun pc => @Bool.rec (fun _ => Option ex_C) none (some k79_97) (Nat.beq pc 97)) (fun pc => @Bool.rec (fun _ => Option ex_C) none (some k79_89) (Nat.beq pc 89)) (Nat.ble pc 89) pc) (fun pc => @Bool.rec (fun _ => Option ex_C) none (some k79_64) (Nat.beq pc 64)) (Nat.ble pc 64) pc) (Nat.ble pc 97) pc) (fun pc => @Bool.rec (fun _ => Nat → Option ex_C) (fun pc => @Bool.rec (fun _ => Nat → Option ex_C) (fun pc => @Bool.rec (fun _ => Nat → Option ex_C) (fun pc => @Bool.rec (fun _ => Option ex_C) none (some k79_57) (Nat.beq pc 57)) (fun pc => @Bool.rec (fun _ => Option ex_C) none (some k79_41) (Nat.beq pc 41)) (Nat.ble pc 41) pc) (fun pc => @Bool.rec (fun _ => Option ex_C) none (some k79_28) (Nat.beq pc 28)) (Nat.ble pc 28) pc) (fun pc => @Bool.rec (fun _ => Nat → Option ex_C) (fun pc => @Bool.rec (fun _ => Option ex_C) none (some k79_2) (Nat.beq pc 2)) (fun pc => @Bool.rec (fun _ => Option ex_C) none (some k79_0) (Nat.beq pc 0)) (Nat.ble pc 0) pc) (Nat.ble pc 2) pc) (Nat.ble pc 57) pc
theorem ktE_79 : ex_CTT 15 [] cd_79 kt_79 cd_79 := (ex_ct2 (ex_ct2 (ex_ct2 (ex_ct1 kE79_0) (ex_ct1 kE79_2)) (ex_ct2 (ex_ct1 kE79_28) (ex_ct2 (ex_ct1 kE79_41) (ex_ct1 kE79_57)))) (ex_ct2 (ex_ct2 (ex_ct1 kE79_64) (ex_ct2 (ex_ct1 kE79_89) (ex_ct1 kE79_97))) (ex_ct2 (ex_ct1 kE79_105) (ex_ct2 (ex_ct1 kE79_113) (ex_ct1 kE79_119)))))
set_option maxHeartbeats 100000 in
def k80_32 : ex_C := c_ireturn  1
set_option maxHeartbeats 100000 in
theorem kE80_32 : ex_CE 1 [] cd_80 k80_32 q80_32 := e_ireturn 32 0 
set_option maxHeartbeats 100000 in
def k80_31 : ex_C := c_psh 0 (k80_32)
set_option maxHeartbeats 100000 in
theorem kE80_31 : ex_CE 1 [] cd_80 k80_31 q80_31 := e_psh_iconst 31 0 0 (kE80_32)
set_option maxHeartbeats 100000 in
def k80_0 : ex_C := c_aload 0 (c_gf 4 1 (c_iload 1 (c_baload (c_if_eq 31 (c_aload 0 (c_gf 4 6 (c_iload 1 (c_baload (c_if_ne 31 (c_aload 0 (c_gf 4 3 (c_iload 1 (c_iaload (c_if_lt 31 (c_psh 1 (c_goto 32))))))))))))))))
set_option maxHeartbeats 100000 in
theorem kE80_0 : ex_CE 1 [] cd_80 k80_0 q80_0 := e_aload_aload_n 0 0 0 0 rfl (e_gf 1 86273 15 4 1 rfl rfl (e_iload_iload_n 4 0 1 1 rfl (e_baload 5 0 (e_if_eq 6 31 25 (e_aload_aload_n 9 0 0 0 rfl (e_gf 10 86278 31 4 6 rfl rfl (e_iload_iload_n 13 0 1 1 rfl (e_baload 14 0 (e_if_ne 15 31 16 (e_aload_aload_n 18 0 0 0 rfl (e_gf 19 86275 22 4 3 rfl rfl (e_iload_iload_n 22 0 1 1 rfl (e_iaload 23 0 (e_if_lt 24 31 7 (e_psh_iconst 27 1 1 (e_goto 28 32 4))))))))))))))))
def kt_80 : Nat → Option ex_C := fun pc => @Bool.rec (fun _ => Nat → Option ex_C) (fun pc => @Bool.rec (fun _ => Nat → Option ex_C) (fun pc => @Bool.rec (fun _ => Option ex_C) none (some k80_32) (Nat.beq pc 32)) (fun pc => @Bool.rec (fun _ => Option ex_C) none (some k80_31) (Nat.beq pc 31)) (Nat.ble pc 31) pc) (fun pc => @Bool.rec (fun _ => Option ex_C) none (some k80_0) (Nat.beq pc 0)) (Nat.ble pc 0) pc
theorem ktE_80 : ex_CTT 1 [] cd_80 kt_80 cd_80 := (ex_ct2 (ex_ct1 kE80_0) (ex_ct2 (ex_ct1 kE80_31) (ex_ct1 kE80_32)))
set_option maxHeartbeats 100000 in
def k81_92 : ex_C := c_psh 4294967295 (c_ireturn  0)
set_option maxHeartbeats 100000 in
theorem kE81_92 : ex_CE 0 [] cd_81 k81_92 q81_92 := e_psh_iconst 92 4294967295 (-1) (e_ireturn 93 0 )
set_option maxHeartbeats 100000 in
def k81_86 : ex_C := c_iinc 5 1 (c_goto 3)
set_option maxHeartbeats 100000 in
theorem kE81_86 : ex_CE 0 [] cd_81 k81_86 q81_86 := e_iinc 86 1 5 1 (e_goto 89 3 (-86))
set_option maxHeartbeats 100000 in
def k81_27 : ex_C := c_if_eq 86 (c_aload 0 (c_gf 4 3 (c_iload 6 (c_iaload (c_aload 0 (c_gf 4 3 (c_iload 2 (c_iaload (c_icmp_ne 86 (c_aload 1 (c_gf 3 0 (c_iload 6 (c_iaload (c_aload 1 (c_gf 3 0 (c_iload 2 (c_iaload (c_iload 3 (c_iadd (c_icmp_ne 86 (c_aload 1 (c_gf 3 1 (c_iload 6 (c_iaload (c_aload 1 (c_gf 3 1 (c_iload 2 (c_iaload (c_iload 4 (c_iadd (c_icmp_ne 86 (c_iload 6 (c_ireturn  0)))))))))))))))))))))))))))))))))
set_option maxHeartbeats 100000 in
theorem kE81_27 : ex_CE 0 [] cd_81 k81_27 q81_27 := e_if_eq 27 86 59 (e_aload_aload_n 30 0 0 0 rfl (e_gf 31 86275 22 4 3 rfl rfl (e_iload_iload 34 0 6 (e_iaload 36 0 (e_aload_aload_n 37 0 0 0 rfl (e_gf 38 86275 22 4 3 rfl rfl (e_iload_iload_n 41 0 2 2 rfl (e_iaload 42 0 (e_icmp_ne 43 86 43 (e_aload_aload_n 46 0 1 1 rfl (e_gf 47 86208 67 3 0 rfl rfl (e_iload_iload 50 0 6 (e_iaload 52 0 (e_aload_aload_n 53 0 1 1 rfl (e_gf 54 86208 67 3 0 rfl rfl (e_iload_iload_n 57 0 2 2 rfl (e_iaload 58 0 (e_iload_iload_n 59 0 3 3 rfl (e_iadd 60 0 (e_icmp_ne 61 86 25 (e_aload_aload_n 64 0 1 1 rfl (e_gf 65 86209 75 3 1 rfl rfl (e_iload_iload 68 0 6 (e_iaload 70 0 (e_aload_aload_n 71 0 1 1 rfl (e_gf 72 86209 75 3 1 rfl rfl (e_iload_iload_n 75 0 2 2 rfl (e_iaload 76 0 (e_iload_iload 77 0 4 (e_iadd 79 0 (e_icmp_ne 80 86 6 (e_iload_iload 83 0 6 (e_ireturn 85 0 )))))))))))))))))))))))))))))))))
set_option maxHeartbeats 100000 in
def k81_3 : ex_C := c_iload 5 (c_aload 1 (c_gf 3 14 (c_icmp_ge 92 (c_aload 0 (c_gf 4 2 (c_iload 5 (c_iaload (c_istore 6 (c_aload 0 (c_iload 6 (c_invV [] cd_81 24 2 80 4 (k81_27))))))))))))
set_option maxHeartbeats 100000 in
theorem kE81_3 : ex_CE 0 [] cd_81 k81_3 q81_3 := e_iload_iload 3 0 5 (e_aload_aload_n 5 0 1 1 rfl (e_gf 6 206 51 3 14 rfl rfl (e_icmp_ge 9 92 83 (e_aload_aload_n 12 0 0 0 rfl (e_gf 13 86274 18 4 2 rfl rfl (e_iload_iload 16 0 5 (e_iaload 18 0 (e_istore_istore 19 0 6 (e_aload_aload_n 21 0 0 0 rfl (e_iload_iload 22 0 6 (e_invV_invokevirtual 24 786562 133 2 80 4 rfl rfl rfl rfl rfl rfl (kE81_27))))))))))))
set_option maxHeartbeats 100000 in
def k81_0 : ex_C := c_psh 0 (c_istore 5 (k81_3))
set_option maxHeartbeats 100000 in
theorem kE81_0 : ex_CE 0 [] cd_81 k81_0 q81_0 := e_psh_iconst 0 0 0 (e_istore_istore 1 0 5 (kE81_3))
def kt_81 : Nat → Option ex_C := fun pc => @Bool.rec (fun _ => Nat → Option ex_C) (fun pc => @Bool.rec (fun _ => Nat → Option ex_C) (fun pc => @Bool.rec (fun _ => Nat → Option ex_C) (fun pc => @Bool.rec (fun _ => Option ex_C) none (some k81_92) (Nat.beq pc 92)) (fun pc => @Bool.rec (fun _ => Option ex_C) none (some k81_86) (Nat.beq pc 86)) (Nat.ble pc 86) pc) (fun pc => @Bool.rec (fun _ => Option ex_C) none (some k81_27) (Nat.beq pc 27)) (Nat.ble pc 27) pc) (fun pc => @Bool.rec (fun _ => Nat → Option ex_C) (fun pc => @Bool.rec (fun _ => Option ex_C) none (some k81_3) (Nat.beq pc 3)) (fun pc => @Bool.rec (fun _ => Option ex_C) none (some k81_0) (Nat.beq pc 0)) (Nat.ble pc 0) pc) (Nat.ble pc 3) pc
theorem ktE_81 : ex_CTT 0 [] cd_81 kt_81 cd_81 := (ex_ct2 (ex_ct2 (ex_ct1 kE81_0) (ex_ct1 kE81_3)) (ex_ct2 (ex_ct1 kE81_27) (ex_ct2 (ex_ct1 kE81_86) (ex_ct1 kE81_92))))
set_option maxHeartbeats 100000 in
def k82_0 : ex_C := c_aload 0 (c_gf 4 6 (c_iload 2 (c_psh 1 (c_bastore (c_aload 0 (c_gf 4 7 (c_iload 2 (c_aload 1 (c_gf 3 0 (c_iload 3 (c_iaload (c_iastore (c_aload 0 (c_gf 4 8 (c_iload 2 (c_aload 1 (c_gf 3 1 (c_iload 3 (c_iaload (c_iastore (c_return_  15)))))))))))))))))))))
set_option maxHeartbeats 100000 in
theorem kE82_0 : ex_CE 15 [] cd_82 k82_0 q82_0 := e_aload_aload_n 0 0 0 0 rfl (e_gf 1 86278 31 4 6 rfl rfl (e_iload_iload_n 4 0 2 2 rfl (e_psh_iconst 5 1 1 (e_bastore 6 0 (e_aload_aload_n 7 0 0 0 rfl (e_gf 8 86279 34 4 7 rfl rfl (e_iload_iload_n 11 0 2 2 rfl (e_aload_aload_n 12 0 1 1 rfl (e_gf 13 86208 67 3 0 rfl rfl (e_iload_iload_n 16 0 3 3 rfl (e_iaload 17 0 (e_iastore 18 0 (e_aload_aload_n 19 0 0 0 rfl (e_gf 20 86280 37 4 8 rfl rfl (e_iload_iload_n 23 0 2 2 rfl (e_aload_aload_n 24 0 1 1 rfl (e_gf 25 86209 75 3 1 rfl rfl (e_iload_iload_n 28 0 3 3 rfl (e_iaload 29 0 (e_iastore 30 0 (e_return_ 31 0 )))))))))))))))))))))
def kt_82 : Nat → Option ex_C := fun pc => @Bool.rec (fun _ => Option ex_C) none (some k82_0) (Nat.beq pc 0)
theorem ktE_82 : ex_CTT 15 [] cd_82 kt_82 cd_82 := (ex_ct1 kE82_0)
set_option maxHeartbeats 100000 in
def k83_63 : ex_C := c_iload 3 (c_ireturn  0)
set_option maxHeartbeats 100000 in
theorem kE83_63 : ex_CE 0 [] cd_83 k83_63 q83_63 := e_iload_iload_n 63 0 3 3 rfl (e_ireturn 64 0 )
set_option maxHeartbeats 100000 in
def k83_57 : ex_C := c_iinc 4 1 (c_goto 5)
set_option maxHeartbeats 100000 in
theorem kE83_57 : ex_CE 0 [] cd_83 k83_57 q83_57 := e_iinc 57 1 4 1 (e_goto 60 5 (-55))
set_option maxHeartbeats 100000 in
def k83_49 : ex_C := c_aload 1 (c_gf 3 3 (c_iload 4 (c_iaload (c_istore 3 (k83_57)))))
set_option maxHeartbeats 100000 in
theorem kE83_49 : ex_CE 0 [] cd_83 k83_49 q83_49 := e_aload_aload_n 49 0 1 1 rfl (e_gf 50 86211 102 3 3 rfl rfl (e_iload_iload 53 0 4 (e_iaload 55 0 (e_istore_istore_n 56 0 3 3 rfl (kE83_57)))))
set_option maxHeartbeats 100000 in
def k83_31 : ex_C := c_if_ne 57 (c_iload 3 (c_if_lt 49 (c_aload 1 (c_gf 3 3 (c_iload 4 (c_iaload (c_iload 3 (c_icmp_ge 57 (k83_49)))))))))
set_option maxHeartbeats 100000 in
theorem kE83_31 : ex_CE 0 [] cd_83 k83_31 q83_31 := e_if_ne 31 57 26 (e_iload_iload_n 34 0 3 3 rfl (e_if_lt 35 49 14 (e_aload_aload_n 38 0 1 1 rfl (e_gf 39 86211 102 3 3 rfl rfl (e_iload_iload 42 0 4 (e_iaload 44 0 (e_iload_iload_n 45 0 3 3 rfl (e_icmp_ge 46 57 11 (kE83_49)))))))))
set_option maxHeartbeats 100000 in
def k83_5 : ex_C := c_iload 4 (c_aload 1 (c_gf 3 14 (c_icmp_ge 63 (c_aload 0 (c_gf 4 1 (c_iload 4 (c_baload (c_if_eq 57 (c_aload 0 (c_iload 4 (c_iload 2 (c_invV [] cd_83 28 3 84 4 (k83_31)))))))))))))
set_option maxHeartbeats 100000 in
theorem kE83_5 : ex_CE 0 [] cd_83 k83_5 q83_5 := e_iload_iload 5 0 4 (e_aload_aload_n 7 0 1 1 rfl (e_gf 8 206 51 3 14 rfl rfl (e_icmp_ge 11 63 52 (e_aload_aload_n 14 0 0 0 rfl (e_gf 15 86273 15 4 1 rfl rfl (e_iload_iload 18 0 4 (e_baload 20 0 (e_if_eq 21 57 36 (e_aload_aload_n 24 0 0 0 rfl (e_iload_iload 25 0 4 (e_iload_iload_n 27 0 2 2 rfl (e_invV_invokevirtual 28 819331 141 3 84 4 rfl rfl rfl rfl rfl rfl (kE83_31)))))))))))))
set_option maxHeartbeats 100000 in
def k83_0 : ex_C := c_psh 4294967295 (c_istore 3 (c_psh 0 (c_istore 4 (k83_5))))
set_option maxHeartbeats 100000 in
theorem kE83_0 : ex_CE 0 [] cd_83 k83_0 q83_0 := e_psh_iconst 0 4294967295 (-1) (e_istore_istore_n 1 0 3 3 rfl (e_psh_iconst 2 0 0 (e_istore_istore 3 0 4 (kE83_5))))
def kt_83 : Nat → Option ex_C := fun pc => @Bool.rec (fun _ => Nat → Option ex_C) (fun pc => @Bool.rec (fun _ => Nat → Option ex_C) (fun pc => @Bool.rec (fun _ => Nat → Option ex_C) (fun pc => @Bool.rec (fun _ => Option ex_C) none (some k83_63) (Nat.beq pc 63)) (fun pc => @Bool.rec (fun _ => Option ex_C) none (some k83_57) (Nat.beq pc 57)) (Nat.ble pc 57) pc) (fun pc => @Bool.rec (fun _ => Option ex_C) none (some k83_49) (Nat.beq pc 49)) (Nat.ble pc 49) pc) (fun pc => @Bool.rec (fun _ => Nat → Option ex_C) (fun pc => @Bool.rec (fun _ => Nat → Option ex_C) (fun pc => @Bool.rec (fun _ => Option ex_C) none (some k83_31) (Nat.beq pc 31)) (fun pc => @Bool.rec (fun _ => Option ex_C) none (some k83_5) (Nat.beq pc 5)) (Nat.ble pc 5) pc) (fun pc => @Bool.rec (fun _ => Option ex_C) none (some k83_0) (Nat.beq pc 0)) (Nat.ble pc 0) pc) (Nat.ble pc 31) pc
theorem ktE_83 : ex_CTT 0 [] cd_83 kt_83 cd_83 := (ex_ct2 (ex_ct2 (ex_ct1 kE83_0) (ex_ct2 (ex_ct1 kE83_5) (ex_ct1 kE83_31))) (ex_ct2 (ex_ct1 kE83_49) (ex_ct2 (ex_ct1 kE83_57) (ex_ct1 kE83_63))))
set_option maxHeartbeats 100000 in
def k84_105 : ex_C := c_ireturn  1
set_option maxHeartbeats 100000 in
theorem kE84_105 : ex_CE 1 [] cd_84 k84_105 q84_105 := e_ireturn 105 0 
set_option maxHeartbeats 100000 in
def k84_104 : ex_C := c_psh 0 (k84_105)
set_option maxHeartbeats 100000 in
theorem kE84_104 : ex_CE 1 [] cd_84 k84_104 q84_104 := e_psh_iconst 104 0 0 (kE84_105)
set_option maxHeartbeats 100000 in
def k84_100 : ex_C := c_psh 1 (c_goto 105)
set_option maxHeartbeats 100000 in
theorem kE84_100 : ex_CE 1 [] cd_84 k84_100 q84_100 := e_psh_iconst 100 1 1 (e_goto 101 105 4)
set_option maxHeartbeats 100000 in
def k84_85 : ex_C := c_iload 2 (c_psh 12 (c_icmp_ne 100 (c_aload 0 (c_gf 4 1 (c_iload 3 (c_baload (c_if_ne 104 (k84_100))))))))
set_option maxHeartbeats 100000 in
theorem kE84_85 : ex_CE 1 [] cd_84 k84_85 q84_85 := e_iload_iload_n 85 0 2 2 rfl (e_psh_bipush 86 12 12 (e_icmp_ne 88 100 12 (e_aload_aload_n 91 0 0 0 rfl (e_gf 92 86273 15 4 1 rfl rfl (e_iload_iload_n 95 0 3 3 rfl (e_baload 96 0 (e_if_ne 97 104 7 (kE84_100))))))))
set_option maxHeartbeats 100000 in
def k84_81 : ex_C := c_psh 0 (c_goto 105)
set_option maxHeartbeats 100000 in
theorem kE84_81 : ex_CE 1 [] cd_84 k84_81 q84_81 := e_psh_iconst 81 0 0 (e_goto 82 105 23)
set_option maxHeartbeats 100000 in
def k84_61 : ex_C := c_iload 2 (c_psh 9 (c_icmp_ne 85 (c_aload 0 (c_gf 4 5 (c_iload 1 (c_iaload (c_psh 1 (c_icmp_ne 81 (c_psh 1 (c_goto 105))))))))))
set_option maxHeartbeats 100000 in
theorem kE84_61 : ex_CE 1 [] cd_84 k84_61 q84_61 := e_iload_iload_n 61 0 2 2 rfl (e_psh_bipush 62 9 9 (e_icmp_ne 64 85 21 (e_aload_aload_n 67 0 0 0 rfl (e_gf 68 86277 28 4 5 rfl rfl (e_iload_iload_n 71 0 1 1 rfl (e_iaload 72 0 (e_psh_iconst 73 1 1 (e_icmp_ne 74 81 7 (e_psh_iconst 77 1 1 (e_goto 78 105 27))))))))))
set_option maxHeartbeats 100000 in
def k84_60 : ex_C := c_ireturn  1
set_option maxHeartbeats 100000 in
theorem kE84_60 : ex_CE 1 [] cd_84 k84_60 q84_60 := e_ireturn 60 0 
set_option maxHeartbeats 100000 in
def k84_59 : ex_C := c_psh 0 (k84_60)
set_option maxHeartbeats 100000 in
theorem kE84_59 : ex_CE 1 [] cd_84 k84_59 q84_59 := e_psh_iconst 59 0 0 (kE84_60)
set_option maxHeartbeats 100000 in
def k84_45 : ex_C := c_aload 0 (c_gf 4 5 (c_iload 1 (c_iaload (c_psh 1 (c_icmp_eq 59 (c_psh 1 (c_goto 60)))))))
set_option maxHeartbeats 100000 in
theorem kE84_45 : ex_CE 1 [] cd_84 k84_45 q84_45 := e_aload_aload_n 45 0 0 0 rfl (e_gf 46 86277 28 4 5 rfl rfl (e_iload_iload_n 49 0 1 1 rfl (e_iaload 50 0 (e_psh_iconst 51 1 1 (e_icmp_eq 52 59 7 (e_psh_iconst 55 1 1 (e_goto 56 60 4)))))))
set_option maxHeartbeats 100000 in
def k84_33 : ex_C := c_iload 2 (c_psh 6 (c_icmp_eq 45 (c_iload 2 (c_psh 7 (c_icmp_ne 61 (k84_45))))))
set_option maxHeartbeats 100000 in
theorem kE84_33 : ex_CE 1 [] cd_84 k84_33 q84_33 := e_iload_iload_n 33 0 2 2 rfl (e_psh_bipush 34 6 6 (e_icmp_eq 36 45 9 (e_iload_iload_n 39 0 2 2 rfl (e_psh_bipush 40 7 7 (e_icmp_ne 42 61 19 (kE84_45))))))
set_option maxHeartbeats 100000 in
def k84_20 : ex_C := c_aload 0 (c_gf 4 4 (c_iload 1 (c_iaload (c_istore 3 (c_iload 3 (c_if_ge 33 (c_psh 0 (c_ireturn  1))))))))
set_option maxHeartbeats 100000 in
theorem kE84_20 : ex_CE 1 [] cd_84 k84_20 q84_20 := e_aload_aload_n 20 0 0 0 rfl (e_gf 21 86276 25 4 4 rfl rfl (e_iload_iload_n 24 0 1 1 rfl (e_iaload 25 0 (e_istore_istore_n 26 0 3 3 rfl (e_iload_iload_n 27 0 3 3 rfl (e_if_ge 28 33 5 (e_psh_iconst 31 0 0 (e_ireturn 32 0 ))))))))
set_option maxHeartbeats 100000 in
def k84_7 : ex_C := c_iload 2 (c_psh 11 (c_icmp_ne 20 (c_aload 0 (c_gf 4 6 (c_iload 1 (c_baload (c_ireturn  1)))))))
set_option maxHeartbeats 100000 in
theorem kE84_7 : ex_CE 1 [] cd_84 k84_7 q84_7 := e_iload_iload_n 7 0 2 2 rfl (e_psh_bipush 8 11 11 (e_icmp_ne 10 20 10 (e_aload_aload_n 13 0 0 0 rfl (e_gf 14 86278 31 4 6 rfl rfl (e_iload_iload_n 17 0 1 1 rfl (e_baload 18 0 (e_ireturn 19 0 )))))))
set_option maxHeartbeats 100000 in
def k84_0 : ex_C := c_iload 2 (c_psh 4 (c_icmp_ge 7 (c_psh 1 (c_ireturn  1))))
set_option maxHeartbeats 100000 in
theorem kE84_0 : ex_CE 1 [] cd_84 k84_0 q84_0 := e_iload_iload_n 0 0 2 2 rfl (e_psh_iconst 1 4 4 (e_icmp_ge 2 7 5 (e_psh_iconst 5 1 1 (e_ireturn 6 0 ))))
def kt_84 : Nat → Option ex_C := fun pc => @Bool.rec (fun _ => Nat → Option ex_C) (fun pc => @Bool.rec (fun _ => Nat → Option ex_C) (fun pc => @Bool.rec (fun _ => Nat → Option ex_C) (fun pc => @Bool.rec (fun _ => Nat → Option ex_C) (fun pc => @Bool.rec (fun _ => Option ex_C) none (some k84_105) (Nat.beq pc 105)) (fun pc => @Bool.rec (fun _ => Option ex_C) none (some k84_104) (Nat.beq pc 104)) (Nat.ble pc 104) pc) (fun pc => @Bool.rec (fun _ => Nat → Option ex_C) (fun pc => @Bool.rec (fun _ => Option ex_C) none (some k84_100) (Nat.beq pc 100)) (fun pc => @Bool.rec (fun _ => Option ex_C) none (some k84_85) (Nat.beq pc 85)) (Nat.ble pc 85) pc) (Nat.ble pc 100) pc) (fun pc => @Bool.rec (fun _ => Nat → Option ex_C) (fun pc => @Bool.rec (fun _ => Nat → Option ex_C) (fun pc => @Bool.rec (fun _ => Option ex_C) none (some k84_81) (Nat.beq pc 81)) (fun pc => @Bool.rec (fun _ => Option ex_C) none (some k84_61) (Nat.beq pc 61)) (Nat.ble pc 61) pc) (fun pc => @Bool.rec (fun _ => Option ex_C) none (some k84_60) (Nat.beq pc 60)) (Nat.ble pc 60) pc) (Nat.ble pc 81) pc) (fun pc => @Bool.rec (fun _ => Nat → Option ex_C) (fun pc => @Bool.rec (fun _ => Nat → Option ex_C) (fun pc => @Bool.rec (fun _ => Nat → Option ex_C) (fun pc => @Bool.rec (fun _ => Option ex_C) none (some k84_59) (Nat.beq pc 59)) (fun pc => @Bool.rec (fun _ => Option ex_C) none (some k84_45) (Nat.beq pc 45)) (Nat.ble pc 45) pc) (fun pc => @Bool.rec (fun _ => Option ex_C) none (some k84_33) (Nat.beq pc 33)) (Nat.ble pc 33) pc) (fun pc => @Bool.rec (fun _ => Nat → Option ex_C) (fun pc => @Bool.rec (fun _ => Nat → Option ex_C) (fun pc => @Bool.rec (fun _ => Option ex_C) none (some k84_20) (Nat.beq pc 20)) (fun pc => @Bool.rec (fun _ => Option ex_C) none (some k84_7) (Nat.beq pc 7)) (Nat.ble pc 7) pc) (fun pc => @Bool.rec (fun _ => Option ex_C) none (some k84_0) (Nat.beq pc 0)) (Nat.ble pc 0) pc) (Nat.ble pc 20) pc) (Nat.ble pc 59) pc
theorem ktE_84 : ex_CTT 1 [] cd_84 kt_84 cd_84 := (ex_ct2 (ex_ct2 (ex_ct2 (ex_ct1 kE84_0) (ex_ct2 (ex_ct1 kE84_7) (ex_ct1 kE84_20))) (ex_ct2 (ex_ct1 kE84_33) (ex_ct2 (ex_ct1 kE84_45) (ex_ct1 kE84_59)))) (ex_ct2 (ex_ct2 (ex_ct1 kE84_60) (ex_ct2 (ex_ct1 kE84_61) (ex_ct1 kE84_81))) (ex_ct2 (ex_ct2 (ex_ct1 kE84_85) (ex_ct1 kE84_100)) (ex_ct2 (ex_ct1 kE84_104) (ex_ct1 kE84_105)))))
set_option maxHeartbeats 100000 in
def k85_74 : ex_C := c_return_  15
set_option maxHeartbeats 100000 in
theorem kE85_74 : ex_CE 15 [] cd_85 k85_74 q85_74 := e_return_ 74 0 
set_option maxHeartbeats 100000 in
def k85_68 : ex_C := c_iinc 3 1 (c_goto 20)
set_option maxHeartbeats 100000 in
theorem kE85_68 : ex_CE 15 [] cd_85 k85_68 q85_68 := e_iinc 68 1 3 1 (e_goto 71 20 (-51))
set_option maxHeartbeats 100000 in
def k85_57 : ex_C := c_aload 1 (c_iload 3 (c_aload 0 (c_gf 4 5 (c_iload 3 (c_iaload (c_invV [] cd_85 65 3 18 3 (k85_68)))))))
set_option maxHeartbeats 100000 in
theorem kE85_57 : ex_CE 15 [] cd_85 k85_57 q85_57 := e_aload_aload_n 57 0 1 1 rfl (e_iload_iload_n 58 0 3 3 rfl (e_aload_aload_n 59 0 0 0 rfl (e_gf 60 86277 28 4 5 rfl rfl (e_iload_iload_n 63 0 3 3 rfl (e_iaload 64 0 (e_invV_invokevirtual 65 278627 145 3 18 3 rfl rfl rfl rfl rfl rfl (kE85_68)))))))
set_option maxHeartbeats 100000 in
def k85_20 : ex_C := c_iload 3 (c_aload 1 (c_gf 3 14 (c_icmp_ge 74 (c_aload 0 (c_gf 4 1 (c_iload 3 (c_baload (c_if_eq 68 (c_aload 0 (c_gf 4 5 (c_iload 3 (c_iaload (c_psh 2 (c_icmp_eq 57 (c_aload 0 (c_gf 4 5 (c_iload 3 (c_iaload (c_psh 3 (c_icmp_ne 68 (k85_57)))))))))))))))))))))
set_option maxHeartbeats 100000 in
theorem kE85_20 : ex_CE 15 [] cd_85 k85_20 q85_20 := e_iload_iload_n 20 0 3 3 rfl (e_aload_aload_n 21 0 1 1 rfl (e_gf 22 206 51 3 14 rfl rfl (e_icmp_ge 25 74 49 (e_aload_aload_n 28 0 0 0 rfl (e_gf 29 86273 15 4 1 rfl rfl (e_iload_iload_n 32 0 3 3 rfl (e_baload 33 0 (e_if_eq 34 68 34 (e_aload_aload_n 37 0 0 0 rfl (e_gf 38 86277 28 4 5 rfl rfl (e_iload_iload_n 41 0 3 3 rfl (e_iaload 42 0 (e_psh_iconst 43 2 2 (e_icmp_eq 44 57 13 (e_aload_aload_n 47 0 0 0 rfl (e_gf 48 86277 28 4 5 rfl rfl (e_iload_iload_n 51 0 3 3 rfl (e_iaload 52 0 (e_psh_iconst 53 3 3 (e_icmp_ne 54 68 14 (kE85_57)))))))))))))))))))))
set_option maxHeartbeats 100000 in
def k85_18 : ex_C := c_psh 0 (c_istore 3 (k85_20))
set_option maxHeartbeats 100000 in
theorem kE85_18 : ex_CE 15 [] cd_85 k85_18 q85_18 := e_psh_iconst 18 0 0 (e_istore_istore_n 19 0 3 3 rfl (kE85_20))
set_option maxHeartbeats 100000 in
def k85_0 : ex_C := c_iload 2 (c_psh 6 (c_icmp_eq 18 (c_iload 2 (c_psh 7 (c_icmp_eq 18 (c_iload 2 (c_psh 8 (c_icmp_ne 74 (k85_18)))))))))
set_option maxHeartbeats 100000 in
theorem kE85_0 : ex_CE 15 [] cd_85 k85_0 q85_0 := e_iload_iload_n 0 0 2 2 rfl (e_psh_bipush 1 6 6 (e_icmp_eq 3 18 15 (e_iload_iload_n 6 0 2 2 rfl (e_psh_bipush 7 7 7 (e_icmp_eq 9 18 9 (e_iload_iload_n 12 0 2 2 rfl (e_psh_bipush 13 8 8 (e_icmp_ne 15 74 59 (kE85_18)))))))))
def kt_85 : Nat → Option ex_C := fun pc => @Bool.rec (fun _ => Nat → Option ex_C) (fun pc => @Bool.rec (fun _ => Nat → Option ex_C) (fun pc => @Bool.rec (fun _ => Nat → Option ex_C) (fun pc => @Bool.rec (fun _ => Option ex_C) none (some k85_74) (Nat.beq pc 74)) (fun pc => @Bool.rec (fun _ => Option ex_C) none (some k85_68) (Nat.beq pc 68)) (Nat.ble pc 68) pc) (fun pc => @Bool.rec (fun _ => Option ex_C) none (some k85_57) (Nat.beq pc 57)) (Nat.ble pc 57) pc) (fun pc => @Bool.rec (fun _ => Nat → Option ex_C) (fun pc => @Bool.rec (fun _ => Nat → Option ex_C) (fun pc => @Bool.rec (fun _ => Option ex_C) none (some k85_20) (Nat.beq pc 20)) (fun pc => @Bool.rec (fun _ => Option ex_C) none (some k85_18) (Nat.beq pc 18)) (Nat.ble pc 18) pc) (fun pc => @Bool.rec (fun _ => Option ex_C) none (some k85_0) (Nat.beq pc 0)) (Nat.ble pc 0) pc) (Nat.ble pc 20) pc
theorem ktE_85 : ex_CTT 15 [] cd_85 kt_85 cd_85 := (ex_ct2 (ex_ct2 (ex_ct1 kE85_0) (ex_ct2 (ex_ct1 kE85_18) (ex_ct1 kE85_20))) (ex_ct2 (ex_ct1 kE85_57) (ex_ct2 (ex_ct1 kE85_68) (ex_ct1 kE85_74))))
set_option maxHeartbeats 100000 in
def k86_85 : ex_C := c_return_  15
set_option maxHeartbeats 100000 in
theorem kE86_85 : ex_CE 15 [] cd_86 k86_85 q86_85 := e_return_ 85 0 
set_option maxHeartbeats 100000 in
def k86_79 : ex_C := c_iinc 4 1 (c_goto 3)
set_option maxHeartbeats 100000 in
theorem kE86_79 : ex_CE 15 [] cd_86 k86_79 q86_79 := e_iinc 79 1 4 1 (e_goto 82 3 (-79))
set_option maxHeartbeats 100000 in
def k86_71 : ex_C := c_aload 0 (c_aload 1 (c_iload 4 (c_iload 2 (c_invV [] cd_86 76 4 91 4 (k86_79)))))
set_option maxHeartbeats 100000 in
theorem kE86_71 : ex_CE 15 [] cd_86 k86_71 q86_71 := e_aload_aload_n 71 0 0 0 rfl (e_aload_aload_n 72 0 1 1 rfl (e_iload_iload 73 0 4 (e_iload_iload_n 75 0 2 2 rfl (e_invV_invokevirtual 76 876676 159 4 91 4 rfl rfl rfl rfl rfl rfl (kE86_79)))))
set_option maxHeartbeats 100000 in
def k86_68 : ex_C := c_goto 79
set_option maxHeartbeats 100000 in
theorem kE86_68 : ex_CE 15 [] cd_86 k86_68 q86_68 := e_goto 68 79 11
set_option maxHeartbeats 100000 in
def k86_55 : ex_C := c_iload 2 (c_psh 11 (c_icmp_ne 71 (c_aload 0 (c_aload 1 (c_iload 4 (c_invV [] cd_86 65 3 89 4 (k86_68)))))))
set_option maxHeartbeats 100000 in
theorem kE86_55 : ex_CE 15 [] cd_86 k86_55 q86_55 := e_iload_iload_n 55 0 2 2 rfl (e_psh_bipush 56 11 11 (e_icmp_ne 58 71 13 (e_aload_aload_n 61 0 0 0 rfl (e_aload_aload_n 62 0 1 1 rfl (e_iload_iload 63 0 4 (e_invV_invokevirtual 65 860291 155 3 89 4 rfl rfl rfl rfl rfl rfl (kE86_68)))))))
set_option maxHeartbeats 100000 in
def k86_52 : ex_C := c_goto 79
set_option maxHeartbeats 100000 in
theorem kE86_52 : ex_CE 15 [] cd_86 k86_52 q86_52 := e_goto 52 79 27
set_option maxHeartbeats 100000 in
def k86_38 : ex_C := c_iload 2 (c_psh 6 (c_icmp_ge 55 (c_aload 0 (c_aload 1 (c_iload 4 (c_iload 3 (c_invV [] cd_86 49 4 88 4 (k86_52))))))))
set_option maxHeartbeats 100000 in
theorem kE86_38 : ex_CE 15 [] cd_86 k86_38 q86_38 := e_iload_iload_n 38 0 2 2 rfl (e_psh_bipush 39 6 6 (e_icmp_ge 41 55 14 (e_aload_aload_n 44 0 0 0 rfl (e_aload_aload_n 45 0 1 1 rfl (e_iload_iload 46 0 4 (e_iload_iload_n 48 0 3 3 rfl (e_invV_invokevirtual 49 852100 152 4 88 4 rfl rfl rfl rfl rfl rfl (kE86_52))))))))
set_option maxHeartbeats 100000 in
def k86_35 : ex_C := c_goto 79
set_option maxHeartbeats 100000 in
theorem kE86_35 : ex_CE 15 [] cd_86 k86_35 q86_35 := e_goto 35 79 44
set_option maxHeartbeats 100000 in
def k86_3 : ex_C := c_iload 4 (c_aload 1 (c_gf 3 14 (c_icmp_ge 85 (c_aload 0 (c_gf 4 1 (c_iload 4 (c_baload (c_if_eq 79 (c_iload 2 (c_psh 4 (c_icmp_ge 38 (c_aload 0 (c_aload 1 (c_iload 4 (c_iload 2 (c_invV [] cd_86 32 4 87 4 (k86_35)))))))))))))))))
set_option maxHeartbeats 100000 in
theorem kE86_3 : ex_CE 15 [] cd_86 k86_3 q86_3 := e_iload_iload 3 0 4 (e_aload_aload_n 5 0 1 1 rfl (e_gf 6 206 51 3 14 rfl rfl (e_icmp_ge 9 85 76 (e_aload_aload_n 12 0 0 0 rfl (e_gf 13 86273 15 4 1 rfl rfl (e_iload_iload 16 0 4 (e_baload 18 0 (e_if_eq 19 79 60 (e_iload_iload_n 22 0 2 2 rfl (e_psh_iconst 23 4 4 (e_icmp_ge 24 38 14 (e_aload_aload_n 27 0 0 0 rfl (e_aload_aload_n 28 0 1 1 rfl (e_iload_iload 29 0 4 (e_iload_iload_n 31 0 2 2 rfl (e_invV_invokevirtual 32 843908 149 4 87 4 rfl rfl rfl rfl rfl rfl (kE86_35)))))))))))))))))
set_option maxHeartbeats 100000 in
def k86_0 : ex_C := c_psh 0 (c_istore 4 (k86_3))
set_option maxHeartbeats 100000 in
theorem kE86_0 : ex_CE 15 [] cd_86 k86_0 q86_0 := e_psh_iconst 0 0 0 (e_istore_istore 1 0 4 (kE86_3))
def kt_86 : Nat → Option ex_C := fun pc => @Bool.rec (fun _ => Nat → Option ex_C) (fun pc => @Bool.rec (fun _ => Nat → Option ex_C) (fun pc => @Bool.rec (fun _ => Nat → Option ex_C) (fun pc => @Bool.rec (fun _ => Nat → Option ex_C) (fun pc => @Bool.rec (fun _ => Option ex_C) none (some k86_85) (Nat.beq pc 85)) (fun pc => @Bool.rec (fun _ => Option ex_C) none (some k86_79) (Nat.beq pc 79)) (Nat.ble pc 79) pc) (fun pc => @Bool.rec (fun _ => Option ex_C) none (some k86_71) (Nat.beq pc 71)) (Nat.ble pc 71) pc) (fun pc => @Bool.rec (fun _ => Nat → Option ex_C) (fun pc => @Bool.rec (fun _ => Option ex_C) none (some k86_68) (Nat.beq pc 68)) (fun pc => @Bool.rec (fun _ => Option ex_C) none (some k86_55) (Nat.beq pc 55)) (Nat.ble pc 55) pc) (Nat.ble pc 68) pc) (fun pc => @Bool.rec (fun _ => Nat → Option ex_C) (fun pc => @Bool.rec (fun _ => Nat → Option ex_C) (fun pc => @Bool.rec (fun _ => Nat → Option ex_C) (fun pc => @Bool.rec (fun _ => Option ex_C) none (some k86_52) (Nat.beq pc 52)) (fun pc => @Bool.rec (fun _ => Option ex_C) none (some k86_38) (Nat.beq pc 38)) (Nat.ble pc 38) pc) (fun pc => @Bool.rec (fun _ => Option ex_C) none (some k86_35) (Nat.beq pc 35)) (Nat.ble pc 35) pc) (fun pc => @Bool.rec (fun _ => Nat → Option ex_C) (fun pc => @Bool.rec (fun _ => Option ex_C) none (some k86_3) (Nat.beq pc 3)) (fun pc => @Bool.rec (fun _ => Option ex_C) none (some k86_0) (Nat.beq pc 0)) (Nat.ble pc 0) pc) (Nat.ble pc 3) pc) (Nat.ble pc 52) pc
theorem ktE_86 : ex_CTT 15 [] cd_86 kt_86 cd_86 := (ex_ct2 (ex_ct2 (ex_ct2 (ex_ct1 kE86_0) (ex_ct1 kE86_3)) (ex_ct2 (ex_ct1 kE86_35) (ex_ct2 (ex_ct1 kE86_38) (ex_ct1 kE86_52)))) (ex_ct2 (ex_ct2 (ex_ct1 kE86_55) (ex_ct1 kE86_68)) (ex_ct2 (ex_ct1 kE86_71) (ex_ct2 (ex_ct1 kE86_79) (ex_ct1 kE86_85)))))
set_option maxHeartbeats 100000 in
def k87_34 : ex_C := c_return_  15
set_option maxHeartbeats 100000 in
theorem kE87_34 : ex_CE 15 [] cd_87 k87_34 q87_34 := e_return_ 34 0 
set_option maxHeartbeats 100000 in
def k87_31 : ex_C := c_invV [] cd_87 31 3 15 3 (k87_34)
set_option maxHeartbeats 100000 in
theorem kE87_31 : ex_CE 15 [] cd_87 k87_31 q87_31 := e_invV_invokevirtual 31 254051 166 3 15 3 rfl rfl rfl rfl rfl rfl (kE87_34)
set_option maxHeartbeats 100000 in
def k87_30 : ex_C := c_psh 1 (k87_31)
set_option maxHeartbeats 100000 in
theorem kE87_30 : ex_CE 15 [] cd_87 k87_30 q87_30 := e_psh_iconst 30 1 1 (kE87_31)
set_option maxHeartbeats 100000 in
def k87_19 : ex_C := c_aload 1 (c_iload 2 (c_iload 3 (c_psh 2 (c_icmp_ne 30 (c_psh 4294967295 (c_goto 31))))))
set_option maxHeartbeats 100000 in
theorem kE87_19 : ex_CE 15 [] cd_87 k87_19 q87_19 := e_aload_aload_n 19 0 1 1 rfl (e_iload_iload_n 20 0 2 2 rfl (e_iload_iload_n 21 0 3 3 rfl (e_psh_iconst 22 2 2 (e_icmp_ne 23 30 7 (e_psh_iconst 26 4294967295 (-1) (e_goto 27 31 4))))))
set_option maxHeartbeats 100000 in
def k87_16 : ex_C := c_goto 34
set_option maxHeartbeats 100000 in
theorem kE87_16 : ex_CE 15 [] cd_87 k87_16 q87_16 := e_goto 16 34 18
set_option maxHeartbeats 100000 in
def k87_0 : ex_C := c_iload 3 (c_if_ne 19 (c_aload 1 (c_iload 2 (c_aload 1 (c_gf 3 2 (c_iload 2 (c_iaload (c_psh 1 (c_invV [] cd_87 13 4 14 3 (k87_16))))))))))
set_option maxHeartbeats 100000 in
theorem kE87_0 : ex_CE 15 [] cd_87 k87_0 q87_0 := e_iload_iload_n 0 0 3 3 rfl (e_if_ne 1 19 18 (e_aload_aload_n 4 0 1 1 rfl (e_iload_iload_n 5 0 2 2 rfl (e_aload_aload_n 6 0 1 1 rfl (e_gf 7 86210 105 3 2 rfl rfl (e_iload_iload_n 10 0 2 2 rfl (e_iaload 11 0 (e_psh_iconst 12 1 1 (e_invV_invokevirtual 13 245860 162 4 14 3 rfl rfl rfl rfl rfl rfl (kE87_16))))))))))
def kt_87 : Nat → Option ex_C := fun pc => @Bool.rec (fun _ => Nat → Option ex_C) (fun pc => @Bool.rec (fun _ => Nat → Option ex_C) (fun pc => @Bool.rec (fun _ => Nat → Option ex_C) (fun pc => @Bool.rec (fun _ => Option ex_C) none (some k87_34) (Nat.beq pc 34)) (fun pc => @Bool.rec (fun _ => Option ex_C) none (some k87_31) (Nat.beq pc 31)) (Nat.ble pc 31) pc) (fun pc => @Bool.rec (fun _ => Option ex_C) none (some k87_30) (Nat.beq pc 30)) (Nat.ble pc 30) pc) (fun pc => @Bool.rec (fun _ => Nat → Option ex_C) (fun pc => @Bool.rec (fun _ => Nat → Option ex_C) (fun pc => @Bool.rec (fun _ => Option ex_C) none (some k87_19) (Nat.beq pc 19)) (fun pc => @Bool.rec (fun _ => Option ex_C) none (some k87_16) (Nat.beq pc 16)) (Nat.ble pc 16) pc) (fun pc => @Bool.rec (fun _ => Option ex_C) none (some k87_0) (Nat.beq pc 0)) (Nat.ble pc 0) pc) (Nat.ble pc 19) pc
theorem ktE_87 : ex_CTT 15 [] cd_87 kt_87 cd_87 := (ex_ct2 (ex_ct2 (ex_ct1 kE87_0) (ex_ct2 (ex_ct1 kE87_16) (ex_ct1 kE87_19))) (ex_ct2 (ex_ct1 kE87_30) (ex_ct2 (ex_ct1 kE87_31) (ex_ct1 kE87_34))))
set_option maxHeartbeats 100000 in
def k88_68 : ex_C := c_return_  15
set_option maxHeartbeats 100000 in
theorem kE88_68 : ex_CE 15 [] cd_88 k88_68 q88_68 := e_return_ 68 0 
set_option maxHeartbeats 100000 in
def k88_63 : ex_C := c_iadd (c_psh 1 (c_invV [] cd_88 65 4 14 3 (k88_68)))
set_option maxHeartbeats 100000 in
theorem kE88_63 : ex_CE 15 [] cd_88 k88_63 q88_63 := e_iadd 63 0 (e_psh_iconst 64 1 1 (e_invV_invokevirtual 65 245860 162 4 14 3 rfl rfl rfl rfl rfl rfl (kE88_68)))
set_option maxHeartbeats 100000 in
def k88_62 : ex_C := c_psh 1 (k88_63)
set_option maxHeartbeats 100000 in
theorem kE88_62 : ex_CE 15 [] cd_88 k88_62 q88_62 := e_psh_iconst 62 1 1 (kE88_63)
set_option maxHeartbeats 100000 in
def k88_46 : ex_C := c_aload 1 (c_iload 2 (c_aload 1 (c_gf 3 2 (c_iload 2 (c_iaload (c_iload 3 (c_if_ne 62 (c_psh 3 (c_goto 63)))))))))
set_option maxHeartbeats 100000 in
theorem kE88_46 : ex_CE 15 [] cd_88 k88_46 q88_46 := e_aload_aload_n 46 0 1 1 rfl (e_iload_iload_n 47 0 2 2 rfl (e_aload_aload_n 48 0 1 1 rfl (e_gf 49 86210 105 3 2 rfl rfl (e_iload_iload_n 52 0 2 2 rfl (e_iaload 53 0 (e_iload_iload_n 54 0 3 3 rfl (e_if_ne 55 62 7 (e_psh_iconst 58 3 3 (e_goto 59 63 4)))))))))
set_option maxHeartbeats 100000 in
def k88_29 : ex_C := c_aload 1 (c_iload 2 (c_aload 1 (c_gf 3 2 (c_iload 2 (c_iaload (c_aload 0 (c_gf 4 9 (c_psh 2 (c_idiv   (c_invV [] cd_88 43 4 14 3 (k88_46)))))))))))
set_option maxHeartbeats 100000 in
theorem kE88_29 : ex_CE 15 [] cd_88 k88_29 q88_29 := e_aload_aload_n 29 0 1 1 rfl (e_iload_iload_n 30 0 2 2 rfl (e_aload_aload_n 31 0 1 1 rfl (e_gf 32 86210 105 3 2 rfl rfl (e_iload_iload_n 35 0 2 2 rfl (e_iaload 36 0 (e_aload_aload_n 37 0 0 0 rfl (e_gf 38 265 40 4 9 rfl rfl (e_psh_iconst 41 2 2 (e_idiv 42 0  (e_invV_invokevirtual 43 245860 162 4 14 3 rfl rfl rfl rfl rfl rfl (kE88_46)))))))))))
set_option maxHeartbeats 100000 in
def k88_26 : ex_C := c_goto 68
set_option maxHeartbeats 100000 in
theorem kE88_26 : ex_CE 15 [] cd_88 k88_26 q88_26 := e_goto 26 68 42
set_option maxHeartbeats 100000 in
def k88_23 : ex_C := c_invV [] cd_88 23 3 15 3 (k88_26)
set_option maxHeartbeats 100000 in
theorem kE88_23 : ex_CE 15 [] cd_88 k88_23 q88_23 := e_invV_invokevirtual 23 254051 166 3 15 3 rfl rfl rfl rfl rfl rfl (kE88_26)
set_option maxHeartbeats 100000 in
def k88_22 : ex_C := c_psh 4294967295 (k88_23)
set_option maxHeartbeats 100000 in
theorem kE88_22 : ex_CE 15 [] cd_88 k88_22 q88_22 := e_psh_iconst 22 4294967295 (-1) (kE88_23)
set_option maxHeartbeats 100000 in
def k88_0 : ex_C := c_iload 3 (c_psh 1 (c_icmp_le 29 (c_aload 1 (c_iload 2 (c_aload 1 (c_gf 3 3 (c_iload 2 (c_iaload (c_psh 2 (c_irem   (c_if_ne 22 (c_psh 1 (c_goto 23)))))))))))))
set_option maxHeartbeats 100000 in
theorem kE88_0 : ex_CE 15 [] cd_88 k88_0 q88_0 := e_iload_iload_n 0 0 3 3 rfl (e_psh_iconst 1 1 1 (e_icmp_le 2 29 27 (e_aload_aload_n 5 0 1 1 rfl (e_iload_iload_n 6 0 2 2 rfl (e_aload_aload_n 7 0 1 1 rfl (e_gf 8 86211 102 3 3 rfl rfl (e_iload_iload_n 11 0 2 2 rfl (e_iaload 12 0 (e_psh_iconst 13 2 2 (e_irem 14 0  (e_if_ne 15 22 7 (e_psh_iconst 18 1 1 (e_goto 19 23 4)))))))))))))
def kt_88 : Nat → Option ex_C := fun pc => @Bool.rec (fun _ => Nat → Option ex_C) (fun pc => @Bool.rec (fun _ => Nat → Option ex_C) (fun pc => @Bool.rec (fun _ => Nat → Option ex_C) (fun pc => @Bool.rec (fun _ => Nat → Option ex_C) (fun pc => @Bool.rec (fun _ => Option ex_C) none (some k88_68) (Nat.beq pc 68)) (fun pc => @Bool.rec (fun _ => Option ex_C) none (some k88_63) (Nat.beq pc 63)) (Nat.ble pc 63) pc) (fun pc => @Bool.rec (fun _ => Option ex_C) none (some k88_62) (Nat.beq pc 62)) (Nat.ble pc 62) pc) (fun pc => @Bool.rec (fun _ => Nat → Option ex_C) (fun pc => @Bool.rec (fun _ => Option ex_C) none (some k88_46) (Nat.beq pc 46)) (fun pc => @Bool.rec (fun _ => Option ex_C) none (some k88_29) (Nat.beq pc 29)) (Nat.ble pc 29) pc) (Nat.ble pc 46) pc) (fun pc => @Bool.rec (fun _ => Nat → Option ex_C) (fun pc => @Bool.rec (fun _ => Nat → Option ex_C) (fun pc => @Bool.rec (fun _ => Option ex_C) none (some k88_26) (Nat.beq pc 26)) (fun pc => @Bool.rec (fun _ => Option ex_C) none (some k88_23) (Nat.beq pc 23)) (Nat.ble pc 23) pc) (fun pc => @Bool.rec (fun _ => Nat → Option ex_C) (fun pc => @Bool.rec (fun _ => Option ex_C) none (some k88_22) (Nat.beq pc 22)) (fun pc => @Bool.rec (fun _ => Option ex_C) none (some k88_0) (Nat.beq pc 0)) (Nat.ble pc 0) pc) (Nat.ble pc 22) pc) (Nat.ble pc 26) pc
theorem ktE_88 : ex_CTT 15 [] cd_88 kt_88 cd_88 := (ex_ct2 (ex_ct2 (ex_ct2 (ex_ct1 kE88_0) (ex_ct1 kE88_22)) (ex_ct2 (ex_ct1 kE88_23) (ex_ct1 kE88_26))) (ex_ct2 (ex_ct2 (ex_ct1 kE88_29) (ex_ct1 kE88_46)) (ex_ct2 (ex_ct1 kE88_62) (ex_ct2 (ex_ct1 kE88_63) (ex_ct1 kE88_68)))))
set_option maxHeartbeats 100000 in
def k89_77 : ex_C := c_return_  15
set_option maxHeartbeats 100000 in
theorem kE89_77 : ex_CE 15 [] cd_89 k89_77 q89_77 := e_return_ 77 0 
set_option maxHeartbeats 100000 in
def k89_71 : ex_C := c_aload 1 (c_iload 2 (c_psh 2 (c_invV [] cd_89 74 3 15 3 (k89_77))))
set_option maxHeartbeats 100000 in
theorem kE89_71 : ex_CE 15 [] cd_89 k89_71 q89_71 := e_aload_aload_n 71 0 1 1 rfl (e_iload_iload_n 72 0 2 2 rfl (e_psh_iconst 73 2 2 (e_invV_invokevirtual 74 254051 166 3 15 3 rfl rfl rfl rfl rfl rfl (kE89_77))))
set_option maxHeartbeats 100000 in
def k89_63 : ex_C := c_iadd (c_aload 0 (c_gf 4 9 (c_invV [] cd_89 68 4 14 3 (k89_71))))
set_option maxHeartbeats 100000 in
theorem kE89_63 : ex_CE 15 [] cd_89 k89_63 q89_63 := e_iadd 63 0 (e_aload_aload_n 64 0 0 0 rfl (e_gf 65 265 40 4 9 rfl rfl (e_invV_invokevirtual 68 245860 162 4 14 3 rfl rfl rfl rfl rfl rfl (kE89_71))))
set_option maxHeartbeats 100000 in
def k89_62 : ex_C := c_psh 3 (k89_63)
set_option maxHeartbeats 100000 in
theorem kE89_62 : ex_CE 15 [] cd_89 k89_62 q89_62 := e_psh_iconst 62 3 3 (kE89_63)
set_option maxHeartbeats 100000 in
def k89_55 : ex_C := c_if_eq 62 (c_psh 1 (c_goto 63))
set_option maxHeartbeats 100000 in
theorem kE89_55 : ex_CE 15 [] cd_89 k89_55 q89_55 := e_if_eq 55 62 7 (e_psh_iconst 58 1 1 (e_goto 59 63 4))
set_option maxHeartbeats 100000 in
def k89_33 : ex_C := c_aload 1 (c_iload 2 (c_aload 1 (c_gf 3 2 (c_iload 2 (c_iaload (c_aload 0 (c_aload 1 (c_iload 2 (c_aload 1 (c_gf 3 2 (c_iload 2 (c_iaload (c_psh 1 (c_iadd (c_invV [] cd_89 52 4 90 4 (k89_55))))))))))))))))
set_option maxHeartbeats 100000 in
theorem kE89_33 : ex_CE 15 [] cd_89 k89_33 q89_33 := e_aload_aload_n 33 0 1 1 rfl (e_iload_iload_n 34 0 2 2 rfl (e_aload_aload_n 35 0 1 1 rfl (e_gf 36 86210 105 3 2 rfl rfl (e_iload_iload_n 39 0 2 2 rfl (e_iaload 40 0 (e_aload_aload_n 41 0 0 0 rfl (e_aload_aload_n 42 0 1 1 rfl (e_iload_iload_n 43 0 2 2 rfl (e_aload_aload_n 44 0 1 1 rfl (e_gf 45 86210 105 3 2 rfl rfl (e_iload_iload_n 48 0 2 2 rfl (e_iaload 49 0 (e_psh_iconst 50 1 1 (e_iadd 51 0 (e_invV_invokevirtual 52 868484 169 4 90 4 rfl rfl rfl rfl rfl rfl (kE89_55))))))))))))))))
set_option maxHeartbeats 100000 in
def k89_30 : ex_C := c_goto 77
set_option maxHeartbeats 100000 in
theorem kE89_30 : ex_CE 15 [] cd_89 k89_30 q89_30 := e_goto 30 77 47
set_option maxHeartbeats 100000 in
def k89_12 : ex_C := c_if_eq 33 (c_aload 1 (c_iload 2 (c_aload 1 (c_gf 3 2 (c_iload 2 (c_iaload (c_aload 0 (c_gf 4 9 (c_invV [] cd_89 27 4 14 3 (k89_30))))))))))
set_option maxHeartbeats 100000 in
theorem kE89_12 : ex_CE 15 [] cd_89 k89_12 q89_12 := e_if_eq 12 33 21 (e_aload_aload_n 15 0 1 1 rfl (e_iload_iload_n 16 0 2 2 rfl (e_aload_aload_n 17 0 1 1 rfl (e_gf 18 86210 105 3 2 rfl rfl (e_iload_iload_n 21 0 2 2 rfl (e_iaload 22 0 (e_aload_aload_n 23 0 0 0 rfl (e_gf 24 265 40 4 9 rfl rfl (e_invV_invokevirtual 27 245860 162 4 14 3 rfl rfl rfl rfl rfl rfl (kE89_30))))))))))
set_option maxHeartbeats 100000 in
def k89_0 : ex_C := c_aload 0 (c_aload 1 (c_iload 2 (c_aload 1 (c_gf 3 2 (c_iload 2 (c_iaload (c_invV [] cd_89 9 4 90 4 (k89_12))))))))
set_option maxHeartbeats 100000 in
theorem kE89_0 : ex_CE 15 [] cd_89 k89_0 q89_0 := e_aload_aload_n 0 0 0 0 rfl (e_aload_aload_n 1 0 1 1 rfl (e_iload_iload_n 2 0 2 2 rfl (e_aload_aload_n 3 0 1 1 rfl (e_gf 4 86210 105 3 2 rfl rfl (e_iload_iload_n 7 0 2 2 rfl (e_iaload 8 0 (e_invV_invokevirtual 9 868484 169 4 90 4 rfl rfl rfl rfl rfl rfl (kE89_12))))))))
def kt_89 : Nat → Option ex_C := fun pc => @Bool.rec (fun _ => Nat → Option ex_C) (fun pc => @Bool.rec (fun _ => Nat → Option ex_C) (fun pc => @Bool.rec (fun _ => Nat → Option ex_C) (fun pc => @Bool.rec (fun _ => Nat → Option ex_C) (fun pc => @Bool.rec (fun _ => Option ex_C) none (some k89_77) (Nat.beq pc 77)) (fun pc => @Bool.rec (fun _ => Option ex_C) none (some k89_71) (Nat.beq pc 71)) (Nat.ble pc 71) pc) (fun pc => @Bool.rec (fun _ => Option ex_C) none (some k89_63) (Nat.beq pc 63)) (Nat.ble pc 63) pc) (fun pc => @Bool.rec (fun _ => Nat → Option ex_C) (fun pc => @Bool.rec (fun _ => Option ex_C) none (some k89_62) (Nat.beq pc 62)) (fun pc => @Bool.rec (fun _ => Option ex_C) none (some k89_55) (Nat.beq pc 55)) (Nat.ble pc 55) pc) (Nat.ble pc 62) pc) (fun pc => @Bool.rec (fun _ => Nat → Option ex_C) (fun pc => @Bool.rec (fun _ => Nat → Option ex_C) (fun pc => @Bool.rec (fun _ => Option ex_C) none (some k89_33) (Nat.beq pc 33)) (fun pc => @Bool.rec (fun _ => Option ex_C) none (some k89_30) (Nat.beq pc 30)) (Nat.ble pc 30) pc) (fun pc => @Bool.rec (fun _ => Nat → Option ex_C) (fun pc => @Bool.rec (fun _ => Option ex_C) none (some k89_12) (Nat.beq pc 12)) (fun pc => @Bool.rec (fun _ => Option ex_C) none (some k89_0) (Nat.beq pc 0)) (Nat.ble pc 0) pc) (Nat.ble pc 12) pc) (Nat.ble pc 33) pc
theorem ktE_89 : ex_CTT 15 [] cd_89 kt_89 cd_89 := (ex_ct2 (ex_ct2 (ex_ct2 (ex_ct1 kE89_0) (ex_ct1 kE89_12)) (ex_ct2 (ex_ct1 kE89_30) (ex_ct1 kE89_33))) (ex_ct2 (ex_ct2 (ex_ct1 kE89_55) (ex_ct1 kE89_62)) (ex_ct2 (ex_ct1 kE89_63) (ex_ct2 (ex_ct1 kE89_71) (ex_ct1 kE89_77)))))
set_option maxHeartbeats 100000 in
def k90_104 : ex_C := c_ireturn  1
set_option maxHeartbeats 100000 in
theorem kE90_104 : ex_CE 1 [] cd_90 k90_104 q90_104 := e_ireturn 104 0 
set_option maxHeartbeats 100000 in
def k90_103 : ex_C := c_psh 0 (k90_104)
set_option maxHeartbeats 100000 in
theorem kE90_103 : ex_CE 1 [] cd_90 k90_103 q90_103 := e_psh_iconst 103 0 0 (kE90_104)
set_option maxHeartbeats 100000 in
def k90_0 : ex_C := c_iload 3 (c_psh 3 (c_iand (c_istore 4 (c_aload 1 (c_gf 3 0 (c_iload 2 (c_iaload (c_aload 0 (c_gf 4 9 (c_psh 17179869193 (c_iload 4 (c_iaload (c_imul (c_iadd (c_istore 5 (c_aload 1 (c_gf 3 1 (c_iload 2 (c_iaload (c_aload 0 (c_gf 4 9 (c_psh 17179869194 (c_iload 4 (c_iaload (c_imul (c_iadd (c_istore 6 (c_iload 5 (c_aload 0 (c_gf 4 7 (c_iload 2 (c_iaload (c_icmp_lt 103 (c_iload 5 (c_aload 0 (c_gf 4 7 (c_iload 2 (c_iaload (c_aload 0 (c_gf 4 9 (c_iadd (c_icmp_gt 103 (c_iload 6 (c_aload 0 (c_gf 4 8 (c_iload 2 (c_iaload (c_icmp_lt 103 (c_iload 6 (c_aload 0 (c_gf 4 8 (c_iload 2 (c_iaload (c_aload 0 (c_gf 4 9 (c_iadd (c_icmp_gt 103 (c_psh 1 (c_goto 104)))))))))))))))))))))))))))))))))))))))))))))))))))))))))))
set_option maxHeartbeats 100000 in
theorem kE90_0 : ex_CE 1 [] cd_90 k90_0 q90_0 := e_iload_iload_n 0 0 3 3 rfl (e_psh_iconst 1 3 3 (e_iand 2 0 (e_istore_istore 3 0 4 (e_aload_aload_n 5 0 1 1 rfl (e_gf 6 86208 67 3 0 rfl rfl (e_iload_iload_n 9 0 2 2 rfl (e_iaload 10 0 (e_aload_aload_n 11 0 0 0 rfl (e_gf 12 265 40 4 9 rfl rfl (e_psh_getstatic 15 17179869193 108 (e_iload_iload 18 0 4 (e_iaload 20 0 (e_imul 21 0 (e_iadd 22 0 (e_istore_istore 23 0 5 (e_aload_aload_n 25 0 1 1 rfl (e_gf 26 86209 75 3 1 rfl rfl (e_iload_iload_n 29 0 2 2 rfl (e_iaload 30 0 (e_aload_aload_n 31 0 0 0 rfl (e_gf 32 265 40 4 9 rfl rfl (e_psh_getstatic 35 17179869194 111 (e_iload_iload 38 0 4 (e_iaload 40 0 (e_imul 41 0 (e_iadd 42 0 (e_istore_istore 43 0 6 (e_iload_iload 45 0 5 (e_aload_aload_n 47 0 0 0 rfl (e_gf 48 86279 34 4 7 rfl rfl (e_iload_iload_n 51 0 2 2 rfl (e_iaload 52 0 (e_icmp_lt 53 103 50 (e_iload_iload 56 0 5 (e_aload_aload_n 58 0 0 0 rfl (e_gf 59 86279 34 4 7 rfl rfl (e_iload_iload_n 62 0 2 2 rfl (e_iaload 63 0 (e_aload_aload_n 64 0 0 0 rfl (e_gf 65 265 40 4 9 rfl rfl (e_iadd 68 0 (e_icmp_gt 69 103 34 (e_iload_iload 72 0 6 (e_aload_aload_n 74 0 0 0 rfl (e_gf 75 86280 37 4 8 rfl rfl (e_iload_iload_n 78 0 2 2 rfl (e_iaload 79 0 (e_icmp_lt 80 103 23 (e_iload_iload 83 0 6 (e_aload_aload_n 85 0 0 0 rfl (e_gf 86 86280 37 4 8 rfl rfl (e_iload_iload_n 89 0 2 2 rfl (e_iaload 90 0 (e_aload_aload_n 91 0 0 0 rfl (e_gf 92 265 40 4 9 rfl rfl (e_iadd 95 0 (e_icmp_gt 96 103 7 (e_psh_iconst 99 1 1 (e_goto 100 104 4)))))))))))))))))))))))))))))))))))))))))))))))))))))))))))
def kt_90 : Nat → Option ex_C := fun pc => @Bool.rec (fun _ => Nat → Option ex_C) (fun pc => @Bool.rec (fun _ => Nat → Option ex_C) (fun pc => @Bool.rec (fun _ => Option ex_C) none (some k90_104) (Nat.beq pc 104)) (fun pc => @Bool.rec (fun _ => Option ex_C) none (some k90_103) (Nat.beq pc 103)) (Nat.ble pc 103) pc) (fun pc => @Bool.rec (fun _ => Option ex_C) none (some k90_0) (Nat.beq pc 0)) (Nat.ble pc 0) pc
theorem ktE_90 : ex_CTT 1 [] cd_90 kt_90 cd_90 := (ex_ct2 (ex_ct1 kE90_0) (ex_ct2 (ex_ct1 kE90_103) (ex_ct1 kE90_104)))
set_option maxHeartbeats 100000 in
def k91_159 : ex_C := c_return_  15
set_option maxHeartbeats 100000 in
theorem kE91_159 : ex_CE 15 [] cd_91 k91_159 q91_159 := e_return_ 159 0 
set_option maxHeartbeats 100000 in
def k91_147 : ex_C := c_aload 1 (c_iload 4 (c_iload 6 (c_iload 7 (c_iload 5 (c_invV [] cd_91 156 5 16 3 (k91_159))))))
set_option maxHeartbeats 100000 in
theorem kE91_147 : ex_CE 15 [] cd_91 k91_147 q91_147 := e_aload_aload_n 147 0 1 1 rfl (e_iload_iload 148 0 4 (e_iload_iload 150 0 6 (e_iload_iload 152 0 7 (e_iload_iload 154 0 5 (e_invV_invokevirtual 156 262245 175 5 16 3 rfl rfl rfl rfl rfl rfl (kE91_159))))))
set_option maxHeartbeats 100000 in
def k91_98 : ex_C := c_istore 5 (c_aload 1 (c_gf 3 0 (c_iload 2 (c_iaload (c_aload 1 (c_gf 3 0 (c_iload 4 (c_iaload (c_iadd (c_psh 2 (c_idiv   (c_istore 6 (c_aload 1 (c_gf 3 1 (c_iload 2 (c_iaload (c_aload 1 (c_gf 3 1 (c_iload 4 (c_iaload (c_iadd (c_psh 2 (c_idiv   (c_istore 7 (c_aload 1 (c_iload 2 (c_iload 6 (c_iload 7 (c_iload 5 (c_invV [] cd_91 144 5 16 3 (k91_147)))))))))))))))))))))))))))))))
set_option maxHeartbeats 100000 in
theorem kE91_98 : ex_CE 15 [] cd_91 k91_98 q91_98 := e_istore_istore 98 0 5 (e_aload_aload_n 100 0 1 1 rfl (e_gf 101 86208 67 3 0 rfl rfl (e_iload_iload_n 104 0 2 2 rfl (e_iaload 105 0 (e_aload_aload_n 106 0 1 1 rfl (e_gf 107 86208 67 3 0 rfl rfl (e_iload_iload 110 0 4 (e_iaload 112 0 (e_iadd 113 0 (e_psh_iconst 114 2 2 (e_idiv 115 0  (e_istore_istore 116 0 6 (e_aload_aload_n 118 0 1 1 rfl (e_gf 119 86209 75 3 1 rfl rfl (e_iload_iload_n 122 0 2 2 rfl (e_iaload 123 0 (e_aload_aload_n 124 0 1 1 rfl (e_gf 125 86209 75 3 1 rfl rfl (e_iload_iload 128 0 4 (e_iaload 130 0 (e_iadd 131 0 (e_psh_iconst 132 2 2 (e_idiv 133 0  (e_istore_istore 134 0 7 (e_aload_aload_n 136 0 1 1 rfl (e_iload_iload_n 137 0 2 2 rfl (e_iload_iload 138 0 6 (e_iload_iload 140 0 7 (e_iload_iload 142 0 5 (e_invV_invokevirtual 144 262245 175 5 16 3 rfl rfl rfl rfl rfl rfl (kE91_147)))))))))))))))))))))))))))))))
set_option maxHeartbeats 100000 in
def k91_97 : ex_C := c_psh 1 (k91_98)
set_option maxHeartbeats 100000 in
theorem kE91_97 : ex_CE 15 [] cd_91 k91_97 q91_97 := e_psh_iconst 97 1 1 (kE91_98)
set_option maxHeartbeats 100000 in
def k91_93 : ex_C := c_psh 4294967295 (c_goto 98)
set_option maxHeartbeats 100000 in
theorem kE91_93 : ex_CE 15 [] cd_91 k91_93 q91_93 := e_psh_iconst 93 4294967295 (-1) (e_goto 94 98 4)
set_option maxHeartbeats 100000 in
def k91_77 : ex_C := c_iload 3 (c_psh 9 (c_icmp_eq 93 (c_aload 0 (c_gf 4 5 (c_iload 2 (c_iaload (c_psh 3 (c_icmp_ne 97 (k91_93)))))))))
set_option maxHeartbeats 100000 in
theorem kE91_77 : ex_CE 15 [] cd_91 k91_77 q91_77 := e_iload_iload_n 77 0 3 3 rfl (e_psh_bipush 78 9 9 (e_icmp_eq 80 93 13 (e_aload_aload_n 83 0 0 0 rfl (e_gf 84 86277 28 4 5 rfl rfl (e_iload_iload_n 87 0 2 2 rfl (e_iaload 88 0 (e_psh_iconst 89 3 3 (e_icmp_ne 90 97 7 (kE91_93)))))))))
set_option maxHeartbeats 100000 in
def k91_74 : ex_C := c_goto 159
set_option maxHeartbeats 100000 in
theorem kE91_74 : ex_CE 15 [] cd_91 k91_74 q91_74 := e_goto 74 159 85
set_option maxHeartbeats 100000 in
def k91_68 : ex_C := c_aload 1 (c_iload 2 (c_psh 2 (c_invV [] cd_91 71 3 15 3 (k91_74))))
set_option maxHeartbeats 100000 in
theorem kE91_68 : ex_CE 15 [] cd_91 k91_68 q91_68 := e_aload_aload_n 68 0 1 1 rfl (e_iload_iload_n 69 0 2 2 rfl (e_psh_iconst 70 2 2 (e_invV_invokevirtual 71 254051 166 3 15 3 rfl rfl rfl rfl rfl rfl (kE91_74))))
set_option maxHeartbeats 100000 in
def k91_55 : ex_C := c_iload 3 (c_psh 12 (c_icmp_ne 77 (c_aload 1 (c_iload 2 (c_iload 4 (c_invV [] cd_91 65 3 17 3 (k91_68)))))))
set_option maxHeartbeats 100000 in
theorem kE91_55 : ex_CE 15 [] cd_91 k91_55 q91_55 := e_iload_iload_n 55 0 3 3 rfl (e_psh_bipush 56 12 12 (e_icmp_ne 58 77 19 (e_aload_aload_n 61 0 1 1 rfl (e_iload_iload_n 62 0 2 2 rfl (e_iload_iload 63 0 4 (e_invV_invokevirtual 65 270435 172 3 17 3 rfl rfl rfl rfl rfl rfl (kE91_68)))))))
set_option maxHeartbeats 100000 in
def k91_52 : ex_C := c_goto 159
set_option maxHeartbeats 100000 in
theorem kE91_52 : ex_CE 15 [] cd_91 k91_52 q91_52 := e_goto 52 159 107
set_option maxHeartbeats 100000 in
def k91_39 : ex_C := c_iload 3 (c_psh 10 (c_icmp_ne 55 (c_aload 1 (c_iload 2 (c_iload 4 (c_invV [] cd_91 49 3 17 3 (k91_52)))))))
set_option maxHeartbeats 100000 in
theorem kE91_39 : ex_CE 15 [] cd_91 k91_39 q91_39 := e_iload_iload_n 39 0 3 3 rfl (e_psh_bipush 40 10 10 (e_icmp_ne 42 55 13 (e_aload_aload_n 45 0 1 1 rfl (e_iload_iload_n 46 0 2 2 rfl (e_iload_iload 47 0 4 (e_invV_invokevirtual 49 270435 172 3 17 3 rfl rfl rfl rfl rfl rfl (kE91_52)))))))
set_option maxHeartbeats 100000 in
def k91_38 : ex_C := c_return_  15
set_option maxHeartbeats 100000 in
theorem kE91_38 : ex_CE 15 [] cd_91 k91_38 q91_38 := e_return_ 38 0 
set_option maxHeartbeats 100000 in
def k91_0 : ex_C := c_aload 0 (c_gf 4 4 (c_iload 2 (c_iaload (c_istore 4 (c_iload 4 (c_if_lt 38 (c_iload 4 (c_aload 1 (c_gf 3 14 (c_icmp_ge 38 (c_iload 4 (c_iload 2 (c_icmp_ge 39 (c_aload 0 (c_gf 4 1 (c_iload 4 (c_baload (c_if_eq 39 (k91_38)))))))))))))))))))
set_option maxHeartbeats 100000 in
theorem kE91_0 : ex_CE 15 [] cd_91 k91_0 q91_0 := e_aload_aload_n 0 0 0 0 rfl (e_gf 1 86276 25 4 4 rfl rfl (e_iload_iload_n 4 0 2 2 rfl (e_iaload 5 0 (e_istore_istore 6 0 4 (e_iload_iload 8 0 4 (e_if_lt 10 38 28 (e_iload_iload 13 0 4 (e_aload_aload_n 15 0 1 1 rfl (e_gf 16 206 51 3 14 rfl rfl (e_icmp_ge 19 38 19 (e_iload_iload 22 0 4 (e_iload_iload_n 24 0 2 2 rfl (e_icmp_ge 25 39 14 (e_aload_aload_n 28 0 0 0 rfl (e_gf 29 86273 15 4 1 rfl rfl (e_iload_iload 32 0 4 (e_baload 34 0 (e_if_eq 35 39 4 (kE91_38)))))))))))))))))))
def kt_91 : Nat → Option ex_C := fun pc => @Bool.rec (fun _ => Nat → Option ex_C) (fun pc => @Bool.rec (fun _ => Nat → Option ex_C) (fun pc => @Bool.rec (fun _ => Nat → Option ex_C) (fun pc => @Bool.rec (fun _ => Nat → Option ex_C) (fun pc => @Bool.rec (fun _ => Option ex_C) none (some k91_159) (Nat.beq pc 159)) (fun pc => @Bool.rec (fun _ => Option ex_C) none (some k91_147) (Nat.beq pc 147)) (Nat.ble pc 147) pc) (fun pc => @Bool.rec (fun _ => Nat → Option ex_C) (fun pc => @Bool.rec (fun _ => Option ex_C) none (some k91_98) (Nat.beq pc 98)) (fun pc => @Bool.rec (fun _ => Option ex_C) none (some k91_97) (Nat.beq pc 97)) (Nat.ble pc 97) pc) (Nat.ble pc 98) pc) (fun pc => @Bool.rec (fun _ => Nat → Option ex_C) (fun pc => @Bool.rec (fun _ => Nat → Option ex_C) (fun pc => @Bool.rec (fun _ => Option ex_C) none (some k91_93) (Nat.beq pc 93)) (fun pc => @Bool.rec (fun _ => Option ex_C) none (some k91_77) (Nat.beq pc 77)) (Nat.ble pc 77) pc) (fun pc => @Bool.rec (fun _ => Option ex_C) none (some k91_74) (Nat.beq pc 74)) (Nat.ble pc 74) pc) (Nat.ble pc 93) pc) (fun pc => @Bool.rec (fun _ => Nat → Option ex_C) (fun pc => @Bool.rec (fun _ => Nat → Option ex_C) (fun pc => @Bool.rec (fun _ => Nat → Option ex_C) (fun pc => @Bool.rec (fun _ => Option ex_C) none (some k91_68) (Nat.beq pc 68)) (fun pc => @Bool.rec (fun _ => Option ex_C) none (some k91_55) (Nat.beq pc 55)) (Nat.ble pc 55) pc) (fun pc => @Bool.rec (fun _ => Option ex_C) none (some k91_52) (Nat.beq pc 52)) (Nat.ble pc 52) pc) (fun pc => @Bool.rec (fun _ => Nat → Option ex_C) (fun pc => @Bool.rec (fun _ => Nat → Option ex_C) (fun pc => @Bool.rec (fun _ => Option ex_C) none (some k91_39) (Nat.beq pc 39)) (fun pc => @Bool.rec (fun _ => Option ex_C) none (some k91_38) (Nat.beq pc 38)) (Nat.ble pc 38) pc) (fun pc => @Bool.rec (fun _ => Option ex_C) none (some k91_0) (Nat.beq pc 0)) (Nat.ble pc 0) pc) (Nat.ble pc 39) pc) (Nat.ble pc 68) pc
theorem ktE_91 : ex_CTT 15 [] cd_91 kt_91 cd_91 := (ex_ct2 (ex_ct2 (ex_ct2 (ex_ct1 kE91_0) (ex_ct2 (ex_ct1 kE91_38) (ex_ct1 kE91_39))) (ex_ct2 (ex_ct1 kE91_52) (ex_ct2 (ex_ct1 kE91_55) (ex_ct1 kE91_68)))) (ex_ct2 (ex_ct2 (ex_ct1 kE91_74) (ex_ct2 (ex_ct1 kE91_77) (ex_ct1 kE91_93))) (ex_ct2 (ex_ct2 (ex_ct1 kE91_97) (ex_ct1 kE91_98)) (ex_ct2 (ex_ct1 kE91_147) (ex_ct1 kE91_159)))))
set_option maxHeartbeats 100000 in
def k92_0 : ex_C := c_aload 0 (c_oinit (c_aload 0 (c_psh 0 (c_pf 11 0 0 (c_aload 0 (c_psh 0 (c_pf 11 0 1 (c_aload 0 (c_psh 45 (c_pf 11 2 2 (c_aload 0 (c_psh 4294967295 (c_pf 11 0 3 (c_return_  15))))))))))))))
set_option maxHeartbeats 100000 in
theorem kE92_0 : ex_CE 15 [] cd_92 k92_0 q92_0 := e_aload_aload_n 0 0 0 0 rfl (e_oinit (e_aload_aload_n 4 0 0 0 rfl (e_psh_iconst 5 0 0 (e_pf 6 704 7 11 0 0 rfl rfl rfl (e_aload_aload_n 9 0 0 0 rfl (e_psh_iconst 10 0 0 (e_pf 11 705 13 11 0 1 rfl rfl rfl (e_aload_aload_n 14 0 0 0 rfl (e_psh_bipush 15 45 45 (e_pf 17 8898 16 11 2 2 rfl rfl rfl (e_aload_aload_n 20 0 0 0 rfl (e_psh_iconst 21 4294967295 (-1) (e_pf 22 707 20 11 0 3 rfl rfl rfl (e_return_ 25 0 ))))))))))))))
def kt_92 : Nat → Option ex_C := fun pc => @Bool.rec (fun _ => Option ex_C) none (some k92_0) (Nat.beq pc 0)
theorem ktE_92 : ex_CTT 15 [] cd_92 kt_92 cd_92 := (ex_ct1 kE92_0)
set_option maxHeartbeats 100000 in
def k93_248 : ex_C := c_return_  15
set_option maxHeartbeats 100000 in
theorem kE93_248 : ex_CE 15 [] cd_93 k93_248 q93_248 := e_return_ 248 0 
set_option maxHeartbeats 100000 in
def k93_228 : ex_C := c_aload 0 (c_gf 0 3 (c_iload 1 (c_psh 3 (c_iastore (c_aload 0 (c_gf 0 4 (c_iload 1 (c_psh 3 (c_iastore (c_iinc 1 1 (c_goto 199)))))))))))
set_option maxHeartbeats 100000 in
theorem kE93_228 : ex_CE 15 [] cd_93 k93_228 q93_228 := e_aload_aload_n 228 0 0 0 rfl (e_gf 229 86019 22 0 3 rfl rfl (e_iload_iload_n 232 0 1 1 rfl (e_psh_iconst 233 3 3 (e_iastore 234 0 (e_aload_aload_n 235 0 0 0 rfl (e_gf 236 86020 26 0 4 rfl rfl (e_iload_iload_n 239 0 1 1 rfl (e_psh_iconst 240 3 3 (e_iastore 241 0 (e_iinc 242 1 1 1 (e_goto 245 199 (-46))))))))))))
set_option maxHeartbeats 100000 in
def k93_199 : ex_C := c_iload 1 (c_psh 8 (c_icmp_ge 248 (c_aload 0 (c_gf 0 0 (c_iload 1 (c_psh 17179869191 (c_iload 1 (c_iaload (c_psh 17179869192 (c_iload 1 (c_iaload (c_psh 17179869190 (c_iload 1 (c_iaload (c_invV [] cd_93 225 5 41 1 (k93_228))))))))))))))))
set_option maxHeartbeats 100000 in
theorem kE93_199 : ex_CE 15 [] cd_93 k93_199 q93_199 := e_iload_iload_n 199 0 1 1 rfl (e_psh_bipush 200 8 8 (e_icmp_ge 202 248 46 (e_aload_aload_n 205 0 0 0 rfl (e_gf 206 86016 10 0 0 rfl rfl (e_iload_iload_n 209 0 1 1 rfl (e_psh_getstatic 210 17179869191 109 (e_iload_iload_n 213 0 1 1 rfl (e_iaload 214 0 (e_psh_getstatic 215 17179869192 112 (e_iload_iload_n 218 0 1 1 rfl (e_iaload 219 0 (e_psh_getstatic 220 17179869190 115 (e_iload_iload_n 223 0 1 1 rfl (e_iaload 224 0 (e_invV_invokevirtual 225 466981 118 5 41 1 rfl rfl rfl rfl rfl rfl (kE93_228))))))))))))))))
set_option maxHeartbeats 100000 in
def k93_153 : ex_C := c_pf 0 5 13 (c_aload 0 (c_psh 8 (c_newarr 64 0 (c_pf 0 5 14 (c_aload 0 (c_psh 2 (c_newarr 64 0 (c_pf 0 5 15 (c_aload 0 (c_psh 0 (c_pf 0 0 16 (c_aload 0 (c_psh 3 (c_pf 0 0 17 (c_aload 0 (c_psh 2000 (c_pf 0 0 18 (c_aload 0 (c_gf 0 0 (c_psh 8 (c_pf 1 0 3 (c_psh 0 (c_istore 1 (k93_199))))))))))))))))))))))))
set_option maxHeartbeats 100000 in
theorem kE93_153 : ex_CE 15 [] cd_93 k93_153 q93_153 := e_pf 153 86029 86 0 5 13 rfl rfl rfl (e_aload_aload_n 156 0 0 0 rfl (e_psh_bipush 157 8 8 (e_newarr 159 64 0 rfl (e_pf 161 86030 90 0 5 14 rfl rfl rfl (e_aload_aload_n 164 0 0 0 rfl (e_psh_iconst 165 2 2 (e_newarr 166 64 0 rfl (e_pf 168 86031 93 0 5 15 rfl rfl rfl (e_aload_aload_n 171 0 0 0 rfl (e_psh_iconst 172 0 0 (e_pf 173 16 96 0 0 16 rfl rfl rfl (e_aload_aload_n 176 0 0 0 rfl (e_psh_iconst 177 3 3 (e_pf 178 17 100 0 0 17 rfl rfl rfl (e_aload_aload_n 181 0 0 0 rfl (e_psh_sipush 182 2000 2000 (e_pf 185 18 103 0 0 18 rfl rfl rfl (e_aload_aload_n 188 0 0 0 rfl (e_gf 189 86016 10 0 0 rfl rfl (e_psh_bipush 192 8 8 (e_pf 194 67 106 1 0 3 rfl rfl rfl (e_psh_iconst 197 0 0 (e_istore_istore_n 198 0 1 1 rfl (kE93_199))))))))))))))))))))))))
set_option maxHeartbeats 100000 in
def k93_142 : ex_C := c_pf 0 5 12 (c_aload 0 (c_newo 1035 4 (c_dup   (c_invP [] cd_93 150 1 92 (k93_153)))))
set_option maxHeartbeats 100000 in
theorem kE93_142 : ex_CE 15 [] cd_93 k93_142 q93_142 := e_pf 142 86028 79 0 5 12 rfl rfl rfl (e_aload_aload_n 145 0 0 0 rfl (e_newo 146 11 83 1035 4 rfl rfl rfl (e_dup 149 0  (e_invP 150 892865 85 1 92 rfl rfl rfl rfl (kE93_153)))))
set_option maxHeartbeats 100000 in
def k93_131 : ex_C := c_pf 0 5 11 (c_aload 0 (c_newo 5708990770829031821091683427792993911505421578 5 (c_dup   (c_invP [] cd_93 139 1 28 (k93_142)))))
set_option maxHeartbeats 100000 in
theorem kE93_131 : ex_CE 15 [] cd_93 k93_131 q93_131 := e_pf 131 86027 72 0 5 11 rfl rfl rfl (e_aload_aload_n 134 0 0 0 rfl (e_newo 135 10 76 5708990770829031821091683427792993911505421578 5 rfl rfl rfl (e_dup 138 0  (e_invP 139 368577 78 1 28 rfl rfl rfl rfl (kE93_142)))))
set_option maxHeartbeats 100000 in
def k93_120 : ex_C := c_pf 0 5 10 (c_aload 0 (c_newo 602601766597121353328235784627935975945826122668547313239049 4 (c_dup   (c_invP [] cd_93 128 1 54 (k93_131)))))
set_option maxHeartbeats 100000 in
theorem kE93_120 : ex_CE 15 [] cd_93 k93_120 q93_120 := e_pf 120 86026 65 0 5 10 rfl rfl rfl (e_aload_aload_n 123 0 0 0 rfl (e_newo 124 9 69 602601766597121353328235784627935975945826122668547313239049 4 rfl rfl rfl (e_dup 127 0  (e_invP 128 581569 71 1 54 rfl rfl rfl rfl (kE93_131)))))
set_option maxHeartbeats 100000 in
def k93_109 : ex_C := c_pf 0 5 9 (c_aload 0 (c_newo 5708990770829031821091683427792993911505421576 5 (c_dup   (c_invP [] cd_93 117 1 25 (k93_120)))))
set_option maxHeartbeats 100000 in
theorem kE93_109 : ex_CE 15 [] cd_93 k93_109 q93_109 := e_pf 109 86025 58 0 5 9 rfl rfl rfl (e_aload_aload_n 112 0 0 0 rfl (e_newo 113 8 62 5708990770829031821091683427792993911505421576 5 rfl rfl rfl (e_dup 116 0  (e_invP 117 344001 64 1 25 rfl rfl rfl rfl (kE93_120)))))
set_option maxHeartbeats 100000 in
def k93_98 : ex_C := c_pf 0 5 8 (c_aload 0 (c_newo 5192296858539549995013365974434823 4 (c_dup   (c_invP [] cd_93 106 1 35 (k93_109)))))
set_option maxHeartbeats 100000 in
theorem kE93_98 : ex_CE 15 [] cd_93 k93_98 q93_98 := e_pf 98 86024 52 0 5 8 rfl rfl rfl (e_aload_aload_n 101 0 0 0 rfl (e_newo 102 7 55 5192296858539549995013365974434823 4 rfl rfl rfl (e_dup 105 0  (e_invP 106 425921 57 1 35 rfl rfl rfl rfl (kE93_109)))))
set_option maxHeartbeats 100000 in
def k93_87 : ex_C := c_pf 0 5 7 (c_aload 0 (c_newo 5708990770829031821091683427792993911505422598 9 (c_dup   (c_invP [] cd_93 95 1 45 (k93_98)))))
set_option maxHeartbeats 100000 in
theorem kE93_87 : ex_CE 15 [] cd_93 k93_87 q93_87 := e_pf 87 86023 48 0 5 7 rfl rfl rfl (e_aload_aload_n 90 0 0 0 rfl (e_newo 91 6 45 5708990770829031821091683427792993911505422598 9 rfl rfl rfl (e_dup 94 0  (e_invP 95 507841 47 1 45 rfl rfl rfl rfl (kE93_98)))))
set_option maxHeartbeats 100000 in
def k93_76 : ex_C := c_pf 0 5 6 (c_aload 0 (c_newo 5708990770829031821091683427792993911505422598 9 (c_dup   (c_invP [] cd_93 84 1 45 (k93_87)))))
set_option maxHeartbeats 100000 in
theorem kE93_76 : ex_CE 15 [] cd_93 k93_76 q93_76 := e_pf 76 86022 41 0 5 6 rfl rfl rfl (e_aload_aload_n 79 0 0 0 rfl (e_newo 80 6 45 5708990770829031821091683427792993911505422598 9 rfl rfl rfl (e_dup 83 0  (e_invP 84 507841 47 1 45 rfl rfl rfl rfl (kE93_87)))))
set_option maxHeartbeats 100000 in
def k93_65 : ex_C := c_pf 0 5 5 (c_aload 0 (c_newo 8343699359073643559715817195654438892581233081332998815952749606698165965972873344291042232069 7 (c_dup   (c_invP [] cd_93 73 1 0 (k93_76)))))
set_option maxHeartbeats 100000 in
theorem kE93_65 : ex_CE 15 [] cd_93 k93_65 q93_65 := e_pf 65 86021 34 0 5 5 rfl rfl rfl (e_aload_aload_n 68 0 0 0 rfl (e_newo 69 5 38 8343699359073643559715817195654438892581233081332998815952749606698165965972873344291042232069 7 rfl rfl rfl (e_dup 72 0  (e_invP 73 139201 40 1 0 rfl rfl rfl rfl (kE93_76)))))
set_option maxHeartbeats 100000 in
def k93_34 : ex_C := c_pf 0 5 2 (c_aload 0 (c_psh 8 (c_newarr 64 0 (c_pf 0 5 3 (c_aload 0 (c_psh 8 (c_newarr 64 0 (c_pf 0 5 4 (c_aload 0 (c_newo 6901746346796840889170148252031632070906137730269916703600899763734530 8 (c_dup   (c_aload 0 (c_gf 0 1 (c_invP [] cd_93 62 2 57 (k93_65)))))))))))))))
set_option maxHeartbeats 100000 in
theorem kE93_34 : ex_CE 15 [] cd_93 k93_34 q93_34 := e_pf 34 86018 19 0 5 2 rfl rfl rfl (e_aload_aload_n 37 0 0 0 rfl (e_psh_bipush 38 8 8 (e_newarr 40 64 0 rfl (e_pf 42 86019 22 0 5 3 rfl rfl rfl (e_aload_aload_n 45 0 0 0 rfl (e_psh_bipush 46 8 8 (e_newarr 48 64 0 rfl (e_pf 50 86020 26 0 5 4 rfl rfl rfl (e_aload_aload_n 53 0 0 0 rfl (e_newo 54 2 29 6901746346796840889170148252031632070906137730269916703600899763734530 8 rfl rfl rfl (e_dup 57 0  (e_aload_aload_n 58 0 0 0 rfl (e_gf 59 86017 16 0 1 rfl rfl (e_invP 62 606146 31 2 57 rfl rfl rfl rfl (kE93_65)))))))))))))))
set_option maxHeartbeats 100000 in
def k93_23 : ex_C := c_pf 0 5 1 (c_aload 0 (c_newo 5708990770829031821091683427792993911505421313 4 (c_dup   (c_invP [] cd_93 31 1 40 (k93_34)))))
set_option maxHeartbeats 100000 in
theorem kE93_23 : ex_CE 15 [] cd_93 k93_23 q93_23 := e_pf 23 86017 16 0 5 1 rfl rfl rfl (e_aload_aload_n 26 0 0 0 rfl (e_newo 27 1 7 5708990770829031821091683427792993911505421313 4 rfl rfl rfl (e_dup 30 0  (e_invP 31 466881 9 1 40 rfl rfl rfl rfl (kE93_34)))))
set_option maxHeartbeats 100000 in
def k93_12 : ex_C := c_pf 0 5 0 (c_aload 0 (c_newo 5708990770829031821091683427792993911505421313 4 (c_dup   (c_invP [] cd_93 20 1 40 (k93_23)))))
set_option maxHeartbeats 100000 in
theorem kE93_12 : ex_CE 15 [] cd_93 k93_12 q93_12 := e_pf 12 86016 10 0 5 0 rfl rfl rfl (e_aload_aload_n 15 0 0 0 rfl (e_newo 16 1 7 5708990770829031821091683427792993911505421313 4 rfl rfl rfl (e_dup 19 0  (e_invP 20 466881 9 1 40 rfl rfl rfl rfl (kE93_23)))))
set_option maxHeartbeats 100000 in
def k93_0 : ex_C := c_aload 0 (c_oinit (c_aload 0 (c_newo 5708990770829031821091683427792993911505421313 4 (c_dup   (c_invP [] cd_93 9 1 40 (k93_12))))))
set_option maxHeartbeats 100000 in
theorem kE93_0 : ex_CE 15 [] cd_93 k93_0 q93_0 := e_aload_aload_n 0 0 0 0 rfl (e_oinit (e_aload_aload_n 4 0 0 0 rfl (e_newo 5 1 7 5708990770829031821091683427792993911505421313 4 rfl rfl rfl (e_dup 8 0  (e_invP 9 466881 9 1 40 rfl rfl rfl rfl (kE93_12))))))
def kt_93 : Nat → Option ex_C := fun pc => @Bool.rec (fun _ => Nat → Option ex_C) (fun pc => @Bool.rec (fun _ => Nat → Option ex_C) (fun pc => @Bool.rec (fun _ => Nat → Option ex_C) (fun pc => @Bool.rec (fun _ => Nat → Option ex_C) (fun pc => @Bool.rec (fun _ => Option ex_C) none (some k93_248) (Nat.beq pc 248)) (fun pc => @Bool.rec (fun _ => Option ex_C) none (some k93_228) (Nat.beq pc 228)) (Nat.ble pc 228) pc) (fun pc => @Bool.rec (fun _ => Nat → Option ex_C) (fun pc => @Bool.rec (fun _ => Option ex_C) none (some k93_199) (Nat.beq pc 199)) (fun pc => @Bool.rec (fun _ => Option ex_C) none (some k93_153) (Nat.beq pc 153)) (Nat.ble pc 153) pc) (Nat.ble pc 199) pc) (fun pc => @Bool.rec (fun _ => Nat → Option ex_C) (fun pc => @Bool.rec (fun _ => Nat → Option ex_C) (fun pc => @Bool.rec (fun _ => Option ex_C) none (some k93_142) (Nat.beq pc 142)) (fun pc => @Bool.rec (fun _ => Option ex_C) none (some k93_131) (Nat.beq pc 131)) (Nat.ble pc 131) pc) (fun pc => @Bool.rec (fun _ => Nat → Option ex_C) (fun pc => @Bool.rec (fun _ => Option ex_C) none (some k93_120) (Nat.beq pc 120)) (fun pc => @Bool.rec (fun _ => Option ex_C) none (some k93_109) (Nat.beq pc 109)) (Nat.ble pc 109) pc) (Nat.ble pc 120) pc) (Nat.ble pc 142) pc) (fun pc => @Bool.rec (fun _ => Nat → Option ex_C) (fun pc => @Bool.rec (fun _ => Nat → Option ex_C) (fun pc => @Bool.rec (fun _ => Nat → Option ex_C) (fun pc => @Bool.rec (fun _ => Option ex_C) none (some k93_98) (Nat.beq pc 98)) (fun pc => @Bool.rec (fun _ => Option ex_C) none (some k93_87) (Nat.beq pc 87)) (Nat.ble pc 87) pc) (fun pc => @Bool.rec (fun _ => Nat → Option ex_C) (fun pc => @Bool.rec (fun _ => Option ex_C) none (some k93_76) (Nat.beq pc 76)) (fun pc => @Bool.rec (fun _ => Option ex_C) none (some k93_65) (Nat.beq pc 65)) (Nat.ble pc 65) pc) (Nat.ble pc 76) pc) (fun pc => @Bool.rec (fun _ => Nat → Option ex_C) (fun pc => @Bool.rec (fun _ => Nat → Option ex_C) (fun pc => @Bool.rec (fun _ => Option ex_C) none (some k93_34) (Nat.beq pc 34)) (fun pc => @Bool.rec (fun _ => Option ex_C) none (some k93_23) (Nat.beq pc 23)) (Nat.ble pc 23) pc) (fun pc => @Bool.rec (fun _ => Nat → Option ex_C) (fun pc => @Bool.rec (fun _ => Option ex_C) none (some k93_12) (Nat.beq pc 12)) (fun pc => @Bool.rec (fun _ => Option ex_C) none (some k93_0) (Nat.beq pc 0)) (Nat.ble pc 0) pc) (Nat.ble pc 12) pc) (Nat.ble pc 34) pc) (Nat.ble pc 98) pc
theorem ktE_93 : ex_CTT 15 [] cd_93 kt_93 cd_93 := (ex_ct2 (ex_ct2 (ex_ct2 (ex_ct2 (ex_ct1 kE93_0) (ex_ct1 kE93_12)) (ex_ct2 (ex_ct1 kE93_23) (ex_ct1 kE93_34))) (ex_ct2 (ex_ct2 (ex_ct1 kE93_65) (ex_ct1 kE93_76)) (ex_ct2 (ex_ct1 kE93_87) (ex_ct1 kE93_98)))) (ex_ct2 (ex_ct2 (ex_ct2 (ex_ct1 kE93_109) (ex_ct1 kE93_120)) (ex_ct2 (ex_ct1 kE93_131) (ex_ct1 kE93_142))) (ex_ct2 (ex_ct2 (ex_ct1 kE93_153) (ex_ct1 kE93_199)) (ex_ct2 (ex_ct1 kE93_228) (ex_ct1 kE93_248)))))
set_option maxHeartbeats 100000 in
def k94_9 : ex_C := c_iload 1 (c_ireturn  0)
set_option maxHeartbeats 100000 in
theorem kE94_9 : ex_CE 0 [] cd_94 k94_9 q94_9 := e_iload_iload_n 9 0 1 1 rfl (e_ireturn 10 0 )
set_option maxHeartbeats 100000 in
def k94_4 : ex_C := c_istore 1 (c_aload 0 (c_invV [] cd_94 6 1 148 0 (k94_9)))
set_option maxHeartbeats 100000 in
theorem kE94_4 : ex_CE 0 [] cd_94 k94_4 q94_4 := e_istore_istore_n 4 0 1 1 rfl (e_aload_aload_n 5 0 0 0 rfl (e_invV_invokevirtual 6 1343489 126 1 148 0 rfl rfl rfl rfl rfl rfl (kE94_9)))
set_option maxHeartbeats 100000 in
def k94_0 : ex_C := c_aload 0 (c_invV [] cd_94 1 1 151 0 (k94_4))
set_option maxHeartbeats 100000 in
theorem kE94_0 : ex_CE 0 [] cd_94 k94_0 q94_0 := e_aload_aload_n 0 0 0 0 rfl (e_invV_invokevirtual 1 1368065 122 1 151 0 rfl rfl rfl rfl rfl rfl (kE94_4))
def kt_94 : Nat → Option ex_C := fun pc => @Bool.rec (fun _ => Nat → Option ex_C) (fun pc => @Bool.rec (fun _ => Nat → Option ex_C) (fun pc => @Bool.rec (fun _ => Option ex_C) none (some k94_9) (Nat.beq pc 9)) (fun pc => @Bool.rec (fun _ => Option ex_C) none (some k94_4) (Nat.beq pc 4)) (Nat.ble pc 4) pc) (fun pc => @Bool.rec (fun _ => Option ex_C) none (some k94_0) (Nat.beq pc 0)) (Nat.ble pc 0) pc
theorem ktE_94 : ex_CTT 0 [] cd_94 kt_94 cd_94 := (ex_ct2 (ex_ct1 kE94_0) (ex_ct2 (ex_ct1 kE94_4) (ex_ct1 kE94_9)))
set_option maxHeartbeats 100000 in
def k95_5 : ex_C := c_aload 0 (c_gf 0 0 (c_gf 1 0 (c_iload 1 (c_iaload (c_ireturn  0)))))
set_option maxHeartbeats 100000 in
theorem kE95_5 : ex_CE 0 [] cd_95 k95_5 q95_5 := e_aload_aload_n 5 0 0 0 rfl (e_gf 6 86016 10 0 0 rfl rfl (e_gf 9 86080 133 1 0 rfl rfl (e_iload_iload_n 12 0 1 1 rfl (e_iaload 13 0 (e_ireturn 14 0 )))))
set_option maxHeartbeats 100000 in
def k95_0 : ex_C := c_aload 0 (c_iload 1 (c_invV [] cd_95 2 2 133 0 (k95_5)))
set_option maxHeartbeats 100000 in
theorem kE95_0 : ex_CE 0 [] cd_95 k95_0 q95_0 := e_aload_aload_n 0 0 0 0 rfl (e_iload_iload_n 1 0 1 1 rfl (e_invV_invokevirtual 2 1220610 129 2 133 0 rfl rfl rfl rfl rfl rfl (kE95_5)))
def kt_95 : Nat → Option ex_C := fun pc => @Bool.rec (fun _ => Nat → Option ex_C) (fun pc => @Bool.rec (fun _ => Option ex_C) none (some k95_5) (Nat.beq pc 5)) (fun pc => @Bool.rec (fun _ => Option ex_C) none (some k95_0) (Nat.beq pc 0)) (Nat.ble pc 0) pc
theorem ktE_95 : ex_CTT 0 [] cd_95 kt_95 cd_95 := (ex_ct2 (ex_ct1 kE95_0) (ex_ct1 kE95_5))
set_option maxHeartbeats 100000 in
def k96_5 : ex_C := c_aload 0 (c_gf 0 0 (c_gf 1 1 (c_iload 1 (c_iaload (c_ireturn  0)))))
set_option maxHeartbeats 100000 in
theorem kE96_5 : ex_CE 0 [] cd_96 k96_5 q96_5 := e_aload_aload_n 5 0 0 0 rfl (e_gf 6 86016 10 0 0 rfl rfl (e_gf 9 86081 136 1 1 rfl rfl (e_iload_iload_n 12 0 1 1 rfl (e_iaload 13 0 (e_ireturn 14 0 )))))
set_option maxHeartbeats 100000 in
def k96_0 : ex_C := c_aload 0 (c_iload 1 (c_invV [] cd_96 2 2 133 0 (k96_5)))
set_option maxHeartbeats 100000 in
theorem kE96_0 : ex_CE 0 [] cd_96 k96_0 q96_0 := e_aload_aload_n 0 0 0 0 rfl (e_iload_iload_n 1 0 1 1 rfl (e_invV_invokevirtual 2 1220610 129 2 133 0 rfl rfl rfl rfl rfl rfl (kE96_5)))
def kt_96 : Nat → Option ex_C := fun pc => @Bool.rec (fun _ => Nat → Option ex_C) (fun pc => @Bool.rec (fun _ => Option ex_C) none (some k96_5) (Nat.beq pc 5)) (fun pc => @Bool.rec (fun _ => Option ex_C) none (some k96_0) (Nat.beq pc 0)) (Nat.ble pc 0) pc
theorem ktE_96 : ex_CTT 0 [] cd_96 kt_96 cd_96 := (ex_ct2 (ex_ct1 kE96_0) (ex_ct1 kE96_5))
set_option maxHeartbeats 100000 in
def k97_5 : ex_C := c_aload 0 (c_gf 0 0 (c_gf 1 2 (c_iload 1 (c_iaload (c_ireturn  0)))))
set_option maxHeartbeats 100000 in
theorem kE97_5 : ex_CE 0 [] cd_97 k97_5 q97_5 := e_aload_aload_n 5 0 0 0 rfl (e_gf 6 86016 10 0 0 rfl rfl (e_gf 9 86082 139 1 2 rfl rfl (e_iload_iload_n 12 0 1 1 rfl (e_iaload 13 0 (e_ireturn 14 0 )))))
set_option maxHeartbeats 100000 in
def k97_0 : ex_C := c_aload 0 (c_iload 1 (c_invV [] cd_97 2 2 133 0 (k97_5)))
set_option maxHeartbeats 100000 in
theorem kE97_0 : ex_CE 0 [] cd_97 k97_0 q97_0 := e_aload_aload_n 0 0 0 0 rfl (e_iload_iload_n 1 0 1 1 rfl (e_invV_invokevirtual 2 1220610 129 2 133 0 rfl rfl rfl rfl rfl rfl (kE97_5)))
def kt_97 : Nat → Option ex_C := fun pc => @Bool.rec (fun _ => Nat → Option ex_C) (fun pc => @Bool.rec (fun _ => Option ex_C) none (some k97_5) (Nat.beq pc 5)) (fun pc => @Bool.rec (fun _ => Option ex_C) none (some k97_0) (Nat.beq pc 0)) (Nat.ble pc 0) pc
theorem ktE_97 : ex_CTT 0 [] cd_97 kt_97 cd_97 := (ex_ct2 (ex_ct1 kE97_0) (ex_ct1 kE97_5))
set_option maxHeartbeats 100000 in
def k98_70 : ex_C := c_iload 6 (c_ireturn  0)
set_option maxHeartbeats 100000 in
theorem kE98_70 : ex_CE 0 [] cd_98 k98_70 q98_70 := e_iload_iload 70 0 6 (e_ireturn 72 0 )
set_option maxHeartbeats 100000 in
def k98_66 : ex_C := c_aload 0 (c_invV [] cd_98 67 1 149 0 (k98_70))
set_option maxHeartbeats 100000 in
theorem kE98_66 : ex_CE 0 [] cd_98 k98_66 q98_66 := e_aload_aload_n 66 0 0 0 rfl (e_invV_invokevirtual 67 1351681 153 1 149 0 rfl rfl rfl rfl rfl rfl (kE98_70))
set_option maxHeartbeats 100000 in
def k98_43 : ex_C := c_aload 0 (c_gf 0 0 (c_gf 1 2 (c_iload 1 (c_iaload (c_istore 6 (c_aload 0 (c_gf 0 0 (c_iload 1 (c_iload 2 (c_iload 3 (c_iload 4 (c_invV [] cd_98 63 5 41 1 (k98_66)))))))))))))
set_option maxHeartbeats 100000 in
theorem kE98_43 : ex_CE 0 [] cd_98 k98_43 q98_43 := e_aload_aload_n 43 0 0 0 rfl (e_gf 44 86016 10 0 0 rfl rfl (e_gf 47 86082 139 1 2 rfl rfl (e_iload_iload_n 50 0 1 1 rfl (e_iaload 51 0 (e_istore_istore 52 0 6 (e_aload_aload_n 54 0 0 0 rfl (e_gf 55 86016 10 0 0 rfl rfl (e_iload_iload_n 58 0 1 1 rfl (e_iload_iload_n 59 0 2 2 rfl (e_iload_iload_n 60 0 3 3 rfl (e_iload_iload 61 0 4 (e_invV_invokevirtual 63 466981 118 5 41 1 rfl rfl rfl rfl rfl rfl (kE98_66)))))))))))))
set_option maxHeartbeats 100000 in
def k98_22 : ex_C := c_istore 5 (c_iload 5 (c_if_lt 43 (c_iload 5 (c_iload 1 (c_icmp_eq 43 (c_newx 549755813891))))))
set_option maxHeartbeats 100000 in
theorem kE98_22 : ex_CE 0 [] cd_98 k98_22 q98_22 := e_istore_istore 22 0 5 (e_iload_iload 24 0 5 (e_if_lt 26 43 17 (e_iload_iload 29 0 5 (e_iload_iload_n 31 0 1 1 rfl (e_icmp_eq 32 43 11 (e_newx 35 1003 150 152 549755813891 rfl rfl rfl))))))
set_option maxHeartbeats 100000 in
def k98_13 : ex_C := c_aload 0 (c_gf 0 0 (c_iload 2 (c_iload 3 (c_invV [] cd_98 19 3 42 1 (k98_22)))))
set_option maxHeartbeats 100000 in
theorem kE98_13 : ex_CE 0 [] cd_98 k98_13 q98_13 := e_aload_aload_n 13 0 0 0 rfl (e_gf 14 86016 10 0 0 rfl rfl (e_iload_iload_n 17 0 2 2 rfl (e_iload_iload_n 18 0 3 3 rfl (e_invV_invokevirtual 19 475171 146 3 42 1 rfl rfl rfl rfl rfl rfl (kE98_22)))))
set_option maxHeartbeats 100000 in
def k98_5 : ex_C := c_aload 0 (c_iload 2 (c_iload 3 (c_iload 4 (c_invV [] cd_98 10 4 134 0 (k98_13)))))
set_option maxHeartbeats 100000 in
theorem kE98_5 : ex_CE 0 [] cd_98 k98_5 q98_5 := e_aload_aload_n 5 0 0 0 rfl (e_iload_iload_n 6 0 2 2 rfl (e_iload_iload_n 7 0 3 3 rfl (e_iload_iload 8 0 4 (e_invV_invokevirtual 10 1228804 142 4 134 0 rfl rfl rfl rfl rfl rfl (kE98_13)))))
set_option maxHeartbeats 100000 in
def k98_0 : ex_C := c_aload 0 (c_iload 1 (c_invV [] cd_98 2 2 133 0 (k98_5)))
set_option maxHeartbeats 100000 in
theorem kE98_0 : ex_CE 0 [] cd_98 k98_0 q98_0 := e_aload_aload_n 0 0 0 0 rfl (e_iload_iload_n 1 0 1 1 rfl (e_invV_invokevirtual 2 1220610 129 2 133 0 rfl rfl rfl rfl rfl rfl (kE98_5)))
def kt_98 : Nat → Option ex_C := fun pc => @Bool.rec (fun _ => Nat → Option ex_C) (fun pc => @Bool.rec (fun _ => Nat → Option ex_C) (fun pc => @Bool.rec (fun _ => Nat → Option ex_C) (fun pc => @Bool.rec (fun _ => Option ex_C) none (some k98_70) (Nat.beq pc 70)) (fun pc => @Bool.rec (fun _ => Option ex_C) none (some k98_66) (Nat.beq pc 66)) (Nat.ble pc 66) pc) (fun pc => @Bool.rec (fun _ => Nat → Option ex_C) (fun pc => @Bool.rec (fun _ => Option ex_C) none (some k98_43) (Nat.beq pc 43)) (fun pc => @Bool.rec (fun _ => Option ex_C) none (some k98_22) (Nat.beq pc 22)) (Nat.ble pc 22) pc) (Nat.ble pc 43) pc) (fun pc => @Bool.rec (fun _ => Nat → Option ex_C) (fun pc => @Bool.rec (fun _ => Nat → Option ex_C) (fun pc => @Bool.rec (fun _ => Option ex_C) none (some k98_13) (Nat.beq pc 13)) (fun pc => @Bool.rec (fun _ => Option ex_C) none (some k98_5) (Nat.beq pc 5)) (Nat.ble pc 5) pc) (fun pc => @Bool.rec (fun _ => Option ex_C) none (some k98_0) (Nat.beq pc 0)) (Nat.ble pc 0) pc) (Nat.ble pc 13) pc
theorem ktE_98 : ex_CTT 0 [] cd_98 kt_98 cd_98 := (ex_ct2 (ex_ct2 (ex_ct1 kE98_0) (ex_ct2 (ex_ct1 kE98_5) (ex_ct1 kE98_13))) (ex_ct2 (ex_ct2 (ex_ct1 kE98_22) (ex_ct1 kE98_43)) (ex_ct2 (ex_ct1 kE98_66) (ex_ct1 kE98_70))))
set_option maxHeartbeats 100000 in
def k99_139 : ex_C := c_iload 6 (c_ireturn  0)
set_option maxHeartbeats 100000 in
theorem kE99_139 : ex_CE 0 [] cd_99 k99_139 q99_139 := e_iload_iload 139 0 6 (e_ireturn 141 0 )
set_option maxHeartbeats 100000 in
def k99_135 : ex_C := c_aload 0 (c_invV [] cd_99 136 1 149 0 (k99_139))
set_option maxHeartbeats 100000 in
theorem kE99_135 : ex_CE 0 [] cd_99 k99_135 q99_135 := e_aload_aload_n 135 0 0 0 rfl (e_invV_invokevirtual 136 1351681 153 1 149 0 rfl rfl rfl rfl rfl rfl (kE99_139))
set_option maxHeartbeats 100000 in
def k99_122 : ex_C := c_aload 0 (c_gf 0 0 (c_iload 2 (c_iload 3 (c_iload 4 (c_iload 5 (c_invV [] cd_99 132 5 41 1 (k99_135)))))))
set_option maxHeartbeats 100000 in
theorem kE99_122 : ex_CE 0 [] cd_99 k99_122 q99_122 := e_aload_aload_n 122 0 0 0 rfl (e_gf 123 86016 10 0 0 rfl rfl (e_iload_iload_n 126 0 2 2 rfl (e_iload_iload_n 127 0 3 3 rfl (e_iload_iload 128 0 4 (e_iload_iload 130 0 5 (e_invV_invokevirtual 132 466981 118 5 41 1 rfl rfl rfl rfl rfl rfl (kE99_135)))))))
set_option maxHeartbeats 100000 in
def k99_84 : ex_C := c_iadd (c_istore 6 (c_aload 0 (c_gf 0 0 (c_iload 1 (c_aload 0 (c_gf 0 0 (c_gf 1 0 (c_iload 2 (c_iaload (c_aload 0 (c_gf 0 0 (c_gf 1 1 (c_iload 2 (c_iaload (c_aload 0 (c_gf 0 0 (c_gf 1 2 (c_iload 2 (c_iaload (c_invV [] cd_99 119 5 41 1 (k99_122)))))))))))))))))))))
set_option maxHeartbeats 100000 in
theorem kE99_84 : ex_CE 0 [] cd_99 k99_84 q99_84 := e_iadd 84 0 (e_istore_istore 85 0 6 (e_aload_aload_n 87 0 0 0 rfl (e_gf 88 86016 10 0 0 rfl rfl (e_iload_iload_n 91 0 1 1 rfl (e_aload_aload_n 92 0 0 0 rfl (e_gf 93 86016 10 0 0 rfl rfl (e_gf 96 86080 133 1 0 rfl rfl (e_iload_iload_n 99 0 2 2 rfl (e_iaload 100 0 (e_aload_aload_n 101 0 0 0 rfl (e_gf 102 86016 10 0 0 rfl rfl (e_gf 105 86081 136 1 1 rfl rfl (e_iload_iload_n 108 0 2 2 rfl (e_iaload 109 0 (e_aload_aload_n 110 0 0 0 rfl (e_gf 111 86016 10 0 0 rfl rfl (e_gf 114 86082 139 1 2 rfl rfl (e_iload_iload_n 117 0 2 2 rfl (e_iaload 118 0 (e_invV_invokevirtual 119 466981 118 5 41 1 rfl rfl rfl rfl rfl rfl (kE99_122)))))))))))))))))))))
set_option maxHeartbeats 100000 in
def k99_69 : ex_C := c_iload 4 (c_aload 0 (c_gf 0 0 (c_gf 1 1 (c_iload 2 (c_iaload (c_isub (c_invS [] cd_99 81 1 160 (k99_84))))))))
set_option maxHeartbeats 100000 in
theorem kE99_69 : ex_CE 0 [] cd_99 k99_69 q99_69 := e_iload_iload 69 0 4 (e_aload_aload_n 71 0 0 0 rfl (e_gf 72 86016 10 0 0 rfl rfl (e_gf 75 86081 136 1 1 rfl rfl (e_iload_iload_n 78 0 2 2 rfl (e_iaload 79 0 (e_isub 80 0 (e_invS 81 1449953 159 1 160 rfl rfl rfl (kE99_84))))))))
set_option maxHeartbeats 100000 in
def k99_23 : ex_C := c_aload 0 (c_gf 0 0 (c_gf 1 0 (c_iload 1 (c_iaload (c_istore 3 (c_aload 0 (c_gf 0 0 (c_gf 1 1 (c_iload 1 (c_iaload (c_istore 4 (c_aload 0 (c_gf 0 0 (c_gf 1 2 (c_iload 1 (c_iaload (c_istore 5 (c_iload 3 (c_aload 0 (c_gf 0 0 (c_gf 1 0 (c_iload 2 (c_iaload (c_isub (c_invS [] cd_99 66 1 160 (k99_69))))))))))))))))))))))))))
set_option maxHeartbeats 100000 in
theorem kE99_23 : ex_CE 0 [] cd_99 k99_23 q99_23 := e_aload_aload_n 23 0 0 0 rfl (e_gf 24 86016 10 0 0 rfl rfl (e_gf 27 86080 133 1 0 rfl rfl (e_iload_iload_n 30 0 1 1 rfl (e_iaload 31 0 (e_istore_istore_n 32 0 3 3 rfl (e_aload_aload_n 33 0 0 0 rfl (e_gf 34 86016 10 0 0 rfl rfl (e_gf 37 86081 136 1 1 rfl rfl (e_iload_iload_n 40 0 1 1 rfl (e_iaload 41 0 (e_istore_istore 42 0 4 (e_aload_aload_n 44 0 0 0 rfl (e_gf 45 86016 10 0 0 rfl rfl (e_gf 48 86082 139 1 2 rfl rfl (e_iload_iload_n 51 0 1 1 rfl (e_iaload 52 0 (e_istore_istore 53 0 5 (e_iload_iload_n 55 0 3 3 rfl (e_aload_aload_n 56 0 0 0 rfl (e_gf 57 86016 10 0 0 rfl rfl (e_gf 60 86080 133 1 0 rfl rfl (e_iload_iload_n 63 0 2 2 rfl (e_iaload 64 0 (e_isub 65 0 (e_invS 66 1449953 159 1 160 rfl rfl rfl (kE99_69))))))))))))))))))))))))))
set_option maxHeartbeats 100000 in
def k99_10 : ex_C := c_iload 1 (c_iload 2 (c_icmp_ne 23 (c_newx 549755813890)))
set_option maxHeartbeats 100000 in
theorem kE99_10 : ex_CE 0 [] cd_99 k99_10 q99_10 := e_iload_iload_n 10 0 1 1 rfl (e_iload_iload_n 11 0 2 2 rfl (e_icmp_ne 12 23 11 (e_newx 15 1002 156 158 549755813890 rfl rfl rfl)))
set_option maxHeartbeats 100000 in
def k99_5 : ex_C := c_aload 0 (c_iload 2 (c_invV [] cd_99 7 2 133 0 (k99_10)))
set_option maxHeartbeats 100000 in
theorem kE99_5 : ex_CE 0 [] cd_99 k99_5 q99_5 := e_aload_aload_n 5 0 0 0 rfl (e_iload_iload_n 6 0 2 2 rfl (e_invV_invokevirtual 7 1220610 129 2 133 0 rfl rfl rfl rfl rfl rfl (kE99_10)))
set_option maxHeartbeats 100000 in
def k99_0 : ex_C := c_aload 0 (c_iload 1 (c_invV [] cd_99 2 2 133 0 (k99_5)))
set_option maxHeartbeats 100000 in
theorem kE99_0 : ex_CE 0 [] cd_99 k99_0 q99_0 := e_aload_aload_n 0 0 0 0 rfl (e_iload_iload_n 1 0 1 1 rfl (e_invV_invokevirtual 2 1220610 129 2 133 0 rfl rfl rfl rfl rfl rfl (kE99_5)))
def kt_99 : Nat → Option ex_C := fun pc => @Bool.rec (fun _ => Nat → Option ex_C) (fun pc => @Bool.rec (fun _ => Nat → Option ex_C) (fun pc => @Bool.rec (fun _ => Nat → Option ex_C) (fun pc => @Bool.rec (fun _ => Nat → Option ex_C) (fun pc => @Bool.rec (fun _ => Option ex_C) none (some k99_139) (Nat.beq pc 139)) (fun pc => @Bool.rec (fun _ => Option ex_C) none (some k99_135) (Nat.beq pc 135)) (Nat.ble pc 135) pc) (fun pc => @Bool.rec (fun _ => Option ex_C) none (some k99_122) (Nat.beq pc 122)) (Nat.ble pc 122) pc) (fun pc => @Bool.rec (fun _ => Nat → Option ex_C) (fun pc => @Bool.rec (fun _ => Option ex_C) none (some k99_84) (Nat.beq pc 84)) (fun pc => @Bool.rec (fun _ => Option ex_C) none (some k99_69) (Nat.beq pc 69)) (Nat.ble pc 69) pc) (Nat.ble pc 84) pc) (fun pc => @Bool.rec (fun _ => Nat → Option ex_C) (fun pc => @Bool.rec (fun _ => Nat → Option ex_C) (fun pc => @Bool.rec (fun _ => Option ex_C) none (some k99_23) (Nat.beq pc 23)) (fun pc => @Bool.rec (fun _ => Option ex_C) none (some k99_10) (Nat.beq pc 10)) (Nat.ble pc 10) pc) (fun pc => @Bool.rec (fun _ => Nat → Option ex_C) (fun pc => @Bool.rec (fun _ => Option ex_C) none (some k99_5) (Nat.beq pc 5)) (fun pc => @Bool.rec (fun _ => Option ex_C) none (some k99_0) (Nat.beq pc 0)) (Nat.ble pc 0) pc) (Nat.ble pc 5) pc) (Nat.ble pc 23) pc
theorem ktE_99 : ex_CTT 0 [] cd_99 kt_99 cd_99 := (ex_ct2 (ex_ct2 (ex_ct2 (ex_ct1 kE99_0) (ex_ct1 kE99_5)) (ex_ct2 (ex_ct1 kE99_10) (ex_ct1 kE99_23))) (ex_ct2 (ex_ct2 (ex_ct1 kE99_69) (ex_ct1 kE99_84)) (ex_ct2 (ex_ct1 kE99_122) (ex_ct2 (ex_ct1 kE99_135) (ex_ct1 kE99_139)))))
set_option maxHeartbeats 100000 in
def k100_92 : ex_C := c_aload 0 (c_gf 0 0 (c_gf 1 2 (c_psh 0 (c_iaload (c_ireturn  0)))))
set_option maxHeartbeats 100000 in
theorem kE100_92 : ex_CE 0 [] cd_100 k100_92 q100_92 := e_aload_aload_n 92 0 0 0 rfl (e_gf 93 86016 10 0 0 rfl rfl (e_gf 96 86082 139 1 2 rfl rfl (e_psh_iconst 99 0 0 (e_iaload 100 0 (e_ireturn 101 0 )))))
set_option maxHeartbeats 100000 in
def k100_88 : ex_C := c_aload 0 (c_invV [] cd_100 89 1 149 0 (k100_92))
set_option maxHeartbeats 100000 in
theorem kE100_88 : ex_CE 0 [] cd_100 k100_88 q100_88 := e_aload_aload_n 88 0 0 0 rfl (e_invV_invokevirtual 89 1351681 153 1 149 0 rfl rfl rfl rfl rfl rfl (kE100_92))
set_option maxHeartbeats 100000 in
def k100_82 : ex_C := c_iinc 2 1 (c_goto 20)
set_option maxHeartbeats 100000 in
theorem kE100_82 : ex_CE 0 [] cd_100 k100_82 q100_82 := e_iinc 82 1 2 1 (e_goto 85 20 (-65))
set_option maxHeartbeats 100000 in
def k100_66 : ex_C := c_aload 0 (c_gf 0 0 (c_gf 1 2 (c_iload 2 (c_iaload (c_iload 1 (c_isub (c_psh 3 (c_iand (c_invV [] cd_100 79 5 41 1 (k100_82))))))))))
set_option maxHeartbeats 100000 in
theorem kE100_66 : ex_CE 0 [] cd_100 k100_66 q100_66 := e_aload_aload_n 66 0 0 0 rfl (e_gf 67 86016 10 0 0 rfl rfl (e_gf 70 86082 139 1 2 rfl rfl (e_iload_iload_n 73 0 2 2 rfl (e_iaload 74 0 (e_iload_iload_n 75 0 1 1 rfl (e_isub 76 0 (e_psh_iconst 77 3 3 (e_iand 78 0 (e_invV_invokevirtual 79 466981 118 5 41 1 rfl rfl rfl rfl rfl rfl (kE100_82))))))))))
set_option maxHeartbeats 100000 in
def k100_59 : ex_C := c_iload 3 (c_iload 4 (c_iload 1 (c_invS [] cd_100 63 3 156 (k100_66))))
set_option maxHeartbeats 100000 in
theorem kE100_59 : ex_CE 0 [] cd_100 k100_59 q100_59 := e_iload_iload_n 59 0 3 3 rfl (e_iload_iload 60 0 4 (e_iload_iload_n 62 0 1 1 rfl (e_invS 63 1417187 169 3 156 rfl rfl rfl (kE100_66))))
set_option maxHeartbeats 100000 in
def k100_20 : ex_C := c_iload 2 (c_psh 8 (c_icmp_ge 88 (c_aload 0 (c_gf 0 0 (c_gf 1 0 (c_iload 2 (c_iaload (c_istore 3 (c_aload 0 (c_gf 0 0 (c_gf 1 1 (c_iload 2 (c_iaload (c_istore 4 (c_aload 0 (c_gf 0 0 (c_iload 2 (c_iload 3 (c_iload 4 (c_iload 1 (c_invS [] cd_100 56 3 155 (k100_59))))))))))))))))))))))
set_option maxHeartbeats 100000 in
theorem kE100_20 : ex_CE 0 [] cd_100 k100_20 q100_20 := e_iload_iload_n 20 0 2 2 rfl (e_psh_bipush 21 8 8 (e_icmp_ge 23 88 65 (e_aload_aload_n 26 0 0 0 rfl (e_gf 27 86016 10 0 0 rfl rfl (e_gf 30 86080 133 1 0 rfl rfl (e_iload_iload_n 33 0 2 2 rfl (e_iaload 34 0 (e_istore_istore_n 35 0 3 3 rfl (e_aload_aload_n 36 0 0 0 rfl (e_gf 37 86016 10 0 0 rfl rfl (e_gf 40 86081 136 1 1 rfl rfl (e_iload_iload_n 43 0 2 2 rfl (e_iaload 44 0 (e_istore_istore 45 0 4 (e_aload_aload_n 47 0 0 0 rfl (e_gf 48 86016 10 0 0 rfl rfl (e_iload_iload_n 51 0 2 2 rfl (e_iload_iload_n 52 0 3 3 rfl (e_iload_iload 53 0 4 (e_iload_iload_n 55 0 1 1 rfl (e_invS 56 1408995 165 3 155 rfl rfl rfl (kE100_59))))))))))))))))))))))
set_option maxHeartbeats 100000 in
def k100_18 : ex_C := c_psh 0 (c_istore 2 (k100_20))
set_option maxHeartbeats 100000 in
theorem kE100_18 : ex_CE 0 [] cd_100 k100_18 q100_18 := e_psh_iconst 18 0 0 (e_istore_istore_n 19 0 2 2 rfl (kE100_20))
set_option maxHeartbeats 100000 in
def k100_10 : ex_C := c_newx 549755813890
set_option maxHeartbeats 100000 in
theorem kE100_10 : ex_CE 0 [] cd_100 k100_10 q100_10 := e_newx 10 1002 156 158 549755813890 rfl rfl rfl
set_option maxHeartbeats 100000 in
def k100_0 : ex_C := c_iload 1 (c_psh 1 (c_icmp_lt 10 (c_iload 1 (c_psh 3 (c_icmp_le 18 (k100_10))))))
set_option maxHeartbeats 100000 in
theorem kE100_0 : ex_CE 0 [] cd_100 k100_0 q100_0 := e_iload_iload_n 0 0 1 1 rfl (e_psh_iconst 1 1 1 (e_icmp_lt 2 10 8 (e_iload_iload_n 5 0 1 1 rfl (e_psh_iconst 6 3 3 (e_icmp_le 7 18 11 (kE100_10))))))
def kt_100 : Nat → Option ex_C := fun pc => @Bool.rec (fun _ => Nat → Option ex_C) (fun pc => @Bool.rec (fun _ => Nat → Option ex_C) (fun pc => @Bool.rec (fun _ => Nat → Option ex_C) (fun pc => @Bool.rec (fun _ => Nat → Option ex_C) (fun pc => @Bool.rec (fun _ => Option ex_C) none (some k100_92) (Nat.beq pc 92)) (fun pc => @Bool.rec (fun _ => Option ex_C) none (some k100_88) (Nat.beq pc 88)) (Nat.ble pc 88) pc) (fun pc => @Bool.rec (fun _ => Option ex_C) none (some k100_82) (Nat.beq pc 82)) (Nat.ble pc 82) pc) (fun pc => @Bool.rec (fun _ => Nat → Option ex_C) (fun pc => @Bool.rec (fun _ => Option ex_C) none (some k100_66) (Nat.beq pc 66)) (fun pc => @Bool.rec (fun _ => Option ex_C) none (some k100_59) (Nat.beq pc 59)) (Nat.ble pc 59) pc) (Nat.ble pc 66) pc) (fun pc => @Bool.rec (fun _ => Nat → Option ex_C) (fun pc => @Bool.rec (fun _ => Nat → Option ex_C) (fun pc => @Bool.rec (fun _ => Option ex_C) none (some k100_20) (Nat.beq pc 20)) (fun pc => @Bool.rec (fun _ => Option ex_C) none (some k100_18) (Nat.beq pc 18)) (Nat.ble pc 18) pc) (fun pc => @Bool.rec (fun _ => Nat → Option ex_C) (fun pc => @Bool.rec (fun _ => Option ex_C) none (some k100_10) (Nat.beq pc 10)) (fun pc => @Bool.rec (fun _ => Option ex_C) none (some k100_0) (Nat.beq pc 0)) (Nat.ble pc 0) pc) (Nat.ble pc 10) pc) (Nat.ble pc 20) pc
theorem ktE_100 : ex_CTT 0 [] cd_100 kt_100 cd_100 := (ex_ct2 (ex_ct2 (ex_ct2 (ex_ct1 kE100_0) (ex_ct1 kE100_10)) (ex_ct2 (ex_ct1 kE100_18) (ex_ct1 kE100_20))) (ex_ct2 (ex_ct2 (ex_ct1 kE100_59) (ex_ct1 kE100_66)) (ex_ct2 (ex_ct1 kE100_82) (ex_ct2 (ex_ct1 kE100_88) (ex_ct1 kE100_92)))))
set_option maxHeartbeats 100000 in
def k101_22 : ex_C := c_iload 3 (c_ireturn  0)
set_option maxHeartbeats 100000 in
theorem kE101_22 : ex_CE 0 [] cd_101 k101_22 q101_22 := e_iload_iload_n 22 0 3 3 rfl (e_ireturn 23 0 )
set_option maxHeartbeats 100000 in
def k101_9 : ex_C := c_istore 3 (c_iload 3 (c_if_ge 22 (c_newx 549755813892)))
set_option maxHeartbeats 100000 in
theorem kE101_9 : ex_CE 0 [] cd_101 k101_9 q101_9 := e_istore_istore_n 9 0 3 3 rfl (e_iload_iload_n 10 0 3 3 rfl (e_if_ge 11 22 11 (e_newx 14 1004 172 174 549755813892 rfl rfl rfl)))
set_option maxHeartbeats 100000 in
def k101_0 : ex_C := c_aload 0 (c_gf 0 0 (c_iload 1 (c_iload 2 (c_invV [] cd_101 6 3 42 1 (k101_9)))))
set_option maxHeartbeats 100000 in
theorem kE101_0 : ex_CE 0 [] cd_101 k101_0 q101_0 := e_aload_aload_n 0 0 0 0 rfl (e_gf 1 86016 10 0 0 rfl rfl (e_iload_iload_n 4 0 1 1 rfl (e_iload_iload_n 5 0 2 2 rfl (e_invV_invokevirtual 6 475171 146 3 42 1 rfl rfl rfl rfl rfl rfl (kE101_9)))))
def kt_101 : Nat → Option ex_C := fun pc => @Bool.rec (fun _ => Nat → Option ex_C) (fun pc => @Bool.rec (fun _ => Nat → Option ex_C) (fun pc => @Bool.rec (fun _ => Option ex_C) none (some k101_22) (Nat.beq pc 22)) (fun pc => @Bool.rec (fun _ => Option ex_C) none (some k101_9) (Nat.beq pc 9)) (Nat.ble pc 9) pc) (fun pc => @Bool.rec (fun _ => Option ex_C) none (some k101_0) (Nat.beq pc 0)) (Nat.ble pc 0) pc
theorem ktE_101 : ex_CTT 0 [] cd_101 kt_101 cd_101 := (ex_ct2 (ex_ct1 kE101_0) (ex_ct2 (ex_ct1 kE101_9) (ex_ct1 kE101_22)))
set_option maxHeartbeats 100000 in
def k102_43 : ex_C := c_iload 3 (c_ireturn  0)
set_option maxHeartbeats 100000 in
theorem kE102_43 : ex_CE 0 [] cd_102 k102_43 q102_43 := e_iload_iload_n 43 0 3 3 rfl (e_ireturn 44 0 )
set_option maxHeartbeats 100000 in
def k102_22 : ex_C := c_aload 0 (c_gf 0 3 (c_iload 1 (c_iaload (c_istore 3 (c_aload 0 (c_gf 0 3 (c_iload 1 (c_iload 2 (c_iastore (c_aload 0 (c_gf 0 8 (c_invV [] cd_102 40 1 46 6 (k102_43)))))))))))))
set_option maxHeartbeats 100000 in
theorem kE102_22 : ex_CE 0 [] cd_102 k102_22 q102_22 := e_aload_aload_n 22 0 0 0 rfl (e_gf 23 86019 22 0 3 rfl rfl (e_iload_iload_n 26 0 1 1 rfl (e_iaload 27 0 (e_istore_istore_n 28 0 3 3 rfl (e_aload_aload_n 29 0 0 0 rfl (e_gf 30 86019 22 0 3 rfl rfl (e_iload_iload_n 33 0 1 1 rfl (e_iload_iload_n 34 0 2 2 rfl (e_iastore 35 0 (e_aload_aload_n 36 0 0 0 rfl (e_gf 37 86024 52 0 8 rfl rfl (e_invV_invokevirtual 40 508097 175 1 46 6 rfl rfl rfl rfl rfl rfl (kE102_43)))))))))))))
set_option maxHeartbeats 100000 in
def k102_14 : ex_C := c_newx 549755813890
set_option maxHeartbeats 100000 in
theorem kE102_14 : ex_CE 0 [] cd_102 k102_14 q102_14 := e_newx 14 1002 156 158 549755813890 rfl rfl rfl
set_option maxHeartbeats 100000 in
def k102_5 : ex_C := c_iload 2 (c_if_lt 14 (c_iload 2 (c_psh 3 (c_icmp_le 22 (k102_14)))))
set_option maxHeartbeats 100000 in
theorem kE102_5 : ex_CE 0 [] cd_102 k102_5 q102_5 := e_iload_iload_n 5 0 2 2 rfl (e_if_lt 6 14 8 (e_iload_iload_n 9 0 2 2 rfl (e_psh_iconst 10 3 3 (e_icmp_le 11 22 11 (kE102_14)))))
set_option maxHeartbeats 100000 in
def k102_0 : ex_C := c_aload 0 (c_iload 1 (c_invV [] cd_102 2 2 133 0 (k102_5)))
set_option maxHeartbeats 100000 in
theorem kE102_0 : ex_CE 0 [] cd_102 k102_0 q102_0 := e_aload_aload_n 0 0 0 0 rfl (e_iload_iload_n 1 0 1 1 rfl (e_invV_invokevirtual 2 1220610 129 2 133 0 rfl rfl rfl rfl rfl rfl (kE102_5)))
def kt_102 : Nat → Option ex_C := fun pc => @Bool.rec (fun _ => Nat → Option ex_C) (fun pc => @Bool.rec (fun _ => Nat → Option ex_C) (fun pc => @Bool.rec (fun _ => Nat → Option ex_C) (fun pc => @Bool.rec (fun _ => Option ex_C) none (some k102_43) (Nat.beq pc 43)) (fun pc => @Bool.rec (fun _ => Option ex_C) none (some k102_22) (Nat.beq pc 22)) (Nat.ble pc 22) pc) (fun pc => @Bool.rec (fun _ => Option ex_C) none (some k102_14) (Nat.beq pc 14)) (Nat.ble pc 14) pc) (fun pc => @Bool.rec (fun _ => Nat → Option ex_C) (fun pc => @Bool.rec (fun _ => Option ex_C) none (some k102_5) (Nat.beq pc 5)) (fun pc => @Bool.rec (fun _ => Option ex_C) none (some k102_0) (Nat.beq pc 0)) (Nat.ble pc 0) pc) (Nat.ble pc 5) pc
theorem ktE_102 : ex_CTT 0 [] cd_102 kt_102 cd_102 := (ex_ct2 (ex_ct2 (ex_ct1 kE102_0) (ex_ct1 kE102_5)) (ex_ct2 (ex_ct1 kE102_14) (ex_ct2 (ex_ct1 kE102_22) (ex_ct1 kE102_43))))
set_option maxHeartbeats 100000 in
def k103_79 : ex_C := c_ireturn  0
set_option maxHeartbeats 100000 in
theorem kE103_79 : ex_CE 0 [] cd_103 k103_79 q103_79 := e_ireturn 79 0 
set_option maxHeartbeats 100000 in
def k103_63 : ex_C := c_aload 0 (c_gf 0 6 (c_iload 6 (c_iload 2 (c_iload 7 (c_iload 8 (c_iload 9 (c_invV [] cd_103 76 6 4 5 (k103_79))))))))
set_option maxHeartbeats 100000 in
theorem kE103_63 : ex_CE 0 [] cd_103 k103_63 q103_63 := e_aload_aload_n 63 0 0 0 rfl (e_gf 64 86022 41 0 6 rfl rfl (e_iload_iload 67 0 6 (e_iload_iload_n 69 0 2 2 rfl (e_iload_iload 70 0 7 (e_iload_iload 72 0 8 (e_iload_iload 74 0 9 (e_invV_invokevirtual 76 164006 201 6 4 5 rfl rfl rfl rfl rfl rfl (kE103_79))))))))
set_option maxHeartbeats 100000 in
def k103_56 : ex_C := c_aload 0 (c_gf 0 8 (c_invV [] cd_103 60 1 46 6 (k103_63)))
set_option maxHeartbeats 100000 in
theorem kE103_56 : ex_CE 0 [] cd_103 k103_56 q103_56 := e_aload_aload_n 56 0 0 0 rfl (e_gf 57 86024 52 0 8 rfl rfl (e_invV_invokevirtual 60 508097 175 1 46 6 rfl rfl rfl rfl rfl rfl (kE103_63)))
set_option maxHeartbeats 100000 in
def k103_45 : ex_C := c_if_ne 56 (c_newx 549755813893)
set_option maxHeartbeats 100000 in
theorem kE103_45 : ex_CE 0 [] cd_103 k103_45 q103_45 := e_if_ne 45 56 11 (e_newx 48 1005 178 180 549755813893 rfl rfl rfl)
set_option maxHeartbeats 100000 in
def k103_35 : ex_C := c_aload 0 (c_gf 0 6 (c_iload 6 (c_iload 2 (c_invV [] cd_103 42 3 3 5 (k103_45)))))
set_option maxHeartbeats 100000 in
theorem kE103_35 : ex_CE 0 [] cd_103 k103_35 q103_35 := e_aload_aload_n 35 0 0 0 rfl (e_gf 36 86022 41 0 6 rfl rfl (e_iload_iload 39 0 6 (e_iload_iload_n 41 0 2 2 rfl (e_invV_invokevirtual 42 155811 197 3 3 5 rfl rfl rfl rfl rfl rfl (kE103_45)))))
set_option maxHeartbeats 100000 in
def k103_28 : ex_C := c_istore 9 (c_aload 0 (c_iload 2 (c_invV [] cd_103 32 2 135 0 (k103_35))))
set_option maxHeartbeats 100000 in
theorem kE103_28 : ex_CE 0 [] cd_103 k103_28 q103_28 := e_istore_istore 28 0 9 (e_aload_aload_n 30 0 0 0 rfl (e_iload_iload_n 31 0 2 2 rfl (e_invV_invokevirtual 32 1236994 181 2 135 0 rfl rfl rfl rfl rfl rfl (kE103_35))))
set_option maxHeartbeats 100000 in
def k103_20 : ex_C := c_istore 8 (c_aload 0 (c_iload 5 (c_invV [] cd_103 25 2 140 0 (k103_28))))
set_option maxHeartbeats 100000 in
theorem kE103_20 : ex_CE 0 [] cd_103 k103_20 q103_20 := e_istore_istore 20 0 8 (e_aload_aload_n 22 0 0 0 rfl (e_iload_iload 23 0 5 (e_invV_invokevirtual 25 1277954 194 2 140 0 rfl rfl rfl rfl rfl rfl (kE103_28))))
set_option maxHeartbeats 100000 in
def k103_12 : ex_C := c_istore 7 (c_aload 0 (c_iload 4 (c_invV [] cd_103 17 2 139 0 (k103_20))))
set_option maxHeartbeats 100000 in
theorem kE103_12 : ex_CE 0 [] cd_103 k103_12 q103_12 := e_istore_istore 12 0 7 (e_aload_aload_n 14 0 0 0 rfl (e_iload_iload 15 0 4 (e_invV_invokevirtual 17 1269762 191 2 139 0 rfl rfl rfl rfl rfl rfl (kE103_20))))
set_option maxHeartbeats 100000 in
def k103_5 : ex_C := c_istore 6 (c_aload 0 (c_iload 3 (c_invV [] cd_103 9 2 138 0 (k103_12))))
set_option maxHeartbeats 100000 in
theorem kE103_5 : ex_CE 0 [] cd_103 k103_5 q103_5 := e_istore_istore 5 0 6 (e_aload_aload_n 7 0 0 0 rfl (e_iload_iload_n 8 0 3 3 rfl (e_invV_invokevirtual 9 1261570 188 2 138 0 rfl rfl rfl rfl rfl rfl (kE103_12))))
set_option maxHeartbeats 100000 in
def k103_0 : ex_C := c_aload 0 (c_iload 1 (c_invV [] cd_103 2 2 137 0 (k103_5)))
set_option maxHeartbeats 100000 in
theorem kE103_0 : ex_CE 0 [] cd_103 k103_0 q103_0 := e_aload_aload_n 0 0 0 0 rfl (e_iload_iload_n 1 0 1 1 rfl (e_invV_invokevirtual 2 1253378 184 2 137 0 rfl rfl rfl rfl rfl rfl (kE103_5)))
def kt_103 : Nat → Option ex_C := fun pc => @Bool.rec (fun _ => Nat → Option ex_C) (fun pc => @Bool.rec (fun _ => Nat → Option ex_C) (fun pc => @Bool.rec (fun _ => Nat → Option ex_C) (fun pc => @Bool.rec (fun _ => Nat → Option ex_C) (fun pc => @Bool.rec (fun _ => Option ex_C) none (some k103_79) (Nat.beq pc 79)) (fun pc => @Bool.rec (fun _ => Option ex_C) none (some k103_63) (Nat.beq pc 63)) (Nat.ble pc 63) pc) (fun pc => @Bool.rec (fun _ => Option ex_C) none (some k103_56) (Nat.beq pc 56)) (Nat.ble pc 56) pc) (fun pc => @Bool.rec (fun _ => Nat → Option ex_C) (fun pc => @Bool.rec (fun _ => Option ex_C) none (some k103_45) (Nat.beq pc 45)) (fun pc => @Bool.rec (fun _ => Option ex_C) none (some k103_35) (Nat.beq pc 35)) (Nat.ble pc 35) pc) (Nat.ble pc 45) pc) (fun pc => @Bool.rec (fun _ => Nat → Option ex_C) (fun pc => @Bool.rec (fun _ => Nat → Option ex_C) (fun pc => @Bool.rec (fun _ => Nat → Option ex_C) (fun pc => @Bool.rec (fun _ => Option ex_C) none (some k103_28) (Nat.beq pc 28)) (fun pc => @Bool.rec (fun _ => Option ex_C) none (some k103_20) (Nat.beq pc 20)) (Nat.ble pc 20) pc) (fun pc => @Bool.rec (fun _ => Option ex_C) none (some k103_12) (Nat.beq pc 12)) (Nat.ble pc 12) pc) (fun pc => @Bool.rec (fun _ => Nat → Option ex_C) (fun pc => @Bool.rec (fun _ => Option ex_C) none (some k103_5) (Nat.beq pc 5)) (fun pc => @Bool.rec (fun _ => Option ex_C) none (some k103_0) (Nat.beq pc 0)) (Nat.ble pc 0) pc) (Nat.ble pc 5) pc) (Nat.ble pc 28) pc
theorem ktE_103 : ex_CTT 0 [] cd_103 kt_103 cd_103 := (ex_ct2 (ex_ct2 (ex_ct2 (ex_ct1 kE103_0) (ex_ct1 kE103_5)) (ex_ct2 (ex_ct1 kE103_12) (ex_ct2 (ex_ct1 kE103_20) (ex_ct1 kE103_28)))) (ex_ct2 (ex_ct2 (ex_ct1 kE103_35) (ex_ct1 kE103_45)) (ex_ct2 (ex_ct1 kE103_56) (ex_ct2 (ex_ct1 kE103_63) (ex_ct1 kE103_79)))))
set_option maxHeartbeats 100000 in
def k104_5 : ex_C := c_aload 0 (c_gf 0 7 (c_gf 6 5 (c_ireturn  0)))
set_option maxHeartbeats 100000 in
theorem kE104_5 : ex_CE 0 [] cd_104 k104_5 q104_5 := e_aload_aload_n 5 0 0 0 rfl (e_gf 6 86023 48 0 7 rfl rfl (e_gf 9 389 225 6 5 rfl rfl (e_ireturn 12 0 )))
set_option maxHeartbeats 100000 in
def k104_0 : ex_C := c_aload 0 (c_iload 1 (c_invV [] cd_104 2 2 142 0 (k104_5)))
set_option maxHeartbeats 100000 in
theorem kE104_0 : ex_CE 0 [] cd_104 k104_0 q104_0 := e_aload_aload_n 0 0 0 0 rfl (e_iload_iload_n 1 0 1 1 rfl (e_invV_invokevirtual 2 1294338 221 2 142 0 rfl rfl rfl rfl rfl rfl (kE104_5)))
def kt_104 : Nat → Option ex_C := fun pc => @Bool.rec (fun _ => Nat → Option ex_C) (fun pc => @Bool.rec (fun _ => Option ex_C) none (some k104_5) (Nat.beq pc 5)) (fun pc => @Bool.rec (fun _ => Option ex_C) none (some k104_0) (Nat.beq pc 0)) (Nat.ble pc 0) pc
theorem ktE_104 : ex_CTT 0 [] cd_104 kt_104 cd_104 := (ex_ct2 (ex_ct1 kE104_0) (ex_ct1 kE104_5))
set_option maxHeartbeats 100000 in
def k105_202 : ex_C := c_iload 9 (c_ireturn  0)
set_option maxHeartbeats 100000 in
theorem kE105_202 : ex_CE 0 [] cd_105 k105_202 q105_202 := e_iload_iload 202 0 9 (e_ireturn 204 0 )
set_option maxHeartbeats 100000 in
def k105_177 : ex_C := c_iload 9 (c_aload 0 (c_gf 0 7 (c_gf 6 5 (c_icmp_ge 202 (c_aload 0 (c_gf 0 8 (c_aload 0 (c_gf 0 7 (c_iload 9 (c_invV [] cd_105 199 3 51 6 (k105_202)))))))))))
set_option maxHeartbeats 100000 in
theorem kE105_177 : ex_CE 0 [] cd_105 k105_177 q105_177 := e_iload_iload 177 0 9 (e_aload_aload_n 179 0 0 0 rfl (e_gf 180 86023 48 0 7 rfl rfl (e_gf 183 389 225 6 5 rfl rfl (e_icmp_ge 186 202 16 (e_aload_aload_n 189 0 0 0 rfl (e_gf 190 86024 52 0 8 rfl rfl (e_aload_aload_n 193 0 0 0 rfl (e_gf 194 86023 48 0 7 rfl rfl (e_iload_iload 197 0 9 (e_invV_invokevirtual 199 549059 260 3 51 6 rfl rfl rfl rfl rfl rfl (kE105_202)))))))))))
set_option maxHeartbeats 100000 in
def k105_170 : ex_C := c_aload 0 (c_gf 0 8 (c_invV [] cd_105 174 1 46 6 (k105_177)))
set_option maxHeartbeats 100000 in
theorem kE105_170 : ex_CE 0 [] cd_105 k105_170 q105_170 := e_aload_aload_n 170 0 0 0 rfl (e_gf 171 86024 52 0 8 rfl rfl (e_invV_invokevirtual 174 508097 175 1 46 6 rfl rfl rfl rfl rfl rfl (kE105_177)))
set_option maxHeartbeats 100000 in
def k105_167 : ex_C := c_invV [] cd_105 167 2 144 0 (k105_170)
set_option maxHeartbeats 100000 in
theorem kE105_167 : ex_CE 0 [] cd_105 k105_167 q105_167 := e_invV_invokevirtual 167 1310722 257 2 144 0 rfl rfl rfl rfl rfl rfl (kE105_170)
set_option maxHeartbeats 100000 in
def k105_157 : ex_C := c_aload 0 (c_aload 0 (c_gf 0 7 (c_iload 9 (c_invV [] cd_105 164 2 53 6 (k105_167)))))
set_option maxHeartbeats 100000 in
theorem kE105_157 : ex_CE 0 [] cd_105 k105_157 q105_157 := e_aload_aload_n 157 0 0 0 rfl (e_aload_aload_n 158 0 0 0 rfl (e_gf 159 86023 48 0 7 rfl rfl (e_iload_iload 162 0 9 (e_invV_invokevirtual 164 565442 254 2 53 6 rfl rfl rfl rfl rfl rfl (kE105_167)))))
set_option maxHeartbeats 100000 in
def k105_145 : ex_C := c_aload 0 (c_gf 0 9 (c_aload 0 (c_gf 0 0 (c_iload 1 (c_invV [] cd_105 154 3 36 7 (k105_157))))))
set_option maxHeartbeats 100000 in
theorem kE105_145 : ex_CE 0 [] cd_105 k105_145 q105_145 := e_aload_aload_n 145 0 0 0 rfl (e_gf 146 86025 58 0 9 rfl rfl (e_aload_aload_n 149 0 0 0 rfl (e_gf 150 86016 10 0 0 rfl rfl (e_iload_iload_n 153 0 1 1 rfl (e_invV_invokevirtual 154 426211 250 3 36 7 rfl rfl rfl rfl rfl rfl (kE105_157))))))
set_option maxHeartbeats 100000 in
def k105_139 : ex_C := c_iload 9 (c_psh 0 (c_invV [] cd_105 142 5 143 0 (k105_145)))
set_option maxHeartbeats 100000 in
theorem kE105_139 : ex_CE 0 [] cd_105 k105_139 q105_139 := e_iload_iload 139 0 9 (e_psh_iconst 141 0 0 (e_invV_invokevirtual 142 1302533 246 5 143 0 rfl rfl rfl rfl rfl rfl (kE105_145)))
set_option maxHeartbeats 100000 in
def k105_138 : ex_C := c_psh 0 (k105_139)
set_option maxHeartbeats 100000 in
theorem kE105_138 : ex_CE 0 [] cd_105 k105_138 q105_138 := e_psh_iconst 138 0 0 (kE105_139)
set_option maxHeartbeats 100000 in
def k105_121 : ex_C := c_aload 0 (c_aload 0 (c_gf 0 7 (c_iload 8 (c_iload 5 (c_irem   (c_if_ne 138 (c_psh 1 (c_goto 139))))))))
set_option maxHeartbeats 100000 in
theorem kE105_121 : ex_CE 0 [] cd_105 k105_121 q105_121 := e_aload_aload_n 121 0 0 0 rfl (e_aload_aload_n 122 0 0 0 rfl (e_gf 123 86023 48 0 7 rfl rfl (e_iload_iload 126 0 8 (e_iload_iload 128 0 5 (e_irem 130 0  (e_if_ne 131 138 7 (e_psh_iconst 134 1 1 (e_goto 135 139 4))))))))
set_option maxHeartbeats 100000 in
def k105_87 : ex_C := c_aload 0 (c_gf 0 7 (c_gf 6 5 (c_iload 4 (c_imul (c_istore 8 (c_iload 8 (c_iload 5 (c_idiv   (c_istore 9 (c_aload 0 (c_gf 0 5 (c_aload 0 (c_gf 0 0 (c_aload 0 (c_gf 0 3 (c_invV [] cd_105 118 3 58 2 (k105_121)))))))))))))))))
set_option maxHeartbeats 100000 in
theorem kE105_87 : ex_CE 0 [] cd_105 k105_87 q105_87 := e_aload_aload_n 87 0 0 0 rfl (e_gf 88 86023 48 0 7 rfl rfl (e_gf 91 389 225 6 5 rfl rfl (e_iload_iload 94 0 4 (e_imul 96 0 (e_istore_istore 97 0 8 (e_iload_iload 99 0 8 (e_iload_iload 101 0 5 (e_idiv 103 0  (e_istore_istore 104 0 9 (e_aload_aload_n 106 0 0 0 rfl (e_gf 107 86021 34 0 5 rfl rfl (e_aload_aload_n 110 0 0 0 rfl (e_gf 111 86016 10 0 0 rfl rfl (e_aload_aload_n 114 0 0 0 rfl (e_gf 115 86019 22 0 3 rfl rfl (e_invV_invokevirtual 118 606275 242 3 58 2 rfl rfl rfl rfl rfl rfl (kE105_121)))))))))))))))))
set_option maxHeartbeats 100000 in
def k105_76 : ex_C := c_aload 0 (c_gf 0 7 (c_iload 6 (c_iload 7 (c_invV [] cd_105 84 3 49 6 (k105_87)))))
set_option maxHeartbeats 100000 in
theorem kE105_76 : ex_CE 0 [] cd_105 k105_76 q105_76 := e_aload_aload_n 76 0 0 0 rfl (e_gf 77 86023 48 0 7 rfl rfl (e_iload_iload 80 0 6 (e_iload_iload 82 0 7 (e_invV_invokevirtual 84 532675 238 3 49 6 rfl rfl rfl rfl rfl rfl (kE105_87)))))
set_option maxHeartbeats 100000 in
def k105_71 : ex_C := c_aload 0 (c_iload 1 (c_invV [] cd_105 73 2 142 0 (k105_76)))
set_option maxHeartbeats 100000 in
theorem kE105_71 : ex_CE 0 [] cd_105 k105_71 q105_71 := e_aload_aload_n 71 0 0 0 rfl (e_iload_iload_n 72 0 1 1 rfl (e_invV_invokevirtual 73 1294338 221 2 142 0 rfl rfl rfl rfl rfl rfl (kE105_76)))
set_option maxHeartbeats 100000 in
def k105_63 : ex_C := c_newx 549755813890
set_option maxHeartbeats 100000 in
theorem kE105_63 : ex_CE 0 [] cd_105 k105_63 q105_63 := e_newx 63 1002 156 158 549755813890 rfl rfl rfl
set_option maxHeartbeats 100000 in
def k105_36 : ex_C := c_iload 4 (c_psh 1 (c_icmp_lt 63 (c_iload 4 (c_psh 12 (c_icmp_gt 63 (c_iload 5 (c_iload 4 (c_icmp_lt 63 (c_iload 5 (c_psh 12 (c_icmp_le 71 (k105_63))))))))))))
set_option maxHeartbeats 100000 in
theorem kE105_36 : ex_CE 0 [] cd_105 k105_36 q105_36 := e_iload_iload 36 0 4 (e_psh_iconst 38 1 1 (e_icmp_lt 39 63 24 (e_iload_iload 42 0 4 (e_psh_bipush 44 12 12 (e_icmp_gt 46 63 17 (e_iload_iload 49 0 5 (e_iload_iload 51 0 4 (e_icmp_lt 53 63 10 (e_iload_iload 56 0 5 (e_psh_bipush 58 12 12 (e_icmp_le 60 71 11 (kE105_63))))))))))))
set_option maxHeartbeats 100000 in
def k105_20 : ex_C := c_if_ge 36 (c_iload 6 (c_if_eq 36 (c_newx 549755813890)))
set_option maxHeartbeats 100000 in
theorem kE105_20 : ex_CE 0 [] cd_105 k105_20 q105_20 := e_if_ge 20 36 16 (e_iload_iload 23 0 6 (e_if_eq 25 36 11 (e_newx 28 1002 156 158 549755813890 rfl rfl rfl)))
set_option maxHeartbeats 100000 in
def k105_12 : ex_C := c_istore 7 (c_psh 17179869202 (c_iload 1 (c_invV [] cd_105 17 2 166 18 (k105_20))))
set_option maxHeartbeats 100000 in
theorem kE105_12 : ex_CE 0 [] cd_105 k105_12 q105_12 := e_istore_istore 12 0 7 (e_psh_ldc 14 17179869202 231 (e_iload_iload_n 16 0 1 1 rfl (e_invV_invokevirtual 17 1491522 233 2 166 18 rfl rfl rfl rfl rfl rfl (kE105_20))))
set_option maxHeartbeats 100000 in
def k105_5 : ex_C := c_istore 6 (c_aload 0 (c_iload 3 (c_invV [] cd_105 9 2 140 0 (k105_12))))
set_option maxHeartbeats 100000 in
theorem kE105_5 : ex_CE 0 [] cd_105 k105_5 q105_5 := e_istore_istore 5 0 6 (e_aload_aload_n 7 0 0 0 rfl (e_iload_iload_n 8 0 3 3 rfl (e_invV_invokevirtual 9 1277954 194 2 140 0 rfl rfl rfl rfl rfl rfl (kE105_12))))
set_option maxHeartbeats 100000 in
def k105_0 : ex_C := c_aload 0 (c_iload 2 (c_invV [] cd_105 2 2 139 0 (k105_5)))
set_option maxHeartbeats 100000 in
theorem kE105_0 : ex_CE 0 [] cd_105 k105_0 q105_0 := e_aload_aload_n 0 0 0 0 rfl (e_iload_iload_n 1 0 2 2 rfl (e_invV_invokevirtual 2 1269762 191 2 139 0 rfl rfl rfl rfl rfl rfl (kE105_5)))
def kt_105 : Nat → Option ex_C := fun pc => @Bool.rec (fun _ => Nat → Option ex_C) (fun pc => @Bool.rec (fun _ => Nat → Option ex_C) (fun pc => @Bool.rec (fun _ => Nat → Option ex_C) (fun pc => @Bool.rec (fun _ => Nat → Option ex_C) (fun pc => @Bool.rec (fun _ => Nat → Option ex_C) (fun pc => @Bool.rec (fun _ => Option ex_C) none (some k105_202) (Nat.beq pc 202)) (fun pc => @Bool.rec (fun _ => Option ex_C) none (some k105_177) (Nat.beq pc 177)) (Nat.ble pc 177) pc) (fun pc => @Bool.rec (fun _ => Option ex_C) none (some k105_170) (Nat.beq pc 170)) (Nat.ble pc 170) pc) (fun pc => @Bool.rec (fun _ => Nat → Option ex_C) (fun pc => @Bool.rec (fun _ => Option ex_C) none (some k105_167) (Nat.beq pc 167)) (fun pc => @Bool.rec (fun _ => Option ex_C) none (some k105_157) (Nat.beq pc 157)) (Nat.ble pc 157) pc) (Nat.ble pc 167) pc) (fun pc => @Bool.rec (fun _ => Nat → Option ex_C) (fun pc => @Bool.rec (fun _ => Nat → Option ex_C) (fun pc => @Bool.rec (fun _ => Option ex_C) none (some k105_145) (Nat.beq pc 145)) (fun pc => @Bool.rec (fun _ => Option ex_C) none (some k105_139) (Nat.beq pc 139)) (Nat.ble pc 139) pc) (fun pc => @Bool.rec (fun _ => Nat → Option ex_C) (fun pc => @Bool.rec (fun _ => Option ex_C) none (some k105_138) (Nat.beq pc 138)) (fun pc => @Bool.rec (fun _ => Option ex_C) none (some k105_121) (Nat.beq pc 121)) (Nat.ble pc 121) pc) (Nat.ble pc 138) pc) (Nat.ble pc 145) pc) (fun pc => @Bool.rec (fun _ => Nat → Option ex_C) (fun pc => @Bool.rec (fun _ => Nat → Option ex_C) (fun pc => @Bool.rec (fun _ => Nat → Option ex_C) (fun pc => @Bool.rec (fun _ => Nat → Option ex_C) (fun pc => @Bool.rec (fun _ => Option ex_C) none (some k105_87) (Nat.beq pc 87)) (fun pc => @Bool.rec (fun _ => Option ex_C) none (some k105_76) (Nat.beq pc 76)) (Nat.ble pc 76) pc) (fun pc => @Bool.rec (fun _ => Option ex_C) none (some k105_71) (Nat.beq pc 71)) (Nat.ble pc 71) pc) (fun pc => @Bool.rec (fun _ => Nat → Option ex_C) (fun pc => @Bool.rec (fun _ => Option ex_C) none (some k105_63) (Nat.beq pc 63)) (fun pc => @Bool.rec (fun _ => Option ex_C) none (some k105_36) (Nat.beq pc 36)) (Nat.ble pc 36) pc) (Nat.ble pc 63) pc) (fun pc => @Bool.rec (fun _ => Nat → Option ex_C) (fun pc => @Bool.rec (fun _ => Nat → Option ex_C) (fun pc => @Bool.rec (fun _ => Option ex_C) none (some k105_20) (Nat.beq pc 20)) (fun pc => @Bool.rec (fun _ => Option ex_C) none (some k105_12) (Nat.beq pc 12)) (Nat.ble pc 12) pc) (fun pc => @Bool.rec (fun _ => Nat → Option ex_C) (fun pc => @Bool.rec (fun _ => Option ex_C) none (some k105_5) (Nat.beq pc 5)) (fun pc => @Bool.rec (fun _ => Option ex_C) none (some k105_0) (Nat.beq pc 0)) (Nat.ble pc 0) pc) (Nat.ble pc 5) pc) (Nat.ble pc 20) pc) (Nat.ble pc 87) pc
theorem ktE_105 : ex_CTT 0 [] cd_105 kt_105 cd_105 := (ex_ct2 (ex_ct2 (ex_ct2 (ex_ct2 (ex_ct1 kE105_0) (ex_ct1 kE105_5)) (ex_ct2 (ex_ct1 kE105_12) (ex_ct1 kE105_20))) (ex_ct2 (ex_ct2 (ex_ct1 kE105_36) (ex_ct1 kE105_63)) (ex_ct2 (ex_ct1 kE105_71) (ex_ct2 (ex_ct1 kE105_76) (ex_ct1 kE105_87))))) (ex_ct2 (ex_ct2 (ex_ct2 (ex_ct1 kE105_121) (ex_ct1 kE105_138)) (ex_ct2 (ex_ct1 kE105_139) (ex_ct1 kE105_145))) (ex_ct2 (ex_ct2 (ex_ct1 kE105_157) (ex_ct1 kE105_167)) (ex_ct2 (ex_ct1 kE105_170) (ex_ct2 (ex_ct1 kE105_177) (ex_ct1 kE105_202))))))
set_option maxHeartbeats 100000 in
def k106_99 : ex_C := c_iload 1 (c_ireturn  0)
set_option maxHeartbeats 100000 in
theorem kE106_99 : ex_CE 0 [] cd_106 k106_99 q106_99 := e_iload_iload_n 99 0 1 1 rfl (e_ireturn 100 0 )
set_option maxHeartbeats 100000 in
def k106_92 : ex_C := c_aload 0 (c_gf 0 8 (c_invV [] cd_106 96 1 46 6 (k106_99)))
set_option maxHeartbeats 100000 in
theorem kE106_92 : ex_CE 0 [] cd_106 k106_92 q106_92 := e_aload_aload_n 92 0 0 0 rfl (e_gf 93 86024 52 0 8 rfl rfl (e_invV_invokevirtual 96 508097 175 1 46 6 rfl rfl rfl rfl rfl rfl (kE106_99)))
set_option maxHeartbeats 100000 in
def k106_88 : ex_C := c_isub (c_invV [] cd_106 89 2 144 0 (k106_92))
set_option maxHeartbeats 100000 in
theorem kE106_88 : ex_CE 0 [] cd_106 k106_88 q106_88 := e_isub 88 0 (e_invV_invokevirtual 89 1310722 257 2 144 0 rfl rfl rfl rfl rfl rfl (kE106_92))
set_option maxHeartbeats 100000 in
def k106_66 : ex_C := c_aload 0 (c_aload 0 (c_gf 0 8 (c_gf 6 6 (c_aload 0 (c_gf 0 8 (c_aload 0 (c_gf 0 8 (c_gf 6 8 (c_invV [] cd_106 85 2 53 6 (k106_88))))))))))
set_option maxHeartbeats 100000 in
theorem kE106_66 : ex_CE 0 [] cd_106 k106_66 q106_66 := e_aload_aload_n 66 0 0 0 rfl (e_aload_aload_n 67 0 0 0 rfl (e_gf 68 86024 52 0 8 rfl rfl (e_gf 71 390 218 6 6 rfl rfl (e_aload_aload_n 74 0 0 0 rfl (e_gf 75 86024 52 0 8 rfl rfl (e_aload_aload_n 78 0 0 0 rfl (e_gf 79 86024 52 0 8 rfl rfl (e_gf 82 392 270 6 8 rfl rfl (e_invV_invokevirtual 85 565442 254 2 53 6 rfl rfl rfl rfl rfl rfl (kE106_88))))))))))
set_option maxHeartbeats 100000 in
def k106_43 : ex_C := c_aload 0 (c_aload 0 (c_gf 0 8 (c_psh 1 (c_aload 0 (c_gf 0 8 (c_gf 6 5 (c_aload 0 (c_gf 0 8 (c_gf 6 8 (c_invV [] cd_106 63 5 143 0 (k106_66)))))))))))
set_option maxHeartbeats 100000 in
theorem kE106_43 : ex_CE 0 [] cd_106 k106_43 q106_43 := e_aload_aload_n 43 0 0 0 rfl (e_aload_aload_n 44 0 0 0 rfl (e_gf 45 86024 52 0 8 rfl rfl (e_psh_iconst 48 1 1 (e_aload_aload_n 49 0 0 0 rfl (e_gf 50 86024 52 0 8 rfl rfl (e_gf 53 389 225 6 5 rfl rfl (e_aload_aload_n 56 0 0 0 rfl (e_gf 57 86024 52 0 8 rfl rfl (e_gf 60 392 270 6 8 rfl rfl (e_invV_invokevirtual 63 1302533 246 5 143 0 rfl rfl rfl rfl rfl rfl (kE106_66)))))))))))
set_option maxHeartbeats 100000 in
def k106_28 : ex_C := c_aload 0 (c_gf 0 5 (c_aload 0 (c_gf 0 2 (c_aload 0 (c_gf 0 3 (c_invV [] cd_106 40 3 58 2 (k106_43)))))))
set_option maxHeartbeats 100000 in
theorem kE106_28 : ex_CE 0 [] cd_106 k106_28 q106_28 := e_aload_aload_n 28 0 0 0 rfl (e_gf 29 86021 34 0 5 rfl rfl (e_aload_aload_n 32 0 0 0 rfl (e_gf 33 86018 19 0 2 rfl rfl (e_aload_aload_n 36 0 0 0 rfl (e_gf 37 86019 22 0 3 rfl rfl (e_invV_invokevirtual 40 606275 242 3 58 2 rfl rfl rfl rfl rfl rfl (kE106_43)))))))
set_option maxHeartbeats 100000 in
def k106_17 : ex_C := c_aload 0 (c_gf 0 9 (c_aload 0 (c_gf 0 2 (c_invV [] cd_106 25 2 37 7 (k106_28)))))
set_option maxHeartbeats 100000 in
theorem kE106_17 : ex_CE 0 [] cd_106 k106_17 q106_17 := e_aload_aload_n 17 0 0 0 rfl (e_gf 18 86025 58 0 9 rfl rfl (e_aload_aload_n 21 0 0 0 rfl (e_gf 22 86018 19 0 2 rfl rfl (e_invV_invokevirtual 25 434402 267 2 37 7 rfl rfl rfl rfl rfl rfl (kE106_28)))))
set_option maxHeartbeats 100000 in
def k106_4 : ex_C := c_istore 1 (c_iload 1 (c_if_ne 17 (c_newx 549755813893)))
set_option maxHeartbeats 100000 in
theorem kE106_4 : ex_CE 0 [] cd_106 k106_4 q106_4 := e_istore_istore_n 4 0 1 1 rfl (e_iload_iload_n 5 0 1 1 rfl (e_if_ne 6 17 11 (e_newx 9 1005 178 180 549755813893 rfl rfl rfl)))
set_option maxHeartbeats 100000 in
def k106_0 : ex_C := c_aload 0 (c_invV [] cd_106 1 1 107 0 (k106_4))
set_option maxHeartbeats 100000 in
theorem kE106_0 : ex_CE 0 [] cd_106 k106_0 q106_0 := e_aload_aload_n 0 0 0 0 rfl (e_invV_invokevirtual 1 1007617 264 1 107 0 rfl rfl rfl rfl rfl rfl (kE106_4))
def kt_106 : Nat → Option ex_C := fun pc => @Bool.rec (fun _ => Nat → Option ex_C) (fun pc => @Bool.rec (fun _ => Nat → Option ex_C) (fun pc => @Bool.rec (fun _ => Nat → Option ex_C) (fun pc => @Bool.rec (fun _ => Nat → Option ex_C) (fun pc => @Bool.rec (fun _ => Option ex_C) none (some k106_99) (Nat.beq pc 99)) (fun pc => @Bool.rec (fun _ => Option ex_C) none (some k106_92) (Nat.beq pc 92)) (Nat.ble pc 92) pc) (fun pc => @Bool.rec (fun _ => Option ex_C) none (some k106_88) (Nat.beq pc 88)) (Nat.ble pc 88) pc) (fun pc => @Bool.rec (fun _ => Nat → Option ex_C) (fun pc => @Bool.rec (fun _ => Option ex_C) none (some k106_66) (Nat.beq pc 66)) (fun pc => @Bool.rec (fun _ => Option ex_C) none (some k106_43) (Nat.beq pc 43)) (Nat.ble pc 43) pc) (Nat.ble pc 66) pc) (fun pc => @Bool.rec (fun _ => Nat → Option ex_C) (fun pc => @Bool.rec (fun _ => Nat → Option ex_C) (fun pc => @Bool.rec (fun _ => Option ex_C) none (some k106_28) (Nat.beq pc 28)) (fun pc => @Bool.rec (fun _ => Option ex_C) none (some k106_17) (Nat.beq pc 17)) (Nat.ble pc 17) pc) (fun pc => @Bool.rec (fun _ => Nat → Option ex_C) (fun pc => @Bool.rec (fun _ => Option ex_C) none (some k106_4) (Nat.beq pc 4)) (fun pc => @Bool.rec (fun _ => Option ex_C) none (some k106_0) (Nat.beq pc 0)) (Nat.ble pc 0) pc) (Nat.ble pc 4) pc) (Nat.ble pc 28) pc
theorem ktE_106 : ex_CTT 0 [] cd_106 kt_106 cd_106 := (ex_ct2 (ex_ct2 (ex_ct2 (ex_ct1 kE106_0) (ex_ct1 kE106_4)) (ex_ct2 (ex_ct1 kE106_17) (ex_ct1 kE106_28))) (ex_ct2 (ex_ct2 (ex_ct1 kE106_43) (ex_ct1 kE106_66)) (ex_ct2 (ex_ct1 kE106_88) (ex_ct2 (ex_ct1 kE106_92) (ex_ct1 kE106_99)))))
set_option maxHeartbeats 100000 in
def k107_0 : ex_C := c_aload 0 (c_gf 0 8 (c_gf 6 5 (c_aload 0 (c_gf 0 8 (c_gf 6 8 (c_isub (c_ireturn  0)))))))
set_option maxHeartbeats 100000 in
theorem kE107_0 : ex_CE 0 [] cd_107 k107_0 q107_0 := e_aload_aload_n 0 0 0 0 rfl (e_gf 1 86024 52 0 8 rfl rfl (e_gf 4 389 225 6 5 rfl rfl (e_aload_aload_n 7 0 0 0 rfl (e_gf 8 86024 52 0 8 rfl rfl (e_gf 11 392 270 6 8 rfl rfl (e_isub 14 0 (e_ireturn 15 0 )))))))
def kt_107 : Nat → Option ex_C := fun pc => @Bool.rec (fun _ => Option ex_C) none (some k107_0) (Nat.beq pc 0)
theorem ktE_107 : ex_CTT 0 [] cd_107 kt_107 cd_107 := (ex_ct1 kE107_0)
set_option maxHeartbeats 100000 in
def k108_0 : ex_C := c_aload 0 (c_gf 0 13 (c_gf 11 2 (c_ireturn  2)))
set_option maxHeartbeats 100000 in
theorem kE108_0 : ex_CE 2 [] cd_108 k108_0 q108_0 := e_aload_aload_n 0 0 0 0 rfl (e_gf 1 86029 86 0 13 rfl rfl (e_gf 4 8898 273 11 2 rfl rfl (e_ireturn 7 0 )))
def kt_108 : Nat → Option ex_C := fun pc => @Bool.rec (fun _ => Option ex_C) none (some k108_0) (Nat.beq pc 0)
theorem ktE_108 : ex_CTT 2 [] cd_108 kt_108 cd_108 := (ex_ct1 kE108_0)
set_option maxHeartbeats 100000 in
def k109_18 : ex_C := c_aload 0 (c_gf 0 13 (c_gf 11 3 (c_ireturn  0)))
set_option maxHeartbeats 100000 in
theorem kE109_18 : ex_CE 0 [] cd_109 k109_18 q109_18 := e_aload_aload_n 18 0 0 0 rfl (e_gf 19 86029 86 0 13 rfl rfl (e_gf 22 707 277 11 3 rfl rfl (e_ireturn 25 0 )))
set_option maxHeartbeats 100000 in
def k109_0 : ex_C := c_aload 0 (c_gf 0 13 (c_gf 11 3 (c_if_ge 18 (c_newx 549755813892))))
set_option maxHeartbeats 100000 in
theorem kE109_0 : ex_CE 0 [] cd_109 k109_0 q109_0 := e_aload_aload_n 0 0 0 0 rfl (e_gf 1 86029 86 0 13 rfl rfl (e_gf 4 707 277 11 3 rfl rfl (e_if_ge 7 18 11 (e_newx 10 1004 172 174 549755813892 rfl rfl rfl))))
def kt_109 : Nat → Option ex_C := fun pc => @Bool.rec (fun _ => Nat → Option ex_C) (fun pc => @Bool.rec (fun _ => Option ex_C) none (some k109_18) (Nat.beq pc 18)) (fun pc => @Bool.rec (fun _ => Option ex_C) none (some k109_0) (Nat.beq pc 0)) (Nat.ble pc 0) pc
theorem ktE_109 : ex_CTT 0 [] cd_109 kt_109 cd_109 := (ex_ct2 (ex_ct1 kE109_0) (ex_ct1 kE109_18))
set_option maxHeartbeats 100000 in
def k110_85 : ex_C := c_ireturn  1
set_option maxHeartbeats 100000 in
theorem kE110_85 : ex_CE 1 [] cd_110 k110_85 q110_85 := e_ireturn 85 0 
set_option maxHeartbeats 100000 in
def k110_84 : ex_C := c_psh 0 (k110_85)
set_option maxHeartbeats 100000 in
theorem kE110_84 : ex_CE 1 [] cd_110 k110_84 q110_84 := e_psh_iconst 84 0 0 (kE110_85)
set_option maxHeartbeats 100000 in
def k110_75 : ex_C := c_psh 45 (c_icmp_ne 84 (c_psh 1 (c_goto 85)))
set_option maxHeartbeats 100000 in
theorem kE110_75 : ex_CE 1 [] cd_110 k110_75 q110_75 := e_psh_bipush 75 45 45 (e_icmp_ne 77 84 7 (e_psh_iconst 80 1 1 (e_goto 81 85 4)))
set_option maxHeartbeats 100000 in
def k110_56 : ex_C := c_aload 0 (c_gf 0 5 (c_aload 0 (c_gf 0 7 (c_aload 0 (c_gf 0 7 (c_gf 6 5 (c_psh 0 (c_invV [] cd_110 72 4 59 2 (k110_75)))))))))
set_option maxHeartbeats 100000 in
theorem kE110_56 : ex_CE 1 [] cd_110 k110_56 q110_56 := e_aload_aload_n 56 0 0 0 rfl (e_gf 57 86021 34 0 5 rfl rfl (e_aload_aload_n 60 0 0 0 rfl (e_gf 61 86023 48 0 7 rfl rfl (e_aload_aload_n 64 0 0 0 rfl (e_gf 65 86023 48 0 7 rfl rfl (e_gf 68 389 225 6 5 rfl rfl (e_psh_iconst 71 0 0 (e_invV_invokevirtual 72 614468 283 4 59 2 rfl rfl rfl rfl rfl rfl (kE110_75)))))))))
set_option maxHeartbeats 100000 in
def k110_41 : ex_C := c_aload 0 (c_gf 0 5 (c_aload 0 (c_gf 0 0 (c_aload 0 (c_gf 0 3 (c_invV [] cd_110 53 3 58 2 (k110_56)))))))
set_option maxHeartbeats 100000 in
theorem kE110_41 : ex_CE 1 [] cd_110 k110_41 q110_41 := e_aload_aload_n 41 0 0 0 rfl (e_gf 42 86021 34 0 5 rfl rfl (e_aload_aload_n 45 0 0 0 rfl (e_gf 46 86016 10 0 0 rfl rfl (e_aload_aload_n 49 0 0 0 rfl (e_gf 50 86019 22 0 3 rfl rfl (e_invV_invokevirtual 53 606275 242 3 58 2 rfl rfl rfl rfl rfl rfl (kE110_56)))))))
set_option maxHeartbeats 100000 in
def k110_30 : ex_C := c_aload 0 (c_gf 0 7 (c_iload 5 (c_iload 6 (c_invV [] cd_110 38 3 49 6 (k110_41)))))
set_option maxHeartbeats 100000 in
theorem kE110_30 : ex_CE 1 [] cd_110 k110_30 q110_30 := e_aload_aload_n 30 0 0 0 rfl (e_gf 31 86023 48 0 7 rfl rfl (e_iload_iload 34 0 5 (e_iload_iload 36 0 6 (e_invV_invokevirtual 38 532675 238 3 49 6 rfl rfl rfl rfl rfl rfl (kE110_41)))))
set_option maxHeartbeats 100000 in
def k110_19 : ex_C := c_istore 6 (c_aload 0 (c_gf 0 7 (c_iload 4 (c_invV [] cd_110 27 2 48 6 (k110_30)))))
set_option maxHeartbeats 100000 in
theorem kE110_19 : ex_CE 1 [] cd_110 k110_19 q110_19 := e_istore_istore 19 0 6 (e_aload_aload_n 21 0 0 0 rfl (e_gf 22 86023 48 0 7 rfl rfl (e_iload_iload 25 0 4 (e_invV_invokevirtual 27 524482 280 2 48 6 rfl rfl rfl rfl rfl rfl (kE110_30)))))
set_option maxHeartbeats 100000 in
def k110_12 : ex_C := c_istore 5 (c_aload 0 (c_iload 3 (c_invV [] cd_110 16 2 140 0 (k110_19))))
set_option maxHeartbeats 100000 in
theorem kE110_12 : ex_CE 1 [] cd_110 k110_12 q110_12 := e_istore_istore 12 0 5 (e_aload_aload_n 14 0 0 0 rfl (e_iload_iload_n 15 0 3 3 rfl (e_invV_invokevirtual 16 1277954 194 2 140 0 rfl rfl rfl rfl rfl rfl (kE110_19))))
set_option maxHeartbeats 100000 in
def k110_5 : ex_C := c_istore 4 (c_aload 0 (c_iload 2 (c_invV [] cd_110 9 2 139 0 (k110_12))))
set_option maxHeartbeats 100000 in
theorem kE110_5 : ex_CE 1 [] cd_110 k110_5 q110_5 := e_istore_istore 5 0 4 (e_aload_aload_n 7 0 0 0 rfl (e_iload_iload_n 8 0 2 2 rfl (e_invV_invokevirtual 9 1269762 191 2 139 0 rfl rfl rfl rfl rfl rfl (kE110_12))))
set_option maxHeartbeats 100000 in
def k110_0 : ex_C := c_aload 0 (c_iload 1 (c_invV [] cd_110 2 2 138 0 (k110_5)))
set_option maxHeartbeats 100000 in
theorem kE110_0 : ex_CE 1 [] cd_110 k110_0 q110_0 := e_aload_aload_n 0 0 0 0 rfl (e_iload_iload_n 1 0 1 1 rfl (e_invV_invokevirtual 2 1261570 188 2 138 0 rfl rfl rfl rfl rfl rfl (kE110_5)))
def kt_110 : Nat → Option ex_C := fun pc => @Bool.rec (fun _ => Nat → Option ex_C) (fun pc => @Bool.rec (fun _ => Nat → Option ex_C) (fun pc => @Bool.rec (fun _ => Nat → Option ex_C) (fun pc => @Bool.rec (fun _ => Nat → Option ex_C) (fun pc => @Bool.rec (fun _ => Option ex_C) none (some k110_85) (Nat.beq pc 85)) (fun pc => @Bool.rec (fun _ => Option ex_C) none (some k110_84) (Nat.beq pc 84)) (Nat.ble pc 84) pc) (fun pc => @Bool.rec (fun _ => Option ex_C) none (some k110_75) (Nat.beq pc 75)) (Nat.ble pc 75) pc) (fun pc => @Bool.rec (fun _ => Nat → Option ex_C) (fun pc => @Bool.rec (fun _ => Option ex_C) none (some k110_56) (Nat.beq pc 56)) (fun pc => @Bool.rec (fun _ => Option ex_C) none (some k110_41) (Nat.beq pc 41)) (Nat.ble pc 41) pc) (Nat.ble pc 56) pc) (fun pc => @Bool.rec (fun _ => Nat → Option ex_C) (fun pc => @Bool.rec (fun _ => Nat → Option ex_C) (fun pc => @Bool.rec (fun _ => Nat → Option ex_C) (fun pc => @Bool.rec (fun _ => Option ex_C) none (some k110_30) (Nat.beq pc 30)) (fun pc => @Bool.rec (fun _ => Option ex_C) none (some k110_19) (Nat.beq pc 19)) (Nat.ble pc 19) pc) (fun pc => @Bool.rec (fun _ => Option ex_C) none (some k110_12) (Nat.beq pc 12)) (Nat.ble pc 12) pc) (fun pc => @Bool.rec (fun _ => Nat → Option ex_C) (fun pc => @Bool.rec (fun _ => Option ex_C) none (some k110_5) (Nat.beq pc 5)) (fun pc => @Bool.rec (fun _ => Option ex_C) none (some k110_0) (Nat.beq pc 0)) (Nat.ble pc 0) pc) (Nat.ble pc 5) pc) (Nat.ble pc 30) pc
theorem ktE_110 : ex_CTT 1 [] cd_110 kt_110 cd_110 := (ex_ct2 (ex_ct2 (ex_ct2 (ex_ct1 kE110_0) (ex_ct1 kE110_5)) (ex_ct2 (ex_ct1 kE110_12) (ex_ct2 (ex_ct1 kE110_19) (ex_ct1 kE110_30)))) (ex_ct2 (ex_ct2 (ex_ct1 kE110_41) (ex_ct1 kE110_56)) (ex_ct2 (ex_ct1 kE110_75) (ex_ct2 (ex_ct1 kE110_84) (ex_ct1 kE110_85)))))
set_option maxHeartbeats 100000 in
def k111_43 : ex_C := c_aload 0 (c_gf 0 9 (c_gf 7 3 (c_ireturn  0)))
set_option maxHeartbeats 100000 in
theorem kE111_43 : ex_CE 0 [] cd_111 k111_43 q111_43 := e_aload_aload_n 43 0 0 0 rfl (e_gf 44 86025 58 0 9 rfl rfl (e_gf 47 451 287 7 3 rfl rfl (e_ireturn 50 0 )))
set_option maxHeartbeats 100000 in
def k111_36 : ex_C := c_aload 0 (c_gf 0 8 (c_invV [] cd_111 40 1 46 6 (k111_43)))
set_option maxHeartbeats 100000 in
theorem kE111_36 : ex_CE 0 [] cd_111 k111_36 q111_36 := e_aload_aload_n 36 0 0 0 rfl (e_gf 37 86024 52 0 8 rfl rfl (e_invV_invokevirtual 40 508097 175 1 46 6 rfl rfl rfl rfl rfl rfl (kE111_43)))
set_option maxHeartbeats 100000 in
def k111_29 : ex_C := c_aload 0 (c_gf 0 9 (c_invV [] cd_111 33 1 38 7 (k111_36)))
set_option maxHeartbeats 100000 in
theorem kE111_29 : ex_CE 0 [] cd_111 k111_29 q111_29 := e_aload_aload_n 29 0 0 0 rfl (e_gf 30 86025 58 0 9 rfl rfl (e_invV_invokevirtual 33 442593 290 1 38 7 rfl rfl rfl rfl rfl rfl (kE111_36)))
set_option maxHeartbeats 100000 in
def k111_18 : ex_C := c_aload 0 (c_gf 0 9 (c_aload 0 (c_gf 0 0 (c_invV [] cd_111 26 2 37 7 (k111_29)))))
set_option maxHeartbeats 100000 in
theorem kE111_18 : ex_CE 0 [] cd_111 k111_18 q111_18 := e_aload_aload_n 18 0 0 0 rfl (e_gf 19 86025 58 0 9 rfl rfl (e_aload_aload_n 22 0 0 0 rfl (e_gf 23 86016 10 0 0 rfl rfl (e_invV_invokevirtual 26 434402 267 2 37 7 rfl rfl rfl rfl rfl rfl (kE111_29)))))
set_option maxHeartbeats 100000 in
def k111_0 : ex_C := c_aload 0 (c_gf 0 9 (c_gf 7 3 (c_if_ne 18 (c_newx 549755813892))))
set_option maxHeartbeats 100000 in
theorem kE111_0 : ex_CE 0 [] cd_111 k111_0 q111_0 := e_aload_aload_n 0 0 0 0 rfl (e_gf 1 86025 58 0 9 rfl rfl (e_gf 4 451 287 7 3 rfl rfl (e_if_ne 7 18 11 (e_newx 10 1004 172 174 549755813892 rfl rfl rfl))))
def kt_111 : Nat → Option ex_C := fun pc => @Bool.rec (fun _ => Nat → Option ex_C) (fun pc => @Bool.rec (fun _ => Nat → Option ex_C) (fun pc => @Bool.rec (fun _ => Nat → Option ex_C) (fun pc => @Bool.rec (fun _ => Option ex_C) none (some k111_43) (Nat.beq pc 43)) (fun pc => @Bool.rec (fun _ => Option ex_C) none (some k111_36) (Nat.beq pc 36)) (Nat.ble pc 36) pc) (fun pc => @Bool.rec (fun _ => Option ex_C) none (some k111_29) (Nat.beq pc 29)) (Nat.ble pc 29) pc) (fun pc => @Bool.rec (fun _ => Nat → Option ex_C) (fun pc => @Bool.rec (fun _ => Option ex_C) none (some k111_18) (Nat.beq pc 18)) (fun pc => @Bool.rec (fun _ => Option ex_C) none (some k111_0) (Nat.beq pc 0)) (Nat.ble pc 0) pc) (Nat.ble pc 18) pc
theorem ktE_111 : ex_CTT 0 [] cd_111 kt_111 cd_111 := (ex_ct2 (ex_ct2 (ex_ct1 kE111_0) (ex_ct1 kE111_18)) (ex_ct2 (ex_ct1 kE111_29) (ex_ct2 (ex_ct1 kE111_36) (ex_ct1 kE111_43))))
set_option maxHeartbeats 100000 in
def k112_0 : ex_C := c_aload 0 (c_gf 0 9 (c_gf 7 3 (c_ireturn  0)))
set_option maxHeartbeats 100000 in
theorem kE112_0 : ex_CE 0 [] cd_112 k112_0 q112_0 := e_aload_aload_n 0 0 0 0 rfl (e_gf 1 86025 58 0 9 rfl rfl (e_gf 4 451 287 7 3 rfl rfl (e_ireturn 7 0 )))
def kt_112 : Nat → Option ex_C := fun pc => @Bool.rec (fun _ => Option ex_C) none (some k112_0) (Nat.beq pc 0)
theorem ktE_112 : ex_CTT 0 [] cd_112 kt_112 cd_112 := (ex_ct1 kE112_0)
set_option maxHeartbeats 100000 in
def k113_31 : ex_C := c_ireturn  2
set_option maxHeartbeats 100000 in
theorem kE113_31 : ex_CE 2 [] cd_113 k113_31 q113_31 := e_ireturn 31 0 
set_option maxHeartbeats 100000 in
def k113_23 : ex_C := c_aload 0 (c_gf 0 9 (c_iload 1 (c_invV [] cd_113 28 2 39 7 (k113_31))))
set_option maxHeartbeats 100000 in
theorem kE113_23 : ex_CE 2 [] cd_113 k113_23 q113_23 := e_aload_aload_n 23 0 0 0 rfl (e_gf 24 86025 58 0 9 rfl rfl (e_iload_iload_n 27 0 1 1 rfl (e_invV_invokevirtual 28 450786 295 2 39 7 rfl rfl rfl rfl rfl rfl (kE113_31))))
set_option maxHeartbeats 100000 in
def k113_15 : ex_C := c_newx 549755813889
set_option maxHeartbeats 100000 in
theorem kE113_15 : ex_CE 2 [] cd_113 k113_15 q113_15 := e_newx 15 1001 292 294 549755813889 rfl rfl rfl
set_option maxHeartbeats 100000 in
def k113_0 : ex_C := c_iload 1 (c_if_lt 15 (c_iload 1 (c_aload 0 (c_gf 0 9 (c_gf 7 3 (c_icmp_lt 23 (k113_15)))))))
set_option maxHeartbeats 100000 in
theorem kE113_0 : ex_CE 2 [] cd_113 k113_0 q113_0 := e_iload_iload_n 0 0 1 1 rfl (e_if_lt 1 15 14 (e_iload_iload_n 4 0 1 1 rfl (e_aload_aload_n 5 0 0 0 rfl (e_gf 6 86025 58 0 9 rfl rfl (e_gf 9 451 287 7 3 rfl rfl (e_icmp_lt 12 23 11 (kE113_15)))))))
def kt_113 : Nat → Option ex_C := fun pc => @Bool.rec (fun _ => Nat → Option ex_C) (fun pc => @Bool.rec (fun _ => Nat → Option ex_C) (fun pc => @Bool.rec (fun _ => Option ex_C) none (some k113_31) (Nat.beq pc 31)) (fun pc => @Bool.rec (fun _ => Option ex_C) none (some k113_23) (Nat.beq pc 23)) (Nat.ble pc 23) pc) (fun pc => @Bool.rec (fun _ => Nat → Option ex_C) (fun pc => @Bool.rec (fun _ => Option ex_C) none (some k113_15) (Nat.beq pc 15)) (fun pc => @Bool.rec (fun _ => Option ex_C) none (some k113_0) (Nat.beq pc 0)) (Nat.ble pc 0) pc) (Nat.ble pc 15) pc
theorem ktE_113 : ex_CTT 2 [] cd_113 kt_113 cd_113 := (ex_ct2 (ex_ct2 (ex_ct1 kE113_0) (ex_ct1 kE113_15)) (ex_ct2 (ex_ct1 kE113_23) (ex_ct1 kE113_31)))
set_option maxHeartbeats 100000 in
def k114_65 : ex_C := c_iload 4 (c_ireturn  0)
set_option maxHeartbeats 100000 in
theorem kE114_65 : ex_CE 0 [] cd_114 k114_65 q114_65 := e_iload_iload 65 0 4 (e_ireturn 67 0 )
set_option maxHeartbeats 100000 in
def k114_38 : ex_C := c_aload 0 (c_gf 0 5 (c_gf 2 3 (c_gf 4 4 (c_iload 1 (c_iaload (c_istore 4 (c_iload 4 (c_if_ge 65 (c_newx 549755813892)))))))))
set_option maxHeartbeats 100000 in
theorem kE114_38 : ex_CE 0 [] cd_114 k114_38 q114_38 := e_aload_aload_n 38 0 0 0 rfl (e_gf 39 86021 34 0 5 rfl rfl (e_gf 42 86147 299 2 3 rfl rfl (e_gf 45 86276 319 4 4 rfl rfl (e_iload_iload_n 48 0 1 1 rfl (e_iaload 49 0 (e_istore_istore 50 0 4 (e_iload_iload 52 0 4 (e_if_ge 54 65 11 (e_newx 57 1004 172 174 549755813892 rfl rfl rfl)))))))))
set_option maxHeartbeats 100000 in
def k114_34 : ex_C := c_iload 3 (c_invV [] cd_114 35 3 145 0 (k114_38))
set_option maxHeartbeats 100000 in
theorem kE114_34 : ex_CE 0 [] cd_114 k114_34 q114_34 := e_iload_iload_n 34 0 3 3 rfl (e_invV_invokevirtual 35 1318915 316 3 145 0 rfl rfl rfl rfl rfl rfl (kE114_38))
set_option maxHeartbeats 100000 in
def k114_32 : ex_C := c_psh 8 (k114_34)
set_option maxHeartbeats 100000 in
theorem kE114_32 : ex_CE 0 [] cd_114 k114_32 q114_32 := e_psh_bipush 32 8 8 (kE114_34)
set_option maxHeartbeats 100000 in
def k114_23 : ex_C := c_aload 0 (c_iload 2 (c_if_eq 32 (c_psh 4 (c_goto 34))))
set_option maxHeartbeats 100000 in
theorem kE114_23 : ex_CE 0 [] cd_114 k114_23 q114_23 := e_aload_aload_n 23 0 0 0 rfl (e_iload_iload_n 24 0 2 2 rfl (e_if_eq 25 32 7 (e_psh_iconst 28 4 4 (e_goto 29 34 5))))
set_option maxHeartbeats 100000 in
def k114_5 : ex_C := c_iload 3 (c_psh 2 (c_icmp_eq 23 (c_iload 3 (c_psh 4 (c_icmp_eq 23 (c_newx 549755813890))))))
set_option maxHeartbeats 100000 in
theorem kE114_5 : ex_CE 0 [] cd_114 k114_5 q114_5 := e_iload_iload_n 5 0 3 3 rfl (e_psh_iconst 6 2 2 (e_icmp_eq 7 23 16 (e_iload_iload_n 10 0 3 3 rfl (e_psh_iconst 11 4 4 (e_icmp_eq 12 23 11 (e_newx 15 1002 156 158 549755813890 rfl rfl rfl))))))
set_option maxHeartbeats 100000 in
def k114_0 : ex_C := c_aload 0 (c_iload 1 (c_invV [] cd_114 2 2 133 0 (k114_5)))
set_option maxHeartbeats 100000 in
theorem kE114_0 : ex_CE 0 [] cd_114 k114_0 q114_0 := e_aload_aload_n 0 0 0 0 rfl (e_iload_iload_n 1 0 1 1 rfl (e_invV_invokevirtual 2 1220610 129 2 133 0 rfl rfl rfl rfl rfl rfl (kE114_5)))
def kt_114 : Nat → Option ex_C := fun pc => @Bool.rec (fun _ => Nat → Option ex_C) (fun pc => @Bool.rec (fun _ => Nat → Option ex_C) (fun pc => @Bool.rec (fun _ => Nat → Option ex_C) (fun pc => @Bool.rec (fun _ => Option ex_C) none (some k114_65) (Nat.beq pc 65)) (fun pc => @Bool.rec (fun _ => Option ex_C) none (some k114_38) (Nat.beq pc 38)) (Nat.ble pc 38) pc) (fun pc => @Bool.rec (fun _ => Nat → Option ex_C) (fun pc => @Bool.rec (fun _ => Option ex_C) none (some k114_34) (Nat.beq pc 34)) (fun pc => @Bool.rec (fun _ => Option ex_C) none (some k114_32) (Nat.beq pc 32)) (Nat.ble pc 32) pc) (Nat.ble pc 34) pc) (fun pc => @Bool.rec (fun _ => Nat → Option ex_C) (fun pc => @Bool.rec (fun _ => Nat → Option ex_C) (fun pc => @Bool.rec (fun _ => Option ex_C) none (some k114_23) (Nat.beq pc 23)) (fun pc => @Bool.rec (fun _ => Option ex_C) none (some k114_5) (Nat.beq pc 5)) (Nat.ble pc 5) pc) (fun pc => @Bool.rec (fun _ => Option ex_C) none (some k114_0) (Nat.beq pc 0)) (Nat.ble pc 0) pc) (Nat.ble pc 23) pc
theorem ktE_114 : ex_CTT 0 [] cd_114 kt_114 cd_114 := (ex_ct2 (ex_ct2 (ex_ct1 kE114_0) (ex_ct2 (ex_ct1 kE114_5) (ex_ct1 kE114_23))) (ex_ct2 (ex_ct2 (ex_ct1 kE114_32) (ex_ct1 kE114_34)) (ex_ct2 (ex_ct1 kE114_38) (ex_ct1 kE114_65))))
set_option maxHeartbeats 100000 in
def k115_59 : ex_C := c_ireturn  2
set_option maxHeartbeats 100000 in
theorem kE115_59 : ex_CE 2 [] cd_115 k115_59 q115_59 := e_ireturn 59 0 
set_option maxHeartbeats 100000 in
def k115_57 : ex_C := c_psh 108 (k115_59)
set_option maxHeartbeats 100000 in
theorem kE115_57 : ex_CE 2 [] cd_115 k115_57 q115_57 := e_psh_bipush 57 108 108 (kE115_59)
set_option maxHeartbeats 100000 in
def k115_47 : ex_C := c_iload 2 (c_psh 2 (c_icmp_ne 57 (c_psh 114 (c_goto 59))))
set_option maxHeartbeats 100000 in
theorem kE115_47 : ex_CE 2 [] cd_115 k115_47 q115_47 := e_iload_iload_n 47 0 2 2 rfl (e_psh_iconst 48 2 2 (e_icmp_ne 49 57 8 (e_psh_bipush 52 114 114 (e_goto 54 59 5))))
set_option maxHeartbeats 100000 in
def k115_37 : ex_C := c_iload 2 (c_psh 1 (c_icmp_ne 47 (c_psh 99 (c_goto 59))))
set_option maxHeartbeats 100000 in
theorem kE115_37 : ex_CE 2 [] cd_115 k115_37 q115_37 := e_iload_iload_n 37 0 2 2 rfl (e_psh_iconst 38 1 1 (e_icmp_ne 39 47 8 (e_psh_bipush 42 99 99 (e_goto 44 59 15))))
set_option maxHeartbeats 100000 in
def k115_12 : ex_C := c_aload 0 (c_gf 0 5 (c_gf 2 3 (c_gf 4 5 (c_iload 1 (c_iaload (c_istore 2 (c_iload 2 (c_if_ne 37 (c_newx 549755813892)))))))))
set_option maxHeartbeats 100000 in
theorem kE115_12 : ex_CE 2 [] cd_115 k115_12 q115_12 := e_aload_aload_n 12 0 0 0 rfl (e_gf 13 86021 34 0 5 rfl rfl (e_gf 16 86147 299 2 3 rfl rfl (e_gf 19 86277 322 4 5 rfl rfl (e_iload_iload_n 22 0 1 1 rfl (e_iaload 23 0 (e_istore_istore_n 24 0 2 2 rfl (e_iload_iload_n 25 0 2 2 rfl (e_if_ne 26 37 11 (e_newx 29 1004 172 174 549755813892 rfl rfl rfl)))))))))
set_option maxHeartbeats 100000 in
def k115_5 : ex_C := c_aload 0 (c_psh 8 (c_psh 2 (c_invV [] cd_115 9 3 145 0 (k115_12))))
set_option maxHeartbeats 100000 in
theorem kE115_5 : ex_CE 2 [] cd_115 k115_5 q115_5 := e_aload_aload_n 5 0 0 0 rfl (e_psh_bipush 6 8 8 (e_psh_iconst 8 2 2 (e_invV_invokevirtual 9 1318915 316 3 145 0 rfl rfl rfl rfl rfl rfl (kE115_12))))
set_option maxHeartbeats 100000 in
def k115_0 : ex_C := c_aload 0 (c_iload 1 (c_invV [] cd_115 2 2 133 0 (k115_5)))
set_option maxHeartbeats 100000 in
theorem kE115_0 : ex_CE 2 [] cd_115 k115_0 q115_0 := e_aload_aload_n 0 0 0 0 rfl (e_iload_iload_n 1 0 1 1 rfl (e_invV_invokevirtual 2 1220610 129 2 133 0 rfl rfl rfl rfl rfl rfl (kE115_5)))
def kt_115 : Nat → Option ex_C := fun pc => @Bool.rec (fun _ => Nat → Option ex_C) (fun pc => @Bool.rec (fun _ => Nat → Option ex_C) (fun pc => @Bool.rec (fun _ => Nat → Option ex_C) (fun pc => @Bool.rec (fun _ => Option ex_C) none (some k115_59) (Nat.beq pc 59)) (fun pc => @Bool.rec (fun _ => Option ex_C) none (some k115_57) (Nat.beq pc 57)) (Nat.ble pc 57) pc) (fun pc => @Bool.rec (fun _ => Nat → Option ex_C) (fun pc => @Bool.rec (fun _ => Option ex_C) none (some k115_47) (Nat.beq pc 47)) (fun pc => @Bool.rec (fun _ => Option ex_C) none (some k115_37) (Nat.beq pc 37)) (Nat.ble pc 37) pc) (Nat.ble pc 47) pc) (fun pc => @Bool.rec (fun _ => Nat → Option ex_C) (fun pc => @Bool.rec (fun _ => Nat → Option ex_C) (fun pc => @Bool.rec (fun _ => Option ex_C) none (some k115_12) (Nat.beq pc 12)) (fun pc => @Bool.rec (fun _ => Option ex_C) none (some k115_5) (Nat.beq pc 5)) (Nat.ble pc 5) pc) (fun pc => @Bool.rec (fun _ => Option ex_C) none (some k115_0) (Nat.beq pc 0)) (Nat.ble pc 0) pc) (Nat.ble pc 12) pc
theorem ktE_115 : ex_CTT 2 [] cd_115 kt_115 cd_115 := (ex_ct2 (ex_ct2 (ex_ct1 kE115_0) (ex_ct2 (ex_ct1 kE115_5) (ex_ct1 kE115_12))) (ex_ct2 (ex_ct2 (ex_ct1 kE115_37) (ex_ct1 kE115_47)) (ex_ct2 (ex_ct1 kE115_57) (ex_ct1 kE115_59))))
set_option maxHeartbeats 100000 in
def k116_34 : ex_C := c_psh 45 (c_ireturn  2)
set_option maxHeartbeats 100000 in
theorem kE116_34 : ex_CE 2 [] cd_116 k116_34 q116_34 := e_psh_bipush 34 45 45 (e_ireturn 36 0 )
set_option maxHeartbeats 100000 in
def k116_28 : ex_C := c_iinc 1 1 (c_goto 2)
set_option maxHeartbeats 100000 in
theorem kE116_28 : ex_CE 2 [] cd_116 k116_28 q116_28 := e_iinc 28 1 1 1 (e_goto 31 2 (-29))
set_option maxHeartbeats 100000 in
def k116_27 : ex_C := c_ireturn  2
set_option maxHeartbeats 100000 in
theorem kE116_27 : ex_CE 2 [] cd_116 k116_27 q116_27 := e_ireturn 27 0 
set_option maxHeartbeats 100000 in
def k116_17 : ex_C := c_if_ne 28 (c_psh 17179869196 (c_iload 1 (c_invV [] cd_116 24 2 165 18 (k116_27))))
set_option maxHeartbeats 100000 in
theorem kE116_17 : ex_CE 2 [] cd_116 k116_17 q116_17 := e_if_ne 17 28 11 (e_psh_ldc_w 20 17179869196 325 (e_iload_iload_n 23 0 1 1 rfl (e_invV_invokevirtual 24 1483330 333 2 165 18 rfl rfl rfl rfl rfl rfl (kE116_27))))
set_option maxHeartbeats 100000 in
def k116_9 : ex_C := c_icmp_ge 34 (c_aload 0 (c_iload 1 (c_invV [] cd_116 14 2 153 0 (k116_17))))
set_option maxHeartbeats 100000 in
theorem kE116_9 : ex_CE 2 [] cd_116 k116_9 q116_9 := e_icmp_ge 9 34 25 (e_aload_aload_n 12 0 0 0 rfl (e_iload_iload_n 13 0 1 1 rfl (e_invV_invokevirtual 14 1384450 330 2 153 0 rfl rfl rfl rfl rfl rfl (kE116_17))))
set_option maxHeartbeats 100000 in
def k116_2 : ex_C := c_iload 1 (c_psh 17179869196 (c_invV [] cd_116 6 1 164 18 (k116_9)))
set_option maxHeartbeats 100000 in
theorem kE116_2 : ex_CE 2 [] cd_116 k116_2 q116_2 := e_iload_iload_n 2 0 1 1 rfl (e_psh_ldc_w 3 17179869196 325 (e_invV_invokevirtual 6 1475137 327 1 164 18 rfl rfl rfl rfl rfl rfl (kE116_9)))
set_option maxHeartbeats 100000 in
def k116_0 : ex_C := c_psh 0 (c_istore 1 (k116_2))
set_option maxHeartbeats 100000 in
theorem kE116_0 : ex_CE 2 [] cd_116 k116_0 q116_0 := e_psh_iconst 0 0 0 (e_istore_istore_n 1 0 1 1 rfl (kE116_2))
def kt_116 : Nat → Option ex_C := fun pc => @Bool.rec (fun _ => Nat → Option ex_C) (fun pc => @Bool.rec (fun _ => Nat → Option ex_C) (fun pc => @Bool.rec (fun _ => Nat → Option ex_C) (fun pc => @Bool.rec (fun _ => Option ex_C) none (some k116_34) (Nat.beq pc 34)) (fun pc => @Bool.rec (fun _ => Option ex_C) none (some k116_28) (Nat.beq pc 28)) (Nat.ble pc 28) pc) (fun pc => @Bool.rec (fun _ => Nat → Option ex_C) (fun pc => @Bool.rec (fun _ => Option ex_C) none (some k116_27) (Nat.beq pc 27)) (fun pc => @Bool.rec (fun _ => Option ex_C) none (some k116_17) (Nat.beq pc 17)) (Nat.ble pc 17) pc) (Nat.ble pc 27) pc) (fun pc => @Bool.rec (fun _ => Nat → Option ex_C) (fun pc => @Bool.rec (fun _ => Nat → Option ex_C) (fun pc => @Bool.rec (fun _ => Option ex_C) none (some k116_9) (Nat.beq pc 9)) (fun pc => @Bool.rec (fun _ => Option ex_C) none (some k116_2) (Nat.beq pc 2)) (Nat.ble pc 2) pc) (fun pc => @Bool.rec (fun _ => Option ex_C) none (some k116_0) (Nat.beq pc 0)) (Nat.ble pc 0) pc) (Nat.ble pc 9) pc
theorem ktE_116 : ex_CTT 2 [] cd_116 kt_116 cd_116 := (ex_ct2 (ex_ct2 (ex_ct1 kE116_0) (ex_ct2 (ex_ct1 kE116_2) (ex_ct1 kE116_9))) (ex_ct2 (ex_ct2 (ex_ct1 kE116_17) (ex_ct1 kE116_27)) (ex_ct2 (ex_ct1 kE116_28) (ex_ct1 kE116_34))))
set_option maxHeartbeats 100000 in
def k117_25 : ex_C := c_ireturn  0
set_option maxHeartbeats 100000 in
theorem kE117_25 : ex_CE 0 [] cd_117 k117_25 q117_25 := e_ireturn 25 0 
set_option maxHeartbeats 100000 in
def k117_20 : ex_C := c_aload 0 (c_iload 2 (c_invV [] cd_117 22 2 153 0 (k117_25)))
set_option maxHeartbeats 100000 in
theorem kE117_20 : ex_CE 0 [] cd_117 k117_20 q117_20 := e_aload_aload_n 20 0 0 0 rfl (e_iload_iload_n 21 0 2 2 rfl (e_invV_invokevirtual 22 1384450 330 2 153 0 rfl rfl rfl rfl rfl rfl (kE117_25)))
set_option maxHeartbeats 100000 in
def k117_7 : ex_C := c_istore 2 (c_iload 2 (c_if_ge 20 (c_newx 549755813890)))
set_option maxHeartbeats 100000 in
theorem kE117_7 : ex_CE 0 [] cd_117 k117_7 q117_7 := e_istore_istore_n 7 0 2 2 rfl (e_iload_iload_n 8 0 2 2 rfl (e_if_ge 9 20 11 (e_newx 12 1002 156 158 549755813890 rfl rfl rfl)))
set_option maxHeartbeats 100000 in
def k117_0 : ex_C := c_psh 17179869196 (c_iload 1 (c_invV [] cd_117 4 2 166 18 (k117_7)))
set_option maxHeartbeats 100000 in
theorem kE117_0 : ex_CE 0 [] cd_117 k117_0 q117_0 := e_psh_ldc_w 0 17179869196 325 (e_iload_iload_n 3 0 1 1 rfl (e_invV_invokevirtual 4 1491522 233 2 166 18 rfl rfl rfl rfl rfl rfl (kE117_7)))
def kt_117 : Nat → Option ex_C := fun pc => @Bool.rec (fun _ => Nat → Option ex_C) (fun pc => @Bool.rec (fun _ => Nat → Option ex_C) (fun pc => @Bool.rec (fun _ => Option ex_C) none (some k117_25) (Nat.beq pc 25)) (fun pc => @Bool.rec (fun _ => Option ex_C) none (some k117_20) (Nat.beq pc 20)) (Nat.ble pc 20) pc) (fun pc => @Bool.rec (fun _ => Nat → Option ex_C) (fun pc => @Bool.rec (fun _ => Option ex_C) none (some k117_7) (Nat.beq pc 7)) (fun pc => @Bool.rec (fun _ => Option ex_C) none (some k117_0) (Nat.beq pc 0)) (Nat.ble pc 0) pc) (Nat.ble pc 7) pc
theorem ktE_117 : ex_CTT 0 [] cd_117 kt_117 cd_117 := (ex_ct2 (ex_ct2 (ex_ct1 kE117_0) (ex_ct1 kE117_7)) (ex_ct2 (ex_ct1 kE117_20) (ex_ct1 kE117_25)))
set_option maxHeartbeats 100000 in
def k118_25 : ex_C := c_ireturn  1
set_option maxHeartbeats 100000 in
theorem kE118_25 : ex_CE 1 [] cd_118 k118_25 q118_25 := e_ireturn 25 0 
set_option maxHeartbeats 100000 in
def k118_0 : ex_C := c_aload 0 (c_aload 0 (c_gf 0 0 (c_gf 1 0 (c_aload 0 (c_gf 0 0 (c_gf 1 1 (c_aload 0 (c_gf 0 0 (c_gf 1 2 (c_invV [] cd_118 22 4 152 0 (k118_25)))))))))))
set_option maxHeartbeats 100000 in
theorem kE118_0 : ex_CE 1 [] cd_118 k118_0 q118_0 := e_aload_aload_n 0 0 0 0 rfl (e_aload_aload_n 1 0 0 0 rfl (e_gf 2 86016 10 0 0 rfl rfl (e_gf 5 86080 133 1 0 rfl rfl (e_aload_aload_n 8 0 0 0 rfl (e_gf 9 86016 10 0 0 rfl rfl (e_gf 12 86081 136 1 1 rfl rfl (e_aload_aload_n 15 0 0 0 rfl (e_gf 16 86016 10 0 0 rfl rfl (e_gf 19 86082 139 1 2 rfl rfl (e_invV_invokevirtual 22 1376260 336 4 152 0 rfl rfl rfl rfl rfl rfl (kE118_25)))))))))))
def kt_118 : Nat → Option ex_C := fun pc => @Bool.rec (fun _ => Nat → Option ex_C) (fun pc => @Bool.rec (fun _ => Option ex_C) none (some k118_25) (Nat.beq pc 25)) (fun pc => @Bool.rec (fun _ => Option ex_C) none (some k118_0) (Nat.beq pc 0)) (Nat.ble pc 0) pc
theorem ktE_118 : ex_CTT 1 [] cd_118 kt_118 cd_118 := (ex_ct2 (ex_ct1 kE118_0) (ex_ct1 kE118_25))
set_option maxHeartbeats 100000 in
def k119_92 : ex_C := c_psh 1 (c_ireturn  1)
set_option maxHeartbeats 100000 in
theorem kE119_92 : ex_CE 1 [] cd_119 k119_92 q119_92 := e_psh_iconst 92 1 1 (e_ireturn 93 0 )
set_option maxHeartbeats 100000 in
def k119_86 : ex_C := c_iinc 1 1 (c_goto 2)
set_option maxHeartbeats 100000 in
theorem kE119_86 : ex_CE 1 [] cd_119 k119_86 q119_86 := e_iinc 86 1 1 1 (e_goto 89 2 (-87))
set_option maxHeartbeats 100000 in
def k119_84 : ex_C := c_psh 0 (c_ireturn  1)
set_option maxHeartbeats 100000 in
theorem kE119_84 : ex_CE 1 [] cd_119 k119_84 q119_84 := e_psh_iconst 84 0 0 (e_ireturn 85 0 )
set_option maxHeartbeats 100000 in
def k119_2 : ex_C := c_iload 1 (c_psh 8 (c_icmp_ge 92 (c_iload 1 (c_psh 4 (c_iadd (c_psh 8 (c_irem   (c_istore 2 (c_aload 0 (c_gf 0 0 (c_gf 1 0 (c_iload 1 (c_iaload (c_aload 0 (c_gf 0 0 (c_gf 1 0 (c_iload 2 (c_iaload (c_ineg   (c_icmp_ne 84 (c_aload 0 (c_gf 0 0 (c_gf 1 1 (c_iload 1 (c_iaload (c_aload 0 (c_gf 0 0 (c_gf 1 1 (c_iload 2 (c_iaload (c_ineg   (c_icmp_ne 84 (c_aload 0 (c_gf 0 0 (c_gf 1 2 (c_iload 1 (c_iaload (c_aload 0 (c_gf 0 0 (c_gf 1 2 (c_iload 2 (c_iaload (c_psh 2 (c_iadd (c_psh 3 (c_iand (c_icmp_eq 86 (k119_84))))))))))))))))))))))))))))))))))))))))))))))))
set_option maxHeartbeats 100000 in
theorem kE119_2 : ex_CE 1 [] cd_119 k119_2 q119_2 := e_iload_iload_n 2 0 1 1 rfl (e_psh_bipush 3 8 8 (e_icmp_ge 5 92 87 (e_iload_iload_n 8 0 1 1 rfl (e_psh_iconst 9 4 4 (e_iadd 10 0 (e_psh_bipush 11 8 8 (e_irem 13 0  (e_istore_istore_n 14 0 2 2 rfl (e_aload_aload_n 15 0 0 0 rfl (e_gf 16 86016 10 0 0 rfl rfl (e_gf 19 86080 133 1 0 rfl rfl (e_iload_iload_n 22 0 1 1 rfl (e_iaload 23 0 (e_aload_aload_n 24 0 0 0 rfl (e_gf 25 86016 10 0 0 rfl rfl (e_gf 28 86080 133 1 0 rfl rfl (e_iload_iload_n 31 0 2 2 rfl (e_iaload 32 0 (e_ineg 33 0  (e_icmp_ne 34 84 50 (e_aload_aload_n 37 0 0 0 rfl (e_gf 38 86016 10 0 0 rfl rfl (e_gf 41 86081 136 1 1 rfl rfl (e_iload_iload_n 44 0 1 1 rfl (e_iaload 45 0 (e_aload_aload_n 46 0 0 0 rfl (e_gf 47 86016 10 0 0 rfl rfl (e_gf 50 86081 136 1 1 rfl rfl (e_iload_iload_n 53 0 2 2 rfl (e_iaload 54 0 (e_ineg 55 0  (e_icmp_ne 56 84 28 (e_aload_aload_n 59 0 0 0 rfl (e_gf 60 86016 10 0 0 rfl rfl (e_gf 63 86082 139 1 2 rfl rfl (e_iload_iload_n 66 0 1 1 rfl (e_iaload 67 0 (e_aload_aload_n 68 0 0 0 rfl (e_gf 69 86016 10 0 0 rfl rfl (e_gf 72 86082 139 1 2 rfl rfl (e_iload_iload_n 75 0 2 2 rfl (e_iaload 76 0 (e_psh_iconst 77 2 2 (e_iadd 78 0 (e_psh_iconst 79 3 3 (e_iand 80 0 (e_icmp_eq 81 86 5 (kE119_84))))))))))))))))))))))))))))))))))))))))))))))))
set_option maxHeartbeats 100000 in
def k119_0 : ex_C := c_psh 0 (c_istore 1 (k119_2))
set_option maxHeartbeats 100000 in
theorem kE119_0 : ex_CE 1 [] cd_119 k119_0 q119_0 := e_psh_iconst 0 0 0 (e_istore_istore_n 1 0 1 1 rfl (kE119_2))
def kt_119 : Nat → Option ex_C := fun pc => @Bool.rec (fun _ => Nat → Option ex_C) (fun pc => @Bool.rec (fun _ => Nat → Option ex_C) (fun pc => @Bool.rec (fun _ => Nat → Option ex_C) (fun pc => @Bool.rec (fun _ => Option ex_C) none (some k119_92) (Nat.beq pc 92)) (fun pc => @Bool.rec (fun _ => Option ex_C) none (some k119_86) (Nat.beq pc 86)) (Nat.ble pc 86) pc) (fun pc => @Bool.rec (fun _ => Option ex_C) none (some k119_84) (Nat.beq pc 84)) (Nat.ble pc 84) pc) (fun pc => @Bool.rec (fun _ => Nat → Option ex_C) (fun pc => @Bool.rec (fun _ => Option ex_C) none (some k119_2) (Nat.beq pc 2)) (fun pc => @Bool.rec (fun _ => Option ex_C) none (some k119_0) (Nat.beq pc 0)) (Nat.ble pc 0) pc) (Nat.ble pc 2) pc
theorem ktE_119 : ex_CTT 1 [] cd_119 kt_119 cd_119 := (ex_ct2 (ex_ct2 (ex_ct1 kE119_0) (ex_ct1 kE119_2)) (ex_ct2 (ex_ct1 kE119_84) (ex_ct2 (ex_ct1 kE119_86) (ex_ct1 kE119_92))))
set_option maxHeartbeats 100000 in
def k120_0 : ex_C := c_aload 0 (c_gf 0 10 (c_gf 8 3 (c_ireturn  0)))
set_option maxHeartbeats 100000 in
theorem kE120_0 : ex_CE 0 [] cd_120 k120_0 q120_0 := e_aload_aload_n 0 0 0 0 rfl (e_gf 1 86026 65 0 10 rfl rfl (e_gf 4 515 343 8 3 rfl rfl (e_ireturn 7 0 )))
def kt_120 : Nat → Option ex_C := fun pc => @Bool.rec (fun _ => Option ex_C) none (some k120_0) (Nat.beq pc 0)
theorem ktE_120 : ex_CTT 0 [] cd_120 kt_120 cd_120 := (ex_ct1 kE120_0)
set_option maxHeartbeats 100000 in
def k121_0 : ex_C := c_aload 0 (c_gf 0 10 (c_gf 8 4 (c_ireturn  0)))
set_option maxHeartbeats 100000 in
theorem kE121_0 : ex_CE 0 [] cd_121 k121_0 q121_0 := e_aload_aload_n 0 0 0 0 rfl (e_gf 1 86026 65 0 10 rfl rfl (e_gf 4 516 346 8 4 rfl rfl (e_ireturn 7 0 )))
def kt_121 : Nat → Option ex_C := fun pc => @Bool.rec (fun _ => Option ex_C) none (some k121_0) (Nat.beq pc 0)
theorem ktE_121 : ex_CTT 0 [] cd_121 kt_121 cd_121 := (ex_ct1 kE121_0)
set_option maxHeartbeats 100000 in
def k122_160 : ex_C := c_newx 549755813892
set_option maxHeartbeats 100000 in
theorem kE122_160 : ex_CE 0 [] cd_122 k122_160 q122_160 := e_newx 160 1004 172 174 549755813892 rfl rfl rfl
set_option maxHeartbeats 100000 in
def k122_154 : ex_C := c_iinc 2 1 (c_goto 56)
set_option maxHeartbeats 100000 in
theorem kE122_154 : ex_CE 0 [] cd_122 k122_154 q122_154 := e_iinc 154 1 2 1 (e_goto 157 56 (-101))
set_option maxHeartbeats 100000 in
def k122_137 : ex_C := c_if_eq 154 (c_aload 0 (c_gf 0 15 (c_psh 0 (c_iload 2 (c_iastore (c_aload 0 (c_psh 2 (c_pf 0 0 16 (c_psh 2 (c_ireturn  0))))))))))
set_option maxHeartbeats 100000 in
theorem kE122_137 : ex_CE 0 [] cd_122 k122_137 q122_137 := e_if_eq 137 154 17 (e_aload_aload_n 140 0 0 0 rfl (e_gf 141 86031 93 0 15 rfl rfl (e_psh_iconst 144 0 0 (e_iload_iload_n 145 0 2 2 rfl (e_iastore 146 0 (e_aload_aload_n 147 0 0 0 rfl (e_psh_iconst 148 2 2 (e_pf 149 16 96 0 0 16 rfl rfl rfl (e_psh_iconst 152 2 2 (e_ireturn 153 0 ))))))))))
set_option maxHeartbeats 100000 in
def k122_128 : ex_C := c_aload 0 (c_aload 0 (c_gf 0 2 (c_psh 1 (c_invV [] cd_122 134 3 146 0 (k122_137)))))
set_option maxHeartbeats 100000 in
theorem kE122_128 : ex_CE 0 [] cd_122 k122_128 q122_128 := e_aload_aload_n 128 0 0 0 rfl (e_aload_aload_n 129 0 0 0 rfl (e_gf 130 86018 19 0 2 rfl rfl (e_psh_iconst 133 1 1 (e_invV_invokevirtual 134 1327107 353 3 146 0 rfl rfl rfl rfl rfl rfl (kE122_137)))))
set_option maxHeartbeats 100000 in
def k122_109 : ex_C := c_psh 45 (c_icmp_ne 154 (c_aload 0 (c_gf 0 2 (c_aload 0 (c_gf 0 5 (c_gf 2 0 (c_invV [] cd_122 125 2 43 1 (k122_128))))))))
set_option maxHeartbeats 100000 in
theorem kE122_109 : ex_CE 0 [] cd_122 k122_109 q122_109 := e_psh_bipush 109 45 45 (e_icmp_ne 111 154 43 (e_aload_aload_n 114 0 0 0 rfl (e_gf 115 86018 19 0 2 rfl rfl (e_aload_aload_n 118 0 0 0 rfl (e_gf 119 86021 34 0 5 rfl rfl (e_gf 122 86144 303 2 0 rfl rfl (e_invV_invokevirtual 125 483362 357 2 43 1 rfl rfl rfl rfl rfl rfl (kE122_128))))))))
set_option maxHeartbeats 100000 in
def k122_90 : ex_C := c_aload 0 (c_gf 0 5 (c_aload 0 (c_gf 0 7 (c_aload 0 (c_gf 0 7 (c_gf 6 5 (c_psh 0 (c_invV [] cd_122 106 4 59 2 (k122_109)))))))))
set_option maxHeartbeats 100000 in
theorem kE122_90 : ex_CE 0 [] cd_122 k122_90 q122_90 := e_aload_aload_n 90 0 0 0 rfl (e_gf 91 86021 34 0 5 rfl rfl (e_aload_aload_n 94 0 0 0 rfl (e_gf 95 86023 48 0 7 rfl rfl (e_aload_aload_n 98 0 0 0 rfl (e_gf 99 86023 48 0 7 rfl rfl (e_gf 102 389 225 6 5 rfl rfl (e_psh_iconst 105 0 0 (e_invV_invokevirtual 106 614468 283 4 59 2 rfl rfl rfl rfl rfl rfl (kE122_109)))))))))
set_option maxHeartbeats 100000 in
def k122_75 : ex_C := c_aload 0 (c_gf 0 5 (c_aload 0 (c_gf 0 0 (c_aload 0 (c_gf 0 4 (c_invV [] cd_122 87 3 58 2 (k122_90)))))))
set_option maxHeartbeats 100000 in
theorem kE122_75 : ex_CE 0 [] cd_122 k122_75 q122_75 := e_aload_aload_n 75 0 0 0 rfl (e_gf 76 86021 34 0 5 rfl rfl (e_aload_aload_n 79 0 0 0 rfl (e_gf 80 86016 10 0 0 rfl rfl (e_aload_aload_n 83 0 0 0 rfl (e_gf 84 86020 26 0 4 rfl rfl (e_invV_invokevirtual 87 606275 242 3 58 2 rfl rfl rfl rfl rfl rfl (kE122_90)))))))
set_option maxHeartbeats 100000 in
def k122_56 : ex_C := c_iload 2 (c_psh 12 (c_icmp_ge 160 (c_iload 1 (c_psh 1 (c_icmp_le 160 (c_aload 0 (c_gf 0 7 (c_iload 2 (c_invV [] cd_122 72 2 48 6 (k122_75))))))))))
set_option maxHeartbeats 100000 in
theorem kE122_56 : ex_CE 0 [] cd_122 k122_56 q122_56 := e_iload_iload_n 56 0 2 2 rfl (e_psh_bipush 57 12 12 (e_icmp_ge 59 160 101 (e_iload_iload_n 62 0 1 1 rfl (e_psh_iconst 63 1 1 (e_icmp_le 64 160 96 (e_aload_aload_n 67 0 0 0 rfl (e_gf 68 86023 48 0 7 rfl rfl (e_iload_iload_n 71 0 2 2 rfl (e_invV_invokevirtual 72 524482 280 2 48 6 rfl rfl rfl rfl rfl rfl (kE122_75))))))))))
set_option maxHeartbeats 100000 in
def k122_54 : ex_C := c_psh 0 (c_istore 2 (k122_56))
set_option maxHeartbeats 100000 in
theorem kE122_54 : ex_CE 0 [] cd_122 k122_54 q122_54 := e_psh_iconst 54 0 0 (e_istore_istore_n 55 0 2 2 rfl (kE122_56))
set_option maxHeartbeats 100000 in
def k122_44 : ex_C := c_if_eq 54 (c_aload 0 (c_psh 1 (c_pf 0 0 16 (c_psh 1 (c_ireturn  0)))))
set_option maxHeartbeats 100000 in
theorem kE122_44 : ex_CE 0 [] cd_122 k122_44 q122_44 := e_if_eq 44 54 10 (e_aload_aload_n 47 0 0 0 rfl (e_psh_iconst 48 1 1 (e_pf 49 16 96 0 0 16 rfl rfl rfl (e_psh_iconst 52 1 1 (e_ireturn 53 0 )))))
set_option maxHeartbeats 100000 in
def k122_31 : ex_C := c_iload 1 (c_if_le 54 (c_aload 0 (c_aload 0 (c_gf 0 0 (c_psh 0 (c_invV [] cd_122 41 3 146 0 (k122_44)))))))
set_option maxHeartbeats 100000 in
theorem kE122_31 : ex_CE 0 [] cd_122 k122_31 q122_31 := e_iload_iload_n 31 0 1 1 rfl (e_if_le 32 54 22 (e_aload_aload_n 35 0 0 0 rfl (e_aload_aload_n 36 0 0 0 rfl (e_gf 37 86016 10 0 0 rfl rfl (e_psh_iconst 40 0 0 (e_invV_invokevirtual 41 1327107 353 3 146 0 rfl rfl rfl rfl rfl rfl (kE122_44)))))))
set_option maxHeartbeats 100000 in
def k122_21 : ex_C := c_if_eq 31 (c_aload 0 (c_psh 0 (c_pf 0 0 16 (c_psh 0 (c_ireturn  0)))))
set_option maxHeartbeats 100000 in
theorem kE122_21 : ex_CE 0 [] cd_122 k122_21 q122_21 := e_if_eq 21 31 10 (e_aload_aload_n 24 0 0 0 rfl (e_psh_iconst 25 0 0 (e_pf 26 16 96 0 0 16 rfl rfl rfl (e_psh_iconst 29 0 0 (e_ireturn 30 0 )))))
set_option maxHeartbeats 100000 in
def k122_17 : ex_C := c_aload 0 (c_invV [] cd_122 18 1 118 0 (k122_21))
set_option maxHeartbeats 100000 in
theorem kE122_17 : ex_CE 0 [] cd_122 k122_17 q122_17 := e_aload_aload_n 17 0 0 0 rfl (e_invV_invokevirtual 18 1097729 349 1 118 0 rfl rfl rfl rfl rfl rfl (kE122_21))
set_option maxHeartbeats 100000 in
def k122_9 : ex_C := c_newx 549755813890
set_option maxHeartbeats 100000 in
theorem kE122_9 : ex_CE 0 [] cd_122 k122_9 q122_9 := e_newx 9 1002 156 158 549755813890 rfl rfl rfl
set_option maxHeartbeats 100000 in
def k122_0 : ex_C := c_iload 1 (c_if_lt 9 (c_iload 1 (c_psh 2 (c_icmp_le 17 (k122_9)))))
set_option maxHeartbeats 100000 in
theorem kE122_0 : ex_CE 0 [] cd_122 k122_0 q122_0 := e_iload_iload_n 0 0 1 1 rfl (e_if_lt 1 9 8 (e_iload_iload_n 4 0 1 1 rfl (e_psh_iconst 5 2 2 (e_icmp_le 6 17 11 (kE122_9)))))
def kt_122 : Nat → Option ex_C := fun pc => @Bool.rec (fun _ => Nat → Option ex_C) (fun pc => @Bool.rec (fun _ => Nat → Option ex_C) (fun pc => @Bool.rec (fun _ => Nat → Option ex_C) (fun pc => @Bool.rec (fun _ => Nat → Option ex_C) (fun pc => @Bool.rec (fun _ => Option ex_C) none (some k122_160) (Nat.beq pc 160)) (fun pc => @Bool.rec (fun _ => Option ex_C) none (some k122_154) (Nat.beq pc 154)) (Nat.ble pc 154) pc) (fun pc => @Bool.rec (fun _ => Nat → Option ex_C) (fun pc => @Bool.rec (fun _ => Option ex_C) none (some k122_137) (Nat.beq pc 137)) (fun pc => @Bool.rec (fun _ => Option ex_C) none (some k122_128) (Nat.beq pc 128)) (Nat.ble pc 128) pc) (Nat.ble pc 137) pc) (fun pc => @Bool.rec (fun _ => Nat → Option ex_C) (fun pc => @Bool.rec (fun _ => Nat → Option ex_C) (fun pc => @Bool.rec (fun _ => Option ex_C) none (some k122_109) (Nat.beq pc 109)) (fun pc => @Bool.rec (fun _ => Option ex_C) none (some k122_90) (Nat.beq pc 90)) (Nat.ble pc 90) pc) (fun pc => @Bool.rec (fun _ => Nat → Option ex_C) (fun pc => @Bool.rec (fun _ => Option ex_C) none (some k122_75) (Nat.beq pc 75)) (fun pc => @Bool.rec (fun _ => Option ex_C) none (some k122_56) (Nat.beq pc 56)) (Nat.ble pc 56) pc) (Nat.ble pc 75) pc) (Nat.ble pc 109) pc) (fun pc => @Bool.rec (fun _ => Nat → Option ex_C) (fun pc => @Bool.rec (fun _ => Nat → Option ex_C) (fun pc => @Bool.rec (fun _ => Nat → Option ex_C) (fun pc => @Bool.rec (fun _ => Option ex_C) none (some k122_54) (Nat.beq pc 54)) (fun pc => @Bool.rec (fun _ => Option ex_C) none (some k122_44) (Nat.beq pc 44)) (Nat.ble pc 44) pc) (fun pc => @Bool.rec (fun _ => Nat → Option ex_C) (fun pc => @Bool.rec (fun _ => Option ex_C) none (some k122_31) (Nat.beq pc 31)) (fun pc => @Bool.rec (fun _ => Option ex_C) none (some k122_21) (Nat.beq pc 21)) (Nat.ble pc 21) pc) (Nat.ble pc 31) pc) (fun pc => @Bool.rec (fun _ => Nat → Option ex_C) (fun pc => @Bool.rec (fun _ => Nat → Option ex_C) (fun pc => @Bool.rec (fun _ => Option ex_C) none (some k122_17) (Nat.beq pc 17)) (fun pc => @Bool.rec (fun _ => Option ex_C) none (some k122_9) (Nat.beq pc 9)) (Nat.ble pc 9) pc) (fun pc => @Bool.rec (fun _ => Option ex_C) none (some k122_0) (Nat.beq pc 0)) (Nat.ble pc 0) pc) (Nat.ble pc 17) pc) (Nat.ble pc 54) pc
theorem ktE_122 : ex_CTT 0 [] cd_122 kt_122 cd_122 := (ex_ct2 (ex_ct2 (ex_ct2 (ex_ct1 kE122_0) (ex_ct2 (ex_ct1 kE122_9) (ex_ct1 kE122_17))) (ex_ct2 (ex_ct2 (ex_ct1 kE122_21) (ex_ct1 kE122_31)) (ex_ct2 (ex_ct1 kE122_44) (ex_ct1 kE122_54)))) (ex_ct2 (ex_ct2 (ex_ct2 (ex_ct1 kE122_56) (ex_ct1 kE122_75)) (ex_ct2 (ex_ct1 kE122_90) (ex_ct1 kE122_109))) (ex_ct2 (ex_ct2 (ex_ct1 kE122_128) (ex_ct1 kE122_137)) (ex_ct2 (ex_ct1 kE122_154) (ex_ct1 kE122_160)))))
set_option maxHeartbeats 100000 in
def k123_0 : ex_C := c_aload 0 (c_gf 0 11 (c_gf 9 1 (c_ireturn  0)))
set_option maxHeartbeats 100000 in
theorem kE123_0 : ex_CE 0 [] cd_123 k123_0 q123_0 := e_aload_aload_n 0 0 0 0 rfl (e_gf 1 86027 72 0 11 rfl rfl (e_gf 4 577 361 9 1 rfl rfl (e_ireturn 7 0 )))
def kt_123 : Nat → Option ex_C := fun pc => @Bool.rec (fun _ => Option ex_C) none (some k123_0) (Nat.beq pc 0)
theorem ktE_123 : ex_CTT 0 [] cd_123 kt_123 cd_123 := (ex_ct1 kE123_0)
set_option maxHeartbeats 100000 in
def k124_85 : ex_C := c_iload 1 (c_ireturn  0)
set_option maxHeartbeats 100000 in
theorem kE124_85 : ex_CE 0 [] cd_124 k124_85 q124_85 := e_iload_iload_n 85 0 1 1 rfl (e_ireturn 86 0 )
set_option maxHeartbeats 100000 in
def k124_81 : ex_C := c_aload 0 (c_invV [] cd_124 82 1 148 0 (k124_85))
set_option maxHeartbeats 100000 in
theorem kE124_81 : ex_CE 0 [] cd_124 k124_81 q124_81 := e_aload_aload_n 81 0 0 0 rfl (e_invV_invokevirtual 82 1343489 126 1 148 0 rfl rfl rfl rfl rfl rfl (kE124_85))
set_option maxHeartbeats 100000 in
def k124_33 : ex_C := c_aload 0 (c_gf 0 11 (c_gf 9 0 (c_aload 0 (c_gf 0 11 (c_gf 9 1 (c_isub (c_istore 1 (c_aload 0 (c_gf 0 11 (c_aload 0 (c_gf 0 11 (c_gf 9 2 (c_psh 1 (c_iadd (c_psh 3 (c_iand (c_pf 9 0 2 (c_aload 0 (c_gf 0 11 (c_aload 0 (c_gf 0 11 (c_gf 9 0 (c_invV [] cd_124 78 2 55 9 (k124_81))))))))))))))))))))))))
set_option maxHeartbeats 100000 in
theorem kE124_33 : ex_CE 0 [] cd_124 k124_33 q124_33 := e_aload_aload_n 33 0 0 0 rfl (e_gf 34 86027 72 0 11 rfl rfl (e_gf 37 576 365 9 0 rfl rfl (e_aload_aload_n 40 0 0 0 rfl (e_gf 41 86027 72 0 11 rfl rfl (e_gf 44 577 361 9 1 rfl rfl (e_isub 47 0 (e_istore_istore_n 48 0 1 1 rfl (e_aload_aload_n 49 0 0 0 rfl (e_gf 50 86027 72 0 11 rfl rfl (e_aload_aload_n 53 0 0 0 rfl (e_gf 54 86027 72 0 11 rfl rfl (e_gf 57 578 368 9 2 rfl rfl (e_psh_iconst 60 1 1 (e_iadd 61 0 (e_psh_iconst 62 3 3 (e_iand 63 0 (e_pf 64 578 368 9 0 2 rfl rfl rfl (e_aload_aload_n 67 0 0 0 rfl (e_gf 68 86027 72 0 11 rfl rfl (e_aload_aload_n 71 0 0 0 rfl (e_gf 72 86027 72 0 11 rfl rfl (e_gf 75 576 365 9 0 rfl rfl (e_invV_invokevirtual 78 581922 362 2 55 9 rfl rfl rfl rfl rfl rfl (kE124_81))))))))))))))))))))))))
set_option maxHeartbeats 100000 in
def k124_15 : ex_C := c_aload 0 (c_gf 0 11 (c_gf 9 0 (c_if_ne 33 (c_newx 549755813893))))
set_option maxHeartbeats 100000 in
theorem kE124_15 : ex_CE 0 [] cd_124 k124_15 q124_15 := e_aload_aload_n 15 0 0 0 rfl (e_gf 16 86027 72 0 11 rfl rfl (e_gf 19 576 365 9 0 rfl rfl (e_if_ne 22 33 11 (e_newx 25 1005 178 180 549755813893 rfl rfl rfl))))
set_option maxHeartbeats 100000 in
def k124_4 : ex_C := c_if_le 15 (c_newx 549755813891)
set_option maxHeartbeats 100000 in
theorem kE124_4 : ex_CE 0 [] cd_124 k124_4 q124_4 := e_if_le 4 15 11 (e_newx 7 1003 150 152 549755813891 rfl rfl rfl)
set_option maxHeartbeats 100000 in
def k124_0 : ex_C := c_aload 0 (c_invV [] cd_124 1 1 151 0 (k124_4))
set_option maxHeartbeats 100000 in
theorem kE124_0 : ex_CE 0 [] cd_124 k124_0 q124_0 := e_aload_aload_n 0 0 0 0 rfl (e_invV_invokevirtual 1 1368065 122 1 151 0 rfl rfl rfl rfl rfl rfl (kE124_4))
def kt_124 : Nat → Option ex_C := fun pc => @Bool.rec (fun _ => Nat → Option ex_C) (fun pc => @Bool.rec (fun _ => Nat → Option ex_C) (fun pc => @Bool.rec (fun _ => Nat → Option ex_C) (fun pc => @Bool.rec (fun _ => Option ex_C) none (some k124_85) (Nat.beq pc 85)) (fun pc => @Bool.rec (fun _ => Option ex_C) none (some k124_81) (Nat.beq pc 81)) (Nat.ble pc 81) pc) (fun pc => @Bool.rec (fun _ => Option ex_C) none (some k124_33) (Nat.beq pc 33)) (Nat.ble pc 33) pc) (fun pc => @Bool.rec (fun _ => Nat → Option ex_C) (fun pc => @Bool.rec (fun _ => Nat → Option ex_C) (fun pc => @Bool.rec (fun _ => Option ex_C) none (some k124_15) (Nat.beq pc 15)) (fun pc => @Bool.rec (fun _ => Option ex_C) none (some k124_4) (Nat.beq pc 4)) (Nat.ble pc 4) pc) (fun pc => @Bool.rec (fun _ => Option ex_C) none (some k124_0) (Nat.beq pc 0)) (Nat.ble pc 0) pc) (Nat.ble pc 15) pc
theorem ktE_124 : ex_CTT 0 [] cd_124 kt_124 cd_124 := (ex_ct2 (ex_ct2 (ex_ct1 kE124_0) (ex_ct2 (ex_ct1 kE124_4) (ex_ct1 kE124_15))) (ex_ct2 (ex_ct1 kE124_33) (ex_ct2 (ex_ct1 kE124_81) (ex_ct1 kE124_85))))
set_option maxHeartbeats 100000 in
def k125_0 : ex_C := c_aload 0 (c_gf 0 11 (c_gf 9 2 (c_ireturn  0)))
set_option maxHeartbeats 100000 in
theorem kE125_0 : ex_CE 0 [] cd_125 k125_0 q125_0 := e_aload_aload_n 0 0 0 0 rfl (e_gf 1 86027 72 0 11 rfl rfl (e_gf 4 578 368 9 2 rfl rfl (e_ireturn 7 0 )))
def kt_125 : Nat → Option ex_C := fun pc => @Bool.rec (fun _ => Option ex_C) none (some k125_0) (Nat.beq pc 0)
theorem ktE_125 : ex_CTT 0 [] cd_125 kt_125 cd_125 := (ex_ct1 kE125_0)
set_option maxHeartbeats 100000 in
def k126_35 : ex_C := c_iload 2 (c_ireturn  0)
set_option maxHeartbeats 100000 in
theorem kE126_35 : ex_CE 0 [] cd_126 k126_35 q126_35 := e_iload_iload_n 35 0 2 2 rfl (e_ireturn 36 0 )
set_option maxHeartbeats 100000 in
def k126_19 : ex_C := c_aload 0 (c_gf 0 12 (c_gf 10 4 (c_istore 2 (c_aload 0 (c_gf 0 12 (c_iload 1 (c_invV [] cd_126 32 2 29 10 (k126_35))))))))
set_option maxHeartbeats 100000 in
theorem kE126_19 : ex_CE 0 [] cd_126 k126_19 q126_19 := e_aload_aload_n 19 0 0 0 rfl (e_gf 20 86028 79 0 12 rfl rfl (e_gf 23 644 371 10 4 rfl rfl (e_istore_istore_n 26 0 2 2 rfl (e_aload_aload_n 27 0 0 0 rfl (e_gf 28 86028 79 0 12 rfl rfl (e_iload_iload_n 31 0 1 1 rfl (e_invV_invokevirtual 32 368962 374 2 29 10 rfl rfl rfl rfl rfl rfl (kE126_35))))))))
set_option maxHeartbeats 100000 in
def k126_11 : ex_C := c_newx 549755813890
set_option maxHeartbeats 100000 in
theorem kE126_11 : ex_CE 0 [] cd_126 k126_11 q126_11 := e_newx 11 1002 156 158 549755813890 rfl rfl rfl
set_option maxHeartbeats 100000 in
def k126_0 : ex_C := c_iload 1 (c_psh 4 (c_icmp_lt 11 (c_iload 1 (c_psh 16 (c_icmp_le 19 (k126_11))))))
set_option maxHeartbeats 100000 in
theorem kE126_0 : ex_CE 0 [] cd_126 k126_0 q126_0 := e_iload_iload_n 0 0 1 1 rfl (e_psh_iconst 1 4 4 (e_icmp_lt 2 11 9 (e_iload_iload_n 5 0 1 1 rfl (e_psh_bipush 6 16 16 (e_icmp_le 8 19 11 (kE126_11))))))
def kt_126 : Nat → Option ex_C := fun pc => @Bool.rec (fun _ => Nat → Option ex_C) (fun pc => @Bool.rec (fun _ => Nat → Option ex_C) (fun pc => @Bool.rec (fun _ => Option ex_C) none (some k126_35) (Nat.beq pc 35)) (fun pc => @Bool.rec (fun _ => Option ex_C) none (some k126_19) (Nat.beq pc 19)) (Nat.ble pc 19) pc) (fun pc => @Bool.rec (fun _ => Nat → Option ex_C) (fun pc => @Bool.rec (fun _ => Option ex_C) none (some k126_11) (Nat.beq pc 11)) (fun pc => @Bool.rec (fun _ => Option ex_C) none (some k126_0) (Nat.beq pc 0)) (Nat.ble pc 0) pc) (Nat.ble pc 11) pc
theorem ktE_126 : ex_CTT 0 [] cd_126 kt_126 cd_126 := (ex_ct2 (ex_ct2 (ex_ct1 kE126_0) (ex_ct1 kE126_11)) (ex_ct2 (ex_ct1 kE126_19) (ex_ct1 kE126_35)))
set_option maxHeartbeats 100000 in
def k127_37 : ex_C := c_ireturn  0
set_option maxHeartbeats 100000 in
theorem kE127_37 : ex_CE 0 [] cd_127 k127_37 q127_37 := e_ireturn 37 0 
set_option maxHeartbeats 100000 in
def k127_30 : ex_C := c_aload 0 (c_gf 0 12 (c_invV [] cd_127 34 1 30 10 (k127_37)))
set_option maxHeartbeats 100000 in
theorem kE127_30 : ex_CE 0 [] cd_127 k127_30 q127_30 := e_aload_aload_n 30 0 0 0 rfl (e_gf 31 86028 79 0 12 rfl rfl (e_invV_invokevirtual 34 377153 380 1 30 10 rfl rfl rfl rfl rfl rfl (kE127_37)))
set_option maxHeartbeats 100000 in
def k127_22 : ex_C := c_newx 549755813893
set_option maxHeartbeats 100000 in
theorem kE127_22 : ex_CE 0 [] cd_127 k127_22 q127_22 := e_newx 22 1005 178 180 549755813893 rfl rfl rfl
set_option maxHeartbeats 100000 in
def k127_0 : ex_C := c_aload 0 (c_gf 0 12 (c_gf 10 3 (c_if_eq 22 (c_aload 0 (c_gf 0 12 (c_gf 10 4 (c_psh 30 (c_icmp_lt 30 (k127_22)))))))))
set_option maxHeartbeats 100000 in
theorem kE127_0 : ex_CE 0 [] cd_127 k127_0 q127_0 := e_aload_aload_n 0 0 0 0 rfl (e_gf 1 86028 79 0 12 rfl rfl (e_gf 4 643 377 10 3 rfl rfl (e_if_eq 7 22 15 (e_aload_aload_n 10 0 0 0 rfl (e_gf 11 86028 79 0 12 rfl rfl (e_gf 14 644 371 10 4 rfl rfl (e_psh_bipush 17 30 30 (e_icmp_lt 19 30 11 (kE127_22)))))))))
def kt_127 : Nat → Option ex_C := fun pc => @Bool.rec (fun _ => Nat → Option ex_C) (fun pc => @Bool.rec (fun _ => Nat → Option ex_C) (fun pc => @Bool.rec (fun _ => Option ex_C) none (some k127_37) (Nat.beq pc 37)) (fun pc => @Bool.rec (fun _ => Option ex_C) none (some k127_30) (Nat.beq pc 30)) (Nat.ble pc 30) pc) (fun pc => @Bool.rec (fun _ => Nat → Option ex_C) (fun pc => @Bool.rec (fun _ => Option ex_C) none (some k127_22) (Nat.beq pc 22)) (fun pc => @Bool.rec (fun _ => Option ex_C) none (some k127_0) (Nat.beq pc 0)) (Nat.ble pc 0) pc) (Nat.ble pc 22) pc
theorem ktE_127 : ex_CTT 0 [] cd_127 kt_127 cd_127 := (ex_ct2 (ex_ct2 (ex_ct1 kE127_0) (ex_ct1 kE127_22)) (ex_ct2 (ex_ct1 kE127_30) (ex_ct1 kE127_37)))
set_option maxHeartbeats 100000 in
def k128_23 : ex_C := c_aload 0 (c_gf 0 12 (c_gf 10 1 (c_iload 1 (c_aaload   (c_iload 2 (c_iaload (c_ireturn  0)))))))
set_option maxHeartbeats 100000 in
theorem kE128_23 : ex_CE 0 [] cd_128 k128_23 q128_23 := e_aload_aload_n 23 0 0 0 rfl (e_gf 24 86028 79 0 12 rfl rfl (e_gf 27 86657 390 10 1 rfl rfl (e_iload_iload_n 30 0 1 1 rfl (e_aaload 31 0  (e_iload_iload_n 32 0 2 2 rfl (e_iaload 33 0 (e_ireturn 34 0 )))))))
set_option maxHeartbeats 100000 in
def k128_10 : ex_C := c_iload 1 (c_iload 2 (c_icmp_ne 23 (c_newx 549755813890)))
set_option maxHeartbeats 100000 in
theorem kE128_10 : ex_CE 0 [] cd_128 k128_10 q128_10 := e_iload_iload_n 10 0 1 1 rfl (e_iload_iload_n 11 0 2 2 rfl (e_icmp_ne 12 23 11 (e_newx 15 1002 156 158 549755813890 rfl rfl rfl)))
set_option maxHeartbeats 100000 in
def k128_5 : ex_C := c_aload 0 (c_iload 2 (c_invV [] cd_128 7 2 136 0 (k128_10)))
set_option maxHeartbeats 100000 in
theorem kE128_5 : ex_CE 0 [] cd_128 k128_5 q128_5 := e_aload_aload_n 5 0 0 0 rfl (e_iload_iload_n 6 0 2 2 rfl (e_invV_invokevirtual 7 1245186 383 2 136 0 rfl rfl rfl rfl rfl rfl (kE128_10)))
set_option maxHeartbeats 100000 in
def k128_0 : ex_C := c_aload 0 (c_iload 1 (c_invV [] cd_128 2 2 136 0 (k128_5)))
set_option maxHeartbeats 100000 in
theorem kE128_0 : ex_CE 0 [] cd_128 k128_0 q128_0 := e_aload_aload_n 0 0 0 0 rfl (e_iload_iload_n 1 0 1 1 rfl (e_invV_invokevirtual 2 1245186 383 2 136 0 rfl rfl rfl rfl rfl rfl (kE128_5)))
def kt_128 : Nat → Option ex_C := fun pc => @Bool.rec (fun _ => Nat → Option ex_C) (fun pc => @Bool.rec (fun _ => Nat → Option ex_C) (fun pc => @Bool.rec (fun _ => Option ex_C) none (some k128_23) (Nat.beq pc 23)) (fun pc => @Bool.rec (fun _ => Option ex_C) none (some k128_10) (Nat.beq pc 10)) (Nat.ble pc 10) pc) (fun pc => @Bool.rec (fun _ => Nat → Option ex_C) (fun pc => @Bool.rec (fun _ => Option ex_C) none (some k128_5) (Nat.beq pc 5)) (fun pc => @Bool.rec (fun _ => Option ex_C) none (some k128_0) (Nat.beq pc 0)) (Nat.ble pc 0) pc) (Nat.ble pc 5) pc
theorem ktE_128 : ex_CTT 0 [] cd_128 kt_128 cd_128 := (ex_ct2 (ex_ct2 (ex_ct1 kE128_0) (ex_ct1 kE128_5)) (ex_ct2 (ex_ct1 kE128_10) (ex_ct1 kE128_23)))
set_option maxHeartbeats 100000 in
def k129_0 : ex_C := c_aload 0 (c_gf 0 11 (c_gf 9 3 (c_lreturn  3)))
set_option maxHeartbeats 100000 in
theorem kE129_0 : ex_CE 3 [] cd_129 k129_0 q129_0 := e_aload_aload_n 0 0 0 0 rfl (e_gf 1 86027 72 0 11 rfl rfl (e_gf 4 12867 393 9 3 rfl rfl (e_lreturn 7 0 )))
def kt_129 : Nat → Option ex_C := fun pc => @Bool.rec (fun _ => Option ex_C) none (some k129_0) (Nat.beq pc 0)
theorem ktE_129 : ex_CTT 3 [] cd_129 kt_129 cd_129 := (ex_ct1 kE129_0)
set_option maxHeartbeats 100000 in
def k130_18 : ex_C := c_aload 0 (c_gf 0 13 (c_gf 11 1 (c_none)))
set_option maxHeartbeats 100000 in
theorem kE130_18 : ex_CE 7 [] cd_130 k130_18 q130_18 := e_aload_aload_n 18 0 0 0 rfl (e_gf 19 86029 86 0 13 rfl rfl (e_gf 22 705 403 11 1 rfl rfl (e_bad)))
set_option maxHeartbeats 100000 in
def k130_0 : ex_C := c_aload 0 (c_gf 0 13 (c_gf 11 0 (c_if_ne 18 (c_newx 549755813894))))
set_option maxHeartbeats 100000 in
theorem kE130_0 : ex_CE 7 [] cd_130 k130_0 q130_0 := e_aload_aload_n 0 0 0 0 rfl (e_gf 1 86029 86 0 13 rfl rfl (e_gf 4 704 397 11 0 rfl rfl (e_if_ne 7 18 11 (e_newx 10 1006 400 402 549755813894 rfl rfl rfl))))
def kt_130 : Nat → Option ex_C := fun pc => @Bool.rec (fun _ => Nat → Option ex_C) (fun pc => @Bool.rec (fun _ => Option ex_C) none (some k130_18) (Nat.beq pc 18)) (fun pc => @Bool.rec (fun _ => Option ex_C) none (some k130_0) (Nat.beq pc 0)) (Nat.ble pc 0) pc
theorem ktE_130 : ex_CTT 7 [] cd_130 kt_130 cd_130 := (ex_ct2 (ex_ct1 kE130_0) (ex_ct1 kE130_18))
set_option maxHeartbeats 100000 in
def k131_69 : ex_C := c_lload 1 (c_l2d   (c_psh 34359738370 (c_ddiv   (c_dreturn  8))))
set_option maxHeartbeats 100000 in
theorem kE131_69 : ex_CE 8 [] cd_131 k131_69 q131_69 := e_lload_lload_n 69 0 1 1 rfl (e_l2d 70 0  (e_psh_ldc2_w 71 34359738370 412 (e_ddiv 74 0  (e_dreturn 75 0 ))))
set_option maxHeartbeats 100000 in
def k131_60 : ex_C := c_ladd   (c_ladd   (c_lstore_n 1  (c_iinc 3 1 (c_goto 4))))
set_option maxHeartbeats 100000 in
theorem kE131_60 : ex_CE 8 [] cd_131 k131_60 q131_60 := e_ladd 60 0  (e_ladd 61 0  (e_lstore_n 62 0 1 (e_iinc 63 1 3 1 (e_goto 66 4 (-62)))))
set_option maxHeartbeats 100000 in
def k131_39 : ex_C := c_aload 0 (c_gf 0 0 (c_gf 1 1 (c_iload 3 (c_iaload (c_i2l   (c_psh 17179869192 (c_iload 4 (c_iaload (c_i2l   (c_lsub   (c_invS [] cd_131 57 1 161 (k131_60))))))))))))
set_option maxHeartbeats 100000 in
theorem kE131_39 : ex_CE 8 [] cd_131 k131_39 q131_39 := e_aload_aload_n 39 0 0 0 rfl (e_gf 40 86016 10 0 0 rfl rfl (e_gf 43 86081 136 1 1 rfl rfl (e_iload_iload_n 46 0 3 3 rfl (e_iaload 47 0 (e_i2l 48 0  (e_psh_getstatic 49 17179869192 112 (e_iload_iload 52 0 4 (e_iaload 54 0 (e_i2l 55 0  (e_lsub 56 0  (e_invS 57 1458145 409 1 161 rfl rfl rfl (kE131_60))))))))))))
set_option maxHeartbeats 100000 in
def k131_15 : ex_C := c_istore 4 (c_lload 1 (c_aload 0 (c_gf 0 0 (c_gf 1 0 (c_iload 3 (c_iaload (c_i2l   (c_psh 17179869191 (c_iload 4 (c_iaload (c_i2l   (c_lsub   (c_invS [] cd_131 36 1 161 (k131_39))))))))))))))
set_option maxHeartbeats 100000 in
theorem kE131_15 : ex_CE 8 [] cd_131 k131_15 q131_15 := e_istore_istore 15 0 4 (e_lload_lload_n 17 0 1 1 rfl (e_aload_aload_n 18 0 0 0 rfl (e_gf 19 86016 10 0 0 rfl rfl (e_gf 22 86080 133 1 0 rfl rfl (e_iload_iload_n 25 0 3 3 rfl (e_iaload 26 0 (e_i2l 27 0  (e_psh_getstatic 28 17179869191 109 (e_iload_iload 31 0 4 (e_iaload 33 0 (e_i2l 34 0  (e_lsub 35 0  (e_invS 36 1458145 409 1 161 rfl rfl rfl (kE131_39))))))))))))))
set_option maxHeartbeats 100000 in
def k131_4 : ex_C := c_iload 3 (c_psh 8 (c_icmp_ge 69 (c_aload 0 (c_iload 3 (c_invV [] cd_131 12 2 150 0 (k131_15))))))
set_option maxHeartbeats 100000 in
theorem kE131_4 : ex_CE 8 [] cd_131 k131_4 q131_4 := e_iload_iload_n 4 0 3 3 rfl (e_psh_bipush 5 8 8 (e_icmp_ge 7 69 62 (e_aload_aload_n 10 0 0 0 rfl (e_iload_iload_n 11 0 3 3 rfl (e_invV_invokevirtual 12 1359874 406 2 150 0 rfl rfl rfl rfl rfl rfl (kE131_15))))))
set_option maxHeartbeats 100000 in
def k131_0 : ex_C := c_psh 412316860416 (c_lstore_n 1  (c_psh 0 (c_istore 3 (k131_4))))
set_option maxHeartbeats 100000 in
theorem kE131_0 : ex_CE 8 [] cd_131 k131_0 q131_0 := e_psh_lconst 0 412316860416 0 (e_lstore_n 1 0 1 (e_psh_iconst 2 0 0 (e_istore_istore_n 3 0 3 3 rfl (kE131_4))))
def kt_131 : Nat → Option ex_C := fun pc => @Bool.rec (fun _ => Nat → Option ex_C) (fun pc => @Bool.rec (fun _ => Nat → Option ex_C) (fun pc => @Bool.rec (fun _ => Nat → Option ex_C) (fun pc => @Bool.rec (fun _ => Option ex_C) none (some k131_69) (Nat.beq pc 69)) (fun pc => @Bool.rec (fun _ => Option ex_C) none (some k131_60) (Nat.beq pc 60)) (Nat.ble pc 60) pc) (fun pc => @Bool.rec (fun _ => Option ex_C) none (some k131_39) (Nat.beq pc 39)) (Nat.ble pc 39) pc) (fun pc => @Bool.rec (fun _ => Nat → Option ex_C) (fun pc => @Bool.rec (fun _ => Nat → Option ex_C) (fun pc => @Bool.rec (fun _ => Option ex_C) none (some k131_15) (Nat.beq pc 15)) (fun pc => @Bool.rec (fun _ => Option ex_C) none (some k131_4) (Nat.beq pc 4)) (Nat.ble pc 4) pc) (fun pc => @Bool.rec (fun _ => Option ex_C) none (some k131_0) (Nat.beq pc 0)) (Nat.ble pc 0) pc) (Nat.ble pc 15) pc
theorem ktE_131 : ex_CTT 8 [] cd_131 kt_131 cd_131 := (ex_ct2 (ex_ct2 (ex_ct1 kE131_0) (ex_ct2 (ex_ct1 kE131_4) (ex_ct1 kE131_15))) (ex_ct2 (ex_ct1 kE131_39) (ex_ct2 (ex_ct1 kE131_60) (ex_ct1 kE131_69))))
set_option maxHeartbeats 100000 in
def k132_79 : ex_C := c_ireturn  1
set_option maxHeartbeats 100000 in
theorem kE132_79 : ex_CE 1 [] cd_132 k132_79 q132_79 := e_ireturn 79 0 
set_option maxHeartbeats 100000 in
def k132_72 : ex_C := c_aload 0 (c_gf 0 12 (c_invV [] cd_132 76 1 34 10 (k132_79)))
set_option maxHeartbeats 100000 in
theorem kE132_72 : ex_CE 1 [] cd_132 k132_72 q132_72 := e_aload_aload_n 72 0 0 0 rfl (e_gf 73 86028 79 0 12 rfl rfl (e_invV_invokevirtual 76 409921 418 1 34 10 rfl rfl rfl rfl rfl rfl (kE132_79)))
set_option maxHeartbeats 100000 in
def k132_66 : ex_C := c_iinc 1 1 (c_goto 47)
set_option maxHeartbeats 100000 in
theorem kE132_66 : ex_CE 1 [] cd_132 k132_66 q132_66 := e_iinc 66 1 1 1 (e_goto 69 47 (-22))
set_option maxHeartbeats 100000 in
def k132_61 : ex_C := c_if_ne 66 (c_psh 0 (c_ireturn  1))
set_option maxHeartbeats 100000 in
theorem kE132_61 : ex_CE 1 [] cd_132 k132_61 q132_61 := e_if_ne 61 66 5 (e_psh_iconst 64 0 0 (e_ireturn 65 0 ))
set_option maxHeartbeats 100000 in
def k132_53 : ex_C := c_icmp_ge 72 (c_aload 0 (c_iload 1 (c_invV [] cd_132 58 2 147 0 (k132_61))))
set_option maxHeartbeats 100000 in
theorem kE132_53 : ex_CE 1 [] cd_132 k132_53 q132_53 := e_icmp_ge 53 72 19 (e_aload_aload_n 56 0 0 0 rfl (e_iload_iload_n 57 0 1 1 rfl (e_invV_invokevirtual 58 1335298 414 2 147 0 rfl rfl rfl rfl rfl rfl (kE132_61))))
set_option maxHeartbeats 100000 in
def k132_47 : ex_C := c_iload 1 (c_psh 17179869202 (c_invV [] cd_132 50 1 164 18 (k132_53)))
set_option maxHeartbeats 100000 in
theorem kE132_47 : ex_CE 1 [] cd_132 k132_47 q132_47 := e_iload_iload_n 47 0 1 1 rfl (e_psh_ldc 48 17179869202 231 (e_invV_invokevirtual 50 1475137 327 1 164 18 rfl rfl rfl rfl rfl rfl (kE132_53)))
set_option maxHeartbeats 100000 in
def k132_45 : ex_C := c_psh 0 (c_istore 1 (k132_47))
set_option maxHeartbeats 100000 in
theorem kE132_45 : ex_CE 1 [] cd_132 k132_45 q132_45 := e_psh_iconst 45 0 0 (e_istore_istore_n 46 0 1 1 rfl (kE132_47))
set_option maxHeartbeats 100000 in
def k132_39 : ex_C := c_iinc 1 1 (c_goto 2)
set_option maxHeartbeats 100000 in
theorem kE132_39 : ex_CE 1 [] cd_132 k132_39 q132_39 := e_iinc 39 1 1 1 (e_goto 42 2 (-40))
set_option maxHeartbeats 100000 in
def k132_33 : ex_C := c_iload 1 (c_icmp_eq 39 (c_psh 0 (c_ireturn  1)))
set_option maxHeartbeats 100000 in
theorem kE132_33 : ex_CE 1 [] cd_132 k132_33 q132_33 := e_iload_iload_n 33 0 1 1 rfl (e_icmp_eq 34 39 5 (e_psh_iconst 37 0 0 (e_ireturn 38 0 )))
set_option maxHeartbeats 100000 in
def k132_2 : ex_C := c_iload 1 (c_psh 8 (c_icmp_ge 45 (c_aload 0 (c_gf 0 0 (c_aload 0 (c_gf 0 0 (c_gf 1 0 (c_iload 1 (c_iaload (c_aload 0 (c_gf 0 0 (c_gf 1 1 (c_iload 1 (c_iaload (c_invV [] cd_132 30 3 42 1 (k132_33))))))))))))))))
set_option maxHeartbeats 100000 in
theorem kE132_2 : ex_CE 1 [] cd_132 k132_2 q132_2 := e_iload_iload_n 2 0 1 1 rfl (e_psh_bipush 3 8 8 (e_icmp_ge 5 45 40 (e_aload_aload_n 8 0 0 0 rfl (e_gf 9 86016 10 0 0 rfl rfl (e_aload_aload_n 12 0 0 0 rfl (e_gf 13 86016 10 0 0 rfl rfl (e_gf 16 86080 133 1 0 rfl rfl (e_iload_iload_n 19 0 1 1 rfl (e_iaload 20 0 (e_aload_aload_n 21 0 0 0 rfl (e_gf 22 86016 10 0 0 rfl rfl (e_gf 25 86081 136 1 1 rfl rfl (e_iload_iload_n 28 0 1 1 rfl (e_iaload 29 0 (e_invV_invokevirtual 30 475171 146 3 42 1 rfl rfl rfl rfl rfl rfl (kE132_33))))))))))))))))
set_option maxHeartbeats 100000 in
def k132_0 : ex_C := c_psh 0 (c_istore 1 (k132_2))
set_option maxHeartbeats 100000 in
theorem kE132_0 : ex_CE 1 [] cd_132 k132_0 q132_0 := e_psh_iconst 0 0 0 (e_istore_istore_n 1 0 1 1 rfl (kE132_2))
def kt_132 : Nat → Option ex_C := fun pc => @Bool.rec (fun _ => Nat → Option ex_C) (fun pc => @Bool.rec (fun _ => Nat → Option ex_C) (fun pc => @Bool.rec (fun _ => Nat → Option ex_C) (fun pc => @Bool.rec (fun _ => Nat → Option ex_C) (fun pc => @Bool.rec (fun _ => Option ex_C) none (some k132_79) (Nat.beq pc 79)) (fun pc => @Bool.rec (fun _ => Option ex_C) none (some k132_72) (Nat.beq pc 72)) (Nat.ble pc 72) pc) (fun pc => @Bool.rec (fun _ => Option ex_C) none (some k132_66) (Nat.beq pc 66)) (Nat.ble pc 66) pc) (fun pc => @Bool.rec (fun _ => Nat → Option ex_C) (fun pc => @Bool.rec (fun _ => Nat → Option ex_C) (fun pc => @Bool.rec (fun _ => Option ex_C) none (some k132_61) (Nat.beq pc 61)) (fun pc => @Bool.rec (fun _ => Option ex_C) none (some k132_53) (Nat.beq pc 53)) (Nat.ble pc 53) pc) (fun pc => @Bool.rec (fun _ => Option ex_C) none (some k132_47) (Nat.beq pc 47)) (Nat.ble pc 47) pc) (Nat.ble pc 61) pc) (fun pc => @Bool.rec (fun _ => Nat → Option ex_C) (fun pc => @Bool.rec (fun _ => Nat → Option ex_C) (fun pc => @Bool.rec (fun _ => Nat → Option ex_C) (fun pc => @Bool.rec (fun _ => Option ex_C) none (some k132_45) (Nat.beq pc 45)) (fun pc => @Bool.rec (fun _ => Option ex_C) none (some k132_39) (Nat.beq pc 39)) (Nat.ble pc 39) pc) (fun pc => @Bool.rec (fun _ => Option ex_C) none (some k132_33) (Nat.beq pc 33)) (Nat.ble pc 33) pc) (fun pc => @Bool.rec (fun _ => Nat → Option ex_C) (fun pc => @Bool.rec (fun _ => Option ex_C) none (some k132_2) (Nat.beq pc 2)) (fun pc => @Bool.rec (fun _ => Option ex_C) none (some k132_0) (Nat.beq pc 0)) (Nat.ble pc 0) pc) (Nat.ble pc 2) pc) (Nat.ble pc 45) pc
theorem ktE_132 : ex_CTT 1 [] cd_132 kt_132 cd_132 := (ex_ct2 (ex_ct2 (ex_ct2 (ex_ct1 kE132_0) (ex_ct1 kE132_2)) (ex_ct2 (ex_ct1 kE132_33) (ex_ct2 (ex_ct1 kE132_39) (ex_ct1 kE132_45)))) (ex_ct2 (ex_ct2 (ex_ct1 kE132_47) (ex_ct2 (ex_ct1 kE132_53) (ex_ct1 kE132_61))) (ex_ct2 (ex_ct1 kE132_66) (ex_ct2 (ex_ct1 kE132_72) (ex_ct1 kE132_79)))))
end
