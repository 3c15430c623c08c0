noncomputable section
set_option maxHeartbeats 100000 in
def k217_24 : ex_C := c_ireturn  0
set_option maxHeartbeats 100000 in
theorem kE217_24 : ex_CE 0 [] cd_217 k217_24 q217_24 := e_ireturn 24 0 
set_option maxHeartbeats 100000 in
def k217_12 : ex_C := c_aload 0 (c_iload 1 (c_psh 97 (c_psh 45 (c_invV [] cd_217 18 4 214 12 (c_gf 13 3 (k217_24))))))
set_option maxHeartbeats 100000 in
theorem kE217_12 : ex_CE 0 [] cd_217 k217_12 q217_12 := e_aload_aload_n 12 0 0 0 rfl (e_iload_iload_n 13 0 1 1 rfl (e_psh_bipush 14 97 97 (e_psh_bipush 16 45 45 (e_invV_invokevirtual 18 1884548 261 4 214 12 rfl rfl rfl rfl rfl rfl (e_gf 21 835 249 13 3 rfl rfl (kE217_24))))))
set_option maxHeartbeats 100000 in
def k217_0 : ex_C := c_aload 0 (c_iload 1 (c_invV [] cd_217 2 2 215 12 (c_if_eq 12 (c_psh 0 (c_goto 24)))))
set_option maxHeartbeats 100000 in
theorem kE217_0 : ex_CE 0 [] cd_217 k217_0 q217_0 := e_aload_aload_n 0 0 0 0 rfl (e_iload_iload_n 1 0 1 1 rfl (e_invV_invokevirtual 2 1892738 258 2 215 12 rfl rfl rfl rfl rfl rfl (e_if_eq 5 12 7 (e_psh_iconst 8 0 0 (e_goto 9 24 15)))))
def kt_217 : Nat → Option ex_C := fun pc => @Bool.rec (fun _ => Nat → Option ex_C) (fun pc => @Bool.rec (fun _ => Nat → Option ex_C) (fun pc => @Bool.rec (fun _ => Option ex_C) none (some k217_24) (Nat.beq pc 24)) (fun pc => @Bool.rec (fun _ => Option ex_C) none (some k217_12) (Nat.beq pc 12)) (Nat.ble pc 12) pc) (fun pc => @Bool.rec (fun _ => Option ex_C) none (some k217_0) (Nat.beq pc 0)) (Nat.ble pc 0) pc
theorem ktE_217 : ex_CTT 0 [] cd_217 kt_217 cd_217 := (ex_ct2 (ex_ct1 kE217_0) (ex_ct2 (ex_ct1 kE217_12) (ex_ct1 kE217_24)))
set_option maxHeartbeats 100000 in
def k218_24 : ex_C := c_ireturn  0
set_option maxHeartbeats 100000 in
theorem kE218_24 : ex_CE 0 [] cd_218 k218_24 q218_24 := e_ireturn 24 0 
set_option maxHeartbeats 100000 in
def k218_12 : ex_C := c_aload 0 (c_iload 1 (c_psh 97 (c_psh 45 (c_invV [] cd_218 18 4 214 12 (c_invV [] cd_218 21 1 173 13 (k218_24))))))
set_option maxHeartbeats 100000 in
theorem kE218_12 : ex_CE 0 [] cd_218 k218_12 q218_12 := e_aload_aload_n 12 0 0 0 rfl (e_iload_iload_n 13 0 1 1 rfl (e_psh_bipush 14 97 97 (e_psh_bipush 16 45 45 (e_invV_invokevirtual 18 1884548 261 4 214 12 rfl rfl rfl rfl rfl rfl (e_invV_invokevirtual 21 1548705 265 1 173 13 rfl rfl rfl rfl rfl rfl (kE218_24))))))
set_option maxHeartbeats 100000 in
def k218_0 : ex_C := c_aload 0 (c_iload 1 (c_invV [] cd_218 2 2 215 12 (c_if_eq 12 (c_psh 0 (c_goto 24)))))
set_option maxHeartbeats 100000 in
theorem kE218_0 : ex_CE 0 [] cd_218 k218_0 q218_0 := e_aload_aload_n 0 0 0 0 rfl (e_iload_iload_n 1 0 1 1 rfl (e_invV_invokevirtual 2 1892738 258 2 215 12 rfl rfl rfl rfl rfl rfl (e_if_eq 5 12 7 (e_psh_iconst 8 0 0 (e_goto 9 24 15)))))
def kt_218 : Nat → Option ex_C := fun pc => @Bool.rec (fun _ => Nat → Option ex_C) (fun pc => @Bool.rec (fun _ => Nat → Option ex_C) (fun pc => @Bool.rec (fun _ => Option ex_C) none (some k218_24) (Nat.beq pc 24)) (fun pc => @Bool.rec (fun _ => Option ex_C) none (some k218_12) (Nat.beq pc 12)) (Nat.ble pc 12) pc) (fun pc => @Bool.rec (fun _ => Option ex_C) none (some k218_0) (Nat.beq pc 0)) (Nat.ble pc 0) pc
theorem ktE_218 : ex_CTT 0 [] cd_218 kt_218 cd_218 := (ex_ct2 (ex_ct1 kE218_0) (ex_ct2 (ex_ct1 kE218_12) (ex_ct1 kE218_24)))
set_option maxHeartbeats 100000 in
def k219_100 : ex_C := c_ireturn  0
set_option maxHeartbeats 100000 in
theorem kE219_100 : ex_CE 0 [] cd_219 k219_100 q219_100 := e_ireturn 100 0 
set_option maxHeartbeats 100000 in
def k219_89 : ex_C := c_aload 0 (c_gf 12 3 (c_aload 1 (c_gf 14 5 (c_iload 2 (c_iaload (c_iaload (k219_100)))))))
set_option maxHeartbeats 100000 in
theorem kE219_89 : ex_CE 0 [] cd_219 k219_89 q219_89 := e_aload_aload_n 89 0 0 0 rfl (e_gf 90 86787 19 12 3 rfl rfl (e_aload_aload_n 93 0 1 1 rfl (e_gf 94 86917 290 14 5 rfl rfl (e_iload_iload_n 97 0 2 2 rfl (e_iaload 98 0 (e_iaload 99 0 (kE219_100)))))))
set_option maxHeartbeats 100000 in
def k219_78 : ex_C := c_aload 0 (c_gf 12 39 (c_if_eq 89 (c_psh 3 (c_goto 100))))
set_option maxHeartbeats 100000 in
theorem kE219_78 : ex_CE 0 [] cd_219 k219_78 q219_78 := e_aload_aload_n 78 0 0 0 rfl (e_gf 79 4903 286 12 39 rfl rfl (e_if_eq 82 89 7 (e_psh_iconst 85 3 3 (e_goto 86 100 14))))
set_option maxHeartbeats 100000 in
def k219_77 : ex_C := c_ireturn  0
set_option maxHeartbeats 100000 in
theorem kE219_77 : ex_CE 0 [] cd_219 k219_77 q219_77 := e_ireturn 77 0 
set_option maxHeartbeats 100000 in
def k219_63 : ex_C := c_aload 0 (c_aload 1 (c_gf 14 0 (c_aload 1 (c_gf 14 6 (c_iload 2 (c_iaload (c_invV [] cd_219 74 3 219 12 (k219_77))))))))
set_option maxHeartbeats 100000 in
theorem kE219_63 : ex_CE 0 [] cd_219 k219_63 q219_63 := e_aload_aload_n 63 0 0 0 rfl (e_aload_aload_n 64 0 1 1 rfl (e_gf 65 86912 272 14 0 rfl rfl (e_aload_aload_n 68 0 1 1 rfl (e_gf 69 86918 276 14 6 rfl rfl (e_iload_iload_n 72 0 2 2 rfl (e_iaload 73 0 (e_invV_invokevirtual 74 1925507 279 3 219 12 rfl rfl rfl rfl rfl rfl (kE219_77))))))))
set_option maxHeartbeats 100000 in
def k219_42 : ex_C := c_aload 1 (c_gf 14 0 (c_ifnull 32 78 (c_aload 1 (c_gf 14 6 (c_iload 2 (c_iaload (c_psh 4294967295 (c_icmp_ne 63 (c_psh 3 (c_goto 77))))))))))
set_option maxHeartbeats 100000 in
theorem kE219_42 : ex_CE 0 [] cd_219 k219_42 q219_42 := e_aload_aload_n 42 0 1 1 rfl (e_gf 43 86912 272 14 0 rfl rfl (e_ifnull 46 78 32 (e_aload_aload_n 49 0 1 1 rfl (e_gf 50 86918 276 14 6 rfl rfl (e_iload_iload_n 53 0 2 2 rfl (e_iaload 54 0 (e_psh_iconst 55 4294967295 (-1) (e_icmp_ne 56 63 7 (e_psh_iconst 59 3 3 (e_goto 60 77 17))))))))))
set_option maxHeartbeats 100000 in
def k219_0 : ex_C := c_aload 1 (c_gf 14 7 (c_iload 2 (c_iaload (c_psh 4294967295 (c_icmp_eq 42 (c_aload 0 (c_aload 1 (c_gf 14 0 (c_aload 1 (c_gf 14 6 (c_iload 2 (c_iaload (c_invV [] cd_219 21 3 219 12 (c_aload 0 (c_aload 1 (c_gf 14 0 (c_aload 1 (c_gf 14 7 (c_iload 2 (c_iaload (c_invV [] cd_219 35 3 219 12 (c_invS [] cd_219 38 2 302 (c_ireturn  0)))))))))))))))))))))))
set_option maxHeartbeats 100000 in
theorem kE219_0 : ex_CE 0 [] cd_219 k219_0 q219_0 := e_aload_aload_n 0 0 1 1 rfl (e_gf 1 86919 267 14 7 rfl rfl (e_iload_iload_n 4 0 2 2 rfl (e_iaload 5 0 (e_psh_iconst 6 4294967295 (-1) (e_icmp_eq 7 42 35 (e_aload_aload_n 10 0 0 0 rfl (e_aload_aload_n 11 0 1 1 rfl (e_gf 12 86912 272 14 0 rfl rfl (e_aload_aload_n 15 0 1 1 rfl (e_gf 16 86918 276 14 6 rfl rfl (e_iload_iload_n 19 0 2 2 rfl (e_iaload 20 0 (e_invV_invokevirtual 21 1925507 279 3 219 12 rfl rfl rfl rfl rfl rfl (e_aload_aload_n 24 0 0 0 rfl (e_aload_aload_n 25 0 1 1 rfl (e_gf 26 86912 272 14 0 rfl rfl (e_aload_aload_n 29 0 1 1 rfl (e_gf 30 86919 267 14 7 rfl rfl (e_iload_iload_n 33 0 2 2 rfl (e_iaload 34 0 (e_invV_invokevirtual 35 1925507 279 3 219 12 rfl rfl rfl rfl rfl rfl (e_invS 38 2613218 283 2 302 rfl rfl rfl (e_ireturn 41 0 )))))))))))))))))))))))
def kt_219 : Nat → Option ex_C := fun pc => @Bool.rec (fun _ => Nat → Option ex_C) (fun pc => @Bool.rec (fun _ => Nat → Option ex_C) (fun pc => @Bool.rec (fun _ => Nat → Option ex_C) (fun pc => @Bool.rec (fun _ => Option ex_C) none (some k219_100) (Nat.beq pc 100)) (fun pc => @Bool.rec (fun _ => Option ex_C) none (some k219_89) (Nat.beq pc 89)) (Nat.ble pc 89) pc) (fun pc => @Bool.rec (fun _ => Nat → Option ex_C) (fun pc => @Bool.rec (fun _ => Option ex_C) none (some k219_78) (Nat.beq pc 78)) (fun pc => @Bool.rec (fun _ => Option ex_C) none (some k219_77) (Nat.beq pc 77)) (Nat.ble pc 77) pc) (Nat.ble pc 78) pc) (fun pc => @Bool.rec (fun _ => Nat → Option ex_C) (fun pc => @Bool.rec (fun _ => Nat → Option ex_C) (fun pc => @Bool.rec (fun _ => Option ex_C) none (some k219_63) (Nat.beq pc 63)) (fun pc => @Bool.rec (fun _ => Option ex_C) none (some k219_42) (Nat.beq pc 42)) (Nat.ble pc 42) pc) (fun pc => @Bool.rec (fun _ => Option ex_C) none (some k219_0) (Nat.beq pc 0)) (Nat.ble pc 0) pc) (Nat.ble pc 63) pc
theorem ktE_219 : ex_CTT 0 [] cd_219 kt_219 cd_219 := (ex_ct2 (ex_ct2 (ex_ct1 kE219_0) (ex_ct2 (ex_ct1 kE219_42) (ex_ct1 kE219_63))) (ex_ct2 (ex_ct2 (ex_ct1 kE219_77) (ex_ct1 kE219_78)) (ex_ct2 (ex_ct1 kE219_89) (ex_ct1 kE219_100))))
set_option maxHeartbeats 100000 in
def k220_168 : ex_C := c_ireturn  1
set_option maxHeartbeats 100000 in
theorem kE220_168 : ex_CE 1 [] cd_220 k220_168 q220_168 := e_ireturn 168 0 
set_option maxHeartbeats 100000 in
def k220_167 : ex_C := c_psh 0 (k220_168)
set_option maxHeartbeats 100000 in
theorem kE220_167 : ex_CE 1 [] cd_220 k220_167 q220_167 := e_psh_iconst 167 0 0 (kE220_168)
set_option maxHeartbeats 100000 in
def k220_160 : ex_C := c_icmp_ne 167 (c_psh 1 (c_goto 168))
set_option maxHeartbeats 100000 in
theorem kE220_160 : ex_CE 1 [] cd_220 k220_160 q220_160 := e_icmp_ne 160 167 7 (e_psh_iconst 163 1 1 (e_goto 164 168 4))
set_option maxHeartbeats 100000 in
def k220_159 : ex_C := c_psh 1 (k220_160)
set_option maxHeartbeats 100000 in
theorem kE220_159 : ex_CE 1 [] cd_220 k220_159 q220_159 := e_psh_iconst 159 1 1 (kE220_160)
set_option maxHeartbeats 100000 in
def k220_136 : ex_C := c_iload 4 (c_psh 8 (c_icmp_ge 167 (c_iload 4 (c_psh 2 (c_idiv   (c_psh 2 (c_irem   (c_iload 3 (c_psh 104 (c_icmp_ne 159 (c_psh 0 (c_goto 160))))))))))))
set_option maxHeartbeats 100000 in
theorem kE220_136 : ex_CE 1 [] cd_220 k220_136 q220_136 := e_iload_iload 136 0 4 (e_psh_bipush 138 8 8 (e_icmp_ge 140 167 27 (e_iload_iload 143 0 4 (e_psh_iconst 145 2 2 (e_idiv 146 0  (e_psh_iconst 147 2 2 (e_irem 148 0  (e_iload_iload_n 149 0 3 3 rfl (e_psh_bipush 150 104 104 (e_icmp_ne 152 159 7 (e_psh_iconst 155 0 0 (e_goto 156 160 4))))))))))))
set_option maxHeartbeats 100000 in
def k220_132 : ex_C := c_psh 0 (c_goto 168)
set_option maxHeartbeats 100000 in
theorem kE220_132 : ex_CE 1 [] cd_220 k220_132 q220_132 := e_psh_iconst 132 0 0 (e_goto 133 168 35)
set_option maxHeartbeats 100000 in
def k220_114 : ex_C := c_iload 3 (c_psh 114 (c_icmp_ne 136 (c_iload 4 (c_psh 2 (c_irem   (c_psh 1 (c_icmp_ne 132 (c_psh 1 (c_goto 168)))))))))
set_option maxHeartbeats 100000 in
theorem kE220_114 : ex_CE 1 [] cd_220 k220_114 q220_114 := e_iload_iload_n 114 0 3 3 rfl (e_psh_bipush 115 114 114 (e_icmp_ne 117 136 19 (e_iload_iload 120 0 4 (e_psh_iconst 122 2 2 (e_irem 123 0  (e_psh_iconst 124 1 1 (e_icmp_ne 125 132 7 (e_psh_iconst 128 1 1 (e_goto 129 168 39)))))))))
set_option maxHeartbeats 100000 in
def k220_110 : ex_C := c_psh 0 (c_goto 168)
set_option maxHeartbeats 100000 in
theorem kE220_110 : ex_CE 1 [] cd_220 k220_110 q220_110 := e_psh_iconst 110 0 0 (e_goto 111 168 57)
set_option maxHeartbeats 100000 in
def k220_85 : ex_C := c_aload 1 (c_gf 14 5 (c_iload 2 (c_iaload (c_istore 4 (c_iload 3 (c_psh 108 (c_icmp_ne 114 (c_iload 4 (c_psh 2 (c_irem   (c_if_ne 110 (c_psh 1 (c_goto 168)))))))))))))
set_option maxHeartbeats 100000 in
theorem kE220_85 : ex_CE 1 [] cd_220 k220_85 q220_85 := e_aload_aload_n 85 0 1 1 rfl (e_gf 86 86917 290 14 5 rfl rfl (e_iload_iload_n 89 0 2 2 rfl (e_iaload 90 0 (e_istore_istore 91 0 4 (e_iload_iload_n 93 0 3 3 rfl (e_psh_bipush 94 108 108 (e_icmp_ne 96 114 18 (e_iload_iload 99 0 4 (e_psh_iconst 101 2 2 (e_irem 102 0  (e_if_ne 103 110 7 (e_psh_iconst 106 1 1 (e_goto 107 168 61)))))))))))))
set_option maxHeartbeats 100000 in
def k220_52 : ex_C := c_aload 1 (c_gf 14 0 (c_ifnull 29 85 (c_aload 1 (c_gf 14 6 (c_iload 2 (c_iaload (c_psh 4294967295 (c_icmp_eq 85 (c_aload 0 (c_aload 1 (c_gf 14 0 (c_aload 1 (c_gf 14 6 (c_iload 2 (c_iaload (c_iload 3 (c_invV [] cd_220 81 4 220 12 (c_ireturn  1))))))))))))))))))
set_option maxHeartbeats 100000 in
theorem kE220_52 : ex_CE 1 [] cd_220 k220_52 q220_52 := e_aload_aload_n 52 0 1 1 rfl (e_gf 53 86912 272 14 0 rfl rfl (e_ifnull 56 85 29 (e_aload_aload_n 59 0 1 1 rfl (e_gf 60 86918 276 14 6 rfl rfl (e_iload_iload_n 63 0 2 2 rfl (e_iaload 64 0 (e_psh_iconst 65 4294967295 (-1) (e_icmp_eq 66 85 19 (e_aload_aload_n 69 0 0 0 rfl (e_aload_aload_n 70 0 1 1 rfl (e_gf 71 86912 272 14 0 rfl rfl (e_aload_aload_n 74 0 1 1 rfl (e_gf 75 86918 276 14 6 rfl rfl (e_iload_iload_n 78 0 2 2 rfl (e_iaload 79 0 (e_iload_iload_n 80 0 3 3 rfl (e_invV_invokevirtual 81 1933700 293 4 220 12 rfl rfl rfl rfl rfl rfl (e_ireturn 84 0 ))))))))))))))))))
set_option maxHeartbeats 100000 in
def k220_51 : ex_C := c_ireturn  1
set_option maxHeartbeats 100000 in
theorem kE220_51 : ex_CE 1 [] cd_220 k220_51 q220_51 := e_ireturn 51 0 
set_option maxHeartbeats 100000 in
def k220_50 : ex_C := c_psh 0 (k220_51)
set_option maxHeartbeats 100000 in
theorem kE220_50 : ex_CE 1 [] cd_220 k220_50 q220_50 := e_psh_iconst 50 0 0 (kE220_51)
set_option maxHeartbeats 100000 in
def k220_0 : ex_C := c_aload 1 (c_gf 14 7 (c_iload 2 (c_iaload (c_psh 4294967295 (c_icmp_eq 52 (c_aload 0 (c_aload 1 (c_gf 14 0 (c_aload 1 (c_gf 14 6 (c_iload 2 (c_iaload (c_iload 3 (c_invV [] cd_220 22 4 220 12 (c_if_eq 50 (c_aload 0 (c_aload 1 (c_gf 14 0 (c_aload 1 (c_gf 14 7 (c_iload 2 (c_iaload (c_iload 3 (c_invV [] cd_220 40 4 220 12 (c_if_eq 50 (c_psh 1 (c_goto 51)))))))))))))))))))))))))))
set_option maxHeartbeats 100000 in
theorem kE220_0 : ex_CE 1 [] cd_220 k220_0 q220_0 := e_aload_aload_n 0 0 1 1 rfl (e_gf 1 86919 267 14 7 rfl rfl (e_iload_iload_n 4 0 2 2 rfl (e_iaload 5 0 (e_psh_iconst 6 4294967295 (-1) (e_icmp_eq 7 52 45 (e_aload_aload_n 10 0 0 0 rfl (e_aload_aload_n 11 0 1 1 rfl (e_gf 12 86912 272 14 0 rfl rfl (e_aload_aload_n 15 0 1 1 rfl (e_gf 16 86918 276 14 6 rfl rfl (e_iload_iload_n 19 0 2 2 rfl (e_iaload 20 0 (e_iload_iload_n 21 0 3 3 rfl (e_invV_invokevirtual 22 1933700 293 4 220 12 rfl rfl rfl rfl rfl rfl (e_if_eq 25 50 25 (e_aload_aload_n 28 0 0 0 rfl (e_aload_aload_n 29 0 1 1 rfl (e_gf 30 86912 272 14 0 rfl rfl (e_aload_aload_n 33 0 1 1 rfl (e_gf 34 86919 267 14 7 rfl rfl (e_iload_iload_n 37 0 2 2 rfl (e_iaload 38 0 (e_iload_iload_n 39 0 3 3 rfl (e_invV_invokevirtual 40 1933700 293 4 220 12 rfl rfl rfl rfl rfl rfl (e_if_eq 43 50 7 (e_psh_iconst 46 1 1 (e_goto 47 51 4)))))))))))))))))))))))))))
def kt_220 : Nat → Option ex_C := fun pc => @Bool.rec (fun _ => Nat → Option ex_C) (fun pc => @Bool.rec (fun _ => Nat → Option ex_C) (fun pc => @Bool.rec (fun _ => Nat → Option ex_C) (fun pc => @Bool.rec (fun _ => Nat → Option ex_C) (fun pc => @Bool.rec (fun _ => Option ex_C) none (some k220_168) (Nat.beq pc 168)) (fun pc => @Bool.rec (fun _ => Option ex_C) none (some k220_167) (Nat.beq pc 167)) (Nat.ble pc 167) pc) (fun pc => @Bool.rec (fun _ => Nat → Option ex_C) (fun pc => @Bool.rec (fun _ => Option ex_C) none (some k220_160) (Nat.beq pc 160)) (fun pc => @Bool.rec (fun _ => Option ex_C) none (some k220_159) (Nat.beq pc 159)) (Nat.ble pc 159) pc) (Nat.ble pc 160) pc) (fun pc => @Bool.rec (fun _ => Nat → Option ex_C) (fun pc => @Bool.rec (fun _ => Nat → Option ex_C) (fun pc => @Bool.rec (fun _ => Option ex_C) none (some k220_136) (Nat.beq pc 136)) (fun pc => @Bool.rec (fun _ => Option ex_C) none (some k220_132) (Nat.beq pc 132)) (Nat.ble pc 132) pc) (fun pc => @Bool.rec (fun _ => Option ex_C) none (some k220_114) (Nat.beq pc 114)) (Nat.ble pc 114) pc) (Nat.ble pc 136) pc) (fun pc => @Bool.rec (fun _ => Nat → Option ex_C) (fun pc => @Bool.rec (fun _ => Nat → Option ex_C) (fun pc => @Bool.rec (fun _ => Nat → Option ex_C) (fun pc => @Bool.rec (fun _ => Option ex_C) none (some k220_110) (Nat.beq pc 110)) (fun pc => @Bool.rec (fun _ => Option ex_C) none (some k220_85) (Nat.beq pc 85)) (Nat.ble pc 85) pc) (fun pc => @Bool.rec (fun _ => Option ex_C) none (some k220_52) (Nat.beq pc 52)) (Nat.ble pc 52) pc) (fun pc => @Bool.rec (fun _ => Nat → Option ex_C) (fun pc => @Bool.rec (fun _ => Nat → Option ex_C) (fun pc => @Bool.rec (fun _ => Option ex_C) none (some k220_51) (Nat.beq pc 51)) (fun pc => @Bool.rec (fun _ => Option ex_C) none (some k220_50) (Nat.beq pc 50)) (Nat.ble pc 50) pc) (fun pc => @Bool.rec (fun _ => Option ex_C) none (some k220_0) (Nat.beq pc 0)) (Nat.ble pc 0) pc) (Nat.ble pc 51) pc) (Nat.ble pc 110) pc
theorem ktE_220 : ex_CTT 1 [] cd_220 kt_220 cd_220 := (ex_ct2 (ex_ct2 (ex_ct2 (ex_ct1 kE220_0) (ex_ct2 (ex_ct1 kE220_50) (ex_ct1 kE220_51))) (ex_ct2 (ex_ct1 kE220_52) (ex_ct2 (ex_ct1 kE220_85) (ex_ct1 kE220_110)))) (ex_ct2 (ex_ct2 (ex_ct1 kE220_114) (ex_ct2 (ex_ct1 kE220_132) (ex_ct1 kE220_136))) (ex_ct2 (ex_ct2 (ex_ct1 kE220_159) (ex_ct1 kE220_160)) (ex_ct2 (ex_ct1 kE220_167) (ex_ct1 kE220_168)))))
set_option maxHeartbeats 100000 in
def k221_249 : ex_C := c_aload 3 (c_areturn  5)
set_option maxHeartbeats 100000 in
theorem kE221_249 : ex_CE 5 [] cd_221 k221_249 q221_249 := e_aload_aload_n 249 0 3 3 rfl (e_areturn 250 0 )
set_option maxHeartbeats 100000 in
def k221_242 : ex_C := c_bastore (c_iinc 5 1 (c_goto 76))
set_option maxHeartbeats 100000 in
theorem kE221_242 : ex_CE 5 [] cd_221 k221_242 q221_242 := e_bastore 242 0 (e_iinc 243 1 5 1 (e_goto 246 76 (-170)))
set_option maxHeartbeats 100000 in
def k221_241 : ex_C := c_psh 0 (k221_242)
set_option maxHeartbeats 100000 in
theorem kE221_241 : ex_CE 5 [] cd_221 k221_241 q221_241 := e_psh_iconst 241 0 0 (kE221_242)
set_option maxHeartbeats 100000 in
def k221_234 : ex_C := c_icmp_ne 241 (c_psh 1 (c_goto 242))
set_option maxHeartbeats 100000 in
theorem kE221_234 : ex_CE 5 [] cd_221 k221_234 q221_234 := e_icmp_ne 234 241 7 (e_psh_iconst 237 1 1 (e_goto 238 242 4))
set_option maxHeartbeats 100000 in
def k221_233 : ex_C := c_psh 0 (k221_234)
set_option maxHeartbeats 100000 in
theorem kE221_233 : ex_CE 5 [] cd_221 k221_233 q221_233 := e_psh_iconst 233 0 0 (kE221_234)
set_option maxHeartbeats 100000 in
def k221_223 : ex_C := c_iload 2 (c_psh 99 (c_icmp_ne 233 (c_psh 1 (c_goto 234))))
set_option maxHeartbeats 100000 in
theorem kE221_223 : ex_CE 5 [] cd_221 k221_223 q221_223 := e_iload_iload_n 223 0 2 2 rfl (e_psh_bipush 224 99 99 (e_icmp_ne 226 233 7 (e_psh_iconst 229 1 1 (e_goto 230 234 4))))
set_option maxHeartbeats 100000 in
def k221_222 : ex_C := c_psh 0 (k221_223)
set_option maxHeartbeats 100000 in
theorem kE221_222 : ex_CE 5 [] cd_221 k221_222 q221_222 := e_psh_iconst 222 0 0 (kE221_223)
set_option maxHeartbeats 100000 in
def k221_208 : ex_C := c_aload 3 (c_iload 5 (c_iload 7 (c_iload 4 (c_icmp_ge 222 (c_psh 1 (c_goto 223))))))
set_option maxHeartbeats 100000 in
theorem kE221_208 : ex_CE 5 [] cd_221 k221_208 q221_208 := e_aload_aload_n 208 0 3 3 rfl (e_iload_iload 209 0 5 (e_iload_iload 211 0 7 (e_iload_iload 213 0 4 (e_icmp_ge 215 222 7 (e_psh_iconst 218 1 1 (e_goto 219 223 4))))))
set_option maxHeartbeats 100000 in
def k221_189 : ex_C := c_iload 7 (c_iload 4 (c_icmp_ge 208 (c_iload 7 (c_iload 8 (c_iadd (c_iload 4 (c_icmp_le 208 (c_aconst_null   (c_areturn  5)))))))))
set_option maxHeartbeats 100000 in
theorem kE221_189 : ex_CE 5 [] cd_221 k221_189 q221_189 := e_iload_iload 189 0 7 (e_iload_iload 191 0 4 (e_icmp_ge 193 208 15 (e_iload_iload 196 0 7 (e_iload_iload 198 0 8 (e_iadd 200 0 (e_iload_iload 201 0 4 (e_icmp_le 203 208 5 (e_aconst_null 206 0  (e_areturn 207 0 )))))))))
set_option maxHeartbeats 100000 in
def k221_180 : ex_C := c_iadd (c_istore 8 (c_iinc 9 1 (c_goto 117)))
set_option maxHeartbeats 100000 in
theorem kE221_180 : ex_CE 5 [] cd_221 k221_180 q221_180 := e_iadd 180 0 (e_istore_istore 181 0 8 (e_iinc 183 1 9 1 (e_goto 186 117 (-69))))
set_option maxHeartbeats 100000 in
def k221_179 : ex_C := c_psh 0 (k221_180)
set_option maxHeartbeats 100000 in
theorem kE221_179 : ex_CE 5 [] cd_221 k221_179 q221_179 := e_psh_iconst 179 0 0 (kE221_180)
set_option maxHeartbeats 100000 in
def k221_163 : ex_C := c_iadd (c_istore 7 (c_iload 8 (c_iload 10 (c_iload 6 (c_icmp_ne 179 (c_psh 1 (c_goto 180)))))))
set_option maxHeartbeats 100000 in
theorem kE221_163 : ex_CE 5 [] cd_221 k221_163 q221_163 := e_iadd 163 0 (e_istore_istore 164 0 7 (e_iload_iload 166 0 8 (e_iload_iload 168 0 10 (e_iload_iload 170 0 6 (e_icmp_ne 172 179 7 (e_psh_iconst 175 1 1 (e_goto 176 180 4)))))))
set_option maxHeartbeats 100000 in
def k221_162 : ex_C := c_psh 0 (k221_163)
set_option maxHeartbeats 100000 in
theorem kE221_162 : ex_CE 5 [] cd_221 k221_162 q221_162 := e_psh_iconst 162 0 0 (kE221_163)
set_option maxHeartbeats 100000 in
def k221_117 : ex_C := c_iload 9 (c_aload 1 (c_gf 14 1 (c_icmp_ge 189 (c_aload 1 (c_gf 14 2 (c_iload 9 (c_iaload (c_invS [] cd_221 133 1 299 (c_aload 1 (c_gf 14 3 (c_iload 9 (c_iaload (c_invS [] cd_221 143 1 299 (c_iadd (c_istore 10 (c_iload 7 (c_iload 10 (c_iload 6 (c_icmp_ge 162 (c_psh 1 (c_goto 163)))))))))))))))))))))
set_option maxHeartbeats 100000 in
theorem kE221_117 : ex_CE 5 [] cd_221 k221_117 q221_117 := e_iload_iload 117 0 9 (e_aload_aload_n 119 0 1 1 rfl (e_gf 120 66433 297 14 1 rfl rfl (e_icmp_ge 123 189 66 (e_aload_aload_n 126 0 1 1 rfl (e_gf 127 86914 300 14 2 rfl rfl (e_iload_iload 130 0 9 (e_iaload 132 0 (e_invS 133 2588641 159 1 299 rfl rfl rfl (e_aload_aload_n 136 0 1 1 rfl (e_gf 137 86915 303 14 3 rfl rfl (e_iload_iload 140 0 9 (e_iaload 142 0 (e_invS 143 2588641 159 1 299 rfl rfl rfl (e_iadd 146 0 (e_istore_istore 147 0 10 (e_iload_iload 149 0 7 (e_iload_iload 151 0 10 (e_iload_iload 153 0 6 (e_icmp_ge 155 162 7 (e_psh_iconst 158 1 1 (e_goto 159 163 4)))))))))))))))))))))
set_option maxHeartbeats 100000 in
def k221_76 : ex_C := c_iload 5 (c_aload 1 (c_gf 14 1 (c_icmp_ge 249 (c_aload 1 (c_gf 14 2 (c_iload 5 (c_iaload (c_invS [] cd_221 92 1 299 (c_aload 1 (c_gf 14 3 (c_iload 5 (c_iaload (c_invS [] cd_221 102 1 299 (c_iadd (c_istore 6 (c_psh 0 (c_istore 7 (c_psh 0 (c_istore 8 (c_psh 0 (c_istore 9 (k221_117))))))))))))))))))))))
set_option maxHeartbeats 100000 in
theorem kE221_76 : ex_CE 5 [] cd_221 k221_76 q221_76 := e_iload_iload 76 0 5 (e_aload_aload_n 78 0 1 1 rfl (e_gf 79 66433 297 14 1 rfl rfl (e_icmp_ge 82 249 167 (e_aload_aload_n 85 0 1 1 rfl (e_gf 86 86914 300 14 2 rfl rfl (e_iload_iload 89 0 5 (e_iaload 91 0 (e_invS 92 2588641 159 1 299 rfl rfl rfl (e_aload_aload_n 95 0 1 1 rfl (e_gf 96 86915 303 14 3 rfl rfl (e_iload_iload 99 0 5 (e_iaload 101 0 (e_invS 102 2588641 159 1 299 rfl rfl rfl (e_iadd 105 0 (e_istore_istore 106 0 6 (e_psh_iconst 108 0 0 (e_istore_istore 109 0 7 (e_psh_iconst 111 0 0 (e_istore_istore 112 0 8 (e_psh_iconst 114 0 0 (e_istore_istore 115 0 9 (kE221_117))))))))))))))))))))))
set_option maxHeartbeats 100000 in
def k221_65 : ex_C := c_aload 1 (c_gf 14 1 (c_psh 2 (c_idiv   (c_istore 4 (c_psh 0 (c_istore 5 (k221_76)))))))
set_option maxHeartbeats 100000 in
theorem kE221_65 : ex_CE 5 [] cd_221 k221_65 q221_65 := e_aload_aload_n 65 0 1 1 rfl (e_gf 66 66433 297 14 1 rfl rfl (e_psh_iconst 69 2 2 (e_idiv 70 0  (e_istore_istore 71 0 4 (e_psh_iconst 73 0 0 (e_istore_istore 74 0 5 (kE221_76)))))))
set_option maxHeartbeats 100000 in
def k221_63 : ex_C := c_aload 3 (c_areturn  5)
set_option maxHeartbeats 100000 in
theorem kE221_63 : ex_CE 5 [] cd_221 k221_63 q221_63 := e_aload_aload_n 63 0 3 3 rfl (e_areturn 64 0 )
set_option maxHeartbeats 100000 in
def k221_56 : ex_C := c_bastore (c_iinc 4 1 (c_goto 22))
set_option maxHeartbeats 100000 in
theorem kE221_56 : ex_CE 5 [] cd_221 k221_56 q221_56 := e_bastore 56 0 (e_iinc 57 1 4 1 (e_goto 60 22 (-38)))
set_option maxHeartbeats 100000 in
def k221_55 : ex_C := c_psh 0 (k221_56)
set_option maxHeartbeats 100000 in
theorem kE221_55 : ex_CE 5 [] cd_221 k221_55 q221_55 := e_psh_iconst 55 0 0 (kE221_56)
set_option maxHeartbeats 100000 in
def k221_51 : ex_C := c_psh 1 (c_goto 56)
set_option maxHeartbeats 100000 in
theorem kE221_51 : ex_CE 5 [] cd_221 k221_51 q221_51 := e_psh_iconst 51 1 1 (e_goto 52 56 4)
set_option maxHeartbeats 100000 in
def k221_22 : ex_C := c_iload 4 (c_aload 1 (c_gf 14 1 (c_icmp_ge 63 (c_aload 3 (c_iload 4 (c_iload 2 (c_psh 97 (c_icmp_eq 51 (c_aload 0 (c_aload 1 (c_iload 4 (c_iload 2 (c_invV [] cd_221 45 4 220 12 (c_if_eq 55 (k221_51)))))))))))))))
set_option maxHeartbeats 100000 in
theorem kE221_22 : ex_CE 5 [] cd_221 k221_22 q221_22 := e_iload_iload 22 0 4 (e_aload_aload_n 24 0 1 1 rfl (e_gf 25 66433 297 14 1 rfl rfl (e_icmp_ge 28 63 35 (e_aload_aload_n 31 0 3 3 rfl (e_iload_iload 32 0 4 (e_iload_iload_n 34 0 2 2 rfl (e_psh_bipush 35 97 97 (e_icmp_eq 37 51 14 (e_aload_aload_n 40 0 0 0 rfl (e_aload_aload_n 41 0 1 1 rfl (e_iload_iload 42 0 4 (e_iload_iload_n 44 0 2 2 rfl (e_invV_invokevirtual 45 1933700 293 4 220 12 rfl rfl rfl rfl rfl rfl (e_if_eq 48 55 7 (kE221_51)))))))))))))))
set_option maxHeartbeats 100000 in
def k221_0 : ex_C := c_aload 1 (c_gf 14 1 (c_newarr 65 0 (c_astore 3 (c_iload 2 (c_psh 99 (c_icmp_eq 65 (c_iload 2 (c_psh 101 (c_icmp_eq 65 (c_psh 0 (c_istore 4 (k221_22))))))))))))
set_option maxHeartbeats 100000 in
theorem kE221_0 : ex_CE 5 [] cd_221 k221_0 q221_0 := e_aload_aload_n 0 0 1 1 rfl (e_gf 1 66433 297 14 1 rfl rfl (e_newarr 4 65 0 rfl (e_astore_astore_n 6 0 3 3 rfl (e_iload_iload_n 7 0 2 2 rfl (e_psh_bipush 8 99 99 (e_icmp_eq 10 65 55 (e_iload_iload_n 13 0 2 2 rfl (e_psh_bipush 14 101 101 (e_icmp_eq 16 65 49 (e_psh_iconst 19 0 0 (e_istore_istore 20 0 4 (kE221_22))))))))))))
def kt_221 : Nat → Option ex_C := fun pc => @Bool.rec (fun _ => Nat → Option ex_C) (fun pc => @Bool.rec (fun _ => Nat → Option ex_C) (fun pc => @Bool.rec (fun _ => Nat → Option ex_C) (fun pc => @Bool.rec (fun _ => Nat → Option ex_C) (fun pc => @Bool.rec (fun _ => Nat → Option ex_C) (fun pc => @Bool.rec (fun _ => Option ex_C) none (some k221_249) (Nat.beq pc 249)) (fun pc => @Bool.rec (fun _ => Option ex_C) none (some k221_242) (Nat.beq pc 242)) (Nat.ble pc 242) pc) (fun pc => @Bool.rec (fun _ => Option ex_C) none (some k221_241) (Nat.beq pc 241)) (Nat.ble pc 241) pc) (fun pc => @Bool.rec (fun _ => Nat → Option ex_C) (fun pc => @Bool.rec (fun _ => Nat → Option ex_C) (fun pc => @Bool.rec (fun _ => Option ex_C) none (some k221_234) (Nat.beq pc 234)) (fun pc => @Bool.rec (fun _ => Option ex_C) none (some k221_233) (Nat.beq pc 233)) (Nat.ble pc 233) pc) (fun pc => @Bool.rec (fun _ => Option ex_C) none (some k221_223) (Nat.beq pc 223)) (Nat.ble pc 223) pc) (Nat.ble pc 234) pc) (fun pc => @Bool.rec (fun _ => Nat → Option ex_C) (fun pc => @Bool.rec (fun _ => Nat → Option ex_C) (fun pc => @Bool.rec (fun _ => Nat → Option ex_C) (fun pc => @Bool.rec (fun _ => Option ex_C) none (some k221_222) (Nat.beq pc 222)) (fun pc => @Bool.rec (fun _ => Option ex_C) none (some k221_208) (Nat.beq pc 208)) (Nat.ble pc 208) pc) (fun pc => @Bool.rec (fun _ => Option ex_C) none (some k221_189) (Nat.beq pc 189)) (Nat.ble pc 189) pc) (fun pc => @Bool.rec (fun _ => Nat → Option ex_C) (fun pc => @Bool.rec (fun _ => Option ex_C) none (some k221_180) (Nat.beq pc 180)) (fun pc => @Bool.rec (fun _ => Option ex_C) none (some k221_179) (Nat.beq pc 179)) (Nat.ble pc 179) pc) (Nat.ble pc 180) pc) (Nat.ble pc 222) pc) (fun pc => @Bool.rec (fun _ => Nat → Option ex_C) (fun pc => @Bool.rec (fun _ => Nat → Option ex_C) (fun pc => @Bool.rec (fun _ => Nat → Option ex_C) (fun pc => @Bool.rec (fun _ => Nat → Option ex_C) (fun pc => @Bool.rec (fun _ => Option ex_C) none (some k221_163) (Nat.beq pc 163)) (fun pc => @Bool.rec (fun _ => Option ex_C) none (some k221_162) (Nat.beq pc 162)) (Nat.ble pc 162) pc) (fun pc => @Bool.rec (fun _ => Option ex_C) none (some k221_117) (Nat.beq pc 117)) (Nat.ble pc 117) pc) (fun pc => @Bool.rec (fun _ => Nat → Option ex_C) (fun pc => @Bool.rec (fun _ => Nat → Option ex_C) (fun pc => @Bool.rec (fun _ => Option ex_C) none (some k221_76) (Nat.beq pc 76)) (fun pc => @Bool.rec (fun _ => Option ex_C) none (some k221_65) (Nat.beq pc 65)) (Nat.ble pc 65) pc) (fun pc => @Bool.rec (fun _ => Option ex_C) none (some k221_63) (Nat.beq pc 63)) (Nat.ble pc 63) pc) (Nat.ble pc 76) pc) (fun pc => @Bool.rec (fun _ => Nat → Option ex_C) (fun pc => @Bool.rec (fun _ => Nat → Option ex_C) (fun pc => @Bool.rec (fun _ => Nat → Option ex_C) (fun pc => @Bool.rec (fun _ => Option ex_C) none (some k221_56) (Nat.beq pc 56)) (fun pc => @Bool.rec (fun _ => Option ex_C) none (some k221_55) (Nat.beq pc 55)) (Nat.ble pc 55) pc) (fun pc => @Bool.rec (fun _ => Option ex_C) none (some k221_51) (Nat.beq pc 51)) (Nat.ble pc 51) pc) (fun pc => @Bool.rec (fun _ => Nat → Option ex_C) (fun pc => @Bool.rec (fun _ => Option ex_C) none (some k221_22) (Nat.beq pc 22)) (fun pc => @Bool.rec (fun _ => Option ex_C) none (some k221_0) (Nat.beq pc 0)) (Nat.ble pc 0) pc) (Nat.ble pc 22) pc) (Nat.ble pc 56) pc) (Nat.ble pc 163) pc
theorem ktE_221 : ex_CTT 5 [] cd_221 kt_221 cd_221 := (ex_ct2 (ex_ct2 (ex_ct2 (ex_ct2 (ex_ct1 kE221_0) (ex_ct1 kE221_22)) (ex_ct2 (ex_ct1 kE221_51) (ex_ct2 (ex_ct1 kE221_55) (ex_ct1 kE221_56)))) (ex_ct2 (ex_ct2 (ex_ct1 kE221_63) (ex_ct2 (ex_ct1 kE221_65) (ex_ct1 kE221_76))) (ex_ct2 (ex_ct1 kE221_117) (ex_ct2 (ex_ct1 kE221_162) (ex_ct1 kE221_163))))) (ex_ct2 (ex_ct2 (ex_ct2 (ex_ct1 kE221_179) (ex_ct1 kE221_180)) (ex_ct2 (ex_ct1 kE221_189) (ex_ct2 (ex_ct1 kE221_208) (ex_ct1 kE221_222)))) (ex_ct2 (ex_ct2 (ex_ct1 kE221_223) (ex_ct2 (ex_ct1 kE221_233) (ex_ct1 kE221_234))) (ex_ct2 (ex_ct1 kE221_241) (ex_ct2 (ex_ct1 kE221_242) (ex_ct1 kE221_249))))))
set_option maxHeartbeats 100000 in
def k222_83 : ex_C := c_aload 2 (c_areturn  5)
set_option maxHeartbeats 100000 in
theorem kE222_83 : ex_CE 5 [] cd_222 k222_83 q222_83 := e_aload_aload_n 83 0 2 2 rfl (e_areturn 84 0 )
set_option maxHeartbeats 100000 in
def k222_13 : ex_C := c_iload 3 (c_psh 8 (c_icmp_ge 83 (c_aload 2 (c_gf 14 2 (c_iload 3 (c_aload 1 (c_psh 3 (c_iload 3 (c_imul (c_iaload (c_iastore (c_aload 2 (c_gf 14 3 (c_iload 3 (c_aload 1 (c_psh 3 (c_iload 3 (c_imul (c_psh 1 (c_iadd (c_iaload (c_iastore (c_aload 2 (c_gf 14 4 (c_iload 3 (c_aload 1 (c_psh 3 (c_iload 3 (c_imul (c_psh 2 (c_iadd (c_iaload (c_iastore (c_aload 2 (c_gf 14 5 (c_iload 3 (c_iload 3 (c_iastore (c_aload 2 (c_gf 14 6 (c_iload 3 (c_psh 4294967295 (c_iastore (c_aload 2 (c_gf 14 7 (c_iload 3 (c_psh 4294967295 (c_iastore (c_iinc 3 1 (c_goto 13))))))))))))))))))))))))))))))))))))))))))))))))))
set_option maxHeartbeats 100000 in
theorem kE222_13 : ex_CE 5 [] cd_222 k222_13 q222_13 := e_iload_iload_n 13 0 3 3 rfl (e_psh_bipush 14 8 8 (e_icmp_ge 16 83 67 (e_aload_aload_n 19 0 2 2 rfl (e_gf 20 86914 300 14 2 rfl rfl (e_iload_iload_n 23 0 3 3 rfl (e_aload_aload_n 24 0 1 1 rfl (e_psh_iconst 25 3 3 (e_iload_iload_n 26 0 3 3 rfl (e_imul 27 0 (e_iaload 28 0 (e_iastore 29 0 (e_aload_aload_n 30 0 2 2 rfl (e_gf 31 86915 303 14 3 rfl rfl (e_iload_iload_n 34 0 3 3 rfl (e_aload_aload_n 35 0 1 1 rfl (e_psh_iconst 36 3 3 (e_iload_iload_n 37 0 3 3 rfl (e_imul 38 0 (e_psh_iconst 39 1 1 (e_iadd 40 0 (e_iaload 41 0 (e_iastore 42 0 (e_aload_aload_n 43 0 2 2 rfl (e_gf 44 86916 309 14 4 rfl rfl (e_iload_iload_n 47 0 3 3 rfl (e_aload_aload_n 48 0 1 1 rfl (e_psh_iconst 49 3 3 (e_iload_iload_n 50 0 3 3 rfl (e_imul 51 0 (e_psh_iconst 52 2 2 (e_iadd 53 0 (e_iaload 54 0 (e_iastore 55 0 (e_aload_aload_n 56 0 2 2 rfl (e_gf 57 86917 290 14 5 rfl rfl (e_iload_iload_n 60 0 3 3 rfl (e_iload_iload_n 61 0 3 3 rfl (e_iastore 62 0 (e_aload_aload_n 63 0 2 2 rfl (e_gf 64 86918 276 14 6 rfl rfl (e_iload_iload_n 67 0 3 3 rfl (e_psh_iconst 68 4294967295 (-1) (e_iastore 69 0 (e_aload_aload_n 70 0 2 2 rfl (e_gf 71 86919 267 14 7 rfl rfl (e_iload_iload_n 74 0 3 3 rfl (e_psh_iconst 75 4294967295 (-1) (e_iastore 76 0 (e_iinc 77 1 3 1 (e_goto 80 13 (-67)))))))))))))))))))))))))))))))))))))))))))))))))))
set_option maxHeartbeats 100000 in
def k222_0 : ex_C := c_newo 10086913586286160672807402895382567491325181316819536261390328817214936461859649560770820501790249623503751062977776910 13 (c_dup   (c_aconst_null   (c_psh 8 (c_invP [] cd_222 7 3 174 (c_astore 2 (c_psh 0 (c_istore 3 (k222_13))))))))
set_option maxHeartbeats 100000 in
theorem kE222_0 : ex_CE 5 [] cd_222 k222_0 q222_0 := e_newo 0 14 268 10086913586286160672807402895382567491325181316819536261390328817214936461859649560770820501790249623503751062977776910 13 rfl rfl rfl (e_dup 3 0  (e_aconst_null 4 0  (e_psh_bipush 5 8 8 (e_invP 7 1564611 306 3 174 rfl rfl rfl rfl (e_astore_astore_n 10 0 2 2 rfl (e_psh_iconst 11 0 0 (e_istore_istore_n 12 0 3 3 rfl (kE222_13))))))))
def kt_222 : Nat → Option ex_C := fun pc => @Bool.rec (fun _ => Nat → Option ex_C) (fun pc => @Bool.rec (fun _ => Nat → Option ex_C) (fun pc => @Bool.rec (fun _ => Option ex_C) none (some k222_83) (Nat.beq pc 83)) (fun pc => @Bool.rec (fun _ => Option ex_C) none (some k222_13) (Nat.beq pc 13)) (Nat.ble pc 13) pc) (fun pc => @Bool.rec (fun _ => Option ex_C) none (some k222_0) (Nat.beq pc 0)) (Nat.ble pc 0) pc
theorem ktE_222 : ex_CTT 5 [] cd_222 kt_222 cd_222 := (ex_ct2 (ex_ct1 kE222_0) (ex_ct2 (ex_ct1 kE222_13) (ex_ct1 kE222_83)))
set_option maxHeartbeats 100000 in
def k223_17 : ex_C := c_ireturn  1
set_option maxHeartbeats 100000 in
theorem kE223_17 : ex_CE 1 [] cd_223 k223_17 q223_17 := e_ireturn 17 0 
set_option maxHeartbeats 100000 in
def k223_16 : ex_C := c_psh 0 (k223_17)
set_option maxHeartbeats 100000 in
theorem kE223_16 : ex_CE 1 [] cd_223 k223_16 q223_16 := e_psh_iconst 16 0 0 (kE223_17)
set_option maxHeartbeats 100000 in
def k223_12 : ex_C := c_psh 1 (c_goto 17)
set_option maxHeartbeats 100000 in
theorem kE223_12 : ex_CE 1 [] cd_223 k223_12 q223_12 := e_psh_iconst 12 1 1 (e_goto 13 17 4)
set_option maxHeartbeats 100000 in
def k223_0 : ex_C := c_iload 0 (c_psh 84 (c_icmp_eq 12 (c_iload 0 (c_psh 67 (c_icmp_ne 16 (k223_12))))))
set_option maxHeartbeats 100000 in
theorem kE223_0 : ex_CE 1 [] cd_223 k223_0 q223_0 := e_iload_iload_n 0 0 0 0 rfl (e_psh_bipush 1 84 84 (e_icmp_eq 3 12 9 (e_iload_iload_n 6 0 0 0 rfl (e_psh_bipush 7 67 67 (e_icmp_ne 9 16 7 (kE223_12))))))
def kt_223 : Nat → Option ex_C := fun pc => @Bool.rec (fun _ => Nat → Option ex_C) (fun pc => @Bool.rec (fun _ => Nat → Option ex_C) (fun pc => @Bool.rec (fun _ => Option ex_C) none (some k223_17) (Nat.beq pc 17)) (fun pc => @Bool.rec (fun _ => Option ex_C) none (some k223_16) (Nat.beq pc 16)) (Nat.ble pc 16) pc) (fun pc => @Bool.rec (fun _ => Nat → Option ex_C) (fun pc => @Bool.rec (fun _ => Option ex_C) none (some k223_12) (Nat.beq pc 12)) (fun pc => @Bool.rec (fun _ => Option ex_C) none (some k223_0) (Nat.beq pc 0)) (Nat.ble pc 0) pc) (Nat.ble pc 12) pc
theorem ktE_223 : ex_CTT 1 [] cd_223 kt_223 cd_223 := (ex_ct2 (ex_ct2 (ex_ct1 kE223_0) (ex_ct1 kE223_12)) (ex_ct2 (ex_ct1 kE223_16) (ex_ct1 kE223_17)))
set_option maxHeartbeats 100000 in
def k224_310 : ex_C := c_aload 3 (c_areturn  5)
set_option maxHeartbeats 100000 in
theorem kE224_310 : ex_CE 5 [] cd_224 k224_310 q224_310 := e_aload_aload_n 310 0 3 3 rfl (e_areturn 311 0 )
set_option maxHeartbeats 100000 in
def k224_295 : ex_C := c_iastore (c_aload 3 (c_gf 14 7 (c_iload 4 (c_psh 4294967295 (c_iastore (c_iinc 4 1 (c_goto 113)))))))
set_option maxHeartbeats 100000 in
theorem kE224_295 : ex_CE 5 [] cd_224 k224_295 q224_295 := e_iastore 295 0 (e_aload_aload_n 296 0 3 3 rfl (e_gf 297 86919 267 14 7 rfl rfl (e_iload_iload 300 0 4 (e_psh_iconst 302 4294967295 (-1) (e_iastore 303 0 (e_iinc 304 1 4 1 (e_goto 307 113 (-194))))))))
set_option maxHeartbeats 100000 in
def k224_294 : ex_C := c_psh 4294967295 (k224_295)
set_option maxHeartbeats 100000 in
theorem kE224_294 : ex_CE 5 [] cd_224 k224_294 q224_294 := e_psh_iconst 294 4294967295 (-1) (kE224_295)
set_option maxHeartbeats 100000 in
def k224_277 : ex_C := c_iastore (c_aload 3 (c_gf 14 6 (c_iload 4 (c_iload 5 (c_if_eq 294 (c_iload 4 (c_goto 295)))))))
set_option maxHeartbeats 100000 in
theorem kE224_277 : ex_CE 5 [] cd_224 k224_277 q224_277 := e_iastore 277 0 (e_aload_aload_n 278 0 3 3 rfl (e_gf 279 86918 276 14 6 rfl rfl (e_iload_iload 282 0 4 (e_iload_iload 284 0 5 (e_if_eq 286 294 8 (e_iload_iload 289 0 4 (e_goto 291 295 4)))))))
set_option maxHeartbeats 100000 in
def k224_267 : ex_C := c_psh 8 (c_iload 4 (c_iadd (c_aload 1 (c_gf 14 1 (c_isub (k224_277))))))
set_option maxHeartbeats 100000 in
theorem kE224_267 : ex_CE 5 [] cd_224 k224_267 q224_267 := e_psh_bipush 267 8 8 (e_iload_iload 269 0 4 (e_iadd 271 0 (e_aload_aload_n 272 0 1 1 rfl (e_gf 273 66433 297 14 1 rfl rfl (e_isub 276 0 (kE224_277))))))
set_option maxHeartbeats 100000 in
def k224_245 : ex_C := c_iastore (c_aload 3 (c_gf 14 5 (c_iload 4 (c_iload 5 (c_if_eq 267 (c_aload 1 (c_gf 14 5 (c_iload 4 (c_iaload (c_goto 277))))))))))
set_option maxHeartbeats 100000 in
theorem kE224_245 : ex_CE 5 [] cd_224 k224_245 q224_245 := e_iastore 245 0 (e_aload_aload_n 246 0 3 3 rfl (e_gf 247 86917 290 14 5 rfl rfl (e_iload_iload 250 0 4 (e_iload_iload 252 0 5 (e_if_eq 254 267 13 (e_aload_aload_n 257 0 1 1 rfl (e_gf 258 86917 290 14 5 rfl rfl (e_iload_iload 261 0 4 (e_iaload 263 0 (e_goto 264 277 13))))))))))
set_option maxHeartbeats 100000 in
def k224_241 : ex_C := c_aload 6 (c_psh 2 (c_iaload (k224_245)))
set_option maxHeartbeats 100000 in
theorem kE224_241 : ex_CE 5 [] cd_224 k224_241 q224_241 := e_aload_aload 241 0 6 (e_psh_iconst 243 2 2 (e_iaload 244 0 (kE224_245)))
set_option maxHeartbeats 100000 in
def k224_219 : ex_C := c_iastore (c_aload 3 (c_gf 14 4 (c_iload 4 (c_iload 5 (c_if_eq 241 (c_aload 1 (c_gf 14 4 (c_iload 4 (c_iaload (c_goto 245))))))))))
set_option maxHeartbeats 100000 in
theorem kE224_219 : ex_CE 5 [] cd_224 k224_219 q224_219 := e_iastore 219 0 (e_aload_aload_n 220 0 3 3 rfl (e_gf 221 86916 309 14 4 rfl rfl (e_iload_iload 224 0 4 (e_iload_iload 226 0 5 (e_if_eq 228 241 13 (e_aload_aload_n 231 0 1 1 rfl (e_gf 232 86916 309 14 4 rfl rfl (e_iload_iload 235 0 4 (e_iaload 237 0 (e_goto 238 245 7))))))))))
set_option maxHeartbeats 100000 in
def k224_215 : ex_C := c_aload 6 (c_psh 1 (c_iaload (k224_219)))
set_option maxHeartbeats 100000 in
theorem kE224_215 : ex_CE 5 [] cd_224 k224_215 q224_215 := e_aload_aload 215 0 6 (e_psh_iconst 217 1 1 (e_iaload 218 0 (kE224_219)))
set_option maxHeartbeats 100000 in
def k224_193 : ex_C := c_iastore (c_aload 3 (c_gf 14 3 (c_iload 4 (c_iload 5 (c_if_eq 215 (c_aload 1 (c_gf 14 3 (c_iload 4 (c_iaload (c_goto 219))))))))))
set_option maxHeartbeats 100000 in
theorem kE224_193 : ex_CE 5 [] cd_224 k224_193 q224_193 := e_iastore 193 0 (e_aload_aload_n 194 0 3 3 rfl (e_gf 195 86915 303 14 3 rfl rfl (e_iload_iload 198 0 4 (e_iload_iload 200 0 5 (e_if_eq 202 215 13 (e_aload_aload_n 205 0 1 1 rfl (e_gf 206 86915 303 14 3 rfl rfl (e_iload_iload 209 0 4 (e_iaload 211 0 (e_goto 212 219 7))))))))))
set_option maxHeartbeats 100000 in
def k224_189 : ex_C := c_aload 6 (c_psh 0 (c_iaload (k224_193)))
set_option maxHeartbeats 100000 in
theorem kE224_189 : ex_CE 5 [] cd_224 k224_189 q224_189 := e_aload_aload 189 0 6 (e_psh_iconst 191 0 0 (e_iaload 192 0 (kE224_193)))
set_option maxHeartbeats 100000 in
def k224_166 : ex_C := c_astore 6 (c_aload 3 (c_gf 14 2 (c_iload 4 (c_iload 5 (c_if_eq 189 (c_aload 1 (c_gf 14 2 (c_iload 4 (c_iaload (c_goto 193))))))))))
set_option maxHeartbeats 100000 in
theorem kE224_166 : ex_CE 5 [] cd_224 k224_166 q224_166 := e_astore_astore 166 0 6 (e_aload_aload_n 168 0 3 3 rfl (e_gf 169 86914 300 14 2 rfl rfl (e_iload_iload 172 0 4 (e_iload_iload 174 0 5 (e_if_eq 176 189 13 (e_aload_aload_n 179 0 1 1 rfl (e_gf 180 86914 300 14 2 rfl rfl (e_iload_iload 183 0 4 (e_iaload 185 0 (e_goto 186 193 7))))))))))
set_option maxHeartbeats 100000 in
def k224_147 : ex_C := c_aload 0 (c_gf 12 4 (c_iload 4 (c_aload 1 (c_gf 14 1 (c_isub (c_invV [] cd_224 158 2 337 16 (c_checkcast 114 64 (k224_166))))))))
set_option maxHeartbeats 100000 in
theorem kE224_147 : ex_CE 5 [] cd_224 k224_147 q224_147 := e_aload_aload_n 147 0 0 0 rfl (e_gf 148 86788 25 12 4 rfl rfl (e_iload_iload 151 0 4 (e_aload_aload_n 153 0 1 1 rfl (e_gf 154 66433 297 14 1 rfl rfl (e_isub 157 0 (e_invV_invokeinterface 158 2892290 186 2 2 337 16 rfl rfl rfl rfl rfl rfl (e_checkcast 163 64 114 (kE224_166))))))))
set_option maxHeartbeats 100000 in
def k224_136 : ex_C := c_istore 5 (c_iload 5 (c_if_eq 147 (c_aconst_null   (c_goto 166))))
set_option maxHeartbeats 100000 in
theorem kE224_136 : ex_CE 5 [] cd_224 k224_136 q224_136 := e_istore_istore 136 0 5 (e_iload_iload 138 0 5 (e_if_eq 140 147 7 (e_aconst_null 143 0  (e_goto 144 166 22))))
set_option maxHeartbeats 100000 in
def k224_135 : ex_C := c_psh 0 (k224_136)
set_option maxHeartbeats 100000 in
theorem kE224_135 : ex_CE 5 [] cd_224 k224_135 q224_135 := e_psh_iconst 135 0 0 (kE224_136)
set_option maxHeartbeats 100000 in
def k224_113 : ex_C := c_iload 4 (c_aload 3 (c_gf 14 1 (c_icmp_ge 310 (c_iload 4 (c_aload 1 (c_gf 14 1 (c_icmp_ge 135 (c_psh 1 (c_goto 136)))))))))
set_option maxHeartbeats 100000 in
theorem kE224_113 : ex_CE 5 [] cd_224 k224_113 q224_113 := e_iload_iload 113 0 4 (e_aload_aload_n 115 0 3 3 rfl (e_gf 116 66433 297 14 1 rfl rfl (e_icmp_ge 119 310 191 (e_iload_iload 122 0 4 (e_aload_aload_n 124 0 1 1 rfl (e_gf 125 66433 297 14 1 rfl rfl (e_icmp_ge 128 135 7 (e_psh_iconst 131 1 1 (e_goto 132 136 4)))))))))
set_option maxHeartbeats 100000 in
def k224_107 : ex_C := c_pf 14 0 11 (c_psh 0 (c_istore 4 (k224_113)))
set_option maxHeartbeats 100000 in
theorem kE224_107 : ex_CE 5 [] cd_224 k224_107 q224_107 := e_pf 107 907 328 14 0 11 rfl rfl rfl (e_psh_iconst 110 0 0 (e_istore_istore 111 0 4 (kE224_113)))
set_option maxHeartbeats 100000 in
def k224_103 : ex_C := c_aload 3 (c_gf 14 11 (k224_107))
set_option maxHeartbeats 100000 in
theorem kE224_103 : ex_CE 5 [] cd_224 k224_103 q224_103 := e_aload_aload_n 103 0 3 3 rfl (e_gf 104 907 328 14 11 rfl rfl (kE224_107))
set_option maxHeartbeats 100000 in
def k224_88 : ex_C := c_ior   (c_pf 14 1 10 (c_aload 3 (c_iload 2 (c_psh 79 (c_icmp_ne 103 (c_psh 4 (c_goto 107)))))))
set_option maxHeartbeats 100000 in
theorem kE224_88 : ex_CE 5 [] cd_224 k224_88 q224_88 := e_ior 88 0  (e_pf 89 5002 325 14 1 10 rfl rfl rfl (e_aload_aload_n 92 0 3 3 rfl (e_iload_iload_n 93 0 2 2 rfl (e_psh_bipush 94 79 79 (e_icmp_ne 96 103 7 (e_psh_iconst 99 4 4 (e_goto 100 107 7)))))))
set_option maxHeartbeats 100000 in
def k224_87 : ex_C := c_psh 0 (k224_88)
set_option maxHeartbeats 100000 in
theorem kE224_87 : ex_CE 5 [] cd_224 k224_87 q224_87 := e_psh_iconst 87 0 0 (kE224_88)
set_option maxHeartbeats 100000 in
def k224_68 : ex_C := c_ior   (c_pf 14 1 9 (c_aload 3 (c_dup   (c_gf 14 10 (c_iload 2 (c_psh 89 (c_icmp_ne 87 (c_psh 1 (c_goto 88)))))))))
set_option maxHeartbeats 100000 in
theorem kE224_68 : ex_CE 5 [] cd_224 k224_68 q224_68 := e_ior 68 0  (e_pf 69 5001 322 14 1 9 rfl rfl rfl (e_aload_aload_n 72 0 3 3 rfl (e_dup 73 0  (e_gf 74 5002 325 14 10 rfl rfl (e_iload_iload_n 77 0 2 2 rfl (e_psh_bipush 78 89 89 (e_icmp_ne 80 87 7 (e_psh_iconst 83 1 1 (e_goto 84 88 4)))))))))
set_option maxHeartbeats 100000 in
def k224_67 : ex_C := c_psh 0 (k224_68)
set_option maxHeartbeats 100000 in
theorem kE224_67 : ex_CE 5 [] cd_224 k224_67 q224_67 := e_psh_iconst 67 0 0 (kE224_68)
set_option maxHeartbeats 100000 in
def k224_42 : ex_C := c_iadd (c_invP [] cd_224 43 3 174 (c_astore 3 (c_aload 3 (c_iload 2 (c_pf 14 2 12 (c_aload 3 (c_dup   (c_gf 14 9 (c_iload 2 (c_psh 88 (c_icmp_ne 67 (c_psh 1 (c_goto 68)))))))))))))
set_option maxHeartbeats 100000 in
theorem kE224_42 : ex_CE 5 [] cd_224 k224_42 q224_42 := e_iadd 42 0 (e_invP 43 1564611 306 3 174 rfl rfl rfl rfl (e_astore_astore_n 46 0 3 3 rfl (e_aload_aload_n 47 0 3 3 rfl (e_iload_iload_n 48 0 2 2 rfl (e_pf 49 9100 319 14 2 12 rfl rfl rfl (e_aload_aload_n 52 0 3 3 rfl (e_dup 53 0  (e_gf 54 5001 322 14 9 rfl rfl (e_iload_iload_n 57 0 2 2 rfl (e_psh_bipush 58 88 88 (e_icmp_ne 60 67 7 (e_psh_iconst 63 1 1 (e_goto 64 68 4)))))))))))))
set_option maxHeartbeats 100000 in
def k224_41 : ex_C := c_psh 0 (k224_42)
set_option maxHeartbeats 100000 in
theorem kE224_41 : ex_CE 5 [] cd_224 k224_41 q224_41 := e_psh_iconst 41 0 0 (kE224_42)
set_option maxHeartbeats 100000 in
def k224_14 : ex_C := c_newo 10086913586286160672807402895382567491325181316819536261390328817214936461859649560770820501790249623503751062977776910 13 (c_dup   (c_aload 1 (c_aload 1 (c_gf 14 1 (c_iload 2 (c_psh 80 (c_icmp_ne 41 (c_aload 0 (c_gf 12 4 (c_invV [] cd_224 33 1 333 16 (c_goto 42)))))))))))
set_option maxHeartbeats 100000 in
theorem kE224_14 : ex_CE 5 [] cd_224 k224_14 q224_14 := e_newo 14 14 268 10086913586286160672807402895382567491325181316819536261390328817214936461859649560770820501790249623503751062977776910 13 rfl rfl rfl (e_dup 17 0  (e_aload_aload_n 18 0 1 1 rfl (e_aload_aload_n 19 0 1 1 rfl (e_gf 20 66433 297 14 1 rfl rfl (e_iload_iload_n 23 0 2 2 rfl (e_psh_bipush 24 80 80 (e_icmp_ne 26 41 15 (e_aload_aload_n 29 0 0 0 rfl (e_gf 30 86788 25 12 4 rfl rfl (e_invV_invokeinterface 33 2859521 178 1 1 333 16 rfl rfl rfl rfl rfl rfl (e_goto 38 42 4)))))))))))
set_option maxHeartbeats 100000 in
def k224_0 : ex_C := c_iload 2 (c_invS [] cd_224 1 1 223 (c_if_eq 14 (c_aload 0 (c_aload 1 (c_iload 2 (c_invV [] cd_224 10 3 225 12 (c_areturn  5)))))))
set_option maxHeartbeats 100000 in
theorem kE224_0 : ex_CE 5 [] cd_224 k224_0 q224_0 := e_iload_iload_n 0 0 2 2 rfl (e_invS 1 1966049 312 1 223 rfl rfl rfl (e_if_eq 4 14 10 (e_aload_aload_n 7 0 0 0 rfl (e_aload_aload_n 8 0 1 1 rfl (e_iload_iload_n 9 0 2 2 rfl (e_invV_invokevirtual 10 1974659 315 3 225 12 rfl rfl rfl rfl rfl rfl (e_areturn 13 0 )))))))
def kt_224 : Nat → Option ex_C := fun pc => @Bool.rec (fun _ => Nat → Option ex_C) (fun pc => @Bool.rec (fun _ => Nat → Option ex_C) (fun pc => @Bool.rec (fun _ => Nat → Option ex_C) (fun pc => @Bool.rec (fun _ => Nat → Option ex_C) (fun pc => @Bool.rec (fun _ => Nat → Option ex_C) (fun pc => @Bool.rec (fun _ => Option ex_C) none (some k224_310) (Nat.beq pc 310)) (fun pc => @Bool.rec (fun _ => Option ex_C) none (some k224_295) (Nat.beq pc 295)) (Nat.ble pc 295) pc) (fun pc => @Bool.rec (fun _ => Nat → Option ex_C) (fun pc => @Bool.rec (fun _ => Option ex_C) none (some k224_294) (Nat.beq pc 294)) (fun pc => @Bool.rec (fun _ => Option ex_C) none (some k224_277) (Nat.beq pc 277)) (Nat.ble pc 277) pc) (Nat.ble pc 294) pc) (fun pc => @Bool.rec (fun _ => Nat → Option ex_C) (fun pc => @Bool.rec (fun _ => Nat → Option ex_C) (fun pc => @Bool.rec (fun _ => Option ex_C) none (some k224_267) (Nat.beq pc 267)) (fun pc => @Bool.rec (fun _ => Option ex_C) none (some k224_245) (Nat.beq pc 245)) (Nat.ble pc 245) pc) (fun pc => @Bool.rec (fun _ => Option ex_C) none (some k224_241) (Nat.beq pc 241)) (Nat.ble pc 241) pc) (Nat.ble pc 267) pc) (fun pc => @Bool.rec (fun _ => Nat → Option ex_C) (fun pc => @Bool.rec (fun _ => Nat → Option ex_C) (fun pc => @Bool.rec (fun _ => Nat → Option ex_C) (fun pc => @Bool.rec (fun _ => Option ex_C) none (some k224_219) (Nat.beq pc 219)) (fun pc => @Bool.rec (fun _ => Option ex_C) none (some k224_215) (Nat.beq pc 215)) (Nat.ble pc 215) pc) (fun pc => @Bool.rec (fun _ => Option ex_C) none (some k224_193) (Nat.beq pc 193)) (Nat.ble pc 193) pc) (fun pc => @Bool.rec (fun _ => Nat → Option ex_C) (fun pc => @Bool.rec (fun _ => Nat → Option ex_C) (fun pc => @Bool.rec (fun _ => Option ex_C) none (some k224_189) (Nat.beq pc 189)) (fun pc => @Bool.rec (fun _ => Option ex_C) none (some k224_166) (Nat.beq pc 166)) (Nat.ble pc 166) pc) (fun pc => @Bool.rec (fun _ => Option ex_C) none (some k224_147) (Nat.beq pc 147)) (Nat.ble pc 147) pc) (Nat.ble pc 189) pc) (Nat.ble pc 219) pc) (fun pc => @Bool.rec (fun _ => Nat → Option ex_C) (fun pc => @Bool.rec (fun _ => Nat → Option ex_C) (fun pc => @Bool.rec (fun _ => Nat → Option ex_C) (fun pc => @Bool.rec (fun _ => Nat → Option ex_C) (fun pc => @Bool.rec (fun _ => Option ex_C) none (some k224_136) (Nat.beq pc 136)) (fun pc => @Bool.rec (fun _ => Option ex_C) none (some k224_135) (Nat.beq pc 135)) (Nat.ble pc 135) pc) (fun pc => @Bool.rec (fun _ => Nat → Option ex_C) (fun pc => @Bool.rec (fun _ => Option ex_C) none (some k224_113) (Nat.beq pc 113)) (fun pc => @Bool.rec (fun _ => Option ex_C) none (some k224_107) (Nat.beq pc 107)) (Nat.ble pc 107) pc) (Nat.ble pc 113) pc) (fun pc => @Bool.rec (fun _ => Nat → Option ex_C) (fun pc => @Bool.rec (fun _ => Nat → Option ex_C) (fun pc => @Bool.rec (fun _ => Option ex_C) none (some k224_103) (Nat.beq pc 103)) (fun pc => @Bool.rec (fun _ => Option ex_C) none (some k224_88) (Nat.beq pc 88)) (Nat.ble pc 88) pc) (fun pc => @Bool.rec (fun _ => Option ex_C) none (some k224_87) (Nat.beq pc 87)) (Nat.ble pc 87) pc) (Nat.ble pc 103) pc) (fun pc => @Bool.rec (fun _ => Nat → Option ex_C) (fun pc => @Bool.rec (fun _ => Nat → Option ex_C) (fun pc => @Bool.rec (fun _ => Nat → Option ex_C) (fun pc => @Bool.rec (fun _ => Option ex_C) none (some k224_68) (Nat.beq pc 68)) (fun pc => @Bool.rec (fun _ => Option ex_C) none (some k224_67) (Nat.beq pc 67)) (Nat.ble pc 67) pc) (fun pc => @Bool.rec (fun _ => Option ex_C) none (some k224_42) (Nat.beq pc 42)) (Nat.ble pc 42) pc) (fun pc => @Bool.rec (fun _ => Nat → Option ex_C) (fun pc => @Bool.rec (fun _ => Nat → Option ex_C) (fun pc => @Bool.rec (fun _ => Option ex_C) none (some k224_41) (Nat.beq pc 41)) (fun pc => @Bool.rec (fun _ => Option ex_C) none (some k224_14) (Nat.beq pc 14)) (Nat.ble pc 14) pc) (fun pc => @Bool.rec (fun _ => Option ex_C) none (some k224_0) (Nat.beq pc 0)) (Nat.ble pc 0) pc) (Nat.ble pc 41) pc) (Nat.ble pc 68) pc) (Nat.ble pc 136) pc
theorem ktE_224 : ex_CTT 5 [] cd_224 kt_224 cd_224 := (ex_ct2 (ex_ct2 (ex_ct2 (ex_ct2 (ex_ct1 kE224_0) (ex_ct2 (ex_ct1 kE224_14) (ex_ct1 kE224_41))) (ex_ct2 (ex_ct1 kE224_42) (ex_ct2 (ex_ct1 kE224_67) (ex_ct1 kE224_68)))) (ex_ct2 (ex_ct2 (ex_ct1 kE224_87) (ex_ct2 (ex_ct1 kE224_88) (ex_ct1 kE224_103))) (ex_ct2 (ex_ct2 (ex_ct1 kE224_107) (ex_ct1 kE224_113)) (ex_ct2 (ex_ct1 kE224_135) (ex_ct1 kE224_136))))) (ex_ct2 (ex_ct2 (ex_ct2 (ex_ct1 kE224_147) (ex_ct2 (ex_ct1 kE224_166) (ex_ct1 kE224_189))) (ex_ct2 (ex_ct1 kE224_193) (ex_ct2 (ex_ct1 kE224_215) (ex_ct1 kE224_219)))) (ex_ct2 (ex_ct2 (ex_ct1 kE224_241) (ex_ct2 (ex_ct1 kE224_245) (ex_ct1 kE224_267))) (ex_ct2 (ex_ct2 (ex_ct1 kE224_277) (ex_ct1 kE224_294)) (ex_ct2 (ex_ct1 kE224_295) (ex_ct1 kE224_310))))))
set_option maxHeartbeats 100000 in
def k225_409 : ex_C := c_areturn  5
set_option maxHeartbeats 100000 in
theorem kE225_409 : ex_CE 5 [] cd_225 k225_409 q225_409 := e_areturn 409 0 
set_option maxHeartbeats 100000 in
def k225_408 : ex_C := c_aconst_null   (k225_409)
set_option maxHeartbeats 100000 in
theorem kE225_408 : ex_CE 5 [] cd_225 k225_408 q225_408 := e_aconst_null 408 0  (kE225_409)
set_option maxHeartbeats 100000 in
def k225_393 : ex_C := c_iload 5 (c_aload 4 (c_gf 14 1 (c_icmp_ne 408 (c_aload 4 (c_goto 409)))))
set_option maxHeartbeats 100000 in
theorem kE225_393 : ex_CE 5 [] cd_225 k225_393 q225_393 := e_iload_iload 393 0 5 (e_aload_aload 395 0 4 (e_gf 397 66433 297 14 1 rfl rfl (e_icmp_ne 400 408 8 (e_aload_aload 403 0 4 (e_goto 405 409 4)))))
set_option maxHeartbeats 100000 in
def k225_387 : ex_C := c_iinc 7 1 (c_goto 66)
set_option maxHeartbeats 100000 in
theorem kE225_387 : ex_CE 5 [] cd_225 k225_387 q225_387 := e_iinc 387 1 7 1 (e_goto 390 66 (-324))
set_option maxHeartbeats 100000 in
def k225_336 : ex_C := c_iastore (c_aload 4 (c_gf 14 4 (c_iload 5 (c_iload 8 (c_iastore (c_aload 4 (c_gf 14 5 (c_iload 5 (c_aload 1 (c_gf 14 5 (c_iload 7 (c_iaload (c_iastore (c_aload 4 (c_gf 14 6 (c_iload 5 (c_iload 7 (c_iastore (c_aload 4 (c_gf 14 7 (c_iload 5 (c_aload 3 (c_iload 7 (c_iaload (c_iastore (c_iinc 5 1 (k225_387)))))))))))))))))))))))))))
set_option maxHeartbeats 100000 in
theorem kE225_336 : ex_CE 5 [] cd_225 k225_336 q225_336 := e_iastore 336 0 (e_aload_aload 337 0 4 (e_gf 339 86916 309 14 4 rfl rfl (e_iload_iload 342 0 5 (e_iload_iload 344 0 8 (e_iastore 346 0 (e_aload_aload 347 0 4 (e_gf 349 86917 290 14 5 rfl rfl (e_iload_iload 352 0 5 (e_aload_aload_n 354 0 1 1 rfl (e_gf 355 86917 290 14 5 rfl rfl (e_iload_iload 358 0 7 (e_iaload 360 0 (e_iastore 361 0 (e_aload_aload 362 0 4 (e_gf 364 86918 276 14 6 rfl rfl (e_iload_iload 367 0 5 (e_iload_iload 369 0 7 (e_iastore 371 0 (e_aload_aload 372 0 4 (e_gf 374 86919 267 14 7 rfl rfl (e_iload_iload 377 0 5 (e_aload_aload_n 379 0 3 3 rfl (e_iload_iload 380 0 7 (e_iaload 382 0 (e_iastore 383 0 (e_iinc 384 1 5 1 (kE225_387)))))))))))))))))))))))))))
set_option maxHeartbeats 100000 in
def k225_332 : ex_C := c_iload 12 (c_psh 2 (c_idiv   (k225_336)))
set_option maxHeartbeats 100000 in
theorem kE225_332 : ex_CE 5 [] cd_225 k225_332 q225_332 := e_iload_iload 332 0 12 (e_psh_iconst 334 2 2 (e_idiv 335 0  (kE225_336)))
set_option maxHeartbeats 100000 in
def k225_314 : ex_C := c_iastore (c_aload 4 (c_gf 14 3 (c_iload 5 (c_iload 13 (c_if_ne 332 (c_iload 12 (c_goto 336)))))))
set_option maxHeartbeats 100000 in
theorem kE225_314 : ex_CE 5 [] cd_225 k225_314 q225_314 := e_iastore 314 0 (e_aload_aload 315 0 4 (e_gf 317 86915 303 14 3 rfl rfl (e_iload_iload 320 0 5 (e_iload_iload 322 0 13 (e_if_ne 324 332 8 (e_iload_iload 327 0 12 (e_goto 329 336 7)))))))
set_option maxHeartbeats 100000 in
def k225_312 : ex_C := c_iload 11 (k225_314)
set_option maxHeartbeats 100000 in
theorem kE225_312 : ex_CE 5 [] cd_225 k225_312 q225_312 := e_iload_iload 312 0 11 (kE225_314)
set_option maxHeartbeats 100000 in
def k225_289 : ex_C := c_iload 13 (c_istore 6 (c_aload 4 (c_gf 14 2 (c_iload 5 (c_iload 13 (c_if_ne 312 (c_iload 11 (c_psh 2 (c_idiv   (c_goto 314))))))))))
set_option maxHeartbeats 100000 in
theorem kE225_289 : ex_CE 5 [] cd_225 k225_289 q225_289 := e_iload_iload 289 0 13 (e_istore_istore 291 0 6 (e_aload_aload 293 0 4 (e_gf 295 86914 300 14 2 rfl rfl (e_iload_iload 298 0 5 (e_iload_iload 300 0 13 (e_if_ne 302 312 10 (e_iload_iload 305 0 11 (e_psh_iconst 307 2 2 (e_idiv 308 0  (e_goto 309 314 5))))))))))
set_option maxHeartbeats 100000 in
def k225_287 : ex_C := c_aconst_null   (c_areturn  5)
set_option maxHeartbeats 100000 in
theorem kE225_287 : ex_CE 5 [] cd_225 k225_287 q225_287 := e_aconst_null 287 0  (e_areturn 288 0 )
set_option maxHeartbeats 100000 in
def k225_282 : ex_C := c_psh 2 (c_irem   (c_if_eq 289 (k225_287)))
set_option maxHeartbeats 100000 in
theorem kE225_282 : ex_CE 5 [] cd_225 k225_282 q225_282 := e_psh_iconst 282 2 2 (e_irem 283 0  (e_if_eq 284 289 5 (kE225_287)))
set_option maxHeartbeats 100000 in
def k225_280 : ex_C := c_iload 12 (k225_282)
set_option maxHeartbeats 100000 in
theorem kE225_280 : ex_CE 5 [] cd_225 k225_280 q225_280 := e_iload_iload 280 0 12 (kE225_282)
set_option maxHeartbeats 100000 in
def k225_270 : ex_C := c_iload 13 (c_if_ne 280 (c_iload 11 (c_goto 282)))
set_option maxHeartbeats 100000 in
theorem kE225_270 : ex_CE 5 [] cd_225 k225_270 q225_270 := e_iload_iload 270 0 13 (e_if_ne 272 280 8 (e_iload_iload 275 0 11 (e_goto 277 282 5)))
set_option maxHeartbeats 100000 in
def k225_255 : ex_C := c_istore 13 (c_iload 6 (c_psh 4294967295 (c_icmp_eq 270 (c_iload 6 (c_iload 13 (c_icmp_ne 287 (k225_270)))))))
set_option maxHeartbeats 100000 in
theorem kE225_255 : ex_CE 5 [] cd_225 k225_255 q225_255 := e_istore_istore 255 0 13 (e_iload_iload 257 0 6 (e_psh_iconst 259 4294967295 (-1) (e_icmp_eq 260 270 10 (e_iload_iload 263 0 6 (e_iload_iload 265 0 13 (e_icmp_ne 267 287 20 (kE225_270)))))))
set_option maxHeartbeats 100000 in
def k225_254 : ex_C := c_psh 1 (k225_255)
set_option maxHeartbeats 100000 in
theorem kE225_254 : ex_CE 5 [] cd_225 k225_254 q225_254 := e_psh_iconst 254 1 1 (kE225_255)
set_option maxHeartbeats 100000 in
def k225_199 : ex_C := c_aload 1 (c_gf 14 2 (c_iload 7 (c_iaload (c_aload 1 (c_gf 14 2 (c_aload 3 (c_iload 7 (c_iaload (c_iaload (c_iadd (c_psh 2 (c_idiv   (c_istore 11 (c_aload 1 (c_gf 14 3 (c_iload 7 (c_iaload (c_aload 1 (c_gf 14 3 (c_aload 3 (c_iload 7 (c_iaload (c_iaload (c_iadd (c_psh 2 (c_idiv   (c_istore 12 (c_psh 17179869195 (c_iload 9 (c_iaload (c_if_eq 254 (c_psh 0 (c_goto 255)))))))))))))))))))))))))))))))))
set_option maxHeartbeats 100000 in
theorem kE225_199 : ex_CE 5 [] cd_225 k225_199 q225_199 := e_aload_aload_n 199 0 1 1 rfl (e_gf 200 86914 300 14 2 rfl rfl (e_iload_iload 203 0 7 (e_iaload 205 0 (e_aload_aload_n 206 0 1 1 rfl (e_gf 207 86914 300 14 2 rfl rfl (e_aload_aload_n 210 0 3 3 rfl (e_iload_iload 211 0 7 (e_iaload 213 0 (e_iaload 214 0 (e_iadd 215 0 (e_psh_iconst 216 2 2 (e_idiv 217 0  (e_istore_istore 218 0 11 (e_aload_aload_n 220 0 1 1 rfl (e_gf 221 86915 303 14 3 rfl rfl (e_iload_iload 224 0 7 (e_iaload 226 0 (e_aload_aload_n 227 0 1 1 rfl (e_gf 228 86915 303 14 3 rfl rfl (e_aload_aload_n 231 0 3 3 rfl (e_iload_iload 232 0 7 (e_iaload 234 0 (e_iaload 235 0 (e_iadd 236 0 (e_psh_iconst 237 2 2 (e_idiv 238 0  (e_istore_istore 239 0 12 (e_psh_getstatic 241 17179869195 343 (e_iload_iload 244 0 9 (e_iaload 246 0 (e_if_eq 247 254 7 (e_psh_iconst 250 0 0 (e_goto 251 255 4)))))))))))))))))))))))))))))))))
set_option maxHeartbeats 100000 in
def k225_189 : ex_C := c_istore 10 (c_iload 10 (c_if_ne 199 (c_goto 387)))
set_option maxHeartbeats 100000 in
theorem kE225_189 : ex_CE 5 [] cd_225 k225_189 q225_189 := e_istore_istore 189 0 10 (e_iload_iload 191 0 10 (e_if_ne 193 199 6 (e_goto 196 387 191)))
set_option maxHeartbeats 100000 in
def k225_188 : ex_C := c_psh 0 (k225_189)
set_option maxHeartbeats 100000 in
theorem kE225_188 : ex_CE 5 [] cd_225 k225_188 q225_188 := e_psh_iconst 188 0 0 (kE225_189)
set_option maxHeartbeats 100000 in
def k225_130 : ex_C := c_istore 9 (c_aload 1 (c_gf 14 2 (c_iload 7 (c_iaload (c_aload 1 (c_gf 14 2 (c_aload 3 (c_iload 7 (c_iaload (c_iaload (c_isub (c_psh 17179869195 (c_iload 9 (c_iaload (c_imul (c_aload 1 (c_gf 14 3 (c_iload 7 (c_iaload (c_aload 1 (c_gf 14 3 (c_aload 3 (c_iload 7 (c_iaload (c_iaload (c_isub (c_psh 17179869196 (c_iload 9 (c_iaload (c_imul (c_iadd (c_if_le 188 (c_psh 1 (c_goto 189))))))))))))))))))))))))))))))))))
set_option maxHeartbeats 100000 in
theorem kE225_130 : ex_CE 5 [] cd_225 k225_130 q225_130 := e_istore_istore 130 0 9 (e_aload_aload_n 132 0 1 1 rfl (e_gf 133 86914 300 14 2 rfl rfl (e_iload_iload 136 0 7 (e_iaload 138 0 (e_aload_aload_n 139 0 1 1 rfl (e_gf 140 86914 300 14 2 rfl rfl (e_aload_aload_n 143 0 3 3 rfl (e_iload_iload 144 0 7 (e_iaload 146 0 (e_iaload 147 0 (e_isub 148 0 (e_psh_getstatic 149 17179869195 343 (e_iload_iload 152 0 9 (e_iaload 154 0 (e_imul 155 0 (e_aload_aload_n 156 0 1 1 rfl (e_gf 157 86915 303 14 3 rfl rfl (e_iload_iload 160 0 7 (e_iaload 162 0 (e_aload_aload_n 163 0 1 1 rfl (e_gf 164 86915 303 14 3 rfl rfl (e_aload_aload_n 167 0 3 3 rfl (e_iload_iload 168 0 7 (e_iaload 170 0 (e_iaload 171 0 (e_isub 172 0 (e_psh_getstatic 173 17179869196 346 (e_iload_iload 176 0 9 (e_iaload 178 0 (e_imul 179 0 (e_iadd 180 0 (e_if_le 181 188 7 (e_psh_iconst 184 1 1 (e_goto 185 189 4))))))))))))))))))))))))))))))))))
set_option maxHeartbeats 100000 in
def k225_124 : ex_C := c_iload 8 (c_psh 3 (c_iadd (c_psh 4 (c_irem   (k225_130)))))
set_option maxHeartbeats 100000 in
theorem kE225_124 : ex_CE 5 [] cd_225 k225_124 q225_124 := e_iload_iload 124 0 8 (e_psh_iconst 126 3 3 (e_iadd 127 0 (e_psh_iconst 128 4 4 (e_irem 129 0  (kE225_130)))))
set_option maxHeartbeats 100000 in
def k225_104 : ex_C := c_aload 1 (c_gf 14 4 (c_iload 7 (c_iaload (c_istore 8 (c_iload 2 (c_psh 84 (c_icmp_ne 124 (c_iload 8 (c_goto 130)))))))))
set_option maxHeartbeats 100000 in
theorem kE225_104 : ex_CE 5 [] cd_225 k225_104 q225_104 := e_aload_aload_n 104 0 1 1 rfl (e_gf 105 86916 309 14 4 rfl rfl (e_iload_iload 108 0 7 (e_iaload 110 0 (e_istore_istore 111 0 8 (e_iload_iload_n 113 0 2 2 rfl (e_psh_bipush 114 84 84 (e_icmp_ne 116 124 8 (e_iload_iload 119 0 8 (e_goto 121 130 9)))))))))
set_option maxHeartbeats 100000 in
def k225_102 : ex_C := c_aconst_null   (c_areturn  5)
set_option maxHeartbeats 100000 in
theorem kE225_102 : ex_CE 5 [] cd_225 k225_102 q225_102 := e_aconst_null 102 0  (e_areturn 103 0 )
set_option maxHeartbeats 100000 in
def k225_66 : ex_C := c_iload 7 (c_aload 1 (c_gf 14 1 (c_icmp_ge 393 (c_aload 3 (c_iload 7 (c_iaload (c_psh 4294967295 (c_icmp_eq 102 (c_aload 1 (c_gf 14 4 (c_iload 7 (c_iaload (c_aload 1 (c_gf 14 4 (c_aload 3 (c_iload 7 (c_iaload (c_iaload (c_icmp_eq 104 (k225_102))))))))))))))))))))
set_option maxHeartbeats 100000 in
theorem kE225_66 : ex_CE 5 [] cd_225 k225_66 q225_66 := e_iload_iload 66 0 7 (e_aload_aload_n 68 0 1 1 rfl (e_gf 69 66433 297 14 1 rfl rfl (e_icmp_ge 72 393 321 (e_aload_aload_n 75 0 3 3 rfl (e_iload_iload 76 0 7 (e_iaload 78 0 (e_psh_iconst 79 4294967295 (-1) (e_icmp_eq 80 102 22 (e_aload_aload_n 83 0 1 1 rfl (e_gf 84 86916 309 14 4 rfl rfl (e_iload_iload 87 0 7 (e_iaload 89 0 (e_aload_aload_n 90 0 1 1 rfl (e_gf 91 86916 309 14 4 rfl rfl (e_aload_aload_n 94 0 3 3 rfl (e_iload_iload 95 0 7 (e_iaload 97 0 (e_iaload 98 0 (e_icmp_eq 99 104 5 (kE225_102))))))))))))))))))))
set_option maxHeartbeats 100000 in
def k225_35 : ex_C := c_newo 10086913586286160672807402895382567491325181316819536261390328817214936461859649560770820501790249623503751062977776910 13 (c_dup   (c_aload 1 (c_aload 1 (c_gf 14 1 (c_psh 2 (c_idiv   (c_invP [] cd_225 46 3 174 (c_astore 4 (c_aload 4 (c_iload 2 (c_pf 14 2 12 (c_psh 0 (c_istore 5 (c_psh 4294967295 (c_istore 6 (c_psh 0 (c_istore 7 (k225_66))))))))))))))))))
set_option maxHeartbeats 100000 in
theorem kE225_35 : ex_CE 5 [] cd_225 k225_35 q225_35 := e_newo 35 14 268 10086913586286160672807402895382567491325181316819536261390328817214936461859649560770820501790249623503751062977776910 13 rfl rfl rfl (e_dup 38 0  (e_aload_aload_n 39 0 1 1 rfl (e_aload_aload_n 40 0 1 1 rfl (e_gf 41 66433 297 14 1 rfl rfl (e_psh_iconst 44 2 2 (e_idiv 45 0  (e_invP 46 1564611 306 3 174 rfl rfl rfl rfl (e_astore_astore 49 0 4 (e_aload_aload 51 0 4 (e_iload_iload_n 53 0 2 2 rfl (e_pf 54 9100 319 14 2 12 rfl rfl rfl (e_psh_iconst 57 0 0 (e_istore_istore 58 0 5 (e_psh_iconst 60 4294967295 (-1) (e_istore_istore 61 0 6 (e_psh_iconst 63 0 0 (e_istore_istore 64 0 7 (kE225_66))))))))))))))))))
set_option maxHeartbeats 100000 in
def k225_23 : ex_C := c_astore 3 (c_aload 1 (c_gf 14 1 (c_psh 2 (c_irem   (c_if_eq 35 (c_aconst_null   (c_areturn  5)))))))
set_option maxHeartbeats 100000 in
theorem kE225_23 : ex_CE 5 [] cd_225 k225_23 q225_23 := e_astore_astore_n 23 0 3 3 rfl (e_aload_aload_n 24 0 1 1 rfl (e_gf 25 66433 297 14 1 rfl rfl (e_psh_iconst 28 2 2 (e_irem 29 0  (e_if_eq 30 35 5 (e_aconst_null 33 0  (e_areturn 34 0 )))))))
set_option maxHeartbeats 100000 in
def k225_13 : ex_C := c_aload 1 (c_aload 1 (c_invS [] cd_225 15 1 226 (c_psh 2 (c_psh 0 (c_invS [] cd_225 20 4 234 (k225_23))))))
set_option maxHeartbeats 100000 in
theorem kE225_13 : ex_CE 5 [] cd_225 k225_13 q225_13 := e_aload_aload_n 13 0 1 1 rfl (e_aload_aload_n 14 0 1 1 rfl (e_invS 15 1990625 335 1 226 rfl rfl rfl (e_psh_iconst 18 2 2 (e_psh_iconst 19 0 0 (e_invS 20 2056164 339 4 234 rfl rfl rfl (kE225_23))))))
set_option maxHeartbeats 100000 in
def k225_0 : ex_C := c_iload 2 (c_psh 84 (c_icmp_ne 13 (c_aload 1 (c_invS [] cd_225 7 1 235 (c_goto 23)))))
set_option maxHeartbeats 100000 in
theorem kE225_0 : ex_CE 5 [] cd_225 k225_0 q225_0 := e_iload_iload_n 0 0 2 2 rfl (e_psh_bipush 1 84 84 (e_icmp_ne 3 13 10 (e_aload_aload_n 6 0 1 1 rfl (e_invS 7 2064353 331 1 235 rfl rfl rfl (e_goto 10 23 13)))))
def kt_225 : Nat → Option ex_C := fun pc => @Bool.rec (fun _ => Nat → Option ex_C) (fun pc => @Bool.rec (fun _ => Nat → Option ex_C) (fun pc => @Bool.rec (fun _ => Nat → Option ex_C) (fun pc => @Bool.rec (fun _ => Nat → Option ex_C) (fun pc => @Bool.rec (fun _ => Nat → Option ex_C) (fun pc => @Bool.rec (fun _ => Option ex_C) none (some k225_409) (Nat.beq pc 409)) (fun pc => @Bool.rec (fun _ => Option ex_C) none (some k225_408) (Nat.beq pc 408)) (Nat.ble pc 408) pc) (fun pc => @Bool.rec (fun _ => Nat → Option ex_C) (fun pc => @Bool.rec (fun _ => Option ex_C) none (some k225_393) (Nat.beq pc 393)) (fun pc => @Bool.rec (fun _ => Option ex_C) none (some k225_387) (Nat.beq pc 387)) (Nat.ble pc 387) pc) (Nat.ble pc 393) pc) (fun pc => @Bool.rec (fun _ => Nat → Option ex_C) (fun pc => @Bool.rec (fun _ => Nat → Option ex_C) (fun pc => @Bool.rec (fun _ => Option ex_C) none (some k225_336) (Nat.beq pc 336)) (fun pc => @Bool.rec (fun _ => Option ex_C) none (some k225_332) (Nat.beq pc 332)) (Nat.ble pc 332) pc) (fun pc => @Bool.rec (fun _ => Option ex_C) none (some k225_314) (Nat.beq pc 314)) (Nat.ble pc 314) pc) (Nat.ble pc 336) pc) (fun pc => @Bool.rec (fun _ => Nat → Option ex_C) (fun pc => @Bool.rec (fun _ => Nat → Option ex_C) (fun pc => @Bool.rec (fun _ => Nat → Option ex_C) (fun pc => @Bool.rec (fun _ => Option ex_C) none (some k225_312) (Nat.beq pc 312)) (fun pc => @Bool.rec (fun _ => Option ex_C) none (some k225_289) (Nat.beq pc 289)) (Nat.ble pc 289) pc) (fun pc => @Bool.rec (fun _ => Nat → Option ex_C) (fun pc => @Bool.rec (fun _ => Option ex_C) none (some k225_287) (Nat.beq pc 287)) (fun pc => @Bool.rec (fun _ => Option ex_C) none (some k225_282) (Nat.beq pc 282)) (Nat.ble pc 282) pc) (Nat.ble pc 287) pc) (fun pc => @Bool.rec (fun _ => Nat → Option ex_C) (fun pc => @Bool.rec (fun _ => Nat → Option ex_C) (fun pc => @Bool.rec (fun _ => Option ex_C) none (some k225_280) (Nat.beq pc 280)) (fun pc => @Bool.rec (fun _ => Option ex_C) none (some k225_270) (Nat.beq pc 270)) (Nat.ble pc 270) pc) (fun pc => @Bool.rec (fun _ => Option ex_C) none (some k225_255) (Nat.beq pc 255)) (Nat.ble pc 255) pc) (Nat.ble pc 280) pc) (Nat.ble pc 312) pc) (fun pc => @Bool.rec (fun _ => Nat → Option ex_C) (fun pc => @Bool.rec (fun _ => Nat → Option ex_C) (fun pc => @Bool.rec (fun _ => Nat → Option ex_C) (fun pc => @Bool.rec (fun _ => Nat → Option ex_C) (fun pc => @Bool.rec (fun _ => Option ex_C) none (some k225_254) (Nat.beq pc 254)) (fun pc => @Bool.rec (fun _ => Option ex_C) none (some k225_199) (Nat.beq pc 199)) (Nat.ble pc 199) pc) (fun pc => @Bool.rec (fun _ => Nat → Option ex_C) (fun pc => @Bool.rec (fun _ => Option ex_C) none (some k225_189) (Nat.beq pc 189)) (fun pc => @Bool.rec (fun _ => Option ex_C) none (some k225_188) (Nat.beq pc 188)) (Nat.ble pc 188) pc) (Nat.ble pc 189) pc) (fun pc => @Bool.rec (fun _ => Nat → Option ex_C) (fun pc => @Bool.rec (fun _ => Nat → Option ex_C) (fun pc => @Bool.rec (fun _ => Option ex_C) none (some k225_130) (Nat.beq pc 130)) (fun pc => @Bool.rec (fun _ => Option ex_C) none (some k225_124) (Nat.beq pc 124)) (Nat.ble pc 124) pc) (fun pc => @Bool.rec (fun _ => Option ex_C) none (some k225_104) (Nat.beq pc 104)) (Nat.ble pc 104) pc) (Nat.ble pc 130) pc) (fun pc => @Bool.rec (fun _ => Nat → Option ex_C) (fun pc => @Bool.rec (fun _ => Nat → Option ex_C) (fun pc => @Bool.rec (fun _ => Nat → Option ex_C) (fun pc => @Bool.rec (fun _ => Option ex_C) none (some k225_102) (Nat.beq pc 102)) (fun pc => @Bool.rec (fun _ => Option ex_C) none (some k225_66) (Nat.beq pc 66)) (Nat.ble pc 66) pc) (fun pc => @Bool.rec (fun _ => Option ex_C) none (some k225_35) (Nat.beq pc 35)) (Nat.ble pc 35) pc) (fun pc => @Bool.rec (fun _ => Nat → Option ex_C) (fun pc => @Bool.rec (fun _ => Nat → Option ex_C) (fun pc => @Bool.rec (fun _ => Option ex_C) none (some k225_23) (Nat.beq pc 23)) (fun pc => @Bool.rec (fun _ => Option ex_C) none (some k225_13) (Nat.beq pc 13)) (Nat.ble pc 13) pc) (fun pc => @Bool.rec (fun _ => Option ex_C) none (some k225_0) (Nat.beq pc 0)) (Nat.ble pc 0) pc) (Nat.ble pc 23) pc) (Nat.ble pc 102) pc) (Nat.ble pc 254) pc
theorem ktE_225 : ex_CTT 5 [] cd_225 kt_225 cd_225 := (ex_ct2 (ex_ct2 (ex_ct2 (ex_ct2 (ex_ct1 kE225_0) (ex_ct2 (ex_ct1 kE225_13) (ex_ct1 kE225_23))) (ex_ct2 (ex_ct1 kE225_35) (ex_ct2 (ex_ct1 kE225_66) (ex_ct1 kE225_102)))) (ex_ct2 (ex_ct2 (ex_ct1 kE225_104) (ex_ct2 (ex_ct1 kE225_124) (ex_ct1 kE225_130))) (ex_ct2 (ex_ct2 (ex_ct1 kE225_188) (ex_ct1 kE225_189)) (ex_ct2 (ex_ct1 kE225_199) (ex_ct1 kE225_254))))) (ex_ct2 (ex_ct2 (ex_ct2 (ex_ct1 kE225_255) (ex_ct2 (ex_ct1 kE225_270) (ex_ct1 kE225_280))) (ex_ct2 (ex_ct2 (ex_ct1 kE225_282) (ex_ct1 kE225_287)) (ex_ct2 (ex_ct1 kE225_289) (ex_ct1 kE225_312)))) (ex_ct2 (ex_ct2 (ex_ct1 kE225_314) (ex_ct2 (ex_ct1 kE225_332) (ex_ct1 kE225_336))) (ex_ct2 (ex_ct2 (ex_ct1 kE225_387) (ex_ct1 kE225_393)) (ex_ct2 (ex_ct1 kE225_408) (ex_ct1 kE225_409))))))
set_option maxHeartbeats 100000 in
def k226_27 : ex_C := c_aload 1 (c_areturn  5)
set_option maxHeartbeats 100000 in
theorem kE226_27 : ex_CE 5 [] cd_226 k226_27 q226_27 := e_aload_aload_n 27 0 1 1 rfl (e_areturn 28 0 )
set_option maxHeartbeats 100000 in
def k226_9 : ex_C := c_iload 2 (c_aload 0 (c_gf 14 1 (c_icmp_ge 27 (c_aload 1 (c_iload 2 (c_psh 1 (c_bastore (c_iinc 2 1 (c_goto 9)))))))))
set_option maxHeartbeats 100000 in
theorem kE226_9 : ex_CE 5 [] cd_226 k226_9 q226_9 := e_iload_iload_n 9 0 2 2 rfl (e_aload_aload_n 10 0 0 0 rfl (e_gf 11 66433 297 14 1 rfl rfl (e_icmp_ge 14 27 13 (e_aload_aload_n 17 0 1 1 rfl (e_iload_iload_n 18 0 2 2 rfl (e_psh_iconst 19 1 1 (e_bastore 20 0 (e_iinc 21 1 2 1 (e_goto 24 9 (-15))))))))))
set_option maxHeartbeats 100000 in
def k226_0 : ex_C := c_aload 0 (c_gf 14 1 (c_newarr 65 0 (c_astore 1 (c_psh 0 (c_istore 2 (k226_9))))))
set_option maxHeartbeats 100000 in
theorem kE226_0 : ex_CE 5 [] cd_226 k226_0 q226_0 := e_aload_aload_n 0 0 0 0 rfl (e_gf 1 66433 297 14 1 rfl rfl (e_newarr 4 65 0 rfl (e_astore_astore_n 6 0 1 1 rfl (e_psh_iconst 7 0 0 (e_istore_istore_n 8 0 2 2 rfl (kE226_9))))))
def kt_226 : Nat → Option ex_C := fun pc => @Bool.rec (fun _ => Nat → Option ex_C) (fun pc => @Bool.rec (fun _ => Nat → Option ex_C) (fun pc => @Bool.rec (fun _ => Option ex_C) none (some k226_27) (Nat.beq pc 27)) (fun pc => @Bool.rec (fun _ => Option ex_C) none (some k226_9) (Nat.beq pc 9)) (Nat.ble pc 9) pc) (fun pc => @Bool.rec (fun _ => Option ex_C) none (some k226_0) (Nat.beq pc 0)) (Nat.ble pc 0) pc
theorem ktE_226 : ex_CTT 5 [] cd_226 kt_226 cd_226 := (ex_ct2 (ex_ct1 kE226_0) (ex_ct2 (ex_ct1 kE226_9) (ex_ct1 kE226_27)))
set_option maxHeartbeats 100000 in
def k227_307 : ex_C := c_ireturn  1
set_option maxHeartbeats 100000 in
theorem kE227_307 : ex_CE 1 [] cd_227 k227_307 q227_307 := e_ireturn 307 0 
set_option maxHeartbeats 100000 in
def k227_306 : ex_C := c_psh 0 (k227_307)
set_option maxHeartbeats 100000 in
theorem kE227_306 : ex_CE 1 [] cd_227 k227_306 q227_306 := e_psh_iconst 306 0 0 (kE227_307)
set_option maxHeartbeats 100000 in
def k227_302 : ex_C := c_psh 1 (c_goto 307)
set_option maxHeartbeats 100000 in
theorem kE227_302 : ex_CE 1 [] cd_227 k227_302 q227_302 := e_psh_iconst 302 1 1 (e_goto 303 307 4)
set_option maxHeartbeats 100000 in
def k227_284 : ex_C := c_aload 1 (c_gf 14 12 (c_invS [] cd_227 288 1 223 (c_if_eq 302 (c_aload 0 (c_aload 2 (c_invV [] cd_227 296 2 229 12 (c_if_eq 306 (k227_302))))))))
set_option maxHeartbeats 100000 in
theorem kE227_284 : ex_CE 1 [] cd_227 k227_284 q227_284 := e_aload_aload_n 284 0 1 1 rfl (e_gf 285 9100 319 14 12 rfl rfl (e_invS 288 1966049 312 1 223 rfl rfl rfl (e_if_eq 291 302 11 (e_aload_aload_n 294 0 0 0 rfl (e_aload_aload_n 295 0 2 2 rfl (e_invV_invokevirtual 296 2007426 359 2 229 12 rfl rfl rfl rfl rfl rfl (e_if_eq 299 306 7 (kE227_302))))))))
set_option maxHeartbeats 100000 in
def k227_278 : ex_C := c_iinc 4 1 (c_goto 10)
set_option maxHeartbeats 100000 in
theorem kE227_278 : ex_CE 1 [] cd_227 k227_278 q227_278 := e_iinc 278 1 4 1 (e_goto 281 10 (-271))
set_option maxHeartbeats 100000 in
def k227_204 : ex_C := c_istore 8 (c_aload 2 (c_aload 1 (c_gf 14 6 (c_iload 4 (c_iaload (c_iload 7 (c_psh 17179869195 (c_iload 5 (c_iaload (c_iadd (c_iload 8 (c_psh 17179869196 (c_iload 5 (c_iaload (c_iadd (c_aload 1 (c_gf 14 4 (c_iload 4 (c_iaload (c_invS [] cd_227 239 5 228 (c_aload 2 (c_aload 1 (c_gf 14 7 (c_iload 4 (c_iaload (c_iload 7 (c_psh 17179869195 (c_iload 5 (c_iaload (c_isub (c_iload 8 (c_psh 17179869196 (c_iload 5 (c_iaload (c_isub (c_aload 1 (c_gf 14 4 (c_iload 4 (c_iaload (c_invS [] cd_227 275 5 228 (k227_278)))))))))))))))))))))))))))))))))))))))))
set_option maxHeartbeats 100000 in
theorem kE227_204 : ex_CE 1 [] cd_227 k227_204 q227_204 := e_istore_istore 204 0 8 (e_aload_aload_n 206 0 2 2 rfl (e_aload_aload_n 207 0 1 1 rfl (e_gf 208 86918 276 14 6 rfl rfl (e_iload_iload 211 0 4 (e_iaload 213 0 (e_iload_iload 214 0 7 (e_psh_getstatic 216 17179869195 343 (e_iload_iload 219 0 5 (e_iaload 221 0 (e_iadd 222 0 (e_iload_iload 223 0 8 (e_psh_getstatic 225 17179869196 346 (e_iload_iload 228 0 5 (e_iaload 230 0 (e_iadd 231 0 (e_aload_aload_n 232 0 1 1 rfl (e_gf 233 86916 309 14 4 rfl rfl (e_iload_iload 236 0 4 (e_iaload 238 0 (e_invS 239 2007013 349 5 228 rfl rfl rfl (e_aload_aload_n 242 0 2 2 rfl (e_aload_aload_n 243 0 1 1 rfl (e_gf 244 86919 267 14 7 rfl rfl (e_iload_iload 247 0 4 (e_iaload 249 0 (e_iload_iload 250 0 7 (e_psh_getstatic 252 17179869195 343 (e_iload_iload 255 0 5 (e_iaload 257 0 (e_isub 258 0 (e_iload_iload 259 0 8 (e_psh_getstatic 261 17179869196 346 (e_iload_iload 264 0 5 (e_iaload 266 0 (e_isub 267 0 (e_aload_aload_n 268 0 1 1 rfl (e_gf 269 86916 309 14 4 rfl rfl (e_iload_iload 272 0 4 (e_iaload 274 0 (e_invS 275 2007013 349 5 228 rfl rfl rfl (kE227_278)))))))))))))))))))))))))))))))))))))))))
set_option maxHeartbeats 100000 in
def k227_195 : ex_C := c_psh 2 (c_aload 1 (c_gf 14 3 (c_iload 4 (c_iaload (c_imul (k227_204))))))
set_option maxHeartbeats 100000 in
theorem kE227_195 : ex_CE 1 [] cd_227 k227_195 q227_195 := e_psh_iconst 195 2 2 (e_aload_aload_n 196 0 1 1 rfl (e_gf 197 86915 303 14 3 rfl rfl (e_iload_iload 200 0 4 (e_iaload 202 0 (e_imul 203 0 (kE227_204))))))
set_option maxHeartbeats 100000 in
def k227_178 : ex_C := c_istore 7 (c_iload 6 (c_if_ne 195 (c_aload 1 (c_gf 14 3 (c_iload 4 (c_iaload (c_goto 204)))))))
set_option maxHeartbeats 100000 in
theorem kE227_178 : ex_CE 1 [] cd_227 k227_178 q227_178 := e_istore_istore 178 0 7 (e_iload_iload 180 0 6 (e_if_ne 182 195 13 (e_aload_aload_n 185 0 1 1 rfl (e_gf 186 86915 303 14 3 rfl rfl (e_iload_iload 189 0 4 (e_iaload 191 0 (e_goto 192 204 12)))))))
set_option maxHeartbeats 100000 in
def k227_171 : ex_C := c_aload 1 (c_gf 14 2 (c_iload 4 (c_iaload (k227_178))))
set_option maxHeartbeats 100000 in
theorem kE227_171 : ex_CE 1 [] cd_227 k227_171 q227_171 := e_aload_aload_n 171 0 1 1 rfl (e_gf 172 86914 300 14 2 rfl rfl (e_iload_iload 175 0 4 (e_iaload 177 0 (kE227_178))))
set_option maxHeartbeats 100000 in
def k227_151 : ex_C := c_iload 6 (c_istore 3 (c_iload 6 (c_if_ne 171 (c_psh 2 (c_aload 1 (c_gf 14 2 (c_iload 4 (c_iaload (c_imul (c_goto 178))))))))))
set_option maxHeartbeats 100000 in
theorem kE227_151 : ex_CE 1 [] cd_227 k227_151 q227_151 := e_iload_iload 151 0 6 (e_istore_istore_n 153 0 3 3 rfl (e_iload_iload 154 0 6 (e_if_ne 156 171 15 (e_psh_iconst 159 2 2 (e_aload_aload_n 160 0 1 1 rfl (e_gf 161 86914 300 14 2 rfl rfl (e_iload_iload 164 0 4 (e_iaload 166 0 (e_imul 167 0 (e_goto 168 178 10))))))))))
set_option maxHeartbeats 100000 in
def k227_125 : ex_C := c_istore 6 (c_iload 3 (c_psh 4294967295 (c_icmp_eq 151 (c_iload 3 (c_iload 6 (c_icmp_eq 151 (c_aload 0 (c_psh 112 (c_pf 12 2 37 (c_aload 0 (c_psh 4294967295 (c_pf 12 0 38 (c_psh 0 (c_ireturn  1))))))))))))))
set_option maxHeartbeats 100000 in
theorem kE227_125 : ex_CE 1 [] cd_227 k227_125 q227_125 := e_istore_istore 125 0 6 (e_iload_iload_n 127 0 3 3 rfl (e_psh_iconst 128 4294967295 (-1) (e_icmp_eq 129 151 22 (e_iload_iload_n 132 0 3 3 rfl (e_iload_iload 133 0 6 (e_icmp_eq 135 151 16 (e_aload_aload_n 138 0 0 0 rfl (e_psh_bipush 139 112 112 (e_pf 141 8997 353 12 2 37 rfl rfl rfl (e_aload_aload_n 144 0 0 0 rfl (e_psh_iconst 145 4294967295 (-1) (e_pf 146 806 356 12 0 38 rfl rfl rfl (e_psh_iconst 149 0 0 (e_ireturn 150 0 ))))))))))))))
set_option maxHeartbeats 100000 in
def k227_124 : ex_C := c_psh 1 (k227_125)
set_option maxHeartbeats 100000 in
theorem kE227_124 : ex_CE 1 [] cd_227 k227_124 q227_124 := e_psh_iconst 124 1 1 (kE227_125)
set_option maxHeartbeats 100000 in
def k227_109 : ex_C := c_istore 5 (c_psh 17179869195 (c_iload 5 (c_iaload (c_if_eq 124 (c_psh 0 (c_goto 125))))))
set_option maxHeartbeats 100000 in
theorem kE227_109 : ex_CE 1 [] cd_227 k227_109 q227_109 := e_istore_istore 109 0 5 (e_psh_getstatic 111 17179869195 343 (e_iload_iload 114 0 5 (e_iaload 116 0 (e_if_eq 117 124 7 (e_psh_iconst 120 0 0 (e_goto 121 125 4))))))
set_option maxHeartbeats 100000 in
def k227_98 : ex_C := c_aload 1 (c_gf 14 4 (c_iload 4 (c_iaload (c_psh 3 (c_iadd (c_psh 4 (c_irem   (k227_109))))))))
set_option maxHeartbeats 100000 in
theorem kE227_98 : ex_CE 1 [] cd_227 k227_98 q227_98 := e_aload_aload_n 98 0 1 1 rfl (e_gf 99 86916 309 14 4 rfl rfl (e_iload_iload 102 0 4 (e_iaload 104 0 (e_psh_iconst 105 3 3 (e_iadd 106 0 (e_psh_iconst 107 4 4 (e_irem 108 0  (kE227_109))))))))
set_option maxHeartbeats 100000 in
def k227_79 : ex_C := c_aload 1 (c_gf 14 12 (c_psh 84 (c_icmp_ne 98 (c_aload 1 (c_gf 14 4 (c_iload 4 (c_iaload (c_goto 109))))))))
set_option maxHeartbeats 100000 in
theorem kE227_79 : ex_CE 1 [] cd_227 k227_79 q227_79 := e_aload_aload_n 79 0 1 1 rfl (e_gf 80 9100 319 14 12 rfl rfl (e_psh_bipush 83 84 84 (e_icmp_ne 85 98 13 (e_aload_aload_n 88 0 1 1 rfl (e_gf 89 86916 309 14 4 rfl rfl (e_iload_iload 92 0 4 (e_iaload 94 0 (e_goto 95 109 14))))))))
set_option maxHeartbeats 100000 in
def k227_33 : ex_C := c_aload 1 (c_gf 14 7 (c_iload 4 (c_iaload (c_psh 4294967295 (c_icmp_ne 79 (c_aload 2 (c_aload 1 (c_gf 14 6 (c_iload 4 (c_iaload (c_aload 1 (c_gf 14 2 (c_iload 4 (c_iaload (c_aload 1 (c_gf 14 3 (c_iload 4 (c_iaload (c_aload 1 (c_gf 14 4 (c_iload 4 (c_iaload (c_invS [] cd_227 73 5 228 (c_goto 278))))))))))))))))))))))))
set_option maxHeartbeats 100000 in
theorem kE227_33 : ex_CE 1 [] cd_227 k227_33 q227_33 := e_aload_aload_n 33 0 1 1 rfl (e_gf 34 86919 267 14 7 rfl rfl (e_iload_iload 37 0 4 (e_iaload 39 0 (e_psh_iconst 40 4294967295 (-1) (e_icmp_ne 41 79 38 (e_aload_aload_n 44 0 2 2 rfl (e_aload_aload_n 45 0 1 1 rfl (e_gf 46 86918 276 14 6 rfl rfl (e_iload_iload 49 0 4 (e_iaload 51 0 (e_aload_aload_n 52 0 1 1 rfl (e_gf 53 86914 300 14 2 rfl rfl (e_iload_iload 56 0 4 (e_iaload 58 0 (e_aload_aload_n 59 0 1 1 rfl (e_gf 60 86915 303 14 3 rfl rfl (e_iload_iload 63 0 4 (e_iaload 65 0 (e_aload_aload_n 66 0 1 1 rfl (e_gf 67 86916 309 14 4 rfl rfl (e_iload_iload 70 0 4 (e_iaload 72 0 (e_invS 73 2007013 349 5 228 rfl rfl rfl (e_goto 76 278 202))))))))))))))))))))))))
set_option maxHeartbeats 100000 in
def k227_10 : ex_C := c_iload 4 (c_aload 1 (c_gf 14 1 (c_icmp_ge 284 (c_aload 1 (c_gf 14 6 (c_iload 4 (c_iaload (c_psh 4294967295 (c_icmp_ne 33 (c_goto 278))))))))))
set_option maxHeartbeats 100000 in
theorem kE227_10 : ex_CE 1 [] cd_227 k227_10 q227_10 := e_iload_iload 10 0 4 (e_aload_aload_n 12 0 1 1 rfl (e_gf 13 66433 297 14 1 rfl rfl (e_icmp_ge 16 284 268 (e_aload_aload_n 19 0 1 1 rfl (e_gf 20 86918 276 14 6 rfl rfl (e_iload_iload 23 0 4 (e_iaload 25 0 (e_psh_iconst 26 4294967295 (-1) (e_icmp_ne 27 33 6 (e_goto 30 278 248))))))))))
set_option maxHeartbeats 100000 in
def k227_0 : ex_C := c_aload 1 (c_gf 14 0 (c_astore 2 (c_psh 4294967295 (c_istore 3 (c_psh 0 (c_istore 4 (k227_10)))))))
set_option maxHeartbeats 100000 in
theorem kE227_0 : ex_CE 1 [] cd_227 k227_0 q227_0 := e_aload_aload_n 0 0 1 1 rfl (e_gf 1 86912 272 14 0 rfl rfl (e_astore_astore_n 4 0 2 2 rfl (e_psh_iconst 5 4294967295 (-1) (e_istore_istore_n 6 0 3 3 rfl (e_psh_iconst 7 0 0 (e_istore_istore 8 0 4 (kE227_10)))))))
def kt_227 : Nat → Option ex_C := fun pc => @Bool.rec (fun _ => Nat → Option ex_C) (fun pc => @Bool.rec (fun _ => Nat → Option ex_C) (fun pc => @Bool.rec (fun _ => Nat → Option ex_C) (fun pc => @Bool.rec (fun _ => Nat → Option ex_C) (fun pc => @Bool.rec (fun _ => Nat → Option ex_C) (fun pc => @Bool.rec (fun _ => Option ex_C) none (some k227_307) (Nat.beq pc 307)) (fun pc => @Bool.rec (fun _ => Option ex_C) none (some k227_306) (Nat.beq pc 306)) (Nat.ble pc 306) pc) (fun pc => @Bool.rec (fun _ => Option ex_C) none (some k227_302) (Nat.beq pc 302)) (Nat.ble pc 302) pc) (fun pc => @Bool.rec (fun _ => Nat → Option ex_C) (fun pc => @Bool.rec (fun _ => Option ex_C) none (some k227_284) (Nat.beq pc 284)) (fun pc => @Bool.rec (fun _ => Option ex_C) none (some k227_278) (Nat.beq pc 278)) (Nat.ble pc 278) pc) (Nat.ble pc 284) pc) (fun pc => @Bool.rec (fun _ => Nat → Option ex_C) (fun pc => @Bool.rec (fun _ => Nat → Option ex_C) (fun pc => @Bool.rec (fun _ => Option ex_C) none (some k227_204) (Nat.beq pc 204)) (fun pc => @Bool.rec (fun _ => Option ex_C) none (some k227_195) (Nat.beq pc 195)) (Nat.ble pc 195) pc) (fun pc => @Bool.rec (fun _ => Nat → Option ex_C) (fun pc => @Bool.rec (fun _ => Option ex_C) none (some k227_178) (Nat.beq pc 178)) (fun pc => @Bool.rec (fun _ => Option ex_C) none (some k227_171) (Nat.beq pc 171)) (Nat.ble pc 171) pc) (Nat.ble pc 178) pc) (Nat.ble pc 204) pc) (fun pc => @Bool.rec (fun _ => Nat → Option ex_C) (fun pc => @Bool.rec (fun _ => Nat → Option ex_C) (fun pc => @Bool.rec (fun _ => Nat → Option ex_C) (fun pc => @Bool.rec (fun _ => Nat → Option ex_C) (fun pc => @Bool.rec (fun _ => Option ex_C) none (some k227_151) (Nat.beq pc 151)) (fun pc => @Bool.rec (fun _ => Option ex_C) none (some k227_125) (Nat.beq pc 125)) (Nat.ble pc 125) pc) (fun pc => @Bool.rec (fun _ => Option ex_C) none (some k227_124) (Nat.beq pc 124)) (Nat.ble pc 124) pc) (fun pc => @Bool.rec (fun _ => Nat → Option ex_C) (fun pc => @Bool.rec (fun _ => Option ex_C) none (some k227_109) (Nat.beq pc 109)) (fun pc => @Bool.rec (fun _ => Option ex_C) none (some k227_98) (Nat.beq pc 98)) (Nat.ble pc 98) pc) (Nat.ble pc 109) pc) (fun pc => @Bool.rec (fun _ => Nat → Option ex_C) (fun pc => @Bool.rec (fun _ => Nat → Option ex_C) (fun pc => @Bool.rec (fun _ => Option ex_C) none (some k227_79) (Nat.beq pc 79)) (fun pc => @Bool.rec (fun _ => Option ex_C) none (some k227_33) (Nat.beq pc 33)) (Nat.ble pc 33) pc) (fun pc => @Bool.rec (fun _ => Nat → Option ex_C) (fun pc => @Bool.rec (fun _ => Option ex_C) none (some k227_10) (Nat.beq pc 10)) (fun pc => @Bool.rec (fun _ => Option ex_C) none (some k227_0) (Nat.beq pc 0)) (Nat.ble pc 0) pc) (Nat.ble pc 10) pc) (Nat.ble pc 79) pc) (Nat.ble pc 151) pc
theorem ktE_227 : ex_CTT 1 [] cd_227 kt_227 cd_227 := (ex_ct2 (ex_ct2 (ex_ct2 (ex_ct2 (ex_ct1 kE227_0) (ex_ct1 kE227_10)) (ex_ct2 (ex_ct1 kE227_33) (ex_ct1 kE227_79))) (ex_ct2 (ex_ct2 (ex_ct1 kE227_98) (ex_ct1 kE227_109)) (ex_ct2 (ex_ct1 kE227_124) (ex_ct2 (ex_ct1 kE227_125) (ex_ct1 kE227_151))))) (ex_ct2 (ex_ct2 (ex_ct2 (ex_ct1 kE227_171) (ex_ct1 kE227_178)) (ex_ct2 (ex_ct1 kE227_195) (ex_ct1 kE227_204))) (ex_ct2 (ex_ct2 (ex_ct1 kE227_278) (ex_ct1 kE227_284)) (ex_ct2 (ex_ct1 kE227_302) (ex_ct2 (ex_ct1 kE227_306) (ex_ct1 kE227_307))))))
set_option maxHeartbeats 100000 in
def k228_30 : ex_C := c_bastore (c_aload 0 (c_gf 14 2 (c_iload 1 (c_iload 2 (c_iastore (c_aload 0 (c_gf 14 3 (c_iload 1 (c_iload 3 (c_iastore (c_aload 0 (c_gf 14 4 (c_iload 1 (c_iload 4 (c_iastore (c_return_  15))))))))))))))))
set_option maxHeartbeats 100000 in
theorem kE228_30 : ex_CE 15 [] cd_228 k228_30 q228_30 := e_bastore 30 0 (e_aload_aload_n 31 0 0 0 rfl (e_gf 32 86914 300 14 2 rfl rfl (e_iload_iload_n 35 0 1 1 rfl (e_iload_iload_n 36 0 2 2 rfl (e_iastore 37 0 (e_aload_aload_n 38 0 0 0 rfl (e_gf 39 86915 303 14 3 rfl rfl (e_iload_iload_n 42 0 1 1 rfl (e_iload_iload_n 43 0 3 3 rfl (e_iastore 44 0 (e_aload_aload_n 45 0 0 0 rfl (e_gf 46 86916 309 14 4 rfl rfl (e_iload_iload_n 49 0 1 1 rfl (e_iload_iload 50 0 4 (e_iastore 52 0 (e_return_ 53 0 ))))))))))))))))
set_option maxHeartbeats 100000 in
def k228_29 : ex_C := c_psh 0 (k228_30)
set_option maxHeartbeats 100000 in
theorem kE228_29 : ex_CE 15 [] cd_228 k228_29 q228_29 := e_psh_iconst 29 0 0 (kE228_30)
set_option maxHeartbeats 100000 in
def k228_25 : ex_C := c_psh 1 (c_goto 30)
set_option maxHeartbeats 100000 in
theorem kE228_25 : ex_CE 15 [] cd_228 k228_25 q228_25 := e_psh_iconst 25 1 1 (e_goto 26 30 4)
set_option maxHeartbeats 100000 in
def k228_0 : ex_C := c_aload 0 (c_gf 14 8 (c_iload 1 (c_aload 0 (c_gf 14 2 (c_iload 1 (c_iaload (c_iload 2 (c_icmp_ne 25 (c_aload 0 (c_gf 14 3 (c_iload 1 (c_iaload (c_iload 3 (c_icmp_eq 29 (k228_25)))))))))))))))
set_option maxHeartbeats 100000 in
theorem kE228_0 : ex_CE 15 [] cd_228 k228_0 q228_0 := e_aload_aload_n 0 0 0 0 rfl (e_gf 1 86920 362 14 8 rfl rfl (e_iload_iload_n 4 0 1 1 rfl (e_aload_aload_n 5 0 0 0 rfl (e_gf 6 86914 300 14 2 rfl rfl (e_iload_iload_n 9 0 1 1 rfl (e_iaload 10 0 (e_iload_iload_n 11 0 2 2 rfl (e_icmp_ne 12 25 13 (e_aload_aload_n 15 0 0 0 rfl (e_gf 16 86915 303 14 3 rfl rfl (e_iload_iload_n 19 0 1 1 rfl (e_iaload 20 0 (e_iload_iload_n 21 0 3 3 rfl (e_icmp_eq 22 29 7 (kE228_25)))))))))))))))
def kt_228 : Nat → Option ex_C := fun pc => @Bool.rec (fun _ => Nat → Option ex_C) (fun pc => @Bool.rec (fun _ => Nat → Option ex_C) (fun pc => @Bool.rec (fun _ => Option ex_C) none (some k228_30) (Nat.beq pc 30)) (fun pc => @Bool.rec (fun _ => Option ex_C) none (some k228_29) (Nat.beq pc 29)) (Nat.ble pc 29) pc) (fun pc => @Bool.rec (fun _ => Nat → Option ex_C) (fun pc => @Bool.rec (fun _ => Option ex_C) none (some k228_25) (Nat.beq pc 25)) (fun pc => @Bool.rec (fun _ => Option ex_C) none (some k228_0) (Nat.beq pc 0)) (Nat.ble pc 0) pc) (Nat.ble pc 25) pc
theorem ktE_228 : ex_CTT 15 [] cd_228 kt_228 cd_228 := (ex_ct2 (ex_ct2 (ex_ct1 kE228_0) (ex_ct1 kE228_25)) (ex_ct2 (ex_ct1 kE228_29) (ex_ct1 kE228_30)))
set_option maxHeartbeats 100000 in
def k229_345 : ex_C := c_aload 0 (c_psh 98 (c_pf 12 2 37 (c_aload 0 (c_iload 4 (c_pf 12 0 38 (c_psh 0 (c_ireturn  1)))))))
set_option maxHeartbeats 100000 in
theorem kE229_345 : ex_CE 1 [] cd_229 k229_345 q229_345 := e_aload_aload_n 345 0 0 0 rfl (e_psh_bipush 346 98 98 (e_pf 348 8997 353 12 2 37 rfl rfl rfl (e_aload_aload_n 351 0 0 0 rfl (e_iload_iload 352 0 4 (e_pf 354 806 356 12 0 38 rfl rfl rfl (e_psh_iconst 357 0 0 (e_ireturn 358 0 )))))))
set_option maxHeartbeats 100000 in
def k229_337 : ex_C := c_iload 4 (c_psh 4294967295 (c_icmp_ne 345 (c_psh 1 (c_ireturn  1))))
set_option maxHeartbeats 100000 in
theorem kE229_337 : ex_CE 1 [] cd_229 k229_337 q229_337 := e_iload_iload 337 0 4 (e_psh_iconst 339 4294967295 (-1) (e_icmp_ne 340 345 5 (e_psh_iconst 343 1 1 (e_ireturn 344 0 ))))
set_option maxHeartbeats 100000 in
def k229_331 : ex_C := c_iinc 5 1 (c_goto 230)
set_option maxHeartbeats 100000 in
theorem kE229_331 : ex_CE 1 [] cd_229 k229_331 q229_331 := e_iinc 331 1 5 1 (e_goto 334 230 (-104))
set_option maxHeartbeats 100000 in
def k229_325 : ex_C := c_iinc 6 1 (c_goto 242)
set_option maxHeartbeats 100000 in
theorem kE229_325 : ex_CE 1 [] cd_229 k229_325 q229_325 := e_iinc 325 1 6 1 (e_goto 328 242 (-86))
set_option maxHeartbeats 100000 in
def k229_323 : ex_C := c_istore 4 (k229_325)
set_option maxHeartbeats 100000 in
theorem kE229_323 : ex_CE 1 [] cd_229 k229_323 q229_323 := e_istore_istore 323 0 4 (kE229_325)
set_option maxHeartbeats 100000 in
def k229_316 : ex_C := c_iload 4 (c_iload 7 (c_invS [] cd_229 320 2 302 (k229_323)))
set_option maxHeartbeats 100000 in
theorem kE229_316 : ex_CE 1 [] cd_229 k229_316 q229_316 := e_iload_iload 316 0 4 (e_iload_iload 318 0 7 (e_invS 320 2613218 283 2 302 rfl rfl rfl (kE229_323)))
set_option maxHeartbeats 100000 in
def k229_286 : ex_C := c_aload 1 (c_gf 14 5 (c_iload 5 (c_iaload (c_aload 1 (c_gf 14 5 (c_iload 6 (c_iaload (c_invS [] cd_229 300 2 302 (c_istore 7 (c_iload 4 (c_psh 4294967295 (c_icmp_ne 316 (c_iload 7 (c_goto 323))))))))))))))
set_option maxHeartbeats 100000 in
theorem kE229_286 : ex_CE 1 [] cd_229 k229_286 q229_286 := e_aload_aload_n 286 0 1 1 rfl (e_gf 287 86917 290 14 5 rfl rfl (e_iload_iload 290 0 5 (e_iaload 292 0 (e_aload_aload_n 293 0 1 1 rfl (e_gf 294 86917 290 14 5 rfl rfl (e_iload_iload 297 0 6 (e_iaload 299 0 (e_invS 300 2613218 283 2 302 rfl rfl rfl (e_istore_istore 303 0 7 (e_iload_iload 305 0 4 (e_psh_iconst 307 4294967295 (-1) (e_icmp_ne 308 316 8 (e_iload_iload 311 0 7 (e_goto 313 323 10))))))))))))))
set_option maxHeartbeats 100000 in
def k229_242 : ex_C := c_iload 6 (c_iload 5 (c_icmp_ge 331 (c_aload 1 (c_gf 14 2 (c_iload 5 (c_iaload (c_aload 1 (c_gf 14 2 (c_iload 6 (c_iaload (c_icmp_ne 325 (c_aload 1 (c_gf 14 3 (c_iload 5 (c_iaload (c_aload 1 (c_gf 14 3 (c_iload 6 (c_iaload (c_icmp_eq 286 (c_goto 325)))))))))))))))))))))
set_option maxHeartbeats 100000 in
theorem kE229_242 : ex_CE 1 [] cd_229 k229_242 q229_242 := e_iload_iload 242 0 6 (e_iload_iload 244 0 5 (e_icmp_ge 246 331 85 (e_aload_aload_n 249 0 1 1 rfl (e_gf 250 86914 300 14 2 rfl rfl (e_iload_iload 253 0 5 (e_iaload 255 0 (e_aload_aload_n 256 0 1 1 rfl (e_gf 257 86914 300 14 2 rfl rfl (e_iload_iload 260 0 6 (e_iaload 262 0 (e_icmp_ne 263 325 62 (e_aload_aload_n 266 0 1 1 rfl (e_gf 267 86915 303 14 3 rfl rfl (e_iload_iload 270 0 5 (e_iaload 272 0 (e_aload_aload_n 273 0 1 1 rfl (e_gf 274 86915 303 14 3 rfl rfl (e_iload_iload 277 0 6 (e_iaload 279 0 (e_icmp_eq 280 286 6 (e_goto 283 325 42)))))))))))))))))))))
set_option maxHeartbeats 100000 in
def k229_230 : ex_C := c_iload 5 (c_aload 1 (c_gf 14 1 (c_icmp_ge 337 (c_psh 0 (c_istore 6 (k229_242))))))
set_option maxHeartbeats 100000 in
theorem kE229_230 : ex_CE 1 [] cd_229 k229_230 q229_230 := e_iload_iload 230 0 5 (e_aload_aload_n 232 0 1 1 rfl (e_gf 233 66433 297 14 1 rfl rfl (e_icmp_ge 236 337 101 (e_psh_iconst 239 0 0 (e_istore_istore 240 0 6 (kE229_242))))))
set_option maxHeartbeats 100000 in
def k229_224 : ex_C := c_psh 4294967295 (c_istore 4 (c_psh 0 (c_istore 5 (k229_230))))
set_option maxHeartbeats 100000 in
theorem kE229_224 : ex_CE 1 [] cd_229 k229_224 q229_224 := e_psh_iconst 224 4294967295 (-1) (e_istore_istore 225 0 4 (e_psh_iconst 227 0 0 (e_istore_istore 228 0 5 (kE229_230))))
set_option maxHeartbeats 100000 in
def k229_218 : ex_C := c_iinc 4 1 (c_goto 25)
set_option maxHeartbeats 100000 in
theorem kE229_218 : ex_CE 1 [] cd_229 k229_218 q229_218 := e_iinc 218 1 4 1 (e_goto 221 25 (-196))
set_option maxHeartbeats 100000 in
def k229_164 : ex_C := c_aload 1 (c_gf 14 2 (c_iload 4 (c_aload 2 (c_iload 4 (c_iaload (c_psh 17179869195 (c_aload 1 (c_gf 14 4 (c_iload 4 (c_iaload (c_psh 3 (c_iadd (c_psh 4 (c_irem   (c_iaload (c_iadd (c_iastore (c_aload 1 (c_gf 14 3 (c_iload 4 (c_aload 3 (c_iload 4 (c_iaload (c_psh 17179869196 (c_aload 1 (c_gf 14 4 (c_iload 4 (c_iaload (c_psh 3 (c_iadd (c_psh 4 (c_irem   (c_iaload (c_iadd (c_iastore (k229_218))))))))))))))))))))))))))))))))))))
set_option maxHeartbeats 100000 in
theorem kE229_164 : ex_CE 1 [] cd_229 k229_164 q229_164 := e_aload_aload_n 164 0 1 1 rfl (e_gf 165 86914 300 14 2 rfl rfl (e_iload_iload 168 0 4 (e_aload_aload_n 170 0 2 2 rfl (e_iload_iload 171 0 4 (e_iaload 173 0 (e_psh_getstatic 174 17179869195 343 (e_aload_aload_n 177 0 1 1 rfl (e_gf 178 86916 309 14 4 rfl rfl (e_iload_iload 181 0 4 (e_iaload 183 0 (e_psh_iconst 184 3 3 (e_iadd 185 0 (e_psh_iconst 186 4 4 (e_irem 187 0  (e_iaload 188 0 (e_iadd 189 0 (e_iastore 190 0 (e_aload_aload_n 191 0 1 1 rfl (e_gf 192 86915 303 14 3 rfl rfl (e_iload_iload 195 0 4 (e_aload_aload_n 197 0 3 3 rfl (e_iload_iload 198 0 4 (e_iaload 200 0 (e_psh_getstatic 201 17179869196 346 (e_aload_aload_n 204 0 1 1 rfl (e_gf 205 86916 309 14 4 rfl rfl (e_iload_iload 208 0 4 (e_iaload 210 0 (e_psh_iconst 211 3 3 (e_iadd 212 0 (e_psh_iconst 213 4 4 (e_irem 214 0  (e_iaload 215 0 (e_iadd 216 0 (e_iastore 217 0 (kE229_218))))))))))))))))))))))))))))))))))))
set_option maxHeartbeats 100000 in
def k229_154 : ex_C := c_istore 7 (c_iload 7 (c_if_ne 164 (c_goto 218)))
set_option maxHeartbeats 100000 in
theorem kE229_154 : ex_CE 1 [] cd_229 k229_154 q229_154 := e_istore_istore 154 0 7 (e_iload_iload 156 0 7 (e_if_ne 158 164 6 (e_goto 161 218 57)))
set_option maxHeartbeats 100000 in
def k229_153 : ex_C := c_psh 0 (k229_154)
set_option maxHeartbeats 100000 in
theorem kE229_153 : ex_CE 1 [] cd_229 k229_153 q229_153 := e_psh_iconst 153 0 0 (kE229_154)
set_option maxHeartbeats 100000 in
def k229_102 : ex_C := c_iload 6 (c_psh 2 (c_icmp_ne 153 (c_aload 1 (c_gf 14 4 (c_iload 4 (c_iaload (c_psh 2 (c_iadd (c_psh 4 (c_irem   (c_aload 1 (c_gf 14 4 (c_iload 5 (c_iaload (c_icmp_ne 153 (c_aload 1 (c_gf 14 8 (c_iload 4 (c_baload (c_if_eq 153 (c_aload 1 (c_gf 14 8 (c_iload 5 (c_baload (c_if_eq 153 (c_psh 1 (c_goto 154)))))))))))))))))))))))))))
set_option maxHeartbeats 100000 in
theorem kE229_102 : ex_CE 1 [] cd_229 k229_102 q229_102 := e_iload_iload 102 0 6 (e_psh_iconst 104 2 2 (e_icmp_ne 105 153 48 (e_aload_aload_n 108 0 1 1 rfl (e_gf 109 86916 309 14 4 rfl rfl (e_iload_iload 112 0 4 (e_iaload 114 0 (e_psh_iconst 115 2 2 (e_iadd 116 0 (e_psh_iconst 117 4 4 (e_irem 118 0  (e_aload_aload_n 119 0 1 1 rfl (e_gf 120 86916 309 14 4 rfl rfl (e_iload_iload 123 0 5 (e_iaload 125 0 (e_icmp_ne 126 153 27 (e_aload_aload_n 129 0 1 1 rfl (e_gf 130 86920 362 14 8 rfl rfl (e_iload_iload 133 0 4 (e_baload 135 0 (e_if_eq 136 153 17 (e_aload_aload_n 139 0 1 1 rfl (e_gf 140 86920 362 14 8 rfl rfl (e_iload_iload 143 0 5 (e_baload 145 0 (e_if_eq 146 153 7 (e_psh_iconst 149 1 1 (e_goto 150 154 4)))))))))))))))))))))))))))
set_option maxHeartbeats 100000 in
def k229_96 : ex_C := c_iinc 7 1 (c_goto 43)
set_option maxHeartbeats 100000 in
theorem kE229_96 : ex_CE 1 [] cd_229 k229_96 q229_96 := e_iinc 96 1 7 1 (e_goto 99 43 (-56))
set_option maxHeartbeats 100000 in
def k229_94 : ex_C := c_istore 5 (k229_96)
set_option maxHeartbeats 100000 in
theorem kE229_94 : ex_CE 1 [] cd_229 k229_94 q229_94 := e_istore_istore 94 0 5 (kE229_96)
set_option maxHeartbeats 100000 in
def k229_92 : ex_C := c_iload 7 (k229_94)
set_option maxHeartbeats 100000 in
theorem kE229_92 : ex_CE 1 [] cd_229 k229_92 q229_92 := e_iload_iload 92 0 7 (kE229_94)
set_option maxHeartbeats 100000 in
def k229_77 : ex_C := c_iinc 6 1 (c_iload 7 (c_iload 4 (c_icmp_ne 92 (c_iload 5 (c_goto 94)))))
set_option maxHeartbeats 100000 in
theorem kE229_77 : ex_CE 1 [] cd_229 k229_77 q229_77 := e_iinc 77 1 6 1 (e_iload_iload 80 0 7 (e_iload_iload 82 0 4 (e_icmp_ne 84 92 8 (e_iload_iload 87 0 5 (e_goto 89 94 5)))))
set_option maxHeartbeats 100000 in
def k229_43 : ex_C := c_iload 7 (c_aload 1 (c_gf 14 1 (c_icmp_ge 102 (c_aload 2 (c_iload 7 (c_iaload (c_aload 2 (c_iload 4 (c_iaload (c_icmp_ne 96 (c_aload 3 (c_iload 7 (c_iaload (c_aload 3 (c_iload 4 (c_iaload (c_icmp_eq 77 (c_goto 96))))))))))))))))))
set_option maxHeartbeats 100000 in
theorem kE229_43 : ex_CE 1 [] cd_229 k229_43 q229_43 := e_iload_iload 43 0 7 (e_aload_aload_n 45 0 1 1 rfl (e_gf 46 66433 297 14 1 rfl rfl (e_icmp_ge 49 102 53 (e_aload_aload_n 52 0 2 2 rfl (e_iload_iload 53 0 7 (e_iaload 55 0 (e_aload_aload_n 56 0 2 2 rfl (e_iload_iload 57 0 4 (e_iaload 59 0 (e_icmp_ne 60 96 36 (e_aload_aload_n 63 0 3 3 rfl (e_iload_iload 64 0 7 (e_iaload 66 0 (e_aload_aload_n 67 0 3 3 rfl (e_iload_iload 68 0 4 (e_iaload 70 0 (e_icmp_eq 71 77 6 (e_goto 74 96 22))))))))))))))))))
set_option maxHeartbeats 100000 in
def k229_25 : ex_C := c_iload 4 (c_aload 1 (c_gf 14 1 (c_icmp_ge 224 (c_psh 4294967295 (c_istore 5 (c_psh 0 (c_istore 6 (c_psh 0 (c_istore 7 (k229_43))))))))))
set_option maxHeartbeats 100000 in
theorem kE229_25 : ex_CE 1 [] cd_229 k229_25 q229_25 := e_iload_iload 25 0 4 (e_aload_aload_n 27 0 1 1 rfl (e_gf 28 66433 297 14 1 rfl rfl (e_icmp_ge 31 224 193 (e_psh_iconst 34 4294967295 (-1) (e_istore_istore 35 0 5 (e_psh_iconst 37 0 0 (e_istore_istore 38 0 6 (e_psh_iconst 40 0 0 (e_istore_istore 41 0 7 (kE229_43))))))))))
set_option maxHeartbeats 100000 in
def k229_0 : ex_C := c_aload 1 (c_gf 14 2 (c_clone (c_checkcast 114 64 (c_astore 2 (c_aload 1 (c_gf 14 3 (c_clone (c_checkcast 114 64 (c_astore 3 (c_psh 0 (c_istore 4 (k229_25))))))))))))
set_option maxHeartbeats 100000 in
theorem kE229_0 : ex_CE 1 [] cd_229 k229_0 q229_0 := e_aload_aload_n 0 0 1 1 rfl (e_gf 1 86914 300 14 2 rfl rfl (e_clone (e_checkcast 7 64 114 (e_astore_astore_n 10 0 2 2 rfl (e_aload_aload_n 11 0 1 1 rfl (e_gf 12 86915 303 14 3 rfl rfl (e_clone (e_checkcast 18 64 114 (e_astore_astore_n 21 0 3 3 rfl (e_psh_iconst 22 0 0 (e_istore_istore 23 0 4 (kE229_25))))))))))))
def kt_229 : Nat → Option ex_C := fun pc => @Bool.rec (fun _ => Nat → Option ex_C) (fun pc => @Bool.rec (fun _ => Nat → Option ex_C) (fun pc => @Bool.rec (fun _ => Nat → Option ex_C) (fun pc => @Bool.rec (fun _ => Nat → Option ex_C) (fun pc => @Bool.rec (fun _ => Nat → Option ex_C) (fun pc => @Bool.rec (fun _ => Option ex_C) none (some k229_345) (Nat.beq pc 345)) (fun pc => @Bool.rec (fun _ => Option ex_C) none (some k229_337) (Nat.beq pc 337)) (Nat.ble pc 337) pc) (fun pc => @Bool.rec (fun _ => Option ex_C) none (some k229_331) (Nat.beq pc 331)) (Nat.ble pc 331) pc) (fun pc => @Bool.rec (fun _ => Nat → Option ex_C) (fun pc => @Bool.rec (fun _ => Nat → Option ex_C) (fun pc => @Bool.rec (fun _ => Option ex_C) none (some k229_325) (Nat.beq pc 325)) (fun pc => @Bool.rec (fun _ => Option ex_C) none (some k229_323) (Nat.beq pc 323)) (Nat.ble pc 323) pc) (fun pc => @Bool.rec (fun _ => Option ex_C) none (some k229_316) (Nat.beq pc 316)) (Nat.ble pc 316) pc) (Nat.ble pc 325) pc) (fun pc => @Bool.rec (fun _ => Nat → Option ex_C) (fun pc => @Bool.rec (fun _ => Nat → Option ex_C) (fun pc => @Bool.rec (fun _ => Nat → Option ex_C) (fun pc => @Bool.rec (fun _ => Option ex_C) none (some k229_286) (Nat.beq pc 286)) (fun pc => @Bool.rec (fun _ => Option ex_C) none (some k229_242) (Nat.beq pc 242)) (Nat.ble pc 242) pc) (fun pc => @Bool.rec (fun _ => Option ex_C) none (some k229_230) (Nat.beq pc 230)) (Nat.ble pc 230) pc) (fun pc => @Bool.rec (fun _ => Nat → Option ex_C) (fun pc => @Bool.rec (fun _ => Option ex_C) none (some k229_224) (Nat.beq pc 224)) (fun pc => @Bool.rec (fun _ => Option ex_C) none (some k229_218) (Nat.beq pc 218)) (Nat.ble pc 218) pc) (Nat.ble pc 224) pc) (Nat.ble pc 286) pc) (fun pc => @Bool.rec (fun _ => Nat → Option ex_C) (fun pc => @Bool.rec (fun _ => Nat → Option ex_C) (fun pc => @Bool.rec (fun _ => Nat → Option ex_C) (fun pc => @Bool.rec (fun _ => Nat → Option ex_C) (fun pc => @Bool.rec (fun _ => Option ex_C) none (some k229_164) (Nat.beq pc 164)) (fun pc => @Bool.rec (fun _ => Option ex_C) none (some k229_154) (Nat.beq pc 154)) (Nat.ble pc 154) pc) (fun pc => @Bool.rec (fun _ => Option ex_C) none (some k229_153) (Nat.beq pc 153)) (Nat.ble pc 153) pc) (fun pc => @Bool.rec (fun _ => Nat → Option ex_C) (fun pc => @Bool.rec (fun _ => Nat → Option ex_C) (fun pc => @Bool.rec (fun _ => Option ex_C) none (some k229_102) (Nat.beq pc 102)) (fun pc => @Bool.rec (fun _ => Option ex_C) none (some k229_96) (Nat.beq pc 96)) (Nat.ble pc 96) pc) (fun pc => @Bool.rec (fun _ => Option ex_C) none (some k229_94) (Nat.beq pc 94)) (Nat.ble pc 94) pc) (Nat.ble pc 102) pc) (fun pc => @Bool.rec (fun _ => Nat → Option ex_C) (fun pc => @Bool.rec (fun _ => Nat → Option ex_C) (fun pc => @Bool.rec (fun _ => Nat → Option ex_C) (fun pc => @Bool.rec (fun _ => Option ex_C) none (some k229_92) (Nat.beq pc 92)) (fun pc => @Bool.rec (fun _ => Option ex_C) none (some k229_77) (Nat.beq pc 77)) (Nat.ble pc 77) pc) (fun pc => @Bool.rec (fun _ => Option ex_C) none (some k229_43) (Nat.beq pc 43)) (Nat.ble pc 43) pc) (fun pc => @Bool.rec (fun _ => Nat → Option ex_C) (fun pc => @Bool.rec (fun _ => Option ex_C) none (some k229_25) (Nat.beq pc 25)) (fun pc => @Bool.rec (fun _ => Option ex_C) none (some k229_0) (Nat.beq pc 0)) (Nat.ble pc 0) pc) (Nat.ble pc 25) pc) (Nat.ble pc 92) pc) (Nat.ble pc 164) pc
theorem ktE_229 : ex_CTT 1 [] cd_229 kt_229 cd_229 := (ex_ct2 (ex_ct2 (ex_ct2 (ex_ct2 (ex_ct1 kE229_0) (ex_ct1 kE229_25)) (ex_ct2 (ex_ct1 kE229_43) (ex_ct2 (ex_ct1 kE229_77) (ex_ct1 kE229_92)))) (ex_ct2 (ex_ct2 (ex_ct1 kE229_94) (ex_ct2 (ex_ct1 kE229_96) (ex_ct1 kE229_102))) (ex_ct2 (ex_ct1 kE229_153) (ex_ct2 (ex_ct1 kE229_154) (ex_ct1 kE229_164))))) (ex_ct2 (ex_ct2 (ex_ct2 (ex_ct1 kE229_218) (ex_ct1 kE229_224)) (ex_ct2 (ex_ct1 kE229_230) (ex_ct2 (ex_ct1 kE229_242) (ex_ct1 kE229_286)))) (ex_ct2 (ex_ct2 (ex_ct1 kE229_316) (ex_ct2 (ex_ct1 kE229_323) (ex_ct1 kE229_325))) (ex_ct2 (ex_ct1 kE229_331) (ex_ct2 (ex_ct1 kE229_337) (ex_ct1 kE229_345))))))
set_option maxHeartbeats 100000 in
def k230_101 : ex_C := c_ireturn  1
set_option maxHeartbeats 100000 in
theorem kE230_101 : ex_CE 1 [] cd_230 k230_101 q230_101 := e_ireturn 101 0 
set_option maxHeartbeats 100000 in
def k230_100 : ex_C := c_psh 0 (k230_101)
set_option maxHeartbeats 100000 in
theorem kE230_100 : ex_CE 1 [] cd_230 k230_100 q230_100 := e_psh_iconst 100 0 0 (kE230_101)
set_option maxHeartbeats 100000 in
def k230_96 : ex_C := c_psh 1 (c_goto 101)
set_option maxHeartbeats 100000 in
theorem kE230_96 : ex_CE 1 [] cd_230 k230_96 q230_96 := e_psh_iconst 96 1 1 (e_goto 97 101 4)
set_option maxHeartbeats 100000 in
def k230_78 : ex_C := c_aload 0 (c_gf 14 3 (c_iload 1 (c_iaload (c_if_le 100 (c_aload 0 (c_gf 14 3 (c_iload 2 (c_iaload (c_if_le 100 (k230_96))))))))))
set_option maxHeartbeats 100000 in
theorem kE230_78 : ex_CE 1 [] cd_230 k230_78 q230_78 := e_aload_aload_n 78 0 0 0 rfl (e_gf 79 86915 303 14 3 rfl rfl (e_iload_iload_n 82 0 1 1 rfl (e_iaload 83 0 (e_if_le 84 100 16 (e_aload_aload_n 87 0 0 0 rfl (e_gf 88 86915 303 14 3 rfl rfl (e_iload_iload_n 91 0 2 2 rfl (e_iaload 92 0 (e_if_le 93 100 7 (kE230_96))))))))))
set_option maxHeartbeats 100000 in
def k230_48 : ex_C := c_istore 3 (c_iload 3 (c_if_eq 100 (c_aload 0 (c_gf 14 10 (c_if_eq 96 (c_aload 0 (c_gf 14 3 (c_iload 1 (c_iaload (c_if_ge 78 (c_aload 0 (c_gf 14 3 (c_iload 2 (c_iaload (c_if_lt 96 (k230_78))))))))))))))))
set_option maxHeartbeats 100000 in
theorem kE230_48 : ex_CE 1 [] cd_230 k230_48 q230_48 := e_istore_istore_n 48 0 3 3 rfl (e_iload_iload_n 49 0 3 3 rfl (e_if_eq 50 100 50 (e_aload_aload_n 53 0 0 0 rfl (e_gf 54 5002 325 14 10 rfl rfl (e_if_eq 57 96 39 (e_aload_aload_n 60 0 0 0 rfl (e_gf 61 86915 303 14 3 rfl rfl (e_iload_iload_n 64 0 1 1 rfl (e_iaload 65 0 (e_if_ge 66 78 12 (e_aload_aload_n 69 0 0 0 rfl (e_gf 70 86915 303 14 3 rfl rfl (e_iload_iload_n 73 0 2 2 rfl (e_iaload 74 0 (e_if_lt 75 96 21 (kE230_78))))))))))))))))
set_option maxHeartbeats 100000 in
def k230_47 : ex_C := c_psh 0 (k230_48)
set_option maxHeartbeats 100000 in
theorem kE230_47 : ex_CE 1 [] cd_230 k230_47 q230_47 := e_psh_iconst 47 0 0 (kE230_48)
set_option maxHeartbeats 100000 in
def k230_43 : ex_C := c_psh 1 (c_goto 48)
set_option maxHeartbeats 100000 in
theorem kE230_43 : ex_CE 1 [] cd_230 k230_43 q230_43 := e_psh_iconst 43 1 1 (e_goto 44 48 4)
set_option maxHeartbeats 100000 in
def k230_25 : ex_C := c_aload 0 (c_gf 14 2 (c_iload 1 (c_iaload (c_if_le 47 (c_aload 0 (c_gf 14 2 (c_iload 2 (c_iaload (c_if_le 47 (k230_43))))))))))
set_option maxHeartbeats 100000 in
theorem kE230_25 : ex_CE 1 [] cd_230 k230_25 q230_25 := e_aload_aload_n 25 0 0 0 rfl (e_gf 26 86914 300 14 2 rfl rfl (e_iload_iload_n 29 0 1 1 rfl (e_iaload 30 0 (e_if_le 31 47 16 (e_aload_aload_n 34 0 0 0 rfl (e_gf 35 86914 300 14 2 rfl rfl (e_iload_iload_n 38 0 2 2 rfl (e_iaload 39 0 (e_if_le 40 47 7 (kE230_43))))))))))
set_option maxHeartbeats 100000 in
def k230_0 : ex_C := c_aload 0 (c_gf 14 9 (c_if_eq 43 (c_aload 0 (c_gf 14 2 (c_iload 1 (c_iaload (c_if_ge 25 (c_aload 0 (c_gf 14 2 (c_iload 2 (c_iaload (c_if_lt 43 (k230_25)))))))))))))
set_option maxHeartbeats 100000 in
theorem kE230_0 : ex_CE 1 [] cd_230 k230_0 q230_0 := e_aload_aload_n 0 0 0 0 rfl (e_gf 1 5001 322 14 9 rfl rfl (e_if_eq 4 43 39 (e_aload_aload_n 7 0 0 0 rfl (e_gf 8 86914 300 14 2 rfl rfl (e_iload_iload_n 11 0 1 1 rfl (e_iaload 12 0 (e_if_ge 13 25 12 (e_aload_aload_n 16 0 0 0 rfl (e_gf 17 86914 300 14 2 rfl rfl (e_iload_iload_n 20 0 2 2 rfl (e_iaload 21 0 (e_if_lt 22 43 21 (kE230_25)))))))))))))
def kt_230 : Nat → Option ex_C := fun pc => @Bool.rec (fun _ => Nat → Option ex_C) (fun pc => @Bool.rec (fun _ => Nat → Option ex_C) (fun pc => @Bool.rec (fun _ => Nat → Option ex_C) (fun pc => @Bool.rec (fun _ => Nat → Option ex_C) (fun pc => @Bool.rec (fun _ => Option ex_C) none (some k230_101) (Nat.beq pc 101)) (fun pc => @Bool.rec (fun _ => Option ex_C) none (some k230_100) (Nat.beq pc 100)) (Nat.ble pc 100) pc) (fun pc => @Bool.rec (fun _ => Option ex_C) none (some k230_96) (Nat.beq pc 96)) (Nat.ble pc 96) pc) (fun pc => @Bool.rec (fun _ => Nat → Option ex_C) (fun pc => @Bool.rec (fun _ => Option ex_C) none (some k230_78) (Nat.beq pc 78)) (fun pc => @Bool.rec (fun _ => Option ex_C) none (some k230_48) (Nat.beq pc 48)) (Nat.ble pc 48) pc) (Nat.ble pc 78) pc) (fun pc => @Bool.rec (fun _ => Nat → Option ex_C) (fun pc => @Bool.rec (fun _ => Nat → Option ex_C) (fun pc => @Bool.rec (fun _ => Option ex_C) none (some k230_47) (Nat.beq pc 47)) (fun pc => @Bool.rec (fun _ => Option ex_C) none (some k230_43) (Nat.beq pc 43)) (Nat.ble pc 43) pc) (fun pc => @Bool.rec (fun _ => Nat → Option ex_C) (fun pc => @Bool.rec (fun _ => Option ex_C) none (some k230_25) (Nat.beq pc 25)) (fun pc => @Bool.rec (fun _ => Option ex_C) none (some k230_0) (Nat.beq pc 0)) (Nat.ble pc 0) pc) (Nat.ble pc 25) pc) (Nat.ble pc 47) pc
theorem ktE_230 : ex_CTT 1 [] cd_230 kt_230 cd_230 := (ex_ct2 (ex_ct2 (ex_ct2 (ex_ct1 kE230_0) (ex_ct1 kE230_25)) (ex_ct2 (ex_ct1 kE230_43) (ex_ct1 kE230_47))) (ex_ct2 (ex_ct2 (ex_ct1 kE230_48) (ex_ct1 kE230_78)) (ex_ct2 (ex_ct1 kE230_96) (ex_ct2 (ex_ct1 kE230_100) (ex_ct1 kE230_101)))))
set_option maxHeartbeats 100000 in
def k231_174 : ex_C := c_aload 3 (c_areturn  5)
set_option maxHeartbeats 100000 in
theorem kE231_174 : ex_CE 5 [] cd_231 k231_174 q231_174 := e_aload_aload_n 174 0 3 3 rfl (e_areturn 175 0 )
set_option maxHeartbeats 100000 in
def k231_168 : ex_C := c_iinc 4 1 (c_goto 10)
set_option maxHeartbeats 100000 in
theorem kE231_168 : ex_CE 5 [] cd_231 k231_168 q231_168 := e_iinc 168 1 4 1 (e_goto 171 10 (-161))
set_option maxHeartbeats 100000 in
def k231_162 : ex_C := c_iinc 5 1 (c_goto 27)
set_option maxHeartbeats 100000 in
theorem kE231_162 : ex_CE 5 [] cd_231 k231_162 q231_162 := e_iinc 162 1 5 1 (e_goto 165 27 (-138))
set_option maxHeartbeats 100000 in
def k231_110 : ex_C := c_istore 6 (c_aload 1 (c_iload 5 (c_baload (c_if_eq 162 (c_iload 6 (c_if_eq 162 (c_aload 0 (c_gf 14 4 (c_iload 4 (c_iaload (c_psh 2 (c_iadd (c_psh 4 (c_irem   (c_aload 0 (c_gf 14 4 (c_iload 5 (c_iaload (c_icmp_ne 162 (c_aload 0 (c_iload 4 (c_iload 5 (c_invS [] cd_231 150 3 230 (c_if_eq 162 (c_aload 3 (c_iload 4 (c_iload 5 (c_iastore (k231_162)))))))))))))))))))))))))))))
set_option maxHeartbeats 100000 in
theorem kE231_110 : ex_CE 5 [] cd_231 k231_110 q231_110 := e_istore_istore 110 0 6 (e_aload_aload_n 112 0 1 1 rfl (e_iload_iload 113 0 5 (e_baload 115 0 (e_if_eq 116 162 46 (e_iload_iload 119 0 6 (e_if_eq 121 162 41 (e_aload_aload_n 124 0 0 0 rfl (e_gf 125 86916 309 14 4 rfl rfl (e_iload_iload 128 0 4 (e_iaload 130 0 (e_psh_iconst 131 2 2 (e_iadd 132 0 (e_psh_iconst 133 4 4 (e_irem 134 0  (e_aload_aload_n 135 0 0 0 rfl (e_gf 136 86916 309 14 4 rfl rfl (e_iload_iload 139 0 5 (e_iaload 141 0 (e_icmp_ne 142 162 20 (e_aload_aload_n 145 0 0 0 rfl (e_iload_iload 146 0 4 (e_iload_iload 148 0 5 (e_invS 150 2023395 366 3 230 rfl rfl rfl (e_if_eq 153 162 9 (e_aload_aload_n 156 0 3 3 rfl (e_iload_iload 157 0 4 (e_iload_iload 159 0 5 (e_iastore 161 0 (kE231_162)))))))))))))))))))))))))))))
set_option maxHeartbeats 100000 in
def k231_109 : ex_C := c_psh 0 (k231_110)
set_option maxHeartbeats 100000 in
theorem kE231_109 : ex_CE 5 [] cd_231 k231_109 q231_109 := e_psh_iconst 109 0 0 (kE231_110)
set_option maxHeartbeats 100000 in
def k231_27 : ex_C := c_iload 5 (c_aload 0 (c_gf 14 1 (c_icmp_ge 168 (c_aload 1 (c_iload 4 (c_baload (c_if_eq 168 (c_aload 0 (c_gf 14 2 (c_iload 5 (c_iaload (c_aload 0 (c_gf 14 2 (c_iload 4 (c_iaload (c_iload 2 (c_psh 17179869195 (c_aload 0 (c_gf 14 4 (c_iload 4 (c_iaload (c_iaload (c_imul (c_iadd (c_icmp_ne 109 (c_aload 0 (c_gf 14 3 (c_iload 5 (c_iaload (c_aload 0 (c_gf 14 3 (c_iload 4 (c_iaload (c_iload 2 (c_psh 17179869196 (c_aload 0 (c_gf 14 4 (c_iload 4 (c_iaload (c_iaload (c_imul (c_iadd (c_icmp_ne 109 (c_psh 1 (c_goto 110)))))))))))))))))))))))))))))))))))))))))))))
set_option maxHeartbeats 100000 in
theorem kE231_27 : ex_CE 5 [] cd_231 k231_27 q231_27 := e_iload_iload 27 0 5 (e_aload_aload_n 29 0 0 0 rfl (e_gf 30 66433 297 14 1 rfl rfl (e_icmp_ge 33 168 135 (e_aload_aload_n 36 0 1 1 rfl (e_iload_iload 37 0 4 (e_baload 39 0 (e_if_eq 40 168 128 (e_aload_aload_n 43 0 0 0 rfl (e_gf 44 86914 300 14 2 rfl rfl (e_iload_iload 47 0 5 (e_iaload 49 0 (e_aload_aload_n 50 0 0 0 rfl (e_gf 51 86914 300 14 2 rfl rfl (e_iload_iload 54 0 4 (e_iaload 56 0 (e_iload_iload_n 57 0 2 2 rfl (e_psh_getstatic 58 17179869195 343 (e_aload_aload_n 61 0 0 0 rfl (e_gf 62 86916 309 14 4 rfl rfl (e_iload_iload 65 0 4 (e_iaload 67 0 (e_iaload 68 0 (e_imul 69 0 (e_iadd 70 0 (e_icmp_ne 71 109 38 (e_aload_aload_n 74 0 0 0 rfl (e_gf 75 86915 303 14 3 rfl rfl (e_iload_iload 78 0 5 (e_iaload 80 0 (e_aload_aload_n 81 0 0 0 rfl (e_gf 82 86915 303 14 3 rfl rfl (e_iload_iload 85 0 4 (e_iaload 87 0 (e_iload_iload_n 88 0 2 2 rfl (e_psh_getstatic 89 17179869196 346 (e_aload_aload_n 92 0 0 0 rfl (e_gf 93 86916 309 14 4 rfl rfl (e_iload_iload 96 0 4 (e_iaload 98 0 (e_iaload 99 0 (e_imul 100 0 (e_iadd 101 0 (e_icmp_ne 102 109 7 (e_psh_iconst 105 1 1 (e_goto 106 110 4)))))))))))))))))))))))))))))))))))))))))))))
set_option maxHeartbeats 100000 in
def k231_10 : ex_C := c_iload 4 (c_aload 0 (c_gf 14 1 (c_icmp_ge 174 (c_aload 3 (c_iload 4 (c_psh 4294967295 (c_iastore (c_psh 0 (c_istore 5 (k231_27))))))))))
set_option maxHeartbeats 100000 in
theorem kE231_10 : ex_CE 5 [] cd_231 k231_10 q231_10 := e_iload_iload 10 0 4 (e_aload_aload_n 12 0 0 0 rfl (e_gf 13 66433 297 14 1 rfl rfl (e_icmp_ge 16 174 158 (e_aload_aload_n 19 0 3 3 rfl (e_iload_iload 20 0 4 (e_psh_iconst 22 4294967295 (-1) (e_iastore 23 0 (e_psh_iconst 24 0 0 (e_istore_istore 25 0 5 (kE231_27))))))))))
set_option maxHeartbeats 100000 in
def k231_0 : ex_C := c_aload 0 (c_gf 14 1 (c_newarr 64 0 (c_astore 3 (c_psh 0 (c_istore 4 (k231_10))))))
set_option maxHeartbeats 100000 in
theorem kE231_0 : ex_CE 5 [] cd_231 k231_0 q231_0 := e_aload_aload_n 0 0 0 0 rfl (e_gf 1 66433 297 14 1 rfl rfl (e_newarr 4 64 0 rfl (e_astore_astore_n 6 0 3 3 rfl (e_psh_iconst 7 0 0 (e_istore_istore 8 0 4 (kE231_10))))))
def kt_231 : Nat → Option ex_C := fun pc => @Bool.rec (fun _ => Nat → Option ex_C) (fun pc => @Bool.rec (fun _ => Nat → Option ex_C) (fun pc => @Bool.rec (fun _ => Nat → Option ex_C) (fun pc => @Bool.rec (fun _ => Option ex_C) none (some k231_174) (Nat.beq pc 174)) (fun pc => @Bool.rec (fun _ => Option ex_C) none (some k231_168) (Nat.beq pc 168)) (Nat.ble pc 168) pc) (fun pc => @Bool.rec (fun _ => Nat → Option ex_C) (fun pc => @Bool.rec (fun _ => Option ex_C) none (some k231_162) (Nat.beq pc 162)) (fun pc => @Bool.rec (fun _ => Option ex_C) none (some k231_110) (Nat.beq pc 110)) (Nat.ble pc 110) pc) (Nat.ble pc 162) pc) (fun pc => @Bool.rec (fun _ => Nat → Option ex_C) (fun pc => @Bool.rec (fun _ => Nat → Option ex_C) (fun pc => @Bool.rec (fun _ => Option ex_C) none (some k231_109) (Nat.beq pc 109)) (fun pc => @Bool.rec (fun _ => Option ex_C) none (some k231_27) (Nat.beq pc 27)) (Nat.ble pc 27) pc) (fun pc => @Bool.rec (fun _ => Nat → Option ex_C) (fun pc => @Bool.rec (fun _ => Option ex_C) none (some k231_10) (Nat.beq pc 10)) (fun pc => @Bool.rec (fun _ => Option ex_C) none (some k231_0) (Nat.beq pc 0)) (Nat.ble pc 0) pc) (Nat.ble pc 10) pc) (Nat.ble pc 109) pc
theorem ktE_231 : ex_CTT 5 [] cd_231 kt_231 cd_231 := (ex_ct2 (ex_ct2 (ex_ct2 (ex_ct1 kE231_0) (ex_ct1 kE231_10)) (ex_ct2 (ex_ct1 kE231_27) (ex_ct1 kE231_109))) (ex_ct2 (ex_ct2 (ex_ct1 kE231_110) (ex_ct1 kE231_162)) (ex_ct2 (ex_ct1 kE231_168) (ex_ct1 kE231_174))))
set_option maxHeartbeats 100000 in
def k232_153 : ex_C := c_psh 4294967295 (c_ireturn  0)
set_option maxHeartbeats 100000 in
theorem kE232_153 : ex_CE 0 [] cd_232 k232_153 q232_153 := e_psh_iconst 153 4294967295 (-1) (e_ireturn 154 0 )
set_option maxHeartbeats 100000 in
def k232_147 : ex_C := c_iinc 7 1 (c_goto 3)
set_option maxHeartbeats 100000 in
theorem kE232_147 : ex_CE 0 [] cd_232 k232_147 q232_147 := e_iinc 147 1 7 1 (e_goto 150 3 (-147))
set_option maxHeartbeats 100000 in
def k232_144 : ex_C := c_iload 7 (c_ireturn  0)
set_option maxHeartbeats 100000 in
theorem kE232_144 : ex_CE 0 [] cd_232 k232_144 q232_144 := e_iload_iload 144 0 7 (e_ireturn 146 0 )
set_option maxHeartbeats 100000 in
def k232_117 : ex_C := c_istore 9 (c_iload 8 (c_if_eq 147 (c_iload 9 (c_if_eq 147 (c_iload 5 (c_if_eq 144 (c_aload 0 (c_iload 2 (c_iload 7 (c_invS [] cd_232 138 3 230 (c_if_eq 147 (k232_144))))))))))))
set_option maxHeartbeats 100000 in
theorem kE232_117 : ex_CE 0 [] cd_232 k232_117 q232_117 := e_istore_istore 117 0 9 (e_iload_iload 119 0 8 (e_if_eq 121 147 26 (e_iload_iload 124 0 9 (e_if_eq 126 147 21 (e_iload_iload 129 0 5 (e_if_eq 131 144 13 (e_aload_aload_n 134 0 0 0 rfl (e_iload_iload_n 135 0 2 2 rfl (e_iload_iload 136 0 7 (e_invS 138 2023395 366 3 230 rfl rfl rfl (e_if_eq 141 147 6 (kE232_144))))))))))))
set_option maxHeartbeats 100000 in
def k232_116 : ex_C := c_psh 0 (k232_117)
set_option maxHeartbeats 100000 in
theorem kE232_116 : ex_CE 0 [] cd_232 k232_116 q232_116 := e_psh_iconst 116 0 0 (kE232_117)
set_option maxHeartbeats 100000 in
def k232_92 : ex_C := c_aload 0 (c_gf 14 4 (c_iload 7 (c_iaload (c_psh 2 (c_irem   (c_aload 0 (c_gf 14 4 (c_iload 2 (c_iaload (c_psh 2 (c_irem   (c_icmp_ne 116 (c_psh 1 (c_goto 117))))))))))))))
set_option maxHeartbeats 100000 in
theorem kE232_92 : ex_CE 0 [] cd_232 k232_92 q232_92 := e_aload_aload_n 92 0 0 0 rfl (e_gf 93 86916 309 14 4 rfl rfl (e_iload_iload 96 0 7 (e_iaload 98 0 (e_psh_iconst 99 2 2 (e_irem 100 0  (e_aload_aload_n 101 0 0 0 rfl (e_gf 102 86916 309 14 4 rfl rfl (e_iload_iload_n 105 0 2 2 rfl (e_iaload 106 0 (e_psh_iconst 107 2 2 (e_irem 108 0  (e_icmp_ne 109 116 7 (e_psh_iconst 112 1 1 (e_goto 113 117 4))))))))))))))
set_option maxHeartbeats 100000 in
def k232_88 : ex_C := c_psh 0 (c_goto 117)
set_option maxHeartbeats 100000 in
theorem kE232_88 : ex_CE 0 [] cd_232 k232_88 q232_88 := e_psh_iconst 88 0 0 (e_goto 89 117 28)
set_option maxHeartbeats 100000 in
def k232_61 : ex_C := c_istore 8 (c_iload 6 (c_if_eq 92 (c_aload 0 (c_gf 14 4 (c_iload 7 (c_iaload (c_aload 0 (c_gf 14 4 (c_iload 2 (c_iaload (c_icmp_ne 88 (c_psh 1 (c_goto 117)))))))))))))
set_option maxHeartbeats 100000 in
theorem kE232_61 : ex_CE 0 [] cd_232 k232_61 q232_61 := e_istore_istore 61 0 8 (e_iload_iload 63 0 6 (e_if_eq 65 92 27 (e_aload_aload_n 68 0 0 0 rfl (e_gf 69 86916 309 14 4 rfl rfl (e_iload_iload 72 0 7 (e_iaload 74 0 (e_aload_aload_n 75 0 0 0 rfl (e_gf 76 86916 309 14 4 rfl rfl (e_iload_iload_n 79 0 2 2 rfl (e_iaload 80 0 (e_icmp_ne 81 88 7 (e_psh_iconst 84 1 1 (e_goto 85 117 32)))))))))))))
set_option maxHeartbeats 100000 in
def k232_60 : ex_C := c_psh 0 (k232_61)
set_option maxHeartbeats 100000 in
theorem kE232_60 : ex_CE 0 [] cd_232 k232_60 q232_60 := e_psh_iconst 60 0 0 (kE232_61)
set_option maxHeartbeats 100000 in
def k232_3 : ex_C := c_iload 7 (c_aload 0 (c_gf 14 1 (c_icmp_ge 153 (c_aload 1 (c_iload 7 (c_baload (c_if_eq 60 (c_aload 0 (c_gf 14 2 (c_iload 7 (c_iaload (c_aload 0 (c_gf 14 2 (c_iload 2 (c_iaload (c_iload 3 (c_iadd (c_icmp_ne 60 (c_aload 0 (c_gf 14 3 (c_iload 7 (c_iaload (c_aload 0 (c_gf 14 3 (c_iload 2 (c_iaload (c_iload 4 (c_iadd (c_icmp_ne 60 (c_psh 1 (c_goto 61)))))))))))))))))))))))))))))))
set_option maxHeartbeats 100000 in
theorem kE232_3 : ex_CE 0 [] cd_232 k232_3 q232_3 := e_iload_iload 3 0 7 (e_aload_aload_n 5 0 0 0 rfl (e_gf 6 66433 297 14 1 rfl rfl (e_icmp_ge 9 153 144 (e_aload_aload_n 12 0 1 1 rfl (e_iload_iload 13 0 7 (e_baload 15 0 (e_if_eq 16 60 44 (e_aload_aload_n 19 0 0 0 rfl (e_gf 20 86914 300 14 2 rfl rfl (e_iload_iload 23 0 7 (e_iaload 25 0 (e_aload_aload_n 26 0 0 0 rfl (e_gf 27 86914 300 14 2 rfl rfl (e_iload_iload_n 30 0 2 2 rfl (e_iaload 31 0 (e_iload_iload_n 32 0 3 3 rfl (e_iadd 33 0 (e_icmp_ne 34 60 26 (e_aload_aload_n 37 0 0 0 rfl (e_gf 38 86915 303 14 3 rfl rfl (e_iload_iload 41 0 7 (e_iaload 43 0 (e_aload_aload_n 44 0 0 0 rfl (e_gf 45 86915 303 14 3 rfl rfl (e_iload_iload_n 48 0 2 2 rfl (e_iaload 49 0 (e_iload_iload 50 0 4 (e_iadd 52 0 (e_icmp_ne 53 60 7 (e_psh_iconst 56 1 1 (e_goto 57 61 4)))))))))))))))))))))))))))))))
set_option maxHeartbeats 100000 in
def k232_0 : ex_C := c_psh 0 (c_istore 7 (k232_3))
set_option maxHeartbeats 100000 in
theorem kE232_0 : ex_CE 0 [] cd_232 k232_0 q232_0 := e_psh_iconst 0 0 0 (e_istore_istore 1 0 7 (kE232_3))
def kt_232 : Nat → Option ex_C := fun pc => @Bool.rec (fun _ => Nat → Option ex_C) (fun pc => @Bool.rec (fun _ => Nat → Option ex_C) (fun pc => @Bool.rec (fun _ => Nat → Option ex_C) (fun pc => @Bool.rec (fun _ => Nat → Option ex_C) (fun pc => @Bool.rec (fun _ => Option ex_C) none (some k232_153) (Nat.beq pc 153)) (fun pc => @Bool.rec (fun _ => Option ex_C) none (some k232_147) (Nat.beq pc 147)) (Nat.ble pc 147) pc) (fun pc => @Bool.rec (fun _ => Option ex_C) none (some k232_144) (Nat.beq pc 144)) (Nat.ble pc 144) pc) (fun pc => @Bool.rec (fun _ => Nat → Option ex_C) (fun pc => @Bool.rec (fun _ => Nat → Option ex_C) (fun pc => @Bool.rec (fun _ => Option ex_C) none (some k232_117) (Nat.beq pc 117)) (fun pc => @Bool.rec (fun _ => Option ex_C) none (some k232_116) (Nat.beq pc 116)) (Nat.ble pc 116) pc) (fun pc => @Bool.rec (fun _ => Option ex_C) none (some k232_92) (Nat.beq pc 92)) (Nat.ble pc 92) pc) (Nat.ble pc 117) pc) (fun pc => @Bool.rec (fun _ => Nat → Option ex_C) (fun pc => @Bool.rec (fun _ => Nat → Option ex_C) (fun pc => @Bool.rec (fun _ => Nat → Option ex_C) (fun pc => @Bool.rec (fun _ => Option ex_C) none (some k232_88) (Nat.beq pc 88)) (fun pc => @Bool.rec (fun _ => Option ex_C) none (some k232_61) (Nat.beq pc 61)) (Nat.ble pc 61) pc) (fun pc => @Bool.rec (fun _ => Option ex_C) none (some k232_60) (Nat.beq pc 60)) (Nat.ble pc 60) pc) (fun pc => @Bool.rec (fun _ => Nat → Option ex_C) (fun pc => @Bool.rec (fun _ => Option ex_C) none (some k232_3) (Nat.beq pc 3)) (fun pc => @Bool.rec (fun _ => Option ex_C) none (some k232_0) (Nat.beq pc 0)) (Nat.ble pc 0) pc) (Nat.ble pc 3) pc) (Nat.ble pc 88) pc
theorem ktE_232 : ex_CTT 0 [] cd_232 kt_232 cd_232 := (ex_ct2 (ex_ct2 (ex_ct2 (ex_ct1 kE232_0) (ex_ct1 kE232_3)) (ex_ct2 (ex_ct1 kE232_60) (ex_ct2 (ex_ct1 kE232_61) (ex_ct1 kE232_88)))) (ex_ct2 (ex_ct2 (ex_ct1 kE232_92) (ex_ct2 (ex_ct1 kE232_116) (ex_ct1 kE232_117))) (ex_ct2 (ex_ct1 kE232_144) (ex_ct2 (ex_ct1 kE232_147) (ex_ct1 kE232_153)))))
set_option maxHeartbeats 100000 in
def k233_201 : ex_C := c_aload 5 (c_areturn  5)
set_option maxHeartbeats 100000 in
theorem kE233_201 : ex_CE 5 [] cd_233 k233_201 q233_201 := e_aload_aload 201 0 5 (e_areturn 203 0 )
set_option maxHeartbeats 100000 in
def k233_195 : ex_C := c_iinc 6 1 (c_goto 35)
set_option maxHeartbeats 100000 in
theorem kE233_195 : ex_CE 5 [] cd_233 k233_195 q233_195 := e_iinc 195 1 6 1 (e_goto 198 35 (-163))
set_option maxHeartbeats 100000 in
def k233_162 : ex_C := c_aload 5 (c_iload 10 (c_iload 11 (c_iastore (c_aload 5 (c_iload 11 (c_iload 10 (c_iastore (c_aload 0 (c_aload 1 (c_iload 11 (c_iload 8 (c_iload 9 (c_iload 3 (c_iload 4 (c_invS [] cd_233 187 7 232 (c_istore 10 (c_goto 131)))))))))))))))))
set_option maxHeartbeats 100000 in
theorem kE233_162 : ex_CE 5 [] cd_233 k233_162 q233_162 := e_aload_aload 162 0 5 (e_iload_iload 164 0 10 (e_iload_iload 166 0 11 (e_iastore 168 0 (e_aload_aload 169 0 5 (e_iload_iload 171 0 11 (e_iload_iload 173 0 10 (e_iastore 175 0 (e_aload_aload_n 176 0 0 0 rfl (e_aload_aload_n 177 0 1 1 rfl (e_iload_iload 178 0 11 (e_iload_iload 180 0 8 (e_iload_iload 182 0 9 (e_iload_iload_n 184 0 3 3 rfl (e_iload_iload 185 0 4 (e_invS 187 2039783 370 7 232 rfl rfl rfl (e_istore_istore 190 0 10 (e_goto 192 131 (-61))))))))))))))))))
set_option maxHeartbeats 100000 in
def k233_131 : ex_C := c_iload 10 (c_psh 4294967295 (c_icmp_eq 195 (c_aload 0 (c_aload 1 (c_iload 10 (c_iload 8 (c_iload 9 (c_iload 3 (c_iload 4 (c_invS [] cd_233 148 7 232 (c_istore 11 (c_iload 11 (c_psh 4294967295 (c_icmp_ne 162 (c_goto 195)))))))))))))))
set_option maxHeartbeats 100000 in
theorem kE233_131 : ex_CE 5 [] cd_233 k233_131 q233_131 := e_iload_iload 131 0 10 (e_psh_iconst 133 4294967295 (-1) (e_icmp_eq 134 195 61 (e_aload_aload_n 137 0 0 0 rfl (e_aload_aload_n 138 0 1 1 rfl (e_iload_iload 139 0 10 (e_iload_iload 141 0 8 (e_iload_iload 143 0 9 (e_iload_iload_n 145 0 3 3 rfl (e_iload_iload 146 0 4 (e_invS 148 2039783 370 7 232 rfl rfl rfl (e_istore_istore 151 0 11 (e_iload_iload 153 0 11 (e_psh_iconst 155 4294967295 (-1) (e_icmp_ne 156 162 6 (e_goto 159 195 36)))))))))))))))
set_option maxHeartbeats 100000 in
def k233_127 : ex_C := c_iload 6 (c_istore 10 (k233_131))
set_option maxHeartbeats 100000 in
theorem kE233_127 : ex_CE 5 [] cd_233 k233_127 q233_127 := e_iload_iload 127 0 6 (e_istore_istore 129 0 10 (kE233_131))
set_option maxHeartbeats 100000 in
def k233_95 : ex_C := c_istore 9 (c_aload 1 (c_iload 6 (c_baload (c_if_eq 195 (c_aload 0 (c_aload 1 (c_iload 6 (c_iload 8 (c_ineg   (c_iload 9 (c_ineg   (c_iload 3 (c_iload 4 (c_invS [] cd_233 117 7 232 (c_psh 4294967295 (c_icmp_eq 127 (c_goto 195)))))))))))))))))
set_option maxHeartbeats 100000 in
theorem kE233_95 : ex_CE 5 [] cd_233 k233_95 q233_95 := e_istore_istore 95 0 9 (e_aload_aload_n 97 0 1 1 rfl (e_iload_iload 98 0 6 (e_baload 100 0 (e_if_eq 101 195 94 (e_aload_aload_n 104 0 0 0 rfl (e_aload_aload_n 105 0 1 1 rfl (e_iload_iload 106 0 6 (e_iload_iload 108 0 8 (e_ineg 110 0  (e_iload_iload 111 0 9 (e_ineg 113 0  (e_iload_iload_n 114 0 3 3 rfl (e_iload_iload 115 0 4 (e_invS 117 2039783 370 7 232 rfl rfl rfl (e_psh_iconst 120 4294967295 (-1) (e_icmp_eq 121 127 6 (e_goto 124 195 71)))))))))))))))))
set_option maxHeartbeats 100000 in
def k233_94 : ex_C := c_iload 2 (k233_95)
set_option maxHeartbeats 100000 in
theorem kE233_94 : ex_CE 5 [] cd_233 k233_94 q233_94 := e_iload_iload_n 94 0 2 2 rfl (kE233_95)
set_option maxHeartbeats 100000 in
def k233_83 : ex_C := c_istore 8 (c_iload 7 (c_if_eq 94 (c_psh 0 (c_goto 95))))
set_option maxHeartbeats 100000 in
theorem kE233_83 : ex_CE 5 [] cd_233 k233_83 q233_83 := e_istore_istore 83 0 8 (e_iload_iload 85 0 7 (e_if_eq 87 94 7 (e_psh_iconst 90 0 0 (e_goto 91 95 4))))
set_option maxHeartbeats 100000 in
def k233_82 : ex_C := c_psh 0 (k233_83)
set_option maxHeartbeats 100000 in
theorem kE233_82 : ex_CE 5 [] cd_233 k233_82 q233_82 := e_psh_iconst 82 0 0 (kE233_83)
set_option maxHeartbeats 100000 in
def k233_71 : ex_C := c_istore 7 (c_iload 7 (c_if_eq 82 (c_iload 2 (c_goto 83))))
set_option maxHeartbeats 100000 in
theorem kE233_71 : ex_CE 5 [] cd_233 k233_71 q233_71 := e_istore_istore 71 0 7 (e_iload_iload 73 0 7 (e_if_eq 75 82 7 (e_iload_iload_n 78 0 2 2 rfl (e_goto 79 83 4))))
set_option maxHeartbeats 100000 in
def k233_70 : ex_C := c_psh 0 (k233_71)
set_option maxHeartbeats 100000 in
theorem kE233_70 : ex_CE 5 [] cd_233 k233_70 q233_70 := e_psh_iconst 70 0 0 (kE233_71)
set_option maxHeartbeats 100000 in
def k233_61 : ex_C := c_iload 4 (c_icmp_eq 70 (c_psh 1 (c_goto 71)))
set_option maxHeartbeats 100000 in
theorem kE233_61 : ex_CE 5 [] cd_233 k233_61 q233_61 := e_iload_iload 61 0 4 (e_icmp_eq 63 70 7 (e_psh_iconst 66 1 1 (e_goto 67 71 4)))
set_option maxHeartbeats 100000 in
def k233_60 : ex_C := c_psh 0 (k233_61)
set_option maxHeartbeats 100000 in
theorem kE233_60 : ex_CE 5 [] cd_233 k233_60 q233_60 := e_psh_iconst 60 0 0 (kE233_61)
set_option maxHeartbeats 100000 in
def k233_35 : ex_C := c_iload 6 (c_aload 0 (c_gf 14 1 (c_icmp_ge 201 (c_aload 0 (c_gf 14 4 (c_iload 6 (c_iaload (c_psh 2 (c_irem   (c_if_ne 60 (c_psh 1 (c_goto 61))))))))))))
set_option maxHeartbeats 100000 in
theorem kE233_35 : ex_CE 5 [] cd_233 k233_35 q233_35 := e_iload_iload 35 0 6 (e_aload_aload_n 37 0 0 0 rfl (e_gf 38 66433 297 14 1 rfl rfl (e_icmp_ge 41 201 160 (e_aload_aload_n 44 0 0 0 rfl (e_gf 45 86916 309 14 4 rfl rfl (e_iload_iload 48 0 6 (e_iaload 50 0 (e_psh_iconst 51 2 2 (e_irem 52 0  (e_if_ne 53 60 7 (e_psh_iconst 56 1 1 (e_goto 57 61 4))))))))))))
set_option maxHeartbeats 100000 in
def k233_32 : ex_C := c_psh 0 (c_istore 6 (k233_35))
set_option maxHeartbeats 100000 in
theorem kE233_32 : ex_CE 5 [] cd_233 k233_32 q233_32 := e_psh_iconst 32 0 0 (e_istore_istore 33 0 6 (kE233_35))
set_option maxHeartbeats 100000 in
def k233_11 : ex_C := c_iload 6 (c_aload 0 (c_gf 14 1 (c_icmp_ge 32 (c_aload 5 (c_iload 6 (c_psh 4294967295 (c_iastore (c_iinc 6 1 (c_goto 11)))))))))
set_option maxHeartbeats 100000 in
theorem kE233_11 : ex_CE 5 [] cd_233 k233_11 q233_11 := e_iload_iload 11 0 6 (e_aload_aload_n 13 0 0 0 rfl (e_gf 14 66433 297 14 1 rfl rfl (e_icmp_ge 17 32 15 (e_aload_aload 20 0 5 (e_iload_iload 22 0 6 (e_psh_iconst 24 4294967295 (-1) (e_iastore 25 0 (e_iinc 26 1 6 1 (e_goto 29 11 (-18))))))))))
set_option maxHeartbeats 100000 in
def k233_0 : ex_C := c_aload 0 (c_gf 14 1 (c_newarr 64 0 (c_astore 5 (c_psh 0 (c_istore 6 (k233_11))))))
set_option maxHeartbeats 100000 in
theorem kE233_0 : ex_CE 5 [] cd_233 k233_0 q233_0 := e_aload_aload_n 0 0 0 0 rfl (e_gf 1 66433 297 14 1 rfl rfl (e_newarr 4 64 0 rfl (e_astore_astore 6 0 5 (e_psh_iconst 8 0 0 (e_istore_istore 9 0 6 (kE233_11))))))
def kt_233 : Nat → Option ex_C := fun pc => @Bool.rec (fun _ => Nat → Option ex_C) (fun pc => @Bool.rec (fun _ => Nat → Option ex_C) (fun pc => @Bool.rec (fun _ => Nat → Option ex_C) (fun pc => @Bool.rec (fun _ => Nat → Option ex_C) (fun pc => @Bool.rec (fun _ => Nat → Option ex_C) (fun pc => @Bool.rec (fun _ => Option ex_C) none (some k233_201) (Nat.beq pc 201)) (fun pc => @Bool.rec (fun _ => Option ex_C) none (some k233_195) (Nat.beq pc 195)) (Nat.ble pc 195) pc) (fun pc => @Bool.rec (fun _ => Option ex_C) none (some k233_162) (Nat.beq pc 162)) (Nat.ble pc 162) pc) (fun pc => @Bool.rec (fun _ => Nat → Option ex_C) (fun pc => @Bool.rec (fun _ => Option ex_C) none (some k233_131) (Nat.beq pc 131)) (fun pc => @Bool.rec (fun _ => Option ex_C) none (some k233_127) (Nat.beq pc 127)) (Nat.ble pc 127) pc) (Nat.ble pc 131) pc) (fun pc => @Bool.rec (fun _ => Nat → Option ex_C) (fun pc => @Bool.rec (fun _ => Nat → Option ex_C) (fun pc => @Bool.rec (fun _ => Option ex_C) none (some k233_95) (Nat.beq pc 95)) (fun pc => @Bool.rec (fun _ => Option ex_C) none (some k233_94) (Nat.beq pc 94)) (Nat.ble pc 94) pc) (fun pc => @Bool.rec (fun _ => Nat → Option ex_C) (fun pc => @Bool.rec (fun _ => Option ex_C) none (some k233_83) (Nat.beq pc 83)) (fun pc => @Bool.rec (fun _ => Option ex_C) none (some k233_82) (Nat.beq pc 82)) (Nat.ble pc 82) pc) (Nat.ble pc 83) pc) (Nat.ble pc 95) pc) (fun pc => @Bool.rec (fun _ => Nat → Option ex_C) (fun pc => @Bool.rec (fun _ => Nat → Option ex_C) (fun pc => @Bool.rec (fun _ => Nat → Option ex_C) (fun pc => @Bool.rec (fun _ => Option ex_C) none (some k233_71) (Nat.beq pc 71)) (fun pc => @Bool.rec (fun _ => Option ex_C) none (some k233_70) (Nat.beq pc 70)) (Nat.ble pc 70) pc) (fun pc => @Bool.rec (fun _ => Nat → Option ex_C) (fun pc => @Bool.rec (fun _ => Option ex_C) none (some k233_61) (Nat.beq pc 61)) (fun pc => @Bool.rec (fun _ => Option ex_C) none (some k233_60) (Nat.beq pc 60)) (Nat.ble pc 60) pc) (Nat.ble pc 61) pc) (fun pc => @Bool.rec (fun _ => Nat → Option ex_C) (fun pc => @Bool.rec (fun _ => Nat → Option ex_C) (fun pc => @Bool.rec (fun _ => Option ex_C) none (some k233_35) (Nat.beq pc 35)) (fun pc => @Bool.rec (fun _ => Option ex_C) none (some k233_32) (Nat.beq pc 32)) (Nat.ble pc 32) pc) (fun pc => @Bool.rec (fun _ => Nat → Option ex_C) (fun pc => @Bool.rec (fun _ => Option ex_C) none (some k233_11) (Nat.beq pc 11)) (fun pc => @Bool.rec (fun _ => Option ex_C) none (some k233_0) (Nat.beq pc 0)) (Nat.ble pc 0) pc) (Nat.ble pc 11) pc) (Nat.ble pc 35) pc) (Nat.ble pc 71) pc
theorem ktE_233 : ex_CTT 5 [] cd_233 kt_233 cd_233 := (ex_ct2 (ex_ct2 (ex_ct2 (ex_ct2 (ex_ct1 kE233_0) (ex_ct1 kE233_11)) (ex_ct2 (ex_ct1 kE233_32) (ex_ct1 kE233_35))) (ex_ct2 (ex_ct2 (ex_ct1 kE233_60) (ex_ct1 kE233_61)) (ex_ct2 (ex_ct1 kE233_70) (ex_ct1 kE233_71)))) (ex_ct2 (ex_ct2 (ex_ct2 (ex_ct1 kE233_82) (ex_ct1 kE233_83)) (ex_ct2 (ex_ct1 kE233_94) (ex_ct1 kE233_95))) (ex_ct2 (ex_ct2 (ex_ct1 kE233_127) (ex_ct1 kE233_131)) (ex_ct2 (ex_ct1 kE233_162) (ex_ct2 (ex_ct1 kE233_195) (ex_ct1 kE233_201))))))
set_option maxHeartbeats 100000 in
def k234_0 : ex_C := c_aload 0 (c_aload 1 (c_iload 2 (c_iload 3 (c_psh 0 (c_invS [] cd_234 5 5 233 (c_areturn  5))))))
set_option maxHeartbeats 100000 in
theorem kE234_0 : ex_CE 5 [] cd_234 k234_0 q234_0 := e_aload_aload_n 0 0 0 0 rfl (e_aload_aload_n 1 0 1 1 rfl (e_iload_iload_n 2 0 2 2 rfl (e_iload_iload_n 3 0 3 3 rfl (e_psh_iconst 4 0 0 (e_invS 5 2047973 373 5 233 rfl rfl rfl (e_areturn 8 0 ))))))
def kt_234 : Nat → Option ex_C := fun pc => @Bool.rec (fun _ => Option ex_C) none (some k234_0) (Nat.beq pc 0)
theorem ktE_234 : ex_CTT 5 [] cd_234 kt_234 cd_234 := (ex_ct1 kE234_0)
set_option maxHeartbeats 100000 in
def k235_0 : ex_C := c_aload 0 (c_aload 0 (c_invS [] cd_235 2 1 226 (c_psh 2 (c_psh 0 (c_psh 1 (c_invS [] cd_235 8 5 233 (c_areturn  5)))))))
set_option maxHeartbeats 100000 in
theorem kE235_0 : ex_CE 5 [] cd_235 k235_0 q235_0 := e_aload_aload_n 0 0 0 0 rfl (e_aload_aload_n 1 0 0 0 rfl (e_invS 2 1990625 335 1 226 rfl rfl rfl (e_psh_iconst 5 2 2 (e_psh_iconst 6 0 0 (e_psh_iconst 7 1 1 (e_invS 8 2047973 373 5 233 rfl rfl rfl (e_areturn 11 0 )))))))
def kt_235 : Nat → Option ex_C := fun pc => @Bool.rec (fun _ => Option ex_C) none (some k235_0) (Nat.beq pc 0)
theorem ktE_235 : ex_CTT 5 [] cd_235 kt_235 cd_235 := (ex_ct1 kE235_0)
set_option maxHeartbeats 100000 in
def k236_78 : ex_C := c_ireturn  2
set_option maxHeartbeats 100000 in
theorem kE236_78 : ex_CE 2 [] cd_236 k236_78 q236_78 := e_ireturn 78 0 
set_option maxHeartbeats 100000 in
def k236_76 : ex_C := c_psh 108 (k236_78)
set_option maxHeartbeats 100000 in
theorem kE236_76 : ex_CE 2 [] cd_236 k236_76 q236_76 := e_psh_bipush 76 108 108 (kE236_78)
set_option maxHeartbeats 100000 in
def k236_18 : ex_C := c_aload 0 (c_gf 14 4 (c_iload 1 (c_iaload (c_psh 1 (c_iadd (c_psh 4 (c_irem   (c_istore 3 (c_aload 0 (c_gf 14 2 (c_iload 2 (c_iaload (c_aload 0 (c_gf 14 2 (c_iload 1 (c_iaload (c_isub (c_psh 17179869195 (c_iload 3 (c_iaload (c_imul (c_aload 0 (c_gf 14 3 (c_iload 2 (c_iaload (c_aload 0 (c_gf 14 3 (c_iload 1 (c_iaload (c_isub (c_psh 17179869196 (c_iload 3 (c_iaload (c_imul (c_iadd (c_if_le 76 (c_psh 114 (c_goto 78))))))))))))))))))))))))))))))))))))))
set_option maxHeartbeats 100000 in
theorem kE236_18 : ex_CE 2 [] cd_236 k236_18 q236_18 := e_aload_aload_n 18 0 0 0 rfl (e_gf 19 86916 309 14 4 rfl rfl (e_iload_iload_n 22 0 1 1 rfl (e_iaload 23 0 (e_psh_iconst 24 1 1 (e_iadd 25 0 (e_psh_iconst 26 4 4 (e_irem 27 0  (e_istore_istore_n 28 0 3 3 rfl (e_aload_aload_n 29 0 0 0 rfl (e_gf 30 86914 300 14 2 rfl rfl (e_iload_iload_n 33 0 2 2 rfl (e_iaload 34 0 (e_aload_aload_n 35 0 0 0 rfl (e_gf 36 86914 300 14 2 rfl rfl (e_iload_iload_n 39 0 1 1 rfl (e_iaload 40 0 (e_isub 41 0 (e_psh_getstatic 42 17179869195 343 (e_iload_iload_n 45 0 3 3 rfl (e_iaload 46 0 (e_imul 47 0 (e_aload_aload_n 48 0 0 0 rfl (e_gf 49 86915 303 14 3 rfl rfl (e_iload_iload_n 52 0 2 2 rfl (e_iaload 53 0 (e_aload_aload_n 54 0 0 0 rfl (e_gf 55 86915 303 14 3 rfl rfl (e_iload_iload_n 58 0 1 1 rfl (e_iaload 59 0 (e_isub 60 0 (e_psh_getstatic 61 17179869196 346 (e_iload_iload_n 64 0 3 3 rfl (e_iaload 65 0 (e_imul 66 0 (e_iadd 67 0 (e_if_le 68 76 8 (e_psh_bipush 71 114 114 (e_goto 73 78 5))))))))))))))))))))))))))))))))))))))
set_option maxHeartbeats 100000 in
def k236_0 : ex_C := c_aload 0 (c_gf 14 4 (c_iload 1 (c_iaload (c_aload 0 (c_gf 14 4 (c_iload 2 (c_iaload (c_icmp_ne 18 (c_psh 99 (c_ireturn  2))))))))))
set_option maxHeartbeats 100000 in
theorem kE236_0 : ex_CE 2 [] cd_236 k236_0 q236_0 := e_aload_aload_n 0 0 0 0 rfl (e_gf 1 86916 309 14 4 rfl rfl (e_iload_iload_n 4 0 1 1 rfl (e_iaload 5 0 (e_aload_aload_n 6 0 0 0 rfl (e_gf 7 86916 309 14 4 rfl rfl (e_iload_iload_n 10 0 2 2 rfl (e_iaload 11 0 (e_icmp_ne 12 18 6 (e_psh_bipush 15 99 99 (e_ireturn 17 0 ))))))))))
def kt_236 : Nat → Option ex_C := fun pc => @Bool.rec (fun _ => Nat → Option ex_C) (fun pc => @Bool.rec (fun _ => Nat → Option ex_C) (fun pc => @Bool.rec (fun _ => Option ex_C) none (some k236_78) (Nat.beq pc 78)) (fun pc => @Bool.rec (fun _ => Option ex_C) none (some k236_76) (Nat.beq pc 76)) (Nat.ble pc 76) pc) (fun pc => @Bool.rec (fun _ => Nat → Option ex_C) (fun pc => @Bool.rec (fun _ => Option ex_C) none (some k236_18) (Nat.beq pc 18)) (fun pc => @Bool.rec (fun _ => Option ex_C) none (some k236_0) (Nat.beq pc 0)) (Nat.ble pc 0) pc) (Nat.ble pc 18) pc
theorem ktE_236 : ex_CTT 2 [] cd_236 kt_236 cd_236 := (ex_ct2 (ex_ct2 (ex_ct1 kE236_0) (ex_ct1 kE236_18)) (ex_ct2 (ex_ct1 kE236_76) (ex_ct1 kE236_78)))
set_option maxHeartbeats 100000 in
def k237_208 : ex_C := c_aload 3 (c_areturn  5)
set_option maxHeartbeats 100000 in
theorem kE237_208 : ex_CE 5 [] cd_237 k237_208 q237_208 := e_aload_aload_n 208 0 3 3 rfl (e_areturn 209 0 )
set_option maxHeartbeats 100000 in
def k237_202 : ex_C := c_iinc 4 1 (c_goto 17)
set_option maxHeartbeats 100000 in
theorem kE237_202 : ex_CE 5 [] cd_237 k237_202 q237_202 := e_iinc 202 1 4 1 (e_goto 205 17 (-188))
set_option maxHeartbeats 100000 in
def k237_196 : ex_C := c_iinc 5 1 (c_goto 28)
set_option maxHeartbeats 100000 in
theorem kE237_196 : ex_CE 5 [] cd_237 k237_196 q237_196 := e_iinc 196 1 5 1 (e_goto 199 28 (-171))
set_option maxHeartbeats 100000 in
def k237_159 : ex_C := c_iload 8 (c_psh 4 (c_icmp_ge 196 (c_iload 7 (c_if_eq 196 (c_aload 3 (c_aload 6 (c_iload 8 (c_iaload (c_psh 2 (c_newarr 64 0 (c_dup   (c_psh 0 (c_iload 4 (c_iastore (c_dup   (c_psh 1 (c_iload 5 (c_iastore (c_aastore   (c_iinc 8 1 (c_goto 159)))))))))))))))))))))
set_option maxHeartbeats 100000 in
theorem kE237_159 : ex_CE 5 [] cd_237 k237_159 q237_159 := e_iload_iload 159 0 8 (e_psh_iconst 161 4 4 (e_icmp_ge 162 196 34 (e_iload_iload 165 0 7 (e_if_eq 167 196 29 (e_aload_aload_n 170 0 3 3 rfl (e_aload_aload 171 0 6 (e_iload_iload 173 0 8 (e_iaload 175 0 (e_psh_iconst 176 2 2 (e_newarr 177 64 0 rfl (e_dup 179 0  (e_psh_iconst 180 0 0 (e_iload_iload 181 0 4 (e_iastore 183 0 (e_dup 184 0  (e_psh_iconst 185 1 1 (e_iload_iload 186 0 5 (e_iastore 188 0 (e_aastore 189 0  (e_iinc 190 1 8 1 (e_goto 193 159 (-34))))))))))))))))))))))
set_option maxHeartbeats 100000 in
def k237_156 : ex_C := c_psh 0 (c_istore 8 (k237_159))
set_option maxHeartbeats 100000 in
theorem kE237_156 : ex_CE 5 [] cd_237 k237_156 q237_156 := e_psh_iconst 156 0 0 (e_istore_istore 157 0 8 (kE237_159))
set_option maxHeartbeats 100000 in
def k237_124 : ex_C := c_iload 8 (c_psh 4 (c_icmp_ge 156 (c_iload 7 (c_if_eq 156 (c_aload 0 (c_aload 6 (c_psh 0 (c_iaload (c_aload 6 (c_iload 8 (c_iaload (c_invS [] cd_237 145 3 230 (c_istore 7 (c_iinc 8 1 (c_goto 124)))))))))))))))
set_option maxHeartbeats 100000 in
theorem kE237_124 : ex_CE 5 [] cd_237 k237_124 q237_124 := e_iload_iload 124 0 8 (e_psh_iconst 126 4 4 (e_icmp_ge 127 156 29 (e_iload_iload 130 0 7 (e_if_eq 132 156 24 (e_aload_aload_n 135 0 0 0 rfl (e_aload_aload 136 0 6 (e_psh_iconst 138 0 0 (e_iaload 139 0 (e_aload_aload 140 0 6 (e_iload_iload 142 0 8 (e_iaload 144 0 (e_invS 145 2023395 366 3 230 rfl rfl rfl (e_istore_istore 148 0 7 (e_iinc 150 1 8 1 (e_goto 153 124 (-29))))))))))))))))
set_option maxHeartbeats 100000 in
def k237_121 : ex_C := c_psh 0 (c_istore 8 (k237_124))
set_option maxHeartbeats 100000 in
theorem kE237_121 : ex_CE 5 [] cd_237 k237_121 q237_121 := e_psh_iconst 121 0 0 (e_istore_istore 122 0 8 (kE237_124))
set_option maxHeartbeats 100000 in
def k237_106 : ex_C := c_istore 7 (c_aload 6 (c_iload 8 (c_iload 9 (c_iastore (c_iinc 8 1 (c_goto 46))))))
set_option maxHeartbeats 100000 in
theorem kE237_106 : ex_CE 5 [] cd_237 k237_106 q237_106 := e_istore_istore 106 0 7 (e_aload_aload 108 0 6 (e_iload_iload 110 0 8 (e_iload_iload 112 0 9 (e_iastore 114 0 (e_iinc 115 1 8 1 (e_goto 118 46 (-72)))))))
set_option maxHeartbeats 100000 in
def k237_105 : ex_C := c_psh 0 (k237_106)
set_option maxHeartbeats 100000 in
theorem kE237_105 : ex_CE 5 [] cd_237 k237_105 q237_105 := e_psh_iconst 105 0 0 (kE237_106)
set_option maxHeartbeats 100000 in
def k237_46 : ex_C := c_iload 8 (c_psh 4 (c_icmp_ge 121 (c_iload 7 (c_if_eq 121 (c_aload 0 (c_iload 4 (c_iload 2 (c_iload 8 (c_psh 2 (c_irem   (c_imul (c_iadd (c_iload 5 (c_iload 2 (c_iload 8 (c_psh 2 (c_idiv   (c_imul (c_iadd (c_invV [] cd_237 76 3 175 14 (c_istore 9 (c_iload 9 (c_psh 4294967295 (c_icmp_eq 105 (c_aload 1 (c_iload 9 (c_baload (c_if_eq 105 (c_aload 3 (c_iload 9 (c_aaload   (c_ifnonnull 7 105 (c_psh 1 (c_goto 106))))))))))))))))))))))))))))))))))
set_option maxHeartbeats 100000 in
theorem kE237_46 : ex_CE 5 [] cd_237 k237_46 q237_46 := e_iload_iload 46 0 8 (e_psh_iconst 48 4 4 (e_icmp_ge 49 121 72 (e_iload_iload 52 0 7 (e_if_eq 54 121 67 (e_aload_aload_n 57 0 0 0 rfl (e_iload_iload 58 0 4 (e_iload_iload_n 60 0 2 2 rfl (e_iload_iload 61 0 8 (e_psh_iconst 63 2 2 (e_irem 64 0  (e_imul 65 0 (e_iadd 66 0 (e_iload_iload 67 0 5 (e_iload_iload_n 69 0 2 2 rfl (e_iload_iload 70 0 8 (e_psh_iconst 72 2 2 (e_idiv 73 0  (e_imul 74 0 (e_iadd 75 0 (e_invV_invokevirtual 76 1565123 377 3 175 14 rfl rfl rfl rfl rfl rfl (e_istore_istore 79 0 9 (e_iload_iload 81 0 9 (e_psh_iconst 83 4294967295 (-1) (e_icmp_eq 84 105 21 (e_aload_aload_n 87 0 1 1 rfl (e_iload_iload 88 0 9 (e_baload 90 0 (e_if_eq 91 105 14 (e_aload_aload_n 94 0 3 3 rfl (e_iload_iload 95 0 9 (e_aaload 97 0  (e_ifnonnull 98 105 7 (e_psh_iconst 101 1 1 (e_goto 102 106 4))))))))))))))))))))))))))))))))))
set_option maxHeartbeats 100000 in
def k237_28 : ex_C := c_iload 5 (c_psh 60 (c_icmp_gt 202 (c_psh 4 (c_newarr 64 0 (c_astore 6 (c_psh 1 (c_istore 7 (c_psh 0 (c_istore 8 (k237_46))))))))))
set_option maxHeartbeats 100000 in
theorem kE237_28 : ex_CE 5 [] cd_237 k237_28 q237_28 := e_iload_iload 28 0 5 (e_psh_bipush 30 60 60 (e_icmp_gt 32 202 170 (e_psh_iconst 35 4 4 (e_newarr 36 64 0 rfl (e_astore_astore 38 0 6 (e_psh_iconst 40 1 1 (e_istore_istore 41 0 7 (e_psh_iconst 43 0 0 (e_istore_istore 44 0 8 (kE237_46))))))))))
set_option maxHeartbeats 100000 in
def k237_17 : ex_C := c_iload 4 (c_psh 60 (c_icmp_gt 208 (c_psh 4294967236 (c_istore 5 (k237_28)))))
set_option maxHeartbeats 100000 in
theorem kE237_17 : ex_CE 5 [] cd_237 k237_17 q237_17 := e_iload_iload 17 0 4 (e_psh_bipush 19 60 60 (e_icmp_gt 21 208 187 (e_psh_bipush 24 4294967236 (-60) (e_istore_istore 26 0 5 (kE237_28)))))
set_option maxHeartbeats 100000 in
def k237_0 : ex_C := c_aload 0 (c_gf 14 11 (c_istore 2 (c_aload 0 (c_gf 14 1 (c_anewarray 114 71 (c_astore 3 (c_psh 4294967236 (c_istore 4 (k237_17)))))))))
set_option maxHeartbeats 100000 in
theorem kE237_0 : ex_CE 5 [] cd_237 k237_0 q237_0 := e_aload_aload_n 0 0 0 0 rfl (e_gf 1 907 328 14 11 rfl rfl (e_istore_istore_n 4 0 2 2 rfl (e_aload_aload_n 5 0 0 0 rfl (e_gf 6 66433 297 14 1 rfl rfl (e_anewarray 9 71 114 (e_astore_astore_n 12 0 3 3 rfl (e_psh_bipush 13 4294967236 (-60) (e_istore_istore 15 0 4 (kE237_17)))))))))
def kt_237 : Nat → Option ex_C := fun pc => @Bool.rec (fun _ => Nat → Option ex_C) (fun pc => @Bool.rec (fun _ => Nat → Option ex_C) (fun pc => @Bool.rec (fun _ => Nat → Option ex_C) (fun pc => @Bool.rec (fun _ => Nat → Option ex_C) (fun pc => @Bool.rec (fun _ => Option ex_C) none (some k237_208) (Nat.beq pc 208)) (fun pc => @Bool.rec (fun _ => Option ex_C) none (some k237_202) (Nat.beq pc 202)) (Nat.ble pc 202) pc) (fun pc => @Bool.rec (fun _ => Nat → Option ex_C) (fun pc => @Bool.rec (fun _ => Option ex_C) none (some k237_196) (Nat.beq pc 196)) (fun pc => @Bool.rec (fun _ => Option ex_C) none (some k237_159) (Nat.beq pc 159)) (Nat.ble pc 159) pc) (Nat.ble pc 196) pc) (fun pc => @Bool.rec (fun _ => Nat → Option ex_C) (fun pc => @Bool.rec (fun _ => Nat → Option ex_C) (fun pc => @Bool.rec (fun _ => Option ex_C) none (some k237_156) (Nat.beq pc 156)) (fun pc => @Bool.rec (fun _ => Option ex_C) none (some k237_124) (Nat.beq pc 124)) (Nat.ble pc 124) pc) (fun pc => @Bool.rec (fun _ => Option ex_C) none (some k237_121) (Nat.beq pc 121)) (Nat.ble pc 121) pc) (Nat.ble pc 156) pc) (fun pc => @Bool.rec (fun _ => Nat → Option ex_C) (fun pc => @Bool.rec (fun _ => Nat → Option ex_C) (fun pc => @Bool.rec (fun _ => Nat → Option ex_C) (fun pc => @Bool.rec (fun _ => Option ex_C) none (some k237_106) (Nat.beq pc 106)) (fun pc => @Bool.rec (fun _ => Option ex_C) none (some k237_105) (Nat.beq pc 105)) (Nat.ble pc 105) pc) (fun pc => @Bool.rec (fun _ => Option ex_C) none (some k237_46) (Nat.beq pc 46)) (Nat.ble pc 46) pc) (fun pc => @Bool.rec (fun _ => Nat → Option ex_C) (fun pc => @Bool.rec (fun _ => Nat → Option ex_C) (fun pc => @Bool.rec (fun _ => Option ex_C) none (some k237_28) (Nat.beq pc 28)) (fun pc => @Bool.rec (fun _ => Option ex_C) none (some k237_17) (Nat.beq pc 17)) (Nat.ble pc 17) pc) (fun pc => @Bool.rec (fun _ => Option ex_C) none (some k237_0) (Nat.beq pc 0)) (Nat.ble pc 0) pc) (Nat.ble pc 28) pc) (Nat.ble pc 106) pc
theorem ktE_237 : ex_CTT 5 [] cd_237 kt_237 cd_237 := (ex_ct2 (ex_ct2 (ex_ct2 (ex_ct1 kE237_0) (ex_ct2 (ex_ct1 kE237_17) (ex_ct1 kE237_28))) (ex_ct2 (ex_ct1 kE237_46) (ex_ct2 (ex_ct1 kE237_105) (ex_ct1 kE237_106)))) (ex_ct2 (ex_ct2 (ex_ct1 kE237_121) (ex_ct2 (ex_ct1 kE237_124) (ex_ct1 kE237_156))) (ex_ct2 (ex_ct2 (ex_ct1 kE237_159) (ex_ct1 kE237_196)) (ex_ct2 (ex_ct1 kE237_202) (ex_ct1 kE237_208)))))
set_option maxHeartbeats 100000 in
def k238_0 : ex_C := c_aload 1 (c_gf 14 4 (c_iload 2 (c_aload 1 (c_gf 14 4 (c_iload 2 (c_iaload (c_iload 3 (c_iadd (c_psh 4 (c_iadd (c_psh 4 (c_irem   (c_iastore (c_aload 0 (c_aload 1 (c_iload 2 (c_iload 3 (c_invV [] cd_238 22 4 239 12 (c_return_  15)))))))))))))))))))
set_option maxHeartbeats 100000 in
theorem kE238_0 : ex_CE 15 [] cd_238 k238_0 q238_0 := e_aload_aload_n 0 0 1 1 rfl (e_gf 1 86916 309 14 4 rfl rfl (e_iload_iload_n 4 0 2 2 rfl (e_aload_aload_n 5 0 1 1 rfl (e_gf 6 86916 309 14 4 rfl rfl (e_iload_iload_n 9 0 2 2 rfl (e_iaload 10 0 (e_iload_iload_n 11 0 3 3 rfl (e_iadd 12 0 (e_psh_iconst 13 4 4 (e_iadd 14 0 (e_psh_iconst 15 4 4 (e_irem 16 0  (e_iastore 17 0 (e_aload_aload_n 18 0 0 0 rfl (e_aload_aload_n 19 0 1 1 rfl (e_iload_iload_n 20 0 2 2 rfl (e_iload_iload_n 21 0 3 3 rfl (e_invV_invokevirtual 22 2089348 380 4 239 12 rfl rfl rfl rfl rfl rfl (e_return_ 25 0 )))))))))))))))))))
def kt_238 : Nat → Option ex_C := fun pc => @Bool.rec (fun _ => Option ex_C) none (some k238_0) (Nat.beq pc 0)
theorem ktE_238 : ex_CTT 15 [] cd_238 kt_238 cd_238 := (ex_ct1 kE238_0)
set_option maxHeartbeats 100000 in
def k239_73 : ex_C := c_return_  15
set_option maxHeartbeats 100000 in
theorem kE239_73 : ex_CE 15 [] cd_239 k239_73 q239_73 := e_return_ 73 0 
set_option maxHeartbeats 100000 in
def k239_48 : ex_C := c_aload 1 (c_gf 14 7 (c_iload 2 (c_iaload (c_psh 4294967295 (c_icmp_eq 73 (c_aload 0 (c_aload 1 (c_gf 14 0 (c_aload 1 (c_gf 14 7 (c_iload 2 (c_iaload (c_iload 3 (c_invV [] cd_239 70 4 239 12 (k239_73)))))))))))))))
set_option maxHeartbeats 100000 in
theorem kE239_48 : ex_CE 15 [] cd_239 k239_48 q239_48 := e_aload_aload_n 48 0 1 1 rfl (e_gf 49 86919 267 14 7 rfl rfl (e_iload_iload_n 52 0 2 2 rfl (e_iaload 53 0 (e_psh_iconst 54 4294967295 (-1) (e_icmp_eq 55 73 18 (e_aload_aload_n 58 0 0 0 rfl (e_aload_aload_n 59 0 1 1 rfl (e_gf 60 86912 272 14 0 rfl rfl (e_aload_aload_n 63 0 1 1 rfl (e_gf 64 86919 267 14 7 rfl rfl (e_iload_iload_n 67 0 2 2 rfl (e_iaload 68 0 (e_iload_iload_n 69 0 3 3 rfl (e_invV_invokevirtual 70 2089348 380 4 239 12 rfl rfl rfl rfl rfl rfl (kE239_73)))))))))))))))
set_option maxHeartbeats 100000 in
def k239_23 : ex_C := c_aload 1 (c_gf 14 6 (c_iload 2 (c_iaload (c_psh 4294967295 (c_icmp_eq 48 (c_aload 0 (c_aload 1 (c_gf 14 0 (c_aload 1 (c_gf 14 6 (c_iload 2 (c_iaload (c_iload 3 (c_invV [] cd_239 45 4 239 12 (k239_48)))))))))))))))
set_option maxHeartbeats 100000 in
theorem kE239_23 : ex_CE 15 [] cd_239 k239_23 q239_23 := e_aload_aload_n 23 0 1 1 rfl (e_gf 24 86918 276 14 6 rfl rfl (e_iload_iload_n 27 0 2 2 rfl (e_iaload 28 0 (e_psh_iconst 29 4294967295 (-1) (e_icmp_eq 30 48 18 (e_aload_aload_n 33 0 0 0 rfl (e_aload_aload_n 34 0 1 1 rfl (e_gf 35 86912 272 14 0 rfl rfl (e_aload_aload_n 38 0 1 1 rfl (e_gf 39 86918 276 14 6 rfl rfl (e_iload_iload_n 42 0 2 2 rfl (e_iaload 43 0 (e_iload_iload_n 44 0 3 3 rfl (e_invV_invokevirtual 45 2089348 380 4 239 12 rfl rfl rfl rfl rfl rfl (kE239_48)))))))))))))))
set_option maxHeartbeats 100000 in
def k239_0 : ex_C := c_aload 1 (c_gf 14 0 (c_ifnonnull 19 23 (c_aload 0 (c_gf 12 33 (c_aload 1 (c_gf 14 5 (c_iload 2 (c_iaload (c_dup2   (c_iaload (c_iload 3 (c_iadd (c_iastore (c_return_  15))))))))))))))
set_option maxHeartbeats 100000 in
theorem kE239_0 : ex_CE 15 [] cd_239 k239_0 q239_0 := e_aload_aload_n 0 0 1 1 rfl (e_gf 1 86912 272 14 0 rfl rfl (e_ifnonnull 4 23 19 (e_aload_aload_n 7 0 0 0 rfl (e_gf 8 21281 71 12 33 rfl rfl (e_aload_aload_n 11 0 1 1 rfl (e_gf 12 86917 290 14 5 rfl rfl (e_iload_iload_n 15 0 2 2 rfl (e_iaload 16 0 (e_dup2 17 0  (e_iaload 18 0 (e_iload_iload_n 19 0 3 3 rfl (e_iadd 20 0 (e_iastore 21 0 (e_return_ 22 0 ))))))))))))))
def kt_239 : Nat → Option ex_C := fun pc => @Bool.rec (fun _ => Nat → Option ex_C) (fun pc => @Bool.rec (fun _ => Nat → Option ex_C) (fun pc => @Bool.rec (fun _ => Option ex_C) none (some k239_73) (Nat.beq pc 73)) (fun pc => @Bool.rec (fun _ => Option ex_C) none (some k239_48) (Nat.beq pc 48)) (Nat.ble pc 48) pc) (fun pc => @Bool.rec (fun _ => Nat → Option ex_C) (fun pc => @Bool.rec (fun _ => Option ex_C) none (some k239_23) (Nat.beq pc 23)) (fun pc => @Bool.rec (fun _ => Option ex_C) none (some k239_0) (Nat.beq pc 0)) (Nat.ble pc 0) pc) (Nat.ble pc 23) pc
theorem ktE_239 : ex_CTT 15 [] cd_239 kt_239 cd_239 := (ex_ct2 (ex_ct2 (ex_ct1 kE239_0) (ex_ct1 kE239_23)) (ex_ct2 (ex_ct1 kE239_48) (ex_ct1 kE239_73)))
set_option maxHeartbeats 100000 in
def k240_103 : ex_C := c_return_  15
set_option maxHeartbeats 100000 in
theorem kE240_103 : ex_CE 15 [] cd_240 k240_103 q240_103 := e_return_ 103 0 
set_option maxHeartbeats 100000 in
def k240_78 : ex_C := c_aload 1 (c_gf 14 7 (c_iload 2 (c_iaload (c_psh 4294967295 (c_icmp_eq 103 (c_aload 0 (c_aload 1 (c_gf 14 0 (c_aload 1 (c_gf 14 7 (c_iload 2 (c_iaload (c_iload 3 (c_invV [] cd_240 100 4 240 12 (k240_103)))))))))))))))
set_option maxHeartbeats 100000 in
theorem kE240_78 : ex_CE 15 [] cd_240 k240_78 q240_78 := e_aload_aload_n 78 0 1 1 rfl (e_gf 79 86919 267 14 7 rfl rfl (e_iload_iload_n 82 0 2 2 rfl (e_iaload 83 0 (e_psh_iconst 84 4294967295 (-1) (e_icmp_eq 85 103 18 (e_aload_aload_n 88 0 0 0 rfl (e_aload_aload_n 89 0 1 1 rfl (e_gf 90 86912 272 14 0 rfl rfl (e_aload_aload_n 93 0 1 1 rfl (e_gf 94 86919 267 14 7 rfl rfl (e_iload_iload_n 97 0 2 2 rfl (e_iaload 98 0 (e_iload_iload_n 99 0 3 3 rfl (e_invV_invokevirtual 100 2097540 384 4 240 12 rfl rfl rfl rfl rfl rfl (kE240_103)))))))))))))))
set_option maxHeartbeats 100000 in
def k240_53 : ex_C := c_aload 1 (c_gf 14 6 (c_iload 2 (c_iaload (c_psh 4294967295 (c_icmp_eq 78 (c_aload 0 (c_aload 1 (c_gf 14 0 (c_aload 1 (c_gf 14 6 (c_iload 2 (c_iaload (c_iload 3 (c_invV [] cd_240 75 4 240 12 (k240_78)))))))))))))))
set_option maxHeartbeats 100000 in
theorem kE240_53 : ex_CE 15 [] cd_240 k240_53 q240_53 := e_aload_aload_n 53 0 1 1 rfl (e_gf 54 86918 276 14 6 rfl rfl (e_iload_iload_n 57 0 2 2 rfl (e_iaload 58 0 (e_psh_iconst 59 4294967295 (-1) (e_icmp_eq 60 78 18 (e_aload_aload_n 63 0 0 0 rfl (e_aload_aload_n 64 0 1 1 rfl (e_gf 65 86912 272 14 0 rfl rfl (e_aload_aload_n 68 0 1 1 rfl (e_gf 69 86918 276 14 6 rfl rfl (e_iload_iload_n 72 0 2 2 rfl (e_iaload 73 0 (e_iload_iload_n 74 0 3 3 rfl (e_invV_invokevirtual 75 2097540 384 4 240 12 rfl rfl rfl rfl rfl rfl (kE240_78)))))))))))))))
set_option maxHeartbeats 100000 in
def k240_33 : ex_C := c_aload 0 (c_gf 12 35 (c_iload 4 (c_iload 3 (c_iastore (c_aload 0 (c_gf 12 36 (c_iload 4 (c_dup2   (c_iaload (c_psh 1 (c_iadd (c_iastore (c_return_  15)))))))))))))
set_option maxHeartbeats 100000 in
theorem kE240_33 : ex_CE 15 [] cd_240 k240_33 q240_33 := e_aload_aload_n 33 0 0 0 rfl (e_gf 34 21283 77 12 35 rfl rfl (e_iload_iload 37 0 4 (e_iload_iload_n 39 0 3 3 rfl (e_iastore 40 0 (e_aload_aload_n 41 0 0 0 rfl (e_gf 42 21284 80 12 36 rfl rfl (e_iload_iload 45 0 4 (e_dup2 47 0  (e_iaload 48 0 (e_psh_iconst 49 1 1 (e_iadd 50 0 (e_iastore 51 0 (e_return_ 52 0 )))))))))))))
set_option maxHeartbeats 100000 in
def k240_0 : ex_C := c_aload 1 (c_gf 14 0 (c_ifnonnull 49 53 (c_aload 1 (c_gf 14 5 (c_iload 2 (c_iaload (c_istore 4 (c_aload 0 (c_gf 12 36 (c_iload 4 (c_iaload (c_if_ne 33 (c_aload 0 (c_gf 12 34 (c_iload 4 (c_iload 3 (c_iastore (k240_33))))))))))))))))))
set_option maxHeartbeats 100000 in
theorem kE240_0 : ex_CE 15 [] cd_240 k240_0 q240_0 := e_aload_aload_n 0 0 1 1 rfl (e_gf 1 86912 272 14 0 rfl rfl (e_ifnonnull 4 53 49 (e_aload_aload_n 7 0 1 1 rfl (e_gf 8 86917 290 14 5 rfl rfl (e_iload_iload_n 11 0 2 2 rfl (e_iaload 12 0 (e_istore_istore 13 0 4 (e_aload_aload_n 15 0 0 0 rfl (e_gf 16 21284 80 12 36 rfl rfl (e_iload_iload 19 0 4 (e_iaload 21 0 (e_if_ne 22 33 11 (e_aload_aload_n 25 0 0 0 rfl (e_gf 26 21282 74 12 34 rfl rfl (e_iload_iload 29 0 4 (e_iload_iload_n 31 0 3 3 rfl (e_iastore 32 0 (kE240_33))))))))))))))))))
def kt_240 : Nat → Option ex_C := fun pc => @Bool.rec (fun _ => Nat → Option ex_C) (fun pc => @Bool.rec (fun _ => Nat → Option ex_C) (fun pc => @Bool.rec (fun _ => Nat → Option ex_C) (fun pc => @Bool.rec (fun _ => Option ex_C) none (some k240_103) (Nat.beq pc 103)) (fun pc => @Bool.rec (fun _ => Option ex_C) none (some k240_78) (Nat.beq pc 78)) (Nat.ble pc 78) pc) (fun pc => @Bool.rec (fun _ => Option ex_C) none (some k240_53) (Nat.beq pc 53)) (Nat.ble pc 53) pc) (fun pc => @Bool.rec (fun _ => Nat → Option ex_C) (fun pc => @Bool.rec (fun _ => Option ex_C) none (some k240_33) (Nat.beq pc 33)) (fun pc => @Bool.rec (fun _ => Option ex_C) none (some k240_0) (Nat.beq pc 0)) (Nat.ble pc 0) pc) (Nat.ble pc 33) pc
theorem ktE_240 : ex_CTT 15 [] cd_240 kt_240 cd_240 := (ex_ct2 (ex_ct2 (ex_ct1 kE240_0) (ex_ct1 kE240_33)) (ex_ct2 (ex_ct1 kE240_53) (ex_ct2 (ex_ct1 kE240_78) (ex_ct1 kE240_103))))
set_option maxHeartbeats 100000 in
def k241_0 : ex_C := c_aload 0 (c_gf 14 2 (c_iload 1 (c_dup2   (c_iaload (c_iload 3 (c_psh 17179869195 (c_iload 2 (c_iaload (c_imul (c_iadd (c_iastore (c_aload 0 (c_gf 14 3 (c_iload 1 (c_dup2   (c_iaload (c_iload 3 (c_psh 17179869196 (c_iload 2 (c_iaload (c_imul (c_iadd (c_iastore (c_return_  15))))))))))))))))))))))))
set_option maxHeartbeats 100000 in
theorem kE241_0 : ex_CE 15 [] cd_241 k241_0 q241_0 := e_aload_aload_n 0 0 0 0 rfl (e_gf 1 86914 300 14 2 rfl rfl (e_iload_iload_n 4 0 1 1 rfl (e_dup2 5 0  (e_iaload 6 0 (e_iload_iload_n 7 0 3 3 rfl (e_psh_getstatic 8 17179869195 343 (e_iload_iload_n 11 0 2 2 rfl (e_iaload 12 0 (e_imul 13 0 (e_iadd 14 0 (e_iastore 15 0 (e_aload_aload_n 16 0 0 0 rfl (e_gf 17 86915 303 14 3 rfl rfl (e_iload_iload_n 20 0 1 1 rfl (e_dup2 21 0  (e_iaload 22 0 (e_iload_iload_n 23 0 3 3 rfl (e_psh_getstatic 24 17179869196 346 (e_iload_iload_n 27 0 2 2 rfl (e_iaload 28 0 (e_imul 29 0 (e_iadd 30 0 (e_iastore 31 0 (e_return_ 32 0 ))))))))))))))))))))))))
def kt_241 : Nat → Option ex_C := fun pc => @Bool.rec (fun _ => Option ex_C) none (some k241_0) (Nat.beq pc 0)
theorem ktE_241 : ex_CTT 15 [] cd_241 kt_241 cd_241 := (ex_ct1 kE241_0)
set_option maxHeartbeats 100000 in
def k242_124 : ex_C := c_return_  15
set_option maxHeartbeats 100000 in
theorem kE242_124 : ex_CE 15 [] cd_242 k242_124 q242_124 := e_return_ 124 0 
set_option maxHeartbeats 100000 in
def k242_53 : ex_C := c_istore 8 (c_aload 1 (c_gf 14 2 (c_iload 8 (c_iaload (c_iload 5 (c_isub (c_istore 9 (c_aload 1 (c_gf 14 3 (c_iload 8 (c_iaload (c_iload 6 (c_isub (c_istore 10 (c_aload 1 (c_gf 14 2 (c_iload 8 (c_iload 5 (c_iload 4 (c_iload 10 (c_imul (c_iadd (c_iastore (c_aload 1 (c_gf 14 3 (c_iload 8 (c_iload 6 (c_iload 4 (c_iload 9 (c_imul (c_isub (c_iastore (c_aload 0 (c_aload 1 (c_iload 8 (c_iload 4 (c_invV [] cd_242 115 4 238 12 (c_iinc 7 1 (c_goto 37)))))))))))))))))))))))))))))))))))))))
set_option maxHeartbeats 100000 in
theorem kE242_53 : ex_CE 15 [] cd_242 k242_53 q242_53 := e_istore_istore 53 0 8 (e_aload_aload_n 55 0 1 1 rfl (e_gf 56 86914 300 14 2 rfl rfl (e_iload_iload 59 0 8 (e_iaload 61 0 (e_iload_iload 62 0 5 (e_isub 64 0 (e_istore_istore 65 0 9 (e_aload_aload_n 67 0 1 1 rfl (e_gf 68 86915 303 14 3 rfl rfl (e_iload_iload 71 0 8 (e_iaload 73 0 (e_iload_iload 74 0 6 (e_isub 76 0 (e_istore_istore 77 0 10 (e_aload_aload_n 79 0 1 1 rfl (e_gf 80 86914 300 14 2 rfl rfl (e_iload_iload 83 0 8 (e_iload_iload 85 0 5 (e_iload_iload 87 0 4 (e_iload_iload 89 0 10 (e_imul 91 0 (e_iadd 92 0 (e_iastore 93 0 (e_aload_aload_n 94 0 1 1 rfl (e_gf 95 86915 303 14 3 rfl rfl (e_iload_iload 98 0 8 (e_iload_iload 100 0 6 (e_iload_iload 102 0 4 (e_iload_iload 104 0 9 (e_imul 106 0 (e_isub 107 0 (e_iastore 108 0 (e_aload_aload_n 109 0 0 0 rfl (e_aload_aload_n 110 0 1 1 rfl (e_iload_iload 111 0 8 (e_iload_iload 113 0 4 (e_invV_invokevirtual 115 2081156 387 4 238 12 rfl rfl rfl rfl rfl rfl (e_iinc 118 1 7 1 (e_goto 121 37 (-84))))))))))))))))))))))))))))))))))))))))
set_option maxHeartbeats 100000 in
def k242_52 : ex_C := c_iload 3 (k242_53)
set_option maxHeartbeats 100000 in
theorem kE242_52 : ex_CE 15 [] cd_242 k242_52 q242_52 := e_iload_iload_n 52 0 3 3 rfl (kE242_53)
set_option maxHeartbeats 100000 in
def k242_37 : ex_C := c_iload 7 (c_psh 2 (c_icmp_ge 124 (c_iload 7 (c_if_ne 52 (c_iload 2 (c_goto 53))))))
set_option maxHeartbeats 100000 in
theorem kE242_37 : ex_CE 15 [] cd_242 k242_37 q242_37 := e_iload_iload 37 0 7 (e_psh_iconst 39 2 2 (e_icmp_ge 40 124 84 (e_iload_iload 43 0 7 (e_if_ne 45 52 7 (e_iload_iload_n 48 0 2 2 rfl (e_goto 49 53 4))))))
set_option maxHeartbeats 100000 in
def k242_0 : ex_C := c_aload 1 (c_gf 14 2 (c_iload 2 (c_iaload (c_aload 1 (c_gf 14 2 (c_iload 3 (c_iaload (c_iadd (c_psh 2 (c_idiv   (c_istore 5 (c_aload 1 (c_gf 14 3 (c_iload 2 (c_iaload (c_aload 1 (c_gf 14 3 (c_iload 3 (c_iaload (c_iadd (c_psh 2 (c_idiv   (c_istore 6 (c_psh 0 (c_istore 7 (k242_37))))))))))))))))))))))))))
set_option maxHeartbeats 100000 in
theorem kE242_0 : ex_CE 15 [] cd_242 k242_0 q242_0 := e_aload_aload_n 0 0 1 1 rfl (e_gf 1 86914 300 14 2 rfl rfl (e_iload_iload_n 4 0 2 2 rfl (e_iaload 5 0 (e_aload_aload_n 6 0 1 1 rfl (e_gf 7 86914 300 14 2 rfl rfl (e_iload_iload_n 10 0 3 3 rfl (e_iaload 11 0 (e_iadd 12 0 (e_psh_iconst 13 2 2 (e_idiv 14 0  (e_istore_istore 15 0 5 (e_aload_aload_n 17 0 1 1 rfl (e_gf 18 86915 303 14 3 rfl rfl (e_iload_iload_n 21 0 2 2 rfl (e_iaload 22 0 (e_aload_aload_n 23 0 1 1 rfl (e_gf 24 86915 303 14 3 rfl rfl (e_iload_iload_n 27 0 3 3 rfl (e_iaload 28 0 (e_iadd 29 0 (e_psh_iconst 30 2 2 (e_idiv 31 0  (e_istore_istore 32 0 6 (e_psh_iconst 34 0 0 (e_istore_istore 35 0 7 (kE242_37))))))))))))))))))))))))))
def kt_242 : Nat → Option ex_C := fun pc => @Bool.rec (fun _ => Nat → Option ex_C) (fun pc => @Bool.rec (fun _ => Nat → Option ex_C) (fun pc => @Bool.rec (fun _ => Nat → Option ex_C) (fun pc => @Bool.rec (fun _ => Option ex_C) none (some k242_124) (Nat.beq pc 124)) (fun pc => @Bool.rec (fun _ => Option ex_C) none (some k242_53) (Nat.beq pc 53)) (Nat.ble pc 53) pc) (fun pc => @Bool.rec (fun _ => Option ex_C) none (some k242_52) (Nat.beq pc 52)) (Nat.ble pc 52) pc) (fun pc => @Bool.rec (fun _ => Nat → Option ex_C) (fun pc => @Bool.rec (fun _ => Option ex_C) none (some k242_37) (Nat.beq pc 37)) (fun pc => @Bool.rec (fun _ => Option ex_C) none (some k242_0) (Nat.beq pc 0)) (Nat.ble pc 0) pc) (Nat.ble pc 37) pc
theorem ktE_242 : ex_CTT 15 [] cd_242 kt_242 cd_242 := (ex_ct2 (ex_ct2 (ex_ct1 kE242_0) (ex_ct1 kE242_37)) (ex_ct2 (ex_ct1 kE242_52) (ex_ct2 (ex_ct1 kE242_53) (ex_ct1 kE242_124))))
set_option maxHeartbeats 100000 in
def k243_228 : ex_C := c_iload 5 (c_ireturn  0)
set_option maxHeartbeats 100000 in
theorem kE243_228 : ex_CE 0 [] cd_243 k243_228 q243_228 := e_iload_iload 228 0 5 (e_ireturn 230 0 )
set_option maxHeartbeats 100000 in
def k243_222 : ex_C := c_iinc 6 1 (c_goto 6)
set_option maxHeartbeats 100000 in
theorem kE243_222 : ex_CE 0 [] cd_243 k243_222 q243_222 := e_iinc 222 1 6 1 (e_goto 225 6 (-219))
set_option maxHeartbeats 100000 in
def k243_220 : ex_C := c_istore 5 (k243_222)
set_option maxHeartbeats 100000 in
theorem kE243_220 : ex_CE 0 [] cd_243 k243_220 q243_220 := e_istore_istore 220 0 5 (kE243_222)
set_option maxHeartbeats 100000 in
def k243_208 : ex_C := c_iload 5 (c_aload 0 (c_gf 14 5 (c_iload 6 (c_iaload (c_invS [] cd_243 217 2 302 (k243_220))))))
set_option maxHeartbeats 100000 in
theorem kE243_208 : ex_CE 0 [] cd_243 k243_208 q243_208 := e_iload_iload 208 0 5 (e_aload_aload_n 210 0 0 0 rfl (e_gf 211 86917 290 14 5 rfl rfl (e_iload_iload 214 0 6 (e_iaload 216 0 (e_invS 217 2613218 283 2 302 rfl rfl rfl (kE243_220))))))
set_option maxHeartbeats 100000 in
def k243_187 : ex_C := c_iload 7 (c_if_ne 222 (c_iload 5 (c_psh 4294967295 (c_icmp_ne 208 (c_aload 0 (c_gf 14 5 (c_iload 6 (c_iaload (c_goto 220)))))))))
set_option maxHeartbeats 100000 in
theorem kE243_187 : ex_CE 0 [] cd_243 k243_187 q243_187 := e_iload_iload 187 0 7 (e_if_ne 189 222 33 (e_iload_iload 192 0 5 (e_psh_iconst 194 4294967295 (-1) (e_icmp_ne 195 208 13 (e_aload_aload_n 198 0 0 0 rfl (e_gf 199 86917 290 14 5 rfl rfl (e_iload_iload 202 0 6 (e_iaload 204 0 (e_goto 205 220 15)))))))))
set_option maxHeartbeats 100000 in
def k243_185 : ex_C := c_istore 7 (k243_187)
set_option maxHeartbeats 100000 in
theorem kE243_185 : ex_CE 0 [] cd_243 k243_185 q243_185 := e_istore_istore 185 0 7 (kE243_187)
set_option maxHeartbeats 100000 in
def k243_184 : ex_C := c_psh 0 (k243_185)
set_option maxHeartbeats 100000 in
theorem kE243_184 : ex_CE 0 [] cd_243 k243_184 q243_184 := e_psh_iconst 184 0 0 (kE243_185)
set_option maxHeartbeats 100000 in
def k243_153 : ex_C := c_iload 7 (c_if_eq 187 (c_iload 4 (c_psh 119 (c_icmp_ne 187 (c_aload 0 (c_iload 6 (c_aload 2 (c_iload 6 (c_iaload (c_invS [] cd_243 172 3 236 (c_psh 99 (c_icmp_ne 184 (c_psh 1 (c_goto 185))))))))))))))
set_option maxHeartbeats 100000 in
theorem kE243_153 : ex_CE 0 [] cd_243 k243_153 q243_153 := e_iload_iload 153 0 7 (e_if_eq 155 187 32 (e_iload_iload 158 0 4 (e_psh_bipush 160 119 119 (e_icmp_ne 162 187 25 (e_aload_aload_n 165 0 0 0 rfl (e_iload_iload 166 0 6 (e_aload_aload_n 168 0 2 2 rfl (e_iload_iload 169 0 6 (e_iaload 171 0 (e_invS 172 2072547 392 3 236 rfl rfl rfl (e_psh_bipush 175 99 99 (e_icmp_ne 177 184 7 (e_psh_iconst 180 1 1 (e_goto 181 185 4))))))))))))))
set_option maxHeartbeats 100000 in
def k243_151 : ex_C := c_istore 7 (k243_153)
set_option maxHeartbeats 100000 in
theorem kE243_151 : ex_CE 0 [] cd_243 k243_151 q243_151 := e_istore_istore 151 0 7 (kE243_153)
set_option maxHeartbeats 100000 in
def k243_150 : ex_C := c_psh 0 (k243_151)
set_option maxHeartbeats 100000 in
theorem kE243_150 : ex_CE 0 [] cd_243 k243_150 q243_150 := e_psh_iconst 150 0 0 (kE243_151)
set_option maxHeartbeats 100000 in
def k243_131 : ex_C := c_aload 0 (c_iload 6 (c_aload 2 (c_iload 6 (c_iaload (c_invS [] cd_243 138 3 236 (c_psh 99 (c_icmp_eq 150 (c_psh 1 (c_goto 151)))))))))
set_option maxHeartbeats 100000 in
theorem kE243_131 : ex_CE 0 [] cd_243 k243_131 q243_131 := e_aload_aload_n 131 0 0 0 rfl (e_iload_iload 132 0 6 (e_aload_aload_n 134 0 2 2 rfl (e_iload_iload 135 0 6 (e_iaload 137 0 (e_invS 138 2072547 392 3 236 rfl rfl rfl (e_psh_bipush 141 99 99 (e_icmp_eq 143 150 7 (e_psh_iconst 146 1 1 (e_goto 147 151 4)))))))))
set_option maxHeartbeats 100000 in
def k243_112 : ex_C := c_iload 7 (c_if_eq 153 (c_iload 4 (c_psh 104 (c_icmp_eq 131 (c_iload 4 (c_psh 99 (c_icmp_ne 153 (k243_131))))))))
set_option maxHeartbeats 100000 in
theorem kE243_112 : ex_CE 0 [] cd_243 k243_112 q243_112 := e_iload_iload 112 0 7 (e_if_eq 114 153 39 (e_iload_iload 117 0 4 (e_psh_bipush 119 104 104 (e_icmp_eq 121 131 10 (e_iload_iload 124 0 4 (e_psh_bipush 126 99 99 (e_icmp_ne 128 153 25 (kE243_131))))))))
set_option maxHeartbeats 100000 in
def k243_110 : ex_C := c_istore 7 (k243_112)
set_option maxHeartbeats 100000 in
theorem kE243_110 : ex_CE 0 [] cd_243 k243_110 q243_110 := e_istore_istore 110 0 7 (kE243_112)
set_option maxHeartbeats 100000 in
def k243_109 : ex_C := c_psh 0 (k243_110)
set_option maxHeartbeats 100000 in
theorem kE243_109 : ex_CE 0 [] cd_243 k243_109 q243_109 := e_psh_iconst 109 0 0 (kE243_110)
set_option maxHeartbeats 100000 in
def k243_81 : ex_C := c_iload 4 (c_psh 114 (c_icmp_ne 112 (c_aload 2 (c_iload 6 (c_iaload (c_psh 4294967295 (c_icmp_eq 109 (c_aload 1 (c_aload 2 (c_iload 6 (c_iaload (c_baload (c_if_ne 109 (c_psh 1 (c_goto 110)))))))))))))))
set_option maxHeartbeats 100000 in
theorem kE243_81 : ex_CE 0 [] cd_243 k243_81 q243_81 := e_iload_iload 81 0 4 (e_psh_bipush 83 114 114 (e_icmp_ne 85 112 27 (e_aload_aload_n 88 0 2 2 rfl (e_iload_iload 89 0 6 (e_iaload 91 0 (e_psh_iconst 92 4294967295 (-1) (e_icmp_eq 93 109 16 (e_aload_aload_n 96 0 1 1 rfl (e_aload_aload_n 97 0 2 2 rfl (e_iload_iload 98 0 6 (e_iaload 100 0 (e_baload 101 0 (e_if_ne 102 109 7 (e_psh_iconst 105 1 1 (e_goto 106 110 4)))))))))))))))
set_option maxHeartbeats 100000 in
def k243_76 : ex_C := c_istore 7 (c_goto 112)
set_option maxHeartbeats 100000 in
theorem kE243_76 : ex_CE 0 [] cd_243 k243_76 q243_76 := e_istore_istore 76 0 7 (e_goto 78 112 34)
set_option maxHeartbeats 100000 in
def k243_75 : ex_C := c_psh 0 (k243_76)
set_option maxHeartbeats 100000 in
theorem kE243_75 : ex_CE 0 [] cd_243 k243_75 q243_75 := e_psh_iconst 75 0 0 (kE243_76)
set_option maxHeartbeats 100000 in
def k243_52 : ex_C := c_psh 17179869219 (c_iload 4 (c_invV [] cd_243 57 2 305 18 (c_if_lt 81 (c_aload 2 (c_iload 6 (c_iaload (c_psh 4294967295 (c_icmp_eq 75 (c_psh 1 (c_goto 76))))))))))
set_option maxHeartbeats 100000 in
theorem kE243_52 : ex_CE 0 [] cd_243 k243_52 q243_52 := e_psh_ldc_w 52 17179869219 390 (e_iload_iload 55 0 4 (e_invV_invokevirtual 57 2630210 195 2 305 18 rfl rfl rfl rfl rfl rfl (e_if_lt 60 81 21 (e_aload_aload_n 63 0 2 2 rfl (e_iload_iload 64 0 6 (e_iaload 66 0 (e_psh_iconst 67 4294967295 (-1) (e_icmp_eq 68 75 7 (e_psh_iconst 71 1 1 (e_goto 72 76 4))))))))))
set_option maxHeartbeats 100000 in
def k243_47 : ex_C := c_istore 7 (c_goto 112)
set_option maxHeartbeats 100000 in
theorem kE243_47 : ex_CE 0 [] cd_243 k243_47 q243_47 := e_istore_istore 47 0 7 (e_goto 49 112 63)
set_option maxHeartbeats 100000 in
def k243_46 : ex_C := c_psh 0 (k243_47)
set_option maxHeartbeats 100000 in
theorem kE243_46 : ex_CE 0 [] cd_243 k243_46 q243_46 := e_psh_iconst 46 0 0 (kE243_47)
set_option maxHeartbeats 100000 in
def k243_25 : ex_C := c_psh 1 (c_istore 7 (c_iload 4 (c_psh 111 (c_icmp_ne 52 (c_aload 3 (c_iload 6 (c_aaload   (c_ifnull 7 46 (c_psh 1 (c_goto 47))))))))))
set_option maxHeartbeats 100000 in
theorem kE243_25 : ex_CE 0 [] cd_243 k243_25 q243_25 := e_psh_iconst 25 1 1 (e_istore_istore 26 0 7 (e_iload_iload 28 0 4 (e_psh_bipush 30 111 111 (e_icmp_ne 32 52 20 (e_aload_aload_n 35 0 3 3 rfl (e_iload_iload 36 0 6 (e_aaload 38 0  (e_ifnull 39 46 7 (e_psh_iconst 42 1 1 (e_goto 43 47 4))))))))))
set_option maxHeartbeats 100000 in
def k243_6 : ex_C := c_iload 6 (c_aload 0 (c_gf 14 1 (c_icmp_ge 228 (c_aload 1 (c_iload 6 (c_baload (c_if_ne 25 (c_goto 222))))))))
set_option maxHeartbeats 100000 in
theorem kE243_6 : ex_CE 0 [] cd_243 k243_6 q243_6 := e_iload_iload 6 0 6 (e_aload_aload_n 8 0 0 0 rfl (e_gf 9 66433 297 14 1 rfl rfl (e_icmp_ge 12 228 216 (e_aload_aload_n 15 0 1 1 rfl (e_iload_iload 16 0 6 (e_baload 18 0 (e_if_ne 19 25 6 (e_goto 22 222 200))))))))
set_option maxHeartbeats 100000 in
def k243_0 : ex_C := c_psh 4294967295 (c_istore 5 (c_psh 0 (c_istore 6 (k243_6))))
set_option maxHeartbeats 100000 in
theorem kE243_0 : ex_CE 0 [] cd_243 k243_0 q243_0 := e_psh_iconst 0 4294967295 (-1) (e_istore_istore 1 0 5 (e_psh_iconst 3 0 0 (e_istore_istore 4 0 6 (kE243_6))))
def kt_243 : Nat → Option ex_C := fun pc => @Bool.rec (fun _ => Nat → Option ex_C) (fun pc => @Bool.rec (fun _ => Nat → Option ex_C) (fun pc => @Bool.rec (fun _ => Nat → Option ex_C) (fun pc => @Bool.rec (fun _ => Nat → Option ex_C) (fun pc => @Bool.rec (fun _ => Nat → Option ex_C) (fun pc => @Bool.rec (fun _ => Option ex_C) none (some k243_228) (Nat.beq pc 228)) (fun pc => @Bool.rec (fun _ => Option ex_C) none (some k243_222) (Nat.beq pc 222)) (Nat.ble pc 222) pc) (fun pc => @Bool.rec (fun _ => Option ex_C) none (some k243_220) (Nat.beq pc 220)) (Nat.ble pc 220) pc) (fun pc => @Bool.rec (fun _ => Nat → Option ex_C) (fun pc => @Bool.rec (fun _ => Nat → Option ex_C) (fun pc => @Bool.rec (fun _ => Option ex_C) none (some k243_208) (Nat.beq pc 208)) (fun pc => @Bool.rec (fun _ => Option ex_C) none (some k243_187) (Nat.beq pc 187)) (Nat.ble pc 187) pc) (fun pc => @Bool.rec (fun _ => Option ex_C) none (some k243_185) (Nat.beq pc 185)) (Nat.ble pc 185) pc) (Nat.ble pc 208) pc) (fun pc => @Bool.rec (fun _ => Nat → Option ex_C) (fun pc => @Bool.rec (fun _ => Nat → Option ex_C) (fun pc => @Bool.rec (fun _ => Nat → Option ex_C) (fun pc => @Bool.rec (fun _ => Option ex_C) none (some k243_184) (Nat.beq pc 184)) (fun pc => @Bool.rec (fun _ => Option ex_C) none (some k243_153) (Nat.beq pc 153)) (Nat.ble pc 153) pc) (fun pc => @Bool.rec (fun _ => Option ex_C) none (some k243_151) (Nat.beq pc 151)) (Nat.ble pc 151) pc) (fun pc => @Bool.rec (fun _ => Nat → Option ex_C) (fun pc => @Bool.rec (fun _ => Nat → Option ex_C) (fun pc => @Bool.rec (fun _ => Option ex_C) none (some k243_150) (Nat.beq pc 150)) (fun pc => @Bool.rec (fun _ => Option ex_C) none (some k243_131) (Nat.beq pc 131)) (Nat.ble pc 131) pc) (fun pc => @Bool.rec (fun _ => Option ex_C) none (some k243_112) (Nat.beq pc 112)) (Nat.ble pc 112) pc) (Nat.ble pc 150) pc) (Nat.ble pc 184) pc) (fun pc => @Bool.rec (fun _ => Nat → Option ex_C) (fun pc => @Bool.rec (fun _ => Nat → Option ex_C) (fun pc => @Bool.rec (fun _ => Nat → Option ex_C) (fun pc => @Bool.rec (fun _ => Nat → Option ex_C) (fun pc => @Bool.rec (fun _ => Option ex_C) none (some k243_110) (Nat.beq pc 110)) (fun pc => @Bool.rec (fun _ => Option ex_C) none (some k243_109) (Nat.beq pc 109)) (Nat.ble pc 109) pc) (fun pc => @Bool.rec (fun _ => Option ex_C) none (some k243_81) (Nat.beq pc 81)) (Nat.ble pc 81) pc) (fun pc => @Bool.rec (fun _ => Nat → Option ex_C) (fun pc => @Bool.rec (fun _ => Nat → Option ex_C) (fun pc => @Bool.rec (fun _ => Option ex_C) none (some k243_76) (Nat.beq pc 76)) (fun pc => @Bool.rec (fun _ => Option ex_C) none (some k243_75) (Nat.beq pc 75)) (Nat.ble pc 75) pc) (fun pc => @Bool.rec (fun _ => Option ex_C) none (some k243_52) (Nat.beq pc 52)) (Nat.ble pc 52) pc) (Nat.ble pc 76) pc) (fun pc => @Bool.rec (fun _ => Nat → Option ex_C) (fun pc => @Bool.rec (fun _ => Nat → Option ex_C) (fun pc => @Bool.rec (fun _ => Nat → Option ex_C) (fun pc => @Bool.rec (fun _ => Option ex_C) none (some k243_47) (Nat.beq pc 47)) (fun pc => @Bool.rec (fun _ => Option ex_C) none (some k243_46) (Nat.beq pc 46)) (Nat.ble pc 46) pc) (fun pc => @Bool.rec (fun _ => Option ex_C) none (some k243_25) (Nat.beq pc 25)) (Nat.ble pc 25) pc) (fun pc => @Bool.rec (fun _ => Nat → Option ex_C) (fun pc => @Bool.rec (fun _ => Option ex_C) none (some k243_6) (Nat.beq pc 6)) (fun pc => @Bool.rec (fun _ => Option ex_C) none (some k243_0) (Nat.beq pc 0)) (Nat.ble pc 0) pc) (Nat.ble pc 6) pc) (Nat.ble pc 47) pc) (Nat.ble pc 110) pc
theorem ktE_243 : ex_CTT 0 [] cd_243 kt_243 cd_243 := (ex_ct2 (ex_ct2 (ex_ct2 (ex_ct2 (ex_ct1 kE243_0) (ex_ct1 kE243_6)) (ex_ct2 (ex_ct1 kE243_25) (ex_ct2 (ex_ct1 kE243_46) (ex_ct1 kE243_47)))) (ex_ct2 (ex_ct2 (ex_ct1 kE243_52) (ex_ct2 (ex_ct1 kE243_75) (ex_ct1 kE243_76))) (ex_ct2 (ex_ct1 kE243_81) (ex_ct2 (ex_ct1 kE243_109) (ex_ct1 kE243_110))))) (ex_ct2 (ex_ct2 (ex_ct2 (ex_ct1 kE243_112) (ex_ct2 (ex_ct1 kE243_131) (ex_ct1 kE243_150))) (ex_ct2 (ex_ct1 kE243_151) (ex_ct2 (ex_ct1 kE243_153) (ex_ct1 kE243_184)))) (ex_ct2 (ex_ct2 (ex_ct1 kE243_185) (ex_ct2 (ex_ct1 kE243_187) (ex_ct1 kE243_208))) (ex_ct2 (ex_ct1 kE243_220) (ex_ct2 (ex_ct1 kE243_222) (ex_ct1 kE243_228))))))
set_option maxHeartbeats 100000 in
def k244_463 : ex_C := c_psh 1 (c_ireturn  1)
set_option maxHeartbeats 100000 in
theorem kE244_463 : ex_CE 1 [] cd_244 k244_463 q244_463 := e_psh_iconst 463 1 1 (e_ireturn 464 0 )
set_option maxHeartbeats 100000 in
def k244_457 : ex_C := c_iinc 13 1 (c_goto 304)
set_option maxHeartbeats 100000 in
theorem kE244_457 : ex_CE 1 [] cd_244 k244_457 q244_457 := e_iinc 457 1 13 1 (e_goto 460 304 (-156))
set_option maxHeartbeats 100000 in
def k244_447 : ex_C := c_aload 0 (c_aload 1 (c_invV [] cd_244 449 2 229 12 (c_if_ne 457 (c_psh 0 (c_ireturn  1)))))
set_option maxHeartbeats 100000 in
theorem kE244_447 : ex_CE 1 [] cd_244 k244_447 q244_447 := e_aload_aload_n 447 0 0 0 rfl (e_aload_aload_n 448 0 1 1 rfl (e_invV_invokevirtual 449 2007426 359 2 229 12 rfl rfl rfl rfl rfl rfl (e_if_ne 452 457 5 (e_psh_iconst 455 0 0 (e_ireturn 456 0 )))))
set_option maxHeartbeats 100000 in
def k244_440 : ex_C := c_bastore (c_iinc 16 1 (c_goto 390))
set_option maxHeartbeats 100000 in
theorem kE244_440 : ex_CE 1 [] cd_244 k244_440 q244_440 := e_bastore 440 0 (e_iinc 441 1 16 1 (e_goto 444 390 (-54)))
set_option maxHeartbeats 100000 in
def k244_439 : ex_C := c_psh 0 (k244_440)
set_option maxHeartbeats 100000 in
theorem kE244_439 : ex_CE 1 [] cd_244 k244_439 q244_439 := e_psh_iconst 439 0 0 (kE244_440)
set_option maxHeartbeats 100000 in
def k244_435 : ex_C := c_psh 1 (c_goto 440)
set_option maxHeartbeats 100000 in
theorem kE244_435 : ex_CE 1 [] cd_244 k244_435 q244_435 := e_psh_iconst 435 1 1 (e_goto 436 440 4)
set_option maxHeartbeats 100000 in
def k244_390 : ex_C := c_iload 16 (c_aload 1 (c_gf 14 1 (c_icmp_ge 447 (c_aload 1 (c_gf 14 8 (c_iload 16 (c_aload 1 (c_gf 14 2 (c_iload 16 (c_iaload (c_aload 14 (c_iload 16 (c_iaload (c_icmp_ne 435 (c_aload 1 (c_gf 14 3 (c_iload 16 (c_iaload (c_aload 15 (c_iload 16 (c_iaload (c_icmp_eq 439 (k244_435)))))))))))))))))))))))
set_option maxHeartbeats 100000 in
theorem kE244_390 : ex_CE 1 [] cd_244 k244_390 q244_390 := e_iload_iload 390 0 16 (e_aload_aload_n 392 0 1 1 rfl (e_gf 393 66433 297 14 1 rfl rfl (e_icmp_ge 396 447 51 (e_aload_aload_n 399 0 1 1 rfl (e_gf 400 86920 362 14 8 rfl rfl (e_iload_iload 403 0 16 (e_aload_aload_n 405 0 1 1 rfl (e_gf 406 86914 300 14 2 rfl rfl (e_iload_iload 409 0 16 (e_iaload 411 0 (e_aload_aload 412 0 14 (e_iload_iload 414 0 16 (e_iaload 416 0 (e_icmp_ne 417 435 18 (e_aload_aload_n 420 0 1 1 rfl (e_gf 421 86915 303 14 3 rfl rfl (e_iload_iload 424 0 16 (e_iaload 426 0 (e_aload_aload 427 0 15 (e_iload_iload 429 0 16 (e_iaload 431 0 (e_icmp_eq 432 439 7 (kE244_435)))))))))))))))))))))))
set_option maxHeartbeats 100000 in
def k244_387 : ex_C := c_psh 0 (c_istore 16 (k244_390))
set_option maxHeartbeats 100000 in
theorem kE244_387 : ex_CE 1 [] cd_244 k244_387 q244_387 := e_psh_iconst 387 0 0 (e_istore_istore 388 0 16 (kE244_390))
set_option maxHeartbeats 100000 in
def k244_381 : ex_C := c_iinc 16 1 (c_goto 338)
set_option maxHeartbeats 100000 in
theorem kE244_381 : ex_CE 1 [] cd_244 k244_381 q244_381 := e_iinc 381 1 16 1 (e_goto 384 338 (-46))
set_option maxHeartbeats 100000 in
def k244_338 : ex_C := c_iload 16 (c_aload 1 (c_gf 14 1 (c_icmp_ge 387 (c_aload 6 (c_iload 16 (c_baload (c_if_eq 381 (c_aload 0 (c_aload 1 (c_iload 2 (c_iload 13 (c_iload 16 (c_aload 9 (c_iload 16 (c_iaload (c_aload 12 (c_iload 16 (c_caload   (c_aload 10 (c_aload 14 (c_aload 15 (c_invV [] cd_244 378 10 245 12 (k244_381)))))))))))))))))))))))
set_option maxHeartbeats 100000 in
theorem kE244_338 : ex_CE 1 [] cd_244 k244_338 q244_338 := e_iload_iload 338 0 16 (e_aload_aload_n 340 0 1 1 rfl (e_gf 341 66433 297 14 1 rfl rfl (e_icmp_ge 344 387 43 (e_aload_aload 347 0 6 (e_iload_iload 349 0 16 (e_baload 351 0 (e_if_eq 352 381 29 (e_aload_aload_n 355 0 0 0 rfl (e_aload_aload_n 356 0 1 1 rfl (e_iload_iload_n 357 0 2 2 rfl (e_iload_iload 358 0 13 (e_iload_iload 360 0 16 (e_aload_aload 362 0 9 (e_iload_iload 364 0 16 (e_iaload 366 0 (e_aload_aload 367 0 12 (e_iload_iload 369 0 16 (e_caload 371 0  (e_aload_aload 372 0 10 (e_aload_aload 374 0 14 (e_aload_aload 376 0 15 (e_invV_invokevirtual 378 2138506 415 10 245 12 rfl rfl rfl rfl rfl rfl (kE244_381)))))))))))))))))))))))
set_option maxHeartbeats 100000 in
def k244_304 : ex_C := c_iload 13 (c_iload 4 (c_icmp_ge 463 (c_aload 1 (c_gf 14 2 (c_clone (c_checkcast 114 64 (c_astore 14 (c_aload 1 (c_gf 14 3 (c_clone (c_checkcast 114 64 (c_astore 15 (c_psh 0 (c_istore 16 (k244_338)))))))))))))))
set_option maxHeartbeats 100000 in
theorem kE244_304 : ex_CE 1 [] cd_244 k244_304 q244_304 := e_iload_iload 304 0 13 (e_iload_iload 306 0 4 (e_icmp_ge 308 463 155 (e_aload_aload_n 311 0 1 1 rfl (e_gf 312 86914 300 14 2 rfl rfl (e_clone (e_checkcast 318 64 114 (e_astore_astore 321 0 14 (e_aload_aload_n 323 0 1 1 rfl (e_gf 324 86915 303 14 3 rfl rfl (e_clone (e_checkcast 330 64 114 (e_astore_astore 333 0 15 (e_psh_iconst 335 0 0 (e_istore_istore 336 0 16 (kE244_338)))))))))))))))
set_option maxHeartbeats 100000 in
def k244_301 : ex_C := c_psh 0 (c_istore 13 (k244_304))
set_option maxHeartbeats 100000 in
theorem kE244_301 : ex_CE 1 [] cd_244 k244_301 q244_301 := e_psh_iconst 301 0 0 (e_istore_istore 302 0 13 (kE244_304))
set_option maxHeartbeats 100000 in
def k244_294 : ex_C := c_castore   (c_iinc 13 1 (c_goto 248))
set_option maxHeartbeats 100000 in
theorem kE244_294 : ex_CE 1 [] cd_244 k244_294 q244_294 := e_castore 294 0  (e_iinc 295 1 13 1 (e_goto 298 248 (-50)))
set_option maxHeartbeats 100000 in
def k244_292 : ex_C := c_psh 45 (k244_294)
set_option maxHeartbeats 100000 in
theorem kE244_292 : ex_CE 1 [] cd_244 k244_292 q244_292 := e_psh_bipush 292 45 45 (kE244_294)
set_option maxHeartbeats 100000 in
def k244_248 : ex_C := c_iload 13 (c_aload 1 (c_gf 14 1 (c_icmp_ge 301 (c_aload 12 (c_iload 13 (c_aload 6 (c_iload 13 (c_baload (c_if_eq 292 (c_aload 9 (c_iload 13 (c_iaload (c_psh 4294967295 (c_icmp_eq 292 (c_aload 1 (c_iload 13 (c_aload 9 (c_iload 13 (c_iaload (c_invS [] cd_244 286 3 236 (c_goto 294)))))))))))))))))))))
set_option maxHeartbeats 100000 in
theorem kE244_248 : ex_CE 1 [] cd_244 k244_248 q244_248 := e_iload_iload 248 0 13 (e_aload_aload_n 250 0 1 1 rfl (e_gf 251 66433 297 14 1 rfl rfl (e_icmp_ge 254 301 47 (e_aload_aload 257 0 12 (e_iload_iload 259 0 13 (e_aload_aload 261 0 6 (e_iload_iload 263 0 13 (e_baload 265 0 (e_if_eq 266 292 26 (e_aload_aload 269 0 9 (e_iload_iload 271 0 13 (e_iaload 273 0 (e_psh_iconst 274 4294967295 (-1) (e_icmp_eq 275 292 17 (e_aload_aload_n 278 0 1 1 rfl (e_iload_iload 279 0 13 (e_aload_aload 281 0 9 (e_iload_iload 283 0 13 (e_iaload 285 0 (e_invS 286 2072547 392 3 236 rfl rfl rfl (e_goto 289 294 5)))))))))))))))))))))
set_option maxHeartbeats 100000 in
def k244_237 : ex_C := c_aload 1 (c_gf 14 1 (c_newarr 66 0 (c_astore 12 (c_psh 0 (c_istore 13 (k244_248))))))
set_option maxHeartbeats 100000 in
theorem kE244_237 : ex_CE 1 [] cd_244 k244_237 q244_237 := e_aload_aload_n 237 0 1 1 rfl (e_gf 238 66433 297 14 1 rfl rfl (e_newarr 241 66 0 rfl (e_astore_astore 243 0 12 (e_psh_iconst 245 0 0 (e_istore_istore 246 0 13 (kE244_248))))))
set_option maxHeartbeats 100000 in
def k244_202 : ex_C := c_astore 10 (c_aload 1 (c_aload 6 (c_aload 9 (c_aload 10 (c_iload 2 (c_invS [] cd_244 212 5 243 (c_istore 11 (c_iload 11 (c_psh 4294967295 (c_icmp_eq 237 (c_aload 0 (c_psh 112 (c_pf 12 2 37 (c_aload 0 (c_iload 11 (c_pf 12 0 38 (c_psh 0 (c_ireturn  1))))))))))))))))))
set_option maxHeartbeats 100000 in
theorem kE244_202 : ex_CE 1 [] cd_244 k244_202 q244_202 := e_astore_astore 202 0 10 (e_aload_aload_n 204 0 1 1 rfl (e_aload_aload 205 0 6 (e_aload_aload 207 0 9 (e_aload_aload 209 0 10 (e_iload_iload_n 211 0 2 2 rfl (e_invS 212 2129893 411 5 243 rfl rfl rfl (e_istore_istore 215 0 11 (e_iload_iload 217 0 11 (e_psh_iconst 219 4294967295 (-1) (e_icmp_eq 220 237 17 (e_aload_aload_n 223 0 0 0 rfl (e_psh_bipush 224 112 112 (e_pf 226 8997 353 12 2 37 rfl rfl rfl (e_aload_aload_n 229 0 0 0 rfl (e_iload_iload 230 0 11 (e_pf 232 806 356 12 0 38 rfl rfl rfl (e_psh_iconst 235 0 0 (e_ireturn 236 0 ))))))))))))))))))
set_option maxHeartbeats 100000 in
def k244_201 : ex_C := c_aconst_null   (k244_202)
set_option maxHeartbeats 100000 in
theorem kE244_201 : ex_CE 1 [] cd_244 k244_201 q244_201 := e_aconst_null 201 0  (kE244_202)
set_option maxHeartbeats 100000 in
def k244_184 : ex_C := c_astore 9 (c_iload 2 (c_psh 111 (c_icmp_ne 201 (c_aload 1 (c_aload 6 (c_invS [] cd_244 195 2 237 (c_goto 202)))))))
set_option maxHeartbeats 100000 in
theorem kE244_184 : ex_CE 1 [] cd_244 k244_184 q244_184 := e_astore_astore 184 0 9 (e_iload_iload_n 186 0 2 2 rfl (e_psh_bipush 187 111 111 (e_icmp_ne 189 201 12 (e_aload_aload_n 192 0 1 1 rfl (e_aload_aload 193 0 6 (e_invS 195 2080738 407 2 237 rfl rfl rfl (e_goto 198 202 4)))))))
set_option maxHeartbeats 100000 in
def k244_175 : ex_C := c_aload 1 (c_aload 6 (c_iload 8 (c_psh 1 (c_invS [] cd_244 181 4 234 (k244_184)))))
set_option maxHeartbeats 100000 in
theorem kE244_175 : ex_CE 1 [] cd_244 k244_175 q244_175 := e_aload_aload_n 175 0 1 1 rfl (e_aload_aload 176 0 6 (e_iload_iload 178 0 8 (e_psh_iconst 180 1 1 (e_invS 181 2056164 339 4 234 rfl rfl rfl (kE244_184)))))
set_option maxHeartbeats 100000 in
def k244_155 : ex_C := c_iload 2 (c_psh 114 (c_icmp_ne 175 (c_aload 1 (c_aload 1 (c_invS [] cd_244 163 1 226 (c_iload 8 (c_psh 1 (c_invS [] cd_244 169 4 234 (c_goto 184)))))))))
set_option maxHeartbeats 100000 in
theorem kE244_155 : ex_CE 1 [] cd_244 k244_155 q244_155 := e_iload_iload_n 155 0 2 2 rfl (e_psh_bipush 156 114 114 (e_icmp_ne 158 175 17 (e_aload_aload_n 161 0 1 1 rfl (e_aload_aload_n 162 0 1 1 rfl (e_invS 163 1990625 335 1 226 rfl rfl rfl (e_iload_iload 166 0 8 (e_psh_iconst 168 1 1 (e_invS 169 2056164 339 4 234 rfl rfl rfl (e_goto 172 184 12)))))))))
set_option maxHeartbeats 100000 in
def k244_144 : ex_C := c_aload 1 (c_aload 6 (c_iload 8 (c_invS [] cd_244 149 3 231 (c_goto 184))))
set_option maxHeartbeats 100000 in
theorem kE244_144 : ex_CE 1 [] cd_244 k244_144 q244_144 := e_aload_aload_n 144 0 1 1 rfl (e_aload_aload 145 0 6 (e_iload_iload 147 0 8 (e_invS 149 2031587 403 3 231 rfl rfl rfl (e_goto 152 184 32))))
set_option maxHeartbeats 100000 in
def k244_126 : ex_C := c_aload 1 (c_gf 14 11 (c_istore 8 (c_iload 2 (c_psh 103 (c_icmp_eq 144 (c_iload 2 (c_psh 102 (c_icmp_ne 155 (k244_144)))))))))
set_option maxHeartbeats 100000 in
theorem kE244_126 : ex_CE 1 [] cd_244 k244_126 q244_126 := e_aload_aload_n 126 0 1 1 rfl (e_gf 127 907 328 14 11 rfl rfl (e_istore_istore 130 0 8 (e_iload_iload_n 132 0 2 2 rfl (e_psh_bipush 133 103 103 (e_icmp_eq 135 144 9 (e_iload_iload_n 138 0 2 2 rfl (e_psh_bipush 139 102 102 (e_icmp_ne 141 155 14 (kE244_144)))))))))
set_option maxHeartbeats 100000 in
def k244_119 : ex_C := c_bastore (c_iinc 8 1 (c_goto 73))
set_option maxHeartbeats 100000 in
theorem kE244_119 : ex_CE 1 [] cd_244 k244_119 q244_119 := e_bastore 119 0 (e_iinc 120 1 8 1 (e_goto 123 73 (-50)))
set_option maxHeartbeats 100000 in
def k244_118 : ex_C := c_psh 0 (k244_119)
set_option maxHeartbeats 100000 in
theorem kE244_118 : ex_CE 1 [] cd_244 k244_118 q244_118 := e_psh_iconst 118 0 0 (kE244_119)
set_option maxHeartbeats 100000 in
def k244_73 : ex_C := c_iload 8 (c_aload 1 (c_gf 14 1 (c_icmp_ge 126 (c_aload 6 (c_iload 8 (c_aload 5 (c_iload 8 (c_baload (c_if_eq 118 (c_aload 0 (c_aload 1 (c_iload 8 (c_invV [] cd_244 98 3 219 12 (c_psh 17179869197 (c_psh 17179869211 (c_iload 2 (c_invV [] cd_244 107 2 305 18 (c_iaload (c_icmp_lt 118 (c_psh 1 (c_goto 119)))))))))))))))))))))
set_option maxHeartbeats 100000 in
theorem kE244_73 : ex_CE 1 [] cd_244 k244_73 q244_73 := e_iload_iload 73 0 8 (e_aload_aload_n 75 0 1 1 rfl (e_gf 76 66433 297 14 1 rfl rfl (e_icmp_ge 79 126 47 (e_aload_aload 82 0 6 (e_iload_iload 84 0 8 (e_aload_aload 86 0 5 (e_iload_iload 88 0 8 (e_baload 90 0 (e_if_eq 91 118 27 (e_aload_aload_n 94 0 0 0 rfl (e_aload_aload_n 95 0 1 1 rfl (e_iload_iload 96 0 8 (e_invV_invokevirtual 98 1925507 279 3 219 12 rfl rfl rfl rfl rfl rfl (e_psh_getstatic 101 17179869197 400 (e_psh_ldc 104 17179869211 193 (e_iload_iload_n 106 0 2 2 rfl (e_invV_invokevirtual 107 2630210 195 2 305 18 rfl rfl rfl rfl rfl rfl (e_iaload 110 0 (e_icmp_lt 111 118 7 (e_psh_iconst 114 1 1 (e_goto 115 119 4)))))))))))))))))))))
set_option maxHeartbeats 100000 in
def k244_70 : ex_C := c_psh 0 (c_istore 8 (k244_73))
set_option maxHeartbeats 100000 in
theorem kE244_70 : ex_CE 1 [] cd_244 k244_70 q244_70 := e_psh_iconst 70 0 0 (e_istore_istore 71 0 8 (kE244_73))
set_option maxHeartbeats 100000 in
def k244_52 : ex_C := c_iload 7 (c_if_ne 70 (c_aload 0 (c_psh 119 (c_pf 12 2 37 (c_aload 0 (c_psh 4294967295 (c_pf 12 0 38 (c_psh 0 (c_ireturn  1)))))))))
set_option maxHeartbeats 100000 in
theorem kE244_52 : ex_CE 1 [] cd_244 k244_52 q244_52 := e_iload_iload 52 0 7 (e_if_ne 54 70 16 (e_aload_aload_n 57 0 0 0 rfl (e_psh_bipush 58 119 119 (e_pf 60 8997 353 12 2 37 rfl rfl rfl (e_aload_aload_n 63 0 0 0 rfl (e_psh_iconst 64 4294967295 (-1) (e_pf 65 806 356 12 0 38 rfl rfl rfl (e_psh_iconst 68 0 0 (e_ireturn 69 0 )))))))))
set_option maxHeartbeats 100000 in
def k244_22 : ex_C := c_iload 8 (c_aload 1 (c_gf 14 1 (c_icmp_ge 52 (c_aload 5 (c_ifnull 19 52 (c_iload 7 (c_aload 5 (c_iload 8 (c_baload (c_ior   (c_istore 7 (c_iinc 8 1 (c_goto 22)))))))))))))
set_option maxHeartbeats 100000 in
theorem kE244_22 : ex_CE 1 [] cd_244 k244_22 q244_22 := e_iload_iload 22 0 8 (e_aload_aload_n 24 0 1 1 rfl (e_gf 25 66433 297 14 1 rfl rfl (e_icmp_ge 28 52 24 (e_aload_aload 31 0 5 (e_ifnull 33 52 19 (e_iload_iload 36 0 7 (e_aload_aload 38 0 5 (e_iload_iload 40 0 8 (e_baload 42 0 (e_ior 43 0  (e_istore_istore 44 0 7 (e_iinc 46 1 8 1 (e_goto 49 22 (-27))))))))))))))
set_option maxHeartbeats 100000 in
def k244_0 : ex_C := c_aload 0 (c_aload 1 (c_iload 3 (c_invV [] cd_244 3 3 221 12 (c_astore 5 (c_aload 1 (c_gf 14 1 (c_newarr 65 0 (c_astore 6 (c_psh 0 (c_istore 7 (c_psh 0 (c_istore 8 (k244_22)))))))))))))
set_option maxHeartbeats 100000 in
theorem kE244_0 : ex_CE 1 [] cd_244 k244_0 q244_0 := e_aload_aload_n 0 0 0 0 rfl (e_aload_aload_n 1 0 1 1 rfl (e_iload_iload_n 2 0 3 3 rfl (e_invV_invokevirtual 3 1941891 396 3 221 12 rfl rfl rfl rfl rfl rfl (e_astore_astore 6 0 5 (e_aload_aload_n 8 0 1 1 rfl (e_gf 9 66433 297 14 1 rfl rfl (e_newarr 12 65 0 rfl (e_astore_astore 14 0 6 (e_psh_iconst 16 0 0 (e_istore_istore 17 0 7 (e_psh_iconst 19 0 0 (e_istore_istore 20 0 8 (kE244_22)))))))))))))
def kt_244 : Nat → Option ex_C := fun pc => @Bool.rec (fun _ => Nat → Option ex_C) (fun pc => @Bool.rec (fun _ => Nat → Option ex_C) (fun pc => @Bool.rec (fun _ => Nat → Option ex_C) (fun pc => @Bool.rec (fun _ => Nat → Option ex_C) (fun pc => @Bool.rec (fun _ => Nat → Option ex_C) (fun pc => @Bool.rec (fun _ => Option ex_C) none (some k244_463) (Nat.beq pc 463)) (fun pc => @Bool.rec (fun _ => Option ex_C) none (some k244_457) (Nat.beq pc 457)) (Nat.ble pc 457) pc) (fun pc => @Bool.rec (fun _ => Nat → Option ex_C) (fun pc => @Bool.rec (fun _ => Option ex_C) none (some k244_447) (Nat.beq pc 447)) (fun pc => @Bool.rec (fun _ => Option ex_C) none (some k244_440) (Nat.beq pc 440)) (Nat.ble pc 440) pc) (Nat.ble pc 447) pc) (fun pc => @Bool.rec (fun _ => Nat → Option ex_C) (fun pc => @Bool.rec (fun _ => Nat → Option ex_C) (fun pc => @Bool.rec (fun _ => Option ex_C) none (some k244_439) (Nat.beq pc 439)) (fun pc => @Bool.rec (fun _ => Option ex_C) none (some k244_435) (Nat.beq pc 435)) (Nat.ble pc 435) pc) (fun pc => @Bool.rec (fun _ => Nat → Option ex_C) (fun pc => @Bool.rec (fun _ => Option ex_C) none (some k244_390) (Nat.beq pc 390)) (fun pc => @Bool.rec (fun _ => Option ex_C) none (some k244_387) (Nat.beq pc 387)) (Nat.ble pc 387) pc) (Nat.ble pc 390) pc) (Nat.ble pc 439) pc) (fun pc => @Bool.rec (fun _ => Nat → Option ex_C) (fun pc => @Bool.rec (fun _ => Nat → Option ex_C) (fun pc => @Bool.rec (fun _ => Nat → Option ex_C) (fun pc => @Bool.rec (fun _ => Option ex_C) none (some k244_381) (Nat.beq pc 381)) (fun pc => @Bool.rec (fun _ => Option ex_C) none (some k244_338) (Nat.beq pc 338)) (Nat.ble pc 338) pc) (fun pc => @Bool.rec (fun _ => Nat → Option ex_C) (fun pc => @Bool.rec (fun _ => Option ex_C) none (some k244_304) (Nat.beq pc 304)) (fun pc => @Bool.rec (fun _ => Option ex_C) none (some k244_301) (Nat.beq pc 301)) (Nat.ble pc 301) pc) (Nat.ble pc 304) pc) (fun pc => @Bool.rec (fun _ => Nat → Option ex_C) (fun pc => @Bool.rec (fun _ => Nat → Option ex_C) (fun pc => @Bool.rec (fun _ => Option ex_C) none (some k244_294) (Nat.beq pc 294)) (fun pc => @Bool.rec (fun _ => Option ex_C) none (some k244_292) (Nat.beq pc 292)) (Nat.ble pc 292) pc) (fun pc => @Bool.rec (fun _ => Option ex_C) none (some k244_248) (Nat.beq pc 248)) (Nat.ble pc 248) pc) (Nat.ble pc 294) pc) (Nat.ble pc 381) pc) (fun pc => @Bool.rec (fun _ => Nat → Option ex_C) (fun pc => @Bool.rec (fun _ => Nat → Option ex_C) (fun pc => @Bool.rec (fun _ => Nat → Option ex_C) (fun pc => @Bool.rec (fun _ => Nat → Option ex_C) (fun pc => @Bool.rec (fun _ => Option ex_C) none (some k244_237) (Nat.beq pc 237)) (fun pc => @Bool.rec (fun _ => Option ex_C) none (some k244_202) (Nat.beq pc 202)) (Nat.ble pc 202) pc) (fun pc => @Bool.rec (fun _ => Nat → Option ex_C) (fun pc => @Bool.rec (fun _ => Option ex_C) none (some k244_201) (Nat.beq pc 201)) (fun pc => @Bool.rec (fun _ => Option ex_C) none (some k244_184) (Nat.beq pc 184)) (Nat.ble pc 184) pc) (Nat.ble pc 201) pc) (fun pc => @Bool.rec (fun _ => Nat → Option ex_C) (fun pc => @Bool.rec (fun _ => Nat → Option ex_C) (fun pc => @Bool.rec (fun _ => Option ex_C) none (some k244_175) (Nat.beq pc 175)) (fun pc => @Bool.rec (fun _ => Option ex_C) none (some k244_155) (Nat.beq pc 155)) (Nat.ble pc 155) pc) (fun pc => @Bool.rec (fun _ => Nat → Option ex_C) (fun pc => @Bool.rec (fun _ => Option ex_C) none (some k244_144) (Nat.beq pc 144)) (fun pc => @Bool.rec (fun _ => Option ex_C) none (some k244_126) (Nat.beq pc 126)) (Nat.ble pc 126) pc) (Nat.ble pc 144) pc) (Nat.ble pc 175) pc) (fun pc => @Bool.rec (fun _ => Nat → Option ex_C) (fun pc => @Bool.rec (fun _ => Nat → Option ex_C) (fun pc => @Bool.rec (fun _ => Nat → Option ex_C) (fun pc => @Bool.rec (fun _ => Option ex_C) none (some k244_119) (Nat.beq pc 119)) (fun pc => @Bool.rec (fun _ => Option ex_C) none (some k244_118) (Nat.beq pc 118)) (Nat.ble pc 118) pc) (fun pc => @Bool.rec (fun _ => Nat → Option ex_C) (fun pc => @Bool.rec (fun _ => Option ex_C) none (some k244_73) (Nat.beq pc 73)) (fun pc => @Bool.rec (fun _ => Option ex_C) none (some k244_70) (Nat.beq pc 70)) (Nat.ble pc 70) pc) (Nat.ble pc 73) pc) (fun pc => @Bool.rec (fun _ => Nat → Option ex_C) (fun pc => @Bool.rec (fun _ => Nat → Option ex_C) (fun pc => @Bool.rec (fun _ => Option ex_C) none (some k244_52) (Nat.beq pc 52)) (fun pc => @Bool.rec (fun _ => Option ex_C) none (some k244_22) (Nat.beq pc 22)) (Nat.ble pc 22) pc) (fun pc => @Bool.rec (fun _ => Option ex_C) none (some k244_0) (Nat.beq pc 0)) (Nat.ble pc 0) pc) (Nat.ble pc 52) pc) (Nat.ble pc 119) pc) (Nat.ble pc 237) pc
theorem ktE_244 : ex_CTT 1 [] cd_244 kt_244 cd_244 := (ex_ct2 (ex_ct2 (ex_ct2 (ex_ct2 (ex_ct1 kE244_0) (ex_ct2 (ex_ct1 kE244_22) (ex_ct1 kE244_52))) (ex_ct2 (ex_ct2 (ex_ct1 kE244_70) (ex_ct1 kE244_73)) (ex_ct2 (ex_ct1 kE244_118) (ex_ct1 kE244_119)))) (ex_ct2 (ex_ct2 (ex_ct2 (ex_ct1 kE244_126) (ex_ct1 kE244_144)) (ex_ct2 (ex_ct1 kE244_155) (ex_ct1 kE244_175))) (ex_ct2 (ex_ct2 (ex_ct1 kE244_184) (ex_ct1 kE244_201)) (ex_ct2 (ex_ct1 kE244_202) (ex_ct1 kE244_237))))) (ex_ct2 (ex_ct2 (ex_ct2 (ex_ct1 kE244_248) (ex_ct2 (ex_ct1 kE244_292) (ex_ct1 kE244_294))) (ex_ct2 (ex_ct2 (ex_ct1 kE244_301) (ex_ct1 kE244_304)) (ex_ct2 (ex_ct1 kE244_338) (ex_ct1 kE244_381)))) (ex_ct2 (ex_ct2 (ex_ct2 (ex_ct1 kE244_387) (ex_ct1 kE244_390)) (ex_ct2 (ex_ct1 kE244_435) (ex_ct1 kE244_439))) (ex_ct2 (ex_ct2 (ex_ct1 kE244_440) (ex_ct1 kE244_447)) (ex_ct2 (ex_ct1 kE244_457) (ex_ct1 kE244_463))))))
set_option maxHeartbeats 100000 in
def k245_363 : ex_C := c_return_  15
set_option maxHeartbeats 100000 in
theorem kE245_363 : ex_CE 15 [] cd_245 k245_363 q245_363 := e_return_ 363 0 
set_option maxHeartbeats 100000 in
def k245_360 : ex_C := c_invV [] cd_245 360 5 242 12 (k245_363)
set_option maxHeartbeats 100000 in
theorem kE245_360 : ex_CE 15 [] cd_245 k245_360 q245_360 := e_invV_invokevirtual 360 2113925 427 5 242 12 rfl rfl rfl rfl rfl rfl (kE245_363)
set_option maxHeartbeats 100000 in
def k245_359 : ex_C := c_psh 1 (k245_360)
set_option maxHeartbeats 100000 in
theorem kE245_359 : ex_CE 15 [] cd_245 k245_359 q245_359 := e_psh_iconst 359 1 1 (kE245_360)
set_option maxHeartbeats 100000 in
def k245_355 : ex_C := c_psh 4294967295 (c_goto 360)
set_option maxHeartbeats 100000 in
theorem kE245_355 : ex_CE 15 [] cd_245 k245_355 q245_355 := e_psh_iconst 355 4294967295 (-1) (e_goto 356 360 4)
set_option maxHeartbeats 100000 in
def k245_336 : ex_C := c_aload 0 (c_aload 1 (c_iload 4 (c_iload 5 (c_iload 6 (c_psh 108 (c_icmp_eq 355 (c_iload 2 (c_psh 119 (c_icmp_ne 359 (k245_355))))))))))
set_option maxHeartbeats 100000 in
theorem kE245_336 : ex_CE 15 [] cd_245 k245_336 q245_336 := e_aload_aload_n 336 0 0 0 rfl (e_aload_aload_n 337 0 1 1 rfl (e_iload_iload 338 0 4 (e_iload_iload 340 0 5 (e_iload_iload 342 0 6 (e_psh_bipush 344 108 108 (e_icmp_eq 346 355 9 (e_iload_iload_n 349 0 2 2 rfl (e_psh_bipush 350 119 119 (e_icmp_ne 352 359 7 (kE245_355))))))))))
set_option maxHeartbeats 100000 in
def k245_333 : ex_C := c_invV [] cd_245 333 4 240 12 (k245_336)
set_option maxHeartbeats 100000 in
theorem kE245_333 : ex_CE 15 [] cd_245 k245_333 q245_333 := e_invV_invokevirtual 333 2097540 384 4 240 12 rfl rfl rfl rfl rfl rfl (kE245_336)
set_option maxHeartbeats 100000 in
def k245_332 : ex_C := c_psh 2 (k245_333)
set_option maxHeartbeats 100000 in
theorem kE245_332 : ex_CE 15 [] cd_245 k245_332 q245_332 := e_psh_iconst 332 2 2 (kE245_333)
set_option maxHeartbeats 100000 in
def k245_314 : ex_C := c_invV [] cd_245 314 4 240 12 (c_aload 0 (c_aload 1 (c_iload 5 (c_iload 6 (c_psh 114 (c_icmp_ne 332 (c_psh 1 (c_goto 333))))))))
set_option maxHeartbeats 100000 in
theorem kE245_314 : ex_CE 15 [] cd_245 k245_314 q245_314 := e_invV_invokevirtual 314 2097540 384 4 240 12 rfl rfl rfl rfl rfl rfl (e_aload_aload_n 317 0 0 0 rfl (e_aload_aload_n 318 0 1 1 rfl (e_iload_iload 319 0 5 (e_iload_iload 321 0 6 (e_psh_bipush 323 114 114 (e_icmp_ne 325 332 7 (e_psh_iconst 328 1 1 (e_goto 329 333 4))))))))
set_option maxHeartbeats 100000 in
def k245_313 : ex_C := c_psh 2 (k245_314)
set_option maxHeartbeats 100000 in
theorem kE245_313 : ex_CE 15 [] cd_245 k245_313 q245_313 := e_psh_iconst 313 2 2 (kE245_314)
set_option maxHeartbeats 100000 in
def k245_280 : ex_C := c_iload 4 (c_iload 5 (c_icmp_ge 363 (c_iload 3 (c_if_ne 336 (c_iload 6 (c_psh 99 (c_icmp_eq 336 (c_aload 0 (c_aload 1 (c_iload 4 (c_iload 6 (c_psh 114 (c_icmp_ne 313 (c_psh 1 (c_goto 314)))))))))))))))
set_option maxHeartbeats 100000 in
theorem kE245_280 : ex_CE 15 [] cd_245 k245_280 q245_280 := e_iload_iload 280 0 4 (e_iload_iload 282 0 5 (e_icmp_ge 284 363 79 (e_iload_iload_n 287 0 3 3 rfl (e_if_ne 288 336 48 (e_iload_iload 291 0 6 (e_psh_bipush 293 99 99 (e_icmp_eq 295 336 41 (e_aload_aload_n 298 0 0 0 rfl (e_aload_aload_n 299 0 1 1 rfl (e_iload_iload 300 0 4 (e_iload_iload 302 0 6 (e_psh_bipush 304 114 114 (e_icmp_ne 306 313 7 (e_psh_iconst 309 1 1 (e_goto 310 314 4)))))))))))))))
set_option maxHeartbeats 100000 in
def k245_247 : ex_C := c_iload 2 (c_psh 120 (c_icmp_ne 280 (c_aload 1 (c_gf 14 2 (c_iload 4 (c_aload 8 (c_iload 5 (c_iaload (c_iastore (c_aload 1 (c_gf 14 3 (c_iload 4 (c_aload 9 (c_iload 5 (c_iaload (c_iastore (c_goto 363)))))))))))))))))
set_option maxHeartbeats 100000 in
theorem kE245_247 : ex_CE 15 [] cd_245 k245_247 q245_247 := e_iload_iload_n 247 0 2 2 rfl (e_psh_bipush 248 120 120 (e_icmp_ne 250 280 30 (e_aload_aload_n 253 0 1 1 rfl (e_gf 254 86914 300 14 2 rfl rfl (e_iload_iload 257 0 4 (e_aload_aload 259 0 8 (e_iload_iload 261 0 5 (e_iaload 263 0 (e_iastore 264 0 (e_aload_aload_n 265 0 1 1 rfl (e_gf 266 86915 303 14 3 rfl rfl (e_iload_iload 269 0 4 (e_aload_aload 271 0 9 (e_iload_iload 273 0 5 (e_iaload 275 0 (e_iastore 276 0 (e_goto 277 363 86)))))))))))))))))
set_option maxHeartbeats 100000 in
def k245_224 : ex_C := c_iload 2 (c_psh 111 (c_icmp_ne 247 (c_aload 0 (c_aload 1 (c_iload 4 (c_aload 7 (c_iload 4 (c_aaload   (c_iload 10 (c_invV [] cd_245 241 5 246 12 (c_goto 363)))))))))))
set_option maxHeartbeats 100000 in
theorem kE245_224 : ex_CE 15 [] cd_245 k245_224 q245_224 := e_iload_iload_n 224 0 2 2 rfl (e_psh_bipush 225 111 111 (e_icmp_ne 227 247 20 (e_aload_aload_n 230 0 0 0 rfl (e_aload_aload_n 231 0 1 1 rfl (e_iload_iload 232 0 4 (e_aload_aload 234 0 7 (e_iload_iload 236 0 4 (e_aaload 238 0  (e_iload_iload 239 0 10 (e_invV_invokevirtual 241 2146693 423 5 246 12 rfl rfl rfl rfl rfl rfl (e_goto 244 363 119)))))))))))
set_option maxHeartbeats 100000 in
def k245_159 : ex_C := c_iload 2 (c_psh 114 (c_icmp_ne 224 (c_aload 1 (c_gf 14 2 (c_iload 4 (c_aload 8 (c_iload 5 (c_iaload (c_iastore (c_aload 1 (c_gf 14 3 (c_iload 4 (c_aload 9 (c_iload 5 (c_iaload (c_iastore (c_aload 1 (c_gf 14 2 (c_iload 5 (c_aload 8 (c_iload 4 (c_iaload (c_iastore (c_aload 1 (c_gf 14 3 (c_iload 5 (c_aload 9 (c_iload 4 (c_iaload (c_iastore (c_aload 0 (c_aload 1 (c_iload 4 (c_psh 2 (c_invV [] cd_245 218 4 238 12 (c_goto 363))))))))))))))))))))))))))))))))))))
set_option maxHeartbeats 100000 in
theorem kE245_159 : ex_CE 15 [] cd_245 k245_159 q245_159 := e_iload_iload_n 159 0 2 2 rfl (e_psh_bipush 160 114 114 (e_icmp_ne 162 224 62 (e_aload_aload_n 165 0 1 1 rfl (e_gf 166 86914 300 14 2 rfl rfl (e_iload_iload 169 0 4 (e_aload_aload 171 0 8 (e_iload_iload 173 0 5 (e_iaload 175 0 (e_iastore 176 0 (e_aload_aload_n 177 0 1 1 rfl (e_gf 178 86915 303 14 3 rfl rfl (e_iload_iload 181 0 4 (e_aload_aload 183 0 9 (e_iload_iload 185 0 5 (e_iaload 187 0 (e_iastore 188 0 (e_aload_aload_n 189 0 1 1 rfl (e_gf 190 86914 300 14 2 rfl rfl (e_iload_iload 193 0 5 (e_aload_aload 195 0 8 (e_iload_iload 197 0 4 (e_iaload 199 0 (e_iastore 200 0 (e_aload_aload_n 201 0 1 1 rfl (e_gf 202 86915 303 14 3 rfl rfl (e_iload_iload 205 0 5 (e_aload_aload 207 0 9 (e_iload_iload 209 0 4 (e_iaload 211 0 (e_iastore 212 0 (e_aload_aload_n 213 0 0 0 rfl (e_aload_aload_n 214 0 1 1 rfl (e_iload_iload 215 0 4 (e_psh_iconst 217 2 2 (e_invV_invokevirtual 218 2081156 387 4 238 12 rfl rfl rfl rfl rfl rfl (e_goto 221 363 142))))))))))))))))))))))))))))))))))))
set_option maxHeartbeats 100000 in
def k245_149 : ex_C := c_iadd (c_psh 4 (c_irem   (c_psh 1 (c_invS [] cd_245 153 4 241 (c_goto 363)))))
set_option maxHeartbeats 100000 in
theorem kE245_149 : ex_CE 15 [] cd_245 k245_149 q245_149 := e_iadd 149 0 (e_psh_iconst 150 4 4 (e_irem 151 0  (e_psh_iconst 152 1 1 (e_invS 153 2113508 419 4 241 rfl rfl rfl (e_goto 156 363 207)))))
set_option maxHeartbeats 100000 in
def k245_148 : ex_C := c_psh 1 (k245_149)
set_option maxHeartbeats 100000 in
theorem kE245_148 : ex_CE 15 [] cd_245 k245_148 q245_148 := e_psh_iconst 148 1 1 (kE245_149)
set_option maxHeartbeats 100000 in
def k245_113 : ex_C := c_aload 1 (c_iload 4 (c_aload 1 (c_gf 14 4 (c_iload 4 (c_iaload (c_iload 10 (c_psh 2 (c_idiv   (c_invS [] cd_245 127 4 241 (c_aload 1 (c_iload 4 (c_aload 1 (c_gf 14 4 (c_iload 4 (c_iaload (c_iload 3 (c_if_ne 148 (c_psh 3 (c_goto 149)))))))))))))))))))
set_option maxHeartbeats 100000 in
theorem kE245_113 : ex_CE 15 [] cd_245 k245_113 q245_113 := e_aload_aload_n 113 0 1 1 rfl (e_iload_iload 114 0 4 (e_aload_aload_n 116 0 1 1 rfl (e_gf 117 86916 309 14 4 rfl rfl (e_iload_iload 120 0 4 (e_iaload 122 0 (e_iload_iload 123 0 10 (e_psh_iconst 125 2 2 (e_idiv 126 0  (e_invS 127 2113508 419 4 241 rfl rfl rfl (e_aload_aload_n 130 0 1 1 rfl (e_iload_iload 131 0 4 (e_aload_aload_n 133 0 1 1 rfl (e_gf 134 86916 309 14 4 rfl rfl (e_iload_iload 137 0 4 (e_iaload 139 0 (e_iload_iload_n 140 0 3 3 rfl (e_if_ne 141 148 7 (e_psh_iconst 144 3 3 (e_goto 145 149 4)))))))))))))))))))
set_option maxHeartbeats 100000 in
def k245_107 : ex_C := c_invV [] cd_245 107 4 238 12 (c_goto 363)
set_option maxHeartbeats 100000 in
theorem kE245_107 : ex_CE 15 [] cd_245 k245_107 q245_107 := e_invV_invokevirtual 107 2081156 387 4 238 12 rfl rfl rfl rfl rfl rfl (e_goto 110 363 253)
set_option maxHeartbeats 100000 in
def k245_106 : ex_C := c_psh 4294967295 (k245_107)
set_option maxHeartbeats 100000 in
theorem kE245_106 : ex_CE 15 [] cd_245 k245_106 q245_106 := e_psh_iconst 106 4294967295 (-1) (kE245_107)
set_option maxHeartbeats 100000 in
def k245_81 : ex_C := c_iload 3 (c_psh 2 (c_icmp_ne 113 (c_aload 0 (c_aload 1 (c_iload 4 (c_aload 1 (c_gf 14 5 (c_iload 4 (c_iaload (c_psh 2 (c_irem   (c_if_ne 106 (c_psh 1 (c_goto 107))))))))))))))
set_option maxHeartbeats 100000 in
theorem kE245_81 : ex_CE 15 [] cd_245 k245_81 q245_81 := e_iload_iload_n 81 0 3 3 rfl (e_psh_iconst 82 2 2 (e_icmp_ne 83 113 30 (e_aload_aload_n 86 0 0 0 rfl (e_aload_aload_n 87 0 1 1 rfl (e_iload_iload 88 0 4 (e_aload_aload_n 90 0 1 1 rfl (e_gf 91 86917 290 14 5 rfl rfl (e_iload_iload 94 0 4 (e_iaload 96 0 (e_psh_iconst 97 2 2 (e_irem 98 0  (e_if_ne 99 106 7 (e_psh_iconst 102 1 1 (e_goto 103 107 4))))))))))))))
set_option maxHeartbeats 100000 in
def k245_69 : ex_C := c_iload 2 (c_psh 103 (c_icmp_eq 81 (c_iload 2 (c_psh 102 (c_icmp_ne 159 (k245_81))))))
set_option maxHeartbeats 100000 in
theorem kE245_69 : ex_CE 15 [] cd_245 k245_69 q245_69 := e_iload_iload_n 69 0 2 2 rfl (e_psh_bipush 70 103 103 (e_icmp_eq 72 81 9 (e_iload_iload_n 75 0 2 2 rfl (e_psh_bipush 76 102 102 (e_icmp_ne 78 159 81 (kE245_81))))))
set_option maxHeartbeats 100000 in
def k245_52 : ex_C := c_iload 2 (c_psh 112 (c_icmp_ne 69 (c_aload 0 (c_aload 1 (c_iload 4 (c_psh 4294967295 (c_invV [] cd_245 63 4 238 12 (c_goto 363))))))))
set_option maxHeartbeats 100000 in
theorem kE245_52 : ex_CE 15 [] cd_245 k245_52 q245_52 := e_iload_iload_n 52 0 2 2 rfl (e_psh_bipush 53 112 112 (e_icmp_ne 55 69 14 (e_aload_aload_n 58 0 0 0 rfl (e_aload_aload_n 59 0 1 1 rfl (e_iload_iload 60 0 4 (e_psh_iconst 62 4294967295 (-1) (e_invV_invokevirtual 63 2081156 387 4 238 12 rfl rfl rfl rfl rfl rfl (e_goto 66 363 297))))))))
set_option maxHeartbeats 100000 in
def k245_41 : ex_C := c_aload 0 (c_aload 1 (c_iload 4 (c_psh 1 (c_invV [] cd_245 46 4 238 12 (c_goto 363)))))
set_option maxHeartbeats 100000 in
theorem kE245_41 : ex_CE 15 [] cd_245 k245_41 q245_41 := e_aload_aload_n 41 0 0 0 rfl (e_aload_aload_n 42 0 1 1 rfl (e_iload_iload 43 0 4 (e_psh_iconst 45 1 1 (e_invV_invokevirtual 46 2081156 387 4 238 12 rfl rfl rfl rfl rfl rfl (e_goto 49 363 314)))))
set_option maxHeartbeats 100000 in
def k245_29 : ex_C := c_iload 2 (c_psh 113 (c_icmp_eq 41 (c_iload 2 (c_psh 98 (c_icmp_ne 52 (k245_41))))))
set_option maxHeartbeats 100000 in
theorem kE245_29 : ex_CE 15 [] cd_245 k245_29 q245_29 := e_iload_iload_n 29 0 2 2 rfl (e_psh_bipush 30 113 113 (e_icmp_eq 32 41 9 (e_iload_iload_n 35 0 2 2 rfl (e_psh_bipush 36 98 98 (e_icmp_ne 38 52 14 (kE245_41))))))
set_option maxHeartbeats 100000 in
def k245_0 : ex_C := c_aload 1 (c_gf 14 11 (c_istore 10 (c_iload 2 (c_psh 117 (c_icmp_ne 29 (c_aload 1 (c_iload 4 (c_aload 1 (c_gf 14 4 (c_iload 4 (c_iaload (c_psh 1 (c_invS [] cd_245 23 4 241 (c_goto 363))))))))))))))
set_option maxHeartbeats 100000 in
theorem kE245_0 : ex_CE 15 [] cd_245 k245_0 q245_0 := e_aload_aload_n 0 0 1 1 rfl (e_gf 1 907 328 14 11 rfl rfl (e_istore_istore 4 0 10 (e_iload_iload_n 6 0 2 2 rfl (e_psh_bipush 7 117 117 (e_icmp_ne 9 29 20 (e_aload_aload_n 12 0 1 1 rfl (e_iload_iload 13 0 4 (e_aload_aload_n 15 0 1 1 rfl (e_gf 16 86916 309 14 4 rfl rfl (e_iload_iload 19 0 4 (e_iaload 21 0 (e_psh_iconst 22 1 1 (e_invS 23 2113508 419 4 241 rfl rfl rfl (e_goto 26 363 337))))))))))))))
def kt_245 : Nat → Option ex_C := fun pc => @Bool.rec (fun _ => Nat → Option ex_C) (fun pc => @Bool.rec (fun _ => Nat → Option ex_C) (fun pc => @Bool.rec (fun _ => Nat → Option ex_C) (fun pc => @Bool.rec (fun _ => Nat → Option ex_C) (fun pc => @Bool.rec (fun _ => Nat → Option ex_C) (fun pc => @Bool.rec (fun _ => Option ex_C) none (some k245_363) (Nat.beq pc 363)) (fun pc => @Bool.rec (fun _ => Option ex_C) none (some k245_360) (Nat.beq pc 360)) (Nat.ble pc 360) pc) (fun pc => @Bool.rec (fun _ => Option ex_C) none (some k245_359) (Nat.beq pc 359)) (Nat.ble pc 359) pc) (fun pc => @Bool.rec (fun _ => Nat → Option ex_C) (fun pc => @Bool.rec (fun _ => Nat → Option ex_C) (fun pc => @Bool.rec (fun _ => Option ex_C) none (some k245_355) (Nat.beq pc 355)) (fun pc => @Bool.rec (fun _ => Option ex_C) none (some k245_336) (Nat.beq pc 336)) (Nat.ble pc 336) pc) (fun pc => @Bool.rec (fun _ => Option ex_C) none (some k245_333) (Nat.beq pc 333)) (Nat.ble pc 333) pc) (Nat.ble pc 355) pc) (fun pc => @Bool.rec (fun _ => Nat → Option ex_C) (fun pc => @Bool.rec (fun _ => Nat → Option ex_C) (fun pc => @Bool.rec (fun _ => Nat → Option ex_C) (fun pc => @Bool.rec (fun _ => Option ex_C) none (some k245_332) (Nat.beq pc 332)) (fun pc => @Bool.rec (fun _ => Option ex_C) none (some k245_314) (Nat.beq pc 314)) (Nat.ble pc 314) pc) (fun pc => @Bool.rec (fun _ => Option ex_C) none (some k245_313) (Nat.beq pc 313)) (Nat.ble pc 313) pc) (fun pc => @Bool.rec (fun _ => Nat → Option ex_C) (fun pc => @Bool.rec (fun _ => Nat → Option ex_C) (fun pc => @Bool.rec (fun _ => Option ex_C) none (some k245_280) (Nat.beq pc 280)) (fun pc => @Bool.rec (fun _ => Option ex_C) none (some k245_247) (Nat.beq pc 247)) (Nat.ble pc 247) pc) (fun pc => @Bool.rec (fun _ => Option ex_C) none (some k245_224) (Nat.beq pc 224)) (Nat.ble pc 224) pc) (Nat.ble pc 280) pc) (Nat.ble pc 332) pc) (fun pc => @Bool.rec (fun _ => Nat → Option ex_C) (fun pc => @Bool.rec (fun _ => Nat → Option ex_C) (fun pc => @Bool.rec (fun _ => Nat → Option ex_C) (fun pc => @Bool.rec (fun _ => Nat → Option ex_C) (fun pc => @Bool.rec (fun _ => Option ex_C) none (some k245_159) (Nat.beq pc 159)) (fun pc => @Bool.rec (fun _ => Option ex_C) none (some k245_149) (Nat.beq pc 149)) (Nat.ble pc 149) pc) (fun pc => @Bool.rec (fun _ => Option ex_C) none (some k245_148) (Nat.beq pc 148)) (Nat.ble pc 148) pc) (fun pc => @Bool.rec (fun _ => Nat → Option ex_C) (fun pc => @Bool.rec (fun _ => Nat → Option ex_C) (fun pc => @Bool.rec (fun _ => Option ex_C) none (some k245_113) (Nat.beq pc 113)) (fun pc => @Bool.rec (fun _ => Option ex_C) none (some k245_107) (Nat.beq pc 107)) (Nat.ble pc 107) pc) (fun pc => @Bool.rec (fun _ => Option ex_C) none (some k245_106) (Nat.beq pc 106)) (Nat.ble pc 106) pc) (Nat.ble pc 113) pc) (fun pc => @Bool.rec (fun _ => Nat → Option ex_C) (fun pc => @Bool.rec (fun _ => Nat → Option ex_C) (fun pc => @Bool.rec (fun _ => Nat → Option ex_C) (fun pc => @Bool.rec (fun _ => Option ex_C) none (some k245_81) (Nat.beq pc 81)) (fun pc => @Bool.rec (fun _ => Option ex_C) none (some k245_69) (Nat.beq pc 69)) (Nat.ble pc 69) pc) (fun pc => @Bool.rec (fun _ => Option ex_C) none (some k245_52) (Nat.beq pc 52)) (Nat.ble pc 52) pc) (fun pc => @Bool.rec (fun _ => Nat → Option ex_C) (fun pc => @Bool.rec (fun _ => Nat → Option ex_C) (fun pc => @Bool.rec (fun _ => Option ex_C) none (some k245_41) (Nat.beq pc 41)) (fun pc => @Bool.rec (fun _ => Option ex_C) none (some k245_29) (Nat.beq pc 29)) (Nat.ble pc 29) pc) (fun pc => @Bool.rec (fun _ => Option ex_C) none (some k245_0) (Nat.beq pc 0)) (Nat.ble pc 0) pc) (Nat.ble pc 41) pc) (Nat.ble pc 81) pc) (Nat.ble pc 159) pc
theorem ktE_245 : ex_CTT 15 [] cd_245 kt_245 cd_245 := (ex_ct2 (ex_ct2 (ex_ct2 (ex_ct2 (ex_ct1 kE245_0) (ex_ct2 (ex_ct1 kE245_29) (ex_ct1 kE245_41))) (ex_ct2 (ex_ct1 kE245_52) (ex_ct2 (ex_ct1 kE245_69) (ex_ct1 kE245_81)))) (ex_ct2 (ex_ct2 (ex_ct1 kE245_106) (ex_ct2 (ex_ct1 kE245_107) (ex_ct1 kE245_113))) (ex_ct2 (ex_ct1 kE245_148) (ex_ct2 (ex_ct1 kE245_149) (ex_ct1 kE245_159))))) (ex_ct2 (ex_ct2 (ex_ct2 (ex_ct1 kE245_224) (ex_ct2 (ex_ct1 kE245_247) (ex_ct1 kE245_280))) (ex_ct2 (ex_ct1 kE245_313) (ex_ct2 (ex_ct1 kE245_314) (ex_ct1 kE245_332)))) (ex_ct2 (ex_ct2 (ex_ct1 kE245_333) (ex_ct2 (ex_ct1 kE245_336) (ex_ct1 kE245_355))) (ex_ct2 (ex_ct1 kE245_359) (ex_ct2 (ex_ct1 kE245_360) (ex_ct1 kE245_363))))))
set_option maxHeartbeats 100000 in
def k246_164 : ex_C := c_return_  15
set_option maxHeartbeats 100000 in
theorem kE246_164 : ex_CE 15 [] cd_246 k246_164 q246_164 := e_return_ 164 0 
set_option maxHeartbeats 100000 in
def k246_158 : ex_C := c_iinc 5 1 (c_goto 3)
set_option maxHeartbeats 100000 in
theorem kE246_158 : ex_CE 15 [] cd_246 k246_158 q246_158 := e_iinc 158 1 5 1 (e_goto 161 3 (-158))
set_option maxHeartbeats 100000 in
def k246_157 : ex_C := c_return_  15
set_option maxHeartbeats 100000 in
theorem kE246_157 : ex_CE 15 [] cd_246 k246_157 q246_157 := e_return_ 157 0 
set_option maxHeartbeats 100000 in
def k246_129 : ex_C := c_aload 1 (c_gf 14 2 (c_iload 2 (c_iload 7 (c_iastore (c_aload 1 (c_gf 14 3 (c_iload 2 (c_iload 8 (c_iastore (c_iload 5 (c_if_le 157 (c_aload 0 (c_aload 1 (c_iload 2 (c_psh 2 (c_invV [] cd_246 154 4 238 12 (k246_157)))))))))))))))))
set_option maxHeartbeats 100000 in
theorem kE246_129 : ex_CE 15 [] cd_246 k246_129 q246_129 := e_aload_aload_n 129 0 1 1 rfl (e_gf 130 86914 300 14 2 rfl rfl (e_iload_iload_n 133 0 2 2 rfl (e_iload_iload 134 0 7 (e_iastore 136 0 (e_aload_aload_n 137 0 1 1 rfl (e_gf 138 86915 303 14 3 rfl rfl (e_iload_iload_n 141 0 2 2 rfl (e_iload_iload 142 0 8 (e_iastore 144 0 (e_iload_iload 145 0 5 (e_if_le 147 157 10 (e_aload_aload_n 150 0 0 0 rfl (e_aload_aload_n 151 0 1 1 rfl (e_iload_iload_n 152 0 2 2 rfl (e_psh_iconst 153 2 2 (e_invV_invokevirtual 154 2081156 387 4 238 12 rfl rfl rfl rfl rfl rfl (kE246_157)))))))))))))))))
set_option maxHeartbeats 100000 in
def k246_119 : ex_C := c_istore 9 (c_iload 9 (c_if_ne 129 (c_goto 158)))
set_option maxHeartbeats 100000 in
theorem kE246_119 : ex_CE 15 [] cd_246 k246_119 q246_119 := e_istore_istore 119 0 9 (e_iload_iload 121 0 9 (e_if_ne 123 129 6 (e_goto 126 158 32)))
set_option maxHeartbeats 100000 in
def k246_118 : ex_C := c_psh 0 (k246_119)
set_option maxHeartbeats 100000 in
theorem kE246_118 : ex_CE 15 [] cd_246 k246_118 q246_118 := e_psh_iconst 118 0 0 (kE246_119)
set_option maxHeartbeats 100000 in
def k246_114 : ex_C := c_psh 1 (c_goto 119)
set_option maxHeartbeats 100000 in
theorem kE246_114 : ex_CE 15 [] cd_246 k246_114 q246_114 := e_psh_iconst 114 1 1 (e_goto 115 119 4)
set_option maxHeartbeats 100000 in
def k246_95 : ex_C := c_iload 8 (c_aload 3 (c_psh 1 (c_iaload (c_icmp_eq 114 (c_iload 8 (c_aload 3 (c_psh 1 (c_iaload (c_iload 4 (c_iadd (c_icmp_ne 118 (k246_114))))))))))))
set_option maxHeartbeats 100000 in
theorem kE246_95 : ex_CE 15 [] cd_246 k246_95 q246_95 := e_iload_iload 95 0 8 (e_aload_aload_n 97 0 3 3 rfl (e_psh_iconst 98 1 1 (e_iaload 99 0 (e_icmp_eq 100 114 14 (e_iload_iload 103 0 8 (e_aload_aload_n 105 0 3 3 rfl (e_psh_iconst 106 1 1 (e_iaload 107 0 (e_iload_iload 108 0 4 (e_iadd 110 0 (e_icmp_ne 111 118 7 (kE246_114))))))))))))
set_option maxHeartbeats 100000 in
def k246_35 : ex_C := c_iadd (c_psh 4 (c_irem   (c_istore 6 (c_aload 1 (c_gf 14 2 (c_iload 2 (c_iaload (c_iload 4 (c_psh 17179869195 (c_iload 6 (c_iaload (c_imul (c_iadd (c_istore 7 (c_aload 1 (c_gf 14 3 (c_iload 2 (c_iaload (c_iload 4 (c_psh 17179869196 (c_iload 6 (c_iaload (c_imul (c_iadd (c_istore 8 (c_iload 7 (c_aload 3 (c_psh 0 (c_iaload (c_icmp_eq 95 (c_iload 7 (c_aload 3 (c_psh 0 (c_iaload (c_iload 4 (c_iadd (c_icmp_ne 118 (k246_95))))))))))))))))))))))))))))))))))))))
set_option maxHeartbeats 100000 in
theorem kE246_35 : ex_CE 15 [] cd_246 k246_35 q246_35 := e_iadd 35 0 (e_psh_iconst 36 4 4 (e_irem 37 0  (e_istore_istore 38 0 6 (e_aload_aload_n 40 0 1 1 rfl (e_gf 41 86914 300 14 2 rfl rfl (e_iload_iload_n 44 0 2 2 rfl (e_iaload 45 0 (e_iload_iload 46 0 4 (e_psh_getstatic 48 17179869195 343 (e_iload_iload 51 0 6 (e_iaload 53 0 (e_imul 54 0 (e_iadd 55 0 (e_istore_istore 56 0 7 (e_aload_aload_n 58 0 1 1 rfl (e_gf 59 86915 303 14 3 rfl rfl (e_iload_iload_n 62 0 2 2 rfl (e_iaload 63 0 (e_iload_iload 64 0 4 (e_psh_getstatic 66 17179869196 346 (e_iload_iload 69 0 6 (e_iaload 71 0 (e_imul 72 0 (e_iadd 73 0 (e_istore_istore 74 0 8 (e_iload_iload 76 0 7 (e_aload_aload_n 78 0 3 3 rfl (e_psh_iconst 79 0 0 (e_iaload 80 0 (e_icmp_eq 81 95 14 (e_iload_iload 84 0 7 (e_aload_aload_n 86 0 3 3 rfl (e_psh_iconst 87 0 0 (e_iaload 88 0 (e_iload_iload 89 0 4 (e_iadd 91 0 (e_icmp_ne 92 118 26 (kE246_95))))))))))))))))))))))))))))))))))))))
set_option maxHeartbeats 100000 in
def k246_34 : ex_C := c_psh 3 (k246_35)
set_option maxHeartbeats 100000 in
theorem kE246_34 : ex_CE 15 [] cd_246 k246_34 q246_34 := e_psh_iconst 34 3 3 (kE246_35)
set_option maxHeartbeats 100000 in
def k246_24 : ex_C := c_iload 5 (c_psh 1 (c_icmp_ne 34 (c_psh 1 (c_goto 35))))
set_option maxHeartbeats 100000 in
theorem kE246_24 : ex_CE 15 [] cd_246 k246_24 q246_24 := e_iload_iload 24 0 5 (e_psh_iconst 26 1 1 (e_icmp_ne 27 34 7 (e_psh_iconst 30 1 1 (e_goto 31 35 4))))
set_option maxHeartbeats 100000 in
def k246_3 : ex_C := c_iload 5 (c_psh 3 (c_icmp_ge 164 (c_aload 1 (c_gf 14 4 (c_iload 2 (c_iaload (c_iload 5 (c_if_ne 24 (c_psh 0 (c_goto 35))))))))))
set_option maxHeartbeats 100000 in
theorem kE246_3 : ex_CE 15 [] cd_246 k246_3 q246_3 := e_iload_iload 3 0 5 (e_psh_iconst 5 3 3 (e_icmp_ge 6 164 158 (e_aload_aload_n 9 0 1 1 rfl (e_gf 10 86916 309 14 4 rfl rfl (e_iload_iload_n 13 0 2 2 rfl (e_iaload 14 0 (e_iload_iload 15 0 5 (e_if_ne 17 24 7 (e_psh_iconst 20 0 0 (e_goto 21 35 14))))))))))
set_option maxHeartbeats 100000 in
def k246_0 : ex_C := c_psh 0 (c_istore 5 (k246_3))
set_option maxHeartbeats 100000 in
theorem kE246_0 : ex_CE 15 [] cd_246 k246_0 q246_0 := e_psh_iconst 0 0 0 (e_istore_istore 1 0 5 (kE246_3))
def kt_246 : Nat → Option ex_C := fun pc => @Bool.rec (fun _ => Nat → Option ex_C) (fun pc => @Bool.rec (fun _ => Nat → Option ex_C) (fun pc => @Bool.rec (fun _ => Nat → Option ex_C) (fun pc => @Bool.rec (fun _ => Nat → Option ex_C) (fun pc => @Bool.rec (fun _ => Option ex_C) none (some k246_164) (Nat.beq pc 164)) (fun pc => @Bool.rec (fun _ => Option ex_C) none (some k246_158) (Nat.beq pc 158)) (Nat.ble pc 158) pc) (fun pc => @Bool.rec (fun _ => Nat → Option ex_C) (fun pc => @Bool.rec (fun _ => Option ex_C) none (some k246_157) (Nat.beq pc 157)) (fun pc => @Bool.rec (fun _ => Option ex_C) none (some k246_129) (Nat.beq pc 129)) (Nat.ble pc 129) pc) (Nat.ble pc 157) pc) (fun pc => @Bool.rec (fun _ => Nat → Option ex_C) (fun pc => @Bool.rec (fun _ => Nat → Option ex_C) (fun pc => @Bool.rec (fun _ => Option ex_C) none (some k246_119) (Nat.beq pc 119)) (fun pc => @Bool.rec (fun _ => Option ex_C) none (some k246_118) (Nat.beq pc 118)) (Nat.ble pc 118) pc) (fun pc => @Bool.rec (fun _ => Option ex_C) none (some k246_114) (Nat.beq pc 114)) (Nat.ble pc 114) pc) (Nat.ble pc 119) pc) (fun pc => @Bool.rec (fun _ => Nat → Option ex_C) (fun pc => @Bool.rec (fun _ => Nat → Option ex_C) (fun pc => @Bool.rec (fun _ => Nat → Option ex_C) (fun pc => @Bool.rec (fun _ => Option ex_C) none (some k246_95) (Nat.beq pc 95)) (fun pc => @Bool.rec (fun _ => Option ex_C) none (some k246_35) (Nat.beq pc 35)) (Nat.ble pc 35) pc) (fun pc => @Bool.rec (fun _ => Option ex_C) none (some k246_34) (Nat.beq pc 34)) (Nat.ble pc 34) pc) (fun pc => @Bool.rec (fun _ => Nat → Option ex_C) (fun pc => @Bool.rec (fun _ => Nat → Option ex_C) (fun pc => @Bool.rec (fun _ => Option ex_C) none (some k246_24) (Nat.beq pc 24)) (fun pc => @Bool.rec (fun _ => Option ex_C) none (some k246_3) (Nat.beq pc 3)) (Nat.ble pc 3) pc) (fun pc => @Bool.rec (fun _ => Option ex_C) none (some k246_0) (Nat.beq pc 0)) (Nat.ble pc 0) pc) (Nat.ble pc 24) pc) (Nat.ble pc 95) pc
theorem ktE_246 : ex_CTT 15 [] cd_246 kt_246 cd_246 := (ex_ct2 (ex_ct2 (ex_ct2 (ex_ct1 kE246_0) (ex_ct2 (ex_ct1 kE246_3) (ex_ct1 kE246_24))) (ex_ct2 (ex_ct1 kE246_34) (ex_ct2 (ex_ct1 kE246_35) (ex_ct1 kE246_95)))) (ex_ct2 (ex_ct2 (ex_ct1 kE246_114) (ex_ct2 (ex_ct1 kE246_118) (ex_ct1 kE246_119))) (ex_ct2 (ex_ct2 (ex_ct1 kE246_129) (ex_ct1 kE246_157)) (ex_ct2 (ex_ct1 kE246_158) (ex_ct1 kE246_164)))))
set_option maxHeartbeats 100000 in
def k247_334 : ex_C := c_aload 8 (c_areturn  5)
set_option maxHeartbeats 100000 in
theorem kE247_334 : ex_CE 5 [] cd_247 k247_334 q247_334 := e_aload_aload 334 0 8 (e_areturn 336 0 )
set_option maxHeartbeats 100000 in
def k247_272 : ex_C := c_iload 9 (c_psh 8 (c_icmp_ge 334 (c_aload 8 (c_psh 3 (c_iload 9 (c_imul (c_aload 4 (c_gf 14 2 (c_iload 9 (c_iaload (c_iastore (c_aload 8 (c_psh 3 (c_iload 9 (c_imul (c_psh 1 (c_iadd (c_aload 4 (c_gf 14 3 (c_iload 9 (c_iaload (c_iastore (c_aload 8 (c_psh 3 (c_iload 9 (c_imul (c_psh 2 (c_iadd (c_aload 4 (c_gf 14 4 (c_iload 9 (c_iaload (c_iastore (c_iinc 9 1 (c_goto 272)))))))))))))))))))))))))))))))))))
set_option maxHeartbeats 100000 in
theorem kE247_272 : ex_CE 5 [] cd_247 k247_272 q247_272 := e_iload_iload 272 0 9 (e_psh_bipush 274 8 8 (e_icmp_ge 276 334 58 (e_aload_aload 279 0 8 (e_psh_iconst 281 3 3 (e_iload_iload 282 0 9 (e_imul 284 0 (e_aload_aload 285 0 4 (e_gf 287 86914 300 14 2 rfl rfl (e_iload_iload 290 0 9 (e_iaload 292 0 (e_iastore 293 0 (e_aload_aload 294 0 8 (e_psh_iconst 296 3 3 (e_iload_iload 297 0 9 (e_imul 299 0 (e_psh_iconst 300 1 1 (e_iadd 301 0 (e_aload_aload 302 0 4 (e_gf 304 86915 303 14 3 rfl rfl (e_iload_iload 307 0 9 (e_iaload 309 0 (e_iastore 310 0 (e_aload_aload 311 0 8 (e_psh_iconst 313 3 3 (e_iload_iload 314 0 9 (e_imul 316 0 (e_psh_iconst 317 2 2 (e_iadd 318 0 (e_aload_aload 319 0 4 (e_gf 321 86916 309 14 4 rfl rfl (e_iload_iload 324 0 9 (e_iaload 326 0 (e_iastore 327 0 (e_iinc 328 1 9 1 (e_goto 331 272 (-59))))))))))))))))))))))))))))))))))))
set_option maxHeartbeats 100000 in
def k247_263 : ex_C := c_psh 24 (c_newarr 64 0 (c_astore 8 (c_psh 0 (c_istore 9 (k247_272)))))
set_option maxHeartbeats 100000 in
theorem kE247_263 : ex_CE 5 [] cd_247 k247_263 q247_263 := e_psh_bipush 263 24 24 (e_newarr 265 64 0 rfl (e_astore_astore 267 0 8 (e_psh_iconst 269 0 0 (e_istore_istore 270 0 9 (kE247_272)))))
set_option maxHeartbeats 100000 in
def k247_261 : ex_C := c_aconst_null   (c_areturn  5)
set_option maxHeartbeats 100000 in
theorem kE247_261 : ex_CE 5 [] cd_247 k247_261 q247_261 := e_aconst_null 261 0  (e_areturn 262 0 )
set_option maxHeartbeats 100000 in
def k247_247 : ex_C := c_iload 6 (c_if_eq 261 (c_aload 0 (c_aload 5 (c_invV [] cd_247 255 2 227 12 (c_if_ne 263 (k247_261))))))
set_option maxHeartbeats 100000 in
theorem kE247_247 : ex_CE 5 [] cd_247 k247_247 q247_247 := e_iload_iload 247 0 6 (e_if_eq 249 261 12 (e_aload_aload_n 252 0 0 0 rfl (e_aload_aload 253 0 5 (e_invV_invokevirtual 255 1991042 443 2 227 12 rfl rfl rfl rfl rfl rfl (e_if_ne 258 263 5 (kE247_261))))))
set_option maxHeartbeats 100000 in
def k247_227 : ex_C := c_iload 6 (c_if_ne 247 (c_aload 0 (c_gf 12 37 (c_psh 45 (c_icmp_ne 247 (c_aload 0 (c_psh 112 (c_pf 12 2 37 (k247_247)))))))))
set_option maxHeartbeats 100000 in
theorem kE247_227 : ex_CE 5 [] cd_247 k247_227 q247_227 := e_iload_iload 227 0 6 (e_if_ne 229 247 18 (e_aload_aload_n 232 0 0 0 rfl (e_gf 233 8997 353 12 37 rfl rfl (e_psh_bipush 236 45 45 (e_icmp_ne 238 247 9 (e_aload_aload_n 241 0 0 0 rfl (e_psh_bipush 242 112 112 (e_pf 244 8997 353 12 2 37 rfl rfl rfl (kE247_247)))))))))
set_option maxHeartbeats 100000 in
def k247_212 : ex_C := c_istore 6 (c_iload 7 (c_iload 10 (c_isub (c_istore 7 (c_iinc 8 1 (c_goto 96))))))
set_option maxHeartbeats 100000 in
theorem kE247_212 : ex_CE 5 [] cd_247 k247_212 q247_212 := e_istore_istore 212 0 6 (e_iload_iload 214 0 7 (e_iload_iload 216 0 10 (e_isub 218 0 (e_istore_istore 219 0 7 (e_iinc 221 1 8 1 (e_goto 224 96 (-128)))))))
set_option maxHeartbeats 100000 in
def k247_211 : ex_C := c_psh 0 (k247_212)
set_option maxHeartbeats 100000 in
theorem kE247_211 : ex_CE 5 [] cd_247 k247_211 q247_211 := e_psh_iconst 211 0 0 (kE247_212)
set_option maxHeartbeats 100000 in
def k247_179 : ex_C := c_aload 0 (c_aload 11 (c_aload 9 (c_psh 0 (c_caload   (c_aload 9 (c_psh 1 (c_caload   (c_iload 10 (c_invV [] cd_247 192 5 244 12 (c_if_eq 211 (c_aload 0 (c_aload 11 (c_invV [] cd_247 201 2 227 12 (c_if_eq 211 (c_psh 1 (c_goto 212))))))))))))))))
set_option maxHeartbeats 100000 in
theorem kE247_179 : ex_CE 5 [] cd_247 k247_179 q247_179 := e_aload_aload_n 179 0 0 0 rfl (e_aload_aload 180 0 11 (e_aload_aload 182 0 9 (e_psh_iconst 184 0 0 (e_caload 185 0  (e_aload_aload 186 0 9 (e_psh_iconst 188 1 1 (e_caload 189 0  (e_iload_iload 190 0 10 (e_invV_invokevirtual 192 2130309 440 5 244 12 rfl rfl rfl rfl rfl rfl (e_if_eq 195 211 16 (e_aload_aload_n 198 0 0 0 rfl (e_aload_aload 199 0 11 (e_invV_invokevirtual 201 1991042 443 2 227 12 rfl rfl rfl rfl rfl rfl (e_if_eq 204 211 7 (e_psh_iconst 207 1 1 (e_goto 208 212 4))))))))))))))))
set_option maxHeartbeats 100000 in
def k247_96 : ex_C := c_iload 8 (c_aload 2 (c_gf 13 2 (c_invV [] cd_247 102 1 333 16 (c_icmp_ge 227 (c_iload 7 (c_if_le 227 (c_iload 6 (c_if_eq 227 (c_aload 2 (c_gf 13 2 (c_iload 8 (c_invV [] cd_247 126 2 337 16 (c_checkcast 222 66 (c_astore 9 (c_iload 7 (c_psh 17179869198 (c_psh 17179869211 (c_aload 9 (c_psh 0 (c_caload   (c_invV [] cd_247 147 2 305 18 (c_iaload (c_invS [] cd_247 151 2 302 (c_istore 10 (c_aload 0 (c_aload 5 (c_aload 9 (c_psh 2 (c_caload   (c_invV [] cd_247 163 3 224 12 (c_astore 11 (c_aload 11 (c_ifnonnull 9 179 (c_psh 0 (c_istore 6 (c_goto 227))))))))))))))))))))))))))))))))))))
set_option maxHeartbeats 100000 in
theorem kE247_96 : ex_CE 5 [] cd_247 k247_96 q247_96 := e_iload_iload 96 0 8 (e_aload_aload_n 98 0 2 2 rfl (e_gf 99 86850 245 13 2 rfl rfl (e_invV_invokeinterface 102 2859521 178 1 1 333 16 rfl rfl rfl rfl rfl rfl (e_icmp_ge 107 227 120 (e_iload_iload 110 0 7 (e_if_le 112 227 115 (e_iload_iload 115 0 6 (e_if_eq 117 227 110 (e_aload_aload_n 120 0 2 2 rfl (e_gf 121 86850 245 13 2 rfl rfl (e_iload_iload 124 0 8 (e_invV_invokeinterface 126 2892290 186 2 2 337 16 rfl rfl rfl rfl rfl rfl (e_checkcast 131 66 222 (e_astore_astore 134 0 9 (e_iload_iload 136 0 7 (e_psh_getstatic 138 17179869198 224 (e_psh_ldc 141 17179869211 193 (e_aload_aload 143 0 9 (e_psh_iconst 145 0 0 (e_caload 146 0  (e_invV_invokevirtual 147 2630210 195 2 305 18 rfl rfl rfl rfl rfl rfl (e_iaload 150 0 (e_invS 151 2613218 283 2 302 rfl rfl rfl (e_istore_istore 154 0 10 (e_aload_aload_n 156 0 0 0 rfl (e_aload_aload 157 0 5 (e_aload_aload 159 0 9 (e_psh_iconst 161 2 2 (e_caload 162 0  (e_invV_invokevirtual 163 1966467 437 3 224 12 rfl rfl rfl rfl rfl rfl (e_astore_astore 166 0 11 (e_aload_aload 168 0 11 (e_ifnonnull 170 179 9 (e_psh_iconst 173 0 0 (e_istore_istore 174 0 6 (e_goto 176 227 51))))))))))))))))))))))))))))))))))))
set_option maxHeartbeats 100000 in
def k247_88 : ex_C := c_istore 6 (c_iload 3 (c_istore 7 (c_psh 0 (c_istore 8 (k247_96)))))
set_option maxHeartbeats 100000 in
theorem kE247_88 : ex_CE 5 [] cd_247 k247_88 q247_88 := e_istore_istore 88 0 6 (e_iload_iload_n 90 0 3 3 rfl (e_istore_istore 91 0 7 (e_psh_iconst 93 0 0 (e_istore_istore 94 0 8 (kE247_96)))))
set_option maxHeartbeats 100000 in
def k247_87 : ex_C := c_psh 0 (k247_88)
set_option maxHeartbeats 100000 in
theorem kE247_87 : ex_CE 5 [] cd_247 k247_87 q247_87 := e_psh_iconst 87 0 0 (kE247_88)
set_option maxHeartbeats 100000 in
def k247_59 : ex_C := c_aload 0 (c_aload 1 (c_invV [] cd_247 61 2 222 12 (c_astore 4 (c_aload 0 (c_aload 4 (c_aload 2 (c_gf 13 1 (c_invV [] cd_247 73 3 224 12 (c_astore 5 (c_aload 5 (c_ifnull 7 87 (c_psh 1 (c_goto 88)))))))))))))
set_option maxHeartbeats 100000 in
theorem kE247_59 : ex_CE 5 [] cd_247 k247_59 q247_59 := e_aload_aload_n 59 0 0 0 rfl (e_aload_aload_n 60 0 1 1 rfl (e_invV_invokevirtual 61 1950082 430 2 222 12 rfl rfl rfl rfl rfl rfl (e_astore_astore 64 0 4 (e_aload_aload_n 66 0 0 0 rfl (e_aload_aload 67 0 4 (e_aload_aload_n 69 0 2 2 rfl (e_gf 70 74561 434 13 1 rfl rfl (e_invV_invokevirtual 73 1966467 437 3 224 12 rfl rfl rfl rfl rfl rfl (e_astore_astore 76 0 5 (e_aload_aload 78 0 5 (e_ifnull 80 87 7 (e_psh_iconst 83 1 1 (e_goto 84 88 4)))))))))))))
set_option maxHeartbeats 100000 in
def k247_14 : ex_C := c_iload 4 (c_psh 8 (c_icmp_ge 59 (c_aload 0 (c_gf 12 33 (c_iload 4 (c_psh 0 (c_iastore (c_aload 0 (c_gf 12 36 (c_iload 4 (c_psh 0 (c_iastore (c_aload 0 (c_gf 12 34 (c_iload 4 (c_psh 0 (c_iastore (c_aload 0 (c_gf 12 35 (c_iload 4 (c_psh 0 (c_iastore (c_iinc 4 1 (c_goto 14))))))))))))))))))))))))
set_option maxHeartbeats 100000 in
theorem kE247_14 : ex_CE 5 [] cd_247 k247_14 q247_14 := e_iload_iload 14 0 4 (e_psh_bipush 16 8 8 (e_icmp_ge 18 59 41 (e_aload_aload_n 21 0 0 0 rfl (e_gf 22 21281 71 12 33 rfl rfl (e_iload_iload 25 0 4 (e_psh_iconst 27 0 0 (e_iastore 28 0 (e_aload_aload_n 29 0 0 0 rfl (e_gf 30 21284 80 12 36 rfl rfl (e_iload_iload 33 0 4 (e_psh_iconst 35 0 0 (e_iastore 36 0 (e_aload_aload_n 37 0 0 0 rfl (e_gf 38 21282 74 12 34 rfl rfl (e_iload_iload 41 0 4 (e_psh_iconst 43 0 0 (e_iastore 44 0 (e_aload_aload_n 45 0 0 0 rfl (e_gf 46 21283 77 12 35 rfl rfl (e_iload_iload 49 0 4 (e_psh_iconst 51 0 0 (e_iastore 52 0 (e_iinc 53 1 4 1 (e_goto 56 14 (-42)))))))))))))))))))))))))
set_option maxHeartbeats 100000 in
def k247_0 : ex_C := c_aload 0 (c_psh 45 (c_pf 12 2 37 (c_aload 0 (c_psh 4294967295 (c_pf 12 0 38 (c_psh 0 (c_istore 4 (k247_14))))))))
set_option maxHeartbeats 100000 in
theorem kE247_0 : ex_CE 5 [] cd_247 k247_0 q247_0 := e_aload_aload_n 0 0 0 0 rfl (e_psh_bipush 1 45 45 (e_pf 3 8997 353 12 2 37 rfl rfl rfl (e_aload_aload_n 6 0 0 0 rfl (e_psh_iconst 7 4294967295 (-1) (e_pf 8 806 356 12 0 38 rfl rfl rfl (e_psh_iconst 11 0 0 (e_istore_istore 12 0 4 (kE247_14))))))))
def kt_247 : Nat → Option ex_C := fun pc => @Bool.rec (fun _ => Nat → Option ex_C) (fun pc => @Bool.rec (fun _ => Nat → Option ex_C) (fun pc => @Bool.rec (fun _ => Nat → Option ex_C) (fun pc => @Bool.rec (fun _ => Nat → Option ex_C) (fun pc => @Bool.rec (fun _ => Option ex_C) none (some k247_334) (Nat.beq pc 334)) (fun pc => @Bool.rec (fun _ => Option ex_C) none (some k247_272) (Nat.beq pc 272)) (Nat.ble pc 272) pc) (fun pc => @Bool.rec (fun _ => Nat → Option ex_C) (fun pc => @Bool.rec (fun _ => Option ex_C) none (some k247_263) (Nat.beq pc 263)) (fun pc => @Bool.rec (fun _ => Option ex_C) none (some k247_261) (Nat.beq pc 261)) (Nat.ble pc 261) pc) (Nat.ble pc 263) pc) (fun pc => @Bool.rec (fun _ => Nat → Option ex_C) (fun pc => @Bool.rec (fun _ => Nat → Option ex_C) (fun pc => @Bool.rec (fun _ => Option ex_C) none (some k247_247) (Nat.beq pc 247)) (fun pc => @Bool.rec (fun _ => Option ex_C) none (some k247_227) (Nat.beq pc 227)) (Nat.ble pc 227) pc) (fun pc => @Bool.rec (fun _ => Nat → Option ex_C) (fun pc => @Bool.rec (fun _ => Option ex_C) none (some k247_212) (Nat.beq pc 212)) (fun pc => @Bool.rec (fun _ => Option ex_C) none (some k247_211) (Nat.beq pc 211)) (Nat.ble pc 211) pc) (Nat.ble pc 212) pc) (Nat.ble pc 247) pc) (fun pc => @Bool.rec (fun _ => Nat → Option ex_C) (fun pc => @Bool.rec (fun _ => Nat → Option ex_C) (fun pc => @Bool.rec (fun _ => Nat → Option ex_C) (fun pc => @Bool.rec (fun _ => Option ex_C) none (some k247_179) (Nat.beq pc 179)) (fun pc => @Bool.rec (fun _ => Option ex_C) none (some k247_96) (Nat.beq pc 96)) (Nat.ble pc 96) pc) (fun pc => @Bool.rec (fun _ => Nat → Option ex_C) (fun pc => @Bool.rec (fun _ => Option ex_C) none (some k247_88) (Nat.beq pc 88)) (fun pc => @Bool.rec (fun _ => Option ex_C) none (some k247_87) (Nat.beq pc 87)) (Nat.ble pc 87) pc) (Nat.ble pc 88) pc) (fun pc => @Bool.rec (fun _ => Nat → Option ex_C) (fun pc => @Bool.rec (fun _ => Nat → Option ex_C) (fun pc => @Bool.rec (fun _ => Option ex_C) none (some k247_59) (Nat.beq pc 59)) (fun pc => @Bool.rec (fun _ => Option ex_C) none (some k247_14) (Nat.beq pc 14)) (Nat.ble pc 14) pc) (fun pc => @Bool.rec (fun _ => Option ex_C) none (some k247_0) (Nat.beq pc 0)) (Nat.ble pc 0) pc) (Nat.ble pc 59) pc) (Nat.ble pc 179) pc
theorem ktE_247 : ex_CTT 5 [] cd_247 kt_247 cd_247 := (ex_ct2 (ex_ct2 (ex_ct2 (ex_ct1 kE247_0) (ex_ct2 (ex_ct1 kE247_14) (ex_ct1 kE247_59))) (ex_ct2 (ex_ct2 (ex_ct1 kE247_87) (ex_ct1 kE247_88)) (ex_ct2 (ex_ct1 kE247_96) (ex_ct1 kE247_179)))) (ex_ct2 (ex_ct2 (ex_ct2 (ex_ct1 kE247_211) (ex_ct1 kE247_212)) (ex_ct2 (ex_ct1 kE247_227) (ex_ct1 kE247_247))) (ex_ct2 (ex_ct2 (ex_ct1 kE247_261) (ex_ct1 kE247_263)) (ex_ct2 (ex_ct1 kE247_272) (ex_ct1 kE247_334)))))
end
