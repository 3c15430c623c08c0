noncomputable section
set_option maxHeartbeats 100000 in
def k248_0 : ex_C := c_aload 0 (c_iload 1 (c_pf 12 2 26 (c_aload 0 (c_iload 2 (c_pf 12 0 17 (c_aload 0 (c_iload 3 (c_invV [] cd_248 12 2 179 12 (c_ireturn  0)))))))))
set_option maxHeartbeats 100000 in
theorem kE248_0 : ex_CE 0 [] cd_248 k248_0 q248_0 := e_aload_aload_n 0 0 0 0 rfl (e_iload_iload_n 1 0 1 1 rfl (e_pf 2 8986 63 12 2 26 rfl rfl rfl (e_aload_aload_n 5 0 0 0 rfl (e_iload_iload_n 6 0 2 2 rfl (e_pf 7 785 446 12 0 17 rfl rfl rfl (e_aload_aload_n 10 0 0 0 rfl (e_iload_iload_n 11 0 3 3 rfl (e_invV_invokevirtual 12 1597826 449 2 179 12 rfl rfl rfl rfl rfl rfl (e_ireturn 15 0 )))))))))
def kt_248 : Nat → Option ex_C := fun pc => @Bool.rec (fun _ => Option ex_C) none (some k248_0) (Nat.beq pc 0)
theorem ktE_248 : ex_CTT 0 [] cd_248 kt_248 cd_248 := (ex_ct1 kE248_0)
set_option maxHeartbeats 100000 in
def k249_146 : ex_C := c_return_  15
set_option maxHeartbeats 100000 in
theorem kE249_146 : ex_CE 15 [] cd_249 k249_146 q249_146 := e_return_ 146 0 
set_option maxHeartbeats 100000 in
def k249_140 : ex_C := c_iinc 5 1 (c_goto 3)
set_option maxHeartbeats 100000 in
theorem kE249_140 : ex_CE 15 [] cd_249 k249_140 q249_140 := e_iinc 140 1 5 1 (e_goto 143 3 (-140))
set_option maxHeartbeats 100000 in
def k249_125 : ex_C := c_iadd (c_pf 12 0 24 (c_aload 0 (c_gf 12 12 (c_iload 5 (c_aload 3 (c_iload 5 (c_iaload (c_iastore (k249_140)))))))))
set_option maxHeartbeats 100000 in
theorem kE249_125 : ex_CE 15 [] cd_249 k249_125 q249_125 := e_iadd 125 0 (e_pf 126 792 138 12 0 24 rfl rfl rfl (e_aload_aload_n 129 0 0 0 rfl (e_gf 130 86796 50 12 12 rfl rfl (e_iload_iload 133 0 5 (e_aload_aload_n 135 0 3 3 rfl (e_iload_iload 136 0 5 (e_iaload 138 0 (e_iastore 139 0 (kE249_140)))))))))
set_option maxHeartbeats 100000 in
def k249_124 : ex_C := c_psh 0 (k249_125)
set_option maxHeartbeats 100000 in
theorem kE249_124 : ex_CE 15 [] cd_249 k249_124 q249_124 := e_psh_iconst 124 0 0 (kE249_125)
set_option maxHeartbeats 100000 in
def k249_93 : ex_C := c_aload 4 (c_iload 5 (c_iaload (c_if_le 140 (c_aload 0 (c_dup   (c_gf 12 24 (c_aload 2 (c_iload 5 (c_iaload (c_aload 0 (c_gf 12 12 (c_iload 5 (c_iaload (c_icmp_ne 124 (c_psh 1 (c_goto 125))))))))))))))))
set_option maxHeartbeats 100000 in
theorem kE249_93 : ex_CE 15 [] cd_249 k249_93 q249_93 := e_aload_aload 93 0 4 (e_iload_iload 95 0 5 (e_iaload 97 0 (e_if_le 98 140 42 (e_aload_aload_n 101 0 0 0 rfl (e_dup 102 0  (e_gf 103 792 138 12 24 rfl rfl (e_aload_aload_n 106 0 2 2 rfl (e_iload_iload 107 0 5 (e_iaload 109 0 (e_aload_aload_n 110 0 0 0 rfl (e_gf 111 86796 50 12 12 rfl rfl (e_iload_iload 114 0 5 (e_iaload 116 0 (e_icmp_ne 117 124 7 (e_psh_iconst 120 1 1 (e_goto 121 125 4))))))))))))))))
set_option maxHeartbeats 100000 in
def k249_78 : ex_C := c_iadd (c_pf 12 0 23 (c_aload 0 (c_gf 12 11 (c_iload 5 (c_aload 1 (c_iload 5 (c_iaload (c_iastore (k249_93)))))))))
set_option maxHeartbeats 100000 in
theorem kE249_78 : ex_CE 15 [] cd_249 k249_78 q249_78 := e_iadd 78 0 (e_pf 79 791 135 12 0 23 rfl rfl rfl (e_aload_aload_n 82 0 0 0 rfl (e_gf 83 86795 47 12 11 rfl rfl (e_iload_iload 86 0 5 (e_aload_aload_n 88 0 1 1 rfl (e_iload_iload 89 0 5 (e_iaload 91 0 (e_iastore 92 0 (kE249_93)))))))))
set_option maxHeartbeats 100000 in
def k249_77 : ex_C := c_psh 0 (k249_78)
set_option maxHeartbeats 100000 in
theorem kE249_77 : ex_CE 15 [] cd_249 k249_77 q249_77 := e_psh_iconst 77 0 0 (kE249_78)
set_option maxHeartbeats 100000 in
def k249_70 : ex_C := c_icmp_eq 77 (c_psh 1 (c_goto 78))
set_option maxHeartbeats 100000 in
theorem kE249_70 : ex_CE 15 [] cd_249 k249_70 q249_70 := e_icmp_eq 70 77 7 (e_psh_iconst 73 1 1 (e_goto 74 78 4))
set_option maxHeartbeats 100000 in
def k249_69 : ex_C := c_psh 0 (k249_70)
set_option maxHeartbeats 100000 in
theorem kE249_69 : ex_CE 15 [] cd_249 k249_69 q249_69 := e_psh_iconst 69 0 0 (kE249_70)
set_option maxHeartbeats 100000 in
def k249_58 : ex_C := c_aload 1 (c_iload 5 (c_iaload (c_if_le 69 (c_psh 1 (c_goto 70)))))
set_option maxHeartbeats 100000 in
theorem kE249_58 : ex_CE 15 [] cd_249 k249_58 q249_58 := e_aload_aload_n 58 0 1 1 rfl (e_iload_iload 59 0 5 (e_iaload 61 0 (e_if_le 62 69 7 (e_psh_iconst 65 1 1 (e_goto 66 70 4)))))
set_option maxHeartbeats 100000 in
def k249_57 : ex_C := c_psh 0 (k249_58)
set_option maxHeartbeats 100000 in
theorem kE249_57 : ex_CE 15 [] cd_249 k249_57 q249_57 := e_psh_iconst 57 0 0 (kE249_58)
set_option maxHeartbeats 100000 in
def k249_3 : ex_C := c_iload 5 (c_psh 8 (c_icmp_ge 146 (c_aload 0 (c_gf 12 10 (c_iload 5 (c_aload 1 (c_iload 5 (c_iaload (c_iastore (c_aload 1 (c_iload 5 (c_iaload (c_if_eq 93 (c_aload 0 (c_dup   (c_gf 12 23 (c_aload 0 (c_gf 12 11 (c_iload 5 (c_iaload (c_if_eq 77 (c_aload 0 (c_gf 12 11 (c_iload 5 (c_iaload (c_if_le 57 (c_psh 1 (c_goto 58))))))))))))))))))))))))))))
set_option maxHeartbeats 100000 in
theorem kE249_3 : ex_CE 15 [] cd_249 k249_3 q249_3 := e_iload_iload 3 0 5 (e_psh_bipush 5 8 8 (e_icmp_ge 7 146 139 (e_aload_aload_n 10 0 0 0 rfl (e_gf 11 86794 44 12 10 rfl rfl (e_iload_iload 14 0 5 (e_aload_aload_n 16 0 1 1 rfl (e_iload_iload 17 0 5 (e_iaload 19 0 (e_iastore 20 0 (e_aload_aload_n 21 0 1 1 rfl (e_iload_iload 22 0 5 (e_iaload 24 0 (e_if_eq 25 93 68 (e_aload_aload_n 28 0 0 0 rfl (e_dup 29 0  (e_gf 30 791 135 12 23 rfl rfl (e_aload_aload_n 33 0 0 0 rfl (e_gf 34 86795 47 12 11 rfl rfl (e_iload_iload 37 0 5 (e_iaload 39 0 (e_if_eq 40 77 37 (e_aload_aload_n 43 0 0 0 rfl (e_gf 44 86795 47 12 11 rfl rfl (e_iload_iload 47 0 5 (e_iaload 49 0 (e_if_le 50 57 7 (e_psh_iconst 53 1 1 (e_goto 54 58 4))))))))))))))))))))))))))))
set_option maxHeartbeats 100000 in
def k249_0 : ex_C := c_psh 0 (c_istore 5 (k249_3))
set_option maxHeartbeats 100000 in
theorem kE249_0 : ex_CE 15 [] cd_249 k249_0 q249_0 := e_psh_iconst 0 0 0 (e_istore_istore 1 0 5 (kE249_3))
def kt_249 : Nat → Option ex_C := fun pc => @Bool.rec (fun _ => Nat → Option ex_C) (fun pc => @Bool.rec (fun _ => Nat → Option ex_C) (fun pc => @Bool.rec (fun _ => Nat → Option ex_C) (fun pc => @Bool.rec (fun _ => Nat → Option ex_C) (fun pc => @Bool.rec (fun _ => Option ex_C) none (some k249_146) (Nat.beq pc 146)) (fun pc => @Bool.rec (fun _ => Option ex_C) none (some k249_140) (Nat.beq pc 140)) (Nat.ble pc 140) pc) (fun pc => @Bool.rec (fun _ => Nat → Option ex_C) (fun pc => @Bool.rec (fun _ => Option ex_C) none (some k249_125) (Nat.beq pc 125)) (fun pc => @Bool.rec (fun _ => Option ex_C) none (some k249_124) (Nat.beq pc 124)) (Nat.ble pc 124) pc) (Nat.ble pc 125) pc) (fun pc => @Bool.rec (fun _ => Nat → Option ex_C) (fun pc => @Bool.rec (fun _ => Nat → Option ex_C) (fun pc => @Bool.rec (fun _ => Option ex_C) none (some k249_93) (Nat.beq pc 93)) (fun pc => @Bool.rec (fun _ => Option ex_C) none (some k249_78) (Nat.beq pc 78)) (Nat.ble pc 78) pc) (fun pc => @Bool.rec (fun _ => Option ex_C) none (some k249_77) (Nat.beq pc 77)) (Nat.ble pc 77) pc) (Nat.ble pc 93) pc) (fun pc => @Bool.rec (fun _ => Nat → Option ex_C) (fun pc => @Bool.rec (fun _ => Nat → Option ex_C) (fun pc => @Bool.rec (fun _ => Nat → Option ex_C) (fun pc => @Bool.rec (fun _ => Option ex_C) none (some k249_70) (Nat.beq pc 70)) (fun pc => @Bool.rec (fun _ => Option ex_C) none (some k249_69) (Nat.beq pc 69)) (Nat.ble pc 69) pc) (fun pc => @Bool.rec (fun _ => Option ex_C) none (some k249_58) (Nat.beq pc 58)) (Nat.ble pc 58) pc) (fun pc => @Bool.rec (fun _ => Nat → Option ex_C) (fun pc => @Bool.rec (fun _ => Nat → Option ex_C) (fun pc => @Bool.rec (fun _ => Option ex_C) none (some k249_57) (Nat.beq pc 57)) (fun pc => @Bool.rec (fun _ => Option ex_C) none (some k249_3) (Nat.beq pc 3)) (Nat.ble pc 3) pc) (fun pc => @Bool.rec (fun _ => Option ex_C) none (some k249_0) (Nat.beq pc 0)) (Nat.ble pc 0) pc) (Nat.ble pc 57) pc) (Nat.ble pc 70) pc
theorem ktE_249 : ex_CTT 15 [] cd_249 kt_249 cd_249 := (ex_ct2 (ex_ct2 (ex_ct2 (ex_ct1 kE249_0) (ex_ct2 (ex_ct1 kE249_3) (ex_ct1 kE249_57))) (ex_ct2 (ex_ct1 kE249_58) (ex_ct2 (ex_ct1 kE249_69) (ex_ct1 kE249_70)))) (ex_ct2 (ex_ct2 (ex_ct1 kE249_77) (ex_ct2 (ex_ct1 kE249_78) (ex_ct1 kE249_93))) (ex_ct2 (ex_ct2 (ex_ct1 kE249_124) (ex_ct1 kE249_125)) (ex_ct2 (ex_ct1 kE249_140) (ex_ct1 kE249_146)))))
set_option maxHeartbeats 100000 in
def k250_29 : ex_C := c_iadd (c_pf 12 0 22 (c_return_  15))
set_option maxHeartbeats 100000 in
theorem kE250_29 : ex_CE 15 [] cd_250 k250_29 q250_29 := e_iadd 29 0 (e_pf 30 790 455 12 0 22 rfl rfl rfl (e_return_ 33 0 ))
set_option maxHeartbeats 100000 in
def k250_28 : ex_C := c_iload 1 (k250_29)
set_option maxHeartbeats 100000 in
theorem kE250_28 : ex_CE 15 [] cd_250 k250_28 q250_28 := e_iload_iload_n 28 0 1 1 rfl (kE250_29)
set_option maxHeartbeats 100000 in
def k250_0 : ex_C := c_aload 0 (c_dup   (c_gf 12 25 (c_iload 1 (c_i2l   (c_ladd   (c_pf 12 3 25 (c_aload 0 (c_dup   (c_gf 12 22 (c_aload 0 (c_gf 12 21 (c_psh 4294967295 (c_icmp_ne 28 (c_psh 0 (c_goto 29)))))))))))))))
set_option maxHeartbeats 100000 in
theorem kE250_0 : ex_CE 15 [] cd_250 k250_0 q250_0 := e_aload_aload_n 0 0 0 0 rfl (e_dup 1 0  (e_gf 2 13081 452 12 25 rfl rfl (e_iload_iload_n 5 0 1 1 rfl (e_i2l 6 0  (e_ladd 7 0  (e_pf 8 13081 452 12 3 25 rfl rfl rfl (e_aload_aload_n 11 0 0 0 rfl (e_dup 12 0  (e_gf 13 790 455 12 22 rfl rfl (e_aload_aload_n 16 0 0 0 rfl (e_gf 17 789 60 12 21 rfl rfl (e_psh_iconst 20 4294967295 (-1) (e_icmp_ne 21 28 7 (e_psh_iconst 24 0 0 (e_goto 25 29 4)))))))))))))))
def kt_250 : Nat → Option ex_C := fun pc => @Bool.rec (fun _ => Nat → Option ex_C) (fun pc => @Bool.rec (fun _ => Nat → Option ex_C) (fun pc => @Bool.rec (fun _ => Option ex_C) none (some k250_29) (Nat.beq pc 29)) (fun pc => @Bool.rec (fun _ => Option ex_C) none (some k250_28) (Nat.beq pc 28)) (Nat.ble pc 28) pc) (fun pc => @Bool.rec (fun _ => Option ex_C) none (some k250_0) (Nat.beq pc 0)) (Nat.ble pc 0) pc
theorem ktE_250 : ex_CTT 15 [] cd_250 kt_250 cd_250 := (ex_ct2 (ex_ct1 kE250_0) (ex_ct2 (ex_ct1 kE250_28) (ex_ct1 kE250_29)))
set_option maxHeartbeats 100000 in
def k251_387 : ex_C := c_pf 12 5 27 (c_aload 0 (c_iload 9 (c_pf 12 0 28 (c_aload 0 (c_aload 7 (c_gf 13 3 (c_iload 12 (c_isub (c_pf 12 0 29 (c_aload 0 (c_aload 10 (c_pf 12 5 30 (c_aload 0 (c_aload 0 (c_gf 12 33 (c_clone (c_checkcast 114 64 (c_pf 12 5 31 (c_aload 0 (c_aload 0 (c_gf 12 36 (c_clone (c_checkcast 114 64 (c_pf 12 5 32 (c_iload 9 (c_ireturn  0))))))))))))))))))))))))))
set_option maxHeartbeats 100000 in
theorem kE251_387 : ex_CE 0 [] cd_251 k251_387 q251_387 := e_pf 387 21275 67 12 5 27 rfl rfl rfl (e_aload_aload_n 390 0 0 0 rfl (e_iload_iload 391 0 9 (e_pf 393 796 490 12 0 28 rfl rfl rfl (e_aload_aload_n 396 0 0 0 rfl (e_aload_aload 397 0 7 (e_gf 399 835 249 13 3 rfl rfl (e_iload_iload 402 0 12 (e_isub 404 0 (e_pf 405 797 493 12 0 29 rfl rfl rfl (e_aload_aload_n 408 0 0 0 rfl (e_aload_aload 409 0 10 (e_pf 411 21278 496 12 5 30 rfl rfl rfl (e_aload_aload_n 414 0 0 0 rfl (e_aload_aload_n 415 0 0 0 rfl (e_gf 416 21281 71 12 33 rfl rfl (e_clone (e_checkcast 422 64 114 (e_pf 425 21279 499 12 5 31 rfl rfl rfl (e_aload_aload_n 428 0 0 0 rfl (e_aload_aload_n 429 0 0 0 rfl (e_gf 430 21284 80 12 36 rfl rfl (e_clone (e_checkcast 436 64 114 (e_pf 439 21280 502 12 5 32 rfl rfl rfl (e_iload_iload 442 0 9 (e_ireturn 444 0 ))))))))))))))))))))))))))
set_option maxHeartbeats 100000 in
def k251_386 : ex_C := c_aconst_null   (k251_387)
set_option maxHeartbeats 100000 in
theorem kE251_386 : ex_CE 0 [] cd_251 k251_386 q251_386 := e_aconst_null 386 0  (kE251_387)
set_option maxHeartbeats 100000 in
def k251_334 : ex_C := c_aload 0 (c_aload 0 (c_gf 12 33 (c_aload 0 (c_gf 12 34 (c_aload 0 (c_gf 12 35 (c_aload 0 (c_gf 12 36 (c_invV [] cd_251 351 5 249 12 (c_aload 7 (c_gf 13 3 (c_iload 4 (c_imul (c_iload 5 (c_idiv   (c_istore 12 (c_aload 0 (c_iload 12 (c_invV [] cd_251 370 2 250 12 (c_aload 0 (c_iload 9 (c_iload 8 (c_icmp_ge 386 (c_aload 7 (c_goto 387)))))))))))))))))))))))))
set_option maxHeartbeats 100000 in
theorem kE251_334 : ex_CE 0 [] cd_251 k251_334 q251_334 := e_aload_aload_n 334 0 0 0 rfl (e_aload_aload_n 335 0 0 0 rfl (e_gf 336 21281 71 12 33 rfl rfl (e_aload_aload_n 339 0 0 0 rfl (e_gf 340 21282 74 12 34 rfl rfl (e_aload_aload_n 343 0 0 0 rfl (e_gf 344 21283 77 12 35 rfl rfl (e_aload_aload_n 347 0 0 0 rfl (e_gf 348 21284 80 12 36 rfl rfl (e_invV_invokevirtual 351 2171269 483 5 249 12 rfl rfl rfl rfl rfl rfl (e_aload_aload 354 0 7 (e_gf 356 835 249 13 3 rfl rfl (e_iload_iload 359 0 4 (e_imul 361 0 (e_iload_iload 362 0 5 (e_idiv 364 0  (e_istore_istore 365 0 12 (e_aload_aload_n 367 0 0 0 rfl (e_iload_iload 368 0 12 (e_invV_invokevirtual 370 2179458 487 2 250 12 rfl rfl rfl rfl rfl rfl (e_aload_aload_n 373 0 0 0 rfl (e_iload_iload 374 0 9 (e_iload_iload 376 0 8 (e_icmp_ge 378 386 8 (e_aload_aload 381 0 7 (e_goto 383 387 4)))))))))))))))))))))))))
set_option maxHeartbeats 100000 in
def k251_240 : ex_C := c_aload 0 (c_psh 0 (c_pf 12 0 13 (c_aload 0 (c_psh 45 (c_pf 12 2 26 (c_aload 0 (c_psh 4294967295 (c_pf 12 0 17 (c_aload 0 (c_dup   (c_gf 12 19 (c_psh 1 (c_iadd (c_pf 12 0 19 (c_aload 0 (c_aload 11 (c_invV [] cd_251 269 2 184 12 (c_aload 0 (c_gf 12 5 (c_aload 10 (c_invV [] cd_251 278 2 339 16 (c_pop   (c_aload 0 (c_gf 12 7 (c_iload 1 (c_invS [] cd_251 289 1 293 (c_invV [] cd_251 292 2 339 16 (c_pop   (c_aload 0 (c_gf 12 5 (c_invV [] cd_251 302 1 333 16 (c_psh 20 (c_icmp_le 334 (c_aload 0 (c_gf 12 5 (c_psh 0 (c_invV [] cd_251 317 2 340 16 (c_pop   (c_aload 0 (c_gf 12 7 (c_psh 0 (c_invV [] cd_251 328 2 340 16 (c_pop   (k251_334))))))))))))))))))))))))))))))))))))))))))))
set_option maxHeartbeats 100000 in
theorem kE251_240 : ex_CE 0 [] cd_251 k251_240 q251_240 := e_aload_aload_n 240 0 0 0 rfl (e_psh_iconst 241 0 0 (e_pf 242 781 97 12 0 13 rfl rfl rfl (e_aload_aload_n 245 0 0 0 rfl (e_psh_bipush 246 45 45 (e_pf 248 8986 63 12 2 26 rfl rfl rfl (e_aload_aload_n 251 0 0 0 rfl (e_psh_iconst 252 4294967295 (-1) (e_pf 253 785 446 12 0 17 rfl rfl rfl (e_aload_aload_n 256 0 0 0 rfl (e_dup 257 0  (e_gf 258 787 471 12 19 rfl rfl (e_psh_iconst 261 1 1 (e_iadd 262 0 (e_pf 263 787 471 12 0 19 rfl rfl rfl (e_aload_aload_n 266 0 0 0 rfl (e_aload_aload 267 0 11 (e_invV_invokevirtual 269 1638786 93 2 184 12 rfl rfl rfl rfl rfl rfl (e_aload_aload_n 272 0 0 0 rfl (e_gf 273 86789 29 12 5 rfl rfl (e_aload_aload 276 0 10 (e_invV_invokeinterface 278 2908674 83 2 2 339 16 rfl rfl rfl rfl rfl rfl (e_pop 283 0  (e_aload_aload_n 284 0 0 0 rfl (e_gf 285 86791 35 12 7 rfl rfl (e_iload_iload_n 288 0 1 1 rfl (e_invS 289 2539489 474 1 293 rfl rfl rfl (e_invV_invokeinterface 292 2908674 83 2 2 339 16 rfl rfl rfl rfl rfl rfl (e_pop 297 0  (e_aload_aload_n 298 0 0 0 rfl (e_gf 299 86789 29 12 5 rfl rfl (e_invV_invokeinterface 302 2859521 178 1 1 333 16 rfl rfl rfl rfl rfl rfl (e_psh_bipush 307 20 20 (e_icmp_le 309 334 25 (e_aload_aload_n 312 0 0 0 rfl (e_gf 313 86789 29 12 5 rfl rfl (e_psh_iconst 316 0 0 (e_invV_invokeinterface 317 2916866 480 2 2 340 16 rfl rfl rfl rfl rfl rfl (e_pop 322 0  (e_aload_aload_n 323 0 0 0 rfl (e_gf 324 86791 35 12 7 rfl rfl (e_psh_iconst 327 0 0 (e_invV_invokeinterface 328 2916866 480 2 2 340 16 rfl rfl rfl rfl rfl rfl (e_pop 333 0  (kE251_334))))))))))))))))))))))))))))))))))))))))))))
set_option maxHeartbeats 100000 in
def k251_193 : ex_C := c_iload 8 (c_iload 4 (c_imul (c_iload 5 (c_idiv   (c_istore 9 (c_aload 0 (c_invV [] cd_251 204 1 185 12 (c_astore 10 (c_aload 0 (c_aload 10 (c_aload 7 (c_iload 9 (c_invV [] cd_251 216 4 247 12 (c_astore 11 (c_aload 11 (c_ifnonnull 17 240 (c_aload 0 (c_aload 0 (c_gf 12 37 (c_aload 0 (c_gf 12 38 (c_psh 3 (c_invV [] cd_251 236 4 248 12 (c_ireturn  0))))))))))))))))))))))))
set_option maxHeartbeats 100000 in
theorem kE251_193 : ex_CE 0 [] cd_251 k251_193 q251_193 := e_iload_iload 193 0 8 (e_iload_iload 195 0 4 (e_imul 197 0 (e_iload_iload 198 0 5 (e_idiv 200 0  (e_istore_istore 201 0 9 (e_aload_aload_n 203 0 0 0 rfl (e_invV_invokevirtual 204 1646977 129 1 185 12 rfl rfl rfl rfl rfl rfl (e_astore_astore 207 0 10 (e_aload_aload_n 209 0 0 0 rfl (e_aload_aload 210 0 10 (e_aload_aload 212 0 7 (e_iload_iload 214 0 9 (e_invV_invokevirtual 216 2154884 467 4 247 12 rfl rfl rfl rfl rfl rfl (e_astore_astore 219 0 11 (e_aload_aload 221 0 11 (e_ifnonnull 223 240 17 (e_aload_aload_n 226 0 0 0 rfl (e_aload_aload_n 227 0 0 0 rfl (e_gf 228 8997 353 12 37 rfl rfl (e_aload_aload_n 231 0 0 0 rfl (e_gf 232 806 356 12 38 rfl rfl (e_psh_iconst 235 3 3 (e_invV_invokevirtual 236 2163076 463 4 248 12 rfl rfl rfl rfl rfl rfl (e_ireturn 239 0 ))))))))))))))))))))))))
set_option maxHeartbeats 100000 in
def k251_173 : ex_C := c_iload 8 (c_iload 4 (c_imul (c_iload 5 (c_irem   (c_if_eq 193 (c_aload 0 (c_psh 102 (c_psh 4294967295 (c_psh 3 (c_invV [] cd_251 189 4 248 12 (c_ireturn  0)))))))))))
set_option maxHeartbeats 100000 in
theorem kE251_173 : ex_CE 0 [] cd_251 k251_173 q251_173 := e_iload_iload 173 0 8 (e_iload_iload 175 0 4 (e_imul 177 0 (e_iload_iload 178 0 5 (e_irem 180 0  (e_if_eq 181 193 12 (e_aload_aload_n 184 0 0 0 rfl (e_psh_bipush 185 102 102 (e_psh_iconst 187 4294967295 (-1) (e_psh_iconst 188 3 3 (e_invV_invokevirtual 189 2163076 463 4 248 12 rfl rfl rfl rfl rfl rfl (e_ireturn 192 0 )))))))))))
set_option maxHeartbeats 100000 in
def k251_126 : ex_C := c_aload 0 (c_iload 1 (c_iload 2 (c_iload 3 (c_invV [] cd_251 130 4 214 12 (c_astore 7 (c_aload 7 (c_invV [] cd_251 137 1 172 13 (c_istore 8 (c_aload 0 (c_dup   (c_gf 12 18 (c_psh 1 (c_iadd (c_pf 12 0 18 (c_aload 7 (c_invV [] cd_251 154 1 173 13 (c_aload 0 (c_gf 12 14 (c_icmp_le 173 (c_aload 0 (c_psh 110 (c_psh 4294967295 (c_psh 3 (c_invV [] cd_251 169 4 248 12 (c_ireturn  0)))))))))))))))))))))))))
set_option maxHeartbeats 100000 in
theorem kE251_126 : ex_CE 0 [] cd_251 k251_126 q251_126 := e_aload_aload_n 126 0 0 0 rfl (e_iload_iload_n 127 0 1 1 rfl (e_iload_iload_n 128 0 2 2 rfl (e_iload_iload_n 129 0 3 3 rfl (e_invV_invokevirtual 130 1884548 261 4 214 12 rfl rfl rfl rfl rfl rfl (e_astore_astore 133 0 7 (e_aload_aload 135 0 7 (e_invV_invokevirtual 137 1540513 246 1 172 13 rfl rfl rfl rfl rfl rfl (e_istore_istore 140 0 8 (e_aload_aload_n 142 0 0 0 rfl (e_dup 143 0  (e_gf 144 786 460 12 18 rfl rfl (e_psh_iconst 147 1 1 (e_iadd 148 0 (e_pf 149 786 460 12 0 18 rfl rfl rfl (e_aload_aload 152 0 7 (e_invV_invokevirtual 154 1548705 265 1 173 13 rfl rfl rfl rfl rfl rfl (e_aload_aload_n 157 0 0 0 rfl (e_gf 158 782 53 12 14 rfl rfl (e_icmp_le 161 173 12 (e_aload_aload_n 164 0 0 0 rfl (e_psh_bipush 165 110 110 (e_psh_iconst 167 4294967295 (-1) (e_psh_iconst 168 3 3 (e_invV_invokevirtual 169 2163076 463 4 248 12 rfl rfl rfl rfl rfl rfl (e_ireturn 172 0 )))))))))))))))))))))))))
set_option maxHeartbeats 100000 in
def k251_124 : ex_C := c_psh 0 (c_ireturn  0)
set_option maxHeartbeats 100000 in
theorem kE251_124 : ex_CE 0 [] cd_251 k251_124 q251_124 := e_psh_iconst 124 0 0 (e_ireturn 125 0 )
set_option maxHeartbeats 100000 in
def k251_117 : ex_C := c_psh 2 (c_invV [] cd_251 118 3 181 12 (c_if_eq 126 (k251_124)))
set_option maxHeartbeats 100000 in
theorem kE251_117 : ex_CE 0 [] cd_251 k251_117 q251_117 := e_psh_iconst 117 2 2 (e_invV_invokevirtual 118 1614211 106 3 181 12 rfl rfl rfl rfl rfl rfl (e_if_eq 121 126 5 (kE251_124)))
set_option maxHeartbeats 100000 in
def k251_116 : ex_C := c_psh 0 (k251_117)
set_option maxHeartbeats 100000 in
theorem kE251_116 : ex_CE 0 [] cd_251 k251_116 q251_116 := e_psh_iconst 116 0 0 (kE251_117)
set_option maxHeartbeats 100000 in
def k251_112 : ex_C := c_psh 1 (c_goto 117)
set_option maxHeartbeats 100000 in
theorem kE251_112 : ex_CE 0 [] cd_251 k251_112 q251_112 := e_psh_iconst 112 1 1 (e_goto 113 117 4)
set_option maxHeartbeats 100000 in
def k251_89 : ex_C := c_psh 1 (c_invV [] cd_251 90 3 181 12 (c_if_ne 124 (c_aload 0 (c_iload 1 (c_invS [] cd_251 98 1 205 (c_if_eq 112 (c_aload 0 (c_iload 1 (c_invV [] cd_251 106 2 213 12 (c_ifnull 7 116 (k251_112)))))))))))
set_option maxHeartbeats 100000 in
theorem kE251_89 : ex_CE 0 [] cd_251 k251_89 q251_89 := e_psh_iconst 89 1 1 (e_invV_invokevirtual 90 1614211 106 3 181 12 rfl rfl rfl rfl rfl rfl (e_if_ne 93 124 31 (e_aload_aload_n 96 0 0 0 rfl (e_iload_iload_n 97 0 1 1 rfl (e_invS 98 1818593 204 1 205 rfl rfl rfl (e_if_eq 101 112 11 (e_aload_aload_n 104 0 0 0 rfl (e_iload_iload_n 105 0 1 1 rfl (e_invV_invokevirtual 106 1876354 250 2 213 12 rfl rfl rfl rfl rfl rfl (e_ifnull 109 116 7 (kE251_112)))))))))))
set_option maxHeartbeats 100000 in
def k251_88 : ex_C := c_psh 0 (k251_89)
set_option maxHeartbeats 100000 in
theorem kE251_88 : ex_CE 0 [] cd_251 k251_88 q251_88 := e_psh_iconst 88 0 0 (kE251_89)
set_option maxHeartbeats 100000 in
def k251_48 : ex_C := c_istore 6 (c_aload 0 (c_iload 6 (c_if_eq 88 (c_iload 4 (c_i2l   (c_psh 412316860417 (c_psh 412316860428 (c_invS [] cd_251 63 3 180 (c_if_eq 88 (c_iload 5 (c_i2l   (c_iload 4 (c_i2l   (c_psh 412316860428 (c_invS [] cd_251 78 3 180 (c_if_eq 88 (c_psh 1 (c_goto 89))))))))))))))))))
set_option maxHeartbeats 100000 in
theorem kE251_48 : ex_CE 0 [] cd_251 k251_48 q251_48 := e_istore_istore 48 0 6 (e_aload_aload_n 50 0 0 0 rfl (e_iload_iload 51 0 6 (e_if_eq 53 88 35 (e_iload_iload 56 0 4 (e_i2l 58 0  (e_psh_lconst 59 412316860417 1 (e_psh_ldc2_w 60 412316860428 458 (e_invS 63 1613795 102 3 180 rfl rfl rfl (e_if_eq 66 88 22 (e_iload_iload 69 0 5 (e_i2l 71 0  (e_iload_iload 72 0 4 (e_i2l 74 0  (e_psh_ldc2_w 75 412316860428 458 (e_invS 78 1613795 102 3 180 rfl rfl rfl (e_if_eq 81 88 7 (e_psh_iconst 84 1 1 (e_goto 85 89 4))))))))))))))))))
set_option maxHeartbeats 100000 in
def k251_47 : ex_C := c_psh 0 (k251_48)
set_option maxHeartbeats 100000 in
theorem kE251_47 : ex_CE 0 [] cd_251 k251_47 q251_47 := e_psh_iconst 47 0 0 (kE251_48)
set_option maxHeartbeats 100000 in
def k251_25 : ex_C := c_psh 17179869213 (c_iload 2 (c_invV [] cd_251 28 2 305 18 (c_if_lt 47 (c_psh 17179869215 (c_iload 3 (c_invV [] cd_251 37 2 305 18 (c_if_lt 47 (c_psh 1 (c_goto 48)))))))))
set_option maxHeartbeats 100000 in
theorem kE251_25 : ex_CE 0 [] cd_251 k251_25 q251_25 := e_psh_ldc 25 17179869213 200 (e_iload_iload_n 27 0 2 2 rfl (e_invV_invokevirtual 28 2630210 195 2 305 18 rfl rfl rfl rfl rfl rfl (e_if_lt 31 47 16 (e_psh_ldc 34 17179869215 202 (e_iload_iload_n 36 0 3 3 rfl (e_invV_invokevirtual 37 2630210 195 2 305 18 rfl rfl rfl rfl rfl rfl (e_if_lt 40 47 7 (e_psh_iconst 43 1 1 (e_goto 44 48 4)))))))))
set_option maxHeartbeats 100000 in
def k251_16 : ex_C := c_psh 17179869211 (c_iload 1 (c_invV [] cd_251 19 2 305 18 (c_if_lt 47 (k251_25))))
set_option maxHeartbeats 100000 in
theorem kE251_16 : ex_CE 0 [] cd_251 k251_16 q251_16 := e_psh_ldc 16 17179869211 193 (e_iload_iload_n 18 0 1 1 rfl (e_invV_invokevirtual 19 2630210 195 2 305 18 rfl rfl rfl rfl rfl rfl (e_if_lt 22 47 25 (kE251_25))))
set_option maxHeartbeats 100000 in
def k251_0 : ex_C := c_iload 1 (c_invS [] cd_251 1 1 205 (c_if_eq 16 (c_iload 2 (c_psh 97 (c_icmp_ne 47 (c_goto 25))))))
set_option maxHeartbeats 100000 in
theorem kE251_0 : ex_CE 0 [] cd_251 k251_0 q251_0 := e_iload_iload_n 0 0 1 1 rfl (e_invS 1 1818593 204 1 205 rfl rfl rfl (e_if_eq 4 16 12 (e_iload_iload_n 7 0 2 2 rfl (e_psh_bipush 8 97 97 (e_icmp_ne 10 47 37 (e_goto 13 25 12))))))
def kt_251 : Nat → Option ex_C := fun pc => @Bool.rec (fun _ => Nat → Option ex_C) (fun pc => @Bool.rec (fun _ => Nat → Option ex_C) (fun pc => @Bool.rec (fun _ => Nat → Option ex_C) (fun pc => @Bool.rec (fun _ => Nat → Option ex_C) (fun pc => @Bool.rec (fun _ => Nat → Option ex_C) (fun pc => @Bool.rec (fun _ => Option ex_C) none (some k251_387) (Nat.beq pc 387)) (fun pc => @Bool.rec (fun _ => Option ex_C) none (some k251_386) (Nat.beq pc 386)) (Nat.ble pc 386) pc) (fun pc => @Bool.rec (fun _ => Option ex_C) none (some k251_334) (Nat.beq pc 334)) (Nat.ble pc 334) pc) (fun pc => @Bool.rec (fun _ => Nat → Option ex_C) (fun pc => @Bool.rec (fun _ => Option ex_C) none (some k251_240) (Nat.beq pc 240)) (fun pc => @Bool.rec (fun _ => Option ex_C) none (some k251_193) (Nat.beq pc 193)) (Nat.ble pc 193) pc) (Nat.ble pc 240) pc) (fun pc => @Bool.rec (fun _ => Nat → Option ex_C) (fun pc => @Bool.rec (fun _ => Nat → Option ex_C) (fun pc => @Bool.rec (fun _ => Option ex_C) none (some k251_173) (Nat.beq pc 173)) (fun pc => @Bool.rec (fun _ => Option ex_C) none (some k251_126) (Nat.beq pc 126)) (Nat.ble pc 126) pc) (fun pc => @Bool.rec (fun _ => Nat → Option ex_C) (fun pc => @Bool.rec (fun _ => Option ex_C) none (some k251_124) (Nat.beq pc 124)) (fun pc => @Bool.rec (fun _ => Option ex_C) none (some k251_117) (Nat.beq pc 117)) (Nat.ble pc 117) pc) (Nat.ble pc 124) pc) (Nat.ble pc 173) pc) (fun pc => @Bool.rec (fun _ => Nat → Option ex_C) (fun pc => @Bool.rec (fun _ => Nat → Option ex_C) (fun pc => @Bool.rec (fun _ => Nat → Option ex_C) (fun pc => @Bool.rec (fun _ => Nat → Option ex_C) (fun pc => @Bool.rec (fun _ => Option ex_C) none (some k251_116) (Nat.beq pc 116)) (fun pc => @Bool.rec (fun _ => Option ex_C) none (some k251_112) (Nat.beq pc 112)) (Nat.ble pc 112) pc) (fun pc => @Bool.rec (fun _ => Option ex_C) none (some k251_89) (Nat.beq pc 89)) (Nat.ble pc 89) pc) (fun pc => @Bool.rec (fun _ => Nat → Option ex_C) (fun pc => @Bool.rec (fun _ => Option ex_C) none (some k251_88) (Nat.beq pc 88)) (fun pc => @Bool.rec (fun _ => Option ex_C) none (some k251_48) (Nat.beq pc 48)) (Nat.ble pc 48) pc) (Nat.ble pc 88) pc) (fun pc => @Bool.rec (fun _ => Nat → Option ex_C) (fun pc => @Bool.rec (fun _ => Nat → Option ex_C) (fun pc => @Bool.rec (fun _ => Option ex_C) none (some k251_47) (Nat.beq pc 47)) (fun pc => @Bool.rec (fun _ => Option ex_C) none (some k251_25) (Nat.beq pc 25)) (Nat.ble pc 25) pc) (fun pc => @Bool.rec (fun _ => Nat → Option ex_C) (fun pc => @Bool.rec (fun _ => Option ex_C) none (some k251_16) (Nat.beq pc 16)) (fun pc => @Bool.rec (fun _ => Option ex_C) none (some k251_0) (Nat.beq pc 0)) (Nat.ble pc 0) pc) (Nat.ble pc 16) pc) (Nat.ble pc 47) pc) (Nat.ble pc 116) pc
theorem ktE_251 : ex_CTT 0 [] cd_251 kt_251 cd_251 := (ex_ct2 (ex_ct2 (ex_ct2 (ex_ct2 (ex_ct1 kE251_0) (ex_ct1 kE251_16)) (ex_ct2 (ex_ct1 kE251_25) (ex_ct1 kE251_47))) (ex_ct2 (ex_ct2 (ex_ct1 kE251_48) (ex_ct1 kE251_88)) (ex_ct2 (ex_ct1 kE251_89) (ex_ct2 (ex_ct1 kE251_112) (ex_ct1 kE251_116))))) (ex_ct2 (ex_ct2 (ex_ct2 (ex_ct1 kE251_117) (ex_ct1 kE251_124)) (ex_ct2 (ex_ct1 kE251_126) (ex_ct1 kE251_173))) (ex_ct2 (ex_ct2 (ex_ct1 kE251_193) (ex_ct1 kE251_240)) (ex_ct2 (ex_ct1 kE251_334) (ex_ct2 (ex_ct1 kE251_386) (ex_ct1 kE251_387))))))
set_option maxHeartbeats 100000 in
def k252_157 : ex_C := c_aload 0 (c_aload 1 (c_iload 2 (c_aload 7 (c_invV [] cd_252 162 4 253 12 (c_aload 0 (c_psh 0 (c_pf 12 0 13 (c_aload 0 (c_psh 45 (c_pf 12 2 26 (c_aload 0 (c_psh 4294967295 (c_pf 12 0 17 (c_aload 0 (c_dup   (c_gf 12 19 (c_psh 1 (c_iadd (c_pf 12 0 19 (c_aload 0 (c_aload 3 (c_invV [] cd_252 193 2 184 12 (c_aload 0 (c_aload 4 (c_aload 7 (c_aload 6 (c_aload 5 (c_invV [] cd_252 205 5 249 12 (c_aload 0 (c_aload 0 (c_gf 12 29 (c_invV [] cd_252 213 2 250 12 (c_aload 0 (c_aconst_null   (c_pf 12 5 27 (c_iload 2 (c_aload 0 (c_gf 12 28 (c_isub (c_ireturn  0))))))))))))))))))))))))))))))))))))))))
set_option maxHeartbeats 100000 in
theorem kE252_157 : ex_CE 0 [] cd_252 k252_157 q252_157 := e_aload_aload_n 157 0 0 0 rfl (e_aload_aload_n 158 0 1 1 rfl (e_iload_iload_n 159 0 2 2 rfl (e_aload_aload 160 0 7 (e_invV_invokevirtual 162 2204036 505 4 253 12 rfl rfl rfl rfl rfl rfl (e_aload_aload_n 165 0 0 0 rfl (e_psh_iconst 166 0 0 (e_pf 167 781 97 12 0 13 rfl rfl rfl (e_aload_aload_n 170 0 0 0 rfl (e_psh_bipush 171 45 45 (e_pf 173 8986 63 12 2 26 rfl rfl rfl (e_aload_aload_n 176 0 0 0 rfl (e_psh_iconst 177 4294967295 (-1) (e_pf 178 785 446 12 0 17 rfl rfl rfl (e_aload_aload_n 181 0 0 0 rfl (e_dup 182 0  (e_gf 183 787 471 12 19 rfl rfl (e_psh_iconst 186 1 1 (e_iadd 187 0 (e_pf 188 787 471 12 0 19 rfl rfl rfl (e_aload_aload_n 191 0 0 0 rfl (e_aload_aload_n 192 0 3 3 rfl (e_invV_invokevirtual 193 1638786 93 2 184 12 rfl rfl rfl rfl rfl rfl (e_aload_aload_n 196 0 0 0 rfl (e_aload_aload 197 0 4 (e_aload_aload 199 0 7 (e_aload_aload 201 0 6 (e_aload_aload 203 0 5 (e_invV_invokevirtual 205 2171269 483 5 249 12 rfl rfl rfl rfl rfl rfl (e_aload_aload_n 208 0 0 0 rfl (e_aload_aload_n 209 0 0 0 rfl (e_gf 210 797 493 12 29 rfl rfl (e_invV_invokevirtual 213 2179458 487 2 250 12 rfl rfl rfl rfl rfl rfl (e_aload_aload_n 216 0 0 0 rfl (e_aconst_null 217 0  (e_pf 218 21275 67 12 5 27 rfl rfl rfl (e_iload_iload_n 221 0 2 2 rfl (e_aload_aload_n 222 0 0 0 rfl (e_gf 223 796 490 12 28 rfl rfl (e_isub 226 0 (e_ireturn 227 0 ))))))))))))))))))))))))))))))))))))))))
set_option maxHeartbeats 100000 in
def k252_104 : ex_C := c_iload 8 (c_psh 8 (c_icmp_ge 157 (c_aload 4 (c_iload 8 (c_aload 0 (c_gf 12 33 (c_iload 8 (c_iaload (c_aload 0 (c_gf 12 31 (c_iload 8 (c_iaload (c_isub (c_iastore (c_aload 5 (c_iload 8 (c_aload 0 (c_gf 12 36 (c_iload 8 (c_iaload (c_aload 0 (c_gf 12 32 (c_iload 8 (c_iaload (c_isub (c_iastore (c_iinc 8 1 (c_goto 104))))))))))))))))))))))))))))
set_option maxHeartbeats 100000 in
theorem kE252_104 : ex_CE 0 [] cd_252 k252_104 q252_104 := e_iload_iload 104 0 8 (e_psh_bipush 106 8 8 (e_icmp_ge 108 157 49 (e_aload_aload 111 0 4 (e_iload_iload 113 0 8 (e_aload_aload_n 115 0 0 0 rfl (e_gf 116 21281 71 12 33 rfl rfl (e_iload_iload 119 0 8 (e_iaload 121 0 (e_aload_aload_n 122 0 0 0 rfl (e_gf 123 21279 499 12 31 rfl rfl (e_iload_iload 126 0 8 (e_iaload 128 0 (e_isub 129 0 (e_iastore 130 0 (e_aload_aload 131 0 5 (e_iload_iload 133 0 8 (e_aload_aload_n 135 0 0 0 rfl (e_gf 136 21284 80 12 36 rfl rfl (e_iload_iload 139 0 8 (e_iaload 141 0 (e_aload_aload_n 142 0 0 0 rfl (e_gf 143 21280 502 12 32 rfl rfl (e_iload_iload 146 0 8 (e_iaload 148 0 (e_isub 149 0 (e_iastore 150 0 (e_iinc 151 1 8 1 (e_goto 154 104 (-50)))))))))))))))))))))))))))))
set_option maxHeartbeats 100000 in
def k252_71 : ex_C := c_psh 8 (c_newarr 64 0 (c_astore 4 (c_psh 8 (c_newarr 64 0 (c_astore 5 (c_aload 0 (c_gf 12 35 (c_clone (c_checkcast 114 64 (c_astore 6 (c_psh 8 (c_newarr 64 0 (c_astore 7 (c_psh 0 (c_istore 8 (k252_104))))))))))))))))
set_option maxHeartbeats 100000 in
theorem kE252_71 : ex_CE 0 [] cd_252 k252_71 q252_71 := e_psh_bipush 71 8 8 (e_newarr 73 64 0 rfl (e_astore_astore 75 0 4 (e_psh_bipush 77 8 8 (e_newarr 79 64 0 rfl (e_astore_astore 81 0 5 (e_aload_aload_n 83 0 0 0 rfl (e_gf 84 21283 77 12 35 rfl rfl (e_clone (e_checkcast 90 64 114 (e_astore_astore 93 0 6 (e_psh_bipush 95 8 8 (e_newarr 97 64 0 rfl (e_astore_astore 99 0 7 (e_psh_iconst 101 0 0 (e_istore_istore 102 0 8 (kE252_104))))))))))))))))
set_option maxHeartbeats 100000 in
def k252_22 : ex_C := c_aload 0 (c_gf 12 27 (c_astore 1 (c_aload 0 (c_dup   (c_gf 12 18 (c_psh 1 (c_iadd (c_pf 12 0 18 (c_aload 1 (c_invV [] cd_252 38 1 172 13 (c_istore 2 (c_aload 0 (c_aload 0 (c_gf 12 30 (c_aload 1 (c_iload 2 (c_invV [] cd_252 49 4 247 12 (c_astore 3 (c_aload 3 (c_ifnonnull 17 71 (c_aload 0 (c_aload 0 (c_gf 12 37 (c_aload 0 (c_gf 12 38 (c_psh 2 (c_invV [] cd_252 67 4 248 12 (c_ireturn  0))))))))))))))))))))))))))))
set_option maxHeartbeats 100000 in
theorem kE252_22 : ex_CE 0 [] cd_252 k252_22 q252_22 := e_aload_aload_n 22 0 0 0 rfl (e_gf 23 21275 67 12 27 rfl rfl (e_astore_astore_n 26 0 1 1 rfl (e_aload_aload_n 27 0 0 0 rfl (e_dup 28 0  (e_gf 29 786 460 12 18 rfl rfl (e_psh_iconst 32 1 1 (e_iadd 33 0 (e_pf 34 786 460 12 0 18 rfl rfl rfl (e_aload_aload_n 37 0 1 1 rfl (e_invV_invokevirtual 38 1540513 246 1 172 13 rfl rfl rfl rfl rfl rfl (e_istore_istore_n 41 0 2 2 rfl (e_aload_aload_n 42 0 0 0 rfl (e_aload_aload_n 43 0 0 0 rfl (e_gf 44 21278 496 12 30 rfl rfl (e_aload_aload_n 47 0 1 1 rfl (e_iload_iload_n 48 0 2 2 rfl (e_invV_invokevirtual 49 2154884 467 4 247 12 rfl rfl rfl rfl rfl rfl (e_astore_astore_n 52 0 3 3 rfl (e_aload_aload_n 53 0 3 3 rfl (e_ifnonnull 54 71 17 (e_aload_aload_n 57 0 0 0 rfl (e_aload_aload_n 58 0 0 0 rfl (e_gf 59 8997 353 12 37 rfl rfl (e_aload_aload_n 62 0 0 0 rfl (e_gf 63 806 356 12 38 rfl rfl (e_psh_iconst 66 2 2 (e_invV_invokevirtual 67 2163076 463 4 248 12 rfl rfl rfl rfl rfl rfl (e_ireturn 70 0 ))))))))))))))))))))))))))))
set_option maxHeartbeats 100000 in
def k252_13 : ex_C := c_psh 1 (c_invV [] cd_252 14 3 181 12 (c_if_eq 22 (c_psh 0 (c_ireturn  0))))
set_option maxHeartbeats 100000 in
theorem kE252_13 : ex_CE 0 [] cd_252 k252_13 q252_13 := e_psh_iconst 13 1 1 (e_invV_invokevirtual 14 1614211 106 3 181 12 rfl rfl rfl rfl rfl rfl (e_if_eq 17 22 5 (e_psh_iconst 20 0 0 (e_ireturn 21 0 ))))
set_option maxHeartbeats 100000 in
def k252_12 : ex_C := c_psh 0 (k252_13)
set_option maxHeartbeats 100000 in
theorem kE252_12 : ex_CE 0 [] cd_252 k252_12 q252_12 := e_psh_iconst 12 0 0 (kE252_13)
set_option maxHeartbeats 100000 in
def k252_0 : ex_C := c_aload 0 (c_aload 0 (c_gf 12 27 (c_ifnull 7 12 (c_psh 1 (c_goto 13)))))
set_option maxHeartbeats 100000 in
theorem kE252_0 : ex_CE 0 [] cd_252 k252_0 q252_0 := e_aload_aload_n 0 0 0 0 rfl (e_aload_aload_n 1 0 0 0 rfl (e_gf 2 21275 67 12 27 rfl rfl (e_ifnull 5 12 7 (e_psh_iconst 8 1 1 (e_goto 9 13 4)))))
def kt_252 : Nat → Option ex_C := fun pc => @Bool.rec (fun _ => Nat → Option ex_C) (fun pc => @Bool.rec (fun _ => Nat → Option ex_C) (fun pc => @Bool.rec (fun _ => Nat → Option ex_C) (fun pc => @Bool.rec (fun _ => Option ex_C) none (some k252_157) (Nat.beq pc 157)) (fun pc => @Bool.rec (fun _ => Option ex_C) none (some k252_104) (Nat.beq pc 104)) (Nat.ble pc 104) pc) (fun pc => @Bool.rec (fun _ => Nat → Option ex_C) (fun pc => @Bool.rec (fun _ => Option ex_C) none (some k252_71) (Nat.beq pc 71)) (fun pc => @Bool.rec (fun _ => Option ex_C) none (some k252_22) (Nat.beq pc 22)) (Nat.ble pc 22) pc) (Nat.ble pc 71) pc) (fun pc => @Bool.rec (fun _ => Nat → Option ex_C) (fun pc => @Bool.rec (fun _ => Nat → Option ex_C) (fun pc => @Bool.rec (fun _ => Option ex_C) none (some k252_13) (Nat.beq pc 13)) (fun pc => @Bool.rec (fun _ => Option ex_C) none (some k252_12) (Nat.beq pc 12)) (Nat.ble pc 12) pc) (fun pc => @Bool.rec (fun _ => Option ex_C) none (some k252_0) (Nat.beq pc 0)) (Nat.ble pc 0) pc) (Nat.ble pc 13) pc
theorem ktE_252 : ex_CTT 0 [] cd_252 kt_252 cd_252 := (ex_ct2 (ex_ct2 (ex_ct1 kE252_0) (ex_ct2 (ex_ct1 kE252_12) (ex_ct1 kE252_13))) (ex_ct2 (ex_ct2 (ex_ct1 kE252_22) (ex_ct1 kE252_71)) (ex_ct2 (ex_ct1 kE252_104) (ex_ct1 kE252_157))))
set_option maxHeartbeats 100000 in
def k253_88 : ex_C := c_return_  15
set_option maxHeartbeats 100000 in
theorem kE253_88 : ex_CE 15 [] cd_253 k253_88 q253_88 := e_return_ 88 0 
set_option maxHeartbeats 100000 in
def k253_82 : ex_C := c_iinc 4 1 (c_goto 8)
set_option maxHeartbeats 100000 in
theorem kE253_82 : ex_CE 15 [] cd_253 k253_82 q253_82 := e_iinc 82 1 4 1 (e_goto 85 8 (-77))
set_option maxHeartbeats 100000 in
def k253_76 : ex_C := c_iinc 5 1 (c_goto 34)
set_option maxHeartbeats 100000 in
theorem kE253_76 : ex_CE 15 [] cd_253 k253_76 q253_76 := e_iinc 76 1 5 1 (e_goto 79 34 (-45))
set_option maxHeartbeats 100000 in
def k253_34 : ex_C := c_iload 5 (c_psh 8 (c_icmp_ge 82 (c_aload 3 (c_iload 5 (c_iaload (c_if_ne 76 (c_aload 0 (c_gf 12 36 (c_iload 5 (c_iaload (c_aload 0 (c_gf 12 32 (c_iload 5 (c_iaload (c_icmp_le 76 (c_aload 3 (c_iload 5 (c_aload 0 (c_gf 12 35 (c_iload 5 (c_iaload (c_iastore (k253_76)))))))))))))))))))))))
set_option maxHeartbeats 100000 in
theorem kE253_34 : ex_CE 15 [] cd_253 k253_34 q253_34 := e_iload_iload 34 0 5 (e_psh_bipush 36 8 8 (e_icmp_ge 38 82 44 (e_aload_aload_n 41 0 3 3 rfl (e_iload_iload 42 0 5 (e_iaload 44 0 (e_if_ne 45 76 31 (e_aload_aload_n 48 0 0 0 rfl (e_gf 49 21284 80 12 36 rfl rfl (e_iload_iload 52 0 5 (e_iaload 54 0 (e_aload_aload_n 55 0 0 0 rfl (e_gf 56 21280 502 12 32 rfl rfl (e_iload_iload 59 0 5 (e_iaload 61 0 (e_icmp_le 62 76 14 (e_aload_aload_n 65 0 3 3 rfl (e_iload_iload 66 0 5 (e_aload_aload_n 68 0 0 0 rfl (e_gf 69 21283 77 12 35 rfl rfl (e_iload_iload 72 0 5 (e_iaload 74 0 (e_iastore 75 0 (kE253_76)))))))))))))))))))))))
set_option maxHeartbeats 100000 in
def k253_31 : ex_C := c_psh 0 (c_istore 5 (k253_34))
set_option maxHeartbeats 100000 in
theorem kE253_31 : ex_CE 15 [] cd_253 k253_31 q253_31 := e_psh_iconst 31 0 0 (e_istore_istore 32 0 5 (kE253_34))
set_option maxHeartbeats 100000 in
def k253_8 : ex_C := c_iload 4 (c_iload 2 (c_icmp_gt 88 (c_aload 0 (c_aload 0 (c_gf 12 30 (c_aload 1 (c_iload 4 (c_invV [] cd_253 22 4 247 12 (c_ifnonnull 6 31 (c_goto 82))))))))))
set_option maxHeartbeats 100000 in
theorem kE253_8 : ex_CE 15 [] cd_253 k253_8 q253_8 := e_iload_iload 8 0 4 (e_iload_iload_n 10 0 2 2 rfl (e_icmp_gt 11 88 77 (e_aload_aload_n 14 0 0 0 rfl (e_aload_aload_n 15 0 0 0 rfl (e_gf 16 21278 496 12 30 rfl rfl (e_aload_aload_n 19 0 1 1 rfl (e_iload_iload 20 0 4 (e_invV_invokevirtual 22 2154884 467 4 247 12 rfl rfl rfl rfl rfl rfl (e_ifnonnull 25 31 6 (e_goto 28 82 54))))))))))
set_option maxHeartbeats 100000 in
def k253_0 : ex_C := c_aload 0 (c_gf 12 28 (c_psh 1 (c_iadd (c_istore 4 (k253_8)))))
set_option maxHeartbeats 100000 in
theorem kE253_0 : ex_CE 15 [] cd_253 k253_0 q253_0 := e_aload_aload_n 0 0 0 0 rfl (e_gf 1 796 490 12 28 rfl rfl (e_psh_iconst 4 1 1 (e_iadd 5 0 (e_istore_istore 6 0 4 (kE253_8)))))
def kt_253 : Nat → Option ex_C := fun pc => @Bool.rec (fun _ => Nat → Option ex_C) (fun pc => @Bool.rec (fun _ => Nat → Option ex_C) (fun pc => @Bool.rec (fun _ => Nat → Option ex_C) (fun pc => @Bool.rec (fun _ => Option ex_C) none (some k253_88) (Nat.beq pc 88)) (fun pc => @Bool.rec (fun _ => Option ex_C) none (some k253_82) (Nat.beq pc 82)) (Nat.ble pc 82) pc) (fun pc => @Bool.rec (fun _ => Nat → Option ex_C) (fun pc => @Bool.rec (fun _ => Option ex_C) none (some k253_76) (Nat.beq pc 76)) (fun pc => @Bool.rec (fun _ => Option ex_C) none (some k253_34) (Nat.beq pc 34)) (Nat.ble pc 34) pc) (Nat.ble pc 76) pc) (fun pc => @Bool.rec (fun _ => Nat → Option ex_C) (fun pc => @Bool.rec (fun _ => Nat → Option ex_C) (fun pc => @Bool.rec (fun _ => Option ex_C) none (some k253_31) (Nat.beq pc 31)) (fun pc => @Bool.rec (fun _ => Option ex_C) none (some k253_8) (Nat.beq pc 8)) (Nat.ble pc 8) pc) (fun pc => @Bool.rec (fun _ => Option ex_C) none (some k253_0) (Nat.beq pc 0)) (Nat.ble pc 0) pc) (Nat.ble pc 31) pc
theorem ktE_253 : ex_CTT 15 [] cd_253 kt_253 cd_253 := (ex_ct2 (ex_ct2 (ex_ct1 kE253_0) (ex_ct2 (ex_ct1 kE253_8) (ex_ct1 kE253_31))) (ex_ct2 (ex_ct2 (ex_ct1 kE253_34) (ex_ct1 kE253_76)) (ex_ct2 (ex_ct1 kE253_82) (ex_ct1 kE253_88))))
set_option maxHeartbeats 100000 in
def k254_23 : ex_C := c_ireturn  0
set_option maxHeartbeats 100000 in
theorem kE254_23 : ex_CE 0 [] cd_254 k254_23 q254_23 := e_ireturn 23 0 
set_option maxHeartbeats 100000 in
def k254_11 : ex_C := c_aload 0 (c_gf 12 27 (c_invV [] cd_254 15 1 172 13 (c_aload 0 (c_gf 12 28 (c_isub (k254_23))))))
set_option maxHeartbeats 100000 in
theorem kE254_11 : ex_CE 0 [] cd_254 k254_11 q254_11 := e_aload_aload_n 11 0 0 0 rfl (e_gf 12 21275 67 12 27 rfl rfl (e_invV_invokevirtual 15 1540513 246 1 172 13 rfl rfl rfl rfl rfl rfl (e_aload_aload_n 18 0 0 0 rfl (e_gf 19 796 490 12 28 rfl rfl (e_isub 22 0 (kE254_23))))))
set_option maxHeartbeats 100000 in
def k254_0 : ex_C := c_aload 0 (c_gf 12 27 (c_ifnonnull 7 11 (c_psh 0 (c_goto 23))))
set_option maxHeartbeats 100000 in
theorem kE254_0 : ex_CE 0 [] cd_254 k254_0 q254_0 := e_aload_aload_n 0 0 0 0 rfl (e_gf 1 21275 67 12 27 rfl rfl (e_ifnonnull 4 11 7 (e_psh_iconst 7 0 0 (e_goto 8 23 15))))
def kt_254 : Nat → Option ex_C := fun pc => @Bool.rec (fun _ => Nat → Option ex_C) (fun pc => @Bool.rec (fun _ => Nat → Option ex_C) (fun pc => @Bool.rec (fun _ => Option ex_C) none (some k254_23) (Nat.beq pc 23)) (fun pc => @Bool.rec (fun _ => Option ex_C) none (some k254_11) (Nat.beq pc 11)) (Nat.ble pc 11) pc) (fun pc => @Bool.rec (fun _ => Option ex_C) none (some k254_0) (Nat.beq pc 0)) (Nat.ble pc 0) pc
theorem ktE_254 : ex_CTT 0 [] cd_254 kt_254 cd_254 := (ex_ct2 (ex_ct1 kE254_0) (ex_ct2 (ex_ct1 kE254_11) (ex_ct1 kE254_23)))
set_option maxHeartbeats 100000 in
def k255_0 : ex_C := c_aload 0 (c_gf 12 26 (c_ireturn  2))
set_option maxHeartbeats 100000 in
theorem kE255_0 : ex_CE 2 [] cd_255 k255_0 q255_0 := e_aload_aload_n 0 0 0 0 rfl (e_gf 1 8986 63 12 26 rfl rfl (e_ireturn 4 0 ))
def kt_255 : Nat → Option ex_C := fun pc => @Bool.rec (fun _ => Option ex_C) none (some k255_0) (Nat.beq pc 0)
theorem ktE_255 : ex_CTT 2 [] cd_255 kt_255 cd_255 := (ex_ct1 kE255_0)
set_option maxHeartbeats 100000 in
def k256_47 : ex_C := c_ireturn  0
set_option maxHeartbeats 100000 in
theorem kE256_47 : ex_CE 0 [] cd_256 k256_47 q256_47 := e_ireturn 47 0 
set_option maxHeartbeats 100000 in
def k256_43 : ex_C := c_aload 0 (c_gf 12 17 (k256_47))
set_option maxHeartbeats 100000 in
theorem kE256_43 : ex_CE 0 [] cd_256 k256_43 q256_43 := e_aload_aload_n 43 0 0 0 rfl (e_gf 44 785 446 12 17 rfl rfl (kE256_47))
set_option maxHeartbeats 100000 in
def k256_32 : ex_C := c_psh 1 (c_invV [] cd_256 33 3 181 12 (c_if_eq 43 (c_psh 0 (c_goto 47))))
set_option maxHeartbeats 100000 in
theorem kE256_32 : ex_CE 0 [] cd_256 k256_32 q256_32 := e_psh_iconst 32 1 1 (e_invV_invokevirtual 33 1614211 106 3 181 12 rfl rfl rfl rfl rfl rfl (e_if_eq 36 43 7 (e_psh_iconst 39 0 0 (e_goto 40 47 7))))
set_option maxHeartbeats 100000 in
def k256_31 : ex_C := c_psh 0 (k256_32)
set_option maxHeartbeats 100000 in
theorem kE256_31 : ex_CE 0 [] cd_256 k256_31 q256_31 := e_psh_iconst 31 0 0 (kE256_32)
set_option maxHeartbeats 100000 in
def k256_19 : ex_C := c_aload 0 (c_gf 12 17 (c_psh 4294967295 (c_icmp_eq 31 (c_psh 1 (c_goto 32)))))
set_option maxHeartbeats 100000 in
theorem kE256_19 : ex_CE 0 [] cd_256 k256_19 q256_19 := e_aload_aload_n 19 0 0 0 rfl (e_gf 20 785 446 12 17 rfl rfl (e_psh_iconst 23 4294967295 (-1) (e_icmp_eq 24 31 7 (e_psh_iconst 27 1 1 (e_goto 28 32 4)))))
set_option maxHeartbeats 100000 in
def k256_0 : ex_C := c_aload 0 (c_aload 0 (c_gf 12 26 (c_psh 112 (c_icmp_eq 19 (c_aload 0 (c_gf 12 26 (c_psh 98 (c_icmp_ne 31 (k256_19)))))))))
set_option maxHeartbeats 100000 in
theorem kE256_0 : ex_CE 0 [] cd_256 k256_0 q256_0 := e_aload_aload_n 0 0 0 0 rfl (e_aload_aload_n 1 0 0 0 rfl (e_gf 2 8986 63 12 26 rfl rfl (e_psh_bipush 5 112 112 (e_icmp_eq 7 19 12 (e_aload_aload_n 10 0 0 0 rfl (e_gf 11 8986 63 12 26 rfl rfl (e_psh_bipush 14 98 98 (e_icmp_ne 16 31 15 (kE256_19)))))))))
def kt_256 : Nat → Option ex_C := fun pc => @Bool.rec (fun _ => Nat → Option ex_C) (fun pc => @Bool.rec (fun _ => Nat → Option ex_C) (fun pc => @Bool.rec (fun _ => Nat → Option ex_C) (fun pc => @Bool.rec (fun _ => Option ex_C) none (some k256_47) (Nat.beq pc 47)) (fun pc => @Bool.rec (fun _ => Option ex_C) none (some k256_43) (Nat.beq pc 43)) (Nat.ble pc 43) pc) (fun pc => @Bool.rec (fun _ => Option ex_C) none (some k256_32) (Nat.beq pc 32)) (Nat.ble pc 32) pc) (fun pc => @Bool.rec (fun _ => Nat → Option ex_C) (fun pc => @Bool.rec (fun _ => Nat → Option ex_C) (fun pc => @Bool.rec (fun _ => Option ex_C) none (some k256_31) (Nat.beq pc 31)) (fun pc => @Bool.rec (fun _ => Option ex_C) none (some k256_19) (Nat.beq pc 19)) (Nat.ble pc 19) pc) (fun pc => @Bool.rec (fun _ => Option ex_C) none (some k256_0) (Nat.beq pc 0)) (Nat.ble pc 0) pc) (Nat.ble pc 31) pc
theorem ktE_256 : ex_CTT 0 [] cd_256 kt_256 cd_256 := (ex_ct2 (ex_ct2 (ex_ct1 kE256_0) (ex_ct2 (ex_ct1 kE256_19) (ex_ct1 kE256_31))) (ex_ct2 (ex_ct1 kE256_32) (ex_ct2 (ex_ct1 kE256_43) (ex_ct1 kE256_47))))
set_option maxHeartbeats 100000 in
def k257_48 : ex_C := c_ireturn  1
set_option maxHeartbeats 100000 in
theorem kE257_48 : ex_CE 1 [] cd_257 k257_48 q257_48 := e_ireturn 48 0 
set_option maxHeartbeats 100000 in
def k257_47 : ex_C := c_psh 0 (k257_48)
set_option maxHeartbeats 100000 in
theorem kE257_47 : ex_CE 1 [] cd_257 k257_47 q257_47 := e_psh_iconst 47 0 0 (kE257_48)
set_option maxHeartbeats 100000 in
def k257_16 : ex_C := c_aload 0 (c_iload 1 (c_iload 2 (c_iload 3 (c_invV [] cd_257 20 4 214 12 (c_astore 4 (c_aload 0 (c_aload 0 (c_invV [] cd_257 27 1 185 12 (c_aload 4 (c_aload 4 (c_invV [] cd_257 34 1 172 13 (c_invV [] cd_257 37 4 247 12 (c_ifnull 7 47 (c_psh 1 (c_goto 48)))))))))))))))
set_option maxHeartbeats 100000 in
theorem kE257_16 : ex_CE 1 [] cd_257 k257_16 q257_16 := e_aload_aload_n 16 0 0 0 rfl (e_iload_iload_n 17 0 1 1 rfl (e_iload_iload_n 18 0 2 2 rfl (e_iload_iload_n 19 0 3 3 rfl (e_invV_invokevirtual 20 1884548 261 4 214 12 rfl rfl rfl rfl rfl rfl (e_astore_astore 23 0 4 (e_aload_aload_n 25 0 0 0 rfl (e_aload_aload_n 26 0 0 0 rfl (e_invV_invokevirtual 27 1646977 129 1 185 12 rfl rfl rfl rfl rfl rfl (e_aload_aload 30 0 4 (e_aload_aload 32 0 4 (e_invV_invokevirtual 34 1540513 246 1 172 13 rfl rfl rfl rfl rfl rfl (e_invV_invokevirtual 37 2154884 467 4 247 12 rfl rfl rfl rfl rfl rfl (e_ifnull 40 47 7 (e_psh_iconst 43 1 1 (e_goto 44 48 4)))))))))))))))
set_option maxHeartbeats 100000 in
def k257_0 : ex_C := c_aload 0 (c_iload 1 (c_iload 2 (c_iload 3 (c_invS [] cd_257 4 3 207 (c_psh 1 (c_invV [] cd_257 8 3 181 12 (c_if_eq 16 (c_psh 0 (c_ireturn  1)))))))))
set_option maxHeartbeats 100000 in
theorem kE257_0 : ex_CE 1 [] cd_257 k257_0 q257_0 := e_aload_aload_n 0 0 0 0 rfl (e_iload_iload_n 1 0 1 1 rfl (e_iload_iload_n 2 0 2 2 rfl (e_iload_iload_n 3 0 3 3 rfl (e_invS 4 1834979 208 3 207 rfl rfl rfl (e_psh_iconst 7 1 1 (e_invV_invokevirtual 8 1614211 106 3 181 12 rfl rfl rfl rfl rfl rfl (e_if_eq 11 16 5 (e_psh_iconst 14 0 0 (e_ireturn 15 0 )))))))))
def kt_257 : Nat → Option ex_C := fun pc => @Bool.rec (fun _ => Nat → Option ex_C) (fun pc => @Bool.rec (fun _ => Nat → Option ex_C) (fun pc => @Bool.rec (fun _ => Option ex_C) none (some k257_48) (Nat.beq pc 48)) (fun pc => @Bool.rec (fun _ => Option ex_C) none (some k257_47) (Nat.beq pc 47)) (Nat.ble pc 47) pc) (fun pc => @Bool.rec (fun _ => Nat → Option ex_C) (fun pc => @Bool.rec (fun _ => Option ex_C) none (some k257_16) (Nat.beq pc 16)) (fun pc => @Bool.rec (fun _ => Option ex_C) none (some k257_0) (Nat.beq pc 0)) (Nat.ble pc 0) pc) (Nat.ble pc 16) pc
theorem ktE_257 : ex_CTT 1 [] cd_257 kt_257 cd_257 := (ex_ct2 (ex_ct2 (ex_ct1 kE257_0) (ex_ct1 kE257_16)) (ex_ct2 (ex_ct1 kE257_47) (ex_ct1 kE257_48)))
set_option maxHeartbeats 100000 in
def k258_27 : ex_C := c_aload 0 (c_aload 0 (c_gf 12 5 (c_aload 0 (c_gf 12 5 (c_invV [] cd_258 36 1 333 16 (c_psh 1 (c_isub (c_invV [] cd_258 43 2 340 16 (c_checkcast 114 64 (c_invV [] cd_258 51 2 184 12 (c_aload 0 (c_gf 12 7 (c_aload 0 (c_gf 12 7 (c_invV [] cd_258 62 1 333 16 (c_psh 1 (c_isub (c_invV [] cd_258 69 2 340 16 (c_pop   (c_aload 0 (c_aconst_null   (c_pf 12 5 27 (c_aload 0 (c_gf 12 5 (c_invV [] cd_258 84 1 333 16 (c_ireturn  0))))))))))))))))))))))))))
set_option maxHeartbeats 100000 in
theorem kE258_27 : ex_CE 0 [] cd_258 k258_27 q258_27 := e_aload_aload_n 27 0 0 0 rfl (e_aload_aload_n 28 0 0 0 rfl (e_gf 29 86789 29 12 5 rfl rfl (e_aload_aload_n 32 0 0 0 rfl (e_gf 33 86789 29 12 5 rfl rfl (e_invV_invokeinterface 36 2859521 178 1 1 333 16 rfl rfl rfl rfl rfl rfl (e_psh_iconst 41 1 1 (e_isub 42 0 (e_invV_invokeinterface 43 2916866 480 2 2 340 16 rfl rfl rfl rfl rfl rfl (e_checkcast 48 64 114 (e_invV_invokevirtual 51 1638786 93 2 184 12 rfl rfl rfl rfl rfl rfl (e_aload_aload_n 54 0 0 0 rfl (e_gf 55 86791 35 12 7 rfl rfl (e_aload_aload_n 58 0 0 0 rfl (e_gf 59 86791 35 12 7 rfl rfl (e_invV_invokeinterface 62 2859521 178 1 1 333 16 rfl rfl rfl rfl rfl rfl (e_psh_iconst 67 1 1 (e_isub 68 0 (e_invV_invokeinterface 69 2916866 480 2 2 340 16 rfl rfl rfl rfl rfl rfl (e_pop 74 0  (e_aload_aload_n 75 0 0 0 rfl (e_aconst_null 76 0  (e_pf 77 21275 67 12 5 27 rfl rfl rfl (e_aload_aload_n 80 0 0 0 rfl (e_gf 81 86789 29 12 5 rfl rfl (e_invV_invokeinterface 84 2859521 178 1 1 333 16 rfl rfl rfl rfl rfl rfl (e_ireturn 89 0 ))))))))))))))))))))))))))
set_option maxHeartbeats 100000 in
def k258_18 : ex_C := c_psh 1 (c_invV [] cd_258 19 3 181 12 (c_if_eq 27 (c_psh 0 (c_ireturn  0))))
set_option maxHeartbeats 100000 in
theorem kE258_18 : ex_CE 0 [] cd_258 k258_18 q258_18 := e_psh_iconst 18 1 1 (e_invV_invokevirtual 19 1614211 106 3 181 12 rfl rfl rfl rfl rfl rfl (e_if_eq 22 27 5 (e_psh_iconst 25 0 0 (e_ireturn 26 0 ))))
set_option maxHeartbeats 100000 in
def k258_17 : ex_C := c_psh 0 (k258_18)
set_option maxHeartbeats 100000 in
theorem kE258_17 : ex_CE 0 [] cd_258 k258_17 q258_17 := e_psh_iconst 17 0 0 (kE258_18)
set_option maxHeartbeats 100000 in
def k258_0 : ex_C := c_aload 0 (c_aload 0 (c_gf 12 5 (c_invV [] cd_258 5 1 334 16 (c_if_ne 17 (c_psh 1 (c_goto 18))))))
set_option maxHeartbeats 100000 in
theorem kE258_0 : ex_CE 0 [] cd_258 k258_0 q258_0 := e_aload_aload_n 0 0 0 0 rfl (e_aload_aload_n 1 0 0 0 rfl (e_gf 2 86789 29 12 5 rfl rfl (e_invV_invokeinterface 5 2867713 509 1 1 334 16 rfl rfl rfl rfl rfl rfl (e_if_ne 10 17 7 (e_psh_iconst 13 1 1 (e_goto 14 18 4))))))
def kt_258 : Nat → Option ex_C := fun pc => @Bool.rec (fun _ => Nat → Option ex_C) (fun pc => @Bool.rec (fun _ => Nat → Option ex_C) (fun pc => @Bool.rec (fun _ => Option ex_C) none (some k258_27) (Nat.beq pc 27)) (fun pc => @Bool.rec (fun _ => Option ex_C) none (some k258_18) (Nat.beq pc 18)) (Nat.ble pc 18) pc) (fun pc => @Bool.rec (fun _ => Nat → Option ex_C) (fun pc => @Bool.rec (fun _ => Option ex_C) none (some k258_17) (Nat.beq pc 17)) (fun pc => @Bool.rec (fun _ => Option ex_C) none (some k258_0) (Nat.beq pc 0)) (Nat.ble pc 0) pc) (Nat.ble pc 17) pc
theorem ktE_258 : ex_CTT 0 [] cd_258 kt_258 cd_258 := (ex_ct2 (ex_ct2 (ex_ct1 kE258_0) (ex_ct1 kE258_17)) (ex_ct2 (ex_ct1 kE258_18) (ex_ct1 kE258_27)))
set_option maxHeartbeats 100000 in
def k259_0 : ex_C := c_aload 0 (c_gf 12 5 (c_invV [] cd_259 4 1 333 16 (c_ireturn  0)))
set_option maxHeartbeats 100000 in
theorem kE259_0 : ex_CE 0 [] cd_259 k259_0 q259_0 := e_aload_aload_n 0 0 0 0 rfl (e_gf 1 86789 29 12 5 rfl rfl (e_invV_invokeinterface 4 2859521 178 1 1 333 16 rfl rfl rfl rfl rfl rfl (e_ireturn 9 0 )))
def kt_259 : Nat → Option ex_C := fun pc => @Bool.rec (fun _ => Option ex_C) none (some k259_0) (Nat.beq pc 0)
theorem ktE_259 : ex_CTT 0 [] cd_259 kt_259 cd_259 := (ex_ct1 kE259_0)
set_option maxHeartbeats 100000 in
def k260_59 : ex_C := c_ireturn  2
set_option maxHeartbeats 100000 in
theorem kE260_59 : ex_CE 2 [] cd_260 k260_59 q260_59 := e_ireturn 59 0 
set_option maxHeartbeats 100000 in
def k260_31 : ex_C := c_aload 0 (c_gf 12 7 (c_aload 0 (c_gf 12 7 (c_invV [] cd_260 39 1 333 16 (c_psh 1 (c_isub (c_iload 1 (c_isub (c_invV [] cd_260 48 2 337 16 (c_checkcast 475 19 (c_invV [] cd_260 56 1 294 19 (k260_59))))))))))))
set_option maxHeartbeats 100000 in
theorem kE260_31 : ex_CE 2 [] cd_260 k260_31 q260_31 := e_aload_aload_n 31 0 0 0 rfl (e_gf 32 86791 35 12 7 rfl rfl (e_aload_aload_n 35 0 0 0 rfl (e_gf 36 86791 35 12 7 rfl rfl (e_invV_invokeinterface 39 2859521 178 1 1 333 16 rfl rfl rfl rfl rfl rfl (e_psh_iconst 44 1 1 (e_isub 45 0 (e_iload_iload_n 46 0 1 1 rfl (e_isub 47 0 (e_invV_invokeinterface 48 2892290 186 2 2 337 16 rfl rfl rfl rfl rfl rfl (e_checkcast 53 19 475 (e_invV_invokevirtual 56 2540129 512 1 294 19 rfl rfl rfl rfl rfl rfl (kE260_59))))))))))))
set_option maxHeartbeats 100000 in
def k260_0 : ex_C := c_aload 0 (c_iload 1 (c_i2l   (c_psh 412316860416 (c_aload 0 (c_gf 12 7 (c_invV [] cd_260 8 1 333 16 (c_psh 1 (c_isub (c_i2l   (c_invS [] cd_260 16 3 180 (c_psh 1 (c_invV [] cd_260 20 3 181 12 (c_if_eq 31 (c_psh 117 (c_goto 59)))))))))))))))
set_option maxHeartbeats 100000 in
theorem kE260_0 : ex_CE 2 [] cd_260 k260_0 q260_0 := e_aload_aload_n 0 0 0 0 rfl (e_iload_iload_n 1 0 1 1 rfl (e_i2l 2 0  (e_psh_lconst 3 412316860416 0 (e_aload_aload_n 4 0 0 0 rfl (e_gf 5 86791 35 12 7 rfl rfl (e_invV_invokeinterface 8 2859521 178 1 1 333 16 rfl rfl rfl rfl rfl rfl (e_psh_iconst 13 1 1 (e_isub 14 0 (e_i2l 15 0  (e_invS 16 1613795 102 3 180 rfl rfl rfl (e_psh_iconst 19 1 1 (e_invV_invokevirtual 20 1614211 106 3 181 12 rfl rfl rfl rfl rfl rfl (e_if_eq 23 31 8 (e_psh_bipush 26 117 117 (e_goto 28 59 31)))))))))))))))
def kt_260 : Nat → Option ex_C := fun pc => @Bool.rec (fun _ => Nat → Option ex_C) (fun pc => @Bool.rec (fun _ => Nat → Option ex_C) (fun pc => @Bool.rec (fun _ => Option ex_C) none (some k260_59) (Nat.beq pc 59)) (fun pc => @Bool.rec (fun _ => Option ex_C) none (some k260_31) (Nat.beq pc 31)) (Nat.ble pc 31) pc) (fun pc => @Bool.rec (fun _ => Option ex_C) none (some k260_0) (Nat.beq pc 0)) (Nat.ble pc 0) pc
theorem ktE_260 : ex_CTT 2 [] cd_260 kt_260 cd_260 := (ex_ct2 (ex_ct1 kE260_0) (ex_ct2 (ex_ct1 kE260_31) (ex_ct1 kE260_59)))
set_option maxHeartbeats 100000 in
def k261_74 : ex_C := c_ireturn  1
set_option maxHeartbeats 100000 in
theorem kE261_74 : ex_CE 1 [] cd_261 k261_74 q261_74 := e_ireturn 74 0 
set_option maxHeartbeats 100000 in
def k261_73 : ex_C := c_psh 0 (k261_74)
set_option maxHeartbeats 100000 in
theorem kE261_73 : ex_CE 1 [] cd_261 k261_73 q261_73 := e_psh_iconst 73 0 0 (kE261_74)
set_option maxHeartbeats 100000 in
def k261_56 : ex_C := c_psh 3 (c_invV [] cd_261 57 3 181 12 (c_if_ne 73 (c_aload 3 (c_iload 1 (c_baload (c_if_eq 73 (c_psh 1 (c_goto 74))))))))
set_option maxHeartbeats 100000 in
theorem kE261_56 : ex_CE 1 [] cd_261 k261_56 q261_56 := e_psh_iconst 56 3 3 (e_invV_invokevirtual 57 1614211 106 3 181 12 rfl rfl rfl rfl rfl rfl (e_if_ne 60 73 13 (e_aload_aload_n 63 0 3 3 rfl (e_iload_iload_n 64 0 1 1 rfl (e_baload 65 0 (e_if_eq 66 73 7 (e_psh_iconst 69 1 1 (e_goto 70 74 4))))))))
set_option maxHeartbeats 100000 in
def k261_55 : ex_C := c_psh 0 (k261_56)
set_option maxHeartbeats 100000 in
theorem kE261_55 : ex_CE 1 [] cd_261 k261_55 q261_55 := e_psh_iconst 55 0 0 (kE261_56)
set_option maxHeartbeats 100000 in
def k261_32 : ex_C := c_aload 0 (c_aload 0 (c_aload 0 (c_invV [] cd_261 35 1 185 12 (c_invV [] cd_261 38 2 222 12 (c_iload 2 (c_invV [] cd_261 42 3 221 12 (c_astore 3 (c_aload 0 (c_aload 3 (c_ifnull 7 55 (c_psh 1 (c_goto 56))))))))))))
set_option maxHeartbeats 100000 in
theorem kE261_32 : ex_CE 1 [] cd_261 k261_32 q261_32 := e_aload_aload_n 32 0 0 0 rfl (e_aload_aload_n 33 0 0 0 rfl (e_aload_aload_n 34 0 0 0 rfl (e_invV_invokevirtual 35 1646977 129 1 185 12 rfl rfl rfl rfl rfl rfl (e_invV_invokevirtual 38 1950082 430 2 222 12 rfl rfl rfl rfl rfl rfl (e_iload_iload_n 41 0 2 2 rfl (e_invV_invokevirtual 42 1941891 396 3 221 12 rfl rfl rfl rfl rfl rfl (e_astore_astore_n 45 0 3 3 rfl (e_aload_aload_n 46 0 0 0 rfl (e_aload_aload_n 47 0 3 3 rfl (e_ifnull 48 55 7 (e_psh_iconst 51 1 1 (e_goto 52 56 4))))))))))))
set_option maxHeartbeats 100000 in
def k261_30 : ex_C := c_psh 0 (c_ireturn  1)
set_option maxHeartbeats 100000 in
theorem kE261_30 : ex_CE 1 [] cd_261 k261_30 q261_30 := e_psh_iconst 30 0 0 (e_ireturn 31 0 )
set_option maxHeartbeats 100000 in
def k261_23 : ex_C := c_psh 2 (c_invV [] cd_261 24 3 181 12 (c_if_eq 32 (k261_30)))
set_option maxHeartbeats 100000 in
theorem kE261_23 : ex_CE 1 [] cd_261 k261_23 q261_23 := e_psh_iconst 23 2 2 (e_invV_invokevirtual 24 1614211 106 3 181 12 rfl rfl rfl rfl rfl rfl (e_if_eq 27 32 5 (kE261_30)))
set_option maxHeartbeats 100000 in
def k261_22 : ex_C := c_psh 0 (k261_23)
set_option maxHeartbeats 100000 in
theorem kE261_22 : ex_CE 1 [] cd_261 k261_22 q261_22 := e_psh_iconst 22 0 0 (kE261_23)
set_option maxHeartbeats 100000 in
def k261_0 : ex_C := c_aload 0 (c_iload 1 (c_invV [] cd_261 2 2 182 12 (c_if_ne 30 (c_aload 0 (c_psh 17179869213 (c_iload 2 (c_invV [] cd_261 12 2 305 18 (c_if_lt 22 (c_psh 1 (c_goto 23))))))))))
set_option maxHeartbeats 100000 in
theorem kE261_0 : ex_CE 1 [] cd_261 k261_0 q261_0 := e_aload_aload_n 0 0 0 0 rfl (e_iload_iload_n 1 0 1 1 rfl (e_invV_invokevirtual 2 1622402 141 2 182 12 rfl rfl rfl rfl rfl rfl (e_if_ne 5 30 25 (e_aload_aload_n 8 0 0 0 rfl (e_psh_ldc 9 17179869213 200 (e_iload_iload_n 11 0 2 2 rfl (e_invV_invokevirtual 12 2630210 195 2 305 18 rfl rfl rfl rfl rfl rfl (e_if_lt 15 22 7 (e_psh_iconst 18 1 1 (e_goto 19 23 4))))))))))
def kt_261 : Nat → Option ex_C := fun pc => @Bool.rec (fun _ => Nat → Option ex_C) (fun pc => @Bool.rec (fun _ => Nat → Option ex_C) (fun pc => @Bool.rec (fun _ => Nat → Option ex_C) (fun pc => @Bool.rec (fun _ => Nat → Option ex_C) (fun pc => @Bool.rec (fun _ => Option ex_C) none (some k261_74) (Nat.beq pc 74)) (fun pc => @Bool.rec (fun _ => Option ex_C) none (some k261_73) (Nat.beq pc 73)) (Nat.ble pc 73) pc) (fun pc => @Bool.rec (fun _ => Option ex_C) none (some k261_56) (Nat.beq pc 56)) (Nat.ble pc 56) pc) (fun pc => @Bool.rec (fun _ => Nat → Option ex_C) (fun pc => @Bool.rec (fun _ => Option ex_C) none (some k261_55) (Nat.beq pc 55)) (fun pc => @Bool.rec (fun _ => Option ex_C) none (some k261_32) (Nat.beq pc 32)) (Nat.ble pc 32) pc) (Nat.ble pc 55) pc) (fun pc => @Bool.rec (fun _ => Nat → Option ex_C) (fun pc => @Bool.rec (fun _ => Nat → Option ex_C) (fun pc => @Bool.rec (fun _ => Option ex_C) none (some k261_30) (Nat.beq pc 30)) (fun pc => @Bool.rec (fun _ => Option ex_C) none (some k261_23) (Nat.beq pc 23)) (Nat.ble pc 23) pc) (fun pc => @Bool.rec (fun _ => Nat → Option ex_C) (fun pc => @Bool.rec (fun _ => Option ex_C) none (some k261_22) (Nat.beq pc 22)) (fun pc => @Bool.rec (fun _ => Option ex_C) none (some k261_0) (Nat.beq pc 0)) (Nat.ble pc 0) pc) (Nat.ble pc 22) pc) (Nat.ble pc 30) pc
theorem ktE_261 : ex_CTT 1 [] cd_261 kt_261 cd_261 := (ex_ct2 (ex_ct2 (ex_ct2 (ex_ct1 kE261_0) (ex_ct1 kE261_22)) (ex_ct2 (ex_ct1 kE261_23) (ex_ct1 kE261_30))) (ex_ct2 (ex_ct2 (ex_ct1 kE261_32) (ex_ct1 kE261_55)) (ex_ct2 (ex_ct1 kE261_56) (ex_ct2 (ex_ct1 kE261_73) (ex_ct1 kE261_74)))))
set_option maxHeartbeats 100000 in
def k262_104 : ex_C := c_ireturn  0
set_option maxHeartbeats 100000 in
theorem kE262_104 : ex_CE 0 [] cd_262 k262_104 q262_104 := e_ireturn 104 0 
set_option maxHeartbeats 100000 in
def k262_102 : ex_C := c_iload 5 (k262_104)
set_option maxHeartbeats 100000 in
theorem kE262_102 : ex_CE 0 [] cd_262 k262_102 q262_102 := e_iload_iload 102 0 5 (kE262_104)
set_option maxHeartbeats 100000 in
def k262_91 : ex_C := c_psh 3 (c_invV [] cd_262 92 3 181 12 (c_if_eq 102 (c_psh 0 (c_goto 104))))
set_option maxHeartbeats 100000 in
theorem kE262_91 : ex_CE 0 [] cd_262 k262_91 q262_91 := e_psh_iconst 91 3 3 (e_invV_invokevirtual 92 1614211 106 3 181 12 rfl rfl rfl rfl rfl rfl (e_if_eq 95 102 7 (e_psh_iconst 98 0 0 (e_goto 99 104 5))))
set_option maxHeartbeats 100000 in
def k262_90 : ex_C := c_psh 0 (k262_91)
set_option maxHeartbeats 100000 in
theorem kE262_90 : ex_CE 0 [] cd_262 k262_90 q262_90 := e_psh_iconst 90 0 0 (kE262_91)
set_option maxHeartbeats 100000 in
def k262_77 : ex_C := c_istore 5 (c_aload 0 (c_iload 5 (c_psh 4294967295 (c_icmp_eq 90 (c_psh 1 (c_goto 91))))))
set_option maxHeartbeats 100000 in
theorem kE262_77 : ex_CE 0 [] cd_262 k262_77 q262_77 := e_istore_istore 77 0 5 (e_aload_aload_n 79 0 0 0 rfl (e_iload_iload 80 0 5 (e_psh_iconst 82 4294967295 (-1) (e_icmp_eq 83 90 7 (e_psh_iconst 86 1 1 (e_goto 87 91 4))))))
set_option maxHeartbeats 100000 in
def k262_63 : ex_C := c_aload 4 (c_aload 4 (c_invS [] cd_262 67 1 226 (c_iload 3 (c_psh 0 (c_invS [] cd_262 72 4 234 (c_iload 1 (c_iaload (k262_77))))))))
set_option maxHeartbeats 100000 in
theorem kE262_63 : ex_CE 0 [] cd_262 k262_63 q262_63 := e_aload_aload 63 0 4 (e_aload_aload 65 0 4 (e_invS 67 1990625 335 1 226 rfl rfl rfl (e_iload_iload_n 70 0 3 3 rfl (e_psh_iconst 71 0 0 (e_invS 72 2056164 339 4 234 rfl rfl rfl (e_iload_iload_n 75 0 1 1 rfl (e_iaload 76 0 (kE262_77))))))))
set_option maxHeartbeats 100000 in
def k262_33 : ex_C := c_aload 0 (c_aload 0 (c_invV [] cd_262 35 1 185 12 (c_invV [] cd_262 38 2 222 12 (c_astore 4 (c_iload 2 (c_if_eq 63 (c_aload 4 (c_aload 4 (c_invS [] cd_262 51 1 226 (c_iload 3 (c_invS [] cd_262 55 3 231 (c_iload 1 (c_iaload (c_goto 77))))))))))))))
set_option maxHeartbeats 100000 in
theorem kE262_33 : ex_CE 0 [] cd_262 k262_33 q262_33 := e_aload_aload_n 33 0 0 0 rfl (e_aload_aload_n 34 0 0 0 rfl (e_invV_invokevirtual 35 1646977 129 1 185 12 rfl rfl rfl rfl rfl rfl (e_invV_invokevirtual 38 1950082 430 2 222 12 rfl rfl rfl rfl rfl rfl (e_astore_astore 41 0 4 (e_iload_iload_n 43 0 2 2 rfl (e_if_eq 44 63 19 (e_aload_aload 47 0 4 (e_aload_aload 49 0 4 (e_invS 51 1990625 335 1 226 rfl rfl rfl (e_iload_iload_n 54 0 3 3 rfl (e_invS 55 2031587 403 3 231 rfl rfl rfl (e_iload_iload_n 58 0 1 1 rfl (e_iaload 59 0 (e_goto 60 77 17))))))))))))))
set_option maxHeartbeats 100000 in
def k262_31 : ex_C := c_psh 0 (c_ireturn  0)
set_option maxHeartbeats 100000 in
theorem kE262_31 : ex_CE 0 [] cd_262 k262_31 q262_31 := e_psh_iconst 31 0 0 (e_ireturn 32 0 )
set_option maxHeartbeats 100000 in
def k262_24 : ex_C := c_psh 2 (c_invV [] cd_262 25 3 181 12 (c_if_eq 33 (k262_31)))
set_option maxHeartbeats 100000 in
theorem kE262_24 : ex_CE 0 [] cd_262 k262_24 q262_24 := e_psh_iconst 24 2 2 (e_invV_invokevirtual 25 1614211 106 3 181 12 rfl rfl rfl rfl rfl rfl (e_if_eq 28 33 5 (kE262_31)))
set_option maxHeartbeats 100000 in
def k262_23 : ex_C := c_psh 0 (k262_24)
set_option maxHeartbeats 100000 in
theorem kE262_23 : ex_CE 0 [] cd_262 k262_23 q262_23 := e_psh_iconst 23 0 0 (kE262_24)
set_option maxHeartbeats 100000 in
def k262_19 : ex_C := c_psh 1 (c_goto 24)
set_option maxHeartbeats 100000 in
theorem kE262_19 : ex_CE 0 [] cd_262 k262_19 q262_19 := e_psh_iconst 19 1 1 (e_goto 20 24 4)
set_option maxHeartbeats 100000 in
def k262_0 : ex_C := c_aload 0 (c_iload 1 (c_invV [] cd_262 2 2 182 12 (c_if_ne 31 (c_aload 0 (c_iload 3 (c_psh 2 (c_icmp_eq 19 (c_iload 3 (c_psh 4 (c_icmp_ne 23 (k262_19)))))))))))
set_option maxHeartbeats 100000 in
theorem kE262_0 : ex_CE 0 [] cd_262 k262_0 q262_0 := e_aload_aload_n 0 0 0 0 rfl (e_iload_iload_n 1 0 1 1 rfl (e_invV_invokevirtual 2 1622402 141 2 182 12 rfl rfl rfl rfl rfl rfl (e_if_ne 5 31 26 (e_aload_aload_n 8 0 0 0 rfl (e_iload_iload_n 9 0 3 3 rfl (e_psh_iconst 10 2 2 (e_icmp_eq 11 19 8 (e_iload_iload_n 14 0 3 3 rfl (e_psh_iconst 15 4 4 (e_icmp_ne 16 23 7 (kE262_19)))))))))))
def kt_262 : Nat → Option ex_C := fun pc => @Bool.rec (fun _ => Nat → Option ex_C) (fun pc => @Bool.rec (fun _ => Nat → Option ex_C) (fun pc => @Bool.rec (fun _ => Nat → Option ex_C) (fun pc => @Bool.rec (fun _ => Nat → Option ex_C) (fun pc => @Bool.rec (fun _ => Option ex_C) none (some k262_104) (Nat.beq pc 104)) (fun pc => @Bool.rec (fun _ => Option ex_C) none (some k262_102) (Nat.beq pc 102)) (Nat.ble pc 102) pc) (fun pc => @Bool.rec (fun _ => Option ex_C) none (some k262_91) (Nat.beq pc 91)) (Nat.ble pc 91) pc) (fun pc => @Bool.rec (fun _ => Nat → Option ex_C) (fun pc => @Bool.rec (fun _ => Nat → Option ex_C) (fun pc => @Bool.rec (fun _ => Option ex_C) none (some k262_90) (Nat.beq pc 90)) (fun pc => @Bool.rec (fun _ => Option ex_C) none (some k262_77) (Nat.beq pc 77)) (Nat.ble pc 77) pc) (fun pc => @Bool.rec (fun _ => Option ex_C) none (some k262_63) (Nat.beq pc 63)) (Nat.ble pc 63) pc) (Nat.ble pc 90) pc) (fun pc => @Bool.rec (fun _ => Nat → Option ex_C) (fun pc => @Bool.rec (fun _ => Nat → Option ex_C) (fun pc => @Bool.rec (fun _ => Nat → Option ex_C) (fun pc => @Bool.rec (fun _ => Option ex_C) none (some k262_33) (Nat.beq pc 33)) (fun pc => @Bool.rec (fun _ => Option ex_C) none (some k262_31) (Nat.beq pc 31)) (Nat.ble pc 31) pc) (fun pc => @Bool.rec (fun _ => Option ex_C) none (some k262_24) (Nat.beq pc 24)) (Nat.ble pc 24) pc) (fun pc => @Bool.rec (fun _ => Nat → Option ex_C) (fun pc => @Bool.rec (fun _ => Nat → Option ex_C) (fun pc => @Bool.rec (fun _ => Option ex_C) none (some k262_23) (Nat.beq pc 23)) (fun pc => @Bool.rec (fun _ => Option ex_C) none (some k262_19) (Nat.beq pc 19)) (Nat.ble pc 19) pc) (fun pc => @Bool.rec (fun _ => Option ex_C) none (some k262_0) (Nat.beq pc 0)) (Nat.ble pc 0) pc) (Nat.ble pc 23) pc) (Nat.ble pc 33) pc
theorem ktE_262 : ex_CTT 0 [] cd_262 kt_262 cd_262 := (ex_ct2 (ex_ct2 (ex_ct2 (ex_ct1 kE262_0) (ex_ct2 (ex_ct1 kE262_19) (ex_ct1 kE262_23))) (ex_ct2 (ex_ct1 kE262_24) (ex_ct2 (ex_ct1 kE262_31) (ex_ct1 kE262_33)))) (ex_ct2 (ex_ct2 (ex_ct1 kE262_63) (ex_ct2 (ex_ct1 kE262_77) (ex_ct1 kE262_90))) (ex_ct2 (ex_ct1 kE262_91) (ex_ct2 (ex_ct1 kE262_102) (ex_ct1 kE262_104)))))
set_option maxHeartbeats 100000 in
def k263_62 : ex_C := c_ireturn  2
set_option maxHeartbeats 100000 in
theorem kE263_62 : ex_CE 2 [] cd_263 k263_62 q263_62 := e_ireturn 62 0 
set_option maxHeartbeats 100000 in
def k263_56 : ex_C := c_aload 2 (c_iload 1 (c_iload 3 (c_invS [] cd_263 59 3 236 (k263_62))))
set_option maxHeartbeats 100000 in
theorem kE263_56 : ex_CE 2 [] cd_263 k263_56 q263_56 := e_aload_aload_n 56 0 2 2 rfl (e_iload_iload_n 57 0 1 1 rfl (e_iload_iload_n 58 0 3 3 rfl (e_invS 59 2072547 392 3 236 rfl rfl rfl (kE263_62))))
set_option maxHeartbeats 100000 in
def k263_44 : ex_C := c_psh 2 (c_invV [] cd_263 45 3 181 12 (c_if_eq 56 (c_psh 99 (c_goto 62))))
set_option maxHeartbeats 100000 in
theorem kE263_44 : ex_CE 2 [] cd_263 k263_44 q263_44 := e_psh_iconst 44 2 2 (e_invV_invokevirtual 45 1614211 106 3 181 12 rfl rfl rfl rfl rfl rfl (e_if_eq 48 56 8 (e_psh_bipush 51 99 99 (e_goto 53 62 9))))
set_option maxHeartbeats 100000 in
def k263_43 : ex_C := c_psh 0 (k263_44)
set_option maxHeartbeats 100000 in
theorem kE263_43 : ex_CE 2 [] cd_263 k263_43 q263_43 := e_psh_iconst 43 0 0 (kE263_44)
set_option maxHeartbeats 100000 in
def k263_11 : ex_C := c_aload 0 (c_aload 0 (c_invV [] cd_263 13 1 185 12 (c_invV [] cd_263 16 2 222 12 (c_astore 2 (c_aload 2 (c_aload 2 (c_invS [] cd_263 22 1 226 (c_psh 2 (c_psh 0 (c_invS [] cd_263 27 4 234 (c_iload 1 (c_iaload (c_istore 3 (c_aload 0 (c_iload 3 (c_psh 4294967295 (c_icmp_eq 43 (c_psh 1 (c_goto 44)))))))))))))))))))
set_option maxHeartbeats 100000 in
theorem kE263_11 : ex_CE 2 [] cd_263 k263_11 q263_11 := e_aload_aload_n 11 0 0 0 rfl (e_aload_aload_n 12 0 0 0 rfl (e_invV_invokevirtual 13 1646977 129 1 185 12 rfl rfl rfl rfl rfl rfl (e_invV_invokevirtual 16 1950082 430 2 222 12 rfl rfl rfl rfl rfl rfl (e_astore_astore_n 19 0 2 2 rfl (e_aload_aload_n 20 0 2 2 rfl (e_aload_aload_n 21 0 2 2 rfl (e_invS 22 1990625 335 1 226 rfl rfl rfl (e_psh_iconst 25 2 2 (e_psh_iconst 26 0 0 (e_invS 27 2056164 339 4 234 rfl rfl rfl (e_iload_iload_n 30 0 1 1 rfl (e_iaload 31 0 (e_istore_istore_n 32 0 3 3 rfl (e_aload_aload_n 33 0 0 0 rfl (e_iload_iload_n 34 0 3 3 rfl (e_psh_iconst 35 4294967295 (-1) (e_icmp_eq 36 43 7 (e_psh_iconst 39 1 1 (e_goto 40 44 4)))))))))))))))))))
set_option maxHeartbeats 100000 in
def k263_0 : ex_C := c_aload 0 (c_iload 1 (c_invV [] cd_263 2 2 182 12 (c_if_eq 11 (c_psh 99 (c_ireturn  2)))))
set_option maxHeartbeats 100000 in
theorem kE263_0 : ex_CE 2 [] cd_263 k263_0 q263_0 := e_aload_aload_n 0 0 0 0 rfl (e_iload_iload_n 1 0 1 1 rfl (e_invV_invokevirtual 2 1622402 141 2 182 12 rfl rfl rfl rfl rfl rfl (e_if_eq 5 11 6 (e_psh_bipush 8 99 99 (e_ireturn 10 0 )))))
def kt_263 : Nat → Option ex_C := fun pc => @Bool.rec (fun _ => Nat → Option ex_C) (fun pc => @Bool.rec (fun _ => Nat → Option ex_C) (fun pc => @Bool.rec (fun _ => Nat → Option ex_C) (fun pc => @Bool.rec (fun _ => Option ex_C) none (some k263_62) (Nat.beq pc 62)) (fun pc => @Bool.rec (fun _ => Option ex_C) none (some k263_56) (Nat.beq pc 56)) (Nat.ble pc 56) pc) (fun pc => @Bool.rec (fun _ => Option ex_C) none (some k263_44) (Nat.beq pc 44)) (Nat.ble pc 44) pc) (fun pc => @Bool.rec (fun _ => Nat → Option ex_C) (fun pc => @Bool.rec (fun _ => Nat → Option ex_C) (fun pc => @Bool.rec (fun _ => Option ex_C) none (some k263_43) (Nat.beq pc 43)) (fun pc => @Bool.rec (fun _ => Option ex_C) none (some k263_11) (Nat.beq pc 11)) (Nat.ble pc 11) pc) (fun pc => @Bool.rec (fun _ => Option ex_C) none (some k263_0) (Nat.beq pc 0)) (Nat.ble pc 0) pc) (Nat.ble pc 43) pc
theorem ktE_263 : ex_CTT 2 [] cd_263 kt_263 cd_263 := (ex_ct2 (ex_ct2 (ex_ct1 kE263_0) (ex_ct2 (ex_ct1 kE263_11) (ex_ct1 kE263_43))) (ex_ct2 (ex_ct1 kE263_44) (ex_ct2 (ex_ct1 kE263_56) (ex_ct1 kE263_62))))
set_option maxHeartbeats 100000 in
def k264_227 : ex_C := c_aload 1 (c_areturn  5)
set_option maxHeartbeats 100000 in
theorem kE264_227 : ex_CE 5 [] cd_264 k264_227 q264_227 := e_aload_aload_n 227 0 1 1 rfl (e_areturn 228 0 )
set_option maxHeartbeats 100000 in
def k264_196 : ex_C := c_aload 1 (c_psh 3 (c_iload 2 (c_imul (c_iload 5 (c_iastore (c_aload 1 (c_psh 3 (c_iload 2 (c_imul (c_psh 1 (c_iadd (c_iload 6 (c_iastore (c_aload 1 (c_psh 3 (c_iload 2 (c_imul (c_psh 2 (c_iadd (c_iload 7 (c_iastore (c_iinc 2 1 (c_goto 7)))))))))))))))))))))))
set_option maxHeartbeats 100000 in
theorem kE264_196 : ex_CE 5 [] cd_264 k264_196 q264_196 := e_aload_aload_n 196 0 1 1 rfl (e_psh_iconst 197 3 3 (e_iload_iload_n 198 0 2 2 rfl (e_imul 199 0 (e_iload_iload 200 0 5 (e_iastore 202 0 (e_aload_aload_n 203 0 1 1 rfl (e_psh_iconst 204 3 3 (e_iload_iload_n 205 0 2 2 rfl (e_imul 206 0 (e_psh_iconst 207 1 1 (e_iadd 208 0 (e_iload_iload 209 0 6 (e_iastore 211 0 (e_aload_aload_n 212 0 1 1 rfl (e_psh_iconst 213 3 3 (e_iload_iload_n 214 0 2 2 rfl (e_imul 215 0 (e_psh_iconst 216 2 2 (e_iadd 217 0 (e_iload_iload 218 0 7 (e_iastore 220 0 (e_iinc 221 1 2 1 (e_goto 224 7 (-217))))))))))))))))))))))))
set_option maxHeartbeats 100000 in
def k264_194 : ex_C := c_istore 7 (k264_196)
set_option maxHeartbeats 100000 in
theorem kE264_194 : ex_CE 5 [] cd_264 k264_194 q264_194 := e_istore_istore 194 0 7 (kE264_196)
set_option maxHeartbeats 100000 in
def k264_193 : ex_C := c_psh 2 (k264_194)
set_option maxHeartbeats 100000 in
theorem kE264_193 : ex_CE 5 [] cd_264 k264_193 q264_193 := e_psh_iconst 193 2 2 (kE264_194)
set_option maxHeartbeats 100000 in
def k264_172 : ex_C := c_psh 2 (c_iload 2 (c_imul (c_psh 7 (c_isub (c_istore 5 (c_psh 0 (c_istore 6 (c_iload 2 (c_psh 2 (c_irem   (c_if_ne 193 (c_psh 0 (c_goto 194)))))))))))))
set_option maxHeartbeats 100000 in
theorem kE264_172 : ex_CE 5 [] cd_264 k264_172 q264_172 := e_psh_iconst 172 2 2 (e_iload_iload_n 173 0 2 2 rfl (e_imul 174 0 (e_psh_bipush 175 7 7 (e_isub 177 0 (e_istore_istore 178 0 5 (e_psh_iconst 180 0 0 (e_istore_istore 181 0 6 (e_iload_iload_n 183 0 2 2 rfl (e_psh_iconst 184 2 2 (e_irem 185 0  (e_if_ne 186 193 7 (e_psh_iconst 189 0 0 (e_goto 190 194 4)))))))))))))
set_option maxHeartbeats 100000 in
def k264_167 : ex_C := c_istore 7 (c_goto 196)
set_option maxHeartbeats 100000 in
theorem kE264_167 : ex_CE 5 [] cd_264 k264_167 q264_167 := e_istore_istore 167 0 7 (e_goto 169 196 27)
set_option maxHeartbeats 100000 in
def k264_166 : ex_C := c_psh 2 (k264_167)
set_option maxHeartbeats 100000 in
theorem kE264_166 : ex_CE 5 [] cd_264 k264_166 q264_166 := e_psh_iconst 166 2 2 (kE264_167)
set_option maxHeartbeats 100000 in
def k264_162 : ex_C := c_psh 0 (c_goto 167)
set_option maxHeartbeats 100000 in
theorem kE264_162 : ex_CE 5 [] cd_264 k264_162 q264_162 := e_psh_iconst 162 0 0 (e_goto 163 167 4)
set_option maxHeartbeats 100000 in
def k264_138 : ex_C := c_iload 0 (c_psh 101 (c_icmp_ne 172 (c_iload 4 (c_istore 5 (c_iload 3 (c_istore 6 (c_iload 3 (c_psh 4294967293 (c_icmp_eq 162 (c_iload 3 (c_psh 1 (c_icmp_ne 166 (k264_162)))))))))))))
set_option maxHeartbeats 100000 in
theorem kE264_138 : ex_CE 5 [] cd_264 k264_138 q264_138 := e_iload_iload_n 138 0 0 0 rfl (e_psh_bipush 139 101 101 (e_icmp_ne 141 172 31 (e_iload_iload 144 0 4 (e_istore_istore 146 0 5 (e_iload_iload_n 148 0 3 3 rfl (e_istore_istore 149 0 6 (e_iload_iload_n 151 0 3 3 rfl (e_psh_bipush 152 4294967293 (-3) (e_icmp_eq 154 162 8 (e_iload_iload_n 157 0 3 3 rfl (e_psh_iconst 158 1 1 (e_icmp_ne 159 166 7 (kE264_162)))))))))))))
set_option maxHeartbeats 100000 in
def k264_133 : ex_C := c_istore 7 (c_goto 196)
set_option maxHeartbeats 100000 in
theorem kE264_133 : ex_CE 5 [] cd_264 k264_133 q264_133 := e_istore_istore 133 0 7 (e_goto 135 196 61)
set_option maxHeartbeats 100000 in
def k264_132 : ex_C := c_psh 2 (k264_133)
set_option maxHeartbeats 100000 in
theorem kE264_132 : ex_CE 5 [] cd_264 k264_132 q264_132 := e_psh_iconst 132 2 2 (kE264_133)
set_option maxHeartbeats 100000 in
def k264_125 : ex_C := c_icmp_ne 132 (c_psh 0 (c_goto 133))
set_option maxHeartbeats 100000 in
theorem kE264_125 : ex_CE 5 [] cd_264 k264_125 q264_125 := e_icmp_ne 125 132 7 (e_psh_iconst 128 0 0 (e_goto 129 133 4))
set_option maxHeartbeats 100000 in
def k264_124 : ex_C := c_psh 0 (k264_125)
set_option maxHeartbeats 100000 in
theorem kE264_124 : ex_CE 5 [] cd_264 k264_124 q264_124 := e_psh_iconst 124 0 0 (kE264_125)
set_option maxHeartbeats 100000 in
def k264_114 : ex_C := c_iload 0 (c_psh 119 (c_icmp_ne 124 (c_psh 1 (c_goto 125))))
set_option maxHeartbeats 100000 in
theorem kE264_114 : ex_CE 5 [] cd_264 k264_114 q264_114 := e_iload_iload_n 114 0 0 0 rfl (e_psh_bipush 115 119 119 (e_icmp_ne 117 124 7 (e_psh_iconst 120 1 1 (e_goto 121 125 4))))
set_option maxHeartbeats 100000 in
def k264_113 : ex_C := c_psh 0 (k264_114)
set_option maxHeartbeats 100000 in
theorem kE264_113 : ex_CE 5 [] cd_264 k264_113 q264_113 := e_psh_iconst 113 0 0 (kE264_114)
set_option maxHeartbeats 100000 in
def k264_109 : ex_C := c_psh 1 (c_goto 114)
set_option maxHeartbeats 100000 in
theorem kE264_109 : ex_CE 5 [] cd_264 k264_109 q264_109 := e_psh_iconst 109 1 1 (e_goto 110 114 4)
set_option maxHeartbeats 100000 in
def k264_98 : ex_C := c_iload 3 (c_psh 4294967293 (c_icmp_eq 109 (c_iload 3 (c_psh 1 (c_icmp_ne 113 (k264_109))))))
set_option maxHeartbeats 100000 in
theorem kE264_98 : ex_CE 5 [] cd_264 k264_98 q264_98 := e_iload_iload_n 98 0 3 3 rfl (e_psh_bipush 99 4294967293 (-3) (e_icmp_eq 101 109 8 (e_iload_iload_n 104 0 3 3 rfl (e_psh_iconst 105 1 1 (e_icmp_ne 106 113 7 (kE264_109))))))
set_option maxHeartbeats 100000 in
def k264_86 : ex_C := c_iload 0 (c_psh 119 (c_icmp_eq 98 (c_iload 0 (c_psh 118 (c_icmp_ne 138 (k264_98))))))
set_option maxHeartbeats 100000 in
theorem kE264_86 : ex_CE 5 [] cd_264 k264_86 q264_86 := e_iload_iload_n 86 0 0 0 rfl (e_psh_bipush 87 119 119 (e_icmp_eq 89 98 9 (e_iload_iload_n 92 0 0 0 rfl (e_psh_bipush 93 118 118 (e_icmp_ne 95 138 43 (kE264_98))))))
set_option maxHeartbeats 100000 in
def k264_81 : ex_C := c_istore 7 (c_goto 196)
set_option maxHeartbeats 100000 in
theorem kE264_81 : ex_CE 5 [] cd_264 k264_81 q264_81 := e_istore_istore 81 0 7 (e_goto 83 196 113)
set_option maxHeartbeats 100000 in
def k264_80 : ex_C := c_psh 2 (k264_81)
set_option maxHeartbeats 100000 in
theorem kE264_80 : ex_CE 5 [] cd_264 k264_80 q264_80 := e_psh_iconst 80 2 2 (kE264_81)
set_option maxHeartbeats 100000 in
def k264_73 : ex_C := c_icmp_ne 80 (c_psh 0 (c_goto 81))
set_option maxHeartbeats 100000 in
theorem kE264_73 : ex_CE 5 [] cd_264 k264_73 q264_73 := e_icmp_ne 73 80 7 (e_psh_iconst 76 0 0 (e_goto 77 81 4))
set_option maxHeartbeats 100000 in
def k264_72 : ex_C := c_psh 0 (k264_73)
set_option maxHeartbeats 100000 in
theorem kE264_72 : ex_CE 5 [] cd_264 k264_72 q264_72 := e_psh_iconst 72 0 0 (kE264_73)
set_option maxHeartbeats 100000 in
def k264_62 : ex_C := c_iload 0 (c_psh 108 (c_icmp_ne 72 (c_psh 1 (c_goto 73))))
set_option maxHeartbeats 100000 in
theorem kE264_62 : ex_CE 5 [] cd_264 k264_62 q264_62 := e_iload_iload_n 62 0 0 0 rfl (e_psh_bipush 63 108 108 (e_icmp_ne 65 72 7 (e_psh_iconst 68 1 1 (e_goto 69 73 4))))
set_option maxHeartbeats 100000 in
def k264_61 : ex_C := c_psh 0 (k264_62)
set_option maxHeartbeats 100000 in
theorem kE264_61 : ex_CE 5 [] cd_264 k264_61 q264_61 := e_psh_iconst 61 0 0 (kE264_62)
set_option maxHeartbeats 100000 in
def k264_52 : ex_C := c_iload 4 (c_if_ge 61 (c_psh 1 (c_goto 62)))
set_option maxHeartbeats 100000 in
theorem kE264_52 : ex_CE 5 [] cd_264 k264_52 q264_52 := e_iload_iload 52 0 4 (e_if_ge 54 61 7 (e_psh_iconst 57 1 1 (e_goto 58 62 4)))
set_option maxHeartbeats 100000 in
def k264_31 : ex_C := c_istore 4 (c_iload 3 (c_istore 5 (c_iload 4 (c_istore 6 (c_iload 0 (c_psh 108 (c_icmp_eq 52 (c_iload 0 (c_psh 107 (c_icmp_ne 86 (k264_52)))))))))))
set_option maxHeartbeats 100000 in
theorem kE264_31 : ex_CE 5 [] cd_264 k264_31 q264_31 := e_istore_istore 31 0 4 (e_iload_iload_n 33 0 3 3 rfl (e_istore_istore 34 0 5 (e_iload_iload 36 0 4 (e_istore_istore 38 0 6 (e_iload_iload_n 40 0 0 0 rfl (e_psh_bipush 41 108 108 (e_icmp_eq 43 52 9 (e_iload_iload_n 46 0 0 0 rfl (e_psh_bipush 47 107 107 (e_icmp_ne 49 86 37 (kE264_52)))))))))))
set_option maxHeartbeats 100000 in
def k264_30 : ex_C := c_psh 1 (k264_31)
set_option maxHeartbeats 100000 in
theorem kE264_30 : ex_CE 5 [] cd_264 k264_30 q264_30 := e_psh_iconst 30 1 1 (kE264_31)
set_option maxHeartbeats 100000 in
def k264_7 : ex_C := c_iload 2 (c_psh 8 (c_icmp_ge 227 (c_psh 2 (c_iload 2 (c_psh 4 (c_irem   (c_imul (c_psh 3 (c_isub (c_istore 3 (c_iload 2 (c_psh 4 (c_icmp_ge 30 (c_psh 4294967295 (c_goto 31)))))))))))))))
set_option maxHeartbeats 100000 in
theorem kE264_7 : ex_CE 5 [] cd_264 k264_7 q264_7 := e_iload_iload_n 7 0 2 2 rfl (e_psh_bipush 8 8 8 (e_icmp_ge 10 227 217 (e_psh_iconst 13 2 2 (e_iload_iload_n 14 0 2 2 rfl (e_psh_iconst 15 4 4 (e_irem 16 0  (e_imul 17 0 (e_psh_iconst 18 3 3 (e_isub 19 0 (e_istore_istore_n 20 0 3 3 rfl (e_iload_iload_n 21 0 2 2 rfl (e_psh_iconst 22 4 4 (e_icmp_ge 23 30 7 (e_psh_iconst 26 4294967295 (-1) (e_goto 27 31 4)))))))))))))))
set_option maxHeartbeats 100000 in
def k264_0 : ex_C := c_psh 24 (c_newarr 64 0 (c_astore 1 (c_psh 0 (c_istore 2 (k264_7)))))
set_option maxHeartbeats 100000 in
theorem kE264_0 : ex_CE 5 [] cd_264 k264_0 q264_0 := e_psh_bipush 0 24 24 (e_newarr 2 64 0 rfl (e_astore_astore_n 4 0 1 1 rfl (e_psh_iconst 5 0 0 (e_istore_istore_n 6 0 2 2 rfl (kE264_7)))))
def kt_264 : Nat → Option ex_C := fun pc => @Bool.rec (fun _ => Nat → Option ex_C) (fun pc => @Bool.rec (fun _ => Nat → Option ex_C) (fun pc => @Bool.rec (fun _ => Nat → Option ex_C) (fun pc => @Bool.rec (fun _ => Nat → Option ex_C) (fun pc => @Bool.rec (fun _ => Nat → Option ex_C) (fun pc => @Bool.rec (fun _ => Option ex_C) none (some k264_227) (Nat.beq pc 227)) (fun pc => @Bool.rec (fun _ => Option ex_C) none (some k264_196) (Nat.beq pc 196)) (Nat.ble pc 196) pc) (fun pc => @Bool.rec (fun _ => Nat → Option ex_C) (fun pc => @Bool.rec (fun _ => Option ex_C) none (some k264_194) (Nat.beq pc 194)) (fun pc => @Bool.rec (fun _ => Option ex_C) none (some k264_193) (Nat.beq pc 193)) (Nat.ble pc 193) pc) (Nat.ble pc 194) pc) (fun pc => @Bool.rec (fun _ => Nat → Option ex_C) (fun pc => @Bool.rec (fun _ => Nat → Option ex_C) (fun pc => @Bool.rec (fun _ => Option ex_C) none (some k264_172) (Nat.beq pc 172)) (fun pc => @Bool.rec (fun _ => Option ex_C) none (some k264_167) (Nat.beq pc 167)) (Nat.ble pc 167) pc) (fun pc => @Bool.rec (fun _ => Nat → Option ex_C) (fun pc => @Bool.rec (fun _ => Option ex_C) none (some k264_166) (Nat.beq pc 166)) (fun pc => @Bool.rec (fun _ => Option ex_C) none (some k264_162) (Nat.beq pc 162)) (Nat.ble pc 162) pc) (Nat.ble pc 166) pc) (Nat.ble pc 172) pc) (fun pc => @Bool.rec (fun _ => Nat → Option ex_C) (fun pc => @Bool.rec (fun _ => Nat → Option ex_C) (fun pc => @Bool.rec (fun _ => Nat → Option ex_C) (fun pc => @Bool.rec (fun _ => Option ex_C) none (some k264_138) (Nat.beq pc 138)) (fun pc => @Bool.rec (fun _ => Option ex_C) none (some k264_133) (Nat.beq pc 133)) (Nat.ble pc 133) pc) (fun pc => @Bool.rec (fun _ => Nat → Option ex_C) (fun pc => @Bool.rec (fun _ => Option ex_C) none (some k264_132) (Nat.beq pc 132)) (fun pc => @Bool.rec (fun _ => Option ex_C) none (some k264_125) (Nat.beq pc 125)) (Nat.ble pc 125) pc) (Nat.ble pc 132) pc) (fun pc => @Bool.rec (fun _ => Nat → Option ex_C) (fun pc => @Bool.rec (fun _ => Nat → Option ex_C) (fun pc => @Bool.rec (fun _ => Option ex_C) none (some k264_124) (Nat.beq pc 124)) (fun pc => @Bool.rec (fun _ => Option ex_C) none (some k264_114) (Nat.beq pc 114)) (Nat.ble pc 114) pc) (fun pc => @Bool.rec (fun _ => Option ex_C) none (some k264_113) (Nat.beq pc 113)) (Nat.ble pc 113) pc) (Nat.ble pc 124) pc) (Nat.ble pc 138) pc) (fun pc => @Bool.rec (fun _ => Nat → Option ex_C) (fun pc => @Bool.rec (fun _ => Nat → Option ex_C) (fun pc => @Bool.rec (fun _ => Nat → Option ex_C) (fun pc => @Bool.rec (fun _ => Nat → Option ex_C) (fun pc => @Bool.rec (fun _ => Option ex_C) none (some k264_109) (Nat.beq pc 109)) (fun pc => @Bool.rec (fun _ => Option ex_C) none (some k264_98) (Nat.beq pc 98)) (Nat.ble pc 98) pc) (fun pc => @Bool.rec (fun _ => Nat → Option ex_C) (fun pc => @Bool.rec (fun _ => Option ex_C) none (some k264_86) (Nat.beq pc 86)) (fun pc => @Bool.rec (fun _ => Option ex_C) none (some k264_81) (Nat.beq pc 81)) (Nat.ble pc 81) pc) (Nat.ble pc 86) pc) (fun pc => @Bool.rec (fun _ => Nat → Option ex_C) (fun pc => @Bool.rec (fun _ => Nat → Option ex_C) (fun pc => @Bool.rec (fun _ => Option ex_C) none (some k264_80) (Nat.beq pc 80)) (fun pc => @Bool.rec (fun _ => Option ex_C) none (some k264_73) (Nat.beq pc 73)) (Nat.ble pc 73) pc) (fun pc => @Bool.rec (fun _ => Option ex_C) none (some k264_72) (Nat.beq pc 72)) (Nat.ble pc 72) pc) (Nat.ble pc 80) pc) (fun pc => @Bool.rec (fun _ => Nat → Option ex_C) (fun pc => @Bool.rec (fun _ => Nat → Option ex_C) (fun pc => @Bool.rec (fun _ => Nat → Option ex_C) (fun pc => @Bool.rec (fun _ => Option ex_C) none (some k264_62) (Nat.beq pc 62)) (fun pc => @Bool.rec (fun _ => Option ex_C) none (some k264_61) (Nat.beq pc 61)) (Nat.ble pc 61) pc) (fun pc => @Bool.rec (fun _ => Nat → Option ex_C) (fun pc => @Bool.rec (fun _ => Option ex_C) none (some k264_52) (Nat.beq pc 52)) (fun pc => @Bool.rec (fun _ => Option ex_C) none (some k264_31) (Nat.beq pc 31)) (Nat.ble pc 31) pc) (Nat.ble pc 52) pc) (fun pc => @Bool.rec (fun _ => Nat → Option ex_C) (fun pc => @Bool.rec (fun _ => Nat → Option ex_C) (fun pc => @Bool.rec (fun _ => Option ex_C) none (some k264_30) (Nat.beq pc 30)) (fun pc => @Bool.rec (fun _ => Option ex_C) none (some k264_7) (Nat.beq pc 7)) (Nat.ble pc 7) pc) (fun pc => @Bool.rec (fun _ => Option ex_C) none (some k264_0) (Nat.beq pc 0)) (Nat.ble pc 0) pc) (Nat.ble pc 30) pc) (Nat.ble pc 62) pc) (Nat.ble pc 109) pc
theorem ktE_264 : ex_CTT 5 [] cd_264 kt_264 cd_264 := (ex_ct2 (ex_ct2 (ex_ct2 (ex_ct2 (ex_ct1 kE264_0) (ex_ct2 (ex_ct1 kE264_7) (ex_ct1 kE264_30))) (ex_ct2 (ex_ct2 (ex_ct1 kE264_31) (ex_ct1 kE264_52)) (ex_ct2 (ex_ct1 kE264_61) (ex_ct1 kE264_62)))) (ex_ct2 (ex_ct2 (ex_ct1 kE264_72) (ex_ct2 (ex_ct1 kE264_73) (ex_ct1 kE264_80))) (ex_ct2 (ex_ct2 (ex_ct1 kE264_81) (ex_ct1 kE264_86)) (ex_ct2 (ex_ct1 kE264_98) (ex_ct1 kE264_109))))) (ex_ct2 (ex_ct2 (ex_ct2 (ex_ct1 kE264_113) (ex_ct2 (ex_ct1 kE264_114) (ex_ct1 kE264_124))) (ex_ct2 (ex_ct2 (ex_ct1 kE264_125) (ex_ct1 kE264_132)) (ex_ct2 (ex_ct1 kE264_133) (ex_ct1 kE264_138)))) (ex_ct2 (ex_ct2 (ex_ct2 (ex_ct1 kE264_162) (ex_ct1 kE264_166)) (ex_ct2 (ex_ct1 kE264_167) (ex_ct1 kE264_172))) (ex_ct2 (ex_ct2 (ex_ct1 kE264_193) (ex_ct1 kE264_194)) (ex_ct2 (ex_ct1 kE264_196) (ex_ct1 kE264_227))))))
set_option maxHeartbeats 100000 in
def k265_11 : ex_C := c_aload 0 (c_gf 12 16 (c_istore 2 (c_aload 0 (c_psh 0 (c_pf 12 0 16 (c_aload 0 (c_invV [] cd_265 22 1 183 12 (c_astore 3 (c_aload 0 (c_iload 2 (c_pf 12 0 16 (c_aload 3 (c_areturn  5)))))))))))))
set_option maxHeartbeats 100000 in
theorem kE265_11 : ex_CE 5 [] cd_265 k265_11 q265_11 := e_aload_aload_n 11 0 0 0 rfl (e_gf 12 784 110 12 16 rfl rfl (e_istore_istore_n 15 0 2 2 rfl (e_aload_aload_n 16 0 0 0 rfl (e_psh_iconst 17 0 0 (e_pf 18 784 110 12 0 16 rfl rfl rfl (e_aload_aload_n 21 0 0 0 rfl (e_invV_invokevirtual 22 1630593 89 1 183 12 rfl rfl rfl rfl rfl rfl (e_astore_astore_n 25 0 3 3 rfl (e_aload_aload_n 26 0 0 0 rfl (e_iload_iload_n 27 0 2 2 rfl (e_pf 28 784 110 12 0 16 rfl rfl rfl (e_aload_aload_n 31 0 3 3 rfl (e_areturn 32 0 )))))))))))))
set_option maxHeartbeats 100000 in
def k265_0 : ex_C := c_iload 1 (c_psh 115 (c_icmp_eq 11 (c_iload 1 (c_invS [] cd_265 7 1 264 (c_areturn  5)))))
set_option maxHeartbeats 100000 in
theorem kE265_0 : ex_CE 5 [] cd_265 k265_0 q265_0 := e_iload_iload_n 0 0 1 1 rfl (e_psh_bipush 1 115 115 (e_icmp_eq 3 11 8 (e_iload_iload_n 6 0 1 1 rfl (e_invS 7 2301921 516 1 264 rfl rfl rfl (e_areturn 10 0 )))))
def kt_265 : Nat → Option ex_C := fun pc => @Bool.rec (fun _ => Nat → Option ex_C) (fun pc => @Bool.rec (fun _ => Option ex_C) none (some k265_11) (Nat.beq pc 11)) (fun pc => @Bool.rec (fun _ => Option ex_C) none (some k265_0) (Nat.beq pc 0)) (Nat.ble pc 0) pc
theorem ktE_265 : ex_CTT 5 [] cd_265 kt_265 cd_265 := (ex_ct2 (ex_ct1 kE265_0) (ex_ct1 kE265_11))
set_option maxHeartbeats 100000 in
def k266_135 : ex_C := c_iload 2 (c_ireturn  0)
set_option maxHeartbeats 100000 in
theorem kE266_135 : ex_CE 0 [] cd_266 k266_135 q266_135 := e_iload_iload_n 135 0 2 2 rfl (e_ireturn 136 0 )
set_option maxHeartbeats 100000 in
def k266_122 : ex_C := c_iload 2 (c_iload 5 (c_invS [] cd_266 125 2 302 (c_istore 2 (c_iinc 3 1 (c_goto 5)))))
set_option maxHeartbeats 100000 in
theorem kE266_122 : ex_CE 0 [] cd_266 k266_122 q266_122 := e_iload_iload_n 122 0 2 2 rfl (e_iload_iload 123 0 5 (e_invS 125 2613218 283 2 302 rfl rfl rfl (e_istore_istore_n 128 0 2 2 rfl (e_iinc 129 1 3 1 (e_goto 132 5 (-127))))))
set_option maxHeartbeats 100000 in
def k266_116 : ex_C := c_iinc 6 1 (c_goto 28)
set_option maxHeartbeats 100000 in
theorem kE266_116 : ex_CE 0 [] cd_266 k266_116 q266_116 := e_iinc 116 1 6 1 (e_goto 119 28 (-91))
set_option maxHeartbeats 100000 in
def k266_107 : ex_C := c_isub (c_istore 5 (c_iinc 7 1 (c_goto 38)))
set_option maxHeartbeats 100000 in
theorem kE266_107 : ex_CE 0 [] cd_266 k266_107 q266_107 := e_isub 107 0 (e_istore_istore 108 0 5 (e_iinc 110 1 7 1 (e_goto 113 38 (-75))))
set_option maxHeartbeats 100000 in
def k266_106 : ex_C := c_psh 0 (k266_107)
set_option maxHeartbeats 100000 in
theorem kE266_106 : ex_CE 0 [] cd_266 k266_106 q266_106 := e_psh_iconst 106 0 0 (kE266_107)
set_option maxHeartbeats 100000 in
def k266_38 : ex_C := c_iload 7 (c_psh 8 (c_icmp_ge 116 (c_iload 5 (c_aload 4 (c_psh 3 (c_iload 7 (c_imul (c_iaload (c_aload 0 (c_gf 12 0 (c_iload 6 (c_iaload (c_icmp_ne 106 (c_aload 4 (c_psh 3 (c_iload 7 (c_imul (c_psh 1 (c_iadd (c_iaload (c_aload 0 (c_gf 12 1 (c_iload 6 (c_iaload (c_icmp_ne 106 (c_aload 4 (c_psh 3 (c_iload 7 (c_imul (c_psh 2 (c_iadd (c_iaload (c_aload 0 (c_gf 12 2 (c_iload 6 (c_iaload (c_icmp_ne 106 (c_psh 1 (c_goto 107)))))))))))))))))))))))))))))))))))))))
set_option maxHeartbeats 100000 in
theorem kE266_38 : ex_CE 0 [] cd_266 k266_38 q266_38 := e_iload_iload 38 0 7 (e_psh_bipush 40 8 8 (e_icmp_ge 42 116 74 (e_iload_iload 45 0 5 (e_aload_aload 47 0 4 (e_psh_iconst 49 3 3 (e_iload_iload 50 0 7 (e_imul 52 0 (e_iaload 53 0 (e_aload_aload_n 54 0 0 0 rfl (e_gf 55 86784 7 12 0 rfl rfl (e_iload_iload 58 0 6 (e_iaload 60 0 (e_icmp_ne 61 106 45 (e_aload_aload 64 0 4 (e_psh_iconst 66 3 3 (e_iload_iload 67 0 7 (e_imul 69 0 (e_psh_iconst 70 1 1 (e_iadd 71 0 (e_iaload 72 0 (e_aload_aload_n 73 0 0 0 rfl (e_gf 74 86785 13 12 1 rfl rfl (e_iload_iload 77 0 6 (e_iaload 79 0 (e_icmp_ne 80 106 26 (e_aload_aload 83 0 4 (e_psh_iconst 85 3 3 (e_iload_iload 86 0 7 (e_imul 88 0 (e_psh_iconst 89 2 2 (e_iadd 90 0 (e_iaload 91 0 (e_aload_aload_n 92 0 0 0 rfl (e_gf 93 86786 16 12 2 rfl rfl (e_iload_iload 96 0 6 (e_iaload 98 0 (e_icmp_ne 99 106 7 (e_psh_iconst 102 1 1 (e_goto 103 107 4)))))))))))))))))))))))))))))))))))))))
set_option maxHeartbeats 100000 in
def k266_28 : ex_C := c_iload 6 (c_psh 8 (c_icmp_ge 122 (c_psh 0 (c_istore 7 (k266_38)))))
set_option maxHeartbeats 100000 in
theorem kE266_28 : ex_CE 0 [] cd_266 k266_28 q266_28 := e_iload_iload 28 0 6 (e_psh_bipush 30 8 8 (e_icmp_ge 32 122 90 (e_psh_iconst 35 0 0 (e_istore_istore 36 0 7 (kE266_38)))))
set_option maxHeartbeats 100000 in
def k266_5 : ex_C := c_iload 3 (c_psh 4 (c_icmp_ge 135 (c_aload 0 (c_iload 1 (c_invV [] cd_266 12 2 265 12 (c_iload 3 (c_invS [] cd_266 16 2 186 (c_astore 4 (c_psh 8 (c_istore 5 (c_psh 0 (c_istore 6 (k266_28)))))))))))))
set_option maxHeartbeats 100000 in
theorem kE266_5 : ex_CE 0 [] cd_266 k266_5 q266_5 := e_iload_iload_n 5 0 3 3 rfl (e_psh_iconst 6 4 4 (e_icmp_ge 7 135 128 (e_aload_aload_n 10 0 0 0 rfl (e_iload_iload_n 11 0 1 1 rfl (e_invV_invokevirtual 12 2302338 520 2 265 12 rfl rfl rfl rfl rfl rfl (e_iload_iload_n 15 0 3 3 rfl (e_invS 16 1662946 118 2 186 rfl rfl rfl (e_astore_astore 19 0 4 (e_psh_bipush 21 8 8 (e_istore_istore 23 0 5 (e_psh_iconst 25 0 0 (e_istore_istore 26 0 6 (kE266_28)))))))))))))
set_option maxHeartbeats 100000 in
def k266_0 : ex_C := c_psh 8 (c_istore 2 (c_psh 0 (c_istore 3 (k266_5))))
set_option maxHeartbeats 100000 in
theorem kE266_0 : ex_CE 0 [] cd_266 k266_0 q266_0 := e_psh_bipush 0 8 8 (e_istore_istore_n 2 0 2 2 rfl (e_psh_iconst 3 0 0 (e_istore_istore_n 4 0 3 3 rfl (kE266_5))))
def kt_266 : Nat → Option ex_C := fun pc => @Bool.rec (fun _ => Nat → Option ex_C) (fun pc => @Bool.rec (fun _ => Nat → Option ex_C) (fun pc => @Bool.rec (fun _ => Nat → Option ex_C) (fun pc => @Bool.rec (fun _ => Nat → Option ex_C) (fun pc => @Bool.rec (fun _ => Option ex_C) none (some k266_135) (Nat.beq pc 135)) (fun pc => @Bool.rec (fun _ => Option ex_C) none (some k266_122) (Nat.beq pc 122)) (Nat.ble pc 122) pc) (fun pc => @Bool.rec (fun _ => Option ex_C) none (some k266_116) (Nat.beq pc 116)) (Nat.ble pc 116) pc) (fun pc => @Bool.rec (fun _ => Nat → Option ex_C) (fun pc => @Bool.rec (fun _ => Option ex_C) none (some k266_107) (Nat.beq pc 107)) (fun pc => @Bool.rec (fun _ => Option ex_C) none (some k266_106) (Nat.beq pc 106)) (Nat.ble pc 106) pc) (Nat.ble pc 107) pc) (fun pc => @Bool.rec (fun _ => Nat → Option ex_C) (fun pc => @Bool.rec (fun _ => Nat → Option ex_C) (fun pc => @Bool.rec (fun _ => Option ex_C) none (some k266_38) (Nat.beq pc 38)) (fun pc => @Bool.rec (fun _ => Option ex_C) none (some k266_28) (Nat.beq pc 28)) (Nat.ble pc 28) pc) (fun pc => @Bool.rec (fun _ => Nat → Option ex_C) (fun pc => @Bool.rec (fun _ => Option ex_C) none (some k266_5) (Nat.beq pc 5)) (fun pc => @Bool.rec (fun _ => Option ex_C) none (some k266_0) (Nat.beq pc 0)) (Nat.ble pc 0) pc) (Nat.ble pc 5) pc) (Nat.ble pc 38) pc
theorem ktE_266 : ex_CTT 0 [] cd_266 kt_266 cd_266 := (ex_ct2 (ex_ct2 (ex_ct2 (ex_ct1 kE266_0) (ex_ct1 kE266_5)) (ex_ct2 (ex_ct1 kE266_28) (ex_ct1 kE266_38))) (ex_ct2 (ex_ct2 (ex_ct1 kE266_106) (ex_ct1 kE266_107)) (ex_ct2 (ex_ct1 kE266_116) (ex_ct2 (ex_ct1 kE266_122) (ex_ct1 kE266_135)))))
set_option maxHeartbeats 100000 in
def k267_40 : ex_C := c_psh 45 (c_ireturn  2)
set_option maxHeartbeats 100000 in
theorem kE267_40 : ex_CE 2 [] cd_267 k267_40 q267_40 := e_psh_bipush 40 45 45 (e_ireturn 42 0 )
set_option maxHeartbeats 100000 in
def k267_34 : ex_C := c_iinc 1 1 (c_goto 2)
set_option maxHeartbeats 100000 in
theorem kE267_34 : ex_CE 2 [] cd_267 k267_34 q267_34 := e_iinc 34 1 1 1 (e_goto 37 2 (-35))
set_option maxHeartbeats 100000 in
def k267_2 : ex_C := c_iload 1 (c_psh 17179869221 (c_invV [] cd_267 6 1 303 18 (c_icmp_ge 40 (c_aload 0 (c_psh 17179869221 (c_iload 1 (c_invV [] cd_267 17 2 304 18 (c_invV [] cd_267 20 2 266 12 (c_if_ne 34 (c_psh 17179869221 (c_iload 1 (c_invV [] cd_267 30 2 304 18 (c_ireturn  2)))))))))))))
set_option maxHeartbeats 100000 in
theorem kE267_2 : ex_CE 2 [] cd_267 k267_2 q267_2 := e_iload_iload_n 2 0 1 1 rfl (e_psh_ldc_w 3 17179869221 523 (e_invV_invokevirtual 6 2613825 525 1 303 18 rfl rfl rfl rfl rfl rfl (e_icmp_ge 9 40 31 (e_aload_aload_n 12 0 0 0 rfl (e_psh_ldc_w 13 17179869221 523 (e_iload_iload_n 16 0 1 1 rfl (e_invV_invokevirtual 17 2622018 528 2 304 18 rfl rfl rfl rfl rfl rfl (e_invV_invokevirtual 20 2310530 532 2 266 12 rfl rfl rfl rfl rfl rfl (e_if_ne 23 34 11 (e_psh_ldc_w 26 17179869221 523 (e_iload_iload_n 29 0 1 1 rfl (e_invV_invokevirtual 30 2622018 528 2 304 18 rfl rfl rfl rfl rfl rfl (e_ireturn 33 0 )))))))))))))
set_option maxHeartbeats 100000 in
def k267_0 : ex_C := c_psh 0 (c_istore 1 (k267_2))
set_option maxHeartbeats 100000 in
theorem kE267_0 : ex_CE 2 [] cd_267 k267_0 q267_0 := e_psh_iconst 0 0 0 (e_istore_istore_n 1 0 1 1 rfl (kE267_2))
def kt_267 : Nat → Option ex_C := fun pc => @Bool.rec (fun _ => Nat → Option ex_C) (fun pc => @Bool.rec (fun _ => Nat → Option ex_C) (fun pc => @Bool.rec (fun _ => Option ex_C) none (some k267_40) (Nat.beq pc 40)) (fun pc => @Bool.rec (fun _ => Option ex_C) none (some k267_34) (Nat.beq pc 34)) (Nat.ble pc 34) pc) (fun pc => @Bool.rec (fun _ => Nat → Option ex_C) (fun pc => @Bool.rec (fun _ => Option ex_C) none (some k267_2) (Nat.beq pc 2)) (fun pc => @Bool.rec (fun _ => Option ex_C) none (some k267_0) (Nat.beq pc 0)) (Nat.ble pc 0) pc) (Nat.ble pc 2) pc
theorem ktE_267 : ex_CTT 2 [] cd_267 kt_267 cd_267 := (ex_ct2 (ex_ct2 (ex_ct1 kE267_0) (ex_ct1 kE267_2)) (ex_ct2 (ex_ct1 kE267_34) (ex_ct1 kE267_40)))
set_option maxHeartbeats 100000 in
def k268_32 : ex_C := c_ireturn  0
set_option maxHeartbeats 100000 in
theorem kE268_32 : ex_CE 0 [] cd_268 k268_32 q268_32 := e_ireturn 32 0 
set_option maxHeartbeats 100000 in
def k268_27 : ex_C := c_aload 0 (c_iload 1 (c_invV [] cd_268 29 2 266 12 (k268_32)))
set_option maxHeartbeats 100000 in
theorem kE268_27 : ex_CE 0 [] cd_268 k268_27 q268_27 := e_aload_aload_n 27 0 0 0 rfl (e_iload_iload_n 28 0 1 1 rfl (e_invV_invokevirtual 29 2310530 532 2 266 12 rfl rfl rfl rfl rfl rfl (kE268_32)))
set_option maxHeartbeats 100000 in
def k268_16 : ex_C := c_psh 1 (c_invV [] cd_268 17 3 181 12 (c_if_eq 27 (c_psh 0 (c_goto 32))))
set_option maxHeartbeats 100000 in
theorem kE268_16 : ex_CE 0 [] cd_268 k268_16 q268_16 := e_psh_iconst 16 1 1 (e_invV_invokevirtual 17 1614211 106 3 181 12 rfl rfl rfl rfl rfl rfl (e_if_eq 20 27 7 (e_psh_iconst 23 0 0 (e_goto 24 32 8))))
set_option maxHeartbeats 100000 in
def k268_15 : ex_C := c_psh 0 (k268_16)
set_option maxHeartbeats 100000 in
theorem kE268_15 : ex_CE 0 [] cd_268 k268_15 q268_15 := e_psh_iconst 15 0 0 (kE268_16)
set_option maxHeartbeats 100000 in
def k268_0 : ex_C := c_aload 0 (c_psh 17179869221 (c_iload 1 (c_invV [] cd_268 5 2 305 18 (c_if_lt 15 (c_psh 1 (c_goto 16))))))
set_option maxHeartbeats 100000 in
theorem kE268_0 : ex_CE 0 [] cd_268 k268_0 q268_0 := e_aload_aload_n 0 0 0 0 rfl (e_psh_ldc_w 1 17179869221 523 (e_iload_iload_n 4 0 1 1 rfl (e_invV_invokevirtual 5 2630210 195 2 305 18 rfl rfl rfl rfl rfl rfl (e_if_lt 8 15 7 (e_psh_iconst 11 1 1 (e_goto 12 16 4))))))
def kt_268 : Nat → Option ex_C := fun pc => @Bool.rec (fun _ => Nat → Option ex_C) (fun pc => @Bool.rec (fun _ => Nat → Option ex_C) (fun pc => @Bool.rec (fun _ => Nat → Option ex_C) (fun pc => @Bool.rec (fun _ => Option ex_C) none (some k268_32) (Nat.beq pc 32)) (fun pc => @Bool.rec (fun _ => Option ex_C) none (some k268_27) (Nat.beq pc 27)) (Nat.ble pc 27) pc) (fun pc => @Bool.rec (fun _ => Option ex_C) none (some k268_16) (Nat.beq pc 16)) (Nat.ble pc 16) pc) (fun pc => @Bool.rec (fun _ => Nat → Option ex_C) (fun pc => @Bool.rec (fun _ => Option ex_C) none (some k268_15) (Nat.beq pc 15)) (fun pc => @Bool.rec (fun _ => Option ex_C) none (some k268_0) (Nat.beq pc 0)) (Nat.ble pc 0) pc) (Nat.ble pc 15) pc
theorem ktE_268 : ex_CTT 0 [] cd_268 kt_268 cd_268 := (ex_ct2 (ex_ct2 (ex_ct1 kE268_0) (ex_ct1 kE268_15)) (ex_ct2 (ex_ct1 kE268_16) (ex_ct2 (ex_ct1 kE268_27) (ex_ct1 kE268_32))))
set_option maxHeartbeats 100000 in
def k269_0 : ex_C := c_aload 0 (c_aload 0 (c_invV [] cd_269 2 1 185 12 (c_invV [] cd_269 5 2 188 12 (c_ireturn  1))))
set_option maxHeartbeats 100000 in
theorem kE269_0 : ex_CE 1 [] cd_269 k269_0 q269_0 := e_aload_aload_n 0 0 0 0 rfl (e_aload_aload_n 1 0 0 0 rfl (e_invV_invokevirtual 2 1646977 129 1 185 12 rfl rfl rfl rfl rfl rfl (e_invV_invokevirtual 5 1671554 536 2 188 12 rfl rfl rfl rfl rfl rfl (e_ireturn 8 0 ))))
def kt_269 : Nat → Option ex_C := fun pc => @Bool.rec (fun _ => Option ex_C) none (some k269_0) (Nat.beq pc 0)
theorem ktE_269 : ex_CTT 1 [] cd_269 kt_269 cd_269 := (ex_ct1 kE269_0)
set_option maxHeartbeats 100000 in
def k270_82 : ex_C := c_iload 1 (c_ireturn  1)
set_option maxHeartbeats 100000 in
theorem kE270_82 : ex_CE 1 [] cd_270 k270_82 q270_82 := e_iload_iload_n 82 0 1 1 rfl (e_ireturn 83 0 )
set_option maxHeartbeats 100000 in
def k270_74 : ex_C := c_iand (c_istore 1 (c_iinc 2 1 (c_goto 4)))
set_option maxHeartbeats 100000 in
theorem kE270_74 : ex_CE 1 [] cd_270 k270_74 q270_74 := e_iand 74 0 (e_istore_istore_n 75 0 1 1 rfl (e_iinc 76 1 2 1 (e_goto 79 4 (-75))))
set_option maxHeartbeats 100000 in
def k270_73 : ex_C := c_psh 0 (k270_74)
set_option maxHeartbeats 100000 in
theorem kE270_73 : ex_CE 1 [] cd_270 k270_73 q270_73 := e_psh_iconst 73 0 0 (kE270_74)
set_option maxHeartbeats 100000 in
def k270_4 : ex_C := c_iload 2 (c_psh 8 (c_icmp_ge 82 (c_iload 2 (c_psh 4 (c_iadd (c_psh 8 (c_irem   (c_istore 3 (c_iload 1 (c_aload 0 (c_gf 12 0 (c_iload 3 (c_iaload (c_aload 0 (c_gf 12 0 (c_iload 2 (c_iaload (c_ineg   (c_icmp_ne 73 (c_aload 0 (c_gf 12 1 (c_iload 3 (c_iaload (c_aload 0 (c_gf 12 1 (c_iload 2 (c_iaload (c_ineg   (c_icmp_ne 73 (c_aload 0 (c_gf 12 2 (c_iload 3 (c_iaload (c_aload 0 (c_gf 12 2 (c_iload 2 (c_iaload (c_psh 2 (c_iadd (c_psh 4 (c_irem   (c_icmp_ne 73 (c_psh 1 (c_goto 74))))))))))))))))))))))))))))))))))))))))))))
set_option maxHeartbeats 100000 in
theorem kE270_4 : ex_CE 1 [] cd_270 k270_4 q270_4 := e_iload_iload_n 4 0 2 2 rfl (e_psh_bipush 5 8 8 (e_icmp_ge 7 82 75 (e_iload_iload_n 10 0 2 2 rfl (e_psh_iconst 11 4 4 (e_iadd 12 0 (e_psh_bipush 13 8 8 (e_irem 15 0  (e_istore_istore_n 16 0 3 3 rfl (e_iload_iload_n 17 0 1 1 rfl (e_aload_aload_n 18 0 0 0 rfl (e_gf 19 86784 7 12 0 rfl rfl (e_iload_iload_n 22 0 3 3 rfl (e_iaload 23 0 (e_aload_aload_n 24 0 0 0 rfl (e_gf 25 86784 7 12 0 rfl rfl (e_iload_iload_n 28 0 2 2 rfl (e_iaload 29 0 (e_ineg 30 0  (e_icmp_ne 31 73 42 (e_aload_aload_n 34 0 0 0 rfl (e_gf 35 86785 13 12 1 rfl rfl (e_iload_iload_n 38 0 3 3 rfl (e_iaload 39 0 (e_aload_aload_n 40 0 0 0 rfl (e_gf 41 86785 13 12 1 rfl rfl (e_iload_iload_n 44 0 2 2 rfl (e_iaload 45 0 (e_ineg 46 0  (e_icmp_ne 47 73 26 (e_aload_aload_n 50 0 0 0 rfl (e_gf 51 86786 16 12 2 rfl rfl (e_iload_iload_n 54 0 3 3 rfl (e_iaload 55 0 (e_aload_aload_n 56 0 0 0 rfl (e_gf 57 86786 16 12 2 rfl rfl (e_iload_iload_n 60 0 2 2 rfl (e_iaload 61 0 (e_psh_iconst 62 2 2 (e_iadd 63 0 (e_psh_iconst 64 4 4 (e_irem 65 0  (e_icmp_ne 66 73 7 (e_psh_iconst 69 1 1 (e_goto 70 74 4))))))))))))))))))))))))))))))))))))))))))))
set_option maxHeartbeats 100000 in
def k270_0 : ex_C := c_psh 1 (c_istore 1 (c_psh 0 (c_istore 2 (k270_4))))
set_option maxHeartbeats 100000 in
theorem kE270_0 : ex_CE 1 [] cd_270 k270_0 q270_0 := e_psh_iconst 0 1 1 (e_istore_istore_n 1 0 1 1 rfl (e_psh_iconst 2 0 0 (e_istore_istore_n 3 0 2 2 rfl (kE270_4))))
def kt_270 : Nat → Option ex_C := fun pc => @Bool.rec (fun _ => Nat → Option ex_C) (fun pc => @Bool.rec (fun _ => Nat → Option ex_C) (fun pc => @Bool.rec (fun _ => Nat → Option ex_C) (fun pc => @Bool.rec (fun _ => Option ex_C) none (some k270_82) (Nat.beq pc 82)) (fun pc => @Bool.rec (fun _ => Option ex_C) none (some k270_74) (Nat.beq pc 74)) (Nat.ble pc 74) pc) (fun pc => @Bool.rec (fun _ => Option ex_C) none (some k270_73) (Nat.beq pc 73)) (Nat.ble pc 73) pc) (fun pc => @Bool.rec (fun _ => Nat → Option ex_C) (fun pc => @Bool.rec (fun _ => Option ex_C) none (some k270_4) (Nat.beq pc 4)) (fun pc => @Bool.rec (fun _ => Option ex_C) none (some k270_0) (Nat.beq pc 0)) (Nat.ble pc 0) pc) (Nat.ble pc 4) pc
theorem ktE_270 : ex_CTT 1 [] cd_270 kt_270 cd_270 := (ex_ct2 (ex_ct2 (ex_ct1 kE270_0) (ex_ct1 kE270_4)) (ex_ct2 (ex_ct1 kE270_73) (ex_ct2 (ex_ct1 kE270_74) (ex_ct1 kE270_82))))
set_option maxHeartbeats 100000 in
def k271_18 : ex_C := c_ireturn  0
set_option maxHeartbeats 100000 in
theorem kE271_18 : ex_CE 0 [] cd_271 k271_18 q271_18 := e_ireturn 18 0 
set_option maxHeartbeats 100000 in
def k271_12 : ex_C := c_aload 0 (c_gf 12 10 (c_iload 1 (c_iaload (k271_18))))
set_option maxHeartbeats 100000 in
theorem kE271_12 : ex_CE 0 [] cd_271 k271_12 q271_12 := e_aload_aload_n 12 0 0 0 rfl (e_gf 13 86794 44 12 10 rfl rfl (e_iload_iload_n 16 0 1 1 rfl (e_iaload 17 0 (kE271_18))))
set_option maxHeartbeats 100000 in
def k271_0 : ex_C := c_aload 0 (c_iload 1 (c_invV [] cd_271 2 2 182 12 (c_if_eq 12 (c_psh 0 (c_goto 18)))))
set_option maxHeartbeats 100000 in
theorem kE271_0 : ex_CE 0 [] cd_271 k271_0 q271_0 := e_aload_aload_n 0 0 0 0 rfl (e_iload_iload_n 1 0 1 1 rfl (e_invV_invokevirtual 2 1622402 141 2 182 12 rfl rfl rfl rfl rfl rfl (e_if_eq 5 12 7 (e_psh_iconst 8 0 0 (e_goto 9 18 9)))))
def kt_271 : Nat → Option ex_C := fun pc => @Bool.rec (fun _ => Nat → Option ex_C) (fun pc => @Bool.rec (fun _ => Nat → Option ex_C) (fun pc => @Bool.rec (fun _ => Option ex_C) none (some k271_18) (Nat.beq pc 18)) (fun pc => @Bool.rec (fun _ => Option ex_C) none (some k271_12) (Nat.beq pc 12)) (Nat.ble pc 12) pc) (fun pc => @Bool.rec (fun _ => Option ex_C) none (some k271_0) (Nat.beq pc 0)) (Nat.ble pc 0) pc
theorem ktE_271 : ex_CTT 0 [] cd_271 kt_271 cd_271 := (ex_ct2 (ex_ct1 kE271_0) (ex_ct2 (ex_ct1 kE271_12) (ex_ct1 kE271_18)))
set_option maxHeartbeats 100000 in
def k272_0 : ex_C := c_aload 0 (c_gf 12 23 (c_ireturn  0))
set_option maxHeartbeats 100000 in
theorem kE272_0 : ex_CE 0 [] cd_272 k272_0 q272_0 := e_aload_aload_n 0 0 0 0 rfl (e_gf 1 791 135 12 23 rfl rfl (e_ireturn 4 0 ))
def kt_272 : Nat → Option ex_C := fun pc => @Bool.rec (fun _ => Option ex_C) none (some k272_0) (Nat.beq pc 0)
theorem ktE_272 : ex_CTT 0 [] cd_272 kt_272 cd_272 := (ex_ct1 kE272_0)
set_option maxHeartbeats 100000 in
def k273_0 : ex_C := c_aload 0 (c_gf 12 24 (c_ireturn  0))
set_option maxHeartbeats 100000 in
theorem kE273_0 : ex_CE 0 [] cd_273 k273_0 q273_0 := e_aload_aload_n 0 0 0 0 rfl (e_gf 1 792 138 12 24 rfl rfl (e_ireturn 4 0 ))
def kt_273 : Nat → Option ex_C := fun pc => @Bool.rec (fun _ => Option ex_C) none (some k273_0) (Nat.beq pc 0)
theorem ktE_273 : ex_CTT 0 [] cd_273 kt_273 cd_273 := (ex_ct1 kE273_0)
set_option maxHeartbeats 100000 in
def k274_0 : ex_C := c_aload 0 (c_psh 1 (c_pf 12 1 39 (c_aload 0 (c_iload 2 (c_psh 97 (c_psh 45 (c_invV [] cd_274 11 4 214 12 (c_astore 3 (c_aload 0 (c_aload 1 (c_aload 3 (c_aload 3 (c_invV [] cd_274 19 1 172 13 (c_invV [] cd_274 22 4 247 12 (c_astore 4 (c_aload 0 (c_psh 0 (c_pf 12 1 39 (c_aload 4 (c_areturn  5))))))))))))))))))))
set_option maxHeartbeats 100000 in
theorem kE274_0 : ex_CE 5 [] cd_274 k274_0 q274_0 := e_aload_aload_n 0 0 0 0 rfl (e_psh_iconst 1 1 1 (e_pf 2 4903 286 12 1 39 rfl rfl rfl (e_aload_aload_n 5 0 0 0 rfl (e_iload_iload_n 6 0 2 2 rfl (e_psh_bipush 7 97 97 (e_psh_bipush 9 45 45 (e_invV_invokevirtual 11 1884548 261 4 214 12 rfl rfl rfl rfl rfl rfl (e_astore_astore_n 14 0 3 3 rfl (e_aload_aload_n 15 0 0 0 rfl (e_aload_aload_n 16 0 1 1 rfl (e_aload_aload_n 17 0 3 3 rfl (e_aload_aload_n 18 0 3 3 rfl (e_invV_invokevirtual 19 1540513 246 1 172 13 rfl rfl rfl rfl rfl rfl (e_invV_invokevirtual 22 2154884 467 4 247 12 rfl rfl rfl rfl rfl rfl (e_astore_astore 25 0 4 (e_aload_aload_n 27 0 0 0 rfl (e_psh_iconst 28 0 0 (e_pf 29 4903 286 12 1 39 rfl rfl rfl (e_aload_aload 32 0 4 (e_areturn 34 0 ))))))))))))))))))))
def kt_274 : Nat → Option ex_C := fun pc => @Bool.rec (fun _ => Option ex_C) none (some k274_0) (Nat.beq pc 0)
theorem ktE_274 : ex_CTT 5 [] cd_274 kt_274 cd_274 := (ex_ct1 kE274_0)
set_option maxHeartbeats 100000 in
def k275_262 : ex_C := c_aload 0 (c_psh 2 (c_invV [] cd_275 264 2 179 12 (c_ireturn  0)))
set_option maxHeartbeats 100000 in
theorem kE275_262 : ex_CE 0 [] cd_275 k275_262 q275_262 := e_aload_aload_n 262 0 0 0 rfl (e_psh_iconst 263 2 2 (e_invV_invokevirtual 264 1597826 449 2 179 12 rfl rfl rfl rfl rfl rfl (e_ireturn 267 0 )))
set_option maxHeartbeats 100000 in
def k275_256 : ex_C := c_iinc 3 1 (c_goto 125)
set_option maxHeartbeats 100000 in
theorem kE275_256 : ex_CE 0 [] cd_275 k275_256 q275_256 := e_iinc 256 1 3 1 (e_goto 259 125 (-134))
set_option maxHeartbeats 100000 in
def k275_250 : ex_C := c_iinc 5 1 (c_goto 153)
set_option maxHeartbeats 100000 in
theorem kE275_250 : ex_CE 0 [] cd_275 k275_250 q275_250 := e_iinc 250 1 5 1 (e_goto 253 153 (-100))
set_option maxHeartbeats 100000 in
def k275_198 : ex_C := c_aload 0 (c_gf 12 8 (c_invV [] cd_275 202 1 342 16 (c_aload 0 (c_gf 12 8 (c_psh 17179869223 (c_iload 3 (c_invV [] cd_275 215 2 304 18 (c_invS [] cd_275 218 1 293 (c_invV [] cd_275 221 2 339 16 (c_pop   (c_aload 0 (c_gf 12 8 (c_psh 17179869223 (c_iload 5 (c_invV [] cd_275 236 2 304 18 (c_invS [] cd_275 239 1 293 (c_invV [] cd_275 242 2 339 16 (c_pop   (c_psh 2 (c_ireturn  0))))))))))))))))))))
set_option maxHeartbeats 100000 in
theorem kE275_198 : ex_CE 0 [] cd_275 k275_198 q275_198 := e_aload_aload_n 198 0 0 0 rfl (e_gf 199 86792 38 12 8 rfl rfl (e_invV_invokeinterface 202 2933249 126 1 1 342 16 rfl rfl rfl rfl rfl rfl (e_aload_aload_n 207 0 0 0 rfl (e_gf 208 86792 38 12 8 rfl rfl (e_psh_ldc_w 211 17179869223 542 (e_iload_iload_n 214 0 3 3 rfl (e_invV_invokevirtual 215 2622018 528 2 304 18 rfl rfl rfl rfl rfl rfl (e_invS 218 2539489 474 1 293 rfl rfl rfl (e_invV_invokeinterface 221 2908674 83 2 2 339 16 rfl rfl rfl rfl rfl rfl (e_pop 226 0  (e_aload_aload_n 227 0 0 0 rfl (e_gf 228 86792 38 12 8 rfl rfl (e_psh_ldc_w 231 17179869223 542 (e_iload_iload 234 0 5 (e_invV_invokevirtual 236 2622018 528 2 304 18 rfl rfl rfl rfl rfl rfl (e_invS 239 2539489 474 1 293 rfl rfl rfl (e_invV_invokeinterface 242 2908674 83 2 2 339 16 rfl rfl rfl rfl rfl rfl (e_pop 247 0  (e_psh_iconst 248 2 2 (e_ireturn 249 0 ))))))))))))))))))))
set_option maxHeartbeats 100000 in
def k275_153 : ex_C := c_iload 5 (c_psh 12 (c_icmp_ge 256 (c_aload 4 (c_ifnull 94 256 (c_aload 0 (c_aload 4 (c_psh 17179869223 (c_iload 5 (c_invV [] cd_275 173 2 304 18 (c_invV [] cd_275 176 3 274 12 (c_astore 6 (c_aload 6 (c_ifnull 67 250 (c_aload 0 (c_aload 6 (c_invV [] cd_275 189 2 188 12 (c_if_ne 198 (c_goto 250))))))))))))))))))
set_option maxHeartbeats 100000 in
theorem kE275_153 : ex_CE 0 [] cd_275 k275_153 q275_153 := e_iload_iload 153 0 5 (e_psh_bipush 155 12 12 (e_icmp_ge 157 256 99 (e_aload_aload 160 0 4 (e_ifnull 162 256 94 (e_aload_aload_n 165 0 0 0 rfl (e_aload_aload 166 0 4 (e_psh_ldc_w 168 17179869223 542 (e_iload_iload 171 0 5 (e_invV_invokevirtual 173 2622018 528 2 304 18 rfl rfl rfl rfl rfl rfl (e_invV_invokevirtual 176 2376067 544 3 274 12 rfl rfl rfl rfl rfl rfl (e_astore_astore 179 0 6 (e_aload_aload 181 0 6 (e_ifnull 183 250 67 (e_aload_aload_n 186 0 0 0 rfl (e_aload_aload 187 0 6 (e_invV_invokevirtual 189 1671554 536 2 188 12 rfl rfl rfl rfl rfl rfl (e_if_ne 192 198 6 (e_goto 195 250 55))))))))))))))))))
set_option maxHeartbeats 100000 in
def k275_125 : ex_C := c_iload 3 (c_psh 12 (c_icmp_ge 262 (c_iload 1 (c_psh 1 (c_icmp_le 262 (c_aload 0 (c_aload 2 (c_psh 17179869223 (c_iload 3 (c_invV [] cd_275 142 2 304 18 (c_invV [] cd_275 145 3 274 12 (c_astore 4 (c_psh 0 (c_istore 5 (k275_153)))))))))))))))
set_option maxHeartbeats 100000 in
theorem kE275_125 : ex_CE 0 [] cd_275 k275_125 q275_125 := e_iload_iload_n 125 0 3 3 rfl (e_psh_bipush 126 12 12 (e_icmp_ge 128 262 134 (e_iload_iload_n 131 0 1 1 rfl (e_psh_iconst 132 1 1 (e_icmp_le 133 262 129 (e_aload_aload_n 136 0 0 0 rfl (e_aload_aload_n 137 0 2 2 rfl (e_psh_ldc_w 138 17179869223 542 (e_iload_iload_n 141 0 3 3 rfl (e_invV_invokevirtual 142 2622018 528 2 304 18 rfl rfl rfl rfl rfl rfl (e_invV_invokevirtual 145 2376067 544 3 274 12 rfl rfl rfl rfl rfl rfl (e_astore_astore 148 0 4 (e_psh_iconst 150 0 0 (e_istore_istore 151 0 5 (kE275_153)))))))))))))))
set_option maxHeartbeats 100000 in
def k275_123 : ex_C := c_psh 0 (c_istore 3 (k275_125))
set_option maxHeartbeats 100000 in
theorem kE275_123 : ex_CE 0 [] cd_275 k275_123 q275_123 := e_psh_iconst 123 0 0 (e_istore_istore_n 124 0 3 3 rfl (kE275_125))
set_option maxHeartbeats 100000 in
def k275_117 : ex_C := c_iinc 3 1 (c_goto 45)
set_option maxHeartbeats 100000 in
theorem kE275_117 : ex_CE 0 [] cd_275 k275_117 q275_117 := e_iinc 117 1 3 1 (e_goto 120 45 (-75))
set_option maxHeartbeats 100000 in
def k275_86 : ex_C := c_aload 0 (c_gf 12 8 (c_invV [] cd_275 90 1 342 16 (c_aload 0 (c_gf 12 8 (c_psh 17179869223 (c_iload 3 (c_invV [] cd_275 103 2 304 18 (c_invS [] cd_275 106 1 293 (c_invV [] cd_275 109 2 339 16 (c_pop   (c_psh 1 (c_ireturn  0))))))))))))
set_option maxHeartbeats 100000 in
theorem kE275_86 : ex_CE 0 [] cd_275 k275_86 q275_86 := e_aload_aload_n 86 0 0 0 rfl (e_gf 87 86792 38 12 8 rfl rfl (e_invV_invokeinterface 90 2933249 126 1 1 342 16 rfl rfl rfl rfl rfl rfl (e_aload_aload_n 95 0 0 0 rfl (e_gf 96 86792 38 12 8 rfl rfl (e_psh_ldc_w 99 17179869223 542 (e_iload_iload_n 102 0 3 3 rfl (e_invV_invokevirtual 103 2622018 528 2 304 18 rfl rfl rfl rfl rfl rfl (e_invS 106 2539489 474 1 293 rfl rfl rfl (e_invV_invokeinterface 109 2908674 83 2 2 339 16 rfl rfl rfl rfl rfl rfl (e_pop 114 0  (e_psh_iconst 115 1 1 (e_ireturn 116 0 ))))))))))))
set_option maxHeartbeats 100000 in
def k275_45 : ex_C := c_iload 3 (c_psh 12 (c_icmp_ge 123 (c_iload 1 (c_if_le 123 (c_aload 0 (c_aload 2 (c_psh 17179869223 (c_iload 3 (c_invV [] cd_275 61 2 304 18 (c_invV [] cd_275 64 3 274 12 (c_astore 4 (c_aload 4 (c_ifnull 46 117 (c_aload 0 (c_aload 4 (c_invV [] cd_275 77 2 188 12 (c_if_ne 86 (c_goto 117))))))))))))))))))
set_option maxHeartbeats 100000 in
theorem kE275_45 : ex_CE 0 [] cd_275 k275_45 q275_45 := e_iload_iload_n 45 0 3 3 rfl (e_psh_bipush 46 12 12 (e_icmp_ge 48 123 75 (e_iload_iload_n 51 0 1 1 rfl (e_if_le 52 123 71 (e_aload_aload_n 55 0 0 0 rfl (e_aload_aload_n 56 0 2 2 rfl (e_psh_ldc_w 57 17179869223 542 (e_iload_iload_n 60 0 3 3 rfl (e_invV_invokevirtual 61 2622018 528 2 304 18 rfl rfl rfl rfl rfl rfl (e_invV_invokevirtual 64 2376067 544 3 274 12 rfl rfl rfl rfl rfl rfl (e_astore_astore 67 0 4 (e_aload_aload 69 0 4 (e_ifnull 71 117 46 (e_aload_aload_n 74 0 0 0 rfl (e_aload_aload 75 0 4 (e_invV_invokevirtual 77 1671554 536 2 188 12 rfl rfl rfl rfl rfl rfl (e_if_ne 80 86 6 (e_goto 83 117 34))))))))))))))))))
set_option maxHeartbeats 100000 in
def k275_43 : ex_C := c_psh 0 (c_istore 3 (k275_45))
set_option maxHeartbeats 100000 in
theorem kE275_43 : ex_CE 0 [] cd_275 k275_43 q275_43 := e_psh_iconst 43 0 0 (e_istore_istore_n 44 0 3 3 rfl (kE275_45))
set_option maxHeartbeats 100000 in
def k275_19 : ex_C := c_aload 0 (c_invV [] cd_275 20 1 185 12 (c_astore 2 (c_aload 0 (c_aload 2 (c_invV [] cd_275 26 2 188 12 (c_if_eq 43 (c_aload 0 (c_gf 12 8 (c_invV [] cd_275 36 1 342 16 (c_psh 0 (c_ireturn  0)))))))))))
set_option maxHeartbeats 100000 in
theorem kE275_19 : ex_CE 0 [] cd_275 k275_19 q275_19 := e_aload_aload_n 19 0 0 0 rfl (e_invV_invokevirtual 20 1646977 129 1 185 12 rfl rfl rfl rfl rfl rfl (e_astore_astore_n 23 0 2 2 rfl (e_aload_aload_n 24 0 0 0 rfl (e_aload_aload_n 25 0 2 2 rfl (e_invV_invokevirtual 26 1671554 536 2 188 12 rfl rfl rfl rfl rfl rfl (e_if_eq 29 43 14 (e_aload_aload_n 32 0 0 0 rfl (e_gf 33 86792 38 12 8 rfl rfl (e_invV_invokeinterface 36 2933249 126 1 1 342 16 rfl rfl rfl rfl rfl rfl (e_psh_iconst 41 0 0 (e_ireturn 42 0 )))))))))))
set_option maxHeartbeats 100000 in
def k275_0 : ex_C := c_aload 0 (c_iload 1 (c_i2l   (c_psh 412316860416 (c_psh 412316860418 (c_invS [] cd_275 7 3 180 (c_psh 1 (c_invV [] cd_275 11 3 181 12 (c_if_eq 19 (c_psh 0 (c_ireturn  0))))))))))
set_option maxHeartbeats 100000 in
theorem kE275_0 : ex_CE 0 [] cd_275 k275_0 q275_0 := e_aload_aload_n 0 0 0 0 rfl (e_iload_iload_n 1 0 1 1 rfl (e_i2l 2 0  (e_psh_lconst 3 412316860416 0 (e_psh_ldc2_w 4 412316860418 540 (e_invS 7 1613795 102 3 180 rfl rfl rfl (e_psh_iconst 10 1 1 (e_invV_invokevirtual 11 1614211 106 3 181 12 rfl rfl rfl rfl rfl rfl (e_if_eq 14 19 5 (e_psh_iconst 17 0 0 (e_ireturn 18 0 ))))))))))
def kt_275 : Nat → Option ex_C := fun pc => @Bool.rec (fun _ => Nat → Option ex_C) (fun pc => @Bool.rec (fun _ => Nat → Option ex_C) (fun pc => @Bool.rec (fun _ => Nat → Option ex_C) (fun pc => @Bool.rec (fun _ => Nat → Option ex_C) (fun pc => @Bool.rec (fun _ => Option ex_C) none (some k275_262) (Nat.beq pc 262)) (fun pc => @Bool.rec (fun _ => Option ex_C) none (some k275_256) (Nat.beq pc 256)) (Nat.ble pc 256) pc) (fun pc => @Bool.rec (fun _ => Nat → Option ex_C) (fun pc => @Bool.rec (fun _ => Option ex_C) none (some k275_250) (Nat.beq pc 250)) (fun pc => @Bool.rec (fun _ => Option ex_C) none (some k275_198) (Nat.beq pc 198)) (Nat.ble pc 198) pc) (Nat.ble pc 250) pc) (fun pc => @Bool.rec (fun _ => Nat → Option ex_C) (fun pc => @Bool.rec (fun _ => Nat → Option ex_C) (fun pc => @Bool.rec (fun _ => Option ex_C) none (some k275_153) (Nat.beq pc 153)) (fun pc => @Bool.rec (fun _ => Option ex_C) none (some k275_125) (Nat.beq pc 125)) (Nat.ble pc 125) pc) (fun pc => @Bool.rec (fun _ => Option ex_C) none (some k275_123) (Nat.beq pc 123)) (Nat.ble pc 123) pc) (Nat.ble pc 153) pc) (fun pc => @Bool.rec (fun _ => Nat → Option ex_C) (fun pc => @Bool.rec (fun _ => Nat → Option ex_C) (fun pc => @Bool.rec (fun _ => Nat → Option ex_C) (fun pc => @Bool.rec (fun _ => Option ex_C) none (some k275_117) (Nat.beq pc 117)) (fun pc => @Bool.rec (fun _ => Option ex_C) none (some k275_86) (Nat.beq pc 86)) (Nat.ble pc 86) pc) (fun pc => @Bool.rec (fun _ => Option ex_C) none (some k275_45) (Nat.beq pc 45)) (Nat.ble pc 45) pc) (fun pc => @Bool.rec (fun _ => Nat → Option ex_C) (fun pc => @Bool.rec (fun _ => Nat → Option ex_C) (fun pc => @Bool.rec (fun _ => Option ex_C) none (some k275_43) (Nat.beq pc 43)) (fun pc => @Bool.rec (fun _ => Option ex_C) none (some k275_19) (Nat.beq pc 19)) (Nat.ble pc 19) pc) (fun pc => @Bool.rec (fun _ => Option ex_C) none (some k275_0) (Nat.beq pc 0)) (Nat.ble pc 0) pc) (Nat.ble pc 43) pc) (Nat.ble pc 117) pc
theorem ktE_275 : ex_CTT 0 [] cd_275 kt_275 cd_275 := (ex_ct2 (ex_ct2 (ex_ct2 (ex_ct1 kE275_0) (ex_ct2 (ex_ct1 kE275_19) (ex_ct1 kE275_43))) (ex_ct2 (ex_ct1 kE275_45) (ex_ct2 (ex_ct1 kE275_86) (ex_ct1 kE275_117)))) (ex_ct2 (ex_ct2 (ex_ct1 kE275_123) (ex_ct2 (ex_ct1 kE275_125) (ex_ct1 kE275_153))) (ex_ct2 (ex_ct2 (ex_ct1 kE275_198) (ex_ct1 kE275_250)) (ex_ct2 (ex_ct1 kE275_256) (ex_ct1 kE275_262)))))
set_option maxHeartbeats 100000 in
def k276_47 : ex_C := c_ireturn  2
set_option maxHeartbeats 100000 in
theorem kE276_47 : ex_CE 2 [] cd_276 k276_47 q276_47 := e_ireturn 47 0 
set_option maxHeartbeats 100000 in
def k276_31 : ex_C := c_aload 0 (c_gf 12 8 (c_iload 1 (c_invV [] cd_276 36 2 337 16 (c_checkcast 475 19 (c_invV [] cd_276 44 1 294 19 (k276_47))))))
set_option maxHeartbeats 100000 in
theorem kE276_31 : ex_CE 2 [] cd_276 k276_31 q276_31 := e_aload_aload_n 31 0 0 0 rfl (e_gf 32 86792 38 12 8 rfl rfl (e_iload_iload_n 35 0 1 1 rfl (e_invV_invokeinterface 36 2892290 186 2 2 337 16 rfl rfl rfl rfl rfl rfl (e_checkcast 41 19 475 (e_invV_invokevirtual 44 2540129 512 1 294 19 rfl rfl rfl rfl rfl rfl (kE276_47))))))
set_option maxHeartbeats 100000 in
def k276_0 : ex_C := c_aload 0 (c_iload 1 (c_i2l   (c_psh 412316860416 (c_aload 0 (c_gf 12 8 (c_invV [] cd_276 8 1 333 16 (c_psh 1 (c_isub (c_i2l   (c_invS [] cd_276 16 3 180 (c_psh 1 (c_invV [] cd_276 20 3 181 12 (c_if_eq 31 (c_psh 117 (c_goto 47)))))))))))))))
set_option maxHeartbeats 100000 in
theorem kE276_0 : ex_CE 2 [] cd_276 k276_0 q276_0 := e_aload_aload_n 0 0 0 0 rfl (e_iload_iload_n 1 0 1 1 rfl (e_i2l 2 0  (e_psh_lconst 3 412316860416 0 (e_aload_aload_n 4 0 0 0 rfl (e_gf 5 86792 38 12 8 rfl rfl (e_invV_invokeinterface 8 2859521 178 1 1 333 16 rfl rfl rfl rfl rfl rfl (e_psh_iconst 13 1 1 (e_isub 14 0 (e_i2l 15 0  (e_invS 16 1613795 102 3 180 rfl rfl rfl (e_psh_iconst 19 1 1 (e_invV_invokevirtual 20 1614211 106 3 181 12 rfl rfl rfl rfl rfl rfl (e_if_eq 23 31 8 (e_psh_bipush 26 117 117 (e_goto 28 47 19)))))))))))))))
def kt_276 : Nat → Option ex_C := fun pc => @Bool.rec (fun _ => Nat → Option ex_C) (fun pc => @Bool.rec (fun _ => Nat → Option ex_C) (fun pc => @Bool.rec (fun _ => Option ex_C) none (some k276_47) (Nat.beq pc 47)) (fun pc => @Bool.rec (fun _ => Option ex_C) none (some k276_31) (Nat.beq pc 31)) (Nat.ble pc 31) pc) (fun pc => @Bool.rec (fun _ => Option ex_C) none (some k276_0) (Nat.beq pc 0)) (Nat.ble pc 0) pc
theorem ktE_276 : ex_CTT 2 [] cd_276 kt_276 cd_276 := (ex_ct2 (ex_ct1 kE276_0) (ex_ct2 (ex_ct1 kE276_31) (ex_ct1 kE276_47)))
set_option maxHeartbeats 100000 in
def k277_21 : ex_C := c_aload 0 (c_gf 12 22 (c_istore 2 (c_aload 0 (c_iload 1 (c_pf 12 0 21 (c_aload 0 (c_psh 0 (c_pf 12 0 22 (c_iload 2 (c_ireturn  0))))))))))
set_option maxHeartbeats 100000 in
theorem kE277_21 : ex_CE 0 [] cd_277 k277_21 q277_21 := e_aload_aload_n 21 0 0 0 rfl (e_gf 22 790 455 12 22 rfl rfl (e_istore_istore_n 25 0 2 2 rfl (e_aload_aload_n 26 0 0 0 rfl (e_iload_iload_n 27 0 1 1 rfl (e_pf 28 789 60 12 0 21 rfl rfl rfl (e_aload_aload_n 31 0 0 0 rfl (e_psh_iconst 32 0 0 (e_pf 33 790 455 12 0 22 rfl rfl rfl (e_iload_iload_n 36 0 2 2 rfl (e_ireturn 37 0 ))))))))))
set_option maxHeartbeats 100000 in
def k277_0 : ex_C := c_aload 0 (c_iload 1 (c_i2l   (c_psh 412316860424 (c_psh 412316860544 (c_invS [] cd_277 9 3 180 (c_psh 1 (c_invV [] cd_277 13 3 181 12 (c_if_eq 21 (c_psh 0 (c_ireturn  0))))))))))
set_option maxHeartbeats 100000 in
theorem kE277_0 : ex_CE 0 [] cd_277 k277_0 q277_0 := e_aload_aload_n 0 0 0 0 rfl (e_iload_iload_n 1 0 1 1 rfl (e_i2l 2 0  (e_psh_ldc2_w 3 412316860424 548 (e_psh_ldc2_w 6 412316860544 550 (e_invS 9 1613795 102 3 180 rfl rfl rfl (e_psh_iconst 12 1 1 (e_invV_invokevirtual 13 1614211 106 3 181 12 rfl rfl rfl rfl rfl rfl (e_if_eq 16 21 5 (e_psh_iconst 19 0 0 (e_ireturn 20 0 ))))))))))
def kt_277 : Nat → Option ex_C := fun pc => @Bool.rec (fun _ => Nat → Option ex_C) (fun pc => @Bool.rec (fun _ => Option ex_C) none (some k277_21) (Nat.beq pc 21)) (fun pc => @Bool.rec (fun _ => Option ex_C) none (some k277_0) (Nat.beq pc 0)) (Nat.ble pc 0) pc
theorem ktE_277 : ex_CTT 0 [] cd_277 kt_277 cd_277 := (ex_ct2 (ex_ct1 kE277_0) (ex_ct1 kE277_21))
set_option maxHeartbeats 100000 in
def k278_0 : ex_C := c_aload 0 (c_gf 12 22 (c_ireturn  0))
set_option maxHeartbeats 100000 in
theorem kE278_0 : ex_CE 0 [] cd_278 k278_0 q278_0 := e_aload_aload_n 0 0 0 0 rfl (e_gf 1 790 455 12 22 rfl rfl (e_ireturn 4 0 ))
def kt_278 : Nat → Option ex_C := fun pc => @Bool.rec (fun _ => Option ex_C) none (some k278_0) (Nat.beq pc 0)
theorem ktE_278 : ex_CTT 0 [] cd_278 kt_278 cd_278 := (ex_ct1 kE278_0)
set_option maxHeartbeats 100000 in
def k279_39 : ex_C := c_aload 0 (c_gf 12 21 (c_aload 0 (c_gf 12 22 (c_isub (c_istore 1 (c_aload 0 (c_aload 0 (c_gf 12 16 (c_psh 1 (c_iadd (c_psh 4 (c_irem   (c_pf 12 0 16 (c_aload 0 (c_invV [] cd_279 62 1 190 12 (c_pop   (c_aload 0 (c_psh 0 (c_pf 12 0 22 (c_iload 1 (c_ireturn  0)))))))))))))))))))))
set_option maxHeartbeats 100000 in
theorem kE279_39 : ex_CE 0 [] cd_279 k279_39 q279_39 := e_aload_aload_n 39 0 0 0 rfl (e_gf 40 789 60 12 21 rfl rfl (e_aload_aload_n 43 0 0 0 rfl (e_gf 44 790 455 12 22 rfl rfl (e_isub 47 0 (e_istore_istore_n 48 0 1 1 rfl (e_aload_aload_n 49 0 0 0 rfl (e_aload_aload_n 50 0 0 0 rfl (e_gf 51 784 110 12 16 rfl rfl (e_psh_iconst 54 1 1 (e_iadd 55 0 (e_psh_iconst 56 4 4 (e_irem 57 0  (e_pf 58 784 110 12 0 16 rfl rfl rfl (e_aload_aload_n 61 0 0 0 rfl (e_invV_invokevirtual 62 1687937 552 1 190 12 rfl rfl rfl rfl rfl rfl (e_pop 65 0  (e_aload_aload_n 66 0 0 0 rfl (e_psh_iconst 67 0 0 (e_pf 68 790 455 12 0 22 rfl rfl rfl (e_iload_iload_n 71 0 1 1 rfl (e_ireturn 72 0 )))))))))))))))))))))
set_option maxHeartbeats 100000 in
def k279_37 : ex_C := c_psh 0 (c_ireturn  0)
set_option maxHeartbeats 100000 in
theorem kE279_37 : ex_CE 0 [] cd_279 k279_37 q279_37 := e_psh_iconst 37 0 0 (e_ireturn 38 0 )
set_option maxHeartbeats 100000 in
def k279_30 : ex_C := c_psh 2 (c_invV [] cd_279 31 3 181 12 (c_if_eq 39 (k279_37)))
set_option maxHeartbeats 100000 in
theorem kE279_30 : ex_CE 0 [] cd_279 k279_30 q279_30 := e_psh_iconst 30 2 2 (e_invV_invokevirtual 31 1614211 106 3 181 12 rfl rfl rfl rfl rfl rfl (e_if_eq 34 39 5 (kE279_37)))
set_option maxHeartbeats 100000 in
def k279_29 : ex_C := c_psh 0 (k279_30)
set_option maxHeartbeats 100000 in
theorem kE279_29 : ex_CE 0 [] cd_279 k279_29 q279_29 := e_psh_iconst 29 0 0 (kE279_30)
set_option maxHeartbeats 100000 in
def k279_0 : ex_C := c_aload 0 (c_aload 0 (c_aload 0 (c_invV [] cd_279 3 1 185 12 (c_invV [] cd_279 6 2 188 12 (c_psh 1 (c_invV [] cd_279 10 3 181 12 (c_if_ne 37 (c_aload 0 (c_aload 0 (c_gf 12 21 (c_psh 4294967295 (c_icmp_eq 29 (c_psh 1 (c_goto 30))))))))))))))
set_option maxHeartbeats 100000 in
theorem kE279_0 : ex_CE 0 [] cd_279 k279_0 q279_0 := e_aload_aload_n 0 0 0 0 rfl (e_aload_aload_n 1 0 0 0 rfl (e_aload_aload_n 2 0 0 0 rfl (e_invV_invokevirtual 3 1646977 129 1 185 12 rfl rfl rfl rfl rfl rfl (e_invV_invokevirtual 6 1671554 536 2 188 12 rfl rfl rfl rfl rfl rfl (e_psh_iconst 9 1 1 (e_invV_invokevirtual 10 1614211 106 3 181 12 rfl rfl rfl rfl rfl rfl (e_if_ne 13 37 24 (e_aload_aload_n 16 0 0 0 rfl (e_aload_aload_n 17 0 0 0 rfl (e_gf 18 789 60 12 21 rfl rfl (e_psh_iconst 21 4294967295 (-1) (e_icmp_eq 22 29 7 (e_psh_iconst 25 1 1 (e_goto 26 30 4))))))))))))))
def kt_279 : Nat → Option ex_C := fun pc => @Bool.rec (fun _ => Nat → Option ex_C) (fun pc => @Bool.rec (fun _ => Nat → Option ex_C) (fun pc => @Bool.rec (fun _ => Nat → Option ex_C) (fun pc => @Bool.rec (fun _ => Option ex_C) none (some k279_39) (Nat.beq pc 39)) (fun pc => @Bool.rec (fun _ => Option ex_C) none (some k279_37) (Nat.beq pc 37)) (Nat.ble pc 37) pc) (fun pc => @Bool.rec (fun _ => Option ex_C) none (some k279_30) (Nat.beq pc 30)) (Nat.ble pc 30) pc) (fun pc => @Bool.rec (fun _ => Nat → Option ex_C) (fun pc => @Bool.rec (fun _ => Option ex_C) none (some k279_29) (Nat.beq pc 29)) (fun pc => @Bool.rec (fun _ => Option ex_C) none (some k279_0) (Nat.beq pc 0)) (Nat.ble pc 0) pc) (Nat.ble pc 29) pc
theorem ktE_279 : ex_CTT 0 [] cd_279 kt_279 cd_279 := (ex_ct2 (ex_ct2 (ex_ct1 kE279_0) (ex_ct1 kE279_29)) (ex_ct2 (ex_ct1 kE279_30) (ex_ct2 (ex_ct1 kE279_37) (ex_ct1 kE279_39))))
set_option maxHeartbeats 100000 in
def k280_0 : ex_C := c_aload 0 (c_gf 12 16 (c_ireturn  0))
set_option maxHeartbeats 100000 in
theorem kE280_0 : ex_CE 0 [] cd_280 k280_0 q280_0 := e_aload_aload_n 0 0 0 0 rfl (e_gf 1 784 110 12 16 rfl rfl (e_ireturn 4 0 ))
def kt_280 : Nat → Option ex_C := fun pc => @Bool.rec (fun _ => Option ex_C) none (some k280_0) (Nat.beq pc 0)
theorem ktE_280 : ex_CTT 0 [] cd_280 kt_280 cd_280 := (ex_ct1 kE280_0)
set_option maxHeartbeats 100000 in
def k281_21 : ex_C := c_aload 0 (c_gf 12 6 (c_invV [] cd_281 25 1 333 16 (c_istore 2 (c_aload 0 (c_iload 1 (c_pf 12 0 20 (c_aload 0 (c_gf 12 6 (c_invV [] cd_281 40 1 342 16 (c_iload 2 (c_ireturn  0)))))))))))
set_option maxHeartbeats 100000 in
theorem kE281_21 : ex_CE 0 [] cd_281 k281_21 q281_21 := e_aload_aload_n 21 0 0 0 rfl (e_gf 22 86790 32 12 6 rfl rfl (e_invV_invokeinterface 25 2859521 178 1 1 333 16 rfl rfl rfl rfl rfl rfl (e_istore_istore_n 30 0 2 2 rfl (e_aload_aload_n 31 0 0 0 rfl (e_iload_iload_n 32 0 1 1 rfl (e_pf 33 788 559 12 0 20 rfl rfl rfl (e_aload_aload_n 36 0 0 0 rfl (e_gf 37 86790 32 12 6 rfl rfl (e_invV_invokeinterface 40 2933249 126 1 1 342 16 rfl rfl rfl rfl rfl rfl (e_iload_iload_n 45 0 2 2 rfl (e_ireturn 46 0 )))))))))))
set_option maxHeartbeats 100000 in
def k281_0 : ex_C := c_aload 0 (c_iload 1 (c_i2l   (c_psh 412316860420 (c_psh 412316860432 (c_invS [] cd_281 9 3 180 (c_psh 1 (c_invV [] cd_281 13 3 181 12 (c_if_eq 21 (c_psh 0 (c_ireturn  0))))))))))
set_option maxHeartbeats 100000 in
theorem kE281_0 : ex_CE 0 [] cd_281 k281_0 q281_0 := e_aload_aload_n 0 0 0 0 rfl (e_iload_iload_n 1 0 1 1 rfl (e_i2l 2 0  (e_psh_ldc2_w 3 412316860420 555 (e_psh_ldc2_w 6 412316860432 557 (e_invS 9 1613795 102 3 180 rfl rfl rfl (e_psh_iconst 12 1 1 (e_invV_invokevirtual 13 1614211 106 3 181 12 rfl rfl rfl rfl rfl rfl (e_if_eq 16 21 5 (e_psh_iconst 19 0 0 (e_ireturn 20 0 ))))))))))
def kt_281 : Nat → Option ex_C := fun pc => @Bool.rec (fun _ => Nat → Option ex_C) (fun pc => @Bool.rec (fun _ => Option ex_C) none (some k281_21) (Nat.beq pc 21)) (fun pc => @Bool.rec (fun _ => Option ex_C) none (some k281_0) (Nat.beq pc 0)) (Nat.ble pc 0) pc
theorem ktE_281 : ex_CTT 0 [] cd_281 kt_281 cd_281 := (ex_ct2 (ex_ct1 kE281_0) (ex_ct1 kE281_21))
set_option maxHeartbeats 100000 in
def k282_65 : ex_C := c_iload 3 (c_ireturn  0)
set_option maxHeartbeats 100000 in
theorem kE282_65 : ex_CE 0 [] cd_282 k282_65 q282_65 := e_iload_iload_n 65 0 3 3 rfl (e_ireturn 66 0 )
set_option maxHeartbeats 100000 in
def k282_60 : ex_C := c_iadd (c_istore 3 (c_goto 13))
set_option maxHeartbeats 100000 in
theorem kE282_60 : ex_CE 0 [] cd_282 k282_60 q282_60 := e_iadd 60 0 (e_istore_istore_n 61 0 3 3 rfl (e_goto 62 13 (-49)))
set_option maxHeartbeats 100000 in
def k282_59 : ex_C := c_psh 0 (k282_60)
set_option maxHeartbeats 100000 in
theorem kE282_59 : ex_CE 0 [] cd_282 k282_59 q282_59 := e_psh_iconst 59 0 0 (kE282_60)
set_option maxHeartbeats 100000 in
def k282_13 : ex_C := c_aload 4 (c_invV [] cd_282 15 1 327 17 (c_if_eq 65 (c_aload 4 (c_invV [] cd_282 25 1 328 17 (c_checkcast 114 64 (c_astore 5 (c_iload 3 (c_aload 5 (c_iload 1 (c_iaload (c_aload 5 (c_iload 2 (c_iaload (c_icmp_ne 59 (c_aload 5 (c_iload 1 (c_iaload (c_psh 4294967295 (c_icmp_eq 59 (c_psh 1 (c_goto 60)))))))))))))))))))))
set_option maxHeartbeats 100000 in
theorem kE282_13 : ex_CE 0 [] cd_282 k282_13 q282_13 := e_aload_aload 13 0 4 (e_invV_invokeinterface 15 2810401 169 1 1 327 17 rfl rfl rfl rfl rfl rfl (e_if_eq 20 65 45 (e_aload_aload 23 0 4 (e_invV_invokeinterface 25 2818593 175 1 1 328 17 rfl rfl rfl rfl rfl rfl (e_checkcast 30 64 114 (e_astore_astore 33 0 5 (e_iload_iload_n 35 0 3 3 rfl (e_aload_aload 36 0 5 (e_iload_iload_n 38 0 1 1 rfl (e_iaload 39 0 (e_aload_aload 40 0 5 (e_iload_iload_n 42 0 2 2 rfl (e_iaload 43 0 (e_icmp_ne 44 59 15 (e_aload_aload 47 0 5 (e_iload_iload_n 49 0 1 1 rfl (e_iaload 50 0 (e_psh_iconst 51 4294967295 (-1) (e_icmp_eq 52 59 7 (e_psh_iconst 55 1 1 (e_goto 56 60 4)))))))))))))))))))))
set_option maxHeartbeats 100000 in
def k282_0 : ex_C := c_psh 0 (c_istore 3 (c_aload 0 (c_gf 12 6 (c_invV [] cd_282 6 1 344 16 (c_astore 4 (k282_13))))))
set_option maxHeartbeats 100000 in
theorem kE282_0 : ex_CE 0 [] cd_282 k282_0 q282_0 := e_psh_iconst 0 0 0 (e_istore_istore_n 1 0 3 3 rfl (e_aload_aload_n 2 0 0 0 rfl (e_gf 3 86790 32 12 6 rfl rfl (e_invV_invokeinterface 6 2949633 165 1 1 344 16 rfl rfl rfl rfl rfl rfl (e_astore_astore 11 0 4 (kE282_13))))))
def kt_282 : Nat → Option ex_C := fun pc => @Bool.rec (fun _ => Nat → Option ex_C) (fun pc => @Bool.rec (fun _ => Nat → Option ex_C) (fun pc => @Bool.rec (fun _ => Nat → Option ex_C) (fun pc => @Bool.rec (fun _ => Option ex_C) none (some k282_65) (Nat.beq pc 65)) (fun pc => @Bool.rec (fun _ => Option ex_C) none (some k282_60) (Nat.beq pc 60)) (Nat.ble pc 60) pc) (fun pc => @Bool.rec (fun _ => Option ex_C) none (some k282_59) (Nat.beq pc 59)) (Nat.ble pc 59) pc) (fun pc => @Bool.rec (fun _ => Nat → Option ex_C) (fun pc => @Bool.rec (fun _ => Option ex_C) none (some k282_13) (Nat.beq pc 13)) (fun pc => @Bool.rec (fun _ => Option ex_C) none (some k282_0) (Nat.beq pc 0)) (Nat.ble pc 0) pc) (Nat.ble pc 13) pc
theorem ktE_282 : ex_CTT 0 [] cd_282 kt_282 cd_282 := (ex_ct2 (ex_ct2 (ex_ct1 kE282_0) (ex_ct1 kE282_13)) (ex_ct2 (ex_ct1 kE282_59) (ex_ct2 (ex_ct1 kE282_60) (ex_ct1 kE282_65))))
set_option maxHeartbeats 100000 in
def k283_51 : ex_C := c_iload 2 (c_ireturn  0)
set_option maxHeartbeats 100000 in
theorem kE283_51 : ex_CE 0 [] cd_283 k283_51 q283_51 := e_iload_iload_n 51 0 2 2 rfl (e_ireturn 52 0 )
set_option maxHeartbeats 100000 in
def k283_46 : ex_C := c_iadd (c_istore 2 (c_goto 12))
set_option maxHeartbeats 100000 in
theorem kE283_46 : ex_CE 0 [] cd_283 k283_46 q283_46 := e_iadd 46 0 (e_istore_istore_n 47 0 2 2 rfl (e_goto 48 12 (-36)))
set_option maxHeartbeats 100000 in
def k283_45 : ex_C := c_psh 1 (k283_46)
set_option maxHeartbeats 100000 in
theorem kE283_45 : ex_CE 0 [] cd_283 k283_45 q283_45 := e_psh_iconst 45 1 1 (kE283_46)
set_option maxHeartbeats 100000 in
def k283_12 : ex_C := c_aload 3 (c_invV [] cd_283 13 1 327 17 (c_if_eq 51 (c_aload 3 (c_invV [] cd_283 22 1 328 17 (c_checkcast 114 64 (c_astore 4 (c_iload 2 (c_aload 4 (c_iload 1 (c_iaload (c_psh 4294967295 (c_icmp_ne 45 (c_psh 0 (c_goto 46))))))))))))))
set_option maxHeartbeats 100000 in
theorem kE283_12 : ex_CE 0 [] cd_283 k283_12 q283_12 := e_aload_aload_n 12 0 3 3 rfl (e_invV_invokeinterface 13 2810401 169 1 1 327 17 rfl rfl rfl rfl rfl rfl (e_if_eq 18 51 33 (e_aload_aload_n 21 0 3 3 rfl (e_invV_invokeinterface 22 2818593 175 1 1 328 17 rfl rfl rfl rfl rfl rfl (e_checkcast 27 64 114 (e_astore_astore 30 0 4 (e_iload_iload_n 32 0 2 2 rfl (e_aload_aload 33 0 4 (e_iload_iload_n 35 0 1 1 rfl (e_iaload 36 0 (e_psh_iconst 37 4294967295 (-1) (e_icmp_ne 38 45 7 (e_psh_iconst 41 0 0 (e_goto 42 46 4))))))))))))))
set_option maxHeartbeats 100000 in
def k283_0 : ex_C := c_psh 0 (c_istore 2 (c_aload 0 (c_gf 12 6 (c_invV [] cd_283 6 1 344 16 (c_astore 3 (k283_12))))))
set_option maxHeartbeats 100000 in
theorem kE283_0 : ex_CE 0 [] cd_283 k283_0 q283_0 := e_psh_iconst 0 0 0 (e_istore_istore_n 1 0 2 2 rfl (e_aload_aload_n 2 0 0 0 rfl (e_gf 3 86790 32 12 6 rfl rfl (e_invV_invokeinterface 6 2949633 165 1 1 344 16 rfl rfl rfl rfl rfl rfl (e_astore_astore_n 11 0 3 3 rfl (kE283_12))))))
def kt_283 : Nat → Option ex_C := fun pc => @Bool.rec (fun _ => Nat → Option ex_C) (fun pc => @Bool.rec (fun _ => Nat → Option ex_C) (fun pc => @Bool.rec (fun _ => Nat → Option ex_C) (fun pc => @Bool.rec (fun _ => Option ex_C) none (some k283_51) (Nat.beq pc 51)) (fun pc => @Bool.rec (fun _ => Option ex_C) none (some k283_46) (Nat.beq pc 46)) (Nat.ble pc 46) pc) (fun pc => @Bool.rec (fun _ => Option ex_C) none (some k283_45) (Nat.beq pc 45)) (Nat.ble pc 45) pc) (fun pc => @Bool.rec (fun _ => Nat → Option ex_C) (fun pc => @Bool.rec (fun _ => Option ex_C) none (some k283_12) (Nat.beq pc 12)) (fun pc => @Bool.rec (fun _ => Option ex_C) none (some k283_0) (Nat.beq pc 0)) (Nat.ble pc 0) pc) (Nat.ble pc 12) pc
theorem ktE_283 : ex_CTT 0 [] cd_283 kt_283 cd_283 := (ex_ct2 (ex_ct2 (ex_ct1 kE283_0) (ex_ct1 kE283_12)) (ex_ct2 (ex_ct1 kE283_45) (ex_ct2 (ex_ct1 kE283_46) (ex_ct1 kE283_51))))
set_option maxHeartbeats 100000 in
def k284_242 : ex_C := c_aload 0 (c_gf 12 6 (c_aload 1 (c_invV [] cd_284 247 2 339 16 (c_pop   (c_aload 0 (c_gf 12 20 (c_psh 4 (c_irem   (c_ireturn  0)))))))))
set_option maxHeartbeats 100000 in
theorem kE284_242 : ex_CE 0 [] cd_284 k284_242 q284_242 := e_aload_aload_n 242 0 0 0 rfl (e_gf 243 86790 32 12 6 rfl rfl (e_aload_aload_n 246 0 1 1 rfl (e_invV_invokeinterface 247 2908674 83 2 2 339 16 rfl rfl rfl rfl rfl rfl (e_pop 252 0  (e_aload_aload_n 253 0 0 0 rfl (e_gf 254 788 559 12 20 rfl rfl (e_psh_iconst 257 4 4 (e_irem 258 0  (e_ireturn 259 0 )))))))))
set_option maxHeartbeats 100000 in
def k284_236 : ex_C := c_iinc 2 1 (c_goto 65)
set_option maxHeartbeats 100000 in
theorem kE284_236 : ex_CE 0 [] cd_284 k284_236 q284_236 := e_iinc 236 1 2 1 (e_goto 239 65 (-174))
set_option maxHeartbeats 100000 in
def k284_225 : ex_C := c_aload 1 (c_iload 4 (c_iload 2 (c_iastore (c_iinc 3 1 (c_goto 77)))))
set_option maxHeartbeats 100000 in
theorem kE284_225 : ex_CE 0 [] cd_284 k284_225 q284_225 := e_aload_aload_n 225 0 1 1 rfl (e_iload_iload 226 0 4 (e_iload_iload_n 228 0 2 2 rfl (e_iastore 229 0 (e_iinc 230 1 3 1 (e_goto 233 77 (-156))))))
set_option maxHeartbeats 100000 in
def k284_219 : ex_C := c_iinc 7 1 (c_goto 94)
set_option maxHeartbeats 100000 in
theorem kE284_219 : ex_CE 0 [] cd_284 k284_219 q284_219 := e_iinc 219 1 7 1 (e_goto 222 94 (-128))
set_option maxHeartbeats 100000 in
def k284_207 : ex_C := c_iload 7 (c_istore 4 (c_iload 8 (c_istore 5 (c_iload 9 (c_istore 6 (k284_219))))))
set_option maxHeartbeats 100000 in
theorem kE284_207 : ex_CE 0 [] cd_284 k284_207 q284_207 := e_iload_iload 207 0 7 (e_istore_istore 209 0 4 (e_iload_iload 211 0 8 (e_istore_istore 213 0 5 (e_iload_iload 215 0 9 (e_istore_istore 217 0 6 (kE284_219))))))
set_option maxHeartbeats 100000 in
def k284_189 : ex_C := c_istore 10 (c_aload 1 (c_iload 7 (c_iaload (c_psh 4294967295 (c_icmp_ne 219 (c_iload 10 (c_if_ne 207 (c_goto 219))))))))
set_option maxHeartbeats 100000 in
theorem kE284_189 : ex_CE 0 [] cd_284 k284_189 q284_189 := e_istore_istore 189 0 10 (e_aload_aload_n 191 0 1 1 rfl (e_iload_iload 192 0 7 (e_iaload 194 0 (e_psh_iconst 195 4294967295 (-1) (e_icmp_ne 196 219 23 (e_iload_iload 199 0 10 (e_if_ne 201 207 6 (e_goto 204 219 15))))))))
set_option maxHeartbeats 100000 in
def k284_188 : ex_C := c_psh 0 (k284_189)
set_option maxHeartbeats 100000 in
theorem kE284_188 : ex_CE 0 [] cd_284 k284_188 q284_188 := e_psh_iconst 188 0 0 (kE284_189)
set_option maxHeartbeats 100000 in
def k284_184 : ex_C := c_psh 1 (c_goto 189)
set_option maxHeartbeats 100000 in
theorem kE284_184 : ex_CE 0 [] cd_284 k284_184 q284_184 := e_psh_iconst 184 1 1 (e_goto 185 189 4)
set_option maxHeartbeats 100000 in
def k284_157 : ex_C := c_iload 4 (c_psh 4294967295 (c_icmp_eq 184 (c_iload 8 (c_iload 5 (c_icmp_lt 184 (c_iload 8 (c_iload 5 (c_icmp_ne 188 (c_iload 9 (c_iload 6 (c_icmp_ge 188 (k284_184))))))))))))
set_option maxHeartbeats 100000 in
theorem kE284_157 : ex_CE 0 [] cd_284 k284_157 q284_157 := e_iload_iload 157 0 4 (e_psh_iconst 159 4294967295 (-1) (e_icmp_eq 160 184 24 (e_iload_iload 163 0 8 (e_iload_iload 165 0 5 (e_icmp_lt 167 184 17 (e_iload_iload 170 0 8 (e_iload_iload 172 0 5 (e_icmp_ne 174 188 14 (e_iload_iload 177 0 9 (e_iload_iload 179 0 6 (e_icmp_ge 181 188 7 (kE284_184))))))))))))
set_option maxHeartbeats 100000 in
def k284_148 : ex_C := c_iadd (c_istore 8 (c_iinc 10 1 (c_goto 117)))
set_option maxHeartbeats 100000 in
theorem kE284_148 : ex_CE 0 [] cd_284 k284_148 q284_148 := e_iadd 148 0 (e_istore_istore 149 0 8 (e_iinc 151 1 10 1 (e_goto 154 117 (-37))))
set_option maxHeartbeats 100000 in
def k284_147 : ex_C := c_psh 0 (k284_148)
set_option maxHeartbeats 100000 in
theorem kE284_147 : ex_CE 0 [] cd_284 k284_147 q284_147 := e_psh_iconst 147 0 0 (kE284_148)
set_option maxHeartbeats 100000 in
def k284_117 : ex_C := c_iload 10 (c_aload 0 (c_gf 12 20 (c_icmp_ge 157 (c_iload 8 (c_aload 1 (c_iload 10 (c_iaload (c_iload 2 (c_icmp_ne 147 (c_aload 0 (c_iload 10 (c_iload 7 (c_invV [] cd_284 141 3 282 12 (c_goto 148))))))))))))))
set_option maxHeartbeats 100000 in
theorem kE284_117 : ex_CE 0 [] cd_284 k284_117 q284_117 := e_iload_iload 117 0 10 (e_aload_aload_n 119 0 0 0 rfl (e_gf 120 788 559 12 20 rfl rfl (e_icmp_ge 123 157 34 (e_iload_iload 126 0 8 (e_aload_aload_n 128 0 1 1 rfl (e_iload_iload 129 0 10 (e_iaload 131 0 (e_iload_iload_n 132 0 2 2 rfl (e_icmp_ne 133 147 14 (e_aload_aload_n 136 0 0 0 rfl (e_iload_iload 137 0 10 (e_iload_iload 139 0 7 (e_invV_invokevirtual 141 2441603 565 3 282 12 rfl rfl rfl rfl rfl rfl (e_goto 144 148 4))))))))))))))
set_option maxHeartbeats 100000 in
def k284_94 : ex_C := c_iload 7 (c_aload 0 (c_gf 12 20 (c_icmp_ge 225 (c_psh 0 (c_istore 8 (c_aload 0 (c_iload 7 (c_invV [] cd_284 109 2 283 12 (c_istore 9 (c_psh 0 (c_istore 10 (k284_117))))))))))))
set_option maxHeartbeats 100000 in
theorem kE284_94 : ex_CE 0 [] cd_284 k284_94 q284_94 := e_iload_iload 94 0 7 (e_aload_aload_n 96 0 0 0 rfl (e_gf 97 788 559 12 20 rfl rfl (e_icmp_ge 100 225 125 (e_psh_iconst 103 0 0 (e_istore_istore 104 0 8 (e_aload_aload_n 106 0 0 0 rfl (e_iload_iload 107 0 7 (e_invV_invokevirtual 109 2449794 562 2 283 12 rfl rfl rfl rfl rfl rfl (e_istore_istore 112 0 9 (e_psh_iconst 114 0 0 (e_istore_istore 115 0 10 (kE284_117))))))))))))
set_option maxHeartbeats 100000 in
def k284_77 : ex_C := c_iload 3 (c_psh 4 (c_icmp_ge 236 (c_psh 4294967295 (c_istore 4 (c_psh 0 (c_istore 5 (c_psh 0 (c_istore 6 (c_psh 0 (c_istore 7 (k284_94)))))))))))
set_option maxHeartbeats 100000 in
theorem kE284_77 : ex_CE 0 [] cd_284 k284_77 q284_77 := e_iload_iload_n 77 0 3 3 rfl (e_psh_iconst 78 4 4 (e_icmp_ge 79 236 157 (e_psh_iconst 82 4294967295 (-1) (e_istore_istore 83 0 4 (e_psh_iconst 85 0 0 (e_istore_istore 86 0 5 (e_psh_iconst 88 0 0 (e_istore_istore 89 0 6 (e_psh_iconst 91 0 0 (e_istore_istore 92 0 7 (kE284_94)))))))))))
set_option maxHeartbeats 100000 in
def k284_65 : ex_C := c_iload 2 (c_aload 0 (c_gf 12 20 (c_psh 4 (c_idiv   (c_icmp_ge 242 (c_psh 0 (c_istore 3 (k284_77))))))))
set_option maxHeartbeats 100000 in
theorem kE284_65 : ex_CE 0 [] cd_284 k284_65 q284_65 := e_iload_iload_n 65 0 2 2 rfl (e_aload_aload_n 66 0 0 0 rfl (e_gf 67 788 559 12 20 rfl rfl (e_psh_iconst 70 4 4 (e_idiv 71 0  (e_icmp_ge 72 242 170 (e_psh_iconst 75 0 0 (e_istore_istore_n 76 0 3 3 rfl (kE284_77))))))))
set_option maxHeartbeats 100000 in
def k284_63 : ex_C := c_psh 0 (c_istore 2 (k284_65))
set_option maxHeartbeats 100000 in
theorem kE284_63 : ex_CE 0 [] cd_284 k284_63 q284_63 := e_psh_iconst 63 0 0 (e_istore_istore_n 64 0 2 2 rfl (kE284_65))
set_option maxHeartbeats 100000 in
def k284_45 : ex_C := c_iload 2 (c_aload 0 (c_gf 12 20 (c_icmp_ge 63 (c_aload 1 (c_iload 2 (c_psh 4294967295 (c_iastore (c_iinc 2 1 (c_goto 45)))))))))
set_option maxHeartbeats 100000 in
theorem kE284_45 : ex_CE 0 [] cd_284 k284_45 q284_45 := e_iload_iload_n 45 0 2 2 rfl (e_aload_aload_n 46 0 0 0 rfl (e_gf 47 788 559 12 20 rfl rfl (e_icmp_ge 50 63 13 (e_aload_aload_n 53 0 1 1 rfl (e_iload_iload_n 54 0 2 2 rfl (e_psh_iconst 55 4294967295 (-1) (e_iastore 56 0 (e_iinc 57 1 2 1 (e_goto 60 45 (-15))))))))))
set_option maxHeartbeats 100000 in
def k284_36 : ex_C := c_aload 0 (c_gf 12 20 (c_newarr 64 0 (c_astore 1 (c_psh 0 (c_istore 2 (k284_45))))))
set_option maxHeartbeats 100000 in
theorem kE284_36 : ex_CE 0 [] cd_284 k284_36 q284_36 := e_aload_aload_n 36 0 0 0 rfl (e_gf 37 788 559 12 20 rfl rfl (e_newarr 40 64 0 rfl (e_astore_astore_n 42 0 1 1 rfl (e_psh_iconst 43 0 0 (e_istore_istore_n 44 0 2 2 rfl (kE284_45))))))
set_option maxHeartbeats 100000 in
def k284_27 : ex_C := c_psh 1 (c_invV [] cd_284 28 3 181 12 (c_if_eq 36 (c_psh 0 (c_ireturn  0))))
set_option maxHeartbeats 100000 in
theorem kE284_27 : ex_CE 0 [] cd_284 k284_27 q284_27 := e_psh_iconst 27 1 1 (e_invV_invokevirtual 28 1614211 106 3 181 12 rfl rfl rfl rfl rfl rfl (e_if_eq 31 36 5 (e_psh_iconst 34 0 0 (e_ireturn 35 0 ))))
set_option maxHeartbeats 100000 in
def k284_26 : ex_C := c_psh 0 (k284_27)
set_option maxHeartbeats 100000 in
theorem kE284_26 : ex_CE 0 [] cd_284 k284_26 q284_26 := e_psh_iconst 26 0 0 (kE284_27)
set_option maxHeartbeats 100000 in
def k284_0 : ex_C := c_aload 0 (c_aload 0 (c_gf 12 20 (c_if_le 26 (c_aload 0 (c_gf 12 6 (c_invV [] cd_284 12 1 333 16 (c_psh 30 (c_icmp_ge 26 (c_psh 1 (c_goto 27))))))))))
set_option maxHeartbeats 100000 in
theorem kE284_0 : ex_CE 0 [] cd_284 k284_0 q284_0 := e_aload_aload_n 0 0 0 0 rfl (e_aload_aload_n 1 0 0 0 rfl (e_gf 2 788 559 12 20 rfl rfl (e_if_le 5 26 21 (e_aload_aload_n 8 0 0 0 rfl (e_gf 9 86790 32 12 6 rfl rfl (e_invV_invokeinterface 12 2859521 178 1 1 333 16 rfl rfl rfl rfl rfl rfl (e_psh_bipush 17 30 30 (e_icmp_ge 19 26 7 (e_psh_iconst 22 1 1 (e_goto 23 27 4))))))))))
def kt_284 : Nat → Option ex_C := fun pc => @Bool.rec (fun _ => Nat → Option ex_C) (fun pc => @Bool.rec (fun _ => Nat → Option ex_C) (fun pc => @Bool.rec (fun _ => Nat → Option ex_C) (fun pc => @Bool.rec (fun _ => Nat → Option ex_C) (fun pc => @Bool.rec (fun _ => Nat → Option ex_C) (fun pc => @Bool.rec (fun _ => Option ex_C) none (some k284_242) (Nat.beq pc 242)) (fun pc => @Bool.rec (fun _ => Option ex_C) none (some k284_236) (Nat.beq pc 236)) (Nat.ble pc 236) pc) (fun pc => @Bool.rec (fun _ => Option ex_C) none (some k284_225) (Nat.beq pc 225)) (Nat.ble pc 225) pc) (fun pc => @Bool.rec (fun _ => Nat → Option ex_C) (fun pc => @Bool.rec (fun _ => Nat → Option ex_C) (fun pc => @Bool.rec (fun _ => Option ex_C) none (some k284_219) (Nat.beq pc 219)) (fun pc => @Bool.rec (fun _ => Option ex_C) none (some k284_207) (Nat.beq pc 207)) (Nat.ble pc 207) pc) (fun pc => @Bool.rec (fun _ => Option ex_C) none (some k284_189) (Nat.beq pc 189)) (Nat.ble pc 189) pc) (Nat.ble pc 219) pc) (fun pc => @Bool.rec (fun _ => Nat → Option ex_C) (fun pc => @Bool.rec (fun _ => Nat → Option ex_C) (fun pc => @Bool.rec (fun _ => Nat → Option ex_C) (fun pc => @Bool.rec (fun _ => Option ex_C) none (some k284_188) (Nat.beq pc 188)) (fun pc => @Bool.rec (fun _ => Option ex_C) none (some k284_184) (Nat.beq pc 184)) (Nat.ble pc 184) pc) (fun pc => @Bool.rec (fun _ => Option ex_C) none (some k284_157) (Nat.beq pc 157)) (Nat.ble pc 157) pc) (fun pc => @Bool.rec (fun _ => Nat → Option ex_C) (fun pc => @Bool.rec (fun _ => Option ex_C) none (some k284_148) (Nat.beq pc 148)) (fun pc => @Bool.rec (fun _ => Option ex_C) none (some k284_147) (Nat.beq pc 147)) (Nat.ble pc 147) pc) (Nat.ble pc 148) pc) (Nat.ble pc 188) pc) (fun pc => @Bool.rec (fun _ => Nat → Option ex_C) (fun pc => @Bool.rec (fun _ => Nat → Option ex_C) (fun pc => @Bool.rec (fun _ => Nat → Option ex_C) (fun pc => @Bool.rec (fun _ => Nat → Option ex_C) (fun pc => @Bool.rec (fun _ => Option ex_C) none (some k284_117) (Nat.beq pc 117)) (fun pc => @Bool.rec (fun _ => Option ex_C) none (some k284_94) (Nat.beq pc 94)) (Nat.ble pc 94) pc) (fun pc => @Bool.rec (fun _ => Option ex_C) none (some k284_77) (Nat.beq pc 77)) (Nat.ble pc 77) pc) (fun pc => @Bool.rec (fun _ => Nat → Option ex_C) (fun pc => @Bool.rec (fun _ => Option ex_C) none (some k284_65) (Nat.beq pc 65)) (fun pc => @Bool.rec (fun _ => Option ex_C) none (some k284_63) (Nat.beq pc 63)) (Nat.ble pc 63) pc) (Nat.ble pc 65) pc) (fun pc => @Bool.rec (fun _ => Nat → Option ex_C) (fun pc => @Bool.rec (fun _ => Nat → Option ex_C) (fun pc => @Bool.rec (fun _ => Nat → Option ex_C) (fun pc => @Bool.rec (fun _ => Option ex_C) none (some k284_45) (Nat.beq pc 45)) (fun pc => @Bool.rec (fun _ => Option ex_C) none (some k284_36) (Nat.beq pc 36)) (Nat.ble pc 36) pc) (fun pc => @Bool.rec (fun _ => Option ex_C) none (some k284_27) (Nat.beq pc 27)) (Nat.ble pc 27) pc) (fun pc => @Bool.rec (fun _ => Nat → Option ex_C) (fun pc => @Bool.rec (fun _ => Option ex_C) none (some k284_26) (Nat.beq pc 26)) (fun pc => @Bool.rec (fun _ => Option ex_C) none (some k284_0) (Nat.beq pc 0)) (Nat.ble pc 0) pc) (Nat.ble pc 26) pc) (Nat.ble pc 45) pc) (Nat.ble pc 117) pc
theorem ktE_284 : ex_CTT 0 [] cd_284 kt_284 cd_284 := (ex_ct2 (ex_ct2 (ex_ct2 (ex_ct2 (ex_ct1 kE284_0) (ex_ct1 kE284_26)) (ex_ct2 (ex_ct1 kE284_27) (ex_ct2 (ex_ct1 kE284_36) (ex_ct1 kE284_45)))) (ex_ct2 (ex_ct2 (ex_ct1 kE284_63) (ex_ct1 kE284_65)) (ex_ct2 (ex_ct1 kE284_77) (ex_ct2 (ex_ct1 kE284_94) (ex_ct1 kE284_117))))) (ex_ct2 (ex_ct2 (ex_ct2 (ex_ct1 kE284_147) (ex_ct1 kE284_148)) (ex_ct2 (ex_ct1 kE284_157) (ex_ct2 (ex_ct1 kE284_184) (ex_ct1 kE284_188)))) (ex_ct2 (ex_ct2 (ex_ct1 kE284_189) (ex_ct2 (ex_ct1 kE284_207) (ex_ct1 kE284_219))) (ex_ct2 (ex_ct1 kE284_225) (ex_ct2 (ex_ct1 kE284_236) (ex_ct1 kE284_242))))))
set_option maxHeartbeats 100000 in
def k285_69 : ex_C := c_ireturn  0
set_option maxHeartbeats 100000 in
theorem kE285_69 : ex_CE 0 [] cd_285 k285_69 q285_69 := e_ireturn 69 0 
set_option maxHeartbeats 100000 in
def k285_54 : ex_C := c_aload 0 (c_gf 12 6 (c_iload 1 (c_invV [] cd_285 59 2 337 16 (c_checkcast 114 64 (c_iload 2 (c_iaload (k285_69)))))))
set_option maxHeartbeats 100000 in
theorem kE285_54 : ex_CE 0 [] cd_285 k285_54 q285_54 := e_aload_aload_n 54 0 0 0 rfl (e_gf 55 86790 32 12 6 rfl rfl (e_iload_iload_n 58 0 1 1 rfl (e_invV_invokeinterface 59 2892290 186 2 2 337 16 rfl rfl rfl rfl rfl rfl (e_checkcast 64 64 114 (e_iload_iload_n 67 0 2 2 rfl (e_iaload 68 0 (kE285_69)))))))
set_option maxHeartbeats 100000 in
def k285_43 : ex_C := c_psh 1 (c_invV [] cd_285 44 3 181 12 (c_if_eq 54 (c_psh 0 (c_goto 69))))
set_option maxHeartbeats 100000 in
theorem kE285_43 : ex_CE 0 [] cd_285 k285_43 q285_43 := e_psh_iconst 43 1 1 (e_invV_invokevirtual 44 1614211 106 3 181 12 rfl rfl rfl rfl rfl rfl (e_if_eq 47 54 7 (e_psh_iconst 50 0 0 (e_goto 51 69 18))))
set_option maxHeartbeats 100000 in
def k285_42 : ex_C := c_psh 0 (k285_43)
set_option maxHeartbeats 100000 in
theorem kE285_42 : ex_CE 0 [] cd_285 k285_42 q285_42 := e_psh_iconst 42 0 0 (kE285_43)
set_option maxHeartbeats 100000 in
def k285_0 : ex_C := c_aload 0 (c_iload 1 (c_i2l   (c_psh 412316860416 (c_aload 0 (c_gf 12 6 (c_invV [] cd_285 8 1 333 16 (c_psh 1 (c_isub (c_i2l   (c_invS [] cd_285 16 3 180 (c_if_eq 42 (c_iload 2 (c_i2l   (c_psh 412316860416 (c_aload 0 (c_gf 12 20 (c_psh 1 (c_isub (c_i2l   (c_invS [] cd_285 32 3 180 (c_if_eq 42 (c_psh 1 (c_goto 43)))))))))))))))))))))))
set_option maxHeartbeats 100000 in
theorem kE285_0 : ex_CE 0 [] cd_285 k285_0 q285_0 := e_aload_aload_n 0 0 0 0 rfl (e_iload_iload_n 1 0 1 1 rfl (e_i2l 2 0  (e_psh_lconst 3 412316860416 0 (e_aload_aload_n 4 0 0 0 rfl (e_gf 5 86790 32 12 6 rfl rfl (e_invV_invokeinterface 8 2859521 178 1 1 333 16 rfl rfl rfl rfl rfl rfl (e_psh_iconst 13 1 1 (e_isub 14 0 (e_i2l 15 0  (e_invS 16 1613795 102 3 180 rfl rfl rfl (e_if_eq 19 42 23 (e_iload_iload_n 22 0 2 2 rfl (e_i2l 23 0  (e_psh_lconst 24 412316860416 0 (e_aload_aload_n 25 0 0 0 rfl (e_gf 26 788 559 12 20 rfl rfl (e_psh_iconst 29 1 1 (e_isub 30 0 (e_i2l 31 0  (e_invS 32 1613795 102 3 180 rfl rfl rfl (e_if_eq 35 42 7 (e_psh_iconst 38 1 1 (e_goto 39 43 4)))))))))))))))))))))))
def kt_285 : Nat → Option ex_C := fun pc => @Bool.rec (fun _ => Nat → Option ex_C) (fun pc => @Bool.rec (fun _ => Nat → Option ex_C) (fun pc => @Bool.rec (fun _ => Nat → Option ex_C) (fun pc => @Bool.rec (fun _ => Option ex_C) none (some k285_69) (Nat.beq pc 69)) (fun pc => @Bool.rec (fun _ => Option ex_C) none (some k285_54) (Nat.beq pc 54)) (Nat.ble pc 54) pc) (fun pc => @Bool.rec (fun _ => Option ex_C) none (some k285_43) (Nat.beq pc 43)) (Nat.ble pc 43) pc) (fun pc => @Bool.rec (fun _ => Nat → Option ex_C) (fun pc => @Bool.rec (fun _ => Option ex_C) none (some k285_42) (Nat.beq pc 42)) (fun pc => @Bool.rec (fun _ => Option ex_C) none (some k285_0) (Nat.beq pc 0)) (Nat.ble pc 0) pc) (Nat.ble pc 42) pc
theorem ktE_285 : ex_CTT 0 [] cd_285 kt_285 cd_285 := (ex_ct2 (ex_ct2 (ex_ct1 kE285_0) (ex_ct1 kE285_42)) (ex_ct2 (ex_ct1 kE285_43) (ex_ct2 (ex_ct1 kE285_54) (ex_ct1 kE285_69))))
set_option maxHeartbeats 100000 in
def k286_73 : ex_C := c_ireturn  0
set_option maxHeartbeats 100000 in
theorem kE286_73 : ex_CE 0 [] cd_286 k286_73 q286_73 := e_ireturn 73 0 
set_option maxHeartbeats 100000 in
def k286_67 : ex_C := c_aload 0 (c_iload 1 (c_iload 2 (c_invV [] cd_286 70 3 282 12 (k286_73))))
set_option maxHeartbeats 100000 in
theorem kE286_67 : ex_CE 0 [] cd_286 k286_67 q286_67 := e_aload_aload_n 67 0 0 0 rfl (e_iload_iload_n 68 0 1 1 rfl (e_iload_iload_n 69 0 2 2 rfl (e_invV_invokevirtual 70 2441603 565 3 282 12 rfl rfl rfl rfl rfl rfl (kE286_73))))
set_option maxHeartbeats 100000 in
def k286_63 : ex_C := c_psh 0 (c_goto 73)
set_option maxHeartbeats 100000 in
theorem kE286_63 : ex_CE 0 [] cd_286 k286_63 q286_63 := e_psh_iconst 63 0 0 (e_goto 64 73 9)
set_option maxHeartbeats 100000 in
def k286_56 : ex_C := c_psh 2 (c_invV [] cd_286 57 3 181 12 (c_if_eq 67 (k286_63)))
set_option maxHeartbeats 100000 in
theorem kE286_56 : ex_CE 0 [] cd_286 k286_56 q286_56 := e_psh_iconst 56 2 2 (e_invV_invokevirtual 57 1614211 106 3 181 12 rfl rfl rfl rfl rfl rfl (e_if_eq 60 67 7 (kE286_63)))
set_option maxHeartbeats 100000 in
def k286_55 : ex_C := c_psh 0 (k286_56)
set_option maxHeartbeats 100000 in
theorem kE286_55 : ex_CE 0 [] cd_286 k286_55 q286_55 := e_psh_iconst 55 0 0 (kE286_56)
set_option maxHeartbeats 100000 in
def k286_38 : ex_C := c_psh 1 (c_invV [] cd_286 39 3 181 12 (c_if_ne 63 (c_aload 0 (c_iload 1 (c_iload 2 (c_icmp_eq 55 (c_psh 1 (c_goto 56))))))))
set_option maxHeartbeats 100000 in
theorem kE286_38 : ex_CE 0 [] cd_286 k286_38 q286_38 := e_psh_iconst 38 1 1 (e_invV_invokevirtual 39 1614211 106 3 181 12 rfl rfl rfl rfl rfl rfl (e_if_ne 42 63 21 (e_aload_aload_n 45 0 0 0 rfl (e_iload_iload_n 46 0 1 1 rfl (e_iload_iload_n 47 0 2 2 rfl (e_icmp_eq 48 55 7 (e_psh_iconst 51 1 1 (e_goto 52 56 4))))))))
set_option maxHeartbeats 100000 in
def k286_37 : ex_C := c_psh 0 (k286_38)
set_option maxHeartbeats 100000 in
theorem kE286_37 : ex_CE 0 [] cd_286 k286_37 q286_37 := e_psh_iconst 37 0 0 (kE286_38)
set_option maxHeartbeats 100000 in
def k286_0 : ex_C := c_aload 0 (c_iload 1 (c_i2l   (c_psh 412316860416 (c_aload 0 (c_gf 12 20 (c_psh 1 (c_isub (c_i2l   (c_invS [] cd_286 11 3 180 (c_if_eq 37 (c_iload 2 (c_i2l   (c_psh 412316860416 (c_aload 0 (c_gf 12 20 (c_psh 1 (c_isub (c_i2l   (c_invS [] cd_286 27 3 180 (c_if_eq 37 (c_psh 1 (c_goto 38))))))))))))))))))))))
set_option maxHeartbeats 100000 in
theorem kE286_0 : ex_CE 0 [] cd_286 k286_0 q286_0 := e_aload_aload_n 0 0 0 0 rfl (e_iload_iload_n 1 0 1 1 rfl (e_i2l 2 0  (e_psh_lconst 3 412316860416 0 (e_aload_aload_n 4 0 0 0 rfl (e_gf 5 788 559 12 20 rfl rfl (e_psh_iconst 8 1 1 (e_isub 9 0 (e_i2l 10 0  (e_invS 11 1613795 102 3 180 rfl rfl rfl (e_if_eq 14 37 23 (e_iload_iload_n 17 0 2 2 rfl (e_i2l 18 0  (e_psh_lconst 19 412316860416 0 (e_aload_aload_n 20 0 0 0 rfl (e_gf 21 788 559 12 20 rfl rfl (e_psh_iconst 24 1 1 (e_isub 25 0 (e_i2l 26 0  (e_invS 27 1613795 102 3 180 rfl rfl rfl (e_if_eq 30 37 7 (e_psh_iconst 33 1 1 (e_goto 34 38 4))))))))))))))))))))))
def kt_286 : Nat → Option ex_C := fun pc => @Bool.rec (fun _ => Nat → Option ex_C) (fun pc => @Bool.rec (fun _ => Nat → Option ex_C) (fun pc => @Bool.rec (fun _ => Nat → Option ex_C) (fun pc => @Bool.rec (fun _ => Option ex_C) none (some k286_73) (Nat.beq pc 73)) (fun pc => @Bool.rec (fun _ => Option ex_C) none (some k286_67) (Nat.beq pc 67)) (Nat.ble pc 67) pc) (fun pc => @Bool.rec (fun _ => Nat → Option ex_C) (fun pc => @Bool.rec (fun _ => Option ex_C) none (some k286_63) (Nat.beq pc 63)) (fun pc => @Bool.rec (fun _ => Option ex_C) none (some k286_56) (Nat.beq pc 56)) (Nat.ble pc 56) pc) (Nat.ble pc 63) pc) (fun pc => @Bool.rec (fun _ => Nat → Option ex_C) (fun pc => @Bool.rec (fun _ => Nat → Option ex_C) (fun pc => @Bool.rec (fun _ => Option ex_C) none (some k286_55) (Nat.beq pc 55)) (fun pc => @Bool.rec (fun _ => Option ex_C) none (some k286_38) (Nat.beq pc 38)) (Nat.ble pc 38) pc) (fun pc => @Bool.rec (fun _ => Nat → Option ex_C) (fun pc => @Bool.rec (fun _ => Option ex_C) none (some k286_37) (Nat.beq pc 37)) (fun pc => @Bool.rec (fun _ => Option ex_C) none (some k286_0) (Nat.beq pc 0)) (Nat.ble pc 0) pc) (Nat.ble pc 37) pc) (Nat.ble pc 55) pc
theorem ktE_286 : ex_CTT 0 [] cd_286 kt_286 cd_286 := (ex_ct2 (ex_ct2 (ex_ct2 (ex_ct1 kE286_0) (ex_ct1 kE286_37)) (ex_ct2 (ex_ct1 kE286_38) (ex_ct1 kE286_55))) (ex_ct2 (ex_ct2 (ex_ct1 kE286_56) (ex_ct1 kE286_63)) (ex_ct2 (ex_ct1 kE286_67) (ex_ct1 kE286_73))))
set_option maxHeartbeats 100000 in
def k287_0 : ex_C := c_aload 0 (c_gf 12 25 (c_lreturn  3))
set_option maxHeartbeats 100000 in
theorem kE287_0 : ex_CE 3 [] cd_287 k287_0 q287_0 := e_aload_aload_n 0 0 0 0 rfl (e_gf 1 13081 452 12 25 rfl rfl (e_lreturn 4 0 ))
def kt_287 : Nat → Option ex_C := fun pc => @Bool.rec (fun _ => Option ex_C) none (some k287_0) (Nat.beq pc 0)
theorem ktE_287 : ex_CTT 3 [] cd_287 kt_287 cd_287 := (ex_ct1 kE287_0)
set_option maxHeartbeats 100000 in
def k288_35 : ex_C := c_freturn  7
set_option maxHeartbeats 100000 in
theorem kE288_35 : ex_CE 7 [] cd_288 k288_35 q288_35 := e_freturn 35 0 
set_option maxHeartbeats 100000 in
def k288_24 : ex_C := c_aload 0 (c_gf 12 19 (c_none))
set_option maxHeartbeats 100000 in
theorem kE288_24 : ex_CE 7 [] cd_288 k288_24 q288_24 := e_aload_aload_n 24 0 0 0 rfl (e_gf 25 787 471 12 19 rfl rfl (e_bad))
set_option maxHeartbeats 100000 in
def k288_13 : ex_C := c_psh 1 (c_invV [] cd_288 14 3 181 12 (c_if_eq 24 (c_psh 34359738368 (c_goto 35))))
set_option maxHeartbeats 100000 in
theorem kE288_13 : ex_CE 7 [] cd_288 k288_13 q288_13 := e_psh_iconst 13 1 1 (e_invV_invokevirtual 14 1614211 106 3 181 12 rfl rfl rfl rfl rfl rfl (e_if_eq 17 24 7 (e_psh_fconst 20 34359738368 0 (e_goto 21 35 14))))
set_option maxHeartbeats 100000 in
def k288_12 : ex_C := c_psh 0 (k288_13)
set_option maxHeartbeats 100000 in
theorem kE288_12 : ex_CE 7 [] cd_288 k288_12 q288_12 := e_psh_iconst 12 0 0 (kE288_13)
set_option maxHeartbeats 100000 in
def k288_0 : ex_C := c_aload 0 (c_aload 0 (c_gf 12 18 (c_if_le 12 (c_psh 1 (c_goto 13)))))
set_option maxHeartbeats 100000 in
theorem kE288_0 : ex_CE 7 [] cd_288 k288_0 q288_0 := e_aload_aload_n 0 0 0 0 rfl (e_aload_aload_n 1 0 0 0 rfl (e_gf 2 786 460 12 18 rfl rfl (e_if_le 5 12 7 (e_psh_iconst 8 1 1 (e_goto 9 13 4)))))
def kt_288 : Nat → Option ex_C := fun pc => @Bool.rec (fun _ => Nat → Option ex_C) (fun pc => @Bool.rec (fun _ => Nat → Option ex_C) (fun pc => @Bool.rec (fun _ => Nat → Option ex_C) (fun pc => @Bool.rec (fun _ => Option ex_C) none (some k288_35) (Nat.beq pc 35)) (fun pc => @Bool.rec (fun _ => Option ex_C) none (some k288_24) (Nat.beq pc 24)) (Nat.ble pc 24) pc) (fun pc => @Bool.rec (fun _ => Option ex_C) none (some k288_13) (Nat.beq pc 13)) (Nat.ble pc 13) pc) (fun pc => @Bool.rec (fun _ => Nat → Option ex_C) (fun pc => @Bool.rec (fun _ => Option ex_C) none (some k288_12) (Nat.beq pc 12)) (fun pc => @Bool.rec (fun _ => Option ex_C) none (some k288_0) (Nat.beq pc 0)) (Nat.ble pc 0) pc) (Nat.ble pc 12) pc
theorem ktE_288 : ex_CTT 7 [] cd_288 kt_288 cd_288 := (ex_ct2 (ex_ct2 (ex_ct1 kE288_0) (ex_ct1 kE288_12)) (ex_ct2 (ex_ct1 kE288_13) (ex_ct2 (ex_ct1 kE288_24) (ex_ct1 kE288_35))))
set_option maxHeartbeats 100000 in
def k289_57 : ex_C := c_iload 2 (c_i2d   (c_psh 34359738370 (c_ddiv   (c_dreturn  8))))
set_option maxHeartbeats 100000 in
theorem kE289_57 : ex_CE 8 [] cd_289 k289_57 q289_57 := e_iload_iload_n 57 0 2 2 rfl (e_i2d 58 0  (e_psh_ldc2_w 59 34359738370 568 (e_ddiv 62 0  (e_dreturn 63 0 ))))
set_option maxHeartbeats 100000 in
def k289_9 : ex_C := c_iload 3 (c_psh 8 (c_icmp_ge 57 (c_iload 2 (c_aload 1 (c_psh 3 (c_iload 3 (c_imul (c_iaload (c_aload 0 (c_gf 12 0 (c_iload 3 (c_iaload (c_isub (c_invS [] cd_289 28 1 299 (c_aload 1 (c_psh 3 (c_iload 3 (c_imul (c_psh 1 (c_iadd (c_iaload (c_aload 0 (c_gf 12 1 (c_iload 3 (c_iaload (c_isub (c_invS [] cd_289 45 1 299 (c_iadd (c_iadd (c_istore 2 (c_iinc 3 1 (c_goto 9))))))))))))))))))))))))))))))))
set_option maxHeartbeats 100000 in
theorem kE289_9 : ex_CE 8 [] cd_289 k289_9 q289_9 := e_iload_iload_n 9 0 3 3 rfl (e_psh_bipush 10 8 8 (e_icmp_ge 12 57 45 (e_iload_iload_n 15 0 2 2 rfl (e_aload_aload_n 16 0 1 1 rfl (e_psh_iconst 17 3 3 (e_iload_iload_n 18 0 3 3 rfl (e_imul 19 0 (e_iaload 20 0 (e_aload_aload_n 21 0 0 0 rfl (e_gf 22 86784 7 12 0 rfl rfl (e_iload_iload_n 25 0 3 3 rfl (e_iaload 26 0 (e_isub 27 0 (e_invS 28 2588641 159 1 299 rfl rfl rfl (e_aload_aload_n 31 0 1 1 rfl (e_psh_iconst 32 3 3 (e_iload_iload_n 33 0 3 3 rfl (e_imul 34 0 (e_psh_iconst 35 1 1 (e_iadd 36 0 (e_iaload 37 0 (e_aload_aload_n 38 0 0 0 rfl (e_gf 39 86785 13 12 1 rfl rfl (e_iload_iload_n 42 0 3 3 rfl (e_iaload 43 0 (e_isub 44 0 (e_invS 45 2588641 159 1 299 rfl rfl rfl (e_iadd 48 0 (e_iadd 49 0 (e_istore_istore_n 50 0 2 2 rfl (e_iinc 51 1 3 1 (e_goto 54 9 (-45)))))))))))))))))))))))))))))))))
set_option maxHeartbeats 100000 in
def k289_0 : ex_C := c_aload 0 (c_invV [] cd_289 1 1 183 12 (c_astore 1 (c_psh 0 (c_istore 2 (c_psh 0 (c_istore 3 (k289_9)))))))
set_option maxHeartbeats 100000 in
theorem kE289_0 : ex_CE 8 [] cd_289 k289_0 q289_0 := e_aload_aload_n 0 0 0 0 rfl (e_invV_invokevirtual 1 1630593 89 1 183 12 rfl rfl rfl rfl rfl rfl (e_astore_astore_n 4 0 1 1 rfl (e_psh_iconst 5 0 0 (e_istore_istore_n 6 0 2 2 rfl (e_psh_iconst 7 0 0 (e_istore_istore_n 8 0 3 3 rfl (kE289_9)))))))
def kt_289 : Nat → Option ex_C := fun pc => @Bool.rec (fun _ => Nat → Option ex_C) (fun pc => @Bool.rec (fun _ => Nat → Option ex_C) (fun pc => @Bool.rec (fun _ => Option ex_C) none (some k289_57) (Nat.beq pc 57)) (fun pc => @Bool.rec (fun _ => Option ex_C) none (some k289_9) (Nat.beq pc 9)) (Nat.ble pc 9) pc) (fun pc => @Bool.rec (fun _ => Option ex_C) none (some k289_0) (Nat.beq pc 0)) (Nat.ble pc 0) pc
theorem ktE_289 : ex_CTT 8 [] cd_289 kt_289 cd_289 := (ex_ct2 (ex_ct1 kE289_0) (ex_ct2 (ex_ct1 kE289_9) (ex_ct1 kE289_57)))
set_option maxHeartbeats 100000 in
def k290_0 : ex_C := c_psh 1 (c_ireturn  1)
set_option maxHeartbeats 100000 in
theorem kE290_0 : ex_CE 1 [] cd_290 k290_0 q290_0 := e_psh_iconst 0 1 1 (e_ireturn 1 0 )
def kt_290 : Nat → Option ex_C := fun pc => @Bool.rec (fun _ => Option ex_C) none (some k290_0) (Nat.beq pc 0)
theorem ktE_290 : ex_CTT 1 [] cd_290 kt_290 cd_290 := (ex_ct1 kE290_0)
set_option maxHeartbeats 100000 in
def k291_0 : ex_C := c_aload 0 (c_aload 1 (c_none))
set_option maxHeartbeats 100000 in
theorem kE291_0 : ex_CE 15 [] cd_291 k291_0 q291_0 := e_aload_aload_n 0 0 0 0 rfl (e_aload_aload_n 1 0 1 1 rfl (e_bad))
def kt_291 : Nat → Option ex_C := fun pc => @Bool.rec (fun _ => Option ex_C) none (some k291_0) (Nat.beq pc 0)
theorem ktE_291 : ex_CTT 15 [] cd_291 kt_291 cd_291 := (ex_ct1 kE291_0)
set_option maxHeartbeats 100000 in
def k292_0 : ex_C := c_aload 0 (c_oinit (c_aload 0 (c_iload 1 (c_pf 19 2 0 (c_return_  15)))))
set_option maxHeartbeats 100000 in
theorem kE292_0 : ex_CE 15 [] cd_292 k292_0 q292_0 := e_aload_aload_n 0 0 0 0 rfl (e_oinit (e_aload_aload_n 4 0 0 0 rfl (e_iload_iload_n 5 0 1 1 rfl (e_pf 6 74944 19 19 2 0 rfl rfl rfl (e_return_ 9 0 )))))
def kt_292 : Nat → Option ex_C := fun pc => @Bool.rec (fun _ => Option ex_C) none (some k292_0) (Nat.beq pc 0)
theorem ktE_292 : ex_CTT 15 [] cd_292 kt_292 cd_292 := (ex_ct1 kE292_0)
set_option maxHeartbeats 100000 in
def k293_12 : ex_C := c_newo 275 1 (c_dup   (c_iload 0 (c_invP [] cd_293 17 2 292 (c_areturn  5))))
set_option maxHeartbeats 100000 in
theorem kE293_12 : ex_CE 5 [] cd_293 k293_12 q293_12 := e_newo 12 19 1 275 1 rfl rfl rfl (e_dup 15 0  (e_iload_iload_n 16 0 0 0 rfl (e_invP 17 2531266 53 2 292 rfl rfl rfl rfl (e_areturn 20 0 ))))
set_option maxHeartbeats 100000 in
def k293_0 : ex_C := c_iload 0 (c_psh 127 (c_icmp_gt 12 (c_psh 17179869200 (c_iload 0 (c_aaload   (c_areturn  5))))))
set_option maxHeartbeats 100000 in
theorem kE293_0 : ex_CE 5 [] cd_293 k293_0 q293_0 := e_iload_iload_n 0 0 0 0 rfl (e_psh_bipush 1 127 127 (e_icmp_gt 3 12 9 (e_psh_getstatic 6 17179869200 47 (e_iload_iload_n 9 0 0 0 rfl (e_aaload 10 0  (e_areturn 11 0 ))))))
def kt_293 : Nat → Option ex_C := fun pc => @Bool.rec (fun _ => Nat → Option ex_C) (fun pc => @Bool.rec (fun _ => Option ex_C) none (some k293_12) (Nat.beq pc 12)) (fun pc => @Bool.rec (fun _ => Option ex_C) none (some k293_0) (Nat.beq pc 0)) (Nat.ble pc 0) pc
theorem ktE_293 : ex_CTT 5 [] cd_293 kt_293 cd_293 := (ex_ct2 (ex_ct1 kE293_0) (ex_ct1 kE293_12))
set_option maxHeartbeats 100000 in
def k294_0 : ex_C := c_aload 0 (c_gf 19 0 (c_ireturn  2))
set_option maxHeartbeats 100000 in
theorem kE294_0 : ex_CE 2 [] cd_294 k294_0 q294_0 := e_aload_aload_n 0 0 0 0 rfl (e_gf 1 74944 19 19 0 rfl rfl (e_ireturn 4 0 ))
def kt_294 : Nat → Option ex_C := fun pc => @Bool.rec (fun _ => Option ex_C) none (some k294_0) (Nat.beq pc 0)
theorem ktE_294 : ex_CTT 2 [] cd_294 kt_294 cd_294 := (ex_ct1 kE294_0)
set_option maxHeartbeats 100000 in
def k295_16 : ex_C := c_ireturn  1
set_option maxHeartbeats 100000 in
theorem kE295_16 : ex_CE 1 [] cd_295 k295_16 q295_16 := e_ireturn 16 0 
set_option maxHeartbeats 100000 in
def k295_15 : ex_C := c_psh 0 (k295_16)
set_option maxHeartbeats 100000 in
theorem kE295_15 : ex_CE 1 [] cd_295 k295_15 q295_15 := e_psh_iconst 15 0 0 (kE295_16)
set_option maxHeartbeats 100000 in
def k295_0 : ex_C := c_iload 0 (c_psh 16 (c_none))
set_option maxHeartbeats 100000 in
theorem kE295_0 : ex_CE 1 [] cd_295 k295_0 q295_0 := e_iload_iload_n 0 0 0 0 rfl (e_psh_bipush 1 16 16 (e_bad))
def kt_295 : Nat → Option ex_C := fun pc => @Bool.rec (fun _ => Nat → Option ex_C) (fun pc => @Bool.rec (fun _ => Nat → Option ex_C) (fun pc => @Bool.rec (fun _ => Option ex_C) none (some k295_16) (Nat.beq pc 16)) (fun pc => @Bool.rec (fun _ => Option ex_C) none (some k295_15) (Nat.beq pc 15)) (Nat.ble pc 15) pc) (fun pc => @Bool.rec (fun _ => Option ex_C) none (some k295_0) (Nat.beq pc 0)) (Nat.ble pc 0) pc
theorem ktE_295 : ex_CTT 1 [] cd_295 kt_295 cd_295 := (ex_ct2 (ex_ct1 kE295_0) (ex_ct2 (ex_ct1 kE295_15) (ex_ct1 kE295_16)))
set_option maxHeartbeats 100000 in
def k296_0 : ex_C := c_iload 0 (c_psh 10 (c_none))
set_option maxHeartbeats 100000 in
theorem kE296_0 : ex_CE 2 [] cd_296 k296_0 q296_0 := e_iload_iload_n 0 0 0 0 rfl (e_psh_bipush 1 10 10 (e_bad))
def kt_296 : Nat → Option ex_C := fun pc => @Bool.rec (fun _ => Option ex_C) none (some k296_0) (Nat.beq pc 0)
theorem ktE_296 : ex_CTT 2 [] cd_296 kt_296 cd_296 := (ex_ct1 kE296_0)
set_option maxHeartbeats 100000 in
def k297_0 : ex_C := c_iload 0 (c_psh 1023 (c_iand (c_psh 56320 (c_iadd (c_i2c   (c_ireturn  2))))))
set_option maxHeartbeats 100000 in
theorem kE297_0 : ex_CE 2 [] cd_297 k297_0 q297_0 := e_iload_iload_n 0 0 0 0 rfl (e_psh_sipush 1 1023 1023 (e_iand 4 0 (e_psh_ldc 5 56320 76 (e_iadd 7 0 (e_i2c 8 0  (e_ireturn 9 0 ))))))
def kt_297 : Nat → Option ex_C := fun pc => @Bool.rec (fun _ => Option ex_C) none (some k297_0) (Nat.beq pc 0)
theorem ktE_297 : ex_CTT 2 [] cd_297 kt_297 cd_297 := (ex_ct1 kE297_0)
set_option maxHeartbeats 100000 in
def k298_18 : ex_C := c_iload 2 (c_ireturn  0)
set_option maxHeartbeats 100000 in
theorem kE298_18 : ex_CE 0 [] cd_298 k298_18 q298_18 := e_iload_iload_n 18 0 2 2 rfl (e_ireturn 19 0 )
set_option maxHeartbeats 100000 in
def k298_0 : ex_C := c_iload 0 (c_iload 1 (c_irem   (c_istore 2 (c_iload 0 (c_iload 1 (c_ixor   (c_if_ge 18 (c_iload 2 (c_if_eq 18 (c_iload 2 (c_iload 1 (c_iadd (c_ireturn  0)))))))))))))
set_option maxHeartbeats 100000 in
theorem kE298_0 : ex_CE 0 [] cd_298 k298_0 q298_0 := e_iload_iload_n 0 0 0 0 rfl (e_iload_iload_n 1 0 1 1 rfl (e_irem 2 0  (e_istore_istore_n 3 0 2 2 rfl (e_iload_iload_n 4 0 0 0 rfl (e_iload_iload_n 5 0 1 1 rfl (e_ixor 6 0  (e_if_ge 7 18 11 (e_iload_iload_n 10 0 2 2 rfl (e_if_eq 11 18 7 (e_iload_iload_n 14 0 2 2 rfl (e_iload_iload_n 15 0 1 1 rfl (e_iadd 16 0 (e_ireturn 17 0 )))))))))))))
def kt_298 : Nat → Option ex_C := fun pc => @Bool.rec (fun _ => Nat → Option ex_C) (fun pc => @Bool.rec (fun _ => Option ex_C) none (some k298_18) (Nat.beq pc 18)) (fun pc => @Bool.rec (fun _ => Option ex_C) none (some k298_0) (Nat.beq pc 0)) (Nat.ble pc 0) pc
theorem ktE_298 : ex_CTT 0 [] cd_298 kt_298 cd_298 := (ex_ct2 (ex_ct1 kE298_0) (ex_ct1 kE298_18))
set_option maxHeartbeats 100000 in
def k299_10 : ex_C := c_ireturn  0
set_option maxHeartbeats 100000 in
theorem kE299_10 : ex_CE 0 [] cd_299 k299_10 q299_10 := e_ireturn 10 0 
set_option maxHeartbeats 100000 in
def k299_9 : ex_C := c_iload 0 (k299_10)
set_option maxHeartbeats 100000 in
theorem kE299_9 : ex_CE 0 [] cd_299 k299_9 q299_9 := e_iload_iload_n 9 0 0 0 rfl (kE299_10)
set_option maxHeartbeats 100000 in
def k299_0 : ex_C := c_iload 0 (c_if_ge 9 (c_iload 0 (c_ineg   (c_goto 10))))
set_option maxHeartbeats 100000 in
theorem kE299_0 : ex_CE 0 [] cd_299 k299_0 q299_0 := e_iload_iload_n 0 0 0 0 rfl (e_if_ge 1 9 8 (e_iload_iload_n 4 0 0 0 rfl (e_ineg 5 0  (e_goto 6 10 4))))
def kt_299 : Nat → Option ex_C := fun pc => @Bool.rec (fun _ => Nat → Option ex_C) (fun pc => @Bool.rec (fun _ => Nat → Option ex_C) (fun pc => @Bool.rec (fun _ => Option ex_C) none (some k299_10) (Nat.beq pc 10)) (fun pc => @Bool.rec (fun _ => Option ex_C) none (some k299_9) (Nat.beq pc 9)) (Nat.ble pc 9) pc) (fun pc => @Bool.rec (fun _ => Option ex_C) none (some k299_0) (Nat.beq pc 0)) (Nat.ble pc 0) pc
theorem ktE_299 : ex_CTT 0 [] cd_299 kt_299 cd_299 := (ex_ct2 (ex_ct1 kE299_0) (ex_ct2 (ex_ct1 kE299_9) (ex_ct1 kE299_10)))
set_option maxHeartbeats 100000 in
def k300_12 : ex_C := c_lreturn  3
set_option maxHeartbeats 100000 in
theorem kE300_12 : ex_CE 3 [] cd_300 k300_12 q300_12 := e_lreturn 12 0 
set_option maxHeartbeats 100000 in
def k300_11 : ex_C := c_lload 0 (k300_12)
set_option maxHeartbeats 100000 in
theorem kE300_11 : ex_CE 3 [] cd_300 k300_11 q300_11 := e_lload_lload_n 11 0 0 0 rfl (kE300_12)
set_option maxHeartbeats 100000 in
def k300_0 : ex_C := c_lload 0 (c_psh 412316860416 (c_lcmp   (c_if_ge 11 (c_lload 0 (c_none)))))
set_option maxHeartbeats 100000 in
theorem kE300_0 : ex_CE 3 [] cd_300 k300_0 q300_0 := e_lload_lload_n 0 0 0 0 rfl (e_psh_lconst 1 412316860416 0 (e_lcmp 2 0  (e_if_ge 3 11 8 (e_lload_lload_n 6 0 0 0 rfl (e_bad)))))
def kt_300 : Nat → Option ex_C := fun pc => @Bool.rec (fun _ => Nat → Option ex_C) (fun pc => @Bool.rec (fun _ => Nat → Option ex_C) (fun pc => @Bool.rec (fun _ => Option ex_C) none (some k300_12) (Nat.beq pc 12)) (fun pc => @Bool.rec (fun _ => Option ex_C) none (some k300_11) (Nat.beq pc 11)) (Nat.ble pc 11) pc) (fun pc => @Bool.rec (fun _ => Option ex_C) none (some k300_0) (Nat.beq pc 0)) (Nat.ble pc 0) pc
theorem ktE_300 : ex_CTT 3 [] cd_300 kt_300 cd_300 := (ex_ct2 (ex_ct1 kE300_0) (ex_ct2 (ex_ct1 kE300_11) (ex_ct1 kE300_12)))
set_option maxHeartbeats 100000 in
def k301_10 : ex_C := c_ireturn  0
set_option maxHeartbeats 100000 in
theorem kE301_10 : ex_CE 0 [] cd_301 k301_10 q301_10 := e_ireturn 10 0 
set_option maxHeartbeats 100000 in
def k301_9 : ex_C := c_iload 1 (k301_10)
set_option maxHeartbeats 100000 in
theorem kE301_9 : ex_CE 0 [] cd_301 k301_9 q301_9 := e_iload_iload_n 9 0 1 1 rfl (kE301_10)
set_option maxHeartbeats 100000 in
def k301_0 : ex_C := c_iload 0 (c_iload 1 (c_icmp_lt 9 (c_iload 0 (c_goto 10))))
set_option maxHeartbeats 100000 in
theorem kE301_0 : ex_CE 0 [] cd_301 k301_0 q301_0 := e_iload_iload_n 0 0 0 0 rfl (e_iload_iload_n 1 0 1 1 rfl (e_icmp_lt 2 9 7 (e_iload_iload_n 5 0 0 0 rfl (e_goto 6 10 4))))
def kt_301 : Nat → Option ex_C := fun pc => @Bool.rec (fun _ => Nat → Option ex_C) (fun pc => @Bool.rec (fun _ => Nat → Option ex_C) (fun pc => @Bool.rec (fun _ => Option ex_C) none (some k301_10) (Nat.beq pc 10)) (fun pc => @Bool.rec (fun _ => Option ex_C) none (some k301_9) (Nat.beq pc 9)) (Nat.ble pc 9) pc) (fun pc => @Bool.rec (fun _ => Option ex_C) none (some k301_0) (Nat.beq pc 0)) (Nat.ble pc 0) pc
theorem ktE_301 : ex_CTT 0 [] cd_301 kt_301 cd_301 := (ex_ct2 (ex_ct1 kE301_0) (ex_ct2 (ex_ct1 kE301_9) (ex_ct1 kE301_10)))
set_option maxHeartbeats 100000 in
def k302_10 : ex_C := c_ireturn  0
set_option maxHeartbeats 100000 in
theorem kE302_10 : ex_CE 0 [] cd_302 k302_10 q302_10 := e_ireturn 10 0 
set_option maxHeartbeats 100000 in
def k302_9 : ex_C := c_iload 1 (k302_10)
set_option maxHeartbeats 100000 in
theorem kE302_9 : ex_CE 0 [] cd_302 k302_9 q302_9 := e_iload_iload_n 9 0 1 1 rfl (kE302_10)
set_option maxHeartbeats 100000 in
def k302_0 : ex_C := c_iload 0 (c_iload 1 (c_icmp_gt 9 (c_iload 0 (c_goto 10))))
set_option maxHeartbeats 100000 in
theorem kE302_0 : ex_CE 0 [] cd_302 k302_0 q302_0 := e_iload_iload_n 0 0 0 0 rfl (e_iload_iload_n 1 0 1 1 rfl (e_icmp_gt 2 9 7 (e_iload_iload_n 5 0 0 0 rfl (e_goto 6 10 4))))
def kt_302 : Nat → Option ex_C := fun pc => @Bool.rec (fun _ => Nat → Option ex_C) (fun pc => @Bool.rec (fun _ => Nat → Option ex_C) (fun pc => @Bool.rec (fun _ => Option ex_C) none (some k302_10) (Nat.beq pc 10)) (fun pc => @Bool.rec (fun _ => Option ex_C) none (some k302_9) (Nat.beq pc 9)) (Nat.ble pc 9) pc) (fun pc => @Bool.rec (fun _ => Option ex_C) none (some k302_0) (Nat.beq pc 0)) (Nat.ble pc 0) pc
theorem ktE_302 : ex_CTT 0 [] cd_302 kt_302 cd_302 := (ex_ct2 (ex_ct1 kE302_0) (ex_ct2 (ex_ct1 kE302_9) (ex_ct1 kE302_10)))
set_option maxHeartbeats 100000 in
def k303_0 : ex_C := c_aload 0 (c_gf 18 0 (c_arraylength   (c_aload 0 (c_invV [] cd_303 6 1 307 18 (c_ishr   (c_ireturn  0))))))
set_option maxHeartbeats 100000 in
theorem kE303_0 : ex_CE 0 [] cd_303 k303_0 q303_0 := e_aload_aload_n 0 0 0 0 rfl (e_gf 1 87168 9 18 0 rfl rfl (e_arraylength 4 0  (e_aload_aload_n 5 0 0 0 rfl (e_invV_invokevirtual 6 2646593 335 1 307 18 rfl rfl rfl rfl rfl rfl (e_ishr 9 0  (e_ireturn 10 0 ))))))
def kt_303 : Nat → Option ex_C := fun pc => @Bool.rec (fun _ => Option ex_C) none (some k303_0) (Nat.beq pc 0)
theorem ktE_303 : ex_CTT 0 [] cd_303 kt_303 cd_303 := (ex_ct1 kE303_0)
set_option maxHeartbeats 100000 in
def k304_16 : ex_C := c_aload 0 (c_gf 18 0 (c_iload 1 (c_invS [] cd_304 21 2 321 (c_ireturn  2))))
set_option maxHeartbeats 100000 in
theorem kE304_16 : ex_CE 2 [] cd_304 k304_16 q304_16 := e_aload_aload_n 16 0 0 0 rfl (e_gf 17 87168 9 18 0 rfl rfl (e_iload_iload_n 20 0 1 1 rfl (e_invS 21 2768866 498 2 321 rfl rfl rfl (e_ireturn 24 0 ))))
set_option maxHeartbeats 100000 in
def k304_0 : ex_C := c_aload 0 (c_invV [] cd_304 1 1 308 18 (c_if_eq 16 (c_aload 0 (c_gf 18 0 (c_iload 1 (c_invS [] cd_304 12 2 311 (c_ireturn  2)))))))
set_option maxHeartbeats 100000 in
theorem kE304_0 : ex_CE 2 [] cd_304 k304_0 q304_0 := e_aload_aload_n 0 0 0 0 rfl (e_invV_invokevirtual 1 2654785 492 1 308 18 rfl rfl rfl rfl rfl rfl (e_if_eq 4 16 12 (e_aload_aload_n 7 0 0 0 rfl (e_gf 8 87168 9 18 0 rfl rfl (e_iload_iload_n 11 0 1 1 rfl (e_invS 12 2686946 495 2 311 rfl rfl rfl (e_ireturn 15 0 )))))))
def kt_304 : Nat → Option ex_C := fun pc => @Bool.rec (fun _ => Nat → Option ex_C) (fun pc => @Bool.rec (fun _ => Option ex_C) none (some k304_16) (Nat.beq pc 16)) (fun pc => @Bool.rec (fun _ => Option ex_C) none (some k304_0) (Nat.beq pc 0)) (Nat.ble pc 0) pc
theorem ktE_304 : ex_CTT 2 [] cd_304 kt_304 cd_304 := (ex_ct2 (ex_ct1 kE304_0) (ex_ct1 kE304_16))
set_option maxHeartbeats 100000 in
def k305_0 : ex_C := c_aload 0 (c_iload 1 (c_psh 0 (c_invV [] cd_305 3 3 306 18 (c_ireturn  0))))
set_option maxHeartbeats 100000 in
theorem kE305_0 : ex_CE 0 [] cd_305 k305_0 q305_0 := e_aload_aload_n 0 0 0 0 rfl (e_iload_iload_n 1 0 1 1 rfl (e_psh_iconst 2 0 0 (e_invV_invokevirtual 3 2638403 633 3 306 18 rfl rfl rfl rfl rfl rfl (e_ireturn 6 0 ))))
def kt_305 : Nat → Option ex_C := fun pc => @Bool.rec (fun _ => Option ex_C) none (some k305_0) (Nat.beq pc 0)
theorem ktE_305 : ex_CTT 0 [] cd_305 kt_305 cd_305 := (ex_ct1 kE305_0)
set_option maxHeartbeats 100000 in
def k306_36 : ex_C := c_ireturn  0
set_option maxHeartbeats 100000 in
theorem kE306_36 : ex_CE 0 [] cd_306 k306_36 q306_36 := e_ireturn 36 0 
set_option maxHeartbeats 100000 in
def k306_23 : ex_C := c_aload 0 (c_gf 18 0 (c_iload 1 (c_iload 2 (c_aload 0 (c_invV [] cd_306 30 1 303 18 (c_invS [] cd_306 33 4 317 (k306_36)))))))
set_option maxHeartbeats 100000 in
theorem kE306_23 : ex_CE 0 [] cd_306 k306_23 q306_23 := e_aload_aload_n 23 0 0 0 rfl (e_gf 24 87168 9 18 0 rfl rfl (e_iload_iload_n 27 0 1 1 rfl (e_iload_iload_n 28 0 2 2 rfl (e_aload_aload_n 29 0 0 0 rfl (e_invV_invokevirtual 30 2613825 505 1 303 18 rfl rfl rfl rfl rfl rfl (e_invS 33 2736100 640 4 317 rfl rfl rfl (kE306_36)))))))
set_option maxHeartbeats 100000 in
def k306_0 : ex_C := c_aload 0 (c_invV [] cd_306 1 1 308 18 (c_if_eq 23 (c_aload 0 (c_gf 18 0 (c_iload 1 (c_iload 2 (c_aload 0 (c_invV [] cd_306 14 1 303 18 (c_invS [] cd_306 17 4 313 (c_goto 36))))))))))
set_option maxHeartbeats 100000 in
theorem kE306_0 : ex_CE 0 [] cd_306 k306_0 q306_0 := e_aload_aload_n 0 0 0 0 rfl (e_invV_invokevirtual 1 2654785 492 1 308 18 rfl rfl rfl rfl rfl rfl (e_if_eq 4 23 19 (e_aload_aload_n 7 0 0 0 rfl (e_gf 8 87168 9 18 0 rfl rfl (e_iload_iload_n 11 0 1 1 rfl (e_iload_iload_n 12 0 2 2 rfl (e_aload_aload_n 13 0 0 0 rfl (e_invV_invokevirtual 14 2613825 505 1 303 18 rfl rfl rfl rfl rfl rfl (e_invS 17 2703332 637 4 313 rfl rfl rfl (e_goto 20 36 16))))))))))
def kt_306 : Nat → Option ex_C := fun pc => @Bool.rec (fun _ => Nat → Option ex_C) (fun pc => @Bool.rec (fun _ => Nat → Option ex_C) (fun pc => @Bool.rec (fun _ => Option ex_C) none (some k306_36) (Nat.beq pc 36)) (fun pc => @Bool.rec (fun _ => Option ex_C) none (some k306_23) (Nat.beq pc 23)) (Nat.ble pc 23) pc) (fun pc => @Bool.rec (fun _ => Option ex_C) none (some k306_0) (Nat.beq pc 0)) (Nat.ble pc 0) pc
theorem ktE_306 : ex_CTT 0 [] cd_306 kt_306 cd_306 := (ex_ct2 (ex_ct1 kE306_0) (ex_ct2 (ex_ct1 kE306_23) (ex_ct1 kE306_36)))
set_option maxHeartbeats 100000 in
def k307_14 : ex_C := c_ireturn  4
set_option maxHeartbeats 100000 in
theorem kE307_14 : ex_CE 4 [] cd_307 k307_14 q307_14 := e_ireturn 14 0 
set_option maxHeartbeats 100000 in
def k307_13 : ex_C := c_psh 1 (k307_14)
set_option maxHeartbeats 100000 in
theorem kE307_13 : ex_CE 4 [] cd_307 k307_13 q307_13 := e_psh_iconst 13 1 1 (kE307_14)
set_option maxHeartbeats 100000 in
def k307_0 : ex_C := c_psh 1 (c_if_eq 13 (c_aload 0 (c_gf 18 1 (c_goto 14))))
set_option maxHeartbeats 100000 in
theorem kE307_0 : ex_CE 4 [] cd_307 k307_0 q307_0 := e_psh_getstatic 0 1 38 (e_if_eq 3 13 10 (e_aload_aload_n 6 0 0 0 rfl (e_gf 7 83073 15 18 1 rfl rfl (e_goto 10 14 4))))
def kt_307 : Nat → Option ex_C := fun pc => @Bool.rec (fun _ => Nat → Option ex_C) (fun pc => @Bool.rec (fun _ => Nat → Option ex_C) (fun pc => @Bool.rec (fun _ => Option ex_C) none (some k307_14) (Nat.beq pc 14)) (fun pc => @Bool.rec (fun _ => Option ex_C) none (some k307_13) (Nat.beq pc 13)) (Nat.ble pc 13) pc) (fun pc => @Bool.rec (fun _ => Option ex_C) none (some k307_0) (Nat.beq pc 0)) (Nat.ble pc 0) pc
theorem ktE_307 : ex_CTT 4 [] cd_307 kt_307 cd_307 := (ex_ct2 (ex_ct1 kE307_0) (ex_ct2 (ex_ct1 kE307_13) (ex_ct1 kE307_14)))
set_option maxHeartbeats 100000 in
def k308_18 : ex_C := c_ireturn  1
set_option maxHeartbeats 100000 in
theorem kE308_18 : ex_CE 1 [] cd_308 k308_18 q308_18 := e_ireturn 18 0 
set_option maxHeartbeats 100000 in
def k308_17 : ex_C := c_psh 0 (k308_18)
set_option maxHeartbeats 100000 in
theorem kE308_17 : ex_CE 1 [] cd_308 k308_17 q308_17 := e_psh_iconst 17 0 0 (kE308_18)
set_option maxHeartbeats 100000 in
def k308_0 : ex_C := c_psh 1 (c_if_eq 17 (c_aload 0 (c_gf 18 1 (c_if_ne 17 (c_psh 1 (c_goto 18))))))
set_option maxHeartbeats 100000 in
theorem kE308_0 : ex_CE 1 [] cd_308 k308_0 q308_0 := e_psh_getstatic 0 1 38 (e_if_eq 3 17 14 (e_aload_aload_n 6 0 0 0 rfl (e_gf 7 83073 15 18 1 rfl rfl (e_if_ne 10 17 7 (e_psh_iconst 13 1 1 (e_goto 14 18 4))))))
def kt_308 : Nat → Option ex_C := fun pc => @Bool.rec (fun _ => Nat → Option ex_C) (fun pc => @Bool.rec (fun _ => Nat → Option ex_C) (fun pc => @Bool.rec (fun _ => Option ex_C) none (some k308_18) (Nat.beq pc 18)) (fun pc => @Bool.rec (fun _ => Option ex_C) none (some k308_17) (Nat.beq pc 17)) (Nat.ble pc 17) pc) (fun pc => @Bool.rec (fun _ => Option ex_C) none (some k308_0) (Nat.beq pc 0)) (Nat.ble pc 0) pc
theorem ktE_308 : ex_CTT 1 [] cd_308 kt_308 cd_308 := (ex_ct2 (ex_ct1 kE308_0) (ex_ct2 (ex_ct1 kE308_17) (ex_ct1 kE308_18)))
set_option maxHeartbeats 100000 in
def k309_0 : ex_C := c_iload 0 (c_iload 1 (c_psh 17179869225 (c_invS [] cd_309 5 3 350 (c_pop   (c_return_  15)))))
set_option maxHeartbeats 100000 in
theorem kE309_0 : ex_CE 15 [] cd_309 k309_0 q309_0 := e_iload_iload_n 0 0 0 0 rfl (e_iload_iload_n 1 0 1 1 rfl (e_psh_getstatic 2 17179869225 1053 (e_invS 5 3006435 1059 3 350 rfl rfl rfl (e_pop 8 0  (e_return_ 9 0 )))))
def kt_309 : Nat → Option ex_C := fun pc => @Bool.rec (fun _ => Option ex_C) none (some k309_0) (Nat.beq pc 0)
theorem ktE_309 : ex_CTT 15 [] cd_309 kt_309 cd_309 := (ex_ct1 kE309_0)
set_option maxHeartbeats 100000 in
def k310_0 : ex_C := c_iload 0 (c_iload 1 (c_iload 2 (c_psh 17179869225 (c_invS [] cd_310 6 4 351 (c_pop   (c_return_  15))))))
set_option maxHeartbeats 100000 in
theorem kE310_0 : ex_CE 15 [] cd_310 k310_0 q310_0 := e_iload_iload_n 0 0 0 0 rfl (e_iload_iload_n 1 0 1 1 rfl (e_iload_iload_n 2 0 2 2 rfl (e_psh_getstatic 3 17179869225 1053 (e_invS 6 3014628 1062 4 351 rfl rfl rfl (e_pop 9 0  (e_return_ 10 0 ))))))
def kt_310 : Nat → Option ex_C := fun pc => @Bool.rec (fun _ => Option ex_C) none (some k310_0) (Nat.beq pc 0)
theorem ktE_310 : ex_CTT 15 [] cd_310 kt_310 cd_310 := (ex_ct1 kE310_0)
set_option maxHeartbeats 100000 in
def k311_0 : ex_C := c_iload 1 (c_aload 0 (c_arraylength   (c_invS [] cd_311 3 2 309 (c_aload 0 (c_iload 1 (c_baload (c_psh 255 (c_iand (c_i2c   (c_ireturn  2))))))))))
set_option maxHeartbeats 100000 in
theorem kE311_0 : ex_CE 2 [] cd_311 k311_0 q311_0 := e_iload_iload_n 0 0 1 1 rfl (e_aload_aload_n 1 0 0 0 rfl (e_arraylength 2 0  (e_invS 3 2670562 9 2 309 rfl rfl rfl (e_aload_aload_n 6 0 0 0 rfl (e_iload_iload_n 7 0 1 1 rfl (e_baload 8 0 (e_psh_sipush 9 255 255 (e_iand 12 0 (e_i2c 13 0  (e_ireturn 14 0 ))))))))))
def kt_311 : Nat → Option ex_C := fun pc => @Bool.rec (fun _ => Option ex_C) none (some k311_0) (Nat.beq pc 0)
theorem ktE_311 : ex_CTT 2 [] cd_311 kt_311 cd_311 := (ex_ct1 kE311_0)
set_option maxHeartbeats 100000 in
def k312_16 : ex_C := c_ireturn  1
set_option maxHeartbeats 100000 in
theorem kE312_16 : ex_CE 1 [] cd_312 k312_16 q312_16 := e_ireturn 16 0 
set_option maxHeartbeats 100000 in
def k312_15 : ex_C := c_psh 0 (k312_16)
set_option maxHeartbeats 100000 in
theorem kE312_15 : ex_CE 1 [] cd_312 k312_15 q312_15 := e_psh_iconst 15 0 0 (kE312_16)
set_option maxHeartbeats 100000 in
def k312_0 : ex_C := c_iload 0 (c_if_lt 15 (c_iload 0 (c_psh 255 (c_icmp_gt 15 (c_psh 1 (c_goto 16))))))
set_option maxHeartbeats 100000 in
theorem kE312_0 : ex_CE 1 [] cd_312 k312_0 q312_0 := e_iload_iload_n 0 0 0 0 rfl (e_if_lt 1 15 14 (e_iload_iload_n 4 0 0 0 rfl (e_psh_sipush 5 255 255 (e_icmp_gt 8 15 7 (e_psh_iconst 11 1 1 (e_goto 12 16 4))))))
def kt_312 : Nat → Option ex_C := fun pc => @Bool.rec (fun _ => Nat → Option ex_C) (fun pc => @Bool.rec (fun _ => Nat → Option ex_C) (fun pc => @Bool.rec (fun _ => Option ex_C) none (some k312_16) (Nat.beq pc 16)) (fun pc => @Bool.rec (fun _ => Option ex_C) none (some k312_15) (Nat.beq pc 15)) (Nat.ble pc 15) pc) (fun pc => @Bool.rec (fun _ => Option ex_C) none (some k312_0) (Nat.beq pc 0)) (Nat.ble pc 0) pc
theorem ktE_312 : ex_CTT 1 [] cd_312 kt_312 cd_312 := (ex_ct2 (ex_ct1 kE312_0) (ex_ct2 (ex_ct1 kE312_15) (ex_ct1 kE312_16)))
set_option maxHeartbeats 100000 in
def k313_29 : ex_C := c_aload 0 (c_iload 1 (c_iload 2 (c_iload 3 (c_invS [] cd_313 33 4 314 (c_ireturn  0)))))
set_option maxHeartbeats 100000 in
theorem kE313_29 : ex_CE 0 [] cd_313 k313_29 q313_29 := e_aload_aload_n 29 0 0 0 rfl (e_iload_iload_n 30 0 1 1 rfl (e_iload_iload_n 31 0 2 2 rfl (e_iload_iload_n 32 0 3 3 rfl (e_invS 33 2711524 95 4 314 rfl rfl rfl (e_ireturn 36 0 )))))
set_option maxHeartbeats 100000 in
def k313_9 : ex_C := c_iload 2 (c_psh 0 (c_invS [] cd_313 11 2 301 (c_istore 2 (c_iload 3 (c_aload 0 (c_arraylength   (c_invS [] cd_313 18 2 302 (c_istore 3 (c_iload 2 (c_iload 3 (c_icmp_lt 29 (c_psh 4294967295 (c_ireturn  0)))))))))))))
set_option maxHeartbeats 100000 in
theorem kE313_9 : ex_CE 0 [] cd_313 k313_9 q313_9 := e_iload_iload_n 9 0 2 2 rfl (e_psh_iconst 10 0 0 (e_invS 11 2605026 92 2 301 rfl rfl rfl (e_istore_istore_n 14 0 2 2 rfl (e_iload_iload_n 15 0 3 3 rfl (e_aload_aload_n 16 0 0 0 rfl (e_arraylength 17 0  (e_invS 18 2613218 38 2 302 rfl rfl rfl (e_istore_istore_n 21 0 3 3 rfl (e_iload_iload_n 22 0 2 2 rfl (e_iload_iload_n 23 0 3 3 rfl (e_icmp_lt 24 29 5 (e_psh_iconst 27 4294967295 (-1) (e_ireturn 28 0 )))))))))))))
set_option maxHeartbeats 100000 in
def k313_0 : ex_C := c_iload 1 (c_invS [] cd_313 1 1 312 (c_if_ne 9 (c_psh 4294967295 (c_ireturn  0))))
set_option maxHeartbeats 100000 in
theorem kE313_0 : ex_CE 0 [] cd_313 k313_0 q313_0 := e_iload_iload_n 0 0 1 1 rfl (e_invS 1 2695137 88 1 312 rfl rfl rfl (e_if_ne 4 9 5 (e_psh_iconst 7 4294967295 (-1) (e_ireturn 8 0 ))))
def kt_313 : Nat → Option ex_C := fun pc => @Bool.rec (fun _ => Nat → Option ex_C) (fun pc => @Bool.rec (fun _ => Nat → Option ex_C) (fun pc => @Bool.rec (fun _ => Option ex_C) none (some k313_29) (Nat.beq pc 29)) (fun pc => @Bool.rec (fun _ => Option ex_C) none (some k313_9) (Nat.beq pc 9)) (Nat.ble pc 9) pc) (fun pc => @Bool.rec (fun _ => Option ex_C) none (some k313_0) (Nat.beq pc 0)) (Nat.ble pc 0) pc
theorem ktE_313 : ex_CTT 0 [] cd_313 kt_313 cd_313 := (ex_ct2 (ex_ct1 kE313_0) (ex_ct2 (ex_ct1 kE313_9) (ex_ct1 kE313_29)))
set_option maxHeartbeats 100000 in
def k314_31 : ex_C := c_psh 4294967295 (c_ireturn  0)
set_option maxHeartbeats 100000 in
theorem kE314_31 : ex_CE 0 [] cd_314 k314_31 q314_31 := e_psh_iconst 31 4294967295 (-1) (e_ireturn 32 0 )
set_option maxHeartbeats 100000 in
def k314_25 : ex_C := c_iinc 5 1 (c_goto 7)
set_option maxHeartbeats 100000 in
theorem kE314_25 : ex_CE 0 [] cd_314 k314_25 q314_25 := e_iinc 25 1 5 1 (e_goto 28 7 (-21))
set_option maxHeartbeats 100000 in
def k314_7 : ex_C := c_iload 5 (c_iload 3 (c_icmp_ge 31 (c_aload 0 (c_iload 5 (c_baload (c_iload 4 (c_icmp_ne 25 (c_iload 5 (c_ireturn  0)))))))))
set_option maxHeartbeats 100000 in
theorem kE314_7 : ex_CE 0 [] cd_314 k314_7 q314_7 := e_iload_iload 7 0 5 (e_iload_iload_n 9 0 3 3 rfl (e_icmp_ge 10 31 21 (e_aload_aload_n 13 0 0 0 rfl (e_iload_iload 14 0 5 (e_baload 16 0 (e_iload_iload 17 0 4 (e_icmp_ne 19 25 6 (e_iload_iload 22 0 5 (e_ireturn 24 0 )))))))))
set_option maxHeartbeats 100000 in
def k314_0 : ex_C := c_iload 1 (c_i2b   (c_istore 4 (c_iload 2 (c_istore 5 (k314_7)))))
set_option maxHeartbeats 100000 in
theorem kE314_0 : ex_CE 0 [] cd_314 k314_0 q314_0 := e_iload_iload_n 0 0 1 1 rfl (e_i2b 1 0  (e_istore_istore 2 0 4 (e_iload_iload_n 4 0 2 2 rfl (e_istore_istore 5 0 5 (kE314_7)))))
def kt_314 : Nat → Option ex_C := fun pc => @Bool.rec (fun _ => Nat → Option ex_C) (fun pc => @Bool.rec (fun _ => Nat → Option ex_C) (fun pc => @Bool.rec (fun _ => Option ex_C) none (some k314_31) (Nat.beq pc 31)) (fun pc => @Bool.rec (fun _ => Option ex_C) none (some k314_25) (Nat.beq pc 25)) (Nat.ble pc 25) pc) (fun pc => @Bool.rec (fun _ => Nat → Option ex_C) (fun pc => @Bool.rec (fun _ => Option ex_C) none (some k314_7) (Nat.beq pc 7)) (fun pc => @Bool.rec (fun _ => Option ex_C) none (some k314_0) (Nat.beq pc 0)) (Nat.ble pc 0) pc) (Nat.ble pc 7) pc
theorem ktE_314 : ex_CTT 0 [] cd_314 kt_314 cd_314 := (ex_ct2 (ex_ct2 (ex_ct1 kE314_0) (ex_ct1 kE314_7)) (ex_ct2 (ex_ct1 kE314_25) (ex_ct1 kE314_31)))
set_option maxHeartbeats 100000 in
def k315_28 : ex_C := c_iload 1 (c_psh 1 (c_ishl   (c_istore 1 (c_aload 0 (c_iload 1 (c_iinc 1 1 (c_baload (c_psh 255 (c_iand (c_psh 0 (c_ishl   (c_aload 0 (c_iload 1 (c_baload (c_psh 255 (c_iand (c_psh 8 (c_ishl   (c_ior   (c_i2c   (c_ireturn  2)))))))))))))))))))))
set_option maxHeartbeats 100000 in
theorem kE315_28 : ex_CE 2 [] cd_315 k315_28 q315_28 := e_iload_iload_n 28 0 1 1 rfl (e_psh_iconst 29 1 1 (e_ishl 30 0  (e_istore_istore_n 31 0 1 1 rfl (e_aload_aload_n 32 0 0 0 rfl (e_iload_iload_n 33 0 1 1 rfl (e_iinc 34 1 1 1 (e_baload 37 0 (e_psh_sipush 38 255 255 (e_iand 41 0 (e_psh_getstatic 42 0 59 (e_ishl 45 0  (e_aload_aload_n 46 0 0 0 rfl (e_iload_iload_n 47 0 1 1 rfl (e_baload 48 0 (e_psh_sipush 49 255 255 (e_iand 52 0 (e_psh_getstatic 53 8 63 (e_ishl 56 0  (e_ior 57 0  (e_i2c 58 0  (e_ireturn 59 0 )))))))))))))))))))))
set_option maxHeartbeats 100000 in
def k315_18 : ex_C := c_none
set_option maxHeartbeats 100000 in
theorem kE315_18 : ex_CE 2 [] cd_315 k315_18 q315_18 := e_bad
set_option maxHeartbeats 100000 in
def k315_0 : ex_C := c_psh 1 (c_if_ne 28 (c_iload 1 (c_if_lt 18 (c_iload 1 (c_aload 0 (c_invS [] cd_315 12 1 316 (c_icmp_lt 28 (k315_18))))))))
set_option maxHeartbeats 100000 in
theorem kE315_0 : ex_CE 2 [] cd_315 k315_0 q315_0 := e_psh_getstatic 0 1 44 (e_if_ne 3 28 25 (e_iload_iload_n 6 0 1 1 rfl (e_if_lt 7 18 11 (e_iload_iload_n 10 0 1 1 rfl (e_aload_aload_n 11 0 0 0 rfl (e_invS 12 2727905 48 1 316 rfl rfl rfl (e_icmp_lt 15 28 13 (kE315_18))))))))
def kt_315 : Nat → Option ex_C := fun pc => @Bool.rec (fun _ => Nat → Option ex_C) (fun pc => @Bool.rec (fun _ => Nat → Option ex_C) (fun pc => @Bool.rec (fun _ => Option ex_C) none (some k315_28) (Nat.beq pc 28)) (fun pc => @Bool.rec (fun _ => Option ex_C) none (some k315_18) (Nat.beq pc 18)) (Nat.ble pc 18) pc) (fun pc => @Bool.rec (fun _ => Option ex_C) none (some k315_0) (Nat.beq pc 0)) (Nat.ble pc 0) pc
theorem ktE_315 : ex_CTT 2 [] cd_315 kt_315 cd_315 := (ex_ct2 (ex_ct1 kE315_0) (ex_ct2 (ex_ct1 kE315_18) (ex_ct1 kE315_28)))
set_option maxHeartbeats 100000 in
def k316_0 : ex_C := c_aload 0 (c_arraylength   (c_psh 1 (c_ishr   (c_ireturn  0))))
set_option maxHeartbeats 100000 in
theorem kE316_0 : ex_CE 0 [] cd_316 k316_0 q316_0 := e_aload_aload_n 0 0 0 0 rfl (e_arraylength 1 0  (e_psh_iconst 2 1 1 (e_ishr 3 0  (e_ireturn 4 0 ))))
def kt_316 : Nat → Option ex_C := fun pc => @Bool.rec (fun _ => Option ex_C) none (some k316_0) (Nat.beq pc 0)
theorem ktE_316 : ex_CTT 0 [] cd_316 kt_316 cd_316 := (ex_ct1 kE316_0)
set_option maxHeartbeats 100000 in
def k317_36 : ex_C := c_aload 0 (c_iload 1 (c_iload 2 (c_iload 3 (c_invS [] cd_317 40 4 320 (c_ireturn  0)))))
set_option maxHeartbeats 100000 in
theorem kE317_36 : ex_CE 0 [] cd_317 k317_36 q317_36 := e_aload_aload_n 36 0 0 0 rfl (e_iload_iload_n 37 0 1 1 rfl (e_iload_iload_n 38 0 2 2 rfl (e_iload_iload_n 39 0 3 3 rfl (e_invS 40 2760676 232 4 320 rfl rfl rfl (e_ireturn 43 0 )))))
set_option maxHeartbeats 100000 in
def k317_22 : ex_C := c_iload 1 (c_psh 65536 (c_icmp_ge 36 (c_aload 0 (c_iload 1 (c_iload 2 (c_iload 3 (c_invS [] cd_317 32 4 318 (c_ireturn  0))))))))
set_option maxHeartbeats 100000 in
theorem kE317_22 : ex_CE 0 [] cd_317 k317_22 q317_22 := e_iload_iload_n 22 0 1 1 rfl (e_psh_ldc 23 65536 227 (e_icmp_ge 25 36 11 (e_aload_aload_n 28 0 0 0 rfl (e_iload_iload_n 29 0 1 1 rfl (e_iload_iload_n 30 0 2 2 rfl (e_iload_iload_n 31 0 3 3 rfl (e_invS 32 2744292 228 4 318 rfl rfl rfl (e_ireturn 35 0 ))))))))
set_option maxHeartbeats 100000 in
def k317_0 : ex_C := c_iload 2 (c_psh 0 (c_invS [] cd_317 2 2 301 (c_istore 2 (c_iload 3 (c_aload 0 (c_arraylength   (c_psh 1 (c_ishr   (c_invS [] cd_317 11 2 302 (c_istore 3 (c_iload 2 (c_iload 3 (c_icmp_lt 22 (c_psh 4294967295 (c_ireturn  0)))))))))))))))
set_option maxHeartbeats 100000 in
theorem kE317_0 : ex_CE 0 [] cd_317 k317_0 q317_0 := e_iload_iload_n 0 0 2 2 rfl (e_psh_iconst 1 0 0 (e_invS 2 2605026 224 2 301 rfl rfl rfl (e_istore_istore_n 5 0 2 2 rfl (e_iload_iload_n 6 0 3 3 rfl (e_aload_aload_n 7 0 0 0 rfl (e_arraylength 8 0  (e_psh_iconst 9 1 1 (e_ishr 10 0  (e_invS 11 2613218 183 2 302 rfl rfl rfl (e_istore_istore_n 14 0 3 3 rfl (e_iload_iload_n 15 0 2 2 rfl (e_iload_iload_n 16 0 3 3 rfl (e_icmp_lt 17 22 5 (e_psh_iconst 20 4294967295 (-1) (e_ireturn 21 0 )))))))))))))))
def kt_317 : Nat → Option ex_C := fun pc => @Bool.rec (fun _ => Nat → Option ex_C) (fun pc => @Bool.rec (fun _ => Nat → Option ex_C) (fun pc => @Bool.rec (fun _ => Option ex_C) none (some k317_36) (Nat.beq pc 36)) (fun pc => @Bool.rec (fun _ => Option ex_C) none (some k317_22) (Nat.beq pc 22)) (Nat.ble pc 22) pc) (fun pc => @Bool.rec (fun _ => Option ex_C) none (some k317_0) (Nat.beq pc 0)) (Nat.ble pc 0) pc
theorem ktE_317 : ex_CTT 0 [] cd_317 kt_317 cd_317 := (ex_ct2 (ex_ct1 kE317_0) (ex_ct2 (ex_ct1 kE317_22) (ex_ct1 kE317_36)))
set_option maxHeartbeats 100000 in
def k318_0 : ex_C := c_iload 2 (c_iload 3 (c_aload 0 (c_invS [] cd_318 3 3 323 (c_aload 0 (c_iload 1 (c_iload 2 (c_iload 3 (c_invS [] cd_318 10 4 319 (c_ireturn  0)))))))))
set_option maxHeartbeats 100000 in
theorem kE318_0 : ex_CE 0 [] cd_318 k318_0 q318_0 := e_iload_iload_n 0 0 2 2 rfl (e_iload_iload_n 1 0 3 3 rfl (e_aload_aload_n 2 0 0 0 rfl (e_invS 3 2785251 96 3 323 rfl rfl rfl (e_aload_aload_n 6 0 0 0 rfl (e_iload_iload_n 7 0 1 1 rfl (e_iload_iload_n 8 0 2 2 rfl (e_iload_iload_n 9 0 3 3 rfl (e_invS 10 2752484 244 4 319 rfl rfl rfl (e_ireturn 13 0 )))))))))
def kt_318 : Nat → Option ex_C := fun pc => @Bool.rec (fun _ => Option ex_C) none (some k318_0) (Nat.beq pc 0)
theorem ktE_318 : ex_CTT 0 [] cd_318 kt_318 cd_318 := (ex_ct1 kE318_0)
set_option maxHeartbeats 100000 in
def k319_28 : ex_C := c_psh 4294967295 (c_ireturn  0)
set_option maxHeartbeats 100000 in
theorem kE319_28 : ex_CE 0 [] cd_319 k319_28 q319_28 := e_psh_iconst 28 4294967295 (-1) (e_ireturn 29 0 )
set_option maxHeartbeats 100000 in
def k319_22 : ex_C := c_iinc 4 1 (c_goto 3)
set_option maxHeartbeats 100000 in
theorem kE319_22 : ex_CE 0 [] cd_319 k319_22 q319_22 := e_iinc 22 1 4 1 (e_goto 25 3 (-22))
set_option maxHeartbeats 100000 in
def k319_3 : ex_C := c_iload 4 (c_iload 3 (c_icmp_ge 28 (c_aload 0 (c_iload 4 (c_invS [] cd_319 12 2 315 (c_iload 1 (c_icmp_ne 22 (c_iload 4 (c_ireturn  0)))))))))
set_option maxHeartbeats 100000 in
theorem kE319_3 : ex_CE 0 [] cd_319 k319_3 q319_3 := e_iload_iload 3 0 4 (e_iload_iload_n 5 0 3 3 rfl (e_icmp_ge 6 28 22 (e_aload_aload_n 9 0 0 0 rfl (e_iload_iload 10 0 4 (e_invS 12 2719714 71 2 315 rfl rfl rfl (e_iload_iload_n 15 0 1 1 rfl (e_icmp_ne 16 22 6 (e_iload_iload 19 0 4 (e_ireturn 21 0 )))))))))
set_option maxHeartbeats 100000 in
def k319_0 : ex_C := c_iload 2 (c_istore 4 (k319_3))
set_option maxHeartbeats 100000 in
theorem kE319_0 : ex_CE 0 [] cd_319 k319_0 q319_0 := e_iload_iload_n 0 0 2 2 rfl (e_istore_istore 1 0 4 (kE319_3))
def kt_319 : Nat → Option ex_C := fun pc => @Bool.rec (fun _ => Nat → Option ex_C) (fun pc => @Bool.rec (fun _ => Nat → Option ex_C) (fun pc => @Bool.rec (fun _ => Option ex_C) none (some k319_28) (Nat.beq pc 28)) (fun pc => @Bool.rec (fun _ => Option ex_C) none (some k319_22) (Nat.beq pc 22)) (Nat.ble pc 22) pc) (fun pc => @Bool.rec (fun _ => Nat → Option ex_C) (fun pc => @Bool.rec (fun _ => Option ex_C) none (some k319_3) (Nat.beq pc 3)) (fun pc => @Bool.rec (fun _ => Option ex_C) none (some k319_0) (Nat.beq pc 0)) (Nat.ble pc 0) pc) (Nat.ble pc 3) pc
theorem ktE_319 : ex_CTT 0 [] cd_319 kt_319 cd_319 := (ex_ct2 (ex_ct2 (ex_ct1 kE319_0) (ex_ct1 kE319_3)) (ex_ct2 (ex_ct1 kE319_22) (ex_ct1 kE319_28)))
set_option maxHeartbeats 100000 in
def k320_69 : ex_C := c_psh 4294967295 (c_ireturn  0)
set_option maxHeartbeats 100000 in
theorem kE320_69 : ex_CE 0 [] cd_320 k320_69 q320_69 := e_psh_iconst 69 4294967295 (-1) (e_ireturn 70 0 )
set_option maxHeartbeats 100000 in
def k320_63 : ex_C := c_iinc 6 1 (c_goto 28)
set_option maxHeartbeats 100000 in
theorem kE320_63 : ex_CE 0 [] cd_320 k320_63 q320_63 := e_iinc 63 1 6 1 (e_goto 66 28 (-38))
set_option maxHeartbeats 100000 in
def k320_28 : ex_C := c_iload 6 (c_iload 3 (c_psh 1 (c_isub (c_icmp_ge 69 (c_aload 0 (c_iload 6 (c_invS [] cd_320 39 2 315 (c_iload 4 (c_icmp_ne 63 (c_aload 0 (c_iload 6 (c_psh 1 (c_iadd (c_invS [] cd_320 52 2 315 (c_iload 5 (c_icmp_ne 63 (c_iload 6 (c_ireturn  0))))))))))))))))))
set_option maxHeartbeats 100000 in
theorem kE320_28 : ex_CE 0 [] cd_320 k320_28 q320_28 := e_iload_iload 28 0 6 (e_iload_iload_n 30 0 3 3 rfl (e_psh_iconst 31 1 1 (e_isub 32 0 (e_icmp_ge 33 69 36 (e_aload_aload_n 36 0 0 0 rfl (e_iload_iload 37 0 6 (e_invS 39 2719714 71 2 315 rfl rfl rfl (e_iload_iload 42 0 4 (e_icmp_ne 44 63 19 (e_aload_aload_n 47 0 0 0 rfl (e_iload_iload 48 0 6 (e_psh_iconst 50 1 1 (e_iadd 51 0 (e_invS 52 2719714 71 2 315 rfl rfl rfl (e_iload_iload 55 0 5 (e_icmp_ne 57 63 6 (e_iload_iload 60 0 6 (e_ireturn 62 0 ))))))))))))))))))
set_option maxHeartbeats 100000 in
def k320_0 : ex_C := c_iload 1 (c_invS [] cd_320 1 1 295 (c_if_eq 69 (c_iload 1 (c_invS [] cd_320 8 1 296 (c_istore 4 (c_iload 1 (c_invS [] cd_320 14 1 297 (c_istore 5 (c_iload 2 (c_iload 3 (c_aload 0 (c_invS [] cd_320 22 3 323 (c_iload 2 (c_istore 6 (k320_28)))))))))))))))
set_option maxHeartbeats 100000 in
theorem kE320_0 : ex_CE 0 [] cd_320 k320_0 q320_0 := e_iload_iload_n 0 0 1 1 rfl (e_invS 1 2555873 164 1 295 rfl rfl rfl (e_if_eq 4 69 65 (e_iload_iload_n 7 0 1 1 rfl (e_invS 8 2564065 157 1 296 rfl rfl rfl (e_istore_istore 11 0 4 (e_iload_iload_n 13 0 1 1 rfl (e_invS 14 2572257 161 1 297 rfl rfl rfl (e_istore_istore 17 0 5 (e_iload_iload_n 19 0 2 2 rfl (e_iload_iload_n 20 0 3 3 rfl (e_aload_aload_n 21 0 0 0 rfl (e_invS 22 2785251 96 3 323 rfl rfl rfl (e_iload_iload_n 25 0 2 2 rfl (e_istore_istore 26 0 6 (kE320_28)))))))))))))))
def kt_320 : Nat → Option ex_C := fun pc => @Bool.rec (fun _ => Nat → Option ex_C) (fun pc => @Bool.rec (fun _ => Nat → Option ex_C) (fun pc => @Bool.rec (fun _ => Option ex_C) none (some k320_69) (Nat.beq pc 69)) (fun pc => @Bool.rec (fun _ => Option ex_C) none (some k320_63) (Nat.beq pc 63)) (Nat.ble pc 63) pc) (fun pc => @Bool.rec (fun _ => Nat → Option ex_C) (fun pc => @Bool.rec (fun _ => Option ex_C) none (some k320_28) (Nat.beq pc 28)) (fun pc => @Bool.rec (fun _ => Option ex_C) none (some k320_0) (Nat.beq pc 0)) (Nat.ble pc 0) pc) (Nat.ble pc 28) pc
theorem ktE_320 : ex_CTT 0 [] cd_320 kt_320 cd_320 := (ex_ct2 (ex_ct2 (ex_ct1 kE320_0) (ex_ct1 kE320_28)) (ex_ct2 (ex_ct1 kE320_63) (ex_ct1 kE320_69)))
set_option maxHeartbeats 100000 in
def k321_0 : ex_C := c_iload 1 (c_aload 0 (c_invS [] cd_321 2 2 322 (c_aload 0 (c_iload 1 (c_invS [] cd_321 7 2 315 (c_ireturn  2))))))
set_option maxHeartbeats 100000 in
theorem kE321_0 : ex_CE 2 [] cd_321 k321_0 q321_0 := e_iload_iload_n 0 0 1 1 rfl (e_aload_aload_n 1 0 0 0 rfl (e_invS 2 2777058 67 2 322 rfl rfl rfl (e_aload_aload_n 5 0 0 0 rfl (e_iload_iload_n 6 0 1 1 rfl (e_invS 7 2719714 71 2 315 rfl rfl rfl (e_ireturn 10 0 ))))))
def kt_321 : Nat → Option ex_C := fun pc => @Bool.rec (fun _ => Option ex_C) none (some k321_0) (Nat.beq pc 0)
theorem ktE_321 : ex_CTT 2 [] cd_321 kt_321 cd_321 := (ex_ct1 kE321_0)
set_option maxHeartbeats 100000 in
def k322_0 : ex_C := c_iload 0 (c_aload 1 (c_invS [] cd_322 2 1 316 (c_invS [] cd_322 5 2 309 (c_return_  15))))
set_option maxHeartbeats 100000 in
theorem kE322_0 : ex_CE 15 [] cd_322 k322_0 q322_0 := e_iload_iload_n 0 0 0 0 rfl (e_aload_aload_n 1 0 1 1 rfl (e_invS 2 2727905 48 1 316 rfl rfl rfl (e_invS 5 2670562 414 2 309 rfl rfl rfl (e_return_ 8 0 ))))
def kt_322 : Nat → Option ex_C := fun pc => @Bool.rec (fun _ => Option ex_C) none (some k322_0) (Nat.beq pc 0)
theorem ktE_322 : ex_CTT 15 [] cd_322 kt_322 cd_322 := (ex_ct1 kE322_0)
set_option maxHeartbeats 100000 in
def k323_0 : ex_C := c_iload 0 (c_iload 1 (c_aload 2 (c_invS [] cd_323 3 1 316 (c_invS [] cd_323 6 3 310 (c_return_  15)))))
set_option maxHeartbeats 100000 in
theorem kE323_0 : ex_CE 15 [] cd_323 k323_0 q323_0 := e_iload_iload_n 0 0 0 0 rfl (e_iload_iload_n 1 0 1 1 rfl (e_aload_aload_n 2 0 2 2 rfl (e_invS 3 2727905 48 1 316 rfl rfl rfl (e_invS 6 2678755 241 3 310 rfl rfl rfl (e_return_ 9 0 )))))
def kt_323 : Nat → Option ex_C := fun pc => @Bool.rec (fun _ => Option ex_C) none (some k323_0) (Nat.beq pc 0)
theorem ktE_323 : ex_CTT 15 [] cd_323 kt_323 cd_323 := (ex_ct1 kE323_0)
set_option maxHeartbeats 100000 in
def k324_0 : ex_C := c_aload 0 (c_oinit (c_return_  15))
set_option maxHeartbeats 100000 in
theorem kE324_0 : ex_CE 15 [] cd_324 k324_0 q324_0 := e_aload_aload_n 0 0 0 0 rfl (e_oinit (e_return_ 4 0 ))
def kt_324 : Nat → Option ex_C := fun pc => @Bool.rec (fun _ => Option ex_C) none (some k324_0) (Nat.beq pc 0)
theorem ktE_324 : ex_CTT 15 [] cd_324 kt_324 cd_324 := (ex_ct1 kE324_0)
set_option maxHeartbeats 100000 in
def k325_0 : ex_C := c_aload 0 (c_invP [] cd_325 1 1 324 (c_aload 0 (c_psh 0 (c_pf 16 0 0 (c_return_  15)))))
set_option maxHeartbeats 100000 in
theorem kE325_0 : ex_CE 15 [] cd_325 k325_0 q325_0 := e_aload_aload_n 0 0 0 0 rfl (e_invP 1 2793409 1 1 324 rfl rfl rfl rfl (e_aload_aload_n 4 0 0 0 rfl (e_psh_iconst 5 0 0 (e_pf 6 1024 7 16 0 0 rfl rfl rfl (e_return_ 9 0 )))))
def kt_325 : Nat → Option ex_C := fun pc => @Bool.rec (fun _ => Option ex_C) none (some k325_0) (Nat.beq pc 0)
theorem ktE_325 : ex_CTT 15 [] cd_325 kt_325 cd_325 := (ex_ct1 kE325_0)
set_option maxHeartbeats 100000 in
def k326_0 : ex_C := c_aload 0 (c_aload 1 (c_pf 17 5 3 (c_aload 0 (c_oinit (c_aload 0 (c_psh 4294967295 (c_pf 17 0 1 (c_aload 0 (c_aload 0 (c_gf 17 3 (c_gf 16 0 (c_pf 17 0 2 (c_return_  15)))))))))))))
set_option maxHeartbeats 100000 in
theorem kE326_0 : ex_CE 15 [] cd_326 k326_0 q326_0 := e_aload_aload_n 0 0 0 0 rfl (e_aload_aload_n 1 0 1 1 rfl (e_pf 2 87107 1 17 5 3 rfl rfl rfl (e_aload_aload_n 5 0 0 0 rfl (e_oinit (e_aload_aload_n 9 0 0 0 rfl (e_psh_iconst 10 4294967295 (-1) (e_pf 11 1089 13 17 0 1 rfl rfl rfl (e_aload_aload_n 14 0 0 0 rfl (e_aload_aload_n 15 0 0 0 rfl (e_gf 16 87107 1 17 3 rfl rfl (e_gf 19 1024 17 16 0 rfl rfl (e_pf 22 1090 22 17 0 2 rfl rfl rfl (e_return_ 25 0 )))))))))))))
def kt_326 : Nat → Option ex_C := fun pc => @Bool.rec (fun _ => Option ex_C) none (some k326_0) (Nat.beq pc 0)
theorem ktE_326 : ex_CTT 15 [] cd_326 kt_326 cd_326 := (ex_ct1 kE326_0)
set_option maxHeartbeats 100000 in
def k327_19 : ex_C := c_ireturn  1
set_option maxHeartbeats 100000 in
theorem kE327_19 : ex_CE 1 [] cd_327 k327_19 q327_19 := e_ireturn 19 0 
set_option maxHeartbeats 100000 in
def k327_18 : ex_C := c_psh 0 (k327_19)
set_option maxHeartbeats 100000 in
theorem kE327_18 : ex_CE 1 [] cd_327 k327_18 q327_18 := e_psh_iconst 18 0 0 (kE327_19)
set_option maxHeartbeats 100000 in
def k327_0 : ex_C := c_aload 0 (c_gf 17 0 (c_aload 0 (c_gf 17 3 (c_gf 16 2 (c_icmp_eq 18 (c_psh 1 (c_goto 19)))))))
set_option maxHeartbeats 100000 in
theorem kE327_0 : ex_CE 1 [] cd_327 k327_0 q327_0 := e_aload_aload_n 0 0 0 0 rfl (e_gf 1 1088 25 17 0 rfl rfl (e_aload_aload_n 4 0 0 0 rfl (e_gf 5 87107 1 17 3 rfl rfl (e_gf 8 1026 28 16 2 rfl rfl (e_icmp_eq 11 18 7 (e_psh_iconst 14 1 1 (e_goto 15 19 4)))))))
def kt_327 : Nat → Option ex_C := fun pc => @Bool.rec (fun _ => Nat → Option ex_C) (fun pc => @Bool.rec (fun _ => Nat → Option ex_C) (fun pc => @Bool.rec (fun _ => Option ex_C) none (some k327_19) (Nat.beq pc 19)) (fun pc => @Bool.rec (fun _ => Option ex_C) none (some k327_18) (Nat.beq pc 18)) (Nat.ble pc 18) pc) (fun pc => @Bool.rec (fun _ => Option ex_C) none (some k327_0) (Nat.beq pc 0)) (Nat.ble pc 0) pc
theorem ktE_327 : ex_CTT 1 [] cd_327 kt_327 cd_327 := (ex_ct2 (ex_ct1 kE327_0) (ex_ct2 (ex_ct1 kE327_18) (ex_ct1 kE327_19)))
set_option maxHeartbeats 100000 in
def k328_50 : ex_C := c_aload 0 (c_iload 1 (c_psh 1 (c_iadd (c_pf 17 0 0 (c_aload 2 (c_aload 0 (c_iload 1 (c_dup_x1   (c_pf 17 0 1 (c_aaload   (c_areturn  5)))))))))))
set_option maxHeartbeats 100000 in
theorem kE328_50 : ex_CE 5 [] cd_328 k328_50 q328_50 := e_aload_aload_n 50 0 0 0 rfl (e_iload_iload_n 51 0 1 1 rfl (e_psh_iconst 52 1 1 (e_iadd 53 0 (e_pf 54 1088 25 17 0 0 rfl rfl rfl (e_aload_aload_n 57 0 2 2 rfl (e_aload_aload_n 58 0 0 0 rfl (e_iload_iload_n 59 0 1 1 rfl (e_dup_x1 60 0  (e_pf 61 1089 13 17 0 1 rfl rfl rfl (e_aaload 64 0  (e_areturn 65 0 )))))))))))
set_option maxHeartbeats 100000 in
def k328_28 : ex_C := c_aload 0 (c_gf 17 3 (c_gf 16 1 (c_astore 2 (c_iload 1 (c_aload 2 (c_arraylength   (c_icmp_lt 50 (c_none))))))))
set_option maxHeartbeats 100000 in
theorem kE328_28 : ex_CE 5 [] cd_328 k328_28 q328_28 := e_aload_aload_n 28 0 0 0 rfl (e_gf 29 87107 1 17 3 rfl rfl (e_gf 32 21505 37 16 1 rfl rfl (e_astore_astore_n 35 0 2 2 rfl (e_iload_iload_n 36 0 1 1 rfl (e_aload_aload_n 37 0 2 2 rfl (e_arraylength 38 0  (e_icmp_lt 39 50 11 (e_bad))))))))
set_option maxHeartbeats 100000 in
def k328_0 : ex_C := c_aload 0 (c_invV [] cd_328 1 1 329 17 (c_aload 0 (c_gf 17 0 (c_istore 1 (c_iload 1 (c_aload 0 (c_gf 17 3 (c_gf 16 2 (c_icmp_lt 28 (c_newx 549755813892))))))))))
set_option maxHeartbeats 100000 in
theorem kE328_0 : ex_CE 5 [] cd_328 k328_0 q328_0 := e_aload_aload_n 0 0 0 0 rfl (e_invV_invokevirtual 1 2826785 31 1 329 17 rfl rfl rfl rfl rfl rfl (e_aload_aload_n 4 0 0 0 rfl (e_gf 5 1088 25 17 0 rfl rfl (e_istore_istore_n 8 0 1 1 rfl (e_iload_iload_n 9 0 1 1 rfl (e_aload_aload_n 10 0 0 0 rfl (e_gf 11 87107 1 17 3 rfl rfl (e_gf 14 1026 28 16 2 rfl rfl (e_icmp_lt 17 28 11 (e_newx 20 1004 34 36 549755813892 rfl rfl rfl))))))))))
def kt_328 : Nat → Option ex_C := fun pc => @Bool.rec (fun _ => Nat → Option ex_C) (fun pc => @Bool.rec (fun _ => Nat → Option ex_C) (fun pc => @Bool.rec (fun _ => Option ex_C) none (some k328_50) (Nat.beq pc 50)) (fun pc => @Bool.rec (fun _ => Option ex_C) none (some k328_28) (Nat.beq pc 28)) (Nat.ble pc 28) pc) (fun pc => @Bool.rec (fun _ => Option ex_C) none (some k328_0) (Nat.beq pc 0)) (Nat.ble pc 0) pc
theorem ktE_328 : ex_CTT 5 [] cd_328 kt_328 cd_328 := (ex_ct2 (ex_ct1 kE328_0) (ex_ct2 (ex_ct1 kE328_28) (ex_ct1 kE328_50)))
set_option maxHeartbeats 100000 in
def k329_22 : ex_C := c_return_  15
set_option maxHeartbeats 100000 in
theorem kE329_22 : ex_CE 15 [] cd_329 k329_22 q329_22 := e_return_ 22 0 
set_option maxHeartbeats 100000 in
def k329_0 : ex_C := c_aload 0 (c_gf 17 3 (c_gf 16 0 (c_aload 0 (c_gf 17 2 (c_icmp_eq 22 (c_none))))))
set_option maxHeartbeats 100000 in
theorem kE329_0 : ex_CE 15 [] cd_329 k329_0 q329_0 := e_aload_aload_n 0 0 0 0 rfl (e_gf 1 87107 1 17 3 rfl rfl (e_gf 4 1024 17 16 0 rfl rfl (e_aload_aload_n 7 0 0 0 rfl (e_gf 8 1090 22 17 2 rfl rfl (e_icmp_eq 11 22 11 (e_bad))))))
def kt_329 : Nat → Option ex_C := fun pc => @Bool.rec (fun _ => Nat → Option ex_C) (fun pc => @Bool.rec (fun _ => Option ex_C) none (some k329_22) (Nat.beq pc 22)) (fun pc => @Bool.rec (fun _ => Option ex_C) none (some k329_0) (Nat.beq pc 0)) (Nat.ble pc 0) pc
theorem ktE_329 : ex_CTT 15 [] cd_329 kt_329 cd_329 := (ex_ct2 (ex_ct1 kE329_0) (ex_ct1 kE329_22))
set_option maxHeartbeats 100000 in
def k330_0 : ex_C := c_aload 0 (c_invP [] cd_330 1 1 325 (c_aload 0 (c_psh 17179869199 (c_pf 16 5 1 (c_return_  15)))))
set_option maxHeartbeats 100000 in
theorem kE330_0 : ex_CE 15 [] cd_330 k330_0 q330_0 := e_aload_aload_n 0 0 0 0 rfl (e_invP 1 2801601 1 1 325 rfl rfl rfl rfl (e_aload_aload_n 4 0 0 0 rfl (e_psh_getstatic 5 17179869199 39 (e_pf 8 21505 9 16 5 1 rfl rfl rfl (e_return_ 11 0 )))))
def kt_330 : Nat → Option ex_C := fun pc => @Bool.rec (fun _ => Option ex_C) none (some k330_0) (Nat.beq pc 0)
theorem ktE_330 : ex_CTT 15 [] cd_330 kt_330 cd_330 := (ex_ct1 kE330_0)
set_option maxHeartbeats 100000 in
def k331_45 : ex_C := c_aload 0 (c_psh 10 (c_iload 1 (c_invS [] cd_331 49 2 301 (c_anewarray 7 70 (c_dup_x1   (c_pf 16 5 1 (c_areturn  5)))))))
set_option maxHeartbeats 100000 in
theorem kE331_45 : ex_CE 5 [] cd_331 k331_45 q331_45 := e_aload_aload_n 45 0 0 0 rfl (e_psh_bipush 46 10 10 (e_iload_iload_n 48 0 1 1 rfl (e_invS 49 2605026 79 2 301 rfl rfl rfl (e_anewarray 52 70 7 (e_dup_x1 55 0  (e_pf 56 21505 9 16 5 1 rfl rfl rfl (e_areturn 59 0 )))))))
set_option maxHeartbeats 100000 in
def k331_20 : ex_C := c_iload 2 (c_iload 1 (c_iload 2 (c_isub (c_iload 2 (c_psh 1 (c_ishr   (c_invS [] cd_331 27 3 348 (c_istore 3 (c_aload 0 (c_aload 0 (c_gf 16 1 (c_iload 3 (c_invS [] cd_331 37 2 345 (c_dup_x1   (c_pf 16 5 1 (c_areturn  5))))))))))))))))
set_option maxHeartbeats 100000 in
theorem kE331_20 : ex_CE 5 [] cd_331 k331_20 q331_20 := e_iload_iload_n 20 0 2 2 rfl (e_iload_iload_n 21 0 1 1 rfl (e_iload_iload_n 22 0 2 2 rfl (e_isub 23 0 (e_iload_iload_n 24 0 2 2 rfl (e_psh_iconst 25 1 1 (e_ishr 26 0  (e_invS 27 2990051 73 3 348 rfl rfl rfl (e_istore_istore_n 30 0 3 3 rfl (e_aload_aload_n 31 0 0 0 rfl (e_aload_aload_n 32 0 0 0 rfl (e_gf 33 21505 9 16 1 rfl rfl (e_iload_iload_n 36 0 3 3 rfl (e_invS 37 2965474 66 2 345 rfl rfl rfl (e_dup_x1 40 0  (e_pf 41 21505 9 16 5 1 rfl rfl rfl (e_areturn 44 0 ))))))))))))))))
set_option maxHeartbeats 100000 in
def k331_0 : ex_C := c_aload 0 (c_gf 16 1 (c_arraylength   (c_istore 2 (c_iload 2 (c_if_gt 20 (c_aload 0 (c_gf 16 1 (c_psh 17179869199 (c_if_acmp .eq 28 45 (k331_20))))))))))
set_option maxHeartbeats 100000 in
theorem kE331_0 : ex_CE 5 [] cd_331 k331_0 q331_0 := e_aload_aload_n 0 0 0 0 rfl (e_gf 1 21505 9 16 1 rfl rfl (e_arraylength 4 0  (e_istore_istore_n 5 0 2 2 rfl (e_iload_iload_n 6 0 2 2 rfl (e_if_gt 7 20 13 (e_aload_aload_n 10 0 0 0 rfl (e_gf 11 21505 9 16 1 rfl rfl (e_psh_getstatic 14 17179869199 39 (e_if_acmp 17 45 .eq 28 (kE331_20))))))))))
def kt_331 : Nat → Option ex_C := fun pc => @Bool.rec (fun _ => Nat → Option ex_C) (fun pc => @Bool.rec (fun _ => Nat → Option ex_C) (fun pc => @Bool.rec (fun _ => Option ex_C) none (some k331_45) (Nat.beq pc 45)) (fun pc => @Bool.rec (fun _ => Option ex_C) none (some k331_20) (Nat.beq pc 20)) (Nat.ble pc 20) pc) (fun pc => @Bool.rec (fun _ => Option ex_C) none (some k331_0) (Nat.beq pc 0)) (Nat.ble pc 0) pc
theorem ktE_331 : ex_CTT 5 [] cd_331 kt_331 cd_331 := (ex_ct2 (ex_ct1 kE331_0) (ex_ct2 (ex_ct1 kE331_20) (ex_ct1 kE331_45)))
set_option maxHeartbeats 100000 in
def k332_0 : ex_C := c_aload 0 (c_aload 0 (c_gf 16 2 (c_psh 1 (c_iadd (c_invV [] cd_332 7 2 331 16 (c_areturn  5))))))
set_option maxHeartbeats 100000 in
theorem kE332_0 : ex_CE 5 [] cd_332 k332_0 q332_0 := e_aload_aload_n 0 0 0 0 rfl (e_aload_aload_n 1 0 0 0 rfl (e_gf 2 1026 48 16 2 rfl rfl (e_psh_iconst 5 1 1 (e_iadd 6 0 (e_invV_invokevirtual 7 2843138 69 2 331 16 rfl rfl rfl rfl rfl rfl (e_areturn 10 0 ))))))
def kt_332 : Nat → Option ex_C := fun pc => @Bool.rec (fun _ => Option ex_C) none (some k332_0) (Nat.beq pc 0)
theorem ktE_332 : ex_CTT 5 [] cd_332 kt_332 cd_332 := (ex_ct1 kE332_0)
set_option maxHeartbeats 100000 in
def k333_0 : ex_C := c_aload 0 (c_gf 16 2 (c_ireturn  0))
set_option maxHeartbeats 100000 in
theorem kE333_0 : ex_CE 0 [] cd_333 k333_0 q333_0 := e_aload_aload_n 0 0 0 0 rfl (e_gf 1 1026 48 16 2 rfl rfl (e_ireturn 4 0 ))
def kt_333 : Nat → Option ex_C := fun pc => @Bool.rec (fun _ => Option ex_C) none (some k333_0) (Nat.beq pc 0)
theorem ktE_333 : ex_CTT 0 [] cd_333 kt_333 cd_333 := (ex_ct1 kE333_0)
set_option maxHeartbeats 100000 in
def k334_12 : ex_C := c_ireturn  1
set_option maxHeartbeats 100000 in
theorem kE334_12 : ex_CE 1 [] cd_334 k334_12 q334_12 := e_ireturn 12 0 
set_option maxHeartbeats 100000 in
def k334_11 : ex_C := c_psh 0 (k334_12)
set_option maxHeartbeats 100000 in
theorem kE334_11 : ex_CE 1 [] cd_334 k334_11 q334_11 := e_psh_iconst 11 0 0 (kE334_12)
set_option maxHeartbeats 100000 in
def k334_0 : ex_C := c_aload 0 (c_gf 16 2 (c_if_ne 11 (c_psh 1 (c_goto 12))))
set_option maxHeartbeats 100000 in
theorem kE334_0 : ex_CE 1 [] cd_334 k334_0 q334_0 := e_aload_aload_n 0 0 0 0 rfl (e_gf 1 1026 48 16 2 rfl rfl (e_if_ne 4 11 7 (e_psh_iconst 7 1 1 (e_goto 8 12 4))))
def kt_334 : Nat → Option ex_C := fun pc => @Bool.rec (fun _ => Nat → Option ex_C) (fun pc => @Bool.rec (fun _ => Nat → Option ex_C) (fun pc => @Bool.rec (fun _ => Option ex_C) none (some k334_12) (Nat.beq pc 12)) (fun pc => @Bool.rec (fun _ => Option ex_C) none (some k334_11) (Nat.beq pc 11)) (Nat.ble pc 11) pc) (fun pc => @Bool.rec (fun _ => Option ex_C) none (some k334_0) (Nat.beq pc 0)) (Nat.ble pc 0) pc
theorem ktE_334 : ex_CTT 1 [] cd_334 kt_334 cd_334 := (ex_ct2 (ex_ct1 kE334_0) (ex_ct2 (ex_ct1 kE334_11) (ex_ct1 kE334_12)))
set_option maxHeartbeats 100000 in
def k335_0 : ex_C := c_aload 0 (c_gf 16 1 (c_aload 0 (c_gf 16 2 (c_invS [] cd_335 8 2 345 (c_areturn  5)))))
set_option maxHeartbeats 100000 in
theorem kE335_0 : ex_CE 5 [] cd_335 k335_0 q335_0 := e_aload_aload_n 0 0 0 0 rfl (e_gf 1 21505 9 16 1 rfl rfl (e_aload_aload_n 4 0 0 0 rfl (e_gf 5 1026 48 16 2 rfl rfl (e_invS 8 2965474 66 2 345 rfl rfl rfl (e_areturn 11 0 )))))
def kt_335 : Nat → Option ex_C := fun pc => @Bool.rec (fun _ => Option ex_C) none (some k335_0) (Nat.beq pc 0)
theorem ktE_335 : ex_CTT 5 [] cd_335 kt_335 cd_335 := (ex_ct1 kE335_0)
set_option maxHeartbeats 100000 in
def k336_0 : ex_C := c_aload 0 (c_gf 16 1 (c_iload 1 (c_aaload   (c_areturn  5))))
set_option maxHeartbeats 100000 in
theorem kE336_0 : ex_CE 5 [] cd_336 k336_0 q336_0 := e_aload_aload_n 0 0 0 0 rfl (e_gf 1 21505 9 16 1 rfl rfl (e_iload_iload_n 4 0 1 1 rfl (e_aaload 5 0  (e_areturn 6 0 ))))
def kt_336 : Nat → Option ex_C := fun pc => @Bool.rec (fun _ => Option ex_C) none (some k336_0) (Nat.beq pc 0)
theorem ktE_336 : ex_CTT 5 [] cd_336 kt_336 cd_336 := (ex_ct1 kE336_0)
set_option maxHeartbeats 100000 in
def k337_0 : ex_C := c_iload 1 (c_aload 0 (c_gf 16 2 (c_invS [] cd_337 5 2 347 (c_pop   (c_aload 0 (c_iload 1 (c_invV [] cd_337 11 2 336 16 (c_areturn  5))))))))
set_option maxHeartbeats 100000 in
theorem kE337_0 : ex_CE 5 [] cd_337 k337_0 q337_0 := e_iload_iload_n 0 0 1 1 rfl (e_aload_aload_n 1 0 0 0 rfl (e_gf 2 1026 48 16 2 rfl rfl (e_invS 5 2981858 118 2 347 rfl rfl rfl (e_pop 8 0  (e_aload_aload_n 9 0 0 0 rfl (e_iload_iload_n 10 0 1 1 rfl (e_invV_invokevirtual 11 2884098 123 2 336 16 rfl rfl rfl rfl rfl rfl (e_areturn 14 0 ))))))))
def kt_337 : Nat → Option ex_C := fun pc => @Bool.rec (fun _ => Option ex_C) none (some k337_0) (Nat.beq pc 0)
theorem ktE_337 : ex_CTT 5 [] cd_337 kt_337 cd_337 := (ex_ct1 kE337_0)
set_option maxHeartbeats 100000 in
def k338_11 : ex_C := c_aload 2 (c_iload 3 (c_aload 1 (c_aastore   (c_aload 0 (c_iload 3 (c_psh 1 (c_iadd (c_pf 16 0 2 (c_return_  15)))))))))
set_option maxHeartbeats 100000 in
theorem kE338_11 : ex_CE 15 [] cd_338 k338_11 q338_11 := e_aload_aload_n 11 0 2 2 rfl (e_iload_iload_n 12 0 3 3 rfl (e_aload_aload_n 13 0 1 1 rfl (e_aastore 14 0  (e_aload_aload_n 15 0 0 0 rfl (e_iload_iload_n 16 0 3 3 rfl (e_psh_iconst 17 1 1 (e_iadd 18 0 (e_pf 19 1026 48 16 0 2 rfl rfl rfl (e_return_ 22 0 )))))))))
set_option maxHeartbeats 100000 in
def k338_0 : ex_C := c_iload 3 (c_aload 2 (c_arraylength   (c_icmp_ne 11 (c_aload 0 (c_invV [] cd_338 7 1 332 16 (c_astore 2 (k338_11)))))))
set_option maxHeartbeats 100000 in
theorem kE338_0 : ex_CE 15 [] cd_338 k338_0 q338_0 := e_iload_iload_n 0 0 3 3 rfl (e_aload_aload_n 1 0 2 2 rfl (e_arraylength 2 0  (e_icmp_ne 3 11 8 (e_aload_aload_n 6 0 0 0 rfl (e_invV_invokevirtual 7 2851329 129 1 332 16 rfl rfl rfl rfl rfl rfl (e_astore_astore_n 10 0 2 2 rfl (kE338_11)))))))
def kt_338 : Nat → Option ex_C := fun pc => @Bool.rec (fun _ => Nat → Option ex_C) (fun pc => @Bool.rec (fun _ => Option ex_C) none (some k338_11) (Nat.beq pc 11)) (fun pc => @Bool.rec (fun _ => Option ex_C) none (some k338_0) (Nat.beq pc 0)) (Nat.ble pc 0) pc
theorem ktE_338 : ex_CTT 15 [] cd_338 kt_338 cd_338 := (ex_ct2 (ex_ct1 kE338_0) (ex_ct1 kE338_11))
set_option maxHeartbeats 100000 in
def k339_0 : ex_C := c_aload 0 (c_dup   (c_gf 16 0 (c_psh 1 (c_iadd (c_pf 16 0 0 (c_aload 0 (c_aload 1 (c_aload 0 (c_gf 16 1 (c_aload 0 (c_gf 16 2 (c_invV [] cd_339 20 4 338 16 (c_psh 1 (c_ireturn  1))))))))))))))
set_option maxHeartbeats 100000 in
theorem kE339_0 : ex_CE 1 [] cd_339 k339_0 q339_0 := e_aload_aload_n 0 0 0 0 rfl (e_dup 1 0  (e_gf 2 1024 63 16 0 rfl rfl (e_psh_iconst 5 1 1 (e_iadd 6 0 (e_pf 7 1024 63 16 0 0 rfl rfl rfl (e_aload_aload_n 10 0 0 0 rfl (e_aload_aload_n 11 0 1 1 rfl (e_aload_aload_n 12 0 0 0 rfl (e_gf 13 21505 9 16 1 rfl rfl (e_aload_aload_n 16 0 0 0 rfl (e_gf 17 1026 48 16 2 rfl rfl (e_invV_invokevirtual 20 2900484 131 4 338 16 rfl rfl rfl rfl rfl rfl (e_psh_iconst 23 1 1 (e_ireturn 24 0 ))))))))))))))
def kt_339 : Nat → Option ex_C := fun pc => @Bool.rec (fun _ => Option ex_C) none (some k339_0) (Nat.beq pc 0)
theorem ktE_339 : ex_CTT 1 [] cd_339 kt_339 cd_339 := (ex_ct1 kE339_0)
set_option maxHeartbeats 100000 in
def k340_0 : ex_C := c_iload 1 (c_aload 0 (c_gf 16 2 (c_invS [] cd_340 5 2 347 (c_pop   (c_aload 0 (c_gf 16 1 (c_astore 2 (c_aload 2 (c_iload 1 (c_aaload   (c_astore 3 (c_aload 0 (c_aload 2 (c_iload 1 (c_invV [] cd_340 21 3 341 16 (c_aload 3 (c_areturn  5)))))))))))))))))
set_option maxHeartbeats 100000 in
theorem kE340_0 : ex_CE 5 [] cd_340 k340_0 q340_0 := e_iload_iload_n 0 0 1 1 rfl (e_aload_aload_n 1 0 0 0 rfl (e_gf 2 1026 48 16 2 rfl rfl (e_invS 5 2981858 118 2 347 rfl rfl rfl (e_pop 8 0  (e_aload_aload_n 9 0 0 0 rfl (e_gf 10 21505 9 16 1 rfl rfl (e_astore_astore_n 13 0 2 2 rfl (e_aload_aload_n 14 0 2 2 rfl (e_iload_iload_n 15 0 1 1 rfl (e_aaload 16 0  (e_astore_astore_n 17 0 3 3 rfl (e_aload_aload_n 18 0 0 0 rfl (e_aload_aload_n 19 0 2 2 rfl (e_iload_iload_n 20 0 1 1 rfl (e_invV_invokevirtual 21 2925059 144 3 341 16 rfl rfl rfl rfl rfl rfl (e_aload_aload_n 24 0 3 3 rfl (e_areturn 25 0 )))))))))))))))))
def kt_340 : Nat → Option ex_C := fun pc => @Bool.rec (fun _ => Option ex_C) none (some k340_0) (Nat.beq pc 0)
theorem ktE_340 : ex_CTT 5 [] cd_340 kt_340 cd_340 := (ex_ct1 kE340_0)
set_option maxHeartbeats 100000 in
def k341_34 : ex_C := c_aload 1 (c_aload 0 (c_iload 3 (c_dup_x1   (c_pf 16 0 2 (c_aconst_null   (c_aastore   (c_return_  15)))))))
set_option maxHeartbeats 100000 in
theorem kE341_34 : ex_CE 15 [] cd_341 k341_34 q341_34 := e_aload_aload_n 34 0 1 1 rfl (e_aload_aload_n 35 0 0 0 rfl (e_iload_iload_n 36 0 3 3 rfl (e_dup_x1 37 0  (e_pf 38 1026 48 16 0 2 rfl rfl rfl (e_aconst_null 41 0  (e_aastore 42 0  (e_return_ 43 0 )))))))
set_option maxHeartbeats 100000 in
def k341_0 : ex_C := c_aload 0 (c_dup   (c_gf 16 0 (c_psh 1 (c_iadd (c_pf 16 0 0 (c_aload 0 (c_gf 16 2 (c_psh 1 (c_isub (c_dup   (c_istore 3 (c_iload 2 (c_icmp_le 34 (c_aload 1 (c_iload 2 (c_psh 1 (c_iadd (c_aload 1 (c_iload 2 (c_iload 3 (c_iload 2 (c_isub (c_none)))))))))))))))))))))))
set_option maxHeartbeats 100000 in
theorem kE341_0 : ex_CE 15 [] cd_341 k341_0 q341_0 := e_aload_aload_n 0 0 0 0 rfl (e_dup 1 0  (e_gf 2 1024 63 16 0 rfl rfl (e_psh_iconst 5 1 1 (e_iadd 6 0 (e_pf 7 1024 63 16 0 0 rfl rfl rfl (e_aload_aload_n 10 0 0 0 rfl (e_gf 11 1026 48 16 2 rfl rfl (e_psh_iconst 14 1 1 (e_isub 15 0 (e_dup 16 0  (e_istore_istore_n 17 0 3 3 rfl (e_iload_iload_n 18 0 2 2 rfl (e_icmp_le 19 34 15 (e_aload_aload_n 22 0 1 1 rfl (e_iload_iload_n 23 0 2 2 rfl (e_psh_iconst 24 1 1 (e_iadd 25 0 (e_aload_aload_n 26 0 1 1 rfl (e_iload_iload_n 27 0 2 2 rfl (e_iload_iload_n 28 0 3 3 rfl (e_iload_iload_n 29 0 2 2 rfl (e_isub 30 0 (e_bad)))))))))))))))))))))))
def kt_341 : Nat → Option ex_C := fun pc => @Bool.rec (fun _ => Nat → Option ex_C) (fun pc => @Bool.rec (fun _ => Option ex_C) none (some k341_34) (Nat.beq pc 34)) (fun pc => @Bool.rec (fun _ => Option ex_C) none (some k341_0) (Nat.beq pc 0)) (Nat.ble pc 0) pc
theorem ktE_341 : ex_CTT 15 [] cd_341 kt_341 cd_341 := (ex_ct2 (ex_ct1 kE341_0) (ex_ct1 kE341_34))
set_option maxHeartbeats 100000 in
def k342_42 : ex_C := c_return_  15
set_option maxHeartbeats 100000 in
theorem kE342_42 : ex_CE 15 [] cd_342 k342_42 q342_42 := e_return_ 42 0 
set_option maxHeartbeats 100000 in
def k342_27 : ex_C := c_iload 3 (c_iload 2 (c_icmp_ge 42 (c_aload 1 (c_iload 3 (c_aconst_null   (c_aastore   (c_iinc 3 1 (c_goto 27))))))))
set_option maxHeartbeats 100000 in
theorem kE342_27 : ex_CE 15 [] cd_342 k342_27 q342_27 := e_iload_iload_n 27 0 3 3 rfl (e_iload_iload_n 28 0 2 2 rfl (e_icmp_ge 29 42 13 (e_aload_aload_n 32 0 1 1 rfl (e_iload_iload_n 33 0 3 3 rfl (e_aconst_null 34 0  (e_aastore 35 0  (e_iinc 36 1 3 1 (e_goto 39 27 (-12)))))))))
set_option maxHeartbeats 100000 in
def k342_0 : ex_C := c_aload 0 (c_dup   (c_gf 16 0 (c_psh 1 (c_iadd (c_pf 16 0 0 (c_aload 0 (c_gf 16 1 (c_astore 1 (c_aload 0 (c_gf 16 2 (c_istore 2 (c_aload 0 (c_psh 0 (c_dup_x1   (c_pf 16 0 2 (c_istore 3 (k342_27)))))))))))))))))
set_option maxHeartbeats 100000 in
theorem kE342_0 : ex_CE 15 [] cd_342 k342_0 q342_0 := e_aload_aload_n 0 0 0 0 rfl (e_dup 1 0  (e_gf 2 1024 63 16 0 rfl rfl (e_psh_iconst 5 1 1 (e_iadd 6 0 (e_pf 7 1024 63 16 0 0 rfl rfl rfl (e_aload_aload_n 10 0 0 0 rfl (e_gf 11 21505 9 16 1 rfl rfl (e_astore_astore_n 14 0 1 1 rfl (e_aload_aload_n 15 0 0 0 rfl (e_gf 16 1026 48 16 2 rfl rfl (e_istore_istore_n 19 0 2 2 rfl (e_aload_aload_n 20 0 0 0 rfl (e_psh_iconst 21 0 0 (e_dup_x1 22 0  (e_pf 23 1026 48 16 0 2 rfl rfl rfl (e_istore_istore_n 26 0 3 3 rfl (kE342_27)))))))))))))))))
def kt_342 : Nat → Option ex_C := fun pc => @Bool.rec (fun _ => Nat → Option ex_C) (fun pc => @Bool.rec (fun _ => Nat → Option ex_C) (fun pc => @Bool.rec (fun _ => Option ex_C) none (some k342_42) (Nat.beq pc 42)) (fun pc => @Bool.rec (fun _ => Option ex_C) none (some k342_27) (Nat.beq pc 27)) (Nat.ble pc 27) pc) (fun pc => @Bool.rec (fun _ => Option ex_C) none (some k342_0) (Nat.beq pc 0)) (Nat.ble pc 0) pc
theorem ktE_342 : ex_CTT 15 [] cd_342 kt_342 cd_342 := (ex_ct2 (ex_ct1 kE342_0) (ex_ct2 (ex_ct1 kE342_27) (ex_ct1 kE342_42)))
set_option maxHeartbeats 100000 in
def k343_56 : ex_C := c_aload 2 (c_psh 0 (c_aload 4 (c_iload 5 (c_iload 3 (c_none)))))
set_option maxHeartbeats 100000 in
theorem kE343_56 : ex_CE 1 [] cd_343 k343_56 q343_56 := e_aload_aload_n 56 0 2 2 rfl (e_psh_iconst 57 0 0 (e_aload_aload 58 0 4 (e_iload_iload 60 0 5 (e_iload_iload_n 62 0 3 3 rfl (e_bad)))))
set_option maxHeartbeats 100000 in
def k343_26 : ex_C := c_iload 3 (c_aload 0 (c_gf 16 1 (c_dup   (c_astore 4 (c_arraylength   (c_aload 0 (c_gf 16 2 (c_dup   (c_istore 5 (c_isub (c_icmp_le 56 (c_aload 0 (c_iload 5 (c_iload 3 (c_iadd (c_invV [] cd_343 51 2 331 16 (c_astore 4 (k343_56))))))))))))))))))
set_option maxHeartbeats 100000 in
theorem kE343_26 : ex_CE 1 [] cd_343 k343_26 q343_26 := e_iload_iload_n 26 0 3 3 rfl (e_aload_aload_n 27 0 0 0 rfl (e_gf 28 21505 9 16 1 rfl rfl (e_dup 31 0  (e_astore_astore 32 0 4 (e_arraylength 34 0  (e_aload_aload_n 35 0 0 0 rfl (e_gf 36 1026 48 16 2 rfl rfl (e_dup 39 0  (e_istore_istore 40 0 5 (e_isub 42 0 (e_icmp_le 43 56 13 (e_aload_aload_n 46 0 0 0 rfl (e_iload_iload 47 0 5 (e_iload_iload_n 49 0 3 3 rfl (e_iadd 50 0 (e_invV_invokevirtual 51 2843138 69 2 331 16 rfl rfl rfl rfl rfl rfl (e_astore_astore 54 0 4 (kE343_56))))))))))))))))))
set_option maxHeartbeats 100000 in
def k343_0 : ex_C := c_aload 1 (c_none)
set_option maxHeartbeats 100000 in
theorem kE343_0 : ex_CE 1 [] cd_343 k343_0 q343_0 := e_aload_aload_n 0 0 1 1 rfl (e_bad)
def kt_343 : Nat → Option ex_C := fun pc => @Bool.rec (fun _ => Nat → Option ex_C) (fun pc => @Bool.rec (fun _ => Nat → Option ex_C) (fun pc => @Bool.rec (fun _ => Option ex_C) none (some k343_56) (Nat.beq pc 56)) (fun pc => @Bool.rec (fun _ => Option ex_C) none (some k343_26) (Nat.beq pc 26)) (Nat.ble pc 26) pc) (fun pc => @Bool.rec (fun _ => Option ex_C) none (some k343_0) (Nat.beq pc 0)) (Nat.ble pc 0) pc
theorem ktE_343 : ex_CTT 1 [] cd_343 kt_343 cd_343 := (ex_ct2 (ex_ct1 kE343_0) (ex_ct2 (ex_ct1 kE343_26) (ex_ct1 kE343_56)))
set_option maxHeartbeats 100000 in
def k344_0 : ex_C := c_newo 6277101735386680763835789423207666416102355444464034513937 4 (c_dup   (c_aload 0 (c_invP [] cd_344 5 2 326 (c_areturn  5))))
set_option maxHeartbeats 100000 in
theorem kE344_0 : ex_CE 5 [] cd_344 k344_0 q344_0 := e_newo 0 17 267 6277101735386680763835789423207666416102355444464034513937 4 rfl rfl rfl (e_dup 3 0  (e_aload_aload_n 4 0 0 0 rfl (e_invP 5 2809794 269 2 326 rfl rfl rfl rfl (e_areturn 8 0 ))))
def kt_344 : Nat → Option ex_C := fun pc => @Bool.rec (fun _ => Option ex_C) none (some k344_0) (Nat.beq pc 0)
theorem ktE_344 : ex_CTT 5 [] cd_344 kt_344 cd_344 := (ex_ct1 kE344_0)
set_option maxHeartbeats 100000 in
def k345_0 : ex_C := c_aload 0 (c_iload 1 (c_aload 0 (c_none)))
set_option maxHeartbeats 100000 in
theorem kE345_0 : ex_CE 5 [] cd_345 k345_0 q345_0 := e_aload_aload_n 0 0 0 0 rfl (e_iload_iload_n 1 0 1 1 rfl (e_aload_aload_n 2 0 0 0 rfl (e_bad)))
def kt_345 : Nat → Option ex_C := fun pc => @Bool.rec (fun _ => Option ex_C) none (some k345_0) (Nat.beq pc 0)
theorem ktE_345 : ex_CTT 5 [] cd_345 kt_345 cd_345 := (ex_ct1 kE345_0)
set_option maxHeartbeats 100000 in
def k346_24 : ex_C := c_astore 3 (c_aload 0 (c_psh 0 (c_aload 3 (c_psh 0 (c_aload 0 (c_arraylength   (c_iload 1 (c_invS [] cd_346 32 2 302 (c_none)))))))))
set_option maxHeartbeats 100000 in
theorem kE346_24 : ex_CE 5 [] cd_346 k346_24 q346_24 := e_astore_astore_n 24 0 3 3 rfl (e_aload_aload_n 25 0 0 0 rfl (e_psh_iconst 26 0 0 (e_aload_aload_n 27 0 3 3 rfl (e_psh_iconst 28 0 0 (e_aload_aload_n 29 0 0 0 rfl (e_arraylength 30 0  (e_iload_iload_n 31 0 1 1 rfl (e_invS 32 2613218 304 2 302 rfl rfl rfl (e_bad)))))))))
set_option maxHeartbeats 100000 in
def k346_13 : ex_C := c_aload 2 (c_none)
set_option maxHeartbeats 100000 in
theorem kE346_13 : ex_CE 5 [] cd_346 k346_13 q346_13 := e_aload_aload_n 13 0 2 2 rfl (e_bad)
set_option maxHeartbeats 100000 in
def k346_0 : ex_C := c_aload 2 (c_none)
set_option maxHeartbeats 100000 in
theorem kE346_0 : ex_CE 5 [] cd_346 k346_0 q346_0 := e_aload_aload_n 0 0 2 2 rfl (e_bad)
def kt_346 : Nat → Option ex_C := fun pc => @Bool.rec (fun _ => Nat → Option ex_C) (fun pc => @Bool.rec (fun _ => Nat → Option ex_C) (fun pc => @Bool.rec (fun _ => Option ex_C) none (some k346_24) (Nat.beq pc 24)) (fun pc => @Bool.rec (fun _ => Option ex_C) none (some k346_13) (Nat.beq pc 13)) (Nat.ble pc 13) pc) (fun pc => @Bool.rec (fun _ => Option ex_C) none (some k346_0) (Nat.beq pc 0)) (Nat.ble pc 0) pc
theorem ktE_346 : ex_CTT 5 [] cd_346 kt_346 cd_346 := (ex_ct2 (ex_ct1 kE346_0) (ex_ct2 (ex_ct1 kE346_13) (ex_ct1 kE346_24)))
set_option maxHeartbeats 100000 in
def k347_0 : ex_C := c_iload 0 (c_iload 1 (c_aconst_null   (c_invS [] cd_347 3 3 350 (c_ireturn  0))))
set_option maxHeartbeats 100000 in
theorem kE347_0 : ex_CE 0 [] cd_347 k347_0 q347_0 := e_iload_iload_n 0 0 0 0 rfl (e_iload_iload_n 1 0 1 1 rfl (e_aconst_null 2 0  (e_invS 3 3006435 105 3 350 rfl rfl rfl (e_ireturn 6 0 ))))
def kt_347 : Nat → Option ex_C := fun pc => @Bool.rec (fun _ => Option ex_C) none (some k347_0) (Nat.beq pc 0)
theorem ktE_347 : ex_CTT 0 [] cd_347 kt_347 cd_347 := (ex_ct1 kE347_0)
set_option maxHeartbeats 100000 in
def k348_21 : ex_C := c_iload 0 (c_iload 1 (c_invS [] cd_348 23 2 349 (c_ireturn  0)))
set_option maxHeartbeats 100000 in
theorem kE348_21 : ex_CE 0 [] cd_348 k348_21 q348_21 := e_iload_iload_n 21 0 0 0 rfl (e_iload_iload_n 22 0 1 1 rfl (e_invS 23 2998242 201 2 349 rfl rfl rfl (e_ireturn 26 0 )))
set_option maxHeartbeats 100000 in
def k348_0 : ex_C := c_iload 0 (c_iload 1 (c_iload 2 (c_invS [] cd_348 3 2 301 (c_iadd (c_istore 3 (c_psh 0 (c_iload 3 (c_icmp_ge 21 (c_iload 3 (c_psh 2147483639 (c_icmp_gt 21 (c_iload 3 (c_ireturn  0)))))))))))))
set_option maxHeartbeats 100000 in
theorem kE348_0 : ex_CE 0 [] cd_348 k348_0 q348_0 := e_iload_iload_n 0 0 0 0 rfl (e_iload_iload_n 1 0 1 1 rfl (e_iload_iload_n 2 0 2 2 rfl (e_invS 3 2605026 194 2 301 rfl rfl rfl (e_iadd 6 0 (e_istore_istore_n 7 0 3 3 rfl (e_psh_iconst 8 0 0 (e_iload_iload_n 9 0 3 3 rfl (e_icmp_ge 10 21 11 (e_iload_iload_n 13 0 3 3 rfl (e_psh_ldc 14 2147483639 200 (e_icmp_gt 16 21 5 (e_iload_iload_n 19 0 3 3 rfl (e_ireturn 20 0 )))))))))))))
def kt_348 : Nat → Option ex_C := fun pc => @Bool.rec (fun _ => Nat → Option ex_C) (fun pc => @Bool.rec (fun _ => Option ex_C) none (some k348_21) (Nat.beq pc 21)) (fun pc => @Bool.rec (fun _ => Option ex_C) none (some k348_0) (Nat.beq pc 0)) (Nat.ble pc 0) pc
theorem ktE_348 : ex_CTT 0 [] cd_348 kt_348 cd_348 := (ex_ct2 (ex_ct1 kE348_0) (ex_ct1 kE348_21))
set_option maxHeartbeats 100000 in
def k349_58 : ex_C := c_iload 2 (c_ireturn  0)
set_option maxHeartbeats 100000 in
theorem kE349_58 : ex_CE 0 [] cd_349 k349_58 q349_58 := e_iload_iload_n 58 0 2 2 rfl (e_ireturn 59 0 )
set_option maxHeartbeats 100000 in
def k349_49 : ex_C := c_iload 2 (c_psh 2147483639 (c_icmp_gt 58 (c_psh 2147483639 (c_ireturn  0))))
set_option maxHeartbeats 100000 in
theorem kE349_49 : ex_CE 0 [] cd_349 k349_49 q349_49 := e_iload_iload_n 49 0 2 2 rfl (e_psh_ldc 50 2147483639 200 (e_icmp_gt 52 58 6 (e_psh_ldc 55 2147483639 200 (e_ireturn 57 0 ))))
set_option maxHeartbeats 100000 in
def k349_0 : ex_C := c_iload 0 (c_iload 1 (c_iadd (c_istore 2 (c_iload 2 (c_if_ge 49 (c_none))))))
set_option maxHeartbeats 100000 in
theorem kE349_0 : ex_CE 0 [] cd_349 k349_0 q349_0 := e_iload_iload_n 0 0 0 0 rfl (e_iload_iload_n 1 0 1 1 rfl (e_iadd 2 0 (e_istore_istore_n 3 0 2 2 rfl (e_iload_iload_n 4 0 2 2 rfl (e_if_ge 5 49 44 (e_bad))))))
def kt_349 : Nat → Option ex_C := fun pc => @Bool.rec (fun _ => Nat → Option ex_C) (fun pc => @Bool.rec (fun _ => Nat → Option ex_C) (fun pc => @Bool.rec (fun _ => Option ex_C) none (some k349_58) (Nat.beq pc 58)) (fun pc => @Bool.rec (fun _ => Option ex_C) none (some k349_49) (Nat.beq pc 49)) (Nat.ble pc 49) pc) (fun pc => @Bool.rec (fun _ => Option ex_C) none (some k349_0) (Nat.beq pc 0)) (Nat.ble pc 0) pc
theorem ktE_349 : ex_CTT 0 [] cd_349 kt_349 cd_349 := (ex_ct2 (ex_ct1 kE349_0) (ex_ct2 (ex_ct1 kE349_49) (ex_ct1 kE349_58)))
set_option maxHeartbeats 100000 in
def k350_16 : ex_C := c_iload 0 (c_ireturn  0)
set_option maxHeartbeats 100000 in
theorem kE350_16 : ex_CE 0 [] cd_350 k350_16 q350_16 := e_iload_iload_n 16 0 0 0 rfl (e_ireturn 17 0 )
set_option maxHeartbeats 100000 in
def k350_9 : ex_C := c_aload 2 (c_iload 0 (c_iload 1 (c_none)))
set_option maxHeartbeats 100000 in
theorem kE350_9 : ex_CE 0 [] cd_350 k350_9 q350_9 := e_aload_aload_n 9 0 2 2 rfl (e_iload_iload_n 10 0 0 0 rfl (e_iload_iload_n 11 0 1 1 rfl (e_bad)))
set_option maxHeartbeats 100000 in
def k350_0 : ex_C := c_iload 0 (c_if_lt 9 (c_iload 0 (c_iload 1 (c_icmp_lt 16 (k350_9)))))
set_option maxHeartbeats 100000 in
theorem kE350_0 : ex_CE 0 [] cd_350 k350_0 q350_0 := e_iload_iload_n 0 0 0 0 rfl (e_if_lt 1 9 8 (e_iload_iload_n 4 0 0 0 rfl (e_iload_iload_n 5 0 1 1 rfl (e_icmp_lt 6 16 10 (kE350_9)))))
def kt_350 : Nat → Option ex_C := fun pc => @Bool.rec (fun _ => Nat → Option ex_C) (fun pc => @Bool.rec (fun _ => Nat → Option ex_C) (fun pc => @Bool.rec (fun _ => Option ex_C) none (some k350_16) (Nat.beq pc 16)) (fun pc => @Bool.rec (fun _ => Option ex_C) none (some k350_9) (Nat.beq pc 9)) (Nat.ble pc 9) pc) (fun pc => @Bool.rec (fun _ => Option ex_C) none (some k350_0) (Nat.beq pc 0)) (Nat.ble pc 0) pc
theorem ktE_350 : ex_CTT 0 [] cd_350 kt_350 cd_350 := (ex_ct2 (ex_ct1 kE350_0) (ex_ct2 (ex_ct1 kE350_9) (ex_ct1 kE350_16)))
set_option maxHeartbeats 100000 in
def k351_22 : ex_C := c_iload 0 (c_ireturn  0)
set_option maxHeartbeats 100000 in
theorem kE351_22 : ex_CE 0 [] cd_351 k351_22 q351_22 := e_iload_iload_n 22 0 0 0 rfl (e_ireturn 23 0 )
set_option maxHeartbeats 100000 in
def k351_14 : ex_C := c_aload 3 (c_iload 0 (c_iload 1 (c_iload 2 (c_none))))
set_option maxHeartbeats 100000 in
theorem kE351_14 : ex_CE 0 [] cd_351 k351_14 q351_14 := e_aload_aload_n 14 0 3 3 rfl (e_iload_iload_n 15 0 0 0 rfl (e_iload_iload_n 16 0 1 1 rfl (e_iload_iload_n 17 0 2 2 rfl (e_bad))))
set_option maxHeartbeats 100000 in
def k351_0 : ex_C := c_iload 0 (c_if_lt 14 (c_iload 0 (c_iload 1 (c_icmp_gt 14 (c_iload 1 (c_iload 2 (c_icmp_le 22 (k351_14))))))))
set_option maxHeartbeats 100000 in
theorem kE351_0 : ex_CE 0 [] cd_351 k351_0 q351_0 := e_iload_iload_n 0 0 0 0 rfl (e_if_lt 1 14 13 (e_iload_iload_n 4 0 0 0 rfl (e_iload_iload_n 5 0 1 1 rfl (e_icmp_gt 6 14 8 (e_iload_iload_n 9 0 1 1 rfl (e_iload_iload_n 10 0 2 2 rfl (e_icmp_le 11 22 11 (kE351_14))))))))
def kt_351 : Nat → Option ex_C := fun pc => @Bool.rec (fun _ => Nat → Option ex_C) (fun pc => @Bool.rec (fun _ => Nat → Option ex_C) (fun pc => @Bool.rec (fun _ => Option ex_C) none (some k351_22) (Nat.beq pc 22)) (fun pc => @Bool.rec (fun _ => Option ex_C) none (some k351_14) (Nat.beq pc 14)) (Nat.ble pc 14) pc) (fun pc => @Bool.rec (fun _ => Option ex_C) none (some k351_0) (Nat.beq pc 0)) (Nat.ble pc 0) pc
theorem ktE_351 : ex_CTT 0 [] cd_351 kt_351 cd_351 := (ex_ct2 (ex_ct1 kE351_0) (ex_ct2 (ex_ct1 kE351_14) (ex_ct1 kE351_22)))
set_option maxHeartbeats 100000 in
def k352_15 : ex_C := c_psh 0 (c_ireturn  0)
set_option maxHeartbeats 100000 in
theorem kE352_15 : ex_CE 0 [(0, 9, 12, 1)] cd_352 k352_15 q352_15 := e_psh_iconst 15 0 0 (e_ireturn 16 0 )
set_option maxHeartbeats 100000 in
def k352_13 : ex_C := c_psh 1 (c_ireturn  0)
set_option maxHeartbeats 100000 in
theorem kE352_13 : ex_CE 0 [(0, 9, 12, 1)] cd_352 k352_13 q352_13 := e_psh_iconst 13 1 1 (e_ireturn 14 0 )
set_option maxHeartbeats 100000 in
def k352_12 : ex_C := c_astore 3 (k352_13)
set_option maxHeartbeats 100000 in
theorem kE352_12 : ex_CE 0 [(0, 9, 12, 1)] cd_352 k352_12 q352_12 := e_astore_astore_n 12 13 3 3 rfl (kE352_13)
set_option maxHeartbeats 100000 in
def k352_0 : ex_C := c_aload 2 (c_psh 0 (c_aload 0 (c_iload 1 (c_invV [(0, 9, 12, 1)] cd_352 4 2 96 0 (c_i2l   (c_lastore   (c_goto 15)))))))
set_option maxHeartbeats 100000 in
theorem kE352_0 : ex_CE 0 [(0, 9, 12, 1)] cd_352 k352_0 q352_0 := e_aload_aload_n 0 0 2 2 rfl (e_psh_iconst 1 0 0 (e_aload_aload_n 2 0 0 0 rfl (e_iload_iload_n 3 0 1 1 rfl (e_invV_invokevirtual 4 917506 7 2 96 0 rfl rfl rfl rfl rfl rfl (e_i2l 7 0  (e_lastore 8 0  (e_goto 9 15 6)))))))
def kt_352 : Nat → Option ex_C := fun pc => @Bool.rec (fun _ => Nat → Option ex_C) (fun pc => @Bool.rec (fun _ => Nat → Option ex_C) (fun pc => @Bool.rec (fun _ => Option ex_C) none (some k352_15) (Nat.beq pc 15)) (fun pc => @Bool.rec (fun _ => Option ex_C) none (some k352_13) (Nat.beq pc 13)) (Nat.ble pc 13) pc) (fun pc => @Bool.rec (fun _ => Nat → Option ex_C) (fun pc => @Bool.rec (fun _ => Option ex_C) none (some k352_12) (Nat.beq pc 12)) (fun pc => @Bool.rec (fun _ => Option ex_C) none (some k352_0) (Nat.beq pc 0)) (Nat.ble pc 0) pc) (Nat.ble pc 12) pc
theorem ktE_352 : ex_CTT 0 [(0, 9, 12, 1)] cd_352 kt_352 cd_352 := (ex_ct2 (ex_ct2 (ex_ct1 kE352_0) (ex_ct1 kE352_12)) (ex_ct2 (ex_ct1 kE352_13) (ex_ct1 kE352_15)))
set_option maxHeartbeats 100000 in
def k353_15 : ex_C := c_psh 0 (c_ireturn  0)
set_option maxHeartbeats 100000 in
theorem kE353_15 : ex_CE 0 [(0, 9, 12, 1)] cd_353 k353_15 q353_15 := e_psh_iconst 15 0 0 (e_ireturn 16 0 )
set_option maxHeartbeats 100000 in
def k353_13 : ex_C := c_psh 1 (c_ireturn  0)
set_option maxHeartbeats 100000 in
theorem kE353_13 : ex_CE 0 [(0, 9, 12, 1)] cd_353 k353_13 q353_13 := e_psh_iconst 13 1 1 (e_ireturn 14 0 )
set_option maxHeartbeats 100000 in
def k353_12 : ex_C := c_astore 3 (k353_13)
set_option maxHeartbeats 100000 in
theorem kE353_12 : ex_CE 0 [(0, 9, 12, 1)] cd_353 k353_12 q353_12 := e_astore_astore_n 12 13 3 3 rfl (kE353_13)
set_option maxHeartbeats 100000 in
def k353_0 : ex_C := c_aload 2 (c_psh 0 (c_aload 0 (c_iload 1 (c_invV [(0, 9, 12, 1)] cd_353 4 2 97 0 (c_i2l   (c_lastore   (c_goto 15)))))))
set_option maxHeartbeats 100000 in
theorem kE353_0 : ex_CE 0 [(0, 9, 12, 1)] cd_353 k353_0 q353_0 := e_aload_aload_n 0 0 2 2 rfl (e_psh_iconst 1 0 0 (e_aload_aload_n 2 0 0 0 rfl (e_iload_iload_n 3 0 1 1 rfl (e_invV_invokevirtual 4 925698 15 2 97 0 rfl rfl rfl rfl rfl rfl (e_i2l 7 0  (e_lastore 8 0  (e_goto 9 15 6)))))))
def kt_353 : Nat → Option ex_C := fun pc => @Bool.rec (fun _ => Nat → Option ex_C) (fun pc => @Bool.rec (fun _ => Nat → Option ex_C) (fun pc => @Bool.rec (fun _ => Option ex_C) none (some k353_15) (Nat.beq pc 15)) (fun pc => @Bool.rec (fun _ => Option ex_C) none (some k353_13) (Nat.beq pc 13)) (Nat.ble pc 13) pc) (fun pc => @Bool.rec (fun _ => Nat → Option ex_C) (fun pc => @Bool.rec (fun _ => Option ex_C) none (some k353_12) (Nat.beq pc 12)) (fun pc => @Bool.rec (fun _ => Option ex_C) none (some k353_0) (Nat.beq pc 0)) (Nat.ble pc 0) pc) (Nat.ble pc 12) pc
theorem ktE_353 : ex_CTT 0 [(0, 9, 12, 1)] cd_353 kt_353 cd_353 := (ex_ct2 (ex_ct2 (ex_ct1 kE353_0) (ex_ct1 kE353_12)) (ex_ct2 (ex_ct1 kE353_13) (ex_ct1 kE353_15)))
set_option maxHeartbeats 100000 in
def k354_15 : ex_C := c_psh 0 (c_ireturn  0)
set_option maxHeartbeats 100000 in
theorem kE354_15 : ex_CE 0 [(0, 9, 12, 1)] cd_354 k354_15 q354_15 := e_psh_iconst 15 0 0 (e_ireturn 16 0 )
set_option maxHeartbeats 100000 in
def k354_13 : ex_C := c_psh 1 (c_ireturn  0)
set_option maxHeartbeats 100000 in
theorem kE354_13 : ex_CE 0 [(0, 9, 12, 1)] cd_354 k354_13 q354_13 := e_psh_iconst 13 1 1 (e_ireturn 14 0 )
set_option maxHeartbeats 100000 in
def k354_12 : ex_C := c_astore 3 (k354_13)
set_option maxHeartbeats 100000 in
theorem kE354_12 : ex_CE 0 [(0, 9, 12, 1)] cd_354 k354_12 q354_12 := e_astore_astore_n 12 13 3 3 rfl (kE354_13)
set_option maxHeartbeats 100000 in
def k354_0 : ex_C := c_aload 2 (c_psh 0 (c_aload 0 (c_iload 1 (c_invV [(0, 9, 12, 1)] cd_354 4 2 98 0 (c_i2l   (c_lastore   (c_goto 15)))))))
set_option maxHeartbeats 100000 in
theorem kE354_0 : ex_CE 0 [(0, 9, 12, 1)] cd_354 k354_0 q354_0 := e_aload_aload_n 0 0 2 2 rfl (e_psh_iconst 1 0 0 (e_aload_aload_n 2 0 0 0 rfl (e_iload_iload_n 3 0 1 1 rfl (e_invV_invokevirtual 4 933890 18 2 98 0 rfl rfl rfl rfl rfl rfl (e_i2l 7 0  (e_lastore 8 0  (e_goto 9 15 6)))))))
def kt_354 : Nat → Option ex_C := fun pc => @Bool.rec (fun _ => Nat → Option ex_C) (fun pc => @Bool.rec (fun _ => Nat → Option ex_C) (fun pc => @Bool.rec (fun _ => Option ex_C) none (some k354_15) (Nat.beq pc 15)) (fun pc => @Bool.rec (fun _ => Option ex_C) none (some k354_13) (Nat.beq pc 13)) (Nat.ble pc 13) pc) (fun pc => @Bool.rec (fun _ => Nat → Option ex_C) (fun pc => @Bool.rec (fun _ => Option ex_C) none (some k354_12) (Nat.beq pc 12)) (fun pc => @Bool.rec (fun _ => Option ex_C) none (some k354_0) (Nat.beq pc 0)) (Nat.ble pc 0) pc) (Nat.ble pc 12) pc
theorem ktE_354 : ex_CTT 0 [(0, 9, 12, 1)] cd_354 kt_354 cd_354 := (ex_ct2 (ex_ct2 (ex_ct1 kE354_0) (ex_ct1 kE354_12)) (ex_ct2 (ex_ct1 kE354_13) (ex_ct1 kE354_15)))
set_option maxHeartbeats 100000 in
def k355_29 : ex_C := c_psh 0 (c_ireturn  0)
set_option maxHeartbeats 100000 in
theorem kE355_29 : ex_CE 0 [(0, 14, 17, 1), (0, 14, 21, 2), (0, 14, 25, 3)] cd_355 k355_29 q355_29 := e_psh_iconst 29 0 0 (e_ireturn 30 0 )
set_option maxHeartbeats 100000 in
def k355_27 : ex_C := c_psh 3 (c_ireturn  0)
set_option maxHeartbeats 100000 in
theorem kE355_27 : ex_CE 0 [(0, 14, 17, 1), (0, 14, 21, 2), (0, 14, 25, 3)] cd_355 k355_27 q355_27 := e_psh_iconst 27 3 3 (e_ireturn 28 0 )
set_option maxHeartbeats 100000 in
def k355_25 : ex_C := c_astore 6 (k355_27)
set_option maxHeartbeats 100000 in
theorem kE355_25 : ex_CE 0 [(0, 14, 17, 1), (0, 14, 21, 2), (0, 14, 25, 3)] cd_355 k355_25 q355_25 := e_astore_astore 25 27 6 (kE355_27)
set_option maxHeartbeats 100000 in
def k355_23 : ex_C := c_psh 2 (c_ireturn  0)
set_option maxHeartbeats 100000 in
theorem kE355_23 : ex_CE 0 [(0, 14, 17, 1), (0, 14, 21, 2), (0, 14, 25, 3)] cd_355 k355_23 q355_23 := e_psh_iconst 23 2 2 (e_ireturn 24 0 )
set_option maxHeartbeats 100000 in
def k355_21 : ex_C := c_astore 6 (k355_23)
set_option maxHeartbeats 100000 in
theorem kE355_21 : ex_CE 0 [(0, 14, 17, 1), (0, 14, 21, 2), (0, 14, 25, 3)] cd_355 k355_21 q355_21 := e_astore_astore 21 23 6 (kE355_23)
set_option maxHeartbeats 100000 in
def k355_19 : ex_C := c_psh 1 (c_ireturn  0)
set_option maxHeartbeats 100000 in
theorem kE355_19 : ex_CE 0 [(0, 14, 17, 1), (0, 14, 21, 2), (0, 14, 25, 3)] cd_355 k355_19 q355_19 := e_psh_iconst 19 1 1 (e_ireturn 20 0 )
set_option maxHeartbeats 100000 in
def k355_17 : ex_C := c_astore 6 (k355_19)
set_option maxHeartbeats 100000 in
theorem kE355_17 : ex_CE 0 [(0, 14, 17, 1), (0, 14, 21, 2), (0, 14, 25, 3)] cd_355 k355_17 q355_17 := e_astore_astore 17 19 6 (kE355_19)
set_option maxHeartbeats 100000 in
def k355_0 : ex_C := c_aload 5 (c_psh 0 (c_aload 0 (c_iload 1 (c_iload 2 (c_iload 3 (c_iload 4 (c_invV [(0, 14, 17, 1), (0, 14, 21, 2), (0, 14, 25, 3)] cd_355 9 5 99 0 (c_i2l   (c_lastore   (c_goto 29))))))))))
set_option maxHeartbeats 100000 in
theorem kE355_0 : ex_CE 0 [(0, 14, 17, 1), (0, 14, 21, 2), (0, 14, 25, 3)] cd_355 k355_0 q355_0 := e_aload_aload 0 0 5 (e_psh_iconst 2 0 0 (e_aload_aload_n 3 0 0 0 rfl (e_iload_iload_n 4 0 1 1 rfl (e_iload_iload_n 5 0 2 2 rfl (e_iload_iload_n 6 0 3 3 rfl (e_iload_iload 7 0 4 (e_invV_invokevirtual 9 942085 21 5 99 0 rfl rfl rfl rfl rfl rfl (e_i2l 12 0  (e_lastore 13 0  (e_goto 14 29 15))))))))))
def kt_355 : Nat → Option ex_C := fun pc => @Bool.rec (fun _ => Nat → Option ex_C) (fun pc => @Bool.rec (fun _ => Nat → Option ex_C) (fun pc => @Bool.rec (fun _ => Nat → Option ex_C) (fun pc => @Bool.rec (fun _ => Option ex_C) none (some k355_29) (Nat.beq pc 29)) (fun pc => @Bool.rec (fun _ => Option ex_C) none (some k355_27) (Nat.beq pc 27)) (Nat.ble pc 27) pc) (fun pc => @Bool.rec (fun _ => Nat → Option ex_C) (fun pc => @Bool.rec (fun _ => Option ex_C) none (some k355_25) (Nat.beq pc 25)) (fun pc => @Bool.rec (fun _ => Option ex_C) none (some k355_23) (Nat.beq pc 23)) (Nat.ble pc 23) pc) (Nat.ble pc 25) pc) (fun pc => @Bool.rec (fun _ => Nat → Option ex_C) (fun pc => @Bool.rec (fun _ => Nat → Option ex_C) (fun pc => @Bool.rec (fun _ => Option ex_C) none (some k355_21) (Nat.beq pc 21)) (fun pc => @Bool.rec (fun _ => Option ex_C) none (some k355_19) (Nat.beq pc 19)) (Nat.ble pc 19) pc) (fun pc => @Bool.rec (fun _ => Nat → Option ex_C) (fun pc => @Bool.rec (fun _ => Option ex_C) none (some k355_17) (Nat.beq pc 17)) (fun pc => @Bool.rec (fun _ => Option ex_C) none (some k355_0) (Nat.beq pc 0)) (Nat.ble pc 0) pc) (Nat.ble pc 17) pc) (Nat.ble pc 21) pc
theorem ktE_355 : ex_CTT 0 [(0, 14, 17, 1), (0, 14, 21, 2), (0, 14, 25, 3)] cd_355 kt_355 cd_355 := (ex_ct2 (ex_ct2 (ex_ct2 (ex_ct1 kE355_0) (ex_ct1 kE355_17)) (ex_ct2 (ex_ct1 kE355_19) (ex_ct1 kE355_21))) (ex_ct2 (ex_ct2 (ex_ct1 kE355_23) (ex_ct1 kE355_25)) (ex_ct2 (ex_ct1 kE355_27) (ex_ct1 kE355_29))))
set_option maxHeartbeats 100000 in
def k356_21 : ex_C := c_psh 0 (c_ireturn  0)
set_option maxHeartbeats 100000 in
theorem kE356_21 : ex_CE 0 [(0, 10, 13, 1), (0, 10, 17, 2)] cd_356 k356_21 q356_21 := e_psh_iconst 21 0 0 (e_ireturn 22 0 )
set_option maxHeartbeats 100000 in
def k356_19 : ex_C := c_psh 2 (c_ireturn  0)
set_option maxHeartbeats 100000 in
theorem kE356_19 : ex_CE 0 [(0, 10, 13, 1), (0, 10, 17, 2)] cd_356 k356_19 q356_19 := e_psh_iconst 19 2 2 (e_ireturn 20 0 )
set_option maxHeartbeats 100000 in
def k356_17 : ex_C := c_astore 4 (k356_19)
set_option maxHeartbeats 100000 in
theorem kE356_17 : ex_CE 0 [(0, 10, 13, 1), (0, 10, 17, 2)] cd_356 k356_17 q356_17 := e_astore_astore 17 19 4 (kE356_19)
set_option maxHeartbeats 100000 in
def k356_15 : ex_C := c_psh 1 (c_ireturn  0)
set_option maxHeartbeats 100000 in
theorem kE356_15 : ex_CE 0 [(0, 10, 13, 1), (0, 10, 17, 2)] cd_356 k356_15 q356_15 := e_psh_iconst 15 1 1 (e_ireturn 16 0 )
set_option maxHeartbeats 100000 in
def k356_13 : ex_C := c_astore 4 (k356_15)
set_option maxHeartbeats 100000 in
theorem kE356_13 : ex_CE 0 [(0, 10, 13, 1), (0, 10, 17, 2)] cd_356 k356_13 q356_13 := e_astore_astore 13 15 4 (kE356_15)
set_option maxHeartbeats 100000 in
def k356_0 : ex_C := c_aload 3 (c_psh 0 (c_aload 0 (c_iload 1 (c_iload 2 (c_invV [(0, 10, 13, 1), (0, 10, 17, 2)] cd_356 5 3 100 0 (c_i2l   (c_lastore   (c_goto 21))))))))
set_option maxHeartbeats 100000 in
theorem kE356_0 : ex_CE 0 [(0, 10, 13, 1), (0, 10, 17, 2)] cd_356 k356_0 q356_0 := e_aload_aload_n 0 0 3 3 rfl (e_psh_iconst 1 0 0 (e_aload_aload_n 2 0 0 0 rfl (e_iload_iload_n 3 0 1 1 rfl (e_iload_iload_n 4 0 2 2 rfl (e_invV_invokevirtual 5 950275 29 3 100 0 rfl rfl rfl rfl rfl rfl (e_i2l 8 0  (e_lastore 9 0  (e_goto 10 21 11))))))))
def kt_356 : Nat → Option ex_C := fun pc => @Bool.rec (fun _ => Nat → Option ex_C) (fun pc => @Bool.rec (fun _ => Nat → Option ex_C) (fun pc => @Bool.rec (fun _ => Nat → Option ex_C) (fun pc => @Bool.rec (fun _ => Option ex_C) none (some k356_21) (Nat.beq pc 21)) (fun pc => @Bool.rec (fun _ => Option ex_C) none (some k356_19) (Nat.beq pc 19)) (Nat.ble pc 19) pc) (fun pc => @Bool.rec (fun _ => Option ex_C) none (some k356_17) (Nat.beq pc 17)) (Nat.ble pc 17) pc) (fun pc => @Bool.rec (fun _ => Nat → Option ex_C) (fun pc => @Bool.rec (fun _ => Nat → Option ex_C) (fun pc => @Bool.rec (fun _ => Option ex_C) none (some k356_15) (Nat.beq pc 15)) (fun pc => @Bool.rec (fun _ => Option ex_C) none (some k356_13) (Nat.beq pc 13)) (Nat.ble pc 13) pc) (fun pc => @Bool.rec (fun _ => Option ex_C) none (some k356_0) (Nat.beq pc 0)) (Nat.ble pc 0) pc) (Nat.ble pc 15) pc
theorem ktE_356 : ex_CTT 0 [(0, 10, 13, 1), (0, 10, 17, 2)] cd_356 kt_356 cd_356 := (ex_ct2 (ex_ct2 (ex_ct1 kE356_0) (ex_ct2 (ex_ct1 kE356_13) (ex_ct1 kE356_15))) (ex_ct2 (ex_ct1 kE356_17) (ex_ct2 (ex_ct1 kE356_19) (ex_ct1 kE356_21))))
set_option maxHeartbeats 100000 in
def k357_15 : ex_C := c_psh 0 (c_ireturn  0)
set_option maxHeartbeats 100000 in
theorem kE357_15 : ex_CE 0 [(0, 9, 12, 2)] cd_357 k357_15 q357_15 := e_psh_iconst 15 0 0 (e_ireturn 16 0 )
set_option maxHeartbeats 100000 in
def k357_13 : ex_C := c_psh 1 (c_ireturn  0)
set_option maxHeartbeats 100000 in
theorem kE357_13 : ex_CE 0 [(0, 9, 12, 2)] cd_357 k357_13 q357_13 := e_psh_iconst 13 1 1 (e_ireturn 14 0 )
set_option maxHeartbeats 100000 in
def k357_12 : ex_C := c_astore 3 (k357_13)
set_option maxHeartbeats 100000 in
theorem kE357_12 : ex_CE 0 [(0, 9, 12, 2)] cd_357 k357_12 q357_12 := e_astore_astore_n 12 13 3 3 rfl (kE357_13)
set_option maxHeartbeats 100000 in
def k357_0 : ex_C := c_aload 2 (c_psh 0 (c_aload 0 (c_iload 1 (c_invV [(0, 9, 12, 2)] cd_357 4 2 101 0 (c_i2l   (c_lastore   (c_goto 15)))))))
set_option maxHeartbeats 100000 in
theorem kE357_0 : ex_CE 0 [(0, 9, 12, 2)] cd_357 k357_0 q357_0 := e_aload_aload_n 0 0 2 2 rfl (e_psh_iconst 1 0 0 (e_aload_aload_n 2 0 0 0 rfl (e_iload_iload_n 3 0 1 1 rfl (e_invV_invokevirtual 4 958466 33 2 101 0 rfl rfl rfl rfl rfl rfl (e_i2l 7 0  (e_lastore 8 0  (e_goto 9 15 6)))))))
def kt_357 : Nat → Option ex_C := fun pc => @Bool.rec (fun _ => Nat → Option ex_C) (fun pc => @Bool.rec (fun _ => Nat → Option ex_C) (fun pc => @Bool.rec (fun _ => Option ex_C) none (some k357_15) (Nat.beq pc 15)) (fun pc => @Bool.rec (fun _ => Option ex_C) none (some k357_13) (Nat.beq pc 13)) (Nat.ble pc 13) pc) (fun pc => @Bool.rec (fun _ => Nat → Option ex_C) (fun pc => @Bool.rec (fun _ => Option ex_C) none (some k357_12) (Nat.beq pc 12)) (fun pc => @Bool.rec (fun _ => Option ex_C) none (some k357_0) (Nat.beq pc 0)) (Nat.ble pc 0) pc) (Nat.ble pc 12) pc
theorem ktE_357 : ex_CTT 0 [(0, 9, 12, 2)] cd_357 kt_357 cd_357 := (ex_ct2 (ex_ct2 (ex_ct1 kE357_0) (ex_ct1 kE357_12)) (ex_ct2 (ex_ct1 kE357_13) (ex_ct1 kE357_15)))
set_option maxHeartbeats 100000 in
def k358_17 : ex_C := c_psh 0 (c_ireturn  0)
set_option maxHeartbeats 100000 in
theorem kE358_17 : ex_CE 0 [(0, 10, 13, 4)] cd_358 k358_17 q358_17 := e_psh_iconst 17 0 0 (e_ireturn 18 0 )
set_option maxHeartbeats 100000 in
def k358_15 : ex_C := c_psh 1 (c_ireturn  0)
set_option maxHeartbeats 100000 in
theorem kE358_15 : ex_CE 0 [(0, 10, 13, 4)] cd_358 k358_15 q358_15 := e_psh_iconst 15 1 1 (e_ireturn 16 0 )
set_option maxHeartbeats 100000 in
def k358_13 : ex_C := c_astore 4 (k358_15)
set_option maxHeartbeats 100000 in
theorem kE358_13 : ex_CE 0 [(0, 10, 13, 4)] cd_358 k358_13 q358_13 := e_astore_astore 13 15 4 (kE358_15)
set_option maxHeartbeats 100000 in
def k358_0 : ex_C := c_aload 3 (c_psh 0 (c_aload 0 (c_iload 1 (c_iload 2 (c_invV [(0, 10, 13, 4)] cd_358 5 3 102 0 (c_i2l   (c_lastore   (c_goto 17))))))))
set_option maxHeartbeats 100000 in
theorem kE358_0 : ex_CE 0 [(0, 10, 13, 4)] cd_358 k358_0 q358_0 := e_aload_aload_n 0 0 3 3 rfl (e_psh_iconst 1 0 0 (e_aload_aload_n 2 0 0 0 rfl (e_iload_iload_n 3 0 1 1 rfl (e_iload_iload_n 4 0 2 2 rfl (e_invV_invokevirtual 5 966659 36 3 102 0 rfl rfl rfl rfl rfl rfl (e_i2l 8 0  (e_lastore 9 0  (e_goto 10 17 7))))))))
def kt_358 : Nat → Option ex_C := fun pc => @Bool.rec (fun _ => Nat → Option ex_C) (fun pc => @Bool.rec (fun _ => Nat → Option ex_C) (fun pc => @Bool.rec (fun _ => Option ex_C) none (some k358_17) (Nat.beq pc 17)) (fun pc => @Bool.rec (fun _ => Option ex_C) none (some k358_15) (Nat.beq pc 15)) (Nat.ble pc 15) pc) (fun pc => @Bool.rec (fun _ => Nat → Option ex_C) (fun pc => @Bool.rec (fun _ => Option ex_C) none (some k358_13) (Nat.beq pc 13)) (fun pc => @Bool.rec (fun _ => Option ex_C) none (some k358_0) (Nat.beq pc 0)) (Nat.ble pc 0) pc) (Nat.ble pc 13) pc
theorem ktE_358 : ex_CTT 0 [(0, 10, 13, 4)] cd_358 kt_358 cd_358 := (ex_ct2 (ex_ct2 (ex_ct1 kE358_0) (ex_ct1 kE358_13)) (ex_ct2 (ex_ct1 kE358_15) (ex_ct1 kE358_17)))
set_option maxHeartbeats 100000 in
def k359_21 : ex_C := c_psh 0 (c_ireturn  0)
set_option maxHeartbeats 100000 in
theorem kE359_21 : ex_CE 0 [(0, 10, 13, 1), (0, 10, 17, 2)] cd_359 k359_21 q359_21 := e_psh_iconst 21 0 0 (e_ireturn 22 0 )
set_option maxHeartbeats 100000 in
def k359_19 : ex_C := c_psh 2 (c_ireturn  0)
set_option maxHeartbeats 100000 in
theorem kE359_19 : ex_CE 0 [(0, 10, 13, 1), (0, 10, 17, 2)] cd_359 k359_19 q359_19 := e_psh_iconst 19 2 2 (e_ireturn 20 0 )
set_option maxHeartbeats 100000 in
def k359_17 : ex_C := c_astore 4 (k359_19)
set_option maxHeartbeats 100000 in
theorem kE359_17 : ex_CE 0 [(0, 10, 13, 1), (0, 10, 17, 2)] cd_359 k359_17 q359_17 := e_astore_astore 17 19 4 (kE359_19)
set_option maxHeartbeats 100000 in
def k359_15 : ex_C := c_psh 1 (c_ireturn  0)
set_option maxHeartbeats 100000 in
theorem kE359_15 : ex_CE 0 [(0, 10, 13, 1), (0, 10, 17, 2)] cd_359 k359_15 q359_15 := e_psh_iconst 15 1 1 (e_ireturn 16 0 )
set_option maxHeartbeats 100000 in
def k359_13 : ex_C := c_astore 4 (k359_15)
set_option maxHeartbeats 100000 in
theorem kE359_13 : ex_CE 0 [(0, 10, 13, 1), (0, 10, 17, 2)] cd_359 k359_13 q359_13 := e_astore_astore 13 15 4 (kE359_15)
set_option maxHeartbeats 100000 in
def k359_0 : ex_C := c_aload 3 (c_psh 0 (c_aload 0 (c_iload 1 (c_iload 2 (c_invV [(0, 10, 13, 1), (0, 10, 17, 2)] cd_359 5 3 103 0 (c_i2l   (c_lastore   (c_goto 21))))))))
set_option maxHeartbeats 100000 in
theorem kE359_0 : ex_CE 0 [(0, 10, 13, 1), (0, 10, 17, 2)] cd_359 k359_0 q359_0 := e_aload_aload_n 0 0 3 3 rfl (e_psh_iconst 1 0 0 (e_aload_aload_n 2 0 0 0 rfl (e_iload_iload_n 3 0 1 1 rfl (e_iload_iload_n 4 0 2 2 rfl (e_invV_invokevirtual 5 974851 41 3 103 0 rfl rfl rfl rfl rfl rfl (e_i2l 8 0  (e_lastore 9 0  (e_goto 10 21 11))))))))
def kt_359 : Nat → Option ex_C := fun pc => @Bool.rec (fun _ => Nat → Option ex_C) (fun pc => @Bool.rec (fun _ => Nat → Option ex_C) (fun pc => @Bool.rec (fun _ => Nat → Option ex_C) (fun pc => @Bool.rec (fun _ => Option ex_C) none (some k359_21) (Nat.beq pc 21)) (fun pc => @Bool.rec (fun _ => Option ex_C) none (some k359_19) (Nat.beq pc 19)) (Nat.ble pc 19) pc) (fun pc => @Bool.rec (fun _ => Option ex_C) none (some k359_17) (Nat.beq pc 17)) (Nat.ble pc 17) pc) (fun pc => @Bool.rec (fun _ => Nat → Option ex_C) (fun pc => @Bool.rec (fun _ => Nat → Option ex_C) (fun pc => @Bool.rec (fun _ => Option ex_C) none (some k359_15) (Nat.beq pc 15)) (fun pc => @Bool.rec (fun _ => Option ex_C) none (some k359_13) (Nat.beq pc 13)) (Nat.ble pc 13) pc) (fun pc => @Bool.rec (fun _ => Option ex_C) none (some k359_0) (Nat.beq pc 0)) (Nat.ble pc 0) pc) (Nat.ble pc 15) pc
theorem ktE_359 : ex_CTT 0 [(0, 10, 13, 1), (0, 10, 17, 2)] cd_359 kt_359 cd_359 := (ex_ct2 (ex_ct2 (ex_ct1 kE359_0) (ex_ct2 (ex_ct1 kE359_13) (ex_ct1 kE359_15))) (ex_ct2 (ex_ct1 kE359_17) (ex_ct2 (ex_ct1 kE359_19) (ex_ct1 kE359_21))))
end
