noncomputable section
set_option maxHeartbeats 100000 in
def k360_27 : ex_C := c_psh 0 (c_ireturn  0)
set_option maxHeartbeats 100000 in
theorem kE360_27 : ex_CE 0 [(0, 12, 15, 2), (0, 12, 19, 3), (0, 12, 23, 5)] cd_360 k360_27 q360_27 := e_psh_iconst 27 0 0 (e_ireturn 28 0 )
set_option maxHeartbeats 100000 in
def k360_25 : ex_C := c_psh 3 (c_ireturn  0)
set_option maxHeartbeats 100000 in
theorem kE360_25 : ex_CE 0 [(0, 12, 15, 2), (0, 12, 19, 3), (0, 12, 23, 5)] cd_360 k360_25 q360_25 := e_psh_iconst 25 3 3 (e_ireturn 26 0 )
set_option maxHeartbeats 100000 in
def k360_23 : ex_C := c_astore 5 (k360_25)
set_option maxHeartbeats 100000 in
theorem kE360_23 : ex_CE 0 [(0, 12, 15, 2), (0, 12, 19, 3), (0, 12, 23, 5)] cd_360 k360_23 q360_23 := e_astore_astore 23 25 5 (kE360_25)
set_option maxHeartbeats 100000 in
def k360_21 : ex_C := c_psh 2 (c_ireturn  0)
set_option maxHeartbeats 100000 in
theorem kE360_21 : ex_CE 0 [(0, 12, 15, 2), (0, 12, 19, 3), (0, 12, 23, 5)] cd_360 k360_21 q360_21 := e_psh_iconst 21 2 2 (e_ireturn 22 0 )
set_option maxHeartbeats 100000 in
def k360_19 : ex_C := c_astore 5 (k360_21)
set_option maxHeartbeats 100000 in
theorem kE360_19 : ex_CE 0 [(0, 12, 15, 2), (0, 12, 19, 3), (0, 12, 23, 5)] cd_360 k360_19 q360_19 := e_astore_astore 19 21 5 (kE360_21)
set_option maxHeartbeats 100000 in
def k360_17 : ex_C := c_psh 1 (c_ireturn  0)
set_option maxHeartbeats 100000 in
theorem kE360_17 : ex_CE 0 [(0, 12, 15, 2), (0, 12, 19, 3), (0, 12, 23, 5)] cd_360 k360_17 q360_17 := e_psh_iconst 17 1 1 (e_ireturn 18 0 )
set_option maxHeartbeats 100000 in
def k360_15 : ex_C := c_astore 5 (k360_17)
set_option maxHeartbeats 100000 in
theorem kE360_15 : ex_CE 0 [(0, 12, 15, 2), (0, 12, 19, 3), (0, 12, 23, 5)] cd_360 k360_15 q360_15 := e_astore_astore 15 17 5 (kE360_17)
set_option maxHeartbeats 100000 in
def k360_0 : ex_C := c_aload 4 (c_psh 0 (c_aload 0 (c_iload 1 (c_iload 2 (c_iload 3 (c_invV [(0, 12, 15, 2), (0, 12, 19, 3), (0, 12, 23, 5)] cd_360 7 4 104 0 (c_i2l   (c_lastore   (c_goto 27)))))))))
set_option maxHeartbeats 100000 in
theorem kE360_0 : ex_CE 0 [(0, 12, 15, 2), (0, 12, 19, 3), (0, 12, 23, 5)] cd_360 k360_0 q360_0 := e_aload_aload 0 0 4 (e_psh_iconst 2 0 0 (e_aload_aload_n 3 0 0 0 rfl (e_iload_iload_n 4 0 1 1 rfl (e_iload_iload_n 5 0 2 2 rfl (e_iload_iload_n 6 0 3 3 rfl (e_invV_invokevirtual 7 983044 44 4 104 0 rfl rfl rfl rfl rfl rfl (e_i2l 10 0  (e_lastore 11 0  (e_goto 12 27 15)))))))))
def kt_360 : Nat → Option ex_C := fun pc => @Bool.rec (fun _ => Nat → Option ex_C) (fun pc => @Bool.rec (fun _ => Nat → Option ex_C) (fun pc => @Bool.rec (fun _ => Nat → Option ex_C) (fun pc => @Bool.rec (fun _ => Option ex_C) none (some k360_27) (Nat.beq pc 27)) (fun pc => @Bool.rec (fun _ => Option ex_C) none (some k360_25) (Nat.beq pc 25)) (Nat.ble pc 25) pc) (fun pc => @Bool.rec (fun _ => Nat → Option ex_C) (fun pc => @Bool.rec (fun _ => Option ex_C) none (some k360_23) (Nat.beq pc 23)) (fun pc => @Bool.rec (fun _ => Option ex_C) none (some k360_21) (Nat.beq pc 21)) (Nat.ble pc 21) pc) (Nat.ble pc 23) pc) (fun pc => @Bool.rec (fun _ => Nat → Option ex_C) (fun pc => @Bool.rec (fun _ => Nat → Option ex_C) (fun pc => @Bool.rec (fun _ => Option ex_C) none (some k360_19) (Nat.beq pc 19)) (fun pc => @Bool.rec (fun _ => Option ex_C) none (some k360_17) (Nat.beq pc 17)) (Nat.ble pc 17) pc) (fun pc => @Bool.rec (fun _ => Nat → Option ex_C) (fun pc => @Bool.rec (fun _ => Option ex_C) none (some k360_15) (Nat.beq pc 15)) (fun pc => @Bool.rec (fun _ => Option ex_C) none (some k360_0) (Nat.beq pc 0)) (Nat.ble pc 0) pc) (Nat.ble pc 15) pc) (Nat.ble pc 19) pc
theorem ktE_360 : ex_CTT 0 [(0, 12, 15, 2), (0, 12, 19, 3), (0, 12, 23, 5)] cd_360 kt_360 cd_360 := (ex_ct2 (ex_ct2 (ex_ct2 (ex_ct1 kE360_0) (ex_ct1 kE360_15)) (ex_ct2 (ex_ct1 kE360_17) (ex_ct1 kE360_19))) (ex_ct2 (ex_ct2 (ex_ct1 kE360_21) (ex_ct1 kE360_23)) (ex_ct2 (ex_ct1 kE360_25) (ex_ct1 kE360_27))))
set_option maxHeartbeats 100000 in
def k361_15 : ex_C := c_psh 0 (c_ireturn  0)
set_option maxHeartbeats 100000 in
theorem kE361_15 : ex_CE 0 [(0, 9, 12, 2)] cd_361 k361_15 q361_15 := e_psh_iconst 15 0 0 (e_ireturn 16 0 )
set_option maxHeartbeats 100000 in
def k361_13 : ex_C := c_psh 1 (c_ireturn  0)
set_option maxHeartbeats 100000 in
theorem kE361_13 : ex_CE 0 [(0, 9, 12, 2)] cd_361 k361_13 q361_13 := e_psh_iconst 13 1 1 (e_ireturn 14 0 )
set_option maxHeartbeats 100000 in
def k361_12 : ex_C := c_astore 3 (k361_13)
set_option maxHeartbeats 100000 in
theorem kE361_12 : ex_CE 0 [(0, 9, 12, 2)] cd_361 k361_12 q361_12 := e_astore_astore_n 12 13 3 3 rfl (kE361_13)
set_option maxHeartbeats 100000 in
def k361_0 : ex_C := c_aload 2 (c_psh 0 (c_aload 0 (c_iload 1 (c_invV [(0, 9, 12, 2)] cd_361 4 2 106 0 (c_i2l   (c_lastore   (c_goto 15)))))))
set_option maxHeartbeats 100000 in
theorem kE361_0 : ex_CE 0 [(0, 9, 12, 2)] cd_361 k361_0 q361_0 := e_aload_aload_n 0 0 2 2 rfl (e_psh_iconst 1 0 0 (e_aload_aload_n 2 0 0 0 rfl (e_iload_iload_n 3 0 1 1 rfl (e_invV_invokevirtual 4 999426 50 2 106 0 rfl rfl rfl rfl rfl rfl (e_i2l 7 0  (e_lastore 8 0  (e_goto 9 15 6)))))))
def kt_361 : Nat → Option ex_C := fun pc => @Bool.rec (fun _ => Nat → Option ex_C) (fun pc => @Bool.rec (fun _ => Nat → Option ex_C) (fun pc => @Bool.rec (fun _ => Option ex_C) none (some k361_15) (Nat.beq pc 15)) (fun pc => @Bool.rec (fun _ => Option ex_C) none (some k361_13) (Nat.beq pc 13)) (Nat.ble pc 13) pc) (fun pc => @Bool.rec (fun _ => Nat → Option ex_C) (fun pc => @Bool.rec (fun _ => Option ex_C) none (some k361_12) (Nat.beq pc 12)) (fun pc => @Bool.rec (fun _ => Option ex_C) none (some k361_0) (Nat.beq pc 0)) (Nat.ble pc 0) pc) (Nat.ble pc 12) pc
theorem ktE_361 : ex_CTT 0 [(0, 9, 12, 2)] cd_361 kt_361 cd_361 := (ex_ct2 (ex_ct2 (ex_ct1 kE361_0) (ex_ct1 kE361_12)) (ex_ct2 (ex_ct1 kE361_13) (ex_ct1 kE361_15)))
set_option maxHeartbeats 100000 in
def k362_15 : ex_C := c_psh 0 (c_ireturn  0)
set_option maxHeartbeats 100000 in
theorem kE362_15 : ex_CE 0 [(0, 9, 12, 2)] cd_362 k362_15 q362_15 := e_psh_iconst 15 0 0 (e_ireturn 16 0 )
set_option maxHeartbeats 100000 in
def k362_13 : ex_C := c_psh 1 (c_ireturn  0)
set_option maxHeartbeats 100000 in
theorem kE362_13 : ex_CE 0 [(0, 9, 12, 2)] cd_362 k362_13 q362_13 := e_psh_iconst 13 1 1 (e_ireturn 14 0 )
set_option maxHeartbeats 100000 in
def k362_12 : ex_C := c_astore 3 (k362_13)
set_option maxHeartbeats 100000 in
theorem kE362_12 : ex_CE 0 [(0, 9, 12, 2)] cd_362 k362_12 q362_12 := e_astore_astore_n 12 13 3 3 rfl (kE362_13)
set_option maxHeartbeats 100000 in
def k362_0 : ex_C := c_aload 2 (c_psh 0 (c_aload 0 (c_iload 1 (c_invV [(0, 9, 12, 2)] cd_362 4 2 107 0 (c_i2l   (c_lastore   (c_goto 15)))))))
set_option maxHeartbeats 100000 in
theorem kE362_0 : ex_CE 0 [(0, 9, 12, 2)] cd_362 k362_0 q362_0 := e_aload_aload_n 0 0 2 2 rfl (e_psh_iconst 1 0 0 (e_aload_aload_n 2 0 0 0 rfl (e_iload_iload_n 3 0 1 1 rfl (e_invV_invokevirtual 4 1007618 53 2 107 0 rfl rfl rfl rfl rfl rfl (e_i2l 7 0  (e_lastore 8 0  (e_goto 9 15 6)))))))
def kt_362 : Nat → Option ex_C := fun pc => @Bool.rec (fun _ => Nat → Option ex_C) (fun pc => @Bool.rec (fun _ => Nat → Option ex_C) (fun pc => @Bool.rec (fun _ => Option ex_C) none (some k362_15) (Nat.beq pc 15)) (fun pc => @Bool.rec (fun _ => Option ex_C) none (some k362_13) (Nat.beq pc 13)) (Nat.ble pc 13) pc) (fun pc => @Bool.rec (fun _ => Nat → Option ex_C) (fun pc => @Bool.rec (fun _ => Option ex_C) none (some k362_12) (Nat.beq pc 12)) (fun pc => @Bool.rec (fun _ => Option ex_C) none (some k362_0) (Nat.beq pc 0)) (Nat.ble pc 0) pc) (Nat.ble pc 12) pc
theorem ktE_362 : ex_CTT 0 [(0, 9, 12, 2)] cd_362 kt_362 cd_362 := (ex_ct2 (ex_ct2 (ex_ct1 kE362_0) (ex_ct1 kE362_12)) (ex_ct2 (ex_ct1 kE362_13) (ex_ct1 kE362_15)))
set_option maxHeartbeats 100000 in
def k363_27 : ex_C := c_psh 0 (c_ireturn  0)
set_option maxHeartbeats 100000 in
theorem kE363_27 : ex_CE 0 [(0, 16, 19, 2), (0, 16, 23, 5)] cd_363 k363_27 q363_27 := e_psh_iconst 27 0 0 (e_ireturn 28 0 )
set_option maxHeartbeats 100000 in
def k363_25 : ex_C := c_psh 2 (c_ireturn  0)
set_option maxHeartbeats 100000 in
theorem kE363_25 : ex_CE 0 [(0, 16, 19, 2), (0, 16, 23, 5)] cd_363 k363_25 q363_25 := e_psh_iconst 25 2 2 (e_ireturn 26 0 )
set_option maxHeartbeats 100000 in
def k363_23 : ex_C := c_astore 7 (k363_25)
set_option maxHeartbeats 100000 in
theorem kE363_23 : ex_CE 0 [(0, 16, 19, 2), (0, 16, 23, 5)] cd_363 k363_23 q363_23 := e_astore_astore 23 25 7 (kE363_25)
set_option maxHeartbeats 100000 in
def k363_21 : ex_C := c_psh 1 (c_ireturn  0)
set_option maxHeartbeats 100000 in
theorem kE363_21 : ex_CE 0 [(0, 16, 19, 2), (0, 16, 23, 5)] cd_363 k363_21 q363_21 := e_psh_iconst 21 1 1 (e_ireturn 22 0 )
set_option maxHeartbeats 100000 in
def k363_19 : ex_C := c_astore 7 (k363_21)
set_option maxHeartbeats 100000 in
theorem kE363_19 : ex_CE 0 [(0, 16, 19, 2), (0, 16, 23, 5)] cd_363 k363_19 q363_19 := e_astore_astore 19 21 7 (kE363_21)
set_option maxHeartbeats 100000 in
def k363_0 : ex_C := c_aload 6 (c_psh 0 (c_aload 0 (c_iload 1 (c_iload 2 (c_iload 3 (c_iload 4 (c_iload 5 (c_invV [(0, 16, 19, 2), (0, 16, 23, 5)] cd_363 11 6 108 0 (c_i2l   (c_lastore   (c_goto 27)))))))))))
set_option maxHeartbeats 100000 in
theorem kE363_0 : ex_CE 0 [(0, 16, 19, 2), (0, 16, 23, 5)] cd_363 k363_0 q363_0 := e_aload_aload 0 0 6 (e_psh_iconst 2 0 0 (e_aload_aload_n 3 0 0 0 rfl (e_iload_iload_n 4 0 1 1 rfl (e_iload_iload_n 5 0 2 2 rfl (e_iload_iload_n 6 0 3 3 rfl (e_iload_iload 7 0 4 (e_iload_iload 9 0 5 (e_invV_invokevirtual 11 1015814 56 6 108 0 rfl rfl rfl rfl rfl rfl (e_i2l 14 0  (e_lastore 15 0  (e_goto 16 27 11)))))))))))
def kt_363 : Nat → Option ex_C := fun pc => @Bool.rec (fun _ => Nat → Option ex_C) (fun pc => @Bool.rec (fun _ => Nat → Option ex_C) (fun pc => @Bool.rec (fun _ => Nat → Option ex_C) (fun pc => @Bool.rec (fun _ => Option ex_C) none (some k363_27) (Nat.beq pc 27)) (fun pc => @Bool.rec (fun _ => Option ex_C) none (some k363_25) (Nat.beq pc 25)) (Nat.ble pc 25) pc) (fun pc => @Bool.rec (fun _ => Option ex_C) none (some k363_23) (Nat.beq pc 23)) (Nat.ble pc 23) pc) (fun pc => @Bool.rec (fun _ => Nat → Option ex_C) (fun pc => @Bool.rec (fun _ => Nat → Option ex_C) (fun pc => @Bool.rec (fun _ => Option ex_C) none (some k363_21) (Nat.beq pc 21)) (fun pc => @Bool.rec (fun _ => Option ex_C) none (some k363_19) (Nat.beq pc 19)) (Nat.ble pc 19) pc) (fun pc => @Bool.rec (fun _ => Option ex_C) none (some k363_0) (Nat.beq pc 0)) (Nat.ble pc 0) pc) (Nat.ble pc 21) pc
theorem ktE_363 : ex_CTT 0 [(0, 16, 19, 2), (0, 16, 23, 5)] cd_363 kt_363 cd_363 := (ex_ct2 (ex_ct2 (ex_ct1 kE363_0) (ex_ct2 (ex_ct1 kE363_19) (ex_ct1 kE363_21))) (ex_ct2 (ex_ct1 kE363_23) (ex_ct2 (ex_ct1 kE363_25) (ex_ct1 kE363_27))))
set_option maxHeartbeats 100000 in
def k364_15 : ex_C := c_psh 0 (c_ireturn  0)
set_option maxHeartbeats 100000 in
theorem kE364_15 : ex_CE 0 [(0, 9, 12, 2)] cd_364 k364_15 q364_15 := e_psh_iconst 15 0 0 (e_ireturn 16 0 )
set_option maxHeartbeats 100000 in
def k364_13 : ex_C := c_psh 1 (c_ireturn  0)
set_option maxHeartbeats 100000 in
theorem kE364_13 : ex_CE 0 [(0, 9, 12, 2)] cd_364 k364_13 q364_13 := e_psh_iconst 13 1 1 (e_ireturn 14 0 )
set_option maxHeartbeats 100000 in
def k364_12 : ex_C := c_astore 3 (k364_13)
set_option maxHeartbeats 100000 in
theorem kE364_12 : ex_CE 0 [(0, 9, 12, 2)] cd_364 k364_12 q364_12 := e_astore_astore_n 12 13 3 3 rfl (kE364_13)
set_option maxHeartbeats 100000 in
def k364_0 : ex_C := c_aload 2 (c_psh 0 (c_aload 0 (c_iload 1 (c_invV [(0, 9, 12, 2)] cd_364 4 2 109 0 (c_i2l   (c_lastore   (c_goto 15)))))))
set_option maxHeartbeats 100000 in
theorem kE364_0 : ex_CE 0 [(0, 9, 12, 2)] cd_364 k364_0 q364_0 := e_aload_aload_n 0 0 2 2 rfl (e_psh_iconst 1 0 0 (e_aload_aload_n 2 0 0 0 rfl (e_iload_iload_n 3 0 1 1 rfl (e_invV_invokevirtual 4 1024002 60 2 109 0 rfl rfl rfl rfl rfl rfl (e_i2l 7 0  (e_lastore 8 0  (e_goto 9 15 6)))))))
def kt_364 : Nat → Option ex_C := fun pc => @Bool.rec (fun _ => Nat → Option ex_C) (fun pc => @Bool.rec (fun _ => Nat → Option ex_C) (fun pc => @Bool.rec (fun _ => Option ex_C) none (some k364_15) (Nat.beq pc 15)) (fun pc => @Bool.rec (fun _ => Option ex_C) none (some k364_13) (Nat.beq pc 13)) (Nat.ble pc 13) pc) (fun pc => @Bool.rec (fun _ => Nat → Option ex_C) (fun pc => @Bool.rec (fun _ => Option ex_C) none (some k364_12) (Nat.beq pc 12)) (fun pc => @Bool.rec (fun _ => Option ex_C) none (some k364_0) (Nat.beq pc 0)) (Nat.ble pc 0) pc) (Nat.ble pc 12) pc
theorem ktE_364 : ex_CTT 0 [(0, 9, 12, 2)] cd_364 kt_364 cd_364 := (ex_ct2 (ex_ct2 (ex_ct1 kE364_0) (ex_ct1 kE364_12)) (ex_ct2 (ex_ct1 kE364_13) (ex_ct1 kE364_15)))
set_option maxHeartbeats 100000 in
def k365_23 : ex_C := c_psh 0 (c_ireturn  0)
set_option maxHeartbeats 100000 in
theorem kE365_23 : ex_CE 0 [(0, 12, 15, 2), (0, 12, 19, 4)] cd_365 k365_23 q365_23 := e_psh_iconst 23 0 0 (e_ireturn 24 0 )
set_option maxHeartbeats 100000 in
def k365_21 : ex_C := c_psh 2 (c_ireturn  0)
set_option maxHeartbeats 100000 in
theorem kE365_21 : ex_CE 0 [(0, 12, 15, 2), (0, 12, 19, 4)] cd_365 k365_21 q365_21 := e_psh_iconst 21 2 2 (e_ireturn 22 0 )
set_option maxHeartbeats 100000 in
def k365_19 : ex_C := c_astore 5 (k365_21)
set_option maxHeartbeats 100000 in
theorem kE365_19 : ex_CE 0 [(0, 12, 15, 2), (0, 12, 19, 4)] cd_365 k365_19 q365_19 := e_astore_astore 19 21 5 (kE365_21)
set_option maxHeartbeats 100000 in
def k365_17 : ex_C := c_psh 1 (c_ireturn  0)
set_option maxHeartbeats 100000 in
theorem kE365_17 : ex_CE 0 [(0, 12, 15, 2), (0, 12, 19, 4)] cd_365 k365_17 q365_17 := e_psh_iconst 17 1 1 (e_ireturn 18 0 )
set_option maxHeartbeats 100000 in
def k365_15 : ex_C := c_astore 5 (k365_17)
set_option maxHeartbeats 100000 in
theorem kE365_15 : ex_CE 0 [(0, 12, 15, 2), (0, 12, 19, 4)] cd_365 k365_15 q365_15 := e_astore_astore 15 17 5 (kE365_17)
set_option maxHeartbeats 100000 in
def k365_0 : ex_C := c_aload 4 (c_psh 0 (c_aload 0 (c_iload 1 (c_iload 2 (c_iload 3 (c_invV [(0, 12, 15, 2), (0, 12, 19, 4)] cd_365 7 4 110 0 (c_i2l   (c_lastore   (c_goto 23)))))))))
set_option maxHeartbeats 100000 in
theorem kE365_0 : ex_CE 0 [(0, 12, 15, 2), (0, 12, 19, 4)] cd_365 k365_0 q365_0 := e_aload_aload 0 0 4 (e_psh_iconst 2 0 0 (e_aload_aload_n 3 0 0 0 rfl (e_iload_iload_n 4 0 1 1 rfl (e_iload_iload_n 5 0 2 2 rfl (e_iload_iload_n 6 0 3 3 rfl (e_invV_invokevirtual 7 1032196 64 4 110 0 rfl rfl rfl rfl rfl rfl (e_i2l 10 0  (e_lastore 11 0  (e_goto 12 23 11)))))))))
def kt_365 : Nat → Option ex_C := fun pc => @Bool.rec (fun _ => Nat → Option ex_C) (fun pc => @Bool.rec (fun _ => Nat → Option ex_C) (fun pc => @Bool.rec (fun _ => Nat → Option ex_C) (fun pc => @Bool.rec (fun _ => Option ex_C) none (some k365_23) (Nat.beq pc 23)) (fun pc => @Bool.rec (fun _ => Option ex_C) none (some k365_21) (Nat.beq pc 21)) (Nat.ble pc 21) pc) (fun pc => @Bool.rec (fun _ => Option ex_C) none (some k365_19) (Nat.beq pc 19)) (Nat.ble pc 19) pc) (fun pc => @Bool.rec (fun _ => Nat → Option ex_C) (fun pc => @Bool.rec (fun _ => Nat → Option ex_C) (fun pc => @Bool.rec (fun _ => Option ex_C) none (some k365_17) (Nat.beq pc 17)) (fun pc => @Bool.rec (fun _ => Option ex_C) none (some k365_15) (Nat.beq pc 15)) (Nat.ble pc 15) pc) (fun pc => @Bool.rec (fun _ => Option ex_C) none (some k365_0) (Nat.beq pc 0)) (Nat.ble pc 0) pc) (Nat.ble pc 17) pc
theorem ktE_365 : ex_CTT 0 [(0, 12, 15, 2), (0, 12, 19, 4)] cd_365 kt_365 cd_365 := (ex_ct2 (ex_ct2 (ex_ct1 kE365_0) (ex_ct2 (ex_ct1 kE365_15) (ex_ct1 kE365_17))) (ex_ct2 (ex_ct1 kE365_19) (ex_ct2 (ex_ct1 kE365_21) (ex_ct1 kE365_23))))
set_option maxHeartbeats 100000 in
def k366_18 : ex_C := c_psh 0 (c_ireturn  0)
set_option maxHeartbeats 100000 in
theorem kE366_18 : ex_CE 0 [(0, 9, 12, 2), (0, 9, 15, 4)] cd_366 k366_18 q366_18 := e_psh_iconst 18 0 0 (e_ireturn 19 0 )
set_option maxHeartbeats 100000 in
def k366_16 : ex_C := c_psh 2 (c_ireturn  0)
set_option maxHeartbeats 100000 in
theorem kE366_16 : ex_CE 0 [(0, 9, 12, 2), (0, 9, 15, 4)] cd_366 k366_16 q366_16 := e_psh_iconst 16 2 2 (e_ireturn 17 0 )
set_option maxHeartbeats 100000 in
def k366_15 : ex_C := c_astore 3 (k366_16)
set_option maxHeartbeats 100000 in
theorem kE366_15 : ex_CE 0 [(0, 9, 12, 2), (0, 9, 15, 4)] cd_366 k366_15 q366_15 := e_astore_astore_n 15 16 3 3 rfl (kE366_16)
set_option maxHeartbeats 100000 in
def k366_13 : ex_C := c_psh 1 (c_ireturn  0)
set_option maxHeartbeats 100000 in
theorem kE366_13 : ex_CE 0 [(0, 9, 12, 2), (0, 9, 15, 4)] cd_366 k366_13 q366_13 := e_psh_iconst 13 1 1 (e_ireturn 14 0 )
set_option maxHeartbeats 100000 in
def k366_12 : ex_C := c_astore 3 (k366_13)
set_option maxHeartbeats 100000 in
theorem kE366_12 : ex_CE 0 [(0, 9, 12, 2), (0, 9, 15, 4)] cd_366 k366_12 q366_12 := e_astore_astore_n 12 13 3 3 rfl (kE366_13)
set_option maxHeartbeats 100000 in
def k366_0 : ex_C := c_aload 2 (c_psh 0 (c_aload 0 (c_iload 1 (c_invV [(0, 9, 12, 2), (0, 9, 15, 4)] cd_366 4 2 111 0 (c_i2l   (c_lastore   (c_goto 18)))))))
set_option maxHeartbeats 100000 in
theorem kE366_0 : ex_CE 0 [(0, 9, 12, 2), (0, 9, 15, 4)] cd_366 k366_0 q366_0 := e_aload_aload_n 0 0 2 2 rfl (e_psh_iconst 1 0 0 (e_aload_aload_n 2 0 0 0 rfl (e_iload_iload_n 3 0 1 1 rfl (e_invV_invokevirtual 4 1040386 68 2 111 0 rfl rfl rfl rfl rfl rfl (e_i2l 7 0  (e_lastore 8 0  (e_goto 9 18 9)))))))
def kt_366 : Nat → Option ex_C := fun pc => @Bool.rec (fun _ => Nat → Option ex_C) (fun pc => @Bool.rec (fun _ => Nat → Option ex_C) (fun pc => @Bool.rec (fun _ => Nat → Option ex_C) (fun pc => @Bool.rec (fun _ => Option ex_C) none (some k366_18) (Nat.beq pc 18)) (fun pc => @Bool.rec (fun _ => Option ex_C) none (some k366_16) (Nat.beq pc 16)) (Nat.ble pc 16) pc) (fun pc => @Bool.rec (fun _ => Option ex_C) none (some k366_15) (Nat.beq pc 15)) (Nat.ble pc 15) pc) (fun pc => @Bool.rec (fun _ => Nat → Option ex_C) (fun pc => @Bool.rec (fun _ => Nat → Option ex_C) (fun pc => @Bool.rec (fun _ => Option ex_C) none (some k366_13) (Nat.beq pc 13)) (fun pc => @Bool.rec (fun _ => Option ex_C) none (some k366_12) (Nat.beq pc 12)) (Nat.ble pc 12) pc) (fun pc => @Bool.rec (fun _ => Option ex_C) none (some k366_0) (Nat.beq pc 0)) (Nat.ble pc 0) pc) (Nat.ble pc 13) pc
theorem ktE_366 : ex_CTT 0 [(0, 9, 12, 2), (0, 9, 15, 4)] cd_366 kt_366 cd_366 := (ex_ct2 (ex_ct2 (ex_ct1 kE366_0) (ex_ct2 (ex_ct1 kE366_12) (ex_ct1 kE366_13))) (ex_ct2 (ex_ct1 kE366_15) (ex_ct2 (ex_ct1 kE366_16) (ex_ct1 kE366_18))))
set_option maxHeartbeats 100000 in
def k367_18 : ex_C := c_psh 0 (c_ireturn  0)
set_option maxHeartbeats 100000 in
theorem kE367_18 : ex_CE 0 [(0, 9, 12, 2), (0, 9, 15, 4)] cd_367 k367_18 q367_18 := e_psh_iconst 18 0 0 (e_ireturn 19 0 )
set_option maxHeartbeats 100000 in
def k367_16 : ex_C := c_psh 2 (c_ireturn  0)
set_option maxHeartbeats 100000 in
theorem kE367_16 : ex_CE 0 [(0, 9, 12, 2), (0, 9, 15, 4)] cd_367 k367_16 q367_16 := e_psh_iconst 16 2 2 (e_ireturn 17 0 )
set_option maxHeartbeats 100000 in
def k367_15 : ex_C := c_astore 3 (k367_16)
set_option maxHeartbeats 100000 in
theorem kE367_15 : ex_CE 0 [(0, 9, 12, 2), (0, 9, 15, 4)] cd_367 k367_15 q367_15 := e_astore_astore_n 15 16 3 3 rfl (kE367_16)
set_option maxHeartbeats 100000 in
def k367_13 : ex_C := c_psh 1 (c_ireturn  0)
set_option maxHeartbeats 100000 in
theorem kE367_13 : ex_CE 0 [(0, 9, 12, 2), (0, 9, 15, 4)] cd_367 k367_13 q367_13 := e_psh_iconst 13 1 1 (e_ireturn 14 0 )
set_option maxHeartbeats 100000 in
def k367_12 : ex_C := c_astore 3 (k367_13)
set_option maxHeartbeats 100000 in
theorem kE367_12 : ex_CE 0 [(0, 9, 12, 2), (0, 9, 15, 4)] cd_367 k367_12 q367_12 := e_astore_astore_n 12 13 3 3 rfl (kE367_13)
set_option maxHeartbeats 100000 in
def k367_0 : ex_C := c_aload 2 (c_psh 0 (c_aload 0 (c_iload 1 (c_invV [(0, 9, 12, 2), (0, 9, 15, 4)] cd_367 4 2 112 0 (c_i2l   (c_lastore   (c_goto 18)))))))
set_option maxHeartbeats 100000 in
theorem kE367_0 : ex_CE 0 [(0, 9, 12, 2), (0, 9, 15, 4)] cd_367 k367_0 q367_0 := e_aload_aload_n 0 0 2 2 rfl (e_psh_iconst 1 0 0 (e_aload_aload_n 2 0 0 0 rfl (e_iload_iload_n 3 0 1 1 rfl (e_invV_invokevirtual 4 1048578 71 2 112 0 rfl rfl rfl rfl rfl rfl (e_i2l 7 0  (e_lastore 8 0  (e_goto 9 18 9)))))))
def kt_367 : Nat → Option ex_C := fun pc => @Bool.rec (fun _ => Nat → Option ex_C) (fun pc => @Bool.rec (fun _ => Nat → Option ex_C) (fun pc => @Bool.rec (fun _ => Nat → Option ex_C) (fun pc => @Bool.rec (fun _ => Option ex_C) none (some k367_18) (Nat.beq pc 18)) (fun pc => @Bool.rec (fun _ => Option ex_C) none (some k367_16) (Nat.beq pc 16)) (Nat.ble pc 16) pc) (fun pc => @Bool.rec (fun _ => Option ex_C) none (some k367_15) (Nat.beq pc 15)) (Nat.ble pc 15) pc) (fun pc => @Bool.rec (fun _ => Nat → Option ex_C) (fun pc => @Bool.rec (fun _ => Nat → Option ex_C) (fun pc => @Bool.rec (fun _ => Option ex_C) none (some k367_13) (Nat.beq pc 13)) (fun pc => @Bool.rec (fun _ => Option ex_C) none (some k367_12) (Nat.beq pc 12)) (Nat.ble pc 12) pc) (fun pc => @Bool.rec (fun _ => Option ex_C) none (some k367_0) (Nat.beq pc 0)) (Nat.ble pc 0) pc) (Nat.ble pc 13) pc
theorem ktE_367 : ex_CTT 0 [(0, 9, 12, 2), (0, 9, 15, 4)] cd_367 kt_367 cd_367 := (ex_ct2 (ex_ct2 (ex_ct1 kE367_0) (ex_ct2 (ex_ct1 kE367_12) (ex_ct1 kE367_13))) (ex_ct2 (ex_ct1 kE367_15) (ex_ct2 (ex_ct1 kE367_16) (ex_ct1 kE367_18))))
set_option maxHeartbeats 100000 in
def k368_18 : ex_C := c_psh 0 (c_ireturn  0)
set_option maxHeartbeats 100000 in
theorem kE368_18 : ex_CE 0 [(0, 9, 12, 2), (0, 9, 15, 4)] cd_368 k368_18 q368_18 := e_psh_iconst 18 0 0 (e_ireturn 19 0 )
set_option maxHeartbeats 100000 in
def k368_16 : ex_C := c_psh 2 (c_ireturn  0)
set_option maxHeartbeats 100000 in
theorem kE368_16 : ex_CE 0 [(0, 9, 12, 2), (0, 9, 15, 4)] cd_368 k368_16 q368_16 := e_psh_iconst 16 2 2 (e_ireturn 17 0 )
set_option maxHeartbeats 100000 in
def k368_15 : ex_C := c_astore 3 (k368_16)
set_option maxHeartbeats 100000 in
theorem kE368_15 : ex_CE 0 [(0, 9, 12, 2), (0, 9, 15, 4)] cd_368 k368_15 q368_15 := e_astore_astore_n 15 16 3 3 rfl (kE368_16)
set_option maxHeartbeats 100000 in
def k368_13 : ex_C := c_psh 1 (c_ireturn  0)
set_option maxHeartbeats 100000 in
theorem kE368_13 : ex_CE 0 [(0, 9, 12, 2), (0, 9, 15, 4)] cd_368 k368_13 q368_13 := e_psh_iconst 13 1 1 (e_ireturn 14 0 )
set_option maxHeartbeats 100000 in
def k368_12 : ex_C := c_astore 3 (k368_13)
set_option maxHeartbeats 100000 in
theorem kE368_12 : ex_CE 0 [(0, 9, 12, 2), (0, 9, 15, 4)] cd_368 k368_12 q368_12 := e_astore_astore_n 12 13 3 3 rfl (kE368_13)
set_option maxHeartbeats 100000 in
def k368_0 : ex_C := c_aload 2 (c_psh 0 (c_aload 0 (c_iload 1 (c_invV [(0, 9, 12, 2), (0, 9, 15, 4)] cd_368 4 2 113 0 (c_i2l   (c_lastore   (c_goto 18)))))))
set_option maxHeartbeats 100000 in
theorem kE368_0 : ex_CE 0 [(0, 9, 12, 2), (0, 9, 15, 4)] cd_368 k368_0 q368_0 := e_aload_aload_n 0 0 2 2 rfl (e_psh_iconst 1 0 0 (e_aload_aload_n 2 0 0 0 rfl (e_iload_iload_n 3 0 1 1 rfl (e_invV_invokevirtual 4 1056770 74 2 113 0 rfl rfl rfl rfl rfl rfl (e_i2l 7 0  (e_lastore 8 0  (e_goto 9 18 9)))))))
def kt_368 : Nat → Option ex_C := fun pc => @Bool.rec (fun _ => Nat → Option ex_C) (fun pc => @Bool.rec (fun _ => Nat → Option ex_C) (fun pc => @Bool.rec (fun _ => Nat → Option ex_C) (fun pc => @Bool.rec (fun _ => Option ex_C) none (some k368_18) (Nat.beq pc 18)) (fun pc => @Bool.rec (fun _ => Option ex_C) none (some k368_16) (Nat.beq pc 16)) (Nat.ble pc 16) pc) (fun pc => @Bool.rec (fun _ => Option ex_C) none (some k368_15) (Nat.beq pc 15)) (Nat.ble pc 15) pc) (fun pc => @Bool.rec (fun _ => Nat → Option ex_C) (fun pc => @Bool.rec (fun _ => Nat → Option ex_C) (fun pc => @Bool.rec (fun _ => Option ex_C) none (some k368_13) (Nat.beq pc 13)) (fun pc => @Bool.rec (fun _ => Option ex_C) none (some k368_12) (Nat.beq pc 12)) (Nat.ble pc 12) pc) (fun pc => @Bool.rec (fun _ => Option ex_C) none (some k368_0) (Nat.beq pc 0)) (Nat.ble pc 0) pc) (Nat.ble pc 13) pc
theorem ktE_368 : ex_CTT 0 [(0, 9, 12, 2), (0, 9, 15, 4)] cd_368 kt_368 cd_368 := (ex_ct2 (ex_ct2 (ex_ct1 kE368_0) (ex_ct2 (ex_ct1 kE368_12) (ex_ct1 kE368_13))) (ex_ct2 (ex_ct1 kE368_15) (ex_ct2 (ex_ct1 kE368_16) (ex_ct1 kE368_18))))
set_option maxHeartbeats 100000 in
def k369_31 : ex_C := c_psh 0 (c_ireturn  0)
set_option maxHeartbeats 100000 in
theorem kE369_31 : ex_CE 0 [(0, 16, 19, 2), (0, 16, 23, 4), (0, 16, 27, 3)] cd_369 k369_31 q369_31 := e_psh_iconst 31 0 0 (e_ireturn 32 0 )
set_option maxHeartbeats 100000 in
def k369_29 : ex_C := c_psh 3 (c_ireturn  0)
set_option maxHeartbeats 100000 in
theorem kE369_29 : ex_CE 0 [(0, 16, 19, 2), (0, 16, 23, 4), (0, 16, 27, 3)] cd_369 k369_29 q369_29 := e_psh_iconst 29 3 3 (e_ireturn 30 0 )
set_option maxHeartbeats 100000 in
def k369_27 : ex_C := c_astore 7 (k369_29)
set_option maxHeartbeats 100000 in
theorem kE369_27 : ex_CE 0 [(0, 16, 19, 2), (0, 16, 23, 4), (0, 16, 27, 3)] cd_369 k369_27 q369_27 := e_astore_astore 27 29 7 (kE369_29)
set_option maxHeartbeats 100000 in
def k369_25 : ex_C := c_psh 2 (c_ireturn  0)
set_option maxHeartbeats 100000 in
theorem kE369_25 : ex_CE 0 [(0, 16, 19, 2), (0, 16, 23, 4), (0, 16, 27, 3)] cd_369 k369_25 q369_25 := e_psh_iconst 25 2 2 (e_ireturn 26 0 )
set_option maxHeartbeats 100000 in
def k369_23 : ex_C := c_astore 7 (k369_25)
set_option maxHeartbeats 100000 in
theorem kE369_23 : ex_CE 0 [(0, 16, 19, 2), (0, 16, 23, 4), (0, 16, 27, 3)] cd_369 k369_23 q369_23 := e_astore_astore 23 25 7 (kE369_25)
set_option maxHeartbeats 100000 in
def k369_21 : ex_C := c_psh 1 (c_ireturn  0)
set_option maxHeartbeats 100000 in
theorem kE369_21 : ex_CE 0 [(0, 16, 19, 2), (0, 16, 23, 4), (0, 16, 27, 3)] cd_369 k369_21 q369_21 := e_psh_iconst 21 1 1 (e_ireturn 22 0 )
set_option maxHeartbeats 100000 in
def k369_19 : ex_C := c_astore 7 (k369_21)
set_option maxHeartbeats 100000 in
theorem kE369_19 : ex_CE 0 [(0, 16, 19, 2), (0, 16, 23, 4), (0, 16, 27, 3)] cd_369 k369_19 q369_19 := e_astore_astore 19 21 7 (kE369_21)
set_option maxHeartbeats 100000 in
def k369_0 : ex_C := c_aload 6 (c_psh 0 (c_aload 0 (c_iload 1 (c_iload 2 (c_iload 3 (c_iload 4 (c_iload 5 (c_invV [(0, 16, 19, 2), (0, 16, 23, 4), (0, 16, 27, 3)] cd_369 11 6 114 0 (c_i2l   (c_lastore   (c_goto 31)))))))))))
set_option maxHeartbeats 100000 in
theorem kE369_0 : ex_CE 0 [(0, 16, 19, 2), (0, 16, 23, 4), (0, 16, 27, 3)] cd_369 k369_0 q369_0 := e_aload_aload 0 0 6 (e_psh_iconst 2 0 0 (e_aload_aload_n 3 0 0 0 rfl (e_iload_iload_n 4 0 1 1 rfl (e_iload_iload_n 5 0 2 2 rfl (e_iload_iload_n 6 0 3 3 rfl (e_iload_iload 7 0 4 (e_iload_iload 9 0 5 (e_invV_invokevirtual 11 1064966 77 6 114 0 rfl rfl rfl rfl rfl rfl (e_i2l 14 0  (e_lastore 15 0  (e_goto 16 31 15)))))))))))
def kt_369 : Nat → Option ex_C := fun pc => @Bool.rec (fun _ => Nat → Option ex_C) (fun pc => @Bool.rec (fun _ => Nat → Option ex_C) (fun pc => @Bool.rec (fun _ => Nat → Option ex_C) (fun pc => @Bool.rec (fun _ => Option ex_C) none (some k369_31) (Nat.beq pc 31)) (fun pc => @Bool.rec (fun _ => Option ex_C) none (some k369_29) (Nat.beq pc 29)) (Nat.ble pc 29) pc) (fun pc => @Bool.rec (fun _ => Nat → Option ex_C) (fun pc => @Bool.rec (fun _ => Option ex_C) none (some k369_27) (Nat.beq pc 27)) (fun pc => @Bool.rec (fun _ => Option ex_C) none (some k369_25) (Nat.beq pc 25)) (Nat.ble pc 25) pc) (Nat.ble pc 27) pc) (fun pc => @Bool.rec (fun _ => Nat → Option ex_C) (fun pc => @Bool.rec (fun _ => Nat → Option ex_C) (fun pc => @Bool.rec (fun _ => Option ex_C) none (some k369_23) (Nat.beq pc 23)) (fun pc => @Bool.rec (fun _ => Option ex_C) none (some k369_21) (Nat.beq pc 21)) (Nat.ble pc 21) pc) (fun pc => @Bool.rec (fun _ => Nat → Option ex_C) (fun pc => @Bool.rec (fun _ => Option ex_C) none (some k369_19) (Nat.beq pc 19)) (fun pc => @Bool.rec (fun _ => Option ex_C) none (some k369_0) (Nat.beq pc 0)) (Nat.ble pc 0) pc) (Nat.ble pc 19) pc) (Nat.ble pc 23) pc
theorem ktE_369 : ex_CTT 0 [(0, 16, 19, 2), (0, 16, 23, 4), (0, 16, 27, 3)] cd_369 kt_369 cd_369 := (ex_ct2 (ex_ct2 (ex_ct2 (ex_ct1 kE369_0) (ex_ct1 kE369_19)) (ex_ct2 (ex_ct1 kE369_21) (ex_ct1 kE369_23))) (ex_ct2 (ex_ct2 (ex_ct1 kE369_25) (ex_ct1 kE369_27)) (ex_ct2 (ex_ct1 kE369_29) (ex_ct1 kE369_31))))
set_option maxHeartbeats 100000 in
def k370_17 : ex_C := c_psh 0 (c_ireturn  0)
set_option maxHeartbeats 100000 in
theorem kE370_17 : ex_CE 0 [(0, 8, 11, 5), (0, 8, 14, 3)] cd_370 k370_17 q370_17 := e_psh_iconst 17 0 0 (e_ireturn 18 0 )
set_option maxHeartbeats 100000 in
def k370_15 : ex_C := c_psh 2 (c_ireturn  0)
set_option maxHeartbeats 100000 in
theorem kE370_15 : ex_CE 0 [(0, 8, 11, 5), (0, 8, 14, 3)] cd_370 k370_15 q370_15 := e_psh_iconst 15 2 2 (e_ireturn 16 0 )
set_option maxHeartbeats 100000 in
def k370_14 : ex_C := c_astore 2 (k370_15)
set_option maxHeartbeats 100000 in
theorem kE370_14 : ex_CE 0 [(0, 8, 11, 5), (0, 8, 14, 3)] cd_370 k370_14 q370_14 := e_astore_astore_n 14 15 2 2 rfl (kE370_15)
set_option maxHeartbeats 100000 in
def k370_12 : ex_C := c_psh 1 (c_ireturn  0)
set_option maxHeartbeats 100000 in
theorem kE370_12 : ex_CE 0 [(0, 8, 11, 5), (0, 8, 14, 3)] cd_370 k370_12 q370_12 := e_psh_iconst 12 1 1 (e_ireturn 13 0 )
set_option maxHeartbeats 100000 in
def k370_11 : ex_C := c_astore 2 (k370_12)
set_option maxHeartbeats 100000 in
theorem kE370_11 : ex_CE 0 [(0, 8, 11, 5), (0, 8, 14, 3)] cd_370 k370_11 q370_11 := e_astore_astore_n 11 12 2 2 rfl (kE370_12)
set_option maxHeartbeats 100000 in
def k370_0 : ex_C := c_aload 1 (c_psh 0 (c_aload 0 (c_invV [(0, 8, 11, 5), (0, 8, 14, 3)] cd_370 3 1 115 0 (c_i2l   (c_lastore   (c_goto 17))))))
set_option maxHeartbeats 100000 in
theorem kE370_0 : ex_CE 0 [(0, 8, 11, 5), (0, 8, 14, 3)] cd_370 k370_0 q370_0 := e_aload_aload_n 0 0 1 1 rfl (e_psh_iconst 1 0 0 (e_aload_aload_n 2 0 0 0 rfl (e_invV_invokevirtual 3 1073153 81 1 115 0 rfl rfl rfl rfl rfl rfl (e_i2l 6 0  (e_lastore 7 0  (e_goto 8 17 9))))))
def kt_370 : Nat → Option ex_C := fun pc => @Bool.rec (fun _ => Nat → Option ex_C) (fun pc => @Bool.rec (fun _ => Nat → Option ex_C) (fun pc => @Bool.rec (fun _ => Nat → Option ex_C) (fun pc => @Bool.rec (fun _ => Option ex_C) none (some k370_17) (Nat.beq pc 17)) (fun pc => @Bool.rec (fun _ => Option ex_C) none (some k370_15) (Nat.beq pc 15)) (Nat.ble pc 15) pc) (fun pc => @Bool.rec (fun _ => Option ex_C) none (some k370_14) (Nat.beq pc 14)) (Nat.ble pc 14) pc) (fun pc => @Bool.rec (fun _ => Nat → Option ex_C) (fun pc => @Bool.rec (fun _ => Nat → Option ex_C) (fun pc => @Bool.rec (fun _ => Option ex_C) none (some k370_12) (Nat.beq pc 12)) (fun pc => @Bool.rec (fun _ => Option ex_C) none (some k370_11) (Nat.beq pc 11)) (Nat.ble pc 11) pc) (fun pc => @Bool.rec (fun _ => Option ex_C) none (some k370_0) (Nat.beq pc 0)) (Nat.ble pc 0) pc) (Nat.ble pc 12) pc
theorem ktE_370 : ex_CTT 0 [(0, 8, 11, 5), (0, 8, 14, 3)] cd_370 kt_370 cd_370 := (ex_ct2 (ex_ct2 (ex_ct1 kE370_0) (ex_ct2 (ex_ct1 kE370_11) (ex_ct1 kE370_12))) (ex_ct2 (ex_ct1 kE370_14) (ex_ct2 (ex_ct1 kE370_15) (ex_ct1 kE370_17))))
set_option maxHeartbeats 100000 in
def k371_14 : ex_C := c_psh 0 (c_ireturn  0)
set_option maxHeartbeats 100000 in
theorem kE371_14 : ex_CE 0 [(0, 8, 11, 4)] cd_371 k371_14 q371_14 := e_psh_iconst 14 0 0 (e_ireturn 15 0 )
set_option maxHeartbeats 100000 in
def k371_12 : ex_C := c_psh 1 (c_ireturn  0)
set_option maxHeartbeats 100000 in
theorem kE371_12 : ex_CE 0 [(0, 8, 11, 4)] cd_371 k371_12 q371_12 := e_psh_iconst 12 1 1 (e_ireturn 13 0 )
set_option maxHeartbeats 100000 in
def k371_11 : ex_C := c_astore 2 (k371_12)
set_option maxHeartbeats 100000 in
theorem kE371_11 : ex_CE 0 [(0, 8, 11, 4)] cd_371 k371_11 q371_11 := e_astore_astore_n 11 12 2 2 rfl (kE371_12)
set_option maxHeartbeats 100000 in
def k371_0 : ex_C := c_aload 1 (c_psh 0 (c_aload 0 (c_invV [(0, 8, 11, 4)] cd_371 3 1 118 0 (c_i2l   (c_lastore   (c_goto 14))))))
set_option maxHeartbeats 100000 in
theorem kE371_0 : ex_CE 0 [(0, 8, 11, 4)] cd_371 k371_0 q371_0 := e_aload_aload_n 0 0 1 1 rfl (e_psh_iconst 1 0 0 (e_aload_aload_n 2 0 0 0 rfl (e_invV_invokevirtual 3 1097729 85 1 118 0 rfl rfl rfl rfl rfl rfl (e_i2l 6 0  (e_lastore 7 0  (e_goto 8 14 6))))))
def kt_371 : Nat → Option ex_C := fun pc => @Bool.rec (fun _ => Nat → Option ex_C) (fun pc => @Bool.rec (fun _ => Nat → Option ex_C) (fun pc => @Bool.rec (fun _ => Option ex_C) none (some k371_14) (Nat.beq pc 14)) (fun pc => @Bool.rec (fun _ => Option ex_C) none (some k371_12) (Nat.beq pc 12)) (Nat.ble pc 12) pc) (fun pc => @Bool.rec (fun _ => Nat → Option ex_C) (fun pc => @Bool.rec (fun _ => Option ex_C) none (some k371_11) (Nat.beq pc 11)) (fun pc => @Bool.rec (fun _ => Option ex_C) none (some k371_0) (Nat.beq pc 0)) (Nat.ble pc 0) pc) (Nat.ble pc 11) pc
theorem ktE_371 : ex_CTT 0 [(0, 8, 11, 4)] cd_371 kt_371 cd_371 := (ex_ct2 (ex_ct2 (ex_ct1 kE371_0) (ex_ct1 kE371_11)) (ex_ct2 (ex_ct1 kE371_12) (ex_ct1 kE371_14)))
set_option maxHeartbeats 100000 in
def k372_26 : ex_C := c_psh 0 (c_ireturn  0)
set_option maxHeartbeats 100000 in
theorem kE372_26 : ex_CE 0 [(0, 19, 22, 2)] cd_372 k372_26 q372_26 := e_psh_iconst 26 0 0 (e_ireturn 27 0 )
set_option maxHeartbeats 100000 in
def k372_24 : ex_C := c_psh 1 (c_ireturn  0)
set_option maxHeartbeats 100000 in
theorem kE372_24 : ex_CE 0 [(0, 19, 22, 2)] cd_372 k372_24 q372_24 := e_psh_iconst 24 1 1 (e_ireturn 25 0 )
set_option maxHeartbeats 100000 in
def k372_22 : ex_C := c_astore 5 (k372_24)
set_option maxHeartbeats 100000 in
theorem kE372_22 : ex_CE 0 [(0, 19, 22, 2)] cd_372 k372_22 q372_22 := e_astore_astore 22 24 5 (kE372_24)
set_option maxHeartbeats 100000 in
def k372_18 : ex_C := c_lastore   (c_goto 26)
set_option maxHeartbeats 100000 in
theorem kE372_18 : ex_CE 0 [(0, 19, 22, 2)] cd_372 k372_18 q372_18 := e_lastore 18 0  (e_goto 19 26 7)
set_option maxHeartbeats 100000 in
def k372_17 : ex_C := c_psh 412316860416 (k372_18)
set_option maxHeartbeats 100000 in
theorem kE372_17 : ex_CE 0 [(0, 19, 22, 2)] cd_372 k372_17 q372_17 := e_psh_lconst 17 412316860416 0 (kE372_18)
set_option maxHeartbeats 100000 in
def k372_0 : ex_C := c_aload 4 (c_psh 0 (c_aload 0 (c_iload 1 (c_iload 2 (c_iload 3 (c_invV [(0, 19, 22, 2)] cd_372 7 4 119 0 (c_if_eq 17 (c_psh 412316860417 (c_goto 18)))))))))
set_option maxHeartbeats 100000 in
theorem kE372_0 : ex_CE 0 [(0, 19, 22, 2)] cd_372 k372_0 q372_0 := e_aload_aload 0 0 4 (e_psh_iconst 2 0 0 (e_aload_aload_n 3 0 0 0 rfl (e_iload_iload_n 4 0 1 1 rfl (e_iload_iload_n 5 0 2 2 rfl (e_iload_iload_n 6 0 3 3 rfl (e_invV_invokevirtual 7 1105924 88 4 119 0 rfl rfl rfl rfl rfl rfl (e_if_eq 10 17 7 (e_psh_lconst 13 412316860417 1 (e_goto 14 18 4)))))))))
def kt_372 : Nat → Option ex_C := fun pc => @Bool.rec (fun _ => Nat → Option ex_C) (fun pc => @Bool.rec (fun _ => Nat → Option ex_C) (fun pc => @Bool.rec (fun _ => Nat → Option ex_C) (fun pc => @Bool.rec (fun _ => Option ex_C) none (some k372_26) (Nat.beq pc 26)) (fun pc => @Bool.rec (fun _ => Option ex_C) none (some k372_24) (Nat.beq pc 24)) (Nat.ble pc 24) pc) (fun pc => @Bool.rec (fun _ => Option ex_C) none (some k372_22) (Nat.beq pc 22)) (Nat.ble pc 22) pc) (fun pc => @Bool.rec (fun _ => Nat → Option ex_C) (fun pc => @Bool.rec (fun _ => Nat → Option ex_C) (fun pc => @Bool.rec (fun _ => Option ex_C) none (some k372_18) (Nat.beq pc 18)) (fun pc => @Bool.rec (fun _ => Option ex_C) none (some k372_17) (Nat.beq pc 17)) (Nat.ble pc 17) pc) (fun pc => @Bool.rec (fun _ => Option ex_C) none (some k372_0) (Nat.beq pc 0)) (Nat.ble pc 0) pc) (Nat.ble pc 18) pc
theorem ktE_372 : ex_CTT 0 [(0, 19, 22, 2)] cd_372 kt_372 cd_372 := (ex_ct2 (ex_ct2 (ex_ct1 kE372_0) (ex_ct2 (ex_ct1 kE372_17) (ex_ct1 kE372_18))) (ex_ct2 (ex_ct1 kE372_22) (ex_ct2 (ex_ct1 kE372_24) (ex_ct1 kE372_26))))
set_option maxHeartbeats 100000 in
def k373_14 : ex_C := c_psh 0 (c_ireturn  0)
set_option maxHeartbeats 100000 in
theorem kE373_14 : ex_CE 0 [(0, 8, 11, 4)] cd_373 k373_14 q373_14 := e_psh_iconst 14 0 0 (e_ireturn 15 0 )
set_option maxHeartbeats 100000 in
def k373_12 : ex_C := c_psh 1 (c_ireturn  0)
set_option maxHeartbeats 100000 in
theorem kE373_12 : ex_CE 0 [(0, 8, 11, 4)] cd_373 k373_12 q373_12 := e_psh_iconst 12 1 1 (e_ireturn 13 0 )
set_option maxHeartbeats 100000 in
def k373_11 : ex_C := c_astore 2 (k373_12)
set_option maxHeartbeats 100000 in
theorem kE373_11 : ex_CE 0 [(0, 8, 11, 4)] cd_373 k373_11 q373_11 := e_astore_astore_n 11 12 2 2 rfl (kE373_12)
set_option maxHeartbeats 100000 in
def k373_0 : ex_C := c_aload 1 (c_psh 0 (c_aload 0 (c_invV [(0, 8, 11, 4)] cd_373 3 1 120 0 (c_i2l   (c_lastore   (c_goto 14))))))
set_option maxHeartbeats 100000 in
theorem kE373_0 : ex_CE 0 [(0, 8, 11, 4)] cd_373 k373_0 q373_0 := e_aload_aload_n 0 0 1 1 rfl (e_psh_iconst 1 0 0 (e_aload_aload_n 2 0 0 0 rfl (e_invV_invokevirtual 3 1114113 92 1 120 0 rfl rfl rfl rfl rfl rfl (e_i2l 6 0  (e_lastore 7 0  (e_goto 8 14 6))))))
def kt_373 : Nat → Option ex_C := fun pc => @Bool.rec (fun _ => Nat → Option ex_C) (fun pc => @Bool.rec (fun _ => Nat → Option ex_C) (fun pc => @Bool.rec (fun _ => Option ex_C) none (some k373_14) (Nat.beq pc 14)) (fun pc => @Bool.rec (fun _ => Option ex_C) none (some k373_12) (Nat.beq pc 12)) (Nat.ble pc 12) pc) (fun pc => @Bool.rec (fun _ => Nat → Option ex_C) (fun pc => @Bool.rec (fun _ => Option ex_C) none (some k373_11) (Nat.beq pc 11)) (fun pc => @Bool.rec (fun _ => Option ex_C) none (some k373_0) (Nat.beq pc 0)) (Nat.ble pc 0) pc) (Nat.ble pc 11) pc
theorem ktE_373 : ex_CTT 0 [(0, 8, 11, 4)] cd_373 kt_373 cd_373 := (ex_ct2 (ex_ct2 (ex_ct1 kE373_0) (ex_ct1 kE373_11)) (ex_ct2 (ex_ct1 kE373_12) (ex_ct1 kE373_14)))
set_option maxHeartbeats 100000 in
def k374_15 : ex_C := c_psh 0 (c_ireturn  0)
set_option maxHeartbeats 100000 in
theorem kE374_15 : ex_CE 0 [(0, 9, 12, 1)] cd_374 k374_15 q374_15 := e_psh_iconst 15 0 0 (e_ireturn 16 0 )
set_option maxHeartbeats 100000 in
def k374_13 : ex_C := c_psh 1 (c_ireturn  0)
set_option maxHeartbeats 100000 in
theorem kE374_13 : ex_CE 0 [(0, 9, 12, 1)] cd_374 k374_13 q374_13 := e_psh_iconst 13 1 1 (e_ireturn 14 0 )
set_option maxHeartbeats 100000 in
def k374_12 : ex_C := c_astore 3 (k374_13)
set_option maxHeartbeats 100000 in
theorem kE374_12 : ex_CE 0 [(0, 9, 12, 1)] cd_374 k374_12 q374_12 := e_astore_astore_n 12 13 3 3 rfl (kE374_13)
set_option maxHeartbeats 100000 in
def k374_0 : ex_C := c_aload 2 (c_psh 0 (c_aload 0 (c_iload 1 (c_invV [(0, 9, 12, 1)] cd_374 4 2 122 0 (c_i2l   (c_lastore   (c_goto 15)))))))
set_option maxHeartbeats 100000 in
theorem kE374_0 : ex_CE 0 [(0, 9, 12, 1)] cd_374 k374_0 q374_0 := e_aload_aload_n 0 0 2 2 rfl (e_psh_iconst 1 0 0 (e_aload_aload_n 2 0 0 0 rfl (e_iload_iload_n 3 0 1 1 rfl (e_invV_invokevirtual 4 1130498 95 2 122 0 rfl rfl rfl rfl rfl rfl (e_i2l 7 0  (e_lastore 8 0  (e_goto 9 15 6)))))))
def kt_374 : Nat → Option ex_C := fun pc => @Bool.rec (fun _ => Nat → Option ex_C) (fun pc => @Bool.rec (fun _ => Nat → Option ex_C) (fun pc => @Bool.rec (fun _ => Option ex_C) none (some k374_15) (Nat.beq pc 15)) (fun pc => @Bool.rec (fun _ => Option ex_C) none (some k374_13) (Nat.beq pc 13)) (Nat.ble pc 13) pc) (fun pc => @Bool.rec (fun _ => Nat → Option ex_C) (fun pc => @Bool.rec (fun _ => Option ex_C) none (some k374_12) (Nat.beq pc 12)) (fun pc => @Bool.rec (fun _ => Option ex_C) none (some k374_0) (Nat.beq pc 0)) (Nat.ble pc 0) pc) (Nat.ble pc 12) pc
theorem ktE_374 : ex_CTT 0 [(0, 9, 12, 1)] cd_374 kt_374 cd_374 := (ex_ct2 (ex_ct2 (ex_ct1 kE374_0) (ex_ct1 kE374_12)) (ex_ct2 (ex_ct1 kE374_13) (ex_ct1 kE374_15)))
set_option maxHeartbeats 100000 in
def k375_32 : ex_C := c_psh 0 (c_ireturn  0)
set_option maxHeartbeats 100000 in
theorem kE375_32 : ex_CE 0 [(0, 17, 20, 1), (0, 17, 24, 2), (0, 17, 28, 4)] cd_375 k375_32 q375_32 := e_psh_iconst 32 0 0 (e_ireturn 33 0 )
set_option maxHeartbeats 100000 in
def k375_30 : ex_C := c_psh 3 (c_ireturn  0)
set_option maxHeartbeats 100000 in
theorem kE375_30 : ex_CE 0 [(0, 17, 20, 1), (0, 17, 24, 2), (0, 17, 28, 4)] cd_375 k375_30 q375_30 := e_psh_iconst 30 3 3 (e_ireturn 31 0 )
set_option maxHeartbeats 100000 in
def k375_28 : ex_C := c_astore 4 (k375_30)
set_option maxHeartbeats 100000 in
theorem kE375_28 : ex_CE 0 [(0, 17, 20, 1), (0, 17, 24, 2), (0, 17, 28, 4)] cd_375 k375_28 q375_28 := e_astore_astore 28 30 4 (kE375_30)
set_option maxHeartbeats 100000 in
def k375_26 : ex_C := c_psh 2 (c_ireturn  0)
set_option maxHeartbeats 100000 in
theorem kE375_26 : ex_CE 0 [(0, 17, 20, 1), (0, 17, 24, 2), (0, 17, 28, 4)] cd_375 k375_26 q375_26 := e_psh_iconst 26 2 2 (e_ireturn 27 0 )
set_option maxHeartbeats 100000 in
def k375_24 : ex_C := c_astore 4 (k375_26)
set_option maxHeartbeats 100000 in
theorem kE375_24 : ex_CE 0 [(0, 17, 20, 1), (0, 17, 24, 2), (0, 17, 28, 4)] cd_375 k375_24 q375_24 := e_astore_astore 24 26 4 (kE375_26)
set_option maxHeartbeats 100000 in
def k375_22 : ex_C := c_psh 1 (c_ireturn  0)
set_option maxHeartbeats 100000 in
theorem kE375_22 : ex_CE 0 [(0, 17, 20, 1), (0, 17, 24, 2), (0, 17, 28, 4)] cd_375 k375_22 q375_22 := e_psh_iconst 22 1 1 (e_ireturn 23 0 )
set_option maxHeartbeats 100000 in
def k375_20 : ex_C := c_astore 4 (k375_22)
set_option maxHeartbeats 100000 in
theorem kE375_20 : ex_CE 0 [(0, 17, 20, 1), (0, 17, 24, 2), (0, 17, 28, 4)] cd_375 k375_20 q375_20 := e_astore_astore 20 22 4 (kE375_22)
set_option maxHeartbeats 100000 in
def k375_16 : ex_C := c_lastore   (c_goto 32)
set_option maxHeartbeats 100000 in
theorem kE375_16 : ex_CE 0 [(0, 17, 20, 1), (0, 17, 24, 2), (0, 17, 28, 4)] cd_375 k375_16 q375_16 := e_lastore 16 0  (e_goto 17 32 15)
set_option maxHeartbeats 100000 in
def k375_15 : ex_C := c_psh 412316860416 (k375_16)
set_option maxHeartbeats 100000 in
theorem kE375_15 : ex_CE 0 [(0, 17, 20, 1), (0, 17, 24, 2), (0, 17, 28, 4)] cd_375 k375_15 q375_15 := e_psh_lconst 15 412316860416 0 (kE375_16)
set_option maxHeartbeats 100000 in
def k375_0 : ex_C := c_aload 3 (c_psh 0 (c_aload 0 (c_iload 1 (c_iload 2 (c_invV [(0, 17, 20, 1), (0, 17, 24, 2), (0, 17, 28, 4)] cd_375 5 3 123 0 (c_if_eq 15 (c_psh 412316860417 (c_goto 16))))))))
set_option maxHeartbeats 100000 in
theorem kE375_0 : ex_CE 0 [(0, 17, 20, 1), (0, 17, 24, 2), (0, 17, 28, 4)] cd_375 k375_0 q375_0 := e_aload_aload_n 0 0 3 3 rfl (e_psh_iconst 1 0 0 (e_aload_aload_n 2 0 0 0 rfl (e_iload_iload_n 3 0 1 1 rfl (e_iload_iload_n 4 0 2 2 rfl (e_invV_invokevirtual 5 1138691 99 3 123 0 rfl rfl rfl rfl rfl rfl (e_if_eq 8 15 7 (e_psh_lconst 11 412316860417 1 (e_goto 12 16 4))))))))
def kt_375 : Nat → Option ex_C := fun pc => @Bool.rec (fun _ => Nat → Option ex_C) (fun pc => @Bool.rec (fun _ => Nat → Option ex_C) (fun pc => @Bool.rec (fun _ => Nat → Option ex_C) (fun pc => @Bool.rec (fun _ => Nat → Option ex_C) (fun pc => @Bool.rec (fun _ => Option ex_C) none (some k375_32) (Nat.beq pc 32)) (fun pc => @Bool.rec (fun _ => Option ex_C) none (some k375_30) (Nat.beq pc 30)) (Nat.ble pc 30) pc) (fun pc => @Bool.rec (fun _ => Option ex_C) none (some k375_28) (Nat.beq pc 28)) (Nat.ble pc 28) pc) (fun pc => @Bool.rec (fun _ => Nat → Option ex_C) (fun pc => @Bool.rec (fun _ => Option ex_C) none (some k375_26) (Nat.beq pc 26)) (fun pc => @Bool.rec (fun _ => Option ex_C) none (some k375_24) (Nat.beq pc 24)) (Nat.ble pc 24) pc) (Nat.ble pc 26) pc) (fun pc => @Bool.rec (fun _ => Nat → Option ex_C) (fun pc => @Bool.rec (fun _ => Nat → Option ex_C) (fun pc => @Bool.rec (fun _ => Nat → Option ex_C) (fun pc => @Bool.rec (fun _ => Option ex_C) none (some k375_22) (Nat.beq pc 22)) (fun pc => @Bool.rec (fun _ => Option ex_C) none (some k375_20) (Nat.beq pc 20)) (Nat.ble pc 20) pc) (fun pc => @Bool.rec (fun _ => Option ex_C) none (some k375_16) (Nat.beq pc 16)) (Nat.ble pc 16) pc) (fun pc => @Bool.rec (fun _ => Nat → Option ex_C) (fun pc => @Bool.rec (fun _ => Option ex_C) none (some k375_15) (Nat.beq pc 15)) (fun pc => @Bool.rec (fun _ => Option ex_C) none (some k375_0) (Nat.beq pc 0)) (Nat.ble pc 0) pc) (Nat.ble pc 15) pc) (Nat.ble pc 22) pc
theorem ktE_375 : ex_CTT 0 [(0, 17, 20, 1), (0, 17, 24, 2), (0, 17, 28, 4)] cd_375 kt_375 cd_375 := (ex_ct2 (ex_ct2 (ex_ct2 (ex_ct1 kE375_0) (ex_ct1 kE375_15)) (ex_ct2 (ex_ct1 kE375_16) (ex_ct2 (ex_ct1 kE375_20) (ex_ct1 kE375_22)))) (ex_ct2 (ex_ct2 (ex_ct1 kE375_24) (ex_ct1 kE375_26)) (ex_ct2 (ex_ct1 kE375_28) (ex_ct2 (ex_ct1 kE375_30) (ex_ct1 kE375_32)))))
set_option maxHeartbeats 100000 in
def k376_27 : ex_C := c_psh 0 (c_ireturn  0)
set_option maxHeartbeats 100000 in
theorem kE376_27 : ex_CE 0 [(0, 12, 15, 1), (0, 12, 19, 2), (0, 12, 23, 4)] cd_376 k376_27 q376_27 := e_psh_iconst 27 0 0 (e_ireturn 28 0 )
set_option maxHeartbeats 100000 in
def k376_25 : ex_C := c_psh 3 (c_ireturn  0)
set_option maxHeartbeats 100000 in
theorem kE376_25 : ex_CE 0 [(0, 12, 15, 1), (0, 12, 19, 2), (0, 12, 23, 4)] cd_376 k376_25 q376_25 := e_psh_iconst 25 3 3 (e_ireturn 26 0 )
set_option maxHeartbeats 100000 in
def k376_23 : ex_C := c_astore 5 (k376_25)
set_option maxHeartbeats 100000 in
theorem kE376_23 : ex_CE 0 [(0, 12, 15, 1), (0, 12, 19, 2), (0, 12, 23, 4)] cd_376 k376_23 q376_23 := e_astore_astore 23 25 5 (kE376_25)
set_option maxHeartbeats 100000 in
def k376_21 : ex_C := c_psh 2 (c_ireturn  0)
set_option maxHeartbeats 100000 in
theorem kE376_21 : ex_CE 0 [(0, 12, 15, 1), (0, 12, 19, 2), (0, 12, 23, 4)] cd_376 k376_21 q376_21 := e_psh_iconst 21 2 2 (e_ireturn 22 0 )
set_option maxHeartbeats 100000 in
def k376_19 : ex_C := c_astore 5 (k376_21)
set_option maxHeartbeats 100000 in
theorem kE376_19 : ex_CE 0 [(0, 12, 15, 1), (0, 12, 19, 2), (0, 12, 23, 4)] cd_376 k376_19 q376_19 := e_astore_astore 19 21 5 (kE376_21)
set_option maxHeartbeats 100000 in
def k376_17 : ex_C := c_psh 1 (c_ireturn  0)
set_option maxHeartbeats 100000 in
theorem kE376_17 : ex_CE 0 [(0, 12, 15, 1), (0, 12, 19, 2), (0, 12, 23, 4)] cd_376 k376_17 q376_17 := e_psh_iconst 17 1 1 (e_ireturn 18 0 )
set_option maxHeartbeats 100000 in
def k376_15 : ex_C := c_astore 5 (k376_17)
set_option maxHeartbeats 100000 in
theorem kE376_15 : ex_CE 0 [(0, 12, 15, 1), (0, 12, 19, 2), (0, 12, 23, 4)] cd_376 k376_15 q376_15 := e_astore_astore 15 17 5 (kE376_17)
set_option maxHeartbeats 100000 in
def k376_0 : ex_C := c_aload 4 (c_psh 0 (c_aload 0 (c_iload 1 (c_iload 2 (c_iload 3 (c_invV [(0, 12, 15, 1), (0, 12, 19, 2), (0, 12, 23, 4)] cd_376 7 4 124 0 (c_i2l   (c_lastore   (c_goto 27)))))))))
set_option maxHeartbeats 100000 in
theorem kE376_0 : ex_CE 0 [(0, 12, 15, 1), (0, 12, 19, 2), (0, 12, 23, 4)] cd_376 k376_0 q376_0 := e_aload_aload 0 0 4 (e_psh_iconst 2 0 0 (e_aload_aload_n 3 0 0 0 rfl (e_iload_iload_n 4 0 1 1 rfl (e_iload_iload_n 5 0 2 2 rfl (e_iload_iload_n 6 0 3 3 rfl (e_invV_invokevirtual 7 1146884 103 4 124 0 rfl rfl rfl rfl rfl rfl (e_i2l 10 0  (e_lastore 11 0  (e_goto 12 27 15)))))))))
def kt_376 : Nat → Option ex_C := fun pc => @Bool.rec (fun _ => Nat → Option ex_C) (fun pc => @Bool.rec (fun _ => Nat → Option ex_C) (fun pc => @Bool.rec (fun _ => Nat → Option ex_C) (fun pc => @Bool.rec (fun _ => Option ex_C) none (some k376_27) (Nat.beq pc 27)) (fun pc => @Bool.rec (fun _ => Option ex_C) none (some k376_25) (Nat.beq pc 25)) (Nat.ble pc 25) pc) (fun pc => @Bool.rec (fun _ => Nat → Option ex_C) (fun pc => @Bool.rec (fun _ => Option ex_C) none (some k376_23) (Nat.beq pc 23)) (fun pc => @Bool.rec (fun _ => Option ex_C) none (some k376_21) (Nat.beq pc 21)) (Nat.ble pc 21) pc) (Nat.ble pc 23) pc) (fun pc => @Bool.rec (fun _ => Nat → Option ex_C) (fun pc => @Bool.rec (fun _ => Nat → Option ex_C) (fun pc => @Bool.rec (fun _ => Option ex_C) none (some k376_19) (Nat.beq pc 19)) (fun pc => @Bool.rec (fun _ => Option ex_C) none (some k376_17) (Nat.beq pc 17)) (Nat.ble pc 17) pc) (fun pc => @Bool.rec (fun _ => Nat → Option ex_C) (fun pc => @Bool.rec (fun _ => Option ex_C) none (some k376_15) (Nat.beq pc 15)) (fun pc => @Bool.rec (fun _ => Option ex_C) none (some k376_0) (Nat.beq pc 0)) (Nat.ble pc 0) pc) (Nat.ble pc 15) pc) (Nat.ble pc 19) pc
theorem ktE_376 : ex_CTT 0 [(0, 12, 15, 1), (0, 12, 19, 2), (0, 12, 23, 4)] cd_376 kt_376 cd_376 := (ex_ct2 (ex_ct2 (ex_ct2 (ex_ct1 kE376_0) (ex_ct1 kE376_15)) (ex_ct2 (ex_ct1 kE376_17) (ex_ct1 kE376_19))) (ex_ct2 (ex_ct2 (ex_ct1 kE376_21) (ex_ct1 kE376_23)) (ex_ct2 (ex_ct1 kE376_25) (ex_ct1 kE376_27))))
set_option maxHeartbeats 100000 in
def k377_18 : ex_C := c_psh 0 (c_ireturn  0)
set_option maxHeartbeats 100000 in
theorem kE377_18 : ex_CE 0 [(0, 9, 12, 1), (0, 9, 15, 4)] cd_377 k377_18 q377_18 := e_psh_iconst 18 0 0 (e_ireturn 19 0 )
set_option maxHeartbeats 100000 in
def k377_16 : ex_C := c_psh 2 (c_ireturn  0)
set_option maxHeartbeats 100000 in
theorem kE377_16 : ex_CE 0 [(0, 9, 12, 1), (0, 9, 15, 4)] cd_377 k377_16 q377_16 := e_psh_iconst 16 2 2 (e_ireturn 17 0 )
set_option maxHeartbeats 100000 in
def k377_15 : ex_C := c_astore 3 (k377_16)
set_option maxHeartbeats 100000 in
theorem kE377_15 : ex_CE 0 [(0, 9, 12, 1), (0, 9, 15, 4)] cd_377 k377_15 q377_15 := e_astore_astore_n 15 16 3 3 rfl (kE377_16)
set_option maxHeartbeats 100000 in
def k377_13 : ex_C := c_psh 1 (c_ireturn  0)
set_option maxHeartbeats 100000 in
theorem kE377_13 : ex_CE 0 [(0, 9, 12, 1), (0, 9, 15, 4)] cd_377 k377_13 q377_13 := e_psh_iconst 13 1 1 (e_ireturn 14 0 )
set_option maxHeartbeats 100000 in
def k377_12 : ex_C := c_astore 3 (k377_13)
set_option maxHeartbeats 100000 in
theorem kE377_12 : ex_CE 0 [(0, 9, 12, 1), (0, 9, 15, 4)] cd_377 k377_12 q377_12 := e_astore_astore_n 12 13 3 3 rfl (kE377_13)
set_option maxHeartbeats 100000 in
def k377_0 : ex_C := c_aload 2 (c_psh 0 (c_aload 0 (c_iload 1 (c_invV [(0, 9, 12, 1), (0, 9, 15, 4)] cd_377 4 2 125 0 (c_i2l   (c_lastore   (c_goto 18)))))))
set_option maxHeartbeats 100000 in
theorem kE377_0 : ex_CE 0 [(0, 9, 12, 1), (0, 9, 15, 4)] cd_377 k377_0 q377_0 := e_aload_aload_n 0 0 2 2 rfl (e_psh_iconst 1 0 0 (e_aload_aload_n 2 0 0 0 rfl (e_iload_iload_n 3 0 1 1 rfl (e_invV_invokevirtual 4 1155074 107 2 125 0 rfl rfl rfl rfl rfl rfl (e_i2l 7 0  (e_lastore 8 0  (e_goto 9 18 9)))))))
def kt_377 : Nat → Option ex_C := fun pc => @Bool.rec (fun _ => Nat → Option ex_C) (fun pc => @Bool.rec (fun _ => Nat → Option ex_C) (fun pc => @Bool.rec (fun _ => Nat → Option ex_C) (fun pc => @Bool.rec (fun _ => Option ex_C) none (some k377_18) (Nat.beq pc 18)) (fun pc => @Bool.rec (fun _ => Option ex_C) none (some k377_16) (Nat.beq pc 16)) (Nat.ble pc 16) pc) (fun pc => @Bool.rec (fun _ => Option ex_C) none (some k377_15) (Nat.beq pc 15)) (Nat.ble pc 15) pc) (fun pc => @Bool.rec (fun _ => Nat → Option ex_C) (fun pc => @Bool.rec (fun _ => Nat → Option ex_C) (fun pc => @Bool.rec (fun _ => Option ex_C) none (some k377_13) (Nat.beq pc 13)) (fun pc => @Bool.rec (fun _ => Option ex_C) none (some k377_12) (Nat.beq pc 12)) (Nat.ble pc 12) pc) (fun pc => @Bool.rec (fun _ => Option ex_C) none (some k377_0) (Nat.beq pc 0)) (Nat.ble pc 0) pc) (Nat.ble pc 13) pc
theorem ktE_377 : ex_CTT 0 [(0, 9, 12, 1), (0, 9, 15, 4)] cd_377 kt_377 cd_377 := (ex_ct2 (ex_ct2 (ex_ct1 kE377_0) (ex_ct2 (ex_ct1 kE377_12) (ex_ct1 kE377_13))) (ex_ct2 (ex_ct1 kE377_15) (ex_ct2 (ex_ct1 kE377_16) (ex_ct1 kE377_18))))
set_option maxHeartbeats 100000 in
def k378_15 : ex_C := c_psh 0 (c_ireturn  0)
set_option maxHeartbeats 100000 in
theorem kE378_15 : ex_CE 0 [(0, 9, 12, 2)] cd_378 k378_15 q378_15 := e_psh_iconst 15 0 0 (e_ireturn 16 0 )
set_option maxHeartbeats 100000 in
def k378_13 : ex_C := c_psh 1 (c_ireturn  0)
set_option maxHeartbeats 100000 in
theorem kE378_13 : ex_CE 0 [(0, 9, 12, 2)] cd_378 k378_13 q378_13 := e_psh_iconst 13 1 1 (e_ireturn 14 0 )
set_option maxHeartbeats 100000 in
def k378_12 : ex_C := c_astore 3 (k378_13)
set_option maxHeartbeats 100000 in
theorem kE378_12 : ex_CE 0 [(0, 9, 12, 2)] cd_378 k378_12 q378_12 := e_astore_astore_n 12 13 3 3 rfl (kE378_13)
set_option maxHeartbeats 100000 in
def k378_0 : ex_C := c_aload 2 (c_psh 0 (c_aload 0 (c_iload 1 (c_invV [(0, 9, 12, 2)] cd_378 4 2 127 0 (c_i2l   (c_lastore   (c_goto 15)))))))
set_option maxHeartbeats 100000 in
theorem kE378_0 : ex_CE 0 [(0, 9, 12, 2)] cd_378 k378_0 q378_0 := e_aload_aload_n 0 0 2 2 rfl (e_psh_iconst 1 0 0 (e_aload_aload_n 2 0 0 0 rfl (e_iload_iload_n 3 0 1 1 rfl (e_invV_invokevirtual 4 1171458 110 2 127 0 rfl rfl rfl rfl rfl rfl (e_i2l 7 0  (e_lastore 8 0  (e_goto 9 15 6)))))))
def kt_378 : Nat → Option ex_C := fun pc => @Bool.rec (fun _ => Nat → Option ex_C) (fun pc => @Bool.rec (fun _ => Nat → Option ex_C) (fun pc => @Bool.rec (fun _ => Option ex_C) none (some k378_15) (Nat.beq pc 15)) (fun pc => @Bool.rec (fun _ => Option ex_C) none (some k378_13) (Nat.beq pc 13)) (Nat.ble pc 13) pc) (fun pc => @Bool.rec (fun _ => Nat → Option ex_C) (fun pc => @Bool.rec (fun _ => Option ex_C) none (some k378_12) (Nat.beq pc 12)) (fun pc => @Bool.rec (fun _ => Option ex_C) none (some k378_0) (Nat.beq pc 0)) (Nat.ble pc 0) pc) (Nat.ble pc 12) pc
theorem ktE_378 : ex_CTT 0 [(0, 9, 12, 2)] cd_378 kt_378 cd_378 := (ex_ct2 (ex_ct2 (ex_ct1 kE378_0) (ex_ct1 kE378_12)) (ex_ct2 (ex_ct1 kE378_13) (ex_ct1 kE378_15)))
set_option maxHeartbeats 100000 in
def k379_15 : ex_C := c_psh 0 (c_ireturn  0)
set_option maxHeartbeats 100000 in
theorem kE379_15 : ex_CE 0 [(0, 9, 12, 1)] cd_379 k379_15 q379_15 := e_psh_iconst 15 0 0 (e_ireturn 16 0 )
set_option maxHeartbeats 100000 in
def k379_13 : ex_C := c_psh 1 (c_ireturn  0)
set_option maxHeartbeats 100000 in
theorem kE379_13 : ex_CE 0 [(0, 9, 12, 1)] cd_379 k379_13 q379_13 := e_psh_iconst 13 1 1 (e_ireturn 14 0 )
set_option maxHeartbeats 100000 in
def k379_12 : ex_C := c_astore 3 (k379_13)
set_option maxHeartbeats 100000 in
theorem kE379_12 : ex_CE 0 [(0, 9, 12, 1)] cd_379 k379_12 q379_12 := e_astore_astore_n 12 13 3 3 rfl (kE379_13)
set_option maxHeartbeats 100000 in
def k379_0 : ex_C := c_aload 2 (c_psh 0 (c_aload 0 (c_iload 1 (c_invV [(0, 9, 12, 1)] cd_379 4 2 130 0 (c_i2l   (c_lastore   (c_goto 15)))))))
set_option maxHeartbeats 100000 in
theorem kE379_0 : ex_CE 0 [(0, 9, 12, 1)] cd_379 k379_0 q379_0 := e_aload_aload_n 0 0 2 2 rfl (e_psh_iconst 1 0 0 (e_aload_aload_n 2 0 0 0 rfl (e_iload_iload_n 3 0 1 1 rfl (e_invV_invokevirtual 4 1196034 113 2 130 0 rfl rfl rfl rfl rfl rfl (e_i2l 7 0  (e_lastore 8 0  (e_goto 9 15 6)))))))
def kt_379 : Nat → Option ex_C := fun pc => @Bool.rec (fun _ => Nat → Option ex_C) (fun pc => @Bool.rec (fun _ => Nat → Option ex_C) (fun pc => @Bool.rec (fun _ => Option ex_C) none (some k379_15) (Nat.beq pc 15)) (fun pc => @Bool.rec (fun _ => Option ex_C) none (some k379_13) (Nat.beq pc 13)) (Nat.ble pc 13) pc) (fun pc => @Bool.rec (fun _ => Nat → Option ex_C) (fun pc => @Bool.rec (fun _ => Option ex_C) none (some k379_12) (Nat.beq pc 12)) (fun pc => @Bool.rec (fun _ => Option ex_C) none (some k379_0) (Nat.beq pc 0)) (Nat.ble pc 0) pc) (Nat.ble pc 12) pc
theorem ktE_379 : ex_CTT 0 [(0, 9, 12, 1)] cd_379 kt_379 cd_379 := (ex_ct2 (ex_ct2 (ex_ct1 kE379_0) (ex_ct1 kE379_12)) (ex_ct2 (ex_ct1 kE379_13) (ex_ct1 kE379_15)))
set_option maxHeartbeats 100000 in
def k380_18 : ex_C := c_psh 0 (c_ireturn  0)
set_option maxHeartbeats 100000 in
theorem kE380_18 : ex_CE 0 [(0, 9, 12, 2), (0, 9, 15, 4)] cd_380 k380_18 q380_18 := e_psh_iconst 18 0 0 (e_ireturn 19 0 )
set_option maxHeartbeats 100000 in
def k380_16 : ex_C := c_psh 2 (c_ireturn  0)
set_option maxHeartbeats 100000 in
theorem kE380_16 : ex_CE 0 [(0, 9, 12, 2), (0, 9, 15, 4)] cd_380 k380_16 q380_16 := e_psh_iconst 16 2 2 (e_ireturn 17 0 )
set_option maxHeartbeats 100000 in
def k380_15 : ex_C := c_astore 3 (k380_16)
set_option maxHeartbeats 100000 in
theorem kE380_15 : ex_CE 0 [(0, 9, 12, 2), (0, 9, 15, 4)] cd_380 k380_15 q380_15 := e_astore_astore_n 15 16 3 3 rfl (kE380_16)
set_option maxHeartbeats 100000 in
def k380_13 : ex_C := c_psh 1 (c_ireturn  0)
set_option maxHeartbeats 100000 in
theorem kE380_13 : ex_CE 0 [(0, 9, 12, 2), (0, 9, 15, 4)] cd_380 k380_13 q380_13 := e_psh_iconst 13 1 1 (e_ireturn 14 0 )
set_option maxHeartbeats 100000 in
def k380_12 : ex_C := c_astore 3 (k380_13)
set_option maxHeartbeats 100000 in
theorem kE380_12 : ex_CE 0 [(0, 9, 12, 2), (0, 9, 15, 4)] cd_380 k380_12 q380_12 := e_astore_astore_n 12 13 3 3 rfl (kE380_13)
set_option maxHeartbeats 100000 in
def k380_0 : ex_C := c_aload 2 (c_psh 0 (c_aload 0 (c_iload 1 (c_invV [(0, 9, 12, 2), (0, 9, 15, 4)] cd_380 4 2 133 0 (c_i2l   (c_lastore   (c_goto 18)))))))
set_option maxHeartbeats 100000 in
theorem kE380_0 : ex_CE 0 [(0, 9, 12, 2), (0, 9, 15, 4)] cd_380 k380_0 q380_0 := e_aload_aload_n 0 0 2 2 rfl (e_psh_iconst 1 0 0 (e_aload_aload_n 2 0 0 0 rfl (e_iload_iload_n 3 0 1 1 rfl (e_invV_invokevirtual 4 1220610 116 2 133 0 rfl rfl rfl rfl rfl rfl (e_i2l 7 0  (e_lastore 8 0  (e_goto 9 18 9)))))))
def kt_380 : Nat → Option ex_C := fun pc => @Bool.rec (fun _ => Nat → Option ex_C) (fun pc => @Bool.rec (fun _ => Nat → Option ex_C) (fun pc => @Bool.rec (fun _ => Nat → Option ex_C) (fun pc => @Bool.rec (fun _ => Option ex_C) none (some k380_18) (Nat.beq pc 18)) (fun pc => @Bool.rec (fun _ => Option ex_C) none (some k380_16) (Nat.beq pc 16)) (Nat.ble pc 16) pc) (fun pc => @Bool.rec (fun _ => Option ex_C) none (some k380_15) (Nat.beq pc 15)) (Nat.ble pc 15) pc) (fun pc => @Bool.rec (fun _ => Nat → Option ex_C) (fun pc => @Bool.rec (fun _ => Nat → Option ex_C) (fun pc => @Bool.rec (fun _ => Option ex_C) none (some k380_13) (Nat.beq pc 13)) (fun pc => @Bool.rec (fun _ => Option ex_C) none (some k380_12) (Nat.beq pc 12)) (Nat.ble pc 12) pc) (fun pc => @Bool.rec (fun _ => Option ex_C) none (some k380_0) (Nat.beq pc 0)) (Nat.ble pc 0) pc) (Nat.ble pc 13) pc
theorem ktE_380 : ex_CTT 0 [(0, 9, 12, 2), (0, 9, 15, 4)] cd_380 kt_380 cd_380 := (ex_ct2 (ex_ct2 (ex_ct1 kE380_0) (ex_ct2 (ex_ct1 kE380_12) (ex_ct1 kE380_13))) (ex_ct2 (ex_ct1 kE380_15) (ex_ct2 (ex_ct1 kE380_16) (ex_ct1 kE380_18))))
set_option maxHeartbeats 100000 in
def k381_15 : ex_C := c_psh 0 (c_ireturn  0)
set_option maxHeartbeats 100000 in
theorem kE381_15 : ex_CE 0 [(0, 9, 12, 1)] cd_381 k381_15 q381_15 := e_psh_iconst 15 0 0 (e_ireturn 16 0 )
set_option maxHeartbeats 100000 in
def k381_13 : ex_C := c_psh 1 (c_ireturn  0)
set_option maxHeartbeats 100000 in
theorem kE381_13 : ex_CE 0 [(0, 9, 12, 1)] cd_381 k381_13 q381_13 := e_psh_iconst 13 1 1 (e_ireturn 14 0 )
set_option maxHeartbeats 100000 in
def k381_12 : ex_C := c_astore 3 (k381_13)
set_option maxHeartbeats 100000 in
theorem kE381_12 : ex_CE 0 [(0, 9, 12, 1)] cd_381 k381_12 q381_12 := e_astore_astore_n 12 13 3 3 rfl (kE381_13)
set_option maxHeartbeats 100000 in
def k381_0 : ex_C := c_aload 2 (c_psh 0 (c_aload 0 (c_iload 1 (c_invV [(0, 9, 12, 1)] cd_381 4 2 134 0 (c_i2l   (c_lastore   (c_goto 15)))))))
set_option maxHeartbeats 100000 in
theorem kE381_0 : ex_CE 0 [(0, 9, 12, 1)] cd_381 k381_0 q381_0 := e_aload_aload_n 0 0 2 2 rfl (e_psh_iconst 1 0 0 (e_aload_aload_n 2 0 0 0 rfl (e_iload_iload_n 3 0 1 1 rfl (e_invV_invokevirtual 4 1228802 119 2 134 0 rfl rfl rfl rfl rfl rfl (e_i2l 7 0  (e_lastore 8 0  (e_goto 9 15 6)))))))
def kt_381 : Nat → Option ex_C := fun pc => @Bool.rec (fun _ => Nat → Option ex_C) (fun pc => @Bool.rec (fun _ => Nat → Option ex_C) (fun pc => @Bool.rec (fun _ => Option ex_C) none (some k381_15) (Nat.beq pc 15)) (fun pc => @Bool.rec (fun _ => Option ex_C) none (some k381_13) (Nat.beq pc 13)) (Nat.ble pc 13) pc) (fun pc => @Bool.rec (fun _ => Nat → Option ex_C) (fun pc => @Bool.rec (fun _ => Option ex_C) none (some k381_12) (Nat.beq pc 12)) (fun pc => @Bool.rec (fun _ => Option ex_C) none (some k381_0) (Nat.beq pc 0)) (Nat.ble pc 0) pc) (Nat.ble pc 12) pc
theorem ktE_381 : ex_CTT 0 [(0, 9, 12, 1)] cd_381 kt_381 cd_381 := (ex_ct2 (ex_ct2 (ex_ct1 kE381_0) (ex_ct1 kE381_12)) (ex_ct2 (ex_ct1 kE381_13) (ex_ct1 kE381_15)))
set_option maxHeartbeats 100000 in
def k382_15 : ex_C := c_psh 0 (c_ireturn  0)
set_option maxHeartbeats 100000 in
theorem kE382_15 : ex_CE 0 [(0, 9, 12, 2)] cd_382 k382_15 q382_15 := e_psh_iconst 15 0 0 (e_ireturn 16 0 )
set_option maxHeartbeats 100000 in
def k382_13 : ex_C := c_psh 1 (c_ireturn  0)
set_option maxHeartbeats 100000 in
theorem kE382_13 : ex_CE 0 [(0, 9, 12, 2)] cd_382 k382_13 q382_13 := e_psh_iconst 13 1 1 (e_ireturn 14 0 )
set_option maxHeartbeats 100000 in
def k382_12 : ex_C := c_astore 3 (k382_13)
set_option maxHeartbeats 100000 in
theorem kE382_12 : ex_CE 0 [(0, 9, 12, 2)] cd_382 k382_12 q382_12 := e_astore_astore_n 12 13 3 3 rfl (kE382_13)
set_option maxHeartbeats 100000 in
def k382_0 : ex_C := c_aload 2 (c_psh 0 (c_aload 0 (c_iload 1 (c_invV [(0, 9, 12, 2)] cd_382 4 2 135 0 (c_i2l   (c_lastore   (c_goto 15)))))))
set_option maxHeartbeats 100000 in
theorem kE382_0 : ex_CE 0 [(0, 9, 12, 2)] cd_382 k382_0 q382_0 := e_aload_aload_n 0 0 2 2 rfl (e_psh_iconst 1 0 0 (e_aload_aload_n 2 0 0 0 rfl (e_iload_iload_n 3 0 1 1 rfl (e_invV_invokevirtual 4 1236994 122 2 135 0 rfl rfl rfl rfl rfl rfl (e_i2l 7 0  (e_lastore 8 0  (e_goto 9 15 6)))))))
def kt_382 : Nat → Option ex_C := fun pc => @Bool.rec (fun _ => Nat → Option ex_C) (fun pc => @Bool.rec (fun _ => Nat → Option ex_C) (fun pc => @Bool.rec (fun _ => Option ex_C) none (some k382_15) (Nat.beq pc 15)) (fun pc => @Bool.rec (fun _ => Option ex_C) none (some k382_13) (Nat.beq pc 13)) (Nat.ble pc 13) pc) (fun pc => @Bool.rec (fun _ => Nat → Option ex_C) (fun pc => @Bool.rec (fun _ => Option ex_C) none (some k382_12) (Nat.beq pc 12)) (fun pc => @Bool.rec (fun _ => Option ex_C) none (some k382_0) (Nat.beq pc 0)) (Nat.ble pc 0) pc) (Nat.ble pc 12) pc
theorem ktE_382 : ex_CTT 0 [(0, 9, 12, 2)] cd_382 kt_382 cd_382 := (ex_ct2 (ex_ct2 (ex_ct1 kE382_0) (ex_ct1 kE382_12)) (ex_ct2 (ex_ct1 kE382_13) (ex_ct1 kE382_15)))
set_option maxHeartbeats 100000 in
def k383_17 : ex_C := c_psh 0 (c_ireturn  0)
set_option maxHeartbeats 100000 in
theorem kE383_17 : ex_CE 0 [(0, 8, 11, 3), (0, 8, 14, 5)] cd_383 k383_17 q383_17 := e_psh_iconst 17 0 0 (e_ireturn 18 0 )
set_option maxHeartbeats 100000 in
def k383_15 : ex_C := c_psh 2 (c_ireturn  0)
set_option maxHeartbeats 100000 in
theorem kE383_15 : ex_CE 0 [(0, 8, 11, 3), (0, 8, 14, 5)] cd_383 k383_15 q383_15 := e_psh_iconst 15 2 2 (e_ireturn 16 0 )
set_option maxHeartbeats 100000 in
def k383_14 : ex_C := c_astore 2 (k383_15)
set_option maxHeartbeats 100000 in
theorem kE383_14 : ex_CE 0 [(0, 8, 11, 3), (0, 8, 14, 5)] cd_383 k383_14 q383_14 := e_astore_astore_n 14 15 2 2 rfl (kE383_15)
set_option maxHeartbeats 100000 in
def k383_12 : ex_C := c_psh 1 (c_ireturn  0)
set_option maxHeartbeats 100000 in
theorem kE383_12 : ex_CE 0 [(0, 8, 11, 3), (0, 8, 14, 5)] cd_383 k383_12 q383_12 := e_psh_iconst 12 1 1 (e_ireturn 13 0 )
set_option maxHeartbeats 100000 in
def k383_11 : ex_C := c_astore 2 (k383_12)
set_option maxHeartbeats 100000 in
theorem kE383_11 : ex_CE 0 [(0, 8, 11, 3), (0, 8, 14, 5)] cd_383 k383_11 q383_11 := e_astore_astore_n 11 12 2 2 rfl (kE383_12)
set_option maxHeartbeats 100000 in
def k383_0 : ex_C := c_aload 1 (c_psh 0 (c_aload 0 (c_invV [(0, 8, 11, 3), (0, 8, 14, 5)] cd_383 3 1 137 0 (c_i2l   (c_lastore   (c_goto 17))))))
set_option maxHeartbeats 100000 in
theorem kE383_0 : ex_CE 0 [(0, 8, 11, 3), (0, 8, 14, 5)] cd_383 k383_0 q383_0 := e_aload_aload_n 0 0 1 1 rfl (e_psh_iconst 1 0 0 (e_aload_aload_n 2 0 0 0 rfl (e_invV_invokevirtual 3 1253377 125 1 137 0 rfl rfl rfl rfl rfl rfl (e_i2l 6 0  (e_lastore 7 0  (e_goto 8 17 9))))))
def kt_383 : Nat → Option ex_C := fun pc => @Bool.rec (fun _ => Nat → Option ex_C) (fun pc => @Bool.rec (fun _ => Nat → Option ex_C) (fun pc => @Bool.rec (fun _ => Nat → Option ex_C) (fun pc => @Bool.rec (fun _ => Option ex_C) none (some k383_17) (Nat.beq pc 17)) (fun pc => @Bool.rec (fun _ => Option ex_C) none (some k383_15) (Nat.beq pc 15)) (Nat.ble pc 15) pc) (fun pc => @Bool.rec (fun _ => Option ex_C) none (some k383_14) (Nat.beq pc 14)) (Nat.ble pc 14) pc) (fun pc => @Bool.rec (fun _ => Nat → Option ex_C) (fun pc => @Bool.rec (fun _ => Nat → Option ex_C) (fun pc => @Bool.rec (fun _ => Option ex_C) none (some k383_12) (Nat.beq pc 12)) (fun pc => @Bool.rec (fun _ => Option ex_C) none (some k383_11) (Nat.beq pc 11)) (Nat.ble pc 11) pc) (fun pc => @Bool.rec (fun _ => Option ex_C) none (some k383_0) (Nat.beq pc 0)) (Nat.ble pc 0) pc) (Nat.ble pc 12) pc
theorem ktE_383 : ex_CTT 0 [(0, 8, 11, 3), (0, 8, 14, 5)] cd_383 kt_383 cd_383 := (ex_ct2 (ex_ct2 (ex_ct1 kE383_0) (ex_ct2 (ex_ct1 kE383_11) (ex_ct1 kE383_12))) (ex_ct2 (ex_ct1 kE383_14) (ex_ct2 (ex_ct1 kE383_15) (ex_ct1 kE383_17))))
set_option maxHeartbeats 100000 in
def k384_15 : ex_C := c_psh 0 (c_ireturn  0)
set_option maxHeartbeats 100000 in
theorem kE384_15 : ex_CE 0 [(0, 9, 12, 2)] cd_384 k384_15 q384_15 := e_psh_iconst 15 0 0 (e_ireturn 16 0 )
set_option maxHeartbeats 100000 in
def k384_13 : ex_C := c_psh 1 (c_ireturn  0)
set_option maxHeartbeats 100000 in
theorem kE384_13 : ex_CE 0 [(0, 9, 12, 2)] cd_384 k384_13 q384_13 := e_psh_iconst 13 1 1 (e_ireturn 14 0 )
set_option maxHeartbeats 100000 in
def k384_12 : ex_C := c_astore 3 (k384_13)
set_option maxHeartbeats 100000 in
theorem kE384_12 : ex_CE 0 [(0, 9, 12, 2)] cd_384 k384_12 q384_12 := e_astore_astore_n 12 13 3 3 rfl (kE384_13)
set_option maxHeartbeats 100000 in
def k384_0 : ex_C := c_aload 2 (c_psh 0 (c_aload 0 (c_iload 1 (c_invV [(0, 9, 12, 2)] cd_384 4 2 139 0 (c_i2l   (c_lastore   (c_goto 15)))))))
set_option maxHeartbeats 100000 in
theorem kE384_0 : ex_CE 0 [(0, 9, 12, 2)] cd_384 k384_0 q384_0 := e_aload_aload_n 0 0 2 2 rfl (e_psh_iconst 1 0 0 (e_aload_aload_n 2 0 0 0 rfl (e_iload_iload_n 3 0 1 1 rfl (e_invV_invokevirtual 4 1269762 128 2 139 0 rfl rfl rfl rfl rfl rfl (e_i2l 7 0  (e_lastore 8 0  (e_goto 9 15 6)))))))
def kt_384 : Nat → Option ex_C := fun pc => @Bool.rec (fun _ => Nat → Option ex_C) (fun pc => @Bool.rec (fun _ => Nat → Option ex_C) (fun pc => @Bool.rec (fun _ => Option ex_C) none (some k384_15) (Nat.beq pc 15)) (fun pc => @Bool.rec (fun _ => Option ex_C) none (some k384_13) (Nat.beq pc 13)) (Nat.ble pc 13) pc) (fun pc => @Bool.rec (fun _ => Nat → Option ex_C) (fun pc => @Bool.rec (fun _ => Option ex_C) none (some k384_12) (Nat.beq pc 12)) (fun pc => @Bool.rec (fun _ => Option ex_C) none (some k384_0) (Nat.beq pc 0)) (Nat.ble pc 0) pc) (Nat.ble pc 12) pc
theorem ktE_384 : ex_CTT 0 [(0, 9, 12, 2)] cd_384 kt_384 cd_384 := (ex_ct2 (ex_ct2 (ex_ct1 kE384_0) (ex_ct1 kE384_12)) (ex_ct2 (ex_ct1 kE384_13) (ex_ct1 kE384_15)))
set_option maxHeartbeats 100000 in
def k385_14 : ex_C := c_psh 0 (c_ireturn  0)
set_option maxHeartbeats 100000 in
theorem kE385_14 : ex_CE 0 [(0, 8, 11, 5)] cd_385 k385_14 q385_14 := e_psh_iconst 14 0 0 (e_ireturn 15 0 )
set_option maxHeartbeats 100000 in
def k385_12 : ex_C := c_psh 1 (c_ireturn  0)
set_option maxHeartbeats 100000 in
theorem kE385_12 : ex_CE 0 [(0, 8, 11, 5)] cd_385 k385_12 q385_12 := e_psh_iconst 12 1 1 (e_ireturn 13 0 )
set_option maxHeartbeats 100000 in
def k385_11 : ex_C := c_astore 2 (k385_12)
set_option maxHeartbeats 100000 in
theorem kE385_11 : ex_CE 0 [(0, 8, 11, 5)] cd_385 k385_11 q385_11 := e_astore_astore_n 11 12 2 2 rfl (kE385_12)
set_option maxHeartbeats 100000 in
def k385_0 : ex_C := c_aload 1 (c_psh 0 (c_aload 0 (c_invV [(0, 8, 11, 5)] cd_385 3 1 140 0 (c_i2l   (c_lastore   (c_goto 14))))))
set_option maxHeartbeats 100000 in
theorem kE385_0 : ex_CE 0 [(0, 8, 11, 5)] cd_385 k385_0 q385_0 := e_aload_aload_n 0 0 1 1 rfl (e_psh_iconst 1 0 0 (e_aload_aload_n 2 0 0 0 rfl (e_invV_invokevirtual 3 1277953 131 1 140 0 rfl rfl rfl rfl rfl rfl (e_i2l 6 0  (e_lastore 7 0  (e_goto 8 14 6))))))
def kt_385 : Nat → Option ex_C := fun pc => @Bool.rec (fun _ => Nat → Option ex_C) (fun pc => @Bool.rec (fun _ => Nat → Option ex_C) (fun pc => @Bool.rec (fun _ => Option ex_C) none (some k385_14) (Nat.beq pc 14)) (fun pc => @Bool.rec (fun _ => Option ex_C) none (some k385_12) (Nat.beq pc 12)) (Nat.ble pc 12) pc) (fun pc => @Bool.rec (fun _ => Nat → Option ex_C) (fun pc => @Bool.rec (fun _ => Option ex_C) none (some k385_11) (Nat.beq pc 11)) (fun pc => @Bool.rec (fun _ => Option ex_C) none (some k385_0) (Nat.beq pc 0)) (Nat.ble pc 0) pc) (Nat.ble pc 11) pc
theorem ktE_385 : ex_CTT 0 [(0, 8, 11, 5)] cd_385 kt_385 cd_385 := (ex_ct2 (ex_ct2 (ex_ct1 kE385_0) (ex_ct1 kE385_11)) (ex_ct2 (ex_ct1 kE385_12) (ex_ct1 kE385_14)))
set_option maxHeartbeats 100000 in
def k386_17 : ex_C := c_psh 0 (c_ireturn  0)
set_option maxHeartbeats 100000 in
theorem kE386_17 : ex_CE 0 [(0, 10, 13, 1)] cd_386 k386_17 q386_17 := e_psh_iconst 17 0 0 (e_ireturn 18 0 )
set_option maxHeartbeats 100000 in
def k386_15 : ex_C := c_psh 1 (c_ireturn  0)
set_option maxHeartbeats 100000 in
theorem kE386_15 : ex_CE 0 [(0, 10, 13, 1)] cd_386 k386_15 q386_15 := e_psh_iconst 15 1 1 (e_ireturn 16 0 )
set_option maxHeartbeats 100000 in
def k386_13 : ex_C := c_astore 4 (k386_15)
set_option maxHeartbeats 100000 in
theorem kE386_13 : ex_CE 0 [(0, 10, 13, 1)] cd_386 k386_13 q386_13 := e_astore_astore 13 15 4 (kE386_15)
set_option maxHeartbeats 100000 in
def k386_0 : ex_C := c_aload 3 (c_psh 0 (c_aload 0 (c_iload 1 (c_iload 2 (c_invV [(0, 10, 13, 1)] cd_386 5 3 141 0 (c_i2l   (c_lastore   (c_goto 17))))))))
set_option maxHeartbeats 100000 in
theorem kE386_0 : ex_CE 0 [(0, 10, 13, 1)] cd_386 k386_0 q386_0 := e_aload_aload_n 0 0 3 3 rfl (e_psh_iconst 1 0 0 (e_aload_aload_n 2 0 0 0 rfl (e_iload_iload_n 3 0 1 1 rfl (e_iload_iload_n 4 0 2 2 rfl (e_invV_invokevirtual 5 1286147 134 3 141 0 rfl rfl rfl rfl rfl rfl (e_i2l 8 0  (e_lastore 9 0  (e_goto 10 17 7))))))))
def kt_386 : Nat → Option ex_C := fun pc => @Bool.rec (fun _ => Nat → Option ex_C) (fun pc => @Bool.rec (fun _ => Nat → Option ex_C) (fun pc => @Bool.rec (fun _ => Option ex_C) none (some k386_17) (Nat.beq pc 17)) (fun pc => @Bool.rec (fun _ => Option ex_C) none (some k386_15) (Nat.beq pc 15)) (Nat.ble pc 15) pc) (fun pc => @Bool.rec (fun _ => Nat → Option ex_C) (fun pc => @Bool.rec (fun _ => Option ex_C) none (some k386_13) (Nat.beq pc 13)) (fun pc => @Bool.rec (fun _ => Option ex_C) none (some k386_0) (Nat.beq pc 0)) (Nat.ble pc 0) pc) (Nat.ble pc 13) pc
theorem ktE_386 : ex_CTT 0 [(0, 10, 13, 1)] cd_386 kt_386 cd_386 := (ex_ct2 (ex_ct2 (ex_ct1 kE386_0) (ex_ct1 kE386_13)) (ex_ct2 (ex_ct1 kE386_15) (ex_ct1 kE386_17)))
set_option maxHeartbeats 100000 in
def k387_21 : ex_C := c_psh 0 (c_ireturn  0)
set_option maxHeartbeats 100000 in
theorem kE387_21 : ex_CE 0 [(0, 10, 13, 1), (0, 10, 17, 2)] cd_387 k387_21 q387_21 := e_psh_iconst 21 0 0 (e_ireturn 22 0 )
set_option maxHeartbeats 100000 in
def k387_19 : ex_C := c_psh 2 (c_ireturn  0)
set_option maxHeartbeats 100000 in
theorem kE387_19 : ex_CE 0 [(0, 10, 13, 1), (0, 10, 17, 2)] cd_387 k387_19 q387_19 := e_psh_iconst 19 2 2 (e_ireturn 20 0 )
set_option maxHeartbeats 100000 in
def k387_17 : ex_C := c_astore 4 (k387_19)
set_option maxHeartbeats 100000 in
theorem kE387_17 : ex_CE 0 [(0, 10, 13, 1), (0, 10, 17, 2)] cd_387 k387_17 q387_17 := e_astore_astore 17 19 4 (kE387_19)
set_option maxHeartbeats 100000 in
def k387_15 : ex_C := c_psh 1 (c_ireturn  0)
set_option maxHeartbeats 100000 in
theorem kE387_15 : ex_CE 0 [(0, 10, 13, 1), (0, 10, 17, 2)] cd_387 k387_15 q387_15 := e_psh_iconst 15 1 1 (e_ireturn 16 0 )
set_option maxHeartbeats 100000 in
def k387_13 : ex_C := c_astore 4 (k387_15)
set_option maxHeartbeats 100000 in
theorem kE387_13 : ex_CE 0 [(0, 10, 13, 1), (0, 10, 17, 2)] cd_387 k387_13 q387_13 := e_astore_astore 13 15 4 (kE387_15)
set_option maxHeartbeats 100000 in
def k387_0 : ex_C := c_aload 3 (c_psh 0 (c_aload 0 (c_iload 1 (c_iload 2 (c_invV [(0, 10, 13, 1), (0, 10, 17, 2)] cd_387 5 3 142 0 (c_i2l   (c_lastore   (c_goto 21))))))))
set_option maxHeartbeats 100000 in
theorem kE387_0 : ex_CE 0 [(0, 10, 13, 1), (0, 10, 17, 2)] cd_387 k387_0 q387_0 := e_aload_aload_n 0 0 3 3 rfl (e_psh_iconst 1 0 0 (e_aload_aload_n 2 0 0 0 rfl (e_iload_iload_n 3 0 1 1 rfl (e_iload_iload_n 4 0 2 2 rfl (e_invV_invokevirtual 5 1294339 137 3 142 0 rfl rfl rfl rfl rfl rfl (e_i2l 8 0  (e_lastore 9 0  (e_goto 10 21 11))))))))
def kt_387 : Nat → Option ex_C := fun pc => @Bool.rec (fun _ => Nat → Option ex_C) (fun pc => @Bool.rec (fun _ => Nat → Option ex_C) (fun pc => @Bool.rec (fun _ => Nat → Option ex_C) (fun pc => @Bool.rec (fun _ => Option ex_C) none (some k387_21) (Nat.beq pc 21)) (fun pc => @Bool.rec (fun _ => Option ex_C) none (some k387_19) (Nat.beq pc 19)) (Nat.ble pc 19) pc) (fun pc => @Bool.rec (fun _ => Option ex_C) none (some k387_17) (Nat.beq pc 17)) (Nat.ble pc 17) pc) (fun pc => @Bool.rec (fun _ => Nat → Option ex_C) (fun pc => @Bool.rec (fun _ => Nat → Option ex_C) (fun pc => @Bool.rec (fun _ => Option ex_C) none (some k387_15) (Nat.beq pc 15)) (fun pc => @Bool.rec (fun _ => Option ex_C) none (some k387_13) (Nat.beq pc 13)) (Nat.ble pc 13) pc) (fun pc => @Bool.rec (fun _ => Option ex_C) none (some k387_0) (Nat.beq pc 0)) (Nat.ble pc 0) pc) (Nat.ble pc 15) pc
theorem ktE_387 : ex_CTT 0 [(0, 10, 13, 1), (0, 10, 17, 2)] cd_387 kt_387 cd_387 := (ex_ct2 (ex_ct2 (ex_ct1 kE387_0) (ex_ct2 (ex_ct1 kE387_13) (ex_ct1 kE387_15))) (ex_ct2 (ex_ct1 kE387_17) (ex_ct2 (ex_ct1 kE387_19) (ex_ct1 kE387_21))))
set_option maxHeartbeats 100000 in
def k388_14 : ex_C := c_psh 0 (c_ireturn  0)
set_option maxHeartbeats 100000 in
theorem kE388_14 : ex_CE 0 [(0, 8, 11, 6)] cd_388 k388_14 q388_14 := e_psh_iconst 14 0 0 (e_ireturn 15 0 )
set_option maxHeartbeats 100000 in
def k388_12 : ex_C := c_psh 1 (c_ireturn  0)
set_option maxHeartbeats 100000 in
theorem kE388_12 : ex_CE 0 [(0, 8, 11, 6)] cd_388 k388_12 q388_12 := e_psh_iconst 12 1 1 (e_ireturn 13 0 )
set_option maxHeartbeats 100000 in
def k388_11 : ex_C := c_astore 2 (k388_12)
set_option maxHeartbeats 100000 in
theorem kE388_11 : ex_CE 0 [(0, 8, 11, 6)] cd_388 k388_11 q388_11 := e_astore_astore_n 11 12 2 2 rfl (kE388_12)
set_option maxHeartbeats 100000 in
def k388_0 : ex_C := c_aload 1 (c_psh 0 (c_aload 0 (c_invV [(0, 8, 11, 6)] cd_388 3 1 144 0 (c_none))))
set_option maxHeartbeats 100000 in
theorem kE388_0 : ex_CE 0 [(0, 8, 11, 6)] cd_388 k388_0 q388_0 := e_aload_aload_n 0 0 1 1 rfl (e_psh_iconst 1 0 0 (e_aload_aload_n 2 0 0 0 rfl (e_invV_invokevirtual 3 1310721 140 1 144 0 rfl rfl rfl rfl rfl rfl (e_bad))))
def kt_388 : Nat → Option ex_C := fun pc => @Bool.rec (fun _ => Nat → Option ex_C) (fun pc => @Bool.rec (fun _ => Nat → Option ex_C) (fun pc => @Bool.rec (fun _ => Option ex_C) none (some k388_14) (Nat.beq pc 14)) (fun pc => @Bool.rec (fun _ => Option ex_C) none (some k388_12) (Nat.beq pc 12)) (Nat.ble pc 12) pc) (fun pc => @Bool.rec (fun _ => Nat → Option ex_C) (fun pc => @Bool.rec (fun _ => Option ex_C) none (some k388_11) (Nat.beq pc 11)) (fun pc => @Bool.rec (fun _ => Option ex_C) none (some k388_0) (Nat.beq pc 0)) (Nat.ble pc 0) pc) (Nat.ble pc 11) pc
theorem ktE_388 : ex_CTT 0 [(0, 8, 11, 6)] cd_388 kt_388 cd_388 := (ex_ct2 (ex_ct2 (ex_ct1 kE388_0) (ex_ct1 kE388_11)) (ex_ct2 (ex_ct1 kE388_12) (ex_ct1 kE388_14)))
set_option maxHeartbeats 100000 in
def k389_2884 : ex_C := c_psh 1 (c_ireturn  1)
set_option maxHeartbeats 100000 in
theorem kE389_2884 : ex_CE 1 [] cd_389 k389_2884 q389_2884 := e_psh_iconst 2884 1 1 (e_ireturn 2885 0 )
set_option maxHeartbeats 100000 in
def k389_2878 : ex_C := c_iinc 5 6 (c_goto 28)
set_option maxHeartbeats 100000 in
theorem kE389_2878 : ex_CE 1 [] cd_389 k389_2878 q389_2878 := e_iinc 2878 6 5 6 (e_goto 2881 28 (-2853))
set_option maxHeartbeats 100000 in
def k389_2865 : ex_C := c_aload 1 (c_invV [] cd_389 2866 1 146 0 (c_aload 2 (c_invV [] cd_389 2870 1 290 12 (c_icmp_eq 2878 (c_psh 0 (c_ireturn  1))))))
set_option maxHeartbeats 100000 in
theorem kE389_2865 : ex_CE 1 [] cd_389 k389_2865 q389_2865 := e_aload_aload_n 2865 0 1 1 rfl (e_invV_invokevirtual 2866 1327105 339 1 146 0 rfl rfl rfl rfl rfl rfl (e_aload_aload_n 2869 0 2 2 rfl (e_invV_invokevirtual 2870 2507137 342 1 290 12 rfl rfl rfl rfl rfl rfl (e_icmp_eq 2873 2878 5 (e_psh_iconst 2876 0 0 (e_ireturn 2877 0 ))))))
set_option maxHeartbeats 100000 in
def k389_2862 : ex_C := c_goto 2878
set_option maxHeartbeats 100000 in
theorem kE389_2862 : ex_CE 1 [] cd_389 k389_2862 q389_2862 := e_goto 2862 2878 16
set_option maxHeartbeats 100000 in
def k389_2860 : ex_C := c_psh 0 (c_ireturn  1)
set_option maxHeartbeats 100000 in
theorem kE389_2860 : ex_CE 1 [] cd_389 k389_2860 q389_2860 := e_psh_iconst 2860 0 0 (e_ireturn 2861 0 )
set_option maxHeartbeats 100000 in
def k389_2824 : ex_C := c_aload 1 (c_invV [] cd_389 2825 1 145 0 (c_dstore 6  (c_aload 2 (c_invV [] cd_389 2831 1 289 12 (c_dstore 8  (c_dload 6 (c_dload 8 (c_dcmp .l  (c_if_eq 2862 (c_dload 6 (c_dload 6 (c_dcmp .l  (c_if_eq 2860 (c_dload 8 (c_dload 8 (c_dcmp .l  (c_if_ne 2862 (k389_2860))))))))))))))))))
set_option maxHeartbeats 100000 in
theorem kE389_2824 : ex_CE 1 [] cd_389 k389_2824 q389_2824 := e_aload_aload_n 2824 0 1 1 rfl (e_invV_invokevirtual 2825 1318913 334 1 145 0 rfl rfl rfl rfl rfl rfl (e_dstore 2828 0 6 (e_aload_aload_n 2830 0 2 2 rfl (e_invV_invokevirtual 2831 2498945 338 1 289 12 rfl rfl rfl rfl rfl rfl (e_dstore 2834 0 8 (e_dload_dload 2836 0 6 (e_dload_dload 2838 0 8 (e_dcmp 2840 0 .l (e_if_eq 2841 2862 21 (e_dload_dload 2844 0 6 (e_dload_dload 2846 0 6 (e_dcmp 2848 0 .l (e_if_eq 2849 2860 11 (e_dload_dload 2852 0 8 (e_dload_dload 2854 0 8 (e_dcmp 2856 0 .l (e_if_ne 2857 2862 5 (kE389_2860))))))))))))))))))
set_option maxHeartbeats 100000 in
def k389_2821 : ex_C := c_goto 2878
set_option maxHeartbeats 100000 in
theorem kE389_2821 : ex_CE 1 [] cd_389 k389_2821 q389_2821 := e_goto 2821 2878 57
set_option maxHeartbeats 100000 in
def k389_2819 : ex_C := c_psh 0 (c_ireturn  1)
set_option maxHeartbeats 100000 in
theorem kE389_2819 : ex_CE 1 [] cd_389 k389_2819 q389_2819 := e_psh_iconst 2819 0 0 (e_ireturn 2820 0 )
set_option maxHeartbeats 100000 in
def k389_2783 : ex_C := c_iload 6 (c_if_ne 2821 (c_aload 4 (c_psh 0 (c_none))))
set_option maxHeartbeats 100000 in
theorem kE389_2783 : ex_CE 1 [] cd_389 k389_2783 q389_2783 := e_iload_iload 2783 0 6 (e_if_ne 2785 2821 36 (e_aload_aload 2788 0 4 (e_psh_iconst 2790 0 0 (e_bad))))
set_option maxHeartbeats 100000 in
def k389_2758 : ex_C := c_aload 1 (c_aload 4 (c_invS [] cd_389 2761 2 388 (c_istore 6 (c_aload 2 (c_invV [] cd_389 2767 1 288 12 (c_fstore 7 (c_aload 2 (c_invV [] cd_389 2773 1 178 12 (c_iload 6 (c_icmp_eq 2783 (c_psh 0 (c_ireturn  1))))))))))))
set_option maxHeartbeats 100000 in
theorem kE389_2758 : ex_CE 1 [] cd_389 k389_2758 q389_2758 := e_aload_aload_n 2758 0 1 1 rfl (e_aload_aload 2759 0 4 (e_invS 2761 3317730 330 2 388 rfl rfl rfl (e_istore_istore 2764 0 6 (e_aload_aload_n 2766 0 2 2 rfl (e_invV_invokevirtual 2767 2490753 333 1 288 12 rfl rfl rfl rfl rfl rfl (e_fstore_fstore 2770 0 7 (e_aload_aload_n 2772 0 2 2 rfl (e_invV_invokevirtual 2773 1589633 160 1 178 12 rfl rfl rfl rfl rfl rfl (e_iload_iload 2776 0 6 (e_icmp_eq 2778 2783 5 (e_psh_iconst 2781 0 0 (e_ireturn 2782 0 ))))))))))))
set_option maxHeartbeats 100000 in
def k389_2744 : ex_C := c_aload 1 (c_invV [] cd_389 2745 1 143 0 (c_aload 2 (c_invV [] cd_389 2749 1 287 12 (c_lcmp   (c_if_eq 2878 (c_psh 0 (c_ireturn  1)))))))
set_option maxHeartbeats 100000 in
theorem kE389_2744 : ex_CE 1 [] cd_389 k389_2744 q389_2744 := e_aload_aload_n 2744 0 1 1 rfl (e_invV_invokevirtual 2745 1302529 325 1 143 0 rfl rfl rfl rfl rfl rfl (e_aload_aload_n 2748 0 2 2 rfl (e_invV_invokevirtual 2749 2482561 329 1 287 12 rfl rfl rfl rfl rfl rfl (e_lcmp 2752 0  (e_if_eq 2753 2878 125 (e_psh_iconst 2756 0 0 (e_ireturn 2757 0 )))))))
set_option maxHeartbeats 100000 in
def k389_2741 : ex_C := c_goto 2878
set_option maxHeartbeats 100000 in
theorem kE389_2741 : ex_CE 1 [] cd_389 k389_2741 q389_2741 := e_goto 2741 2878 137
set_option maxHeartbeats 100000 in
def k389_2724 : ex_C := c_iload 6 (c_if_ne 2741 (c_aload 3 (c_psh 0 (c_laload   (c_iload 7 (c_i2l   (c_lcmp   (c_if_eq 2741 (c_psh 0 (c_ireturn  1))))))))))
set_option maxHeartbeats 100000 in
theorem kE389_2724 : ex_CE 1 [] cd_389 k389_2724 q389_2724 := e_iload_iload 2724 0 6 (e_if_ne 2726 2741 15 (e_aload_aload_n 2729 0 3 3 rfl (e_psh_iconst 2730 0 0 (e_laload 2731 0  (e_iload_iload 2732 0 7 (e_i2l 2734 0  (e_lcmp 2735 0  (e_if_eq 2736 2741 5 (e_psh_iconst 2739 0 0 (e_ireturn 2740 0 ))))))))))
set_option maxHeartbeats 100000 in
def k389_2676 : ex_C := c_aload 1 (c_aload 0 (c_iload 5 (c_psh 1 (c_iadd (c_iaload (c_aload 0 (c_iload 5 (c_psh 2 (c_iadd (c_iaload (c_aload 3 (c_invS [] cd_389 2690 4 387 (c_istore 6 (c_aload 2 (c_aload 0 (c_iload 5 (c_psh 1 (c_iadd (c_iaload (c_aload 0 (c_iload 5 (c_psh 2 (c_iadd (c_iaload (c_invV [] cd_389 2708 3 286 12 (c_istore 7 (c_aload 2 (c_invV [] cd_389 2714 1 178 12 (c_iload 6 (c_icmp_eq 2724 (c_psh 0 (c_ireturn  1))))))))))))))))))))))))))))))))
set_option maxHeartbeats 100000 in
theorem kE389_2676 : ex_CE 1 [] cd_389 k389_2676 q389_2676 := e_aload_aload_n 2676 0 1 1 rfl (e_aload_aload_n 2677 0 0 0 rfl (e_iload_iload 2678 0 5 (e_psh_iconst 2680 1 1 (e_iadd 2681 0 (e_iaload 2682 0 (e_aload_aload_n 2683 0 0 0 rfl (e_iload_iload 2684 0 5 (e_psh_iconst 2686 2 2 (e_iadd 2687 0 (e_iaload 2688 0 (e_aload_aload_n 2689 0 3 3 rfl (e_invS 2690 3309540 322 4 387 rfl rfl rfl (e_istore_istore 2693 0 6 (e_aload_aload_n 2695 0 2 2 rfl (e_aload_aload_n 2696 0 0 0 rfl (e_iload_iload 2697 0 5 (e_psh_iconst 2699 1 1 (e_iadd 2700 0 (e_iaload 2701 0 (e_aload_aload_n 2702 0 0 0 rfl (e_iload_iload 2703 0 5 (e_psh_iconst 2705 2 2 (e_iadd 2706 0 (e_iaload 2707 0 (e_invV_invokevirtual 2708 2474371 324 3 286 12 rfl rfl rfl rfl rfl rfl (e_istore_istore 2711 0 7 (e_aload_aload_n 2713 0 2 2 rfl (e_invV_invokevirtual 2714 1589633 160 1 178 12 rfl rfl rfl rfl rfl rfl (e_iload_iload 2717 0 6 (e_icmp_eq 2719 2724 5 (e_psh_iconst 2722 0 0 (e_ireturn 2723 0 ))))))))))))))))))))))))))))))))
set_option maxHeartbeats 100000 in
def k389_2673 : ex_C := c_goto 2878
set_option maxHeartbeats 100000 in
theorem kE389_2673 : ex_CE 1 [] cd_389 k389_2673 q389_2673 := e_goto 2673 2878 205
set_option maxHeartbeats 100000 in
def k389_2656 : ex_C := c_iload 6 (c_if_ne 2673 (c_aload 3 (c_psh 0 (c_laload   (c_iload 7 (c_i2l   (c_lcmp   (c_if_eq 2673 (c_psh 0 (c_ireturn  1))))))))))
set_option maxHeartbeats 100000 in
theorem kE389_2656 : ex_CE 1 [] cd_389 k389_2656 q389_2656 := e_iload_iload 2656 0 6 (e_if_ne 2658 2673 15 (e_aload_aload_n 2661 0 3 3 rfl (e_psh_iconst 2662 0 0 (e_laload 2663 0  (e_iload_iload 2664 0 7 (e_i2l 2666 0  (e_lcmp 2667 0  (e_if_eq 2668 2673 5 (e_psh_iconst 2671 0 0 (e_ireturn 2672 0 ))))))))))
set_option maxHeartbeats 100000 in
def k389_2608 : ex_C := c_aload 1 (c_aload 0 (c_iload 5 (c_psh 1 (c_iadd (c_iaload (c_aload 0 (c_iload 5 (c_psh 2 (c_iadd (c_iaload (c_aload 3 (c_invS [] cd_389 2622 4 386 (c_istore 6 (c_aload 2 (c_aload 0 (c_iload 5 (c_psh 1 (c_iadd (c_iaload (c_aload 0 (c_iload 5 (c_psh 2 (c_iadd (c_iaload (c_invV [] cd_389 2640 3 285 12 (c_istore 7 (c_aload 2 (c_invV [] cd_389 2646 1 178 12 (c_iload 6 (c_icmp_eq 2656 (c_psh 0 (c_ireturn  1))))))))))))))))))))))))))))))))
set_option maxHeartbeats 100000 in
theorem kE389_2608 : ex_CE 1 [] cd_389 k389_2608 q389_2608 := e_aload_aload_n 2608 0 1 1 rfl (e_aload_aload_n 2609 0 0 0 rfl (e_iload_iload 2610 0 5 (e_psh_iconst 2612 1 1 (e_iadd 2613 0 (e_iaload 2614 0 (e_aload_aload_n 2615 0 0 0 rfl (e_iload_iload 2616 0 5 (e_psh_iconst 2618 2 2 (e_iadd 2619 0 (e_iaload 2620 0 (e_aload_aload_n 2621 0 3 3 rfl (e_invS 2622 3301348 319 4 386 rfl rfl rfl (e_istore_istore 2625 0 6 (e_aload_aload_n 2627 0 2 2 rfl (e_aload_aload_n 2628 0 0 0 rfl (e_iload_iload 2629 0 5 (e_psh_iconst 2631 1 1 (e_iadd 2632 0 (e_iaload 2633 0 (e_aload_aload_n 2634 0 0 0 rfl (e_iload_iload 2635 0 5 (e_psh_iconst 2637 2 2 (e_iadd 2638 0 (e_iaload 2639 0 (e_invV_invokevirtual 2640 2466179 321 3 285 12 rfl rfl rfl rfl rfl rfl (e_istore_istore 2643 0 7 (e_aload_aload_n 2645 0 2 2 rfl (e_invV_invokevirtual 2646 1589633 160 1 178 12 rfl rfl rfl rfl rfl rfl (e_iload_iload 2649 0 6 (e_icmp_eq 2651 2656 5 (e_psh_iconst 2654 0 0 (e_ireturn 2655 0 ))))))))))))))))))))))))))))))))
set_option maxHeartbeats 100000 in
def k389_2605 : ex_C := c_goto 2878
set_option maxHeartbeats 100000 in
theorem kE389_2605 : ex_CE 1 [] cd_389 k389_2605 q389_2605 := e_goto 2605 2878 273
set_option maxHeartbeats 100000 in
def k389_2588 : ex_C := c_iload 6 (c_if_ne 2605 (c_aload 3 (c_psh 0 (c_laload   (c_iload 7 (c_i2l   (c_lcmp   (c_if_eq 2605 (c_psh 0 (c_ireturn  1))))))))))
set_option maxHeartbeats 100000 in
theorem kE389_2588 : ex_CE 1 [] cd_389 k389_2588 q389_2588 := e_iload_iload 2588 0 6 (e_if_ne 2590 2605 15 (e_aload_aload_n 2593 0 3 3 rfl (e_psh_iconst 2594 0 0 (e_laload 2595 0  (e_iload_iload 2596 0 7 (e_i2l 2598 0  (e_lcmp 2599 0  (e_if_eq 2600 2605 5 (e_psh_iconst 2603 0 0 (e_ireturn 2604 0 ))))))))))
set_option maxHeartbeats 100000 in
def k389_2564 : ex_C := c_aload 1 (c_aload 3 (c_invS [] cd_389 2566 2 385 (c_istore 6 (c_aload 2 (c_invV [] cd_389 2572 1 284 12 (c_istore 7 (c_aload 2 (c_invV [] cd_389 2578 1 178 12 (c_iload 6 (c_icmp_eq 2588 (c_psh 0 (c_ireturn  1))))))))))))
set_option maxHeartbeats 100000 in
theorem kE389_2564 : ex_CE 1 [] cd_389 k389_2564 q389_2564 := e_aload_aload_n 2564 0 1 1 rfl (e_aload_aload_n 2565 0 3 3 rfl (e_invS 2566 3293154 316 2 385 rfl rfl rfl (e_istore_istore 2569 0 6 (e_aload_aload_n 2571 0 2 2 rfl (e_invV_invokevirtual 2572 2457985 318 1 284 12 rfl rfl rfl rfl rfl rfl (e_istore_istore 2575 0 7 (e_aload_aload_n 2577 0 2 2 rfl (e_invV_invokevirtual 2578 1589633 160 1 178 12 rfl rfl rfl rfl rfl rfl (e_iload_iload 2581 0 6 (e_icmp_eq 2583 2588 5 (e_psh_iconst 2586 0 0 (e_ireturn 2587 0 ))))))))))))
set_option maxHeartbeats 100000 in
def k389_2561 : ex_C := c_goto 2878
set_option maxHeartbeats 100000 in
theorem kE389_2561 : ex_CE 1 [] cd_389 k389_2561 q389_2561 := e_goto 2561 2878 317
set_option maxHeartbeats 100000 in
def k389_2544 : ex_C := c_iload 6 (c_if_ne 2561 (c_aload 3 (c_psh 0 (c_laload   (c_iload 7 (c_i2l   (c_lcmp   (c_if_eq 2561 (c_psh 0 (c_ireturn  1))))))))))
set_option maxHeartbeats 100000 in
theorem kE389_2544 : ex_CE 1 [] cd_389 k389_2544 q389_2544 := e_iload_iload 2544 0 6 (e_if_ne 2546 2561 15 (e_aload_aload_n 2549 0 3 3 rfl (e_psh_iconst 2550 0 0 (e_laload 2551 0  (e_iload_iload 2552 0 7 (e_i2l 2554 0  (e_lcmp 2555 0  (e_if_eq 2556 2561 5 (e_psh_iconst 2559 0 0 (e_ireturn 2560 0 ))))))))))
set_option maxHeartbeats 100000 in
def k389_2508 : ex_C := c_aload 1 (c_aload 0 (c_iload 5 (c_psh 1 (c_iadd (c_iaload (c_aload 3 (c_invS [] cd_389 2516 3 384 (c_istore 6 (c_aload 2 (c_aload 0 (c_iload 5 (c_psh 1 (c_iadd (c_iaload (c_invV [] cd_389 2528 2 281 12 (c_istore 7 (c_aload 2 (c_invV [] cd_389 2534 1 178 12 (c_iload 6 (c_icmp_eq 2544 (c_psh 0 (c_ireturn  1))))))))))))))))))))))
set_option maxHeartbeats 100000 in
theorem kE389_2508 : ex_CE 1 [] cd_389 k389_2508 q389_2508 := e_aload_aload_n 2508 0 1 1 rfl (e_aload_aload_n 2509 0 0 0 rfl (e_iload_iload 2510 0 5 (e_psh_iconst 2512 1 1 (e_iadd 2513 0 (e_iaload 2514 0 (e_aload_aload_n 2515 0 3 3 rfl (e_invS 2516 3284963 313 3 384 rfl rfl rfl (e_istore_istore 2519 0 6 (e_aload_aload_n 2521 0 2 2 rfl (e_aload_aload_n 2522 0 0 0 rfl (e_iload_iload 2523 0 5 (e_psh_iconst 2525 1 1 (e_iadd 2526 0 (e_iaload 2527 0 (e_invV_invokevirtual 2528 2433410 315 2 281 12 rfl rfl rfl rfl rfl rfl (e_istore_istore 2531 0 7 (e_aload_aload_n 2533 0 2 2 rfl (e_invV_invokevirtual 2534 1589633 160 1 178 12 rfl rfl rfl rfl rfl rfl (e_iload_iload 2537 0 6 (e_icmp_eq 2539 2544 5 (e_psh_iconst 2542 0 0 (e_ireturn 2543 0 ))))))))))))))))))))))
set_option maxHeartbeats 100000 in
def k389_2495 : ex_C := c_aload 1 (c_invV [] cd_389 2496 1 138 0 (c_aload 2 (c_invV [] cd_389 2500 1 280 12 (c_icmp_eq 2878 (c_psh 0 (c_ireturn  1))))))
set_option maxHeartbeats 100000 in
theorem kE389_2495 : ex_CE 1 [] cd_389 k389_2495 q389_2495 := e_aload_aload_n 2495 0 1 1 rfl (e_invV_invokevirtual 2496 1261569 309 1 138 0 rfl rfl rfl rfl rfl rfl (e_aload_aload_n 2499 0 2 2 rfl (e_invV_invokevirtual 2500 2425217 312 1 280 12 rfl rfl rfl rfl rfl rfl (e_icmp_eq 2503 2878 375 (e_psh_iconst 2506 0 0 (e_ireturn 2507 0 ))))))
set_option maxHeartbeats 100000 in
def k389_2492 : ex_C := c_goto 2878
set_option maxHeartbeats 100000 in
theorem kE389_2492 : ex_CE 1 [] cd_389 k389_2492 q389_2492 := e_goto 2492 2878 386
set_option maxHeartbeats 100000 in
def k389_2475 : ex_C := c_iload 6 (c_if_ne 2492 (c_aload 3 (c_psh 0 (c_laload   (c_iload 7 (c_i2l   (c_lcmp   (c_if_eq 2492 (c_psh 0 (c_ireturn  1))))))))))
set_option maxHeartbeats 100000 in
theorem kE389_2475 : ex_CE 1 [] cd_389 k389_2475 q389_2475 := e_iload_iload 2475 0 6 (e_if_ne 2477 2492 15 (e_aload_aload_n 2480 0 3 3 rfl (e_psh_iconst 2481 0 0 (e_laload 2482 0  (e_iload_iload 2483 0 7 (e_i2l 2485 0  (e_lcmp 2486 0  (e_if_eq 2487 2492 5 (e_psh_iconst 2490 0 0 (e_ireturn 2491 0 ))))))))))
set_option maxHeartbeats 100000 in
def k389_2451 : ex_C := c_aload 1 (c_aload 3 (c_invS [] cd_389 2453 2 383 (c_istore 6 (c_aload 2 (c_invV [] cd_389 2459 1 279 12 (c_istore 7 (c_aload 2 (c_invV [] cd_389 2465 1 178 12 (c_iload 6 (c_icmp_eq 2475 (c_psh 0 (c_ireturn  1))))))))))))
set_option maxHeartbeats 100000 in
theorem kE389_2451 : ex_CE 1 [] cd_389 k389_2451 q389_2451 := e_aload_aload_n 2451 0 1 1 rfl (e_aload_aload_n 2452 0 3 3 rfl (e_invS 2453 3276770 306 2 383 rfl rfl rfl (e_istore_istore 2456 0 6 (e_aload_aload_n 2458 0 2 2 rfl (e_invV_invokevirtual 2459 2417025 308 1 279 12 rfl rfl rfl rfl rfl rfl (e_istore_istore 2462 0 7 (e_aload_aload_n 2464 0 2 2 rfl (e_invV_invokevirtual 2465 1589633 160 1 178 12 rfl rfl rfl rfl rfl rfl (e_iload_iload 2468 0 6 (e_icmp_eq 2470 2475 5 (e_psh_iconst 2473 0 0 (e_ireturn 2474 0 ))))))))))))
set_option maxHeartbeats 100000 in
def k389_2438 : ex_C := c_aload 1 (c_invV [] cd_389 2439 1 136 0 (c_aload 2 (c_invV [] cd_389 2443 1 278 12 (c_icmp_eq 2878 (c_psh 0 (c_ireturn  1))))))
set_option maxHeartbeats 100000 in
theorem kE389_2438 : ex_CE 1 [] cd_389 k389_2438 q389_2438 := e_aload_aload_n 2438 0 1 1 rfl (e_invV_invokevirtual 2439 1245185 302 1 136 0 rfl rfl rfl rfl rfl rfl (e_aload_aload_n 2442 0 2 2 rfl (e_invV_invokevirtual 2443 2408833 305 1 278 12 rfl rfl rfl rfl rfl rfl (e_icmp_eq 2446 2878 432 (e_psh_iconst 2449 0 0 (e_ireturn 2450 0 ))))))
set_option maxHeartbeats 100000 in
def k389_2435 : ex_C := c_goto 2878
set_option maxHeartbeats 100000 in
theorem kE389_2435 : ex_CE 1 [] cd_389 k389_2435 q389_2435 := e_goto 2435 2878 443
set_option maxHeartbeats 100000 in
def k389_2418 : ex_C := c_iload 6 (c_if_ne 2435 (c_aload 3 (c_psh 0 (c_laload   (c_iload 7 (c_i2l   (c_lcmp   (c_if_eq 2435 (c_psh 0 (c_ireturn  1))))))))))
set_option maxHeartbeats 100000 in
theorem kE389_2418 : ex_CE 1 [] cd_389 k389_2418 q389_2418 := e_iload_iload 2418 0 6 (e_if_ne 2420 2435 15 (e_aload_aload_n 2423 0 3 3 rfl (e_psh_iconst 2424 0 0 (e_laload 2425 0  (e_iload_iload 2426 0 7 (e_i2l 2428 0  (e_lcmp 2429 0  (e_if_eq 2430 2435 5 (e_psh_iconst 2433 0 0 (e_ireturn 2434 0 ))))))))))
set_option maxHeartbeats 100000 in
def k389_2382 : ex_C := c_aload 1 (c_aload 0 (c_iload 5 (c_psh 1 (c_iadd (c_iaload (c_aload 3 (c_invS [] cd_389 2390 3 382 (c_istore 6 (c_aload 2 (c_aload 0 (c_iload 5 (c_psh 1 (c_iadd (c_iaload (c_invV [] cd_389 2402 2 277 12 (c_istore 7 (c_aload 2 (c_invV [] cd_389 2408 1 178 12 (c_iload 6 (c_icmp_eq 2418 (c_psh 0 (c_ireturn  1))))))))))))))))))))))
set_option maxHeartbeats 100000 in
theorem kE389_2382 : ex_CE 1 [] cd_389 k389_2382 q389_2382 := e_aload_aload_n 2382 0 1 1 rfl (e_aload_aload_n 2383 0 0 0 rfl (e_iload_iload 2384 0 5 (e_psh_iconst 2386 1 1 (e_iadd 2387 0 (e_iaload 2388 0 (e_aload_aload_n 2389 0 3 3 rfl (e_invS 2390 3268579 299 3 382 rfl rfl rfl (e_istore_istore 2393 0 6 (e_aload_aload_n 2395 0 2 2 rfl (e_aload_aload_n 2396 0 0 0 rfl (e_iload_iload 2397 0 5 (e_psh_iconst 2399 1 1 (e_iadd 2400 0 (e_iaload 2401 0 (e_invV_invokevirtual 2402 2400642 301 2 277 12 rfl rfl rfl rfl rfl rfl (e_istore_istore 2405 0 7 (e_aload_aload_n 2407 0 2 2 rfl (e_invV_invokevirtual 2408 1589633 160 1 178 12 rfl rfl rfl rfl rfl rfl (e_iload_iload 2411 0 6 (e_icmp_eq 2413 2418 5 (e_psh_iconst 2416 0 0 (e_ireturn 2417 0 ))))))))))))))))))))))
set_option maxHeartbeats 100000 in
def k389_2379 : ex_C := c_goto 2878
set_option maxHeartbeats 100000 in
theorem kE389_2379 : ex_CE 1 [] cd_389 k389_2379 q389_2379 := e_goto 2379 2878 499
set_option maxHeartbeats 100000 in
def k389_2362 : ex_C := c_iload 6 (c_if_ne 2379 (c_aload 3 (c_psh 0 (c_laload   (c_iload 7 (c_i2l   (c_lcmp   (c_if_eq 2379 (c_psh 0 (c_ireturn  1))))))))))
set_option maxHeartbeats 100000 in
theorem kE389_2362 : ex_CE 1 [] cd_389 k389_2362 q389_2362 := e_iload_iload 2362 0 6 (e_if_ne 2364 2379 15 (e_aload_aload_n 2367 0 3 3 rfl (e_psh_iconst 2368 0 0 (e_laload 2369 0  (e_iload_iload 2370 0 7 (e_i2l 2372 0  (e_lcmp 2373 0  (e_if_eq 2374 2379 5 (e_psh_iconst 2377 0 0 (e_ireturn 2378 0 ))))))))))
set_option maxHeartbeats 100000 in
def k389_2326 : ex_C := c_aload 1 (c_aload 0 (c_iload 5 (c_psh 1 (c_iadd (c_iaload (c_aload 3 (c_invS [] cd_389 2334 3 381 (c_istore 6 (c_aload 2 (c_aload 0 (c_iload 5 (c_psh 1 (c_iadd (c_iaload (c_invV [] cd_389 2346 2 276 12 (c_istore 7 (c_aload 2 (c_invV [] cd_389 2352 1 178 12 (c_iload 6 (c_icmp_eq 2362 (c_psh 0 (c_ireturn  1))))))))))))))))))))))
set_option maxHeartbeats 100000 in
theorem kE389_2326 : ex_CE 1 [] cd_389 k389_2326 q389_2326 := e_aload_aload_n 2326 0 1 1 rfl (e_aload_aload_n 2327 0 0 0 rfl (e_iload_iload 2328 0 5 (e_psh_iconst 2330 1 1 (e_iadd 2331 0 (e_iaload 2332 0 (e_aload_aload_n 2333 0 3 3 rfl (e_invS 2334 3260387 296 3 381 rfl rfl rfl (e_istore_istore 2337 0 6 (e_aload_aload_n 2339 0 2 2 rfl (e_aload_aload_n 2340 0 0 0 rfl (e_iload_iload 2341 0 5 (e_psh_iconst 2343 1 1 (e_iadd 2344 0 (e_iaload 2345 0 (e_invV_invokevirtual 2346 2392450 298 2 276 12 rfl rfl rfl rfl rfl rfl (e_istore_istore 2349 0 7 (e_aload_aload_n 2351 0 2 2 rfl (e_invV_invokevirtual 2352 1589633 160 1 178 12 rfl rfl rfl rfl rfl rfl (e_iload_iload 2355 0 6 (e_icmp_eq 2357 2362 5 (e_psh_iconst 2360 0 0 (e_ireturn 2361 0 ))))))))))))))))))))))
set_option maxHeartbeats 100000 in
def k389_2323 : ex_C := c_goto 2878
set_option maxHeartbeats 100000 in
theorem kE389_2323 : ex_CE 1 [] cd_389 k389_2323 q389_2323 := e_goto 2323 2878 555
set_option maxHeartbeats 100000 in
def k389_2306 : ex_C := c_iload 6 (c_if_ne 2323 (c_aload 3 (c_psh 0 (c_laload   (c_iload 7 (c_i2l   (c_lcmp   (c_if_eq 2323 (c_psh 0 (c_ireturn  1))))))))))
set_option maxHeartbeats 100000 in
theorem kE389_2306 : ex_CE 1 [] cd_389 k389_2306 q389_2306 := e_iload_iload 2306 0 6 (e_if_ne 2308 2323 15 (e_aload_aload_n 2311 0 3 3 rfl (e_psh_iconst 2312 0 0 (e_laload 2313 0  (e_iload_iload 2314 0 7 (e_i2l 2316 0  (e_lcmp 2317 0  (e_if_eq 2318 2323 5 (e_psh_iconst 2321 0 0 (e_ireturn 2322 0 ))))))))))
set_option maxHeartbeats 100000 in
def k389_2270 : ex_C := c_aload 1 (c_aload 0 (c_iload 5 (c_psh 1 (c_iadd (c_iaload (c_aload 3 (c_invS [] cd_389 2278 3 380 (c_istore 6 (c_aload 2 (c_aload 0 (c_iload 5 (c_psh 1 (c_iadd (c_iaload (c_invV [] cd_389 2290 2 275 12 (c_istore 7 (c_aload 2 (c_invV [] cd_389 2296 1 178 12 (c_iload 6 (c_icmp_eq 2306 (c_psh 0 (c_ireturn  1))))))))))))))))))))))
set_option maxHeartbeats 100000 in
theorem kE389_2270 : ex_CE 1 [] cd_389 k389_2270 q389_2270 := e_aload_aload_n 2270 0 1 1 rfl (e_aload_aload_n 2271 0 0 0 rfl (e_iload_iload 2272 0 5 (e_psh_iconst 2274 1 1 (e_iadd 2275 0 (e_iaload 2276 0 (e_aload_aload_n 2277 0 3 3 rfl (e_invS 2278 3252195 293 3 380 rfl rfl rfl (e_istore_istore 2281 0 6 (e_aload_aload_n 2283 0 2 2 rfl (e_aload_aload_n 2284 0 0 0 rfl (e_iload_iload 2285 0 5 (e_psh_iconst 2287 1 1 (e_iadd 2288 0 (e_iaload 2289 0 (e_invV_invokevirtual 2290 2384258 295 2 275 12 rfl rfl rfl rfl rfl rfl (e_istore_istore 2293 0 7 (e_aload_aload_n 2295 0 2 2 rfl (e_invV_invokevirtual 2296 1589633 160 1 178 12 rfl rfl rfl rfl rfl rfl (e_iload_iload 2299 0 6 (e_icmp_eq 2301 2306 5 (e_psh_iconst 2304 0 0 (e_ireturn 2305 0 ))))))))))))))))))))))
set_option maxHeartbeats 100000 in
def k389_2257 : ex_C := c_aload 1 (c_invV [] cd_389 2258 1 132 0 (c_aload 2 (c_invV [] cd_389 2262 1 273 12 (c_icmp_eq 2878 (c_psh 0 (c_ireturn  1))))))
set_option maxHeartbeats 100000 in
theorem kE389_2257 : ex_CE 1 [] cd_389 k389_2257 q389_2257 := e_aload_aload_n 2257 0 1 1 rfl (e_invV_invokevirtual 2258 1212417 289 1 132 0 rfl rfl rfl rfl rfl rfl (e_aload_aload_n 2261 0 2 2 rfl (e_invV_invokevirtual 2262 2367873 292 1 273 12 rfl rfl rfl rfl rfl rfl (e_icmp_eq 2265 2878 613 (e_psh_iconst 2268 0 0 (e_ireturn 2269 0 ))))))
set_option maxHeartbeats 100000 in
def k389_2244 : ex_C := c_aload 1 (c_invV [] cd_389 2245 1 131 0 (c_aload 2 (c_invV [] cd_389 2249 1 272 12 (c_icmp_eq 2878 (c_psh 0 (c_ireturn  1))))))
set_option maxHeartbeats 100000 in
theorem kE389_2244 : ex_CE 1 [] cd_389 k389_2244 q389_2244 := e_aload_aload_n 2244 0 1 1 rfl (e_invV_invokevirtual 2245 1204225 285 1 131 0 rfl rfl rfl rfl rfl rfl (e_aload_aload_n 2248 0 2 2 rfl (e_invV_invokevirtual 2249 2359681 288 1 272 12 rfl rfl rfl rfl rfl rfl (e_icmp_eq 2252 2878 626 (e_psh_iconst 2255 0 0 (e_ireturn 2256 0 ))))))
set_option maxHeartbeats 100000 in
def k389_2241 : ex_C := c_goto 2878
set_option maxHeartbeats 100000 in
theorem kE389_2241 : ex_CE 1 [] cd_389 k389_2241 q389_2241 := e_goto 2241 2878 637
set_option maxHeartbeats 100000 in
def k389_2224 : ex_C := c_iload 6 (c_if_ne 2241 (c_aload 3 (c_psh 0 (c_laload   (c_iload 7 (c_i2l   (c_lcmp   (c_if_eq 2241 (c_psh 0 (c_ireturn  1))))))))))
set_option maxHeartbeats 100000 in
theorem kE389_2224 : ex_CE 1 [] cd_389 k389_2224 q389_2224 := e_iload_iload 2224 0 6 (e_if_ne 2226 2241 15 (e_aload_aload_n 2229 0 3 3 rfl (e_psh_iconst 2230 0 0 (e_laload 2231 0  (e_iload_iload 2232 0 7 (e_i2l 2234 0  (e_lcmp 2235 0  (e_if_eq 2236 2241 5 (e_psh_iconst 2239 0 0 (e_ireturn 2240 0 ))))))))))
set_option maxHeartbeats 100000 in
def k389_2188 : ex_C := c_aload 1 (c_aload 0 (c_iload 5 (c_psh 1 (c_iadd (c_iaload (c_aload 3 (c_invS [] cd_389 2196 3 379 (c_istore 6 (c_aload 2 (c_aload 0 (c_iload 5 (c_psh 1 (c_iadd (c_iaload (c_invV [] cd_389 2208 2 271 12 (c_istore 7 (c_aload 2 (c_invV [] cd_389 2214 1 178 12 (c_iload 6 (c_icmp_eq 2224 (c_psh 0 (c_ireturn  1))))))))))))))))))))))
set_option maxHeartbeats 100000 in
theorem kE389_2188 : ex_CE 1 [] cd_389 k389_2188 q389_2188 := e_aload_aload_n 2188 0 1 1 rfl (e_aload_aload_n 2189 0 0 0 rfl (e_iload_iload 2190 0 5 (e_psh_iconst 2192 1 1 (e_iadd 2193 0 (e_iaload 2194 0 (e_aload_aload_n 2195 0 3 3 rfl (e_invS 2196 3244003 282 3 379 rfl rfl rfl (e_istore_istore 2199 0 6 (e_aload_aload_n 2201 0 2 2 rfl (e_aload_aload_n 2202 0 0 0 rfl (e_iload_iload 2203 0 5 (e_psh_iconst 2205 1 1 (e_iadd 2206 0 (e_iaload 2207 0 (e_invV_invokevirtual 2208 2351490 284 2 271 12 rfl rfl rfl rfl rfl rfl (e_istore_istore 2211 0 7 (e_aload_aload_n 2213 0 2 2 rfl (e_invV_invokevirtual 2214 1589633 160 1 178 12 rfl rfl rfl rfl rfl rfl (e_iload_iload 2217 0 6 (e_icmp_eq 2219 2224 5 (e_psh_iconst 2222 0 0 (e_ireturn 2223 0 ))))))))))))))))))))))
set_option maxHeartbeats 100000 in
def k389_2175 : ex_C := c_aload 1 (c_invV [] cd_389 2176 1 129 0 (c_aload 2 (c_invV [] cd_389 2180 1 270 12 (c_icmp_eq 2878 (c_psh 0 (c_ireturn  1))))))
set_option maxHeartbeats 100000 in
theorem kE389_2175 : ex_CE 1 [] cd_389 k389_2175 q389_2175 := e_aload_aload_n 2175 0 1 1 rfl (e_invV_invokevirtual 2176 1187841 278 1 129 0 rfl rfl rfl rfl rfl rfl (e_aload_aload_n 2179 0 2 2 rfl (e_invV_invokevirtual 2180 2343297 281 1 270 12 rfl rfl rfl rfl rfl rfl (e_icmp_eq 2183 2878 695 (e_psh_iconst 2186 0 0 (e_ireturn 2187 0 ))))))
set_option maxHeartbeats 100000 in
def k389_2162 : ex_C := c_aload 1 (c_invV [] cd_389 2163 1 128 0 (c_aload 2 (c_invV [] cd_389 2167 1 269 12 (c_icmp_eq 2878 (c_psh 0 (c_ireturn  1))))))
set_option maxHeartbeats 100000 in
theorem kE389_2162 : ex_CE 1 [] cd_389 k389_2162 q389_2162 := e_aload_aload_n 2162 0 1 1 rfl (e_invV_invokevirtual 2163 1179649 273 1 128 0 rfl rfl rfl rfl rfl rfl (e_aload_aload_n 2166 0 2 2 rfl (e_invV_invokevirtual 2167 2335105 277 1 269 12 rfl rfl rfl rfl rfl rfl (e_icmp_eq 2170 2878 708 (e_psh_iconst 2173 0 0 (e_ireturn 2174 0 ))))))
set_option maxHeartbeats 100000 in
def k389_2159 : ex_C := c_goto 2878
set_option maxHeartbeats 100000 in
theorem kE389_2159 : ex_CE 1 [] cd_389 k389_2159 q389_2159 := e_goto 2159 2878 719
set_option maxHeartbeats 100000 in
def k389_2142 : ex_C := c_iload 6 (c_if_ne 2159 (c_aload 3 (c_psh 0 (c_laload   (c_iload 7 (c_i2l   (c_lcmp   (c_if_eq 2159 (c_psh 0 (c_ireturn  1))))))))))
set_option maxHeartbeats 100000 in
theorem kE389_2142 : ex_CE 1 [] cd_389 k389_2142 q389_2142 := e_iload_iload 2142 0 6 (e_if_ne 2144 2159 15 (e_aload_aload_n 2147 0 3 3 rfl (e_psh_iconst 2148 0 0 (e_laload 2149 0  (e_iload_iload 2150 0 7 (e_i2l 2152 0  (e_lcmp 2153 0  (e_if_eq 2154 2159 5 (e_psh_iconst 2157 0 0 (e_ireturn 2158 0 ))))))))))
set_option maxHeartbeats 100000 in
def k389_2104 : ex_C := c_aload 1 (c_aload 0 (c_iload 5 (c_psh 1 (c_iadd (c_iaload (c_i2c   (c_aload 3 (c_invS [] cd_389 2113 3 378 (c_istore 6 (c_aload 2 (c_aload 0 (c_iload 5 (c_psh 1 (c_iadd (c_iaload (c_i2c   (c_invV [] cd_389 2126 2 268 12 (c_istore 7 (c_aload 2 (c_invV [] cd_389 2132 1 178 12 (c_iload 6 (c_icmp_eq 2142 (c_psh 0 (c_ireturn  1))))))))))))))))))))))))
set_option maxHeartbeats 100000 in
theorem kE389_2104 : ex_CE 1 [] cd_389 k389_2104 q389_2104 := e_aload_aload_n 2104 0 1 1 rfl (e_aload_aload_n 2105 0 0 0 rfl (e_iload_iload 2106 0 5 (e_psh_iconst 2108 1 1 (e_iadd 2109 0 (e_iaload 2110 0 (e_i2c 2111 0  (e_aload_aload_n 2112 0 3 3 rfl (e_invS 2113 3235811 270 3 378 rfl rfl rfl (e_istore_istore 2116 0 6 (e_aload_aload_n 2118 0 2 2 rfl (e_aload_aload_n 2119 0 0 0 rfl (e_iload_iload 2120 0 5 (e_psh_iconst 2122 1 1 (e_iadd 2123 0 (e_iaload 2124 0 (e_i2c 2125 0  (e_invV_invokevirtual 2126 2326914 272 2 268 12 rfl rfl rfl rfl rfl rfl (e_istore_istore 2129 0 7 (e_aload_aload_n 2131 0 2 2 rfl (e_invV_invokevirtual 2132 1589633 160 1 178 12 rfl rfl rfl rfl rfl rfl (e_iload_iload 2135 0 6 (e_icmp_eq 2137 2142 5 (e_psh_iconst 2140 0 0 (e_ireturn 2141 0 ))))))))))))))))))))))))
set_option maxHeartbeats 100000 in
def k389_2091 : ex_C := c_aload 1 (c_invV [] cd_389 2092 1 126 0 (c_aload 2 (c_invV [] cd_389 2096 1 267 12 (c_icmp_eq 2878 (c_psh 0 (c_ireturn  1))))))
set_option maxHeartbeats 100000 in
theorem kE389_2091 : ex_CE 1 [] cd_389 k389_2091 q389_2091 := e_aload_aload_n 2091 0 1 1 rfl (e_invV_invokevirtual 2092 1163265 266 1 126 0 rfl rfl rfl rfl rfl rfl (e_aload_aload_n 2095 0 2 2 rfl (e_invV_invokevirtual 2096 2318721 269 1 267 12 rfl rfl rfl rfl rfl rfl (e_icmp_eq 2099 2878 779 (e_psh_iconst 2102 0 0 (e_ireturn 2103 0 ))))))
set_option maxHeartbeats 100000 in
def k389_2088 : ex_C := c_goto 2878
set_option maxHeartbeats 100000 in
theorem kE389_2088 : ex_CE 1 [] cd_389 k389_2088 q389_2088 := e_goto 2088 2878 790
set_option maxHeartbeats 100000 in
def k389_2071 : ex_C := c_iload 6 (c_if_ne 2088 (c_aload 3 (c_psh 0 (c_laload   (c_iload 7 (c_i2l   (c_lcmp   (c_if_eq 2088 (c_psh 0 (c_ireturn  1))))))))))
set_option maxHeartbeats 100000 in
theorem kE389_2071 : ex_CE 1 [] cd_389 k389_2071 q389_2071 := e_iload_iload 2071 0 6 (e_if_ne 2073 2088 15 (e_aload_aload_n 2076 0 3 3 rfl (e_psh_iconst 2077 0 0 (e_laload 2078 0  (e_iload_iload 2079 0 7 (e_i2l 2081 0  (e_lcmp 2082 0  (e_if_eq 2083 2088 5 (e_psh_iconst 2086 0 0 (e_ireturn 2087 0 ))))))))))
set_option maxHeartbeats 100000 in
def k389_2035 : ex_C := c_aload 1 (c_aload 0 (c_iload 5 (c_psh 1 (c_iadd (c_iaload (c_aload 3 (c_invS [] cd_389 2043 3 377 (c_istore 6 (c_aload 2 (c_aload 0 (c_iload 5 (c_psh 1 (c_iadd (c_iaload (c_invV [] cd_389 2055 2 263 12 (c_istore 7 (c_aload 2 (c_invV [] cd_389 2061 1 178 12 (c_iload 6 (c_icmp_eq 2071 (c_psh 0 (c_ireturn  1))))))))))))))))))))))
set_option maxHeartbeats 100000 in
theorem kE389_2035 : ex_CE 1 [] cd_389 k389_2035 q389_2035 := e_aload_aload_n 2035 0 1 1 rfl (e_aload_aload_n 2036 0 0 0 rfl (e_iload_iload 2037 0 5 (e_psh_iconst 2039 1 1 (e_iadd 2040 0 (e_iaload 2041 0 (e_aload_aload_n 2042 0 3 3 rfl (e_invS 2043 3227619 263 3 377 rfl rfl rfl (e_istore_istore 2046 0 6 (e_aload_aload_n 2048 0 2 2 rfl (e_aload_aload_n 2049 0 0 0 rfl (e_iload_iload 2050 0 5 (e_psh_iconst 2052 1 1 (e_iadd 2053 0 (e_iaload 2054 0 (e_invV_invokevirtual 2055 2285954 265 2 263 12 rfl rfl rfl rfl rfl rfl (e_istore_istore 2058 0 7 (e_aload_aload_n 2060 0 2 2 rfl (e_invV_invokevirtual 2061 1589633 160 1 178 12 rfl rfl rfl rfl rfl rfl (e_iload_iload 2064 0 6 (e_icmp_eq 2066 2071 5 (e_psh_iconst 2069 0 0 (e_ireturn 2070 0 ))))))))))))))))))))))
set_option maxHeartbeats 100000 in
def k389_2032 : ex_C := c_goto 2878
set_option maxHeartbeats 100000 in
theorem kE389_2032 : ex_CE 1 [] cd_389 k389_2032 q389_2032 := e_goto 2032 2878 846
set_option maxHeartbeats 100000 in
def k389_2015 : ex_C := c_iload 6 (c_if_ne 2032 (c_aload 3 (c_psh 0 (c_laload   (c_iload 7 (c_i2l   (c_lcmp   (c_if_eq 2032 (c_psh 0 (c_ireturn  1))))))))))
set_option maxHeartbeats 100000 in
theorem kE389_2015 : ex_CE 1 [] cd_389 k389_2015 q389_2015 := e_iload_iload 2015 0 6 (e_if_ne 2017 2032 15 (e_aload_aload_n 2020 0 3 3 rfl (e_psh_iconst 2021 0 0 (e_laload 2022 0  (e_iload_iload 2023 0 7 (e_i2l 2025 0  (e_lcmp 2026 0  (e_if_eq 2027 2032 5 (e_psh_iconst 2030 0 0 (e_ireturn 2031 0 ))))))))))
set_option maxHeartbeats 100000 in
def k389_1993 : ex_C := c_aload 0 (c_iload 5 (c_psh 3 (c_iadd (c_iaload (c_invV [] cd_389 1999 4 262 12 (c_istore 7 (c_aload 2 (c_invV [] cd_389 2005 1 178 12 (c_iload 6 (c_icmp_eq 2015 (c_psh 0 (c_ireturn  1))))))))))))
set_option maxHeartbeats 100000 in
theorem kE389_1993 : ex_CE 1 [] cd_389 k389_1993 q389_1993 := e_aload_aload_n 1993 0 0 0 rfl (e_iload_iload 1994 0 5 (e_psh_iconst 1996 3 3 (e_iadd 1997 0 (e_iaload 1998 0 (e_invV_invokevirtual 1999 2277764 262 4 262 12 rfl rfl rfl rfl rfl rfl (e_istore_istore 2002 0 7 (e_aload_aload_n 2004 0 2 2 rfl (e_invV_invokevirtual 2005 1589633 160 1 178 12 rfl rfl rfl rfl rfl rfl (e_iload_iload 2008 0 6 (e_icmp_eq 2010 2015 5 (e_psh_iconst 2013 0 0 (e_ireturn 2014 0 ))))))))))))
set_option maxHeartbeats 100000 in
def k389_1992 : ex_C := c_psh 0 (k389_1993)
set_option maxHeartbeats 100000 in
theorem kE389_1992 : ex_CE 1 [] cd_389 k389_1992 q389_1992 := e_psh_iconst 1992 0 0 (kE389_1993)
set_option maxHeartbeats 100000 in
def k389_1960 : ex_C := c_aload 0 (c_iload 5 (c_psh 3 (c_iadd (c_iaload (c_aload 3 (c_invS [] cd_389 1967 5 376 (c_istore 6 (c_aload 2 (c_aload 0 (c_iload 5 (c_psh 1 (c_iadd (c_iaload (c_aload 0 (c_iload 5 (c_psh 2 (c_iadd (c_iaload (c_if_eq 1992 (c_psh 1 (c_goto 1993)))))))))))))))))))))
set_option maxHeartbeats 100000 in
theorem kE389_1960 : ex_CE 1 [] cd_389 k389_1960 q389_1960 := e_aload_aload_n 1960 0 0 0 rfl (e_iload_iload 1961 0 5 (e_psh_iconst 1963 3 3 (e_iadd 1964 0 (e_iaload 1965 0 (e_aload_aload_n 1966 0 3 3 rfl (e_invS 1967 3219429 259 5 376 rfl rfl rfl (e_istore_istore 1970 0 6 (e_aload_aload_n 1972 0 2 2 rfl (e_aload_aload_n 1973 0 0 0 rfl (e_iload_iload 1974 0 5 (e_psh_iconst 1976 1 1 (e_iadd 1977 0 (e_iaload 1978 0 (e_aload_aload_n 1979 0 0 0 rfl (e_iload_iload 1980 0 5 (e_psh_iconst 1982 2 2 (e_iadd 1983 0 (e_iaload 1984 0 (e_if_eq 1985 1992 7 (e_psh_iconst 1988 1 1 (e_goto 1989 1993 4)))))))))))))))))))))
set_option maxHeartbeats 100000 in
def k389_1959 : ex_C := c_psh 0 (k389_1960)
set_option maxHeartbeats 100000 in
theorem kE389_1959 : ex_CE 1 [] cd_389 k389_1959 q389_1959 := e_psh_iconst 1959 0 0 (kE389_1960)
set_option maxHeartbeats 100000 in
def k389_1939 : ex_C := c_aload 1 (c_aload 0 (c_iload 5 (c_psh 1 (c_iadd (c_iaload (c_aload 0 (c_iload 5 (c_psh 2 (c_iadd (c_iaload (c_if_eq 1959 (c_psh 1 (c_goto 1960)))))))))))))
set_option maxHeartbeats 100000 in
theorem kE389_1939 : ex_CE 1 [] cd_389 k389_1939 q389_1939 := e_aload_aload_n 1939 0 1 1 rfl (e_aload_aload_n 1940 0 0 0 rfl (e_iload_iload 1941 0 5 (e_psh_iconst 1943 1 1 (e_iadd 1944 0 (e_iaload 1945 0 (e_aload_aload_n 1946 0 0 0 rfl (e_iload_iload 1947 0 5 (e_psh_iconst 1949 2 2 (e_iadd 1950 0 (e_iaload 1951 0 (e_if_eq 1952 1959 7 (e_psh_iconst 1955 1 1 (e_goto 1956 1960 4)))))))))))))
set_option maxHeartbeats 100000 in
def k389_1936 : ex_C := c_goto 2878
set_option maxHeartbeats 100000 in
theorem kE389_1936 : ex_CE 1 [] cd_389 k389_1936 q389_1936 := e_goto 1936 2878 942
set_option maxHeartbeats 100000 in
def k389_1930 : ex_C := c_lcmp   (c_if_eq 1936 (c_psh 0 (c_ireturn  1)))
set_option maxHeartbeats 100000 in
theorem kE389_1930 : ex_CE 1 [] cd_389 k389_1930 q389_1930 := e_lcmp 1930 0  (e_if_eq 1931 1936 5 (e_psh_iconst 1934 0 0 (e_ireturn 1935 0 )))
set_option maxHeartbeats 100000 in
def k389_1929 : ex_C := c_psh 412316860416 (k389_1930)
set_option maxHeartbeats 100000 in
theorem kE389_1929 : ex_CE 1 [] cd_389 k389_1929 q389_1929 := e_psh_lconst 1929 412316860416 0 (kE389_1930)
set_option maxHeartbeats 100000 in
def k389_1912 : ex_C := c_iload 6 (c_if_ne 1936 (c_aload 3 (c_psh 0 (c_laload   (c_iload 7 (c_if_eq 1929 (c_psh 412316860417 (c_goto 1930))))))))
set_option maxHeartbeats 100000 in
theorem kE389_1912 : ex_CE 1 [] cd_389 k389_1912 q389_1912 := e_iload_iload 1912 0 6 (e_if_ne 1914 1936 22 (e_aload_aload_n 1917 0 3 3 rfl (e_psh_iconst 1918 0 0 (e_laload 1919 0  (e_iload_iload 1920 0 7 (e_if_eq 1922 1929 7 (e_psh_lconst 1925 412316860417 1 (e_goto 1926 1930 4))))))))
set_option maxHeartbeats 100000 in
def k389_1862 : ex_C := c_aload 1 (c_aload 0 (c_iload 5 (c_psh 1 (c_iadd (c_iaload (c_aload 0 (c_iload 5 (c_psh 2 (c_iadd (c_iaload (c_i2c   (c_aload 3 (c_invS [] cd_389 1877 4 375 (c_istore 6 (c_aload 2 (c_aload 0 (c_iload 5 (c_psh 1 (c_iadd (c_iaload (c_aload 0 (c_iload 5 (c_psh 2 (c_iadd (c_iaload (c_i2c   (c_invV [] cd_389 1896 3 261 12 (c_istore 7 (c_aload 2 (c_invV [] cd_389 1902 1 178 12 (c_iload 6 (c_icmp_eq 1912 (c_psh 0 (c_ireturn  1))))))))))))))))))))))))))))))))))
set_option maxHeartbeats 100000 in
theorem kE389_1862 : ex_CE 1 [] cd_389 k389_1862 q389_1862 := e_aload_aload_n 1862 0 1 1 rfl (e_aload_aload_n 1863 0 0 0 rfl (e_iload_iload 1864 0 5 (e_psh_iconst 1866 1 1 (e_iadd 1867 0 (e_iaload 1868 0 (e_aload_aload_n 1869 0 0 0 rfl (e_iload_iload 1870 0 5 (e_psh_iconst 1872 2 2 (e_iadd 1873 0 (e_iaload 1874 0 (e_i2c 1875 0  (e_aload_aload_n 1876 0 3 3 rfl (e_invS 1877 3211236 255 4 375 rfl rfl rfl (e_istore_istore 1880 0 6 (e_aload_aload_n 1882 0 2 2 rfl (e_aload_aload_n 1883 0 0 0 rfl (e_iload_iload 1884 0 5 (e_psh_iconst 1886 1 1 (e_iadd 1887 0 (e_iaload 1888 0 (e_aload_aload_n 1889 0 0 0 rfl (e_iload_iload 1890 0 5 (e_psh_iconst 1892 2 2 (e_iadd 1893 0 (e_iaload 1894 0 (e_i2c 1895 0  (e_invV_invokevirtual 1896 2269571 258 3 261 12 rfl rfl rfl rfl rfl rfl (e_istore_istore 1899 0 7 (e_aload_aload_n 1901 0 2 2 rfl (e_invV_invokevirtual 1902 1589633 160 1 178 12 rfl rfl rfl rfl rfl rfl (e_iload_iload 1905 0 6 (e_icmp_eq 1907 1912 5 (e_psh_iconst 1910 0 0 (e_ireturn 1911 0 ))))))))))))))))))))))))))))))))))
set_option maxHeartbeats 100000 in
def k389_1859 : ex_C := c_goto 2878
set_option maxHeartbeats 100000 in
theorem kE389_1859 : ex_CE 1 [] cd_389 k389_1859 q389_1859 := e_goto 1859 2878 1019
set_option maxHeartbeats 100000 in
def k389_1842 : ex_C := c_iload 6 (c_if_ne 1859 (c_aload 3 (c_psh 0 (c_laload   (c_iload 7 (c_i2l   (c_lcmp   (c_if_eq 1859 (c_psh 0 (c_ireturn  1))))))))))
set_option maxHeartbeats 100000 in
theorem kE389_1842 : ex_CE 1 [] cd_389 k389_1842 q389_1842 := e_iload_iload 1842 0 6 (e_if_ne 1844 1859 15 (e_aload_aload_n 1847 0 3 3 rfl (e_psh_iconst 1848 0 0 (e_laload 1849 0  (e_iload_iload 1850 0 7 (e_i2l 1852 0  (e_lcmp 1853 0  (e_if_eq 1854 1859 5 (e_psh_iconst 1857 0 0 (e_ireturn 1858 0 ))))))))))
set_option maxHeartbeats 100000 in
def k389_1806 : ex_C := c_aload 1 (c_aload 0 (c_iload 5 (c_psh 1 (c_iadd (c_iaload (c_aload 3 (c_invS [] cd_389 1814 3 374 (c_istore 6 (c_aload 2 (c_aload 0 (c_iload 5 (c_psh 1 (c_iadd (c_iaload (c_invV [] cd_389 1826 2 260 12 (c_istore 7 (c_aload 2 (c_invV [] cd_389 1832 1 178 12 (c_iload 6 (c_icmp_eq 1842 (c_psh 0 (c_ireturn  1))))))))))))))))))))))
set_option maxHeartbeats 100000 in
theorem kE389_1806 : ex_CE 1 [] cd_389 k389_1806 q389_1806 := e_aload_aload_n 1806 0 1 1 rfl (e_aload_aload_n 1807 0 0 0 rfl (e_iload_iload 1808 0 5 (e_psh_iconst 1810 1 1 (e_iadd 1811 0 (e_iaload 1812 0 (e_aload_aload_n 1813 0 3 3 rfl (e_invS 1814 3203043 252 3 374 rfl rfl rfl (e_istore_istore 1817 0 6 (e_aload_aload_n 1819 0 2 2 rfl (e_aload_aload_n 1820 0 0 0 rfl (e_iload_iload 1821 0 5 (e_psh_iconst 1823 1 1 (e_iadd 1824 0 (e_iaload 1825 0 (e_invV_invokevirtual 1826 2261378 254 2 260 12 rfl rfl rfl rfl rfl rfl (e_istore_istore 1829 0 7 (e_aload_aload_n 1831 0 2 2 rfl (e_invV_invokevirtual 1832 1589633 160 1 178 12 rfl rfl rfl rfl rfl rfl (e_iload_iload 1835 0 6 (e_icmp_eq 1837 1842 5 (e_psh_iconst 1840 0 0 (e_ireturn 1841 0 ))))))))))))))))))))))
set_option maxHeartbeats 100000 in
def k389_1793 : ex_C := c_aload 1 (c_invV [] cd_389 1794 1 121 0 (c_aload 2 (c_invV [] cd_389 1798 1 259 12 (c_icmp_eq 2878 (c_psh 0 (c_ireturn  1))))))
set_option maxHeartbeats 100000 in
theorem kE389_1793 : ex_CE 1 [] cd_389 k389_1793 q389_1793 := e_aload_aload_n 1793 0 1 1 rfl (e_invV_invokevirtual 1794 1122305 248 1 121 0 rfl rfl rfl rfl rfl rfl (e_aload_aload_n 1797 0 2 2 rfl (e_invV_invokevirtual 1798 2253185 251 1 259 12 rfl rfl rfl rfl rfl rfl (e_icmp_eq 1801 2878 1077 (e_psh_iconst 1804 0 0 (e_ireturn 1805 0 ))))))
set_option maxHeartbeats 100000 in
def k389_1790 : ex_C := c_goto 2878
set_option maxHeartbeats 100000 in
theorem kE389_1790 : ex_CE 1 [] cd_389 k389_1790 q389_1790 := e_goto 1790 2878 1088
set_option maxHeartbeats 100000 in
def k389_1773 : ex_C := c_iload 6 (c_if_ne 1790 (c_aload 3 (c_psh 0 (c_laload   (c_iload 7 (c_i2l   (c_lcmp   (c_if_eq 1790 (c_psh 0 (c_ireturn  1))))))))))
set_option maxHeartbeats 100000 in
theorem kE389_1773 : ex_CE 1 [] cd_389 k389_1773 q389_1773 := e_iload_iload 1773 0 6 (e_if_ne 1775 1790 15 (e_aload_aload_n 1778 0 3 3 rfl (e_psh_iconst 1779 0 0 (e_laload 1780 0  (e_iload_iload 1781 0 7 (e_i2l 1783 0  (e_lcmp 1784 0  (e_if_eq 1785 1790 5 (e_psh_iconst 1788 0 0 (e_ireturn 1789 0 ))))))))))
set_option maxHeartbeats 100000 in
def k389_1749 : ex_C := c_aload 1 (c_aload 3 (c_invS [] cd_389 1751 2 373 (c_istore 6 (c_aload 2 (c_invV [] cd_389 1757 1 258 12 (c_istore 7 (c_aload 2 (c_invV [] cd_389 1763 1 178 12 (c_iload 6 (c_icmp_eq 1773 (c_psh 0 (c_ireturn  1))))))))))))
set_option maxHeartbeats 100000 in
theorem kE389_1749 : ex_CE 1 [] cd_389 k389_1749 q389_1749 := e_aload_aload_n 1749 0 1 1 rfl (e_aload_aload_n 1750 0 3 3 rfl (e_invS 1751 3194850 245 2 373 rfl rfl rfl (e_istore_istore 1754 0 6 (e_aload_aload_n 1756 0 2 2 rfl (e_invV_invokevirtual 1757 2244993 247 1 258 12 rfl rfl rfl rfl rfl rfl (e_istore_istore 1760 0 7 (e_aload_aload_n 1762 0 2 2 rfl (e_invV_invokevirtual 1763 1589633 160 1 178 12 rfl rfl rfl rfl rfl rfl (e_iload_iload 1766 0 6 (e_icmp_eq 1768 1773 5 (e_psh_iconst 1771 0 0 (e_ireturn 1772 0 ))))))))))))
set_option maxHeartbeats 100000 in
def k389_1746 : ex_C := c_goto 2878
set_option maxHeartbeats 100000 in
theorem kE389_1746 : ex_CE 1 [] cd_389 k389_1746 q389_1746 := e_goto 1746 2878 1132
set_option maxHeartbeats 100000 in
def k389_1740 : ex_C := c_lcmp   (c_if_eq 1746 (c_psh 0 (c_ireturn  1)))
set_option maxHeartbeats 100000 in
theorem kE389_1740 : ex_CE 1 [] cd_389 k389_1740 q389_1740 := e_lcmp 1740 0  (e_if_eq 1741 1746 5 (e_psh_iconst 1744 0 0 (e_ireturn 1745 0 )))
set_option maxHeartbeats 100000 in
def k389_1739 : ex_C := c_psh 412316860416 (k389_1740)
set_option maxHeartbeats 100000 in
theorem kE389_1739 : ex_CE 1 [] cd_389 k389_1739 q389_1739 := e_psh_lconst 1739 412316860416 0 (kE389_1740)
set_option maxHeartbeats 100000 in
def k389_1722 : ex_C := c_iload 6 (c_if_ne 1746 (c_aload 3 (c_psh 0 (c_laload   (c_iload 7 (c_if_eq 1739 (c_psh 412316860417 (c_goto 1740))))))))
set_option maxHeartbeats 100000 in
theorem kE389_1722 : ex_CE 1 [] cd_389 k389_1722 q389_1722 := e_iload_iload 1722 0 6 (e_if_ne 1724 1746 22 (e_aload_aload_n 1727 0 3 3 rfl (e_psh_iconst 1728 0 0 (e_laload 1729 0  (e_iload_iload 1730 0 7 (e_if_eq 1732 1739 7 (e_psh_lconst 1735 412316860417 1 (e_goto 1736 1740 4))))))))
set_option maxHeartbeats 100000 in
def k389_1656 : ex_C := c_aload 1 (c_aload 0 (c_iload 5 (c_psh 1 (c_iadd (c_iaload (c_i2c   (c_aload 0 (c_iload 5 (c_psh 2 (c_iadd (c_iaload (c_i2c   (c_aload 0 (c_iload 5 (c_psh 3 (c_iadd (c_iaload (c_i2c   (c_aload 3 (c_invS [] cd_389 1679 5 372 (c_istore 6 (c_aload 2 (c_aload 0 (c_iload 5 (c_psh 1 (c_iadd (c_iaload (c_i2c   (c_aload 0 (c_iload 5 (c_psh 2 (c_iadd (c_iaload (c_i2c   (c_aload 0 (c_iload 5 (c_psh 3 (c_iadd (c_iaload (c_i2c   (c_invV [] cd_389 1706 4 257 12 (c_istore 7 (c_aload 2 (c_invV [] cd_389 1712 1 178 12 (c_iload 6 (c_icmp_eq 1722 (c_psh 0 (c_ireturn  1))))))))))))))))))))))))))))))))))))))))))))))))
set_option maxHeartbeats 100000 in
theorem kE389_1656 : ex_CE 1 [] cd_389 k389_1656 q389_1656 := e_aload_aload_n 1656 0 1 1 rfl (e_aload_aload_n 1657 0 0 0 rfl (e_iload_iload 1658 0 5 (e_psh_iconst 1660 1 1 (e_iadd 1661 0 (e_iaload 1662 0 (e_i2c 1663 0  (e_aload_aload_n 1664 0 0 0 rfl (e_iload_iload 1665 0 5 (e_psh_iconst 1667 2 2 (e_iadd 1668 0 (e_iaload 1669 0 (e_i2c 1670 0  (e_aload_aload_n 1671 0 0 0 rfl (e_iload_iload 1672 0 5 (e_psh_iconst 1674 3 3 (e_iadd 1675 0 (e_iaload 1676 0 (e_i2c 1677 0  (e_aload_aload_n 1678 0 3 3 rfl (e_invS 1679 3186661 241 5 372 rfl rfl rfl (e_istore_istore 1682 0 6 (e_aload_aload_n 1684 0 2 2 rfl (e_aload_aload_n 1685 0 0 0 rfl (e_iload_iload 1686 0 5 (e_psh_iconst 1688 1 1 (e_iadd 1689 0 (e_iaload 1690 0 (e_i2c 1691 0  (e_aload_aload_n 1692 0 0 0 rfl (e_iload_iload 1693 0 5 (e_psh_iconst 1695 2 2 (e_iadd 1696 0 (e_iaload 1697 0 (e_i2c 1698 0  (e_aload_aload_n 1699 0 0 0 rfl (e_iload_iload 1700 0 5 (e_psh_iconst 1702 3 3 (e_iadd 1703 0 (e_iaload 1704 0 (e_i2c 1705 0  (e_invV_invokevirtual 1706 2236804 244 4 257 12 rfl rfl rfl rfl rfl rfl (e_istore_istore 1709 0 7 (e_aload_aload_n 1711 0 2 2 rfl (e_invV_invokevirtual 1712 1589633 160 1 178 12 rfl rfl rfl rfl rfl rfl (e_iload_iload 1715 0 6 (e_icmp_eq 1717 1722 5 (e_psh_iconst 1720 0 0 (e_ireturn 1721 0 ))))))))))))))))))))))))))))))))))))))))))))))))
set_option maxHeartbeats 100000 in
def k389_1653 : ex_C := c_goto 2878
set_option maxHeartbeats 100000 in
theorem kE389_1653 : ex_CE 1 [] cd_389 k389_1653 q389_1653 := e_goto 1653 2878 1225
set_option maxHeartbeats 100000 in
def k389_1636 : ex_C := c_iload 6 (c_if_ne 1653 (c_aload 3 (c_psh 0 (c_laload   (c_iload 7 (c_i2l   (c_lcmp   (c_if_eq 1653 (c_psh 0 (c_ireturn  1))))))))))
set_option maxHeartbeats 100000 in
theorem kE389_1636 : ex_CE 1 [] cd_389 k389_1636 q389_1636 := e_iload_iload 1636 0 6 (e_if_ne 1638 1653 15 (e_aload_aload_n 1641 0 3 3 rfl (e_psh_iconst 1642 0 0 (e_laload 1643 0  (e_iload_iload 1644 0 7 (e_i2l 1646 0  (e_lcmp 1647 0  (e_if_eq 1648 1653 5 (e_psh_iconst 1651 0 0 (e_ireturn 1652 0 ))))))))))
set_option maxHeartbeats 100000 in
def k389_1612 : ex_C := c_aload 1 (c_aload 3 (c_invS [] cd_389 1614 2 371 (c_istore 6 (c_aload 2 (c_invV [] cd_389 1620 1 256 12 (c_istore 7 (c_aload 2 (c_invV [] cd_389 1626 1 178 12 (c_iload 6 (c_icmp_eq 1636 (c_psh 0 (c_ireturn  1))))))))))))
set_option maxHeartbeats 100000 in
theorem kE389_1612 : ex_CE 1 [] cd_389 k389_1612 q389_1612 := e_aload_aload_n 1612 0 1 1 rfl (e_aload_aload_n 1613 0 3 3 rfl (e_invS 1614 3178466 238 2 371 rfl rfl rfl (e_istore_istore 1617 0 6 (e_aload_aload_n 1619 0 2 2 rfl (e_invV_invokevirtual 1620 2228609 240 1 256 12 rfl rfl rfl rfl rfl rfl (e_istore_istore 1623 0 7 (e_aload_aload_n 1625 0 2 2 rfl (e_invV_invokevirtual 1626 1589633 160 1 178 12 rfl rfl rfl rfl rfl rfl (e_iload_iload 1629 0 6 (e_icmp_eq 1631 1636 5 (e_psh_iconst 1634 0 0 (e_ireturn 1635 0 ))))))))))))
set_option maxHeartbeats 100000 in
def k389_1599 : ex_C := c_aload 1 (c_invV [] cd_389 1600 1 117 0 (c_aload 2 (c_invV [] cd_389 1604 1 255 12 (c_icmp_eq 2878 (c_psh 0 (c_ireturn  1))))))
set_option maxHeartbeats 100000 in
theorem kE389_1599 : ex_CE 1 [] cd_389 k389_1599 q389_1599 := e_aload_aload_n 1599 0 1 1 rfl (e_invV_invokevirtual 1600 1089537 233 1 117 0 rfl rfl rfl rfl rfl rfl (e_aload_aload_n 1603 0 2 2 rfl (e_invV_invokevirtual 1604 2220417 237 1 255 12 rfl rfl rfl rfl rfl rfl (e_icmp_eq 1607 2878 1271 (e_psh_iconst 1610 0 0 (e_ireturn 1611 0 ))))))
set_option maxHeartbeats 100000 in
def k389_1586 : ex_C := c_aload 1 (c_invV [] cd_389 1587 1 116 0 (c_aload 2 (c_invV [] cd_389 1591 1 254 12 (c_icmp_eq 2878 (c_psh 0 (c_ireturn  1))))))
set_option maxHeartbeats 100000 in
theorem kE389_1586 : ex_CE 1 [] cd_389 k389_1586 q389_1586 := e_aload_aload_n 1586 0 1 1 rfl (e_invV_invokevirtual 1587 1081345 229 1 116 0 rfl rfl rfl rfl rfl rfl (e_aload_aload_n 1590 0 2 2 rfl (e_invV_invokevirtual 1591 2212225 232 1 254 12 rfl rfl rfl rfl rfl rfl (e_icmp_eq 1594 2878 1284 (e_psh_iconst 1597 0 0 (e_ireturn 1598 0 ))))))
set_option maxHeartbeats 100000 in
def k389_1583 : ex_C := c_goto 2878
set_option maxHeartbeats 100000 in
theorem kE389_1583 : ex_CE 1 [] cd_389 k389_1583 q389_1583 := e_goto 1583 2878 1295
set_option maxHeartbeats 100000 in
def k389_1566 : ex_C := c_iload 6 (c_if_ne 1583 (c_aload 3 (c_psh 0 (c_laload   (c_iload 7 (c_i2l   (c_lcmp   (c_if_eq 1583 (c_psh 0 (c_ireturn  1))))))))))
set_option maxHeartbeats 100000 in
theorem kE389_1566 : ex_CE 1 [] cd_389 k389_1566 q389_1566 := e_iload_iload 1566 0 6 (e_if_ne 1568 1583 15 (e_aload_aload_n 1571 0 3 3 rfl (e_psh_iconst 1572 0 0 (e_laload 1573 0  (e_iload_iload 1574 0 7 (e_i2l 1576 0  (e_lcmp 1577 0  (e_if_eq 1578 1583 5 (e_psh_iconst 1581 0 0 (e_ireturn 1582 0 ))))))))))
set_option maxHeartbeats 100000 in
def k389_1542 : ex_C := c_aload 1 (c_aload 3 (c_invS [] cd_389 1544 2 370 (c_istore 6 (c_aload 2 (c_invV [] cd_389 1550 1 252 12 (c_istore 7 (c_aload 2 (c_invV [] cd_389 1556 1 178 12 (c_iload 6 (c_icmp_eq 1566 (c_psh 0 (c_ireturn  1))))))))))))
set_option maxHeartbeats 100000 in
theorem kE389_1542 : ex_CE 1 [] cd_389 k389_1542 q389_1542 := e_aload_aload_n 1542 0 1 1 rfl (e_aload_aload_n 1543 0 3 3 rfl (e_invS 1544 3170274 225 2 370 rfl rfl rfl (e_istore_istore 1547 0 6 (e_aload_aload_n 1549 0 2 2 rfl (e_invV_invokevirtual 1550 2195841 228 1 252 12 rfl rfl rfl rfl rfl rfl (e_istore_istore 1553 0 7 (e_aload_aload_n 1555 0 2 2 rfl (e_invV_invokevirtual 1556 1589633 160 1 178 12 rfl rfl rfl rfl rfl rfl (e_iload_iload 1559 0 6 (e_icmp_eq 1561 1566 5 (e_psh_iconst 1564 0 0 (e_ireturn 1565 0 ))))))))))))
set_option maxHeartbeats 100000 in
def k389_1539 : ex_C := c_goto 2878
set_option maxHeartbeats 100000 in
theorem kE389_1539 : ex_CE 1 [] cd_389 k389_1539 q389_1539 := e_goto 1539 2878 1339
set_option maxHeartbeats 100000 in
def k389_1522 : ex_C := c_iload 6 (c_if_ne 1539 (c_aload 3 (c_psh 0 (c_laload   (c_iload 7 (c_i2l   (c_lcmp   (c_if_eq 1539 (c_psh 0 (c_ireturn  1))))))))))
set_option maxHeartbeats 100000 in
theorem kE389_1522 : ex_CE 1 [] cd_389 k389_1522 q389_1522 := e_iload_iload 1522 0 6 (e_if_ne 1524 1539 15 (e_aload_aload_n 1527 0 3 3 rfl (e_psh_iconst 1528 0 0 (e_laload 1529 0  (e_iload_iload 1530 0 7 (e_i2l 1532 0  (e_lcmp 1533 0  (e_if_eq 1534 1539 5 (e_psh_iconst 1537 0 0 (e_ireturn 1538 0 ))))))))))
set_option maxHeartbeats 100000 in
def k389_1432 : ex_C := c_aload 1 (c_aload 0 (c_iload 5 (c_psh 1 (c_iadd (c_iaload (c_i2c   (c_aload 0 (c_iload 5 (c_psh 2 (c_iadd (c_iaload (c_i2c   (c_aload 0 (c_iload 5 (c_psh 3 (c_iadd (c_iaload (c_i2c   (c_aload 0 (c_iload 5 (c_psh 4 (c_iadd (c_iaload (c_aload 0 (c_iload 5 (c_psh 5 (c_iadd (c_iaload (c_aload 3 (c_invS [] cd_389 1467 7 369 (c_istore 6 (c_aload 2 (c_aload 0 (c_iload 5 (c_psh 1 (c_iadd (c_iaload (c_i2c   (c_aload 0 (c_iload 5 (c_psh 2 (c_iadd (c_iaload (c_i2c   (c_aload 0 (c_iload 5 (c_psh 3 (c_iadd (c_iaload (c_i2c   (c_aload 0 (c_iload 5 (c_psh 4 (c_iadd (c_iaload (c_aload 0 (c_iload 5 (c_psh 5 (c_iadd (c_iaload (c_invV [] cd_389 1506 6 251 12 (c_istore 7 (c_aload 2 (c_invV [] cd_389 1512 1 178 12 (c_iload 6 (c_icmp_eq 1522 (c_psh 0 (c_ireturn  1))))))))))))))))))))))))))))))))))))))))))))))))))))))))))))))))))))
set_option maxHeartbeats 100000 in
theorem kE389_1432 : ex_CE 1 [] cd_389 k389_1432 q389_1432 := e_aload_aload_n 1432 0 1 1 rfl (e_aload_aload_n 1433 0 0 0 rfl (e_iload_iload 1434 0 5 (e_psh_iconst 1436 1 1 (e_iadd 1437 0 (e_iaload 1438 0 (e_i2c 1439 0  (e_aload_aload_n 1440 0 0 0 rfl (e_iload_iload 1441 0 5 (e_psh_iconst 1443 2 2 (e_iadd 1444 0 (e_iaload 1445 0 (e_i2c 1446 0  (e_aload_aload_n 1447 0 0 0 rfl (e_iload_iload 1448 0 5 (e_psh_iconst 1450 3 3 (e_iadd 1451 0 (e_iaload 1452 0 (e_i2c 1453 0  (e_aload_aload_n 1454 0 0 0 rfl (e_iload_iload 1455 0 5 (e_psh_iconst 1457 4 4 (e_iadd 1458 0 (e_iaload 1459 0 (e_aload_aload_n 1460 0 0 0 rfl (e_iload_iload 1461 0 5 (e_psh_iconst 1463 5 5 (e_iadd 1464 0 (e_iaload 1465 0 (e_aload_aload_n 1466 0 3 3 rfl (e_invS 1467 3162087 221 7 369 rfl rfl rfl (e_istore_istore 1470 0 6 (e_aload_aload_n 1472 0 2 2 rfl (e_aload_aload_n 1473 0 0 0 rfl (e_iload_iload 1474 0 5 (e_psh_iconst 1476 1 1 (e_iadd 1477 0 (e_iaload 1478 0 (e_i2c 1479 0  (e_aload_aload_n 1480 0 0 0 rfl (e_iload_iload 1481 0 5 (e_psh_iconst 1483 2 2 (e_iadd 1484 0 (e_iaload 1485 0 (e_i2c 1486 0  (e_aload_aload_n 1487 0 0 0 rfl (e_iload_iload 1488 0 5 (e_psh_iconst 1490 3 3 (e_iadd 1491 0 (e_iaload 1492 0 (e_i2c 1493 0  (e_aload_aload_n 1494 0 0 0 rfl (e_iload_iload 1495 0 5 (e_psh_iconst 1497 4 4 (e_iadd 1498 0 (e_iaload 1499 0 (e_aload_aload_n 1500 0 0 0 rfl (e_iload_iload 1501 0 5 (e_psh_iconst 1503 5 5 (e_iadd 1504 0 (e_iaload 1505 0 (e_invV_invokevirtual 1506 2187654 224 6 251 12 rfl rfl rfl rfl rfl rfl (e_istore_istore 1509 0 7 (e_aload_aload_n 1511 0 2 2 rfl (e_invV_invokevirtual 1512 1589633 160 1 178 12 rfl rfl rfl rfl rfl rfl (e_iload_iload 1515 0 6 (e_icmp_eq 1517 1522 5 (e_psh_iconst 1520 0 0 (e_ireturn 1521 0 ))))))))))))))))))))))))))))))))))))))))))))))))))))))))))))))))))))
set_option maxHeartbeats 100000 in
def k389_1429 : ex_C := c_goto 2878
set_option maxHeartbeats 100000 in
theorem kE389_1429 : ex_CE 1 [] cd_389 k389_1429 q389_1429 := e_goto 1429 2878 1449
set_option maxHeartbeats 100000 in
def k389_1412 : ex_C := c_iload 6 (c_if_ne 1429 (c_aload 3 (c_psh 0 (c_laload   (c_iload 7 (c_i2l   (c_lcmp   (c_if_eq 1429 (c_psh 0 (c_ireturn  1))))))))))
set_option maxHeartbeats 100000 in
theorem kE389_1412 : ex_CE 1 [] cd_389 k389_1412 q389_1412 := e_iload_iload 1412 0 6 (e_if_ne 1414 1429 15 (e_aload_aload_n 1417 0 3 3 rfl (e_psh_iconst 1418 0 0 (e_laload 1419 0  (e_iload_iload 1420 0 7 (e_i2l 1422 0  (e_lcmp 1423 0  (e_if_eq 1424 1429 5 (e_psh_iconst 1427 0 0 (e_ireturn 1428 0 ))))))))))
set_option maxHeartbeats 100000 in
def k389_1374 : ex_C := c_aload 1 (c_aload 0 (c_iload 5 (c_psh 1 (c_iadd (c_iaload (c_i2c   (c_aload 3 (c_invS [] cd_389 1383 3 368 (c_istore 6 (c_aload 2 (c_aload 0 (c_iload 5 (c_psh 1 (c_iadd (c_iaload (c_i2c   (c_invV [] cd_389 1396 2 218 12 (c_istore 7 (c_aload 2 (c_invV [] cd_389 1402 1 178 12 (c_iload 6 (c_icmp_eq 1412 (c_psh 0 (c_ireturn  1))))))))))))))))))))))))
set_option maxHeartbeats 100000 in
theorem kE389_1374 : ex_CE 1 [] cd_389 k389_1374 q389_1374 := e_aload_aload_n 1374 0 1 1 rfl (e_aload_aload_n 1375 0 0 0 rfl (e_iload_iload 1376 0 5 (e_psh_iconst 1378 1 1 (e_iadd 1379 0 (e_iaload 1380 0 (e_i2c 1381 0  (e_aload_aload_n 1382 0 3 3 rfl (e_invS 1383 3153891 218 3 368 rfl rfl rfl (e_istore_istore 1386 0 6 (e_aload_aload_n 1388 0 2 2 rfl (e_aload_aload_n 1389 0 0 0 rfl (e_iload_iload 1390 0 5 (e_psh_iconst 1392 1 1 (e_iadd 1393 0 (e_iaload 1394 0 (e_i2c 1395 0  (e_invV_invokevirtual 1396 1917314 220 2 218 12 rfl rfl rfl rfl rfl rfl (e_istore_istore 1399 0 7 (e_aload_aload_n 1401 0 2 2 rfl (e_invV_invokevirtual 1402 1589633 160 1 178 12 rfl rfl rfl rfl rfl rfl (e_iload_iload 1405 0 6 (e_icmp_eq 1407 1412 5 (e_psh_iconst 1410 0 0 (e_ireturn 1411 0 ))))))))))))))))))))))))
set_option maxHeartbeats 100000 in
def k389_1371 : ex_C := c_goto 2878
set_option maxHeartbeats 100000 in
theorem kE389_1371 : ex_CE 1 [] cd_389 k389_1371 q389_1371 := e_goto 1371 2878 1507
set_option maxHeartbeats 100000 in
def k389_1354 : ex_C := c_iload 6 (c_if_ne 1371 (c_aload 3 (c_psh 0 (c_laload   (c_iload 7 (c_i2l   (c_lcmp   (c_if_eq 1371 (c_psh 0 (c_ireturn  1))))))))))
set_option maxHeartbeats 100000 in
theorem kE389_1354 : ex_CE 1 [] cd_389 k389_1354 q389_1354 := e_iload_iload 1354 0 6 (e_if_ne 1356 1371 15 (e_aload_aload_n 1359 0 3 3 rfl (e_psh_iconst 1360 0 0 (e_laload 1361 0  (e_iload_iload 1362 0 7 (e_i2l 1364 0  (e_lcmp 1365 0  (e_if_eq 1366 1371 5 (e_psh_iconst 1369 0 0 (e_ireturn 1370 0 ))))))))))
set_option maxHeartbeats 100000 in
def k389_1316 : ex_C := c_aload 1 (c_aload 0 (c_iload 5 (c_psh 1 (c_iadd (c_iaload (c_i2c   (c_aload 3 (c_invS [] cd_389 1325 3 367 (c_istore 6 (c_aload 2 (c_aload 0 (c_iload 5 (c_psh 1 (c_iadd (c_iaload (c_i2c   (c_invV [] cd_389 1338 2 217 12 (c_istore 7 (c_aload 2 (c_invV [] cd_389 1344 1 178 12 (c_iload 6 (c_icmp_eq 1354 (c_psh 0 (c_ireturn  1))))))))))))))))))))))))
set_option maxHeartbeats 100000 in
theorem kE389_1316 : ex_CE 1 [] cd_389 k389_1316 q389_1316 := e_aload_aload_n 1316 0 1 1 rfl (e_aload_aload_n 1317 0 0 0 rfl (e_iload_iload 1318 0 5 (e_psh_iconst 1320 1 1 (e_iadd 1321 0 (e_iaload 1322 0 (e_i2c 1323 0  (e_aload_aload_n 1324 0 3 3 rfl (e_invS 1325 3145699 215 3 367 rfl rfl rfl (e_istore_istore 1328 0 6 (e_aload_aload_n 1330 0 2 2 rfl (e_aload_aload_n 1331 0 0 0 rfl (e_iload_iload 1332 0 5 (e_psh_iconst 1334 1 1 (e_iadd 1335 0 (e_iaload 1336 0 (e_i2c 1337 0  (e_invV_invokevirtual 1338 1909122 217 2 217 12 rfl rfl rfl rfl rfl rfl (e_istore_istore 1341 0 7 (e_aload_aload_n 1343 0 2 2 rfl (e_invV_invokevirtual 1344 1589633 160 1 178 12 rfl rfl rfl rfl rfl rfl (e_iload_iload 1347 0 6 (e_icmp_eq 1349 1354 5 (e_psh_iconst 1352 0 0 (e_ireturn 1353 0 ))))))))))))))))))))))))
set_option maxHeartbeats 100000 in
def k389_1313 : ex_C := c_goto 2878
set_option maxHeartbeats 100000 in
theorem kE389_1313 : ex_CE 1 [] cd_389 k389_1313 q389_1313 := e_goto 1313 2878 1565
set_option maxHeartbeats 100000 in
def k389_1296 : ex_C := c_iload 6 (c_if_ne 1313 (c_aload 3 (c_psh 0 (c_laload   (c_iload 7 (c_i2l   (c_lcmp   (c_if_eq 1313 (c_psh 0 (c_ireturn  1))))))))))
set_option maxHeartbeats 100000 in
theorem kE389_1296 : ex_CE 1 [] cd_389 k389_1296 q389_1296 := e_iload_iload 1296 0 6 (e_if_ne 1298 1313 15 (e_aload_aload_n 1301 0 3 3 rfl (e_psh_iconst 1302 0 0 (e_laload 1303 0  (e_iload_iload 1304 0 7 (e_i2l 1306 0  (e_lcmp 1307 0  (e_if_eq 1308 1313 5 (e_psh_iconst 1311 0 0 (e_ireturn 1312 0 ))))))))))
set_option maxHeartbeats 100000 in
def k389_1258 : ex_C := c_aload 1 (c_aload 0 (c_iload 5 (c_psh 1 (c_iadd (c_iaload (c_i2c   (c_aload 3 (c_invS [] cd_389 1267 3 366 (c_istore 6 (c_aload 2 (c_aload 0 (c_iload 5 (c_psh 1 (c_iadd (c_iaload (c_i2c   (c_invV [] cd_389 1280 2 216 12 (c_istore 7 (c_aload 2 (c_invV [] cd_389 1286 1 178 12 (c_iload 6 (c_icmp_eq 1296 (c_psh 0 (c_ireturn  1))))))))))))))))))))))))
set_option maxHeartbeats 100000 in
theorem kE389_1258 : ex_CE 1 [] cd_389 k389_1258 q389_1258 := e_aload_aload_n 1258 0 1 1 rfl (e_aload_aload_n 1259 0 0 0 rfl (e_iload_iload 1260 0 5 (e_psh_iconst 1262 1 1 (e_iadd 1263 0 (e_iaload 1264 0 (e_i2c 1265 0  (e_aload_aload_n 1266 0 3 3 rfl (e_invS 1267 3137507 212 3 366 rfl rfl rfl (e_istore_istore 1270 0 6 (e_aload_aload_n 1272 0 2 2 rfl (e_aload_aload_n 1273 0 0 0 rfl (e_iload_iload 1274 0 5 (e_psh_iconst 1276 1 1 (e_iadd 1277 0 (e_iaload 1278 0 (e_i2c 1279 0  (e_invV_invokevirtual 1280 1900930 214 2 216 12 rfl rfl rfl rfl rfl rfl (e_istore_istore 1283 0 7 (e_aload_aload_n 1285 0 2 2 rfl (e_invV_invokevirtual 1286 1589633 160 1 178 12 rfl rfl rfl rfl rfl rfl (e_iload_iload 1289 0 6 (e_icmp_eq 1291 1296 5 (e_psh_iconst 1294 0 0 (e_ireturn 1295 0 ))))))))))))))))))))))))
set_option maxHeartbeats 100000 in
def k389_1255 : ex_C := c_goto 2878
set_option maxHeartbeats 100000 in
theorem kE389_1255 : ex_CE 1 [] cd_389 k389_1255 q389_1255 := e_goto 1255 2878 1623
set_option maxHeartbeats 100000 in
def k389_1238 : ex_C := c_iload 6 (c_if_ne 1255 (c_aload 3 (c_psh 0 (c_laload   (c_iload 7 (c_i2l   (c_lcmp   (c_if_eq 1255 (c_psh 0 (c_ireturn  1))))))))))
set_option maxHeartbeats 100000 in
theorem kE389_1238 : ex_CE 1 [] cd_389 k389_1238 q389_1238 := e_iload_iload 1238 0 6 (e_if_ne 1240 1255 15 (e_aload_aload_n 1243 0 3 3 rfl (e_psh_iconst 1244 0 0 (e_laload 1245 0  (e_iload_iload 1246 0 7 (e_i2l 1248 0  (e_lcmp 1249 0  (e_if_eq 1250 1255 5 (e_psh_iconst 1253 0 0 (e_ireturn 1254 0 ))))))))))
set_option maxHeartbeats 100000 in
def k389_1176 : ex_C := c_aload 1 (c_aload 0 (c_iload 5 (c_psh 1 (c_iadd (c_iaload (c_i2c   (c_aload 0 (c_iload 5 (c_psh 2 (c_iadd (c_iaload (c_aload 0 (c_iload 5 (c_psh 3 (c_iadd (c_iaload (c_aload 3 (c_invS [] cd_389 1197 5 365 (c_istore 6 (c_aload 2 (c_aload 0 (c_iload 5 (c_psh 1 (c_iadd (c_iaload (c_i2c   (c_aload 0 (c_iload 5 (c_psh 2 (c_iadd (c_iaload (c_aload 0 (c_iload 5 (c_psh 3 (c_iadd (c_iaload (c_invV [] cd_389 1222 4 212 12 (c_istore 7 (c_aload 2 (c_invV [] cd_389 1228 1 178 12 (c_iload 6 (c_icmp_eq 1238 (c_psh 0 (c_ireturn  1))))))))))))))))))))))))))))))))))))))))))))
set_option maxHeartbeats 100000 in
theorem kE389_1176 : ex_CE 1 [] cd_389 k389_1176 q389_1176 := e_aload_aload_n 1176 0 1 1 rfl (e_aload_aload_n 1177 0 0 0 rfl (e_iload_iload 1178 0 5 (e_psh_iconst 1180 1 1 (e_iadd 1181 0 (e_iaload 1182 0 (e_i2c 1183 0  (e_aload_aload_n 1184 0 0 0 rfl (e_iload_iload 1185 0 5 (e_psh_iconst 1187 2 2 (e_iadd 1188 0 (e_iaload 1189 0 (e_aload_aload_n 1190 0 0 0 rfl (e_iload_iload 1191 0 5 (e_psh_iconst 1193 3 3 (e_iadd 1194 0 (e_iaload 1195 0 (e_aload_aload_n 1196 0 3 3 rfl (e_invS 1197 3129317 208 5 365 rfl rfl rfl (e_istore_istore 1200 0 6 (e_aload_aload_n 1202 0 2 2 rfl (e_aload_aload_n 1203 0 0 0 rfl (e_iload_iload 1204 0 5 (e_psh_iconst 1206 1 1 (e_iadd 1207 0 (e_iaload 1208 0 (e_i2c 1209 0  (e_aload_aload_n 1210 0 0 0 rfl (e_iload_iload 1211 0 5 (e_psh_iconst 1213 2 2 (e_iadd 1214 0 (e_iaload 1215 0 (e_aload_aload_n 1216 0 0 0 rfl (e_iload_iload 1217 0 5 (e_psh_iconst 1219 3 3 (e_iadd 1220 0 (e_iaload 1221 0 (e_invV_invokevirtual 1222 1868164 211 4 212 12 rfl rfl rfl rfl rfl rfl (e_istore_istore 1225 0 7 (e_aload_aload_n 1227 0 2 2 rfl (e_invV_invokevirtual 1228 1589633 160 1 178 12 rfl rfl rfl rfl rfl rfl (e_iload_iload 1231 0 6 (e_icmp_eq 1233 1238 5 (e_psh_iconst 1236 0 0 (e_ireturn 1237 0 ))))))))))))))))))))))))))))))))))))))))))))
set_option maxHeartbeats 100000 in
def k389_1173 : ex_C := c_goto 2878
set_option maxHeartbeats 100000 in
theorem kE389_1173 : ex_CE 1 [] cd_389 k389_1173 q389_1173 := e_goto 1173 2878 1705
set_option maxHeartbeats 100000 in
def k389_1156 : ex_C := c_iload 6 (c_if_ne 1173 (c_aload 3 (c_psh 0 (c_laload   (c_iload 7 (c_i2l   (c_lcmp   (c_if_eq 1173 (c_psh 0 (c_ireturn  1))))))))))
set_option maxHeartbeats 100000 in
theorem kE389_1156 : ex_CE 1 [] cd_389 k389_1156 q389_1156 := e_iload_iload 1156 0 6 (e_if_ne 1158 1173 15 (e_aload_aload_n 1161 0 3 3 rfl (e_psh_iconst 1162 0 0 (e_laload 1163 0  (e_iload_iload 1164 0 7 (e_i2l 1166 0  (e_lcmp 1167 0  (e_if_eq 1168 1173 5 (e_psh_iconst 1171 0 0 (e_ireturn 1172 0 ))))))))))
set_option maxHeartbeats 100000 in
def k389_1118 : ex_C := c_aload 1 (c_aload 0 (c_iload 5 (c_psh 1 (c_iadd (c_iaload (c_i2c   (c_aload 3 (c_invS [] cd_389 1127 3 364 (c_istore 6 (c_aload 2 (c_aload 0 (c_iload 5 (c_psh 1 (c_iadd (c_iaload (c_i2c   (c_invV [] cd_389 1140 2 209 12 (c_istore 7 (c_aload 2 (c_invV [] cd_389 1146 1 178 12 (c_iload 6 (c_icmp_eq 1156 (c_psh 0 (c_ireturn  1))))))))))))))))))))))))
set_option maxHeartbeats 100000 in
theorem kE389_1118 : ex_CE 1 [] cd_389 k389_1118 q389_1118 := e_aload_aload_n 1118 0 1 1 rfl (e_aload_aload_n 1119 0 0 0 rfl (e_iload_iload 1120 0 5 (e_psh_iconst 1122 1 1 (e_iadd 1123 0 (e_iaload 1124 0 (e_i2c 1125 0  (e_aload_aload_n 1126 0 3 3 rfl (e_invS 1127 3121123 204 3 364 rfl rfl rfl (e_istore_istore 1130 0 6 (e_aload_aload_n 1132 0 2 2 rfl (e_aload_aload_n 1133 0 0 0 rfl (e_iload_iload 1134 0 5 (e_psh_iconst 1136 1 1 (e_iadd 1137 0 (e_iaload 1138 0 (e_i2c 1139 0  (e_invV_invokevirtual 1140 1843586 207 2 209 12 rfl rfl rfl rfl rfl rfl (e_istore_istore 1143 0 7 (e_aload_aload_n 1145 0 2 2 rfl (e_invV_invokevirtual 1146 1589633 160 1 178 12 rfl rfl rfl rfl rfl rfl (e_iload_iload 1149 0 6 (e_icmp_eq 1151 1156 5 (e_psh_iconst 1154 0 0 (e_ireturn 1155 0 ))))))))))))))))))))))))
set_option maxHeartbeats 100000 in
def k389_1115 : ex_C := c_goto 2878
set_option maxHeartbeats 100000 in
theorem kE389_1115 : ex_CE 1 [] cd_389 k389_1115 q389_1115 := e_goto 1115 2878 1763
set_option maxHeartbeats 100000 in
def k389_1098 : ex_C := c_iload 6 (c_if_ne 1115 (c_aload 3 (c_psh 0 (c_laload   (c_iload 7 (c_i2l   (c_lcmp   (c_if_eq 1115 (c_psh 0 (c_ireturn  1))))))))))
set_option maxHeartbeats 100000 in
theorem kE389_1098 : ex_CE 1 [] cd_389 k389_1098 q389_1098 := e_iload_iload 1098 0 6 (e_if_ne 1100 1115 15 (e_aload_aload_n 1103 0 3 3 rfl (e_psh_iconst 1104 0 0 (e_laload 1105 0  (e_iload_iload 1106 0 7 (e_i2l 1108 0  (e_lcmp 1109 0  (e_if_eq 1110 1115 5 (e_psh_iconst 1113 0 0 (e_ireturn 1114 0 ))))))))))
set_option maxHeartbeats 100000 in
def k389_1006 : ex_C := c_aload 1 (c_aload 0 (c_iload 5 (c_psh 1 (c_iadd (c_iaload (c_i2c   (c_aload 0 (c_iload 5 (c_psh 2 (c_iadd (c_iaload (c_aload 0 (c_iload 5 (c_psh 3 (c_iadd (c_iaload (c_i2c   (c_aload 0 (c_iload 5 (c_psh 4 (c_iadd (c_iaload (c_i2c   (c_aload 0 (c_iload 5 (c_psh 5 (c_iadd (c_iaload (c_i2c   (c_aload 3 (c_invS [] cd_389 1042 7 363 (c_istore 6 (c_aload 2 (c_aload 0 (c_iload 5 (c_psh 1 (c_iadd (c_iaload (c_i2c   (c_aload 0 (c_iload 5 (c_psh 2 (c_iadd (c_iaload (c_aload 0 (c_iload 5 (c_psh 3 (c_iadd (c_iaload (c_i2c   (c_aload 0 (c_iload 5 (c_psh 4 (c_iadd (c_iaload (c_i2c   (c_aload 0 (c_iload 5 (c_psh 5 (c_iadd (c_iaload (c_i2c   (c_invV [] cd_389 1082 6 208 12 (c_istore 7 (c_aload 2 (c_invV [] cd_389 1088 1 178 12 (c_iload 6 (c_icmp_eq 1098 (c_psh 0 (c_ireturn  1))))))))))))))))))))))))))))))))))))))))))))))))))))))))))))))))))))))
set_option maxHeartbeats 100000 in
theorem kE389_1006 : ex_CE 1 [] cd_389 k389_1006 q389_1006 := e_aload_aload_n 1006 0 1 1 rfl (e_aload_aload_n 1007 0 0 0 rfl (e_iload_iload 1008 0 5 (e_psh_iconst 1010 1 1 (e_iadd 1011 0 (e_iaload 1012 0 (e_i2c 1013 0  (e_aload_aload_n 1014 0 0 0 rfl (e_iload_iload 1015 0 5 (e_psh_iconst 1017 2 2 (e_iadd 1018 0 (e_iaload 1019 0 (e_aload_aload_n 1020 0 0 0 rfl (e_iload_iload 1021 0 5 (e_psh_iconst 1023 3 3 (e_iadd 1024 0 (e_iaload 1025 0 (e_i2c 1026 0  (e_aload_aload_n 1027 0 0 0 rfl (e_iload_iload 1028 0 5 (e_psh_iconst 1030 4 4 (e_iadd 1031 0 (e_iaload 1032 0 (e_i2c 1033 0  (e_aload_aload_n 1034 0 0 0 rfl (e_iload_iload 1035 0 5 (e_psh_iconst 1037 5 5 (e_iadd 1038 0 (e_iaload 1039 0 (e_i2c 1040 0  (e_aload_aload_n 1041 0 3 3 rfl (e_invS 1042 3112935 200 7 363 rfl rfl rfl (e_istore_istore 1045 0 6 (e_aload_aload_n 1047 0 2 2 rfl (e_aload_aload_n 1048 0 0 0 rfl (e_iload_iload 1049 0 5 (e_psh_iconst 1051 1 1 (e_iadd 1052 0 (e_iaload 1053 0 (e_i2c 1054 0  (e_aload_aload_n 1055 0 0 0 rfl (e_iload_iload 1056 0 5 (e_psh_iconst 1058 2 2 (e_iadd 1059 0 (e_iaload 1060 0 (e_aload_aload_n 1061 0 0 0 rfl (e_iload_iload 1062 0 5 (e_psh_iconst 1064 3 3 (e_iadd 1065 0 (e_iaload 1066 0 (e_i2c 1067 0  (e_aload_aload_n 1068 0 0 0 rfl (e_iload_iload 1069 0 5 (e_psh_iconst 1071 4 4 (e_iadd 1072 0 (e_iaload 1073 0 (e_i2c 1074 0  (e_aload_aload_n 1075 0 0 0 rfl (e_iload_iload 1076 0 5 (e_psh_iconst 1078 5 5 (e_iadd 1079 0 (e_iaload 1080 0 (e_i2c 1081 0  (e_invV_invokevirtual 1082 1835398 203 6 208 12 rfl rfl rfl rfl rfl rfl (e_istore_istore 1085 0 7 (e_aload_aload_n 1087 0 2 2 rfl (e_invV_invokevirtual 1088 1589633 160 1 178 12 rfl rfl rfl rfl rfl rfl (e_iload_iload 1091 0 6 (e_icmp_eq 1093 1098 5 (e_psh_iconst 1096 0 0 (e_ireturn 1097 0 ))))))))))))))))))))))))))))))))))))))))))))))))))))))))))))))))))))))
set_option maxHeartbeats 100000 in
def k389_1003 : ex_C := c_goto 2878
set_option maxHeartbeats 100000 in
theorem kE389_1003 : ex_CE 1 [] cd_389 k389_1003 q389_1003 := e_goto 1003 2878 1875
set_option maxHeartbeats 100000 in
def k389_986 : ex_C := c_iload 6 (c_if_ne 1003 (c_aload 3 (c_psh 0 (c_laload   (c_iload 7 (c_i2l   (c_lcmp   (c_if_eq 1003 (c_psh 0 (c_ireturn  1))))))))))
set_option maxHeartbeats 100000 in
theorem kE389_986 : ex_CE 1 [] cd_389 k389_986 q389_986 := e_iload_iload 986 0 6 (e_if_ne 988 1003 15 (e_aload_aload_n 991 0 3 3 rfl (e_psh_iconst 992 0 0 (e_laload 993 0  (e_iload_iload 994 0 7 (e_i2l 996 0  (e_lcmp 997 0  (e_if_eq 998 1003 5 (e_psh_iconst 1001 0 0 (e_ireturn 1002 0 ))))))))))
set_option maxHeartbeats 100000 in
def k389_950 : ex_C := c_aload 1 (c_aload 0 (c_iload 5 (c_psh 1 (c_iadd (c_iaload (c_aload 3 (c_invS [] cd_389 958 3 362 (c_istore 6 (c_aload 2 (c_aload 0 (c_iload 5 (c_psh 1 (c_iadd (c_iaload (c_invV [] cd_389 970 2 204 12 (c_istore 7 (c_aload 2 (c_invV [] cd_389 976 1 178 12 (c_iload 6 (c_icmp_eq 986 (c_psh 0 (c_ireturn  1))))))))))))))))))))))
set_option maxHeartbeats 100000 in
theorem kE389_950 : ex_CE 1 [] cd_389 k389_950 q389_950 := e_aload_aload_n 950 0 1 1 rfl (e_aload_aload_n 951 0 0 0 rfl (e_iload_iload 952 0 5 (e_psh_iconst 954 1 1 (e_iadd 955 0 (e_iaload 956 0 (e_aload_aload_n 957 0 3 3 rfl (e_invS 958 3104739 197 3 362 rfl rfl rfl (e_istore_istore 961 0 6 (e_aload_aload_n 963 0 2 2 rfl (e_aload_aload_n 964 0 0 0 rfl (e_iload_iload 965 0 5 (e_psh_iconst 967 1 1 (e_iadd 968 0 (e_iaload 969 0 (e_invV_invokevirtual 970 1802626 199 2 204 12 rfl rfl rfl rfl rfl rfl (e_istore_istore 973 0 7 (e_aload_aload_n 975 0 2 2 rfl (e_invV_invokevirtual 976 1589633 160 1 178 12 rfl rfl rfl rfl rfl rfl (e_iload_iload 979 0 6 (e_icmp_eq 981 986 5 (e_psh_iconst 984 0 0 (e_ireturn 985 0 ))))))))))))))))))))))
set_option maxHeartbeats 100000 in
def k389_947 : ex_C := c_goto 2878
set_option maxHeartbeats 100000 in
theorem kE389_947 : ex_CE 1 [] cd_389 k389_947 q389_947 := e_goto 947 2878 1931
set_option maxHeartbeats 100000 in
def k389_930 : ex_C := c_iload 6 (c_if_ne 947 (c_aload 3 (c_psh 0 (c_laload   (c_iload 7 (c_i2l   (c_lcmp   (c_if_eq 947 (c_psh 0 (c_ireturn  1))))))))))
set_option maxHeartbeats 100000 in
theorem kE389_930 : ex_CE 1 [] cd_389 k389_930 q389_930 := e_iload_iload 930 0 6 (e_if_ne 932 947 15 (e_aload_aload_n 935 0 3 3 rfl (e_psh_iconst 936 0 0 (e_laload 937 0  (e_iload_iload 938 0 7 (e_i2l 940 0  (e_lcmp 941 0  (e_if_eq 942 947 5 (e_psh_iconst 945 0 0 (e_ireturn 946 0 ))))))))))
set_option maxHeartbeats 100000 in
def k389_894 : ex_C := c_aload 1 (c_aload 0 (c_iload 5 (c_psh 1 (c_iadd (c_iaload (c_aload 3 (c_invS [] cd_389 902 3 361 (c_istore 6 (c_aload 2 (c_aload 0 (c_iload 5 (c_psh 1 (c_iadd (c_iaload (c_invV [] cd_389 914 2 203 12 (c_istore 7 (c_aload 2 (c_invV [] cd_389 920 1 178 12 (c_iload 6 (c_icmp_eq 930 (c_psh 0 (c_ireturn  1))))))))))))))))))))))
set_option maxHeartbeats 100000 in
theorem kE389_894 : ex_CE 1 [] cd_389 k389_894 q389_894 := e_aload_aload_n 894 0 1 1 rfl (e_aload_aload_n 895 0 0 0 rfl (e_iload_iload 896 0 5 (e_psh_iconst 898 1 1 (e_iadd 899 0 (e_iaload 900 0 (e_aload_aload_n 901 0 3 3 rfl (e_invS 902 3096547 194 3 361 rfl rfl rfl (e_istore_istore 905 0 6 (e_aload_aload_n 907 0 2 2 rfl (e_aload_aload_n 908 0 0 0 rfl (e_iload_iload 909 0 5 (e_psh_iconst 911 1 1 (e_iadd 912 0 (e_iaload 913 0 (e_invV_invokevirtual 914 1794434 196 2 203 12 rfl rfl rfl rfl rfl rfl (e_istore_istore 917 0 7 (e_aload_aload_n 919 0 2 2 rfl (e_invV_invokevirtual 920 1589633 160 1 178 12 rfl rfl rfl rfl rfl rfl (e_iload_iload 923 0 6 (e_icmp_eq 925 930 5 (e_psh_iconst 928 0 0 (e_ireturn 929 0 ))))))))))))))))))))))
set_option maxHeartbeats 100000 in
def k389_881 : ex_C := c_aload 1 (c_invV [] cd_389 882 1 105 0 (c_aload 2 (c_invV [] cd_389 886 1 202 12 (c_icmp_eq 2878 (c_psh 0 (c_ireturn  1))))))
set_option maxHeartbeats 100000 in
theorem kE389_881 : ex_CE 1 [] cd_389 k389_881 q389_881 := e_aload_aload_n 881 0 1 1 rfl (e_invV_invokevirtual 882 991233 190 1 105 0 rfl rfl rfl rfl rfl rfl (e_aload_aload_n 885 0 2 2 rfl (e_invV_invokevirtual 886 1786241 193 1 202 12 rfl rfl rfl rfl rfl rfl (e_icmp_eq 889 2878 1989 (e_psh_iconst 892 0 0 (e_ireturn 893 0 ))))))
set_option maxHeartbeats 100000 in
def k389_878 : ex_C := c_goto 2878
set_option maxHeartbeats 100000 in
theorem kE389_878 : ex_CE 1 [] cd_389 k389_878 q389_878 := e_goto 878 2878 2000
set_option maxHeartbeats 100000 in
def k389_861 : ex_C := c_iload 6 (c_if_ne 878 (c_aload 3 (c_psh 0 (c_laload   (c_iload 7 (c_i2l   (c_lcmp   (c_if_eq 878 (c_psh 0 (c_ireturn  1))))))))))
set_option maxHeartbeats 100000 in
theorem kE389_861 : ex_CE 1 [] cd_389 k389_861 q389_861 := e_iload_iload 861 0 6 (e_if_ne 863 878 15 (e_aload_aload_n 866 0 3 3 rfl (e_psh_iconst 867 0 0 (e_laload 868 0  (e_iload_iload 869 0 7 (e_i2l 871 0  (e_lcmp 872 0  (e_if_eq 873 878 5 (e_psh_iconst 876 0 0 (e_ireturn 877 0 ))))))))))
set_option maxHeartbeats 100000 in
def k389_801 : ex_C := c_aload 1 (c_aload 0 (c_iload 5 (c_psh 1 (c_iadd (c_iaload (c_aload 0 (c_iload 5 (c_psh 2 (c_iadd (c_iaload (c_aload 0 (c_iload 5 (c_psh 3 (c_iadd (c_iaload (c_aload 3 (c_invS [] cd_389 821 5 360 (c_istore 6 (c_aload 2 (c_aload 0 (c_iload 5 (c_psh 1 (c_iadd (c_iaload (c_aload 0 (c_iload 5 (c_psh 2 (c_iadd (c_iaload (c_aload 0 (c_iload 5 (c_psh 3 (c_iadd (c_iaload (c_invV [] cd_389 845 4 201 12 (c_istore 7 (c_aload 2 (c_invV [] cd_389 851 1 178 12 (c_iload 6 (c_icmp_eq 861 (c_psh 0 (c_ireturn  1))))))))))))))))))))))))))))))))))))))))))
set_option maxHeartbeats 100000 in
theorem kE389_801 : ex_CE 1 [] cd_389 k389_801 q389_801 := e_aload_aload_n 801 0 1 1 rfl (e_aload_aload_n 802 0 0 0 rfl (e_iload_iload 803 0 5 (e_psh_iconst 805 1 1 (e_iadd 806 0 (e_iaload 807 0 (e_aload_aload_n 808 0 0 0 rfl (e_iload_iload 809 0 5 (e_psh_iconst 811 2 2 (e_iadd 812 0 (e_iaload 813 0 (e_aload_aload_n 814 0 0 0 rfl (e_iload_iload 815 0 5 (e_psh_iconst 817 3 3 (e_iadd 818 0 (e_iaload 819 0 (e_aload_aload_n 820 0 3 3 rfl (e_invS 821 3088357 186 5 360 rfl rfl rfl (e_istore_istore 824 0 6 (e_aload_aload_n 826 0 2 2 rfl (e_aload_aload_n 827 0 0 0 rfl (e_iload_iload 828 0 5 (e_psh_iconst 830 1 1 (e_iadd 831 0 (e_iaload 832 0 (e_aload_aload_n 833 0 0 0 rfl (e_iload_iload 834 0 5 (e_psh_iconst 836 2 2 (e_iadd 837 0 (e_iaload 838 0 (e_aload_aload_n 839 0 0 0 rfl (e_iload_iload 840 0 5 (e_psh_iconst 842 3 3 (e_iadd 843 0 (e_iaload 844 0 (e_invV_invokevirtual 845 1778052 189 4 201 12 rfl rfl rfl rfl rfl rfl (e_istore_istore 848 0 7 (e_aload_aload_n 850 0 2 2 rfl (e_invV_invokevirtual 851 1589633 160 1 178 12 rfl rfl rfl rfl rfl rfl (e_iload_iload 854 0 6 (e_icmp_eq 856 861 5 (e_psh_iconst 859 0 0 (e_ireturn 860 0 ))))))))))))))))))))))))))))))))))))))))))
set_option maxHeartbeats 100000 in
def k389_798 : ex_C := c_goto 2878
set_option maxHeartbeats 100000 in
theorem kE389_798 : ex_CE 1 [] cd_389 k389_798 q389_798 := e_goto 798 2878 2080
set_option maxHeartbeats 100000 in
def k389_781 : ex_C := c_iload 6 (c_if_ne 798 (c_aload 3 (c_psh 0 (c_laload   (c_iload 7 (c_i2l   (c_lcmp   (c_if_eq 798 (c_psh 0 (c_ireturn  1))))))))))
set_option maxHeartbeats 100000 in
theorem kE389_781 : ex_CE 1 [] cd_389 k389_781 q389_781 := e_iload_iload 781 0 6 (e_if_ne 783 798 15 (e_aload_aload_n 786 0 3 3 rfl (e_psh_iconst 787 0 0 (e_laload 788 0  (e_iload_iload 789 0 7 (e_i2l 791 0  (e_lcmp 792 0  (e_if_eq 793 798 5 (e_psh_iconst 796 0 0 (e_ireturn 797 0 ))))))))))
set_option maxHeartbeats 100000 in
def k389_733 : ex_C := c_aload 1 (c_aload 0 (c_iload 5 (c_psh 1 (c_iadd (c_iaload (c_aload 0 (c_iload 5 (c_psh 2 (c_iadd (c_iaload (c_aload 3 (c_invS [] cd_389 747 4 359 (c_istore 6 (c_aload 2 (c_aload 0 (c_iload 5 (c_psh 1 (c_iadd (c_iaload (c_aload 0 (c_iload 5 (c_psh 2 (c_iadd (c_iaload (c_invV [] cd_389 765 3 200 12 (c_istore 7 (c_aload 2 (c_invV [] cd_389 771 1 178 12 (c_iload 6 (c_icmp_eq 781 (c_psh 0 (c_ireturn  1))))))))))))))))))))))))))))))))
set_option maxHeartbeats 100000 in
theorem kE389_733 : ex_CE 1 [] cd_389 k389_733 q389_733 := e_aload_aload_n 733 0 1 1 rfl (e_aload_aload_n 734 0 0 0 rfl (e_iload_iload 735 0 5 (e_psh_iconst 737 1 1 (e_iadd 738 0 (e_iaload 739 0 (e_aload_aload_n 740 0 0 0 rfl (e_iload_iload 741 0 5 (e_psh_iconst 743 2 2 (e_iadd 744 0 (e_iaload 745 0 (e_aload_aload_n 746 0 3 3 rfl (e_invS 747 3080164 183 4 359 rfl rfl rfl (e_istore_istore 750 0 6 (e_aload_aload_n 752 0 2 2 rfl (e_aload_aload_n 753 0 0 0 rfl (e_iload_iload 754 0 5 (e_psh_iconst 756 1 1 (e_iadd 757 0 (e_iaload 758 0 (e_aload_aload_n 759 0 0 0 rfl (e_iload_iload 760 0 5 (e_psh_iconst 762 2 2 (e_iadd 763 0 (e_iaload 764 0 (e_invV_invokevirtual 765 1769859 185 3 200 12 rfl rfl rfl rfl rfl rfl (e_istore_istore 768 0 7 (e_aload_aload_n 770 0 2 2 rfl (e_invV_invokevirtual 771 1589633 160 1 178 12 rfl rfl rfl rfl rfl rfl (e_iload_iload 774 0 6 (e_icmp_eq 776 781 5 (e_psh_iconst 779 0 0 (e_ireturn 780 0 ))))))))))))))))))))))))))))))))
set_option maxHeartbeats 100000 in
def k389_730 : ex_C := c_goto 2878
set_option maxHeartbeats 100000 in
theorem kE389_730 : ex_CE 1 [] cd_389 k389_730 q389_730 := e_goto 730 2878 2148
set_option maxHeartbeats 100000 in
def k389_713 : ex_C := c_iload 6 (c_if_ne 730 (c_aload 3 (c_psh 0 (c_laload   (c_iload 7 (c_i2l   (c_lcmp   (c_if_eq 730 (c_psh 0 (c_ireturn  1))))))))))
set_option maxHeartbeats 100000 in
theorem kE389_713 : ex_CE 1 [] cd_389 k389_713 q389_713 := e_iload_iload 713 0 6 (e_if_ne 715 730 15 (e_aload_aload_n 718 0 3 3 rfl (e_psh_iconst 719 0 0 (e_laload 720 0  (e_iload_iload 721 0 7 (e_i2l 723 0  (e_lcmp 724 0  (e_if_eq 725 730 5 (e_psh_iconst 728 0 0 (e_ireturn 729 0 ))))))))))
set_option maxHeartbeats 100000 in
def k389_665 : ex_C := c_aload 1 (c_aload 0 (c_iload 5 (c_psh 1 (c_iadd (c_iaload (c_aload 0 (c_iload 5 (c_psh 2 (c_iadd (c_iaload (c_aload 3 (c_invS [] cd_389 679 4 358 (c_istore 6 (c_aload 2 (c_aload 0 (c_iload 5 (c_psh 1 (c_iadd (c_iaload (c_aload 0 (c_iload 5 (c_psh 2 (c_iadd (c_iaload (c_invV [] cd_389 697 3 199 12 (c_istore 7 (c_aload 2 (c_invV [] cd_389 703 1 178 12 (c_iload 6 (c_icmp_eq 713 (c_psh 0 (c_ireturn  1))))))))))))))))))))))))))))))))
set_option maxHeartbeats 100000 in
theorem kE389_665 : ex_CE 1 [] cd_389 k389_665 q389_665 := e_aload_aload_n 665 0 1 1 rfl (e_aload_aload_n 666 0 0 0 rfl (e_iload_iload 667 0 5 (e_psh_iconst 669 1 1 (e_iadd 670 0 (e_iaload 671 0 (e_aload_aload_n 672 0 0 0 rfl (e_iload_iload 673 0 5 (e_psh_iconst 675 2 2 (e_iadd 676 0 (e_iaload 677 0 (e_aload_aload_n 678 0 3 3 rfl (e_invS 679 3071972 180 4 358 rfl rfl rfl (e_istore_istore 682 0 6 (e_aload_aload_n 684 0 2 2 rfl (e_aload_aload_n 685 0 0 0 rfl (e_iload_iload 686 0 5 (e_psh_iconst 688 1 1 (e_iadd 689 0 (e_iaload 690 0 (e_aload_aload_n 691 0 0 0 rfl (e_iload_iload 692 0 5 (e_psh_iconst 694 2 2 (e_iadd 695 0 (e_iaload 696 0 (e_invV_invokevirtual 697 1761667 182 3 199 12 rfl rfl rfl rfl rfl rfl (e_istore_istore 700 0 7 (e_aload_aload_n 702 0 2 2 rfl (e_invV_invokevirtual 703 1589633 160 1 178 12 rfl rfl rfl rfl rfl rfl (e_iload_iload 706 0 6 (e_icmp_eq 708 713 5 (e_psh_iconst 711 0 0 (e_ireturn 712 0 ))))))))))))))))))))))))))))))))
set_option maxHeartbeats 100000 in
def k389_662 : ex_C := c_goto 2878
set_option maxHeartbeats 100000 in
theorem kE389_662 : ex_CE 1 [] cd_389 k389_662 q389_662 := e_goto 662 2878 2216
set_option maxHeartbeats 100000 in
def k389_645 : ex_C := c_iload 6 (c_if_ne 662 (c_aload 3 (c_psh 0 (c_laload   (c_iload 7 (c_i2l   (c_lcmp   (c_if_eq 662 (c_psh 0 (c_ireturn  1))))))))))
set_option maxHeartbeats 100000 in
theorem kE389_645 : ex_CE 1 [] cd_389 k389_645 q389_645 := e_iload_iload 645 0 6 (e_if_ne 647 662 15 (e_aload_aload_n 650 0 3 3 rfl (e_psh_iconst 651 0 0 (e_laload 652 0  (e_iload_iload 653 0 7 (e_i2l 655 0  (e_lcmp 656 0  (e_if_eq 657 662 5 (e_psh_iconst 660 0 0 (e_ireturn 661 0 ))))))))))
set_option maxHeartbeats 100000 in
def k389_609 : ex_C := c_aload 1 (c_aload 0 (c_iload 5 (c_psh 1 (c_iadd (c_iaload (c_aload 3 (c_invS [] cd_389 617 3 357 (c_istore 6 (c_aload 2 (c_aload 0 (c_iload 5 (c_psh 1 (c_iadd (c_iaload (c_invV [] cd_389 629 2 198 12 (c_istore 7 (c_aload 2 (c_invV [] cd_389 635 1 178 12 (c_iload 6 (c_icmp_eq 645 (c_psh 0 (c_ireturn  1))))))))))))))))))))))
set_option maxHeartbeats 100000 in
theorem kE389_609 : ex_CE 1 [] cd_389 k389_609 q389_609 := e_aload_aload_n 609 0 1 1 rfl (e_aload_aload_n 610 0 0 0 rfl (e_iload_iload 611 0 5 (e_psh_iconst 613 1 1 (e_iadd 614 0 (e_iaload 615 0 (e_aload_aload_n 616 0 3 3 rfl (e_invS 617 3063779 177 3 357 rfl rfl rfl (e_istore_istore 620 0 6 (e_aload_aload_n 622 0 2 2 rfl (e_aload_aload_n 623 0 0 0 rfl (e_iload_iload 624 0 5 (e_psh_iconst 626 1 1 (e_iadd 627 0 (e_iaload 628 0 (e_invV_invokevirtual 629 1753474 179 2 198 12 rfl rfl rfl rfl rfl rfl (e_istore_istore 632 0 7 (e_aload_aload_n 634 0 2 2 rfl (e_invV_invokevirtual 635 1589633 160 1 178 12 rfl rfl rfl rfl rfl rfl (e_iload_iload 638 0 6 (e_icmp_eq 640 645 5 (e_psh_iconst 643 0 0 (e_ireturn 644 0 ))))))))))))))))))))))
set_option maxHeartbeats 100000 in
def k389_606 : ex_C := c_goto 2878
set_option maxHeartbeats 100000 in
theorem kE389_606 : ex_CE 1 [] cd_389 k389_606 q389_606 := e_goto 606 2878 2272
set_option maxHeartbeats 100000 in
def k389_589 : ex_C := c_iload 6 (c_if_ne 606 (c_aload 3 (c_psh 0 (c_laload   (c_iload 7 (c_i2l   (c_lcmp   (c_if_eq 606 (c_psh 0 (c_ireturn  1))))))))))
set_option maxHeartbeats 100000 in
theorem kE389_589 : ex_CE 1 [] cd_389 k389_589 q389_589 := e_iload_iload 589 0 6 (e_if_ne 591 606 15 (e_aload_aload_n 594 0 3 3 rfl (e_psh_iconst 595 0 0 (e_laload 596 0  (e_iload_iload 597 0 7 (e_i2l 599 0  (e_lcmp 600 0  (e_if_eq 601 606 5 (e_psh_iconst 604 0 0 (e_ireturn 605 0 ))))))))))
set_option maxHeartbeats 100000 in
def k389_541 : ex_C := c_aload 1 (c_aload 0 (c_iload 5 (c_psh 1 (c_iadd (c_iaload (c_aload 0 (c_iload 5 (c_psh 2 (c_iadd (c_iaload (c_aload 3 (c_invS [] cd_389 555 4 356 (c_istore 6 (c_aload 2 (c_aload 0 (c_iload 5 (c_psh 1 (c_iadd (c_iaload (c_aload 0 (c_iload 5 (c_psh 2 (c_iadd (c_iaload (c_invV [] cd_389 573 3 197 12 (c_istore 7 (c_aload 2 (c_invV [] cd_389 579 1 178 12 (c_iload 6 (c_icmp_eq 589 (c_psh 0 (c_ireturn  1))))))))))))))))))))))))))))))))
set_option maxHeartbeats 100000 in
theorem kE389_541 : ex_CE 1 [] cd_389 k389_541 q389_541 := e_aload_aload_n 541 0 1 1 rfl (e_aload_aload_n 542 0 0 0 rfl (e_iload_iload 543 0 5 (e_psh_iconst 545 1 1 (e_iadd 546 0 (e_iaload 547 0 (e_aload_aload_n 548 0 0 0 rfl (e_iload_iload 549 0 5 (e_psh_iconst 551 2 2 (e_iadd 552 0 (e_iaload 553 0 (e_aload_aload_n 554 0 3 3 rfl (e_invS 555 3055588 173 4 356 rfl rfl rfl (e_istore_istore 558 0 6 (e_aload_aload_n 560 0 2 2 rfl (e_aload_aload_n 561 0 0 0 rfl (e_iload_iload 562 0 5 (e_psh_iconst 564 1 1 (e_iadd 565 0 (e_iaload 566 0 (e_aload_aload_n 567 0 0 0 rfl (e_iload_iload 568 0 5 (e_psh_iconst 570 2 2 (e_iadd 571 0 (e_iaload 572 0 (e_invV_invokevirtual 573 1745283 176 3 197 12 rfl rfl rfl rfl rfl rfl (e_istore_istore 576 0 7 (e_aload_aload_n 578 0 2 2 rfl (e_invV_invokevirtual 579 1589633 160 1 178 12 rfl rfl rfl rfl rfl rfl (e_iload_iload 582 0 6 (e_icmp_eq 584 589 5 (e_psh_iconst 587 0 0 (e_ireturn 588 0 ))))))))))))))))))))))))))))))))
set_option maxHeartbeats 100000 in
def k389_538 : ex_C := c_goto 2878
set_option maxHeartbeats 100000 in
theorem kE389_538 : ex_CE 1 [] cd_389 k389_538 q389_538 := e_goto 538 2878 2340
set_option maxHeartbeats 100000 in
def k389_521 : ex_C := c_iload 6 (c_if_ne 538 (c_aload 3 (c_psh 0 (c_laload   (c_iload 7 (c_i2l   (c_lcmp   (c_if_eq 538 (c_psh 0 (c_ireturn  1))))))))))
set_option maxHeartbeats 100000 in
theorem kE389_521 : ex_CE 1 [] cd_389 k389_521 q389_521 := e_iload_iload 521 0 6 (e_if_ne 523 538 15 (e_aload_aload_n 526 0 3 3 rfl (e_psh_iconst 527 0 0 (e_laload 528 0  (e_iload_iload 529 0 7 (e_i2l 531 0  (e_lcmp 532 0  (e_if_eq 533 538 5 (e_psh_iconst 536 0 0 (e_ireturn 537 0 ))))))))))
set_option maxHeartbeats 100000 in
def k389_449 : ex_C := c_aload 1 (c_aload 0 (c_iload 5 (c_psh 1 (c_iadd (c_iaload (c_aload 0 (c_iload 5 (c_psh 2 (c_iadd (c_iaload (c_aload 0 (c_iload 5 (c_psh 3 (c_iadd (c_iaload (c_aload 0 (c_iload 5 (c_psh 4 (c_iadd (c_iaload (c_aload 3 (c_invS [] cd_389 475 6 355 (c_istore 6 (c_aload 2 (c_aload 0 (c_iload 5 (c_psh 1 (c_iadd (c_iaload (c_aload 0 (c_iload 5 (c_psh 2 (c_iadd (c_iaload (c_aload 0 (c_iload 5 (c_psh 3 (c_iadd (c_iaload (c_aload 0 (c_iload 5 (c_psh 4 (c_iadd (c_iaload (c_invV [] cd_389 505 5 196 12 (c_istore 7 (c_aload 2 (c_invV [] cd_389 511 1 178 12 (c_iload 6 (c_icmp_eq 521 (c_psh 0 (c_ireturn  1))))))))))))))))))))))))))))))))))))))))))))))))))))
set_option maxHeartbeats 100000 in
theorem kE389_449 : ex_CE 1 [] cd_389 k389_449 q389_449 := e_aload_aload_n 449 0 1 1 rfl (e_aload_aload_n 450 0 0 0 rfl (e_iload_iload 451 0 5 (e_psh_iconst 453 1 1 (e_iadd 454 0 (e_iaload 455 0 (e_aload_aload_n 456 0 0 0 rfl (e_iload_iload 457 0 5 (e_psh_iconst 459 2 2 (e_iadd 460 0 (e_iaload 461 0 (e_aload_aload_n 462 0 0 0 rfl (e_iload_iload 463 0 5 (e_psh_iconst 465 3 3 (e_iadd 466 0 (e_iaload 467 0 (e_aload_aload_n 468 0 0 0 rfl (e_iload_iload 469 0 5 (e_psh_iconst 471 4 4 (e_iadd 472 0 (e_iaload 473 0 (e_aload_aload_n 474 0 3 3 rfl (e_invS 475 3047398 169 6 355 rfl rfl rfl (e_istore_istore 478 0 6 (e_aload_aload_n 480 0 2 2 rfl (e_aload_aload_n 481 0 0 0 rfl (e_iload_iload 482 0 5 (e_psh_iconst 484 1 1 (e_iadd 485 0 (e_iaload 486 0 (e_aload_aload_n 487 0 0 0 rfl (e_iload_iload 488 0 5 (e_psh_iconst 490 2 2 (e_iadd 491 0 (e_iaload 492 0 (e_aload_aload_n 493 0 0 0 rfl (e_iload_iload 494 0 5 (e_psh_iconst 496 3 3 (e_iadd 497 0 (e_iaload 498 0 (e_aload_aload_n 499 0 0 0 rfl (e_iload_iload 500 0 5 (e_psh_iconst 502 4 4 (e_iadd 503 0 (e_iaload 504 0 (e_invV_invokevirtual 505 1737093 172 5 196 12 rfl rfl rfl rfl rfl rfl (e_istore_istore 508 0 7 (e_aload_aload_n 510 0 2 2 rfl (e_invV_invokevirtual 511 1589633 160 1 178 12 rfl rfl rfl rfl rfl rfl (e_iload_iload 514 0 6 (e_icmp_eq 516 521 5 (e_psh_iconst 519 0 0 (e_ireturn 520 0 ))))))))))))))))))))))))))))))))))))))))))))))))))))
set_option maxHeartbeats 100000 in
def k389_446 : ex_C := c_goto 2878
set_option maxHeartbeats 100000 in
theorem kE389_446 : ex_CE 1 [] cd_389 k389_446 q389_446 := e_goto 446 2878 2432
set_option maxHeartbeats 100000 in
def k389_429 : ex_C := c_iload 6 (c_if_ne 446 (c_aload 3 (c_psh 0 (c_laload   (c_iload 7 (c_i2l   (c_lcmp   (c_if_eq 446 (c_psh 0 (c_ireturn  1))))))))))
set_option maxHeartbeats 100000 in
theorem kE389_429 : ex_CE 1 [] cd_389 k389_429 q389_429 := e_iload_iload 429 0 6 (e_if_ne 431 446 15 (e_aload_aload_n 434 0 3 3 rfl (e_psh_iconst 435 0 0 (e_laload 436 0  (e_iload_iload 437 0 7 (e_i2l 439 0  (e_lcmp 440 0  (e_if_eq 441 446 5 (e_psh_iconst 444 0 0 (e_ireturn 445 0 ))))))))))
set_option maxHeartbeats 100000 in
def k389_393 : ex_C := c_aload 1 (c_aload 0 (c_iload 5 (c_psh 1 (c_iadd (c_iaload (c_aload 3 (c_invS [] cd_389 401 3 354 (c_istore 6 (c_aload 2 (c_aload 0 (c_iload 5 (c_psh 1 (c_iadd (c_iaload (c_invV [] cd_389 413 2 193 12 (c_istore 7 (c_aload 2 (c_invV [] cd_389 419 1 178 12 (c_iload 6 (c_icmp_eq 429 (c_psh 0 (c_ireturn  1))))))))))))))))))))))
set_option maxHeartbeats 100000 in
theorem kE389_393 : ex_CE 1 [] cd_389 k389_393 q389_393 := e_aload_aload_n 393 0 1 1 rfl (e_aload_aload_n 394 0 0 0 rfl (e_iload_iload 395 0 5 (e_psh_iconst 397 1 1 (e_iadd 398 0 (e_iaload 399 0 (e_aload_aload_n 400 0 3 3 rfl (e_invS 401 3039203 166 3 354 rfl rfl rfl (e_istore_istore 404 0 6 (e_aload_aload_n 406 0 2 2 rfl (e_aload_aload_n 407 0 0 0 rfl (e_iload_iload 408 0 5 (e_psh_iconst 410 1 1 (e_iadd 411 0 (e_iaload 412 0 (e_invV_invokevirtual 413 1712514 168 2 193 12 rfl rfl rfl rfl rfl rfl (e_istore_istore 416 0 7 (e_aload_aload_n 418 0 2 2 rfl (e_invV_invokevirtual 419 1589633 160 1 178 12 rfl rfl rfl rfl rfl rfl (e_iload_iload 422 0 6 (e_icmp_eq 424 429 5 (e_psh_iconst 427 0 0 (e_ireturn 428 0 ))))))))))))))))))))))
set_option maxHeartbeats 100000 in
def k389_390 : ex_C := c_goto 2878
set_option maxHeartbeats 100000 in
theorem kE389_390 : ex_CE 1 [] cd_389 k389_390 q389_390 := e_goto 390 2878 2488
set_option maxHeartbeats 100000 in
def k389_373 : ex_C := c_iload 6 (c_if_ne 390 (c_aload 3 (c_psh 0 (c_laload   (c_iload 7 (c_i2l   (c_lcmp   (c_if_eq 390 (c_psh 0 (c_ireturn  1))))))))))
set_option maxHeartbeats 100000 in
theorem kE389_373 : ex_CE 1 [] cd_389 k389_373 q389_373 := e_iload_iload 373 0 6 (e_if_ne 375 390 15 (e_aload_aload_n 378 0 3 3 rfl (e_psh_iconst 379 0 0 (e_laload 380 0  (e_iload_iload 381 0 7 (e_i2l 383 0  (e_lcmp 384 0  (e_if_eq 385 390 5 (e_psh_iconst 388 0 0 (e_ireturn 389 0 ))))))))))
set_option maxHeartbeats 100000 in
def k389_337 : ex_C := c_aload 1 (c_aload 0 (c_iload 5 (c_psh 1 (c_iadd (c_iaload (c_aload 3 (c_invS [] cd_389 345 3 353 (c_istore 6 (c_aload 2 (c_aload 0 (c_iload 5 (c_psh 1 (c_iadd (c_iaload (c_invV [] cd_389 357 2 192 12 (c_istore 7 (c_aload 2 (c_invV [] cd_389 363 1 178 12 (c_iload 6 (c_icmp_eq 373 (c_psh 0 (c_ireturn  1))))))))))))))))))))))
set_option maxHeartbeats 100000 in
theorem kE389_337 : ex_CE 1 [] cd_389 k389_337 q389_337 := e_aload_aload_n 337 0 1 1 rfl (e_aload_aload_n 338 0 0 0 rfl (e_iload_iload 339 0 5 (e_psh_iconst 341 1 1 (e_iadd 342 0 (e_iaload 343 0 (e_aload_aload_n 344 0 3 3 rfl (e_invS 345 3031011 163 3 353 rfl rfl rfl (e_istore_istore 348 0 6 (e_aload_aload_n 350 0 2 2 rfl (e_aload_aload_n 351 0 0 0 rfl (e_iload_iload 352 0 5 (e_psh_iconst 354 1 1 (e_iadd 355 0 (e_iaload 356 0 (e_invV_invokevirtual 357 1704322 165 2 192 12 rfl rfl rfl rfl rfl rfl (e_istore_istore 360 0 7 (e_aload_aload_n 362 0 2 2 rfl (e_invV_invokevirtual 363 1589633 160 1 178 12 rfl rfl rfl rfl rfl rfl (e_iload_iload 366 0 6 (e_icmp_eq 368 373 5 (e_psh_iconst 371 0 0 (e_ireturn 372 0 ))))))))))))))))))))))
set_option maxHeartbeats 100000 in
def k389_334 : ex_C := c_goto 2878
set_option maxHeartbeats 100000 in
theorem kE389_334 : ex_CE 1 [] cd_389 k389_334 q389_334 := e_goto 334 2878 2544
set_option maxHeartbeats 100000 in
def k389_317 : ex_C := c_iload 6 (c_if_ne 334 (c_aload 3 (c_psh 0 (c_laload   (c_iload 7 (c_i2l   (c_lcmp   (c_if_eq 334 (c_psh 0 (c_ireturn  1))))))))))
set_option maxHeartbeats 100000 in
theorem kE389_317 : ex_CE 1 [] cd_389 k389_317 q389_317 := e_iload_iload 317 0 6 (e_if_ne 319 334 15 (e_aload_aload_n 322 0 3 3 rfl (e_psh_iconst 323 0 0 (e_laload 324 0  (e_iload_iload 325 0 7 (e_i2l 327 0  (e_lcmp 328 0  (e_if_eq 329 334 5 (e_psh_iconst 332 0 0 (e_ireturn 333 0 ))))))))))
set_option maxHeartbeats 100000 in
def k389_281 : ex_C := c_aload 1 (c_aload 0 (c_iload 5 (c_psh 1 (c_iadd (c_iaload (c_aload 3 (c_invS [] cd_389 289 3 352 (c_istore 6 (c_aload 2 (c_aload 0 (c_iload 5 (c_psh 1 (c_iadd (c_iaload (c_invV [] cd_389 301 2 191 12 (c_istore 7 (c_aload 2 (c_invV [] cd_389 307 1 178 12 (c_iload 6 (c_icmp_eq 317 (c_psh 0 (c_ireturn  1))))))))))))))))))))))
set_option maxHeartbeats 100000 in
theorem kE389_281 : ex_CE 1 [] cd_389 k389_281 q389_281 := e_aload_aload_n 281 0 1 1 rfl (e_aload_aload_n 282 0 0 0 rfl (e_iload_iload 283 0 5 (e_psh_iconst 285 1 1 (e_iadd 286 0 (e_iaload 287 0 (e_aload_aload_n 288 0 3 3 rfl (e_invS 289 3022819 154 3 352 rfl rfl rfl (e_istore_istore 292 0 6 (e_aload_aload_n 294 0 2 2 rfl (e_aload_aload_n 295 0 0 0 rfl (e_iload_iload 296 0 5 (e_psh_iconst 298 1 1 (e_iadd 299 0 (e_iaload 300 0 (e_invV_invokevirtual 301 1696130 159 2 191 12 rfl rfl rfl rfl rfl rfl (e_istore_istore 304 0 7 (e_aload_aload_n 306 0 2 2 rfl (e_invV_invokevirtual 307 1589633 160 1 178 12 rfl rfl rfl rfl rfl rfl (e_iload_iload 310 0 6 (e_icmp_eq 312 317 5 (e_psh_iconst 315 0 0 (e_ireturn 316 0 ))))))))))))))))))))))
set_option maxHeartbeats 100000 in
def k389_268 : ex_C := c_aload 1 (c_invV [] cd_389 269 1 95 0 (c_aload 2 (c_invV [] cd_389 273 1 190 12 (c_icmp_eq 2878 (c_psh 0 (c_ireturn  1))))))
set_option maxHeartbeats 100000 in
theorem kE389_268 : ex_CE 1 [] cd_389 k389_268 q389_268 := e_aload_aload_n 268 0 1 1 rfl (e_invV_invokevirtual 269 909313 150 1 95 0 rfl rfl rfl rfl rfl rfl (e_aload_aload_n 272 0 2 2 rfl (e_invV_invokevirtual 273 1687937 153 1 190 12 rfl rfl rfl rfl rfl rfl (e_icmp_eq 276 2878 2602 (e_psh_iconst 279 0 0 (e_ireturn 280 0 ))))))
set_option maxHeartbeats 100000 in
def k389_28 : ex_C := c_iload 5 (c_aload 0 (c_arraylength   (c_psh 6 (c_isub (c_icmp_gt 2884 (c_aload 0 (c_iload 5 (c_iaload (c_psh 63 (c_iand (c_tableswitch 2833 0 51 #[223, 236, 292, 348, 404, 496, 564, 620, 688, 756, 836, 849, 905, 961, 1073, 1131, 1213, 1271, 1329, 1387, 1497, 1541, 1554, 1567, 1611, 1704, 1748, 1761, 1817, 1894, 1990, 2046, 2059, 2117, 2130, 2143, 2199, 2212, 2225, 2281, 2337, 2393, 2406, 2450, 2463, 2519, 2563, 2631, 2699, 2713, 2779, 2820] 480745536275710185188474374897562048059795129231570043348753262078690297990809039155082463967795953322608420320007917735914934906046346800743412503518524106605519176466791696180270325690243511641117901569955073020930292838766908251954317379129235640983978089582869456442254618271786140891082437749667350908375677507054844586118233978001129625128832571674877197891595731889654095998279621512342006894302937618214526317838655703315935667544367985200557832416450338779913356289786341533687277278306711148176440195215423470763483632729333133049172012515447604917480359944482552844732324595633511025599752553259929658914029592938700351944918380176521474083646)))))))))))
set_option maxHeartbeats 100000 in
theorem kE389_28 : ex_CE 1 [] cd_389 k389_28 q389_28 := e_iload_iload 28 0 5 (e_aload_aload_n 30 0 0 0 rfl (e_arraylength 31 0  (e_psh_bipush 32 6 6 (e_isub 34 0 (e_icmp_gt 35 2884 2849 (e_aload_aload_n 38 0 0 0 rfl (e_iload_iload 39 0 5 (e_iaload 41 0 (e_psh_bipush 42 63 63 (e_iand 44 0 (e_tableswitch 45 480745536275710185188474374897562048059795129231570043348753262078690297990809039155082463967795953322608420320007917735914934906046346800743412503518524106605519176466791696180270325690243511641117901569955073020930292838766908251954317379129235640983978089582869456442254618271786140891082437749667350908375677507054844586118233978001129625128832571674877197891595731889654095998279621512342006894302937618214526317838655703315935667544367985200557832416450338779913356289786341533687277278306711148176440195215423470763483632729333133049172012515447604917480359944482552844732324595633511025599752553259929658914029592938700351944918380176521474083646 2833 0 51 #[223, 236, 292, 348, 404, 496, 564, 620, 688, 756, 836, 849, 905, 961, 1073, 1131, 1213, 1271, 1329, 1387, 1497, 1541, 1554, 1567, 1611, 1704, 1748, 1761, 1817, 1894, 1990, 2046, 2059, 2117, 2130, 2143, 2199, 2212, 2225, 2281, 2337, 2393, 2406, 2450, 2463, 2519, 2563, 2631, 2699, 2713, 2779, 2820])))))))))))
set_option maxHeartbeats 100000 in
def k389_0 : ex_C := c_newo 19595533242647191781454004514724566450794478804541099277511875405477475196136147608352725256010085123745495662259283085781850675250584309923053400425954493913961915178202681080957752268091229414029792000 19 (c_dup   (c_invP [] cd_389 4 1 94 (c_astore 1 (c_newo 143665816004468486008764548731669818382705318904983302159246383473455311831306853374189041481260941631624062589087819835678304541024228151320343530742404553129580605154361297593075887328467396819306271657507142751529439895102375081218921164255049185845987984868366613022388139561877561974280325258556959831385696291735571934211851604511523100047736769080328778317581505387896084944914832092375449897302357535678879096808427306911312944065184759963642243084 40 (c_dup   (c_invP [] cd_389 12 1 177 (c_astore 2 (c_psh 1 (c_newarr 67 412316860416 (c_astore 3 (c_psh 1 (c_newarr 68 34359738369 (c_astore 4 (c_psh 0 (c_istore 5 (k389_28))))))))))))))))
set_option maxHeartbeats 100000 in
theorem kE389_0 : ex_CE 1 [] cd_389 k389_0 q389_0 := e_newo 0 0 8 19595533242647191781454004514724566450794478804541099277511875405477475196136147608352725256010085123745495662259283085781850675250584309923053400425954493913961915178202681080957752268091229414029792000 19 rfl rfl rfl (e_dup 3 0  (e_invP 4 909249 146 1 94 rfl rfl rfl rfl (e_astore_astore_n 7 0 1 1 rfl (e_newo 8 12 147 143665816004468486008764548731669818382705318904983302159246383473455311831306853374189041481260941631624062589087819835678304541024228151320343530742404553129580605154361297593075887328467396819306271657507142751529439895102375081218921164255049185845987984868366613022388139561877561974280325258556959831385696291735571934211851604511523100047736769080328778317581505387896084944914832092375449897302357535678879096808427306911312944065184759963642243084 40 rfl rfl rfl (e_dup 11 0  (e_invP 12 1589185 149 1 177 rfl rfl rfl rfl (e_astore_astore_n 15 0 2 2 rfl (e_psh_iconst 16 1 1 (e_newarr 17 67 412316860416 rfl (e_astore_astore_n 19 0 3 3 rfl (e_psh_iconst 20 1 1 (e_newarr 21 68 34359738369 rfl (e_astore_astore 23 0 4 (e_psh_iconst 25 0 0 (e_istore_istore 26 0 5 (kE389_28))))))))))))))))
def kt_389 : Nat → Option ex_C := fun pc => @Bool.rec (fun _ => Nat → Option ex_C) (fun pc => @Bool.rec (fun _ => Nat → Option ex_C) (fun pc => @Bool.rec (fun _ => Nat → Option ex_C) (fun pc => @Bool.rec (fun _ => Nat → Option ex_C) (fun pc => @Bool.rec (fun _ => Nat → Option ex_C) (fun pc => @Bool.rec (fun _ => Nat → Option ex_C) (fun pc => @Bool.rec (fun _ => Nat → Option ex_C) (fun pc => @Bool.rec (fun _ => Nat → Option ex_C) (fun pc => @Bool.rec (fun _ => Option ex_C) none (some k389_2884) (Nat.beq pc 2884)) (fun pc => @Bool.rec (fun _ => Option ex_C) none (some k389_2878) (Nat.beq pc 2878)) (Nat.ble pc 2878) pc) (fun pc => @Bool.rec (fun _ => Option ex_C) none (some k389_2865) (Nat.beq pc 2865)) (Nat.ble pc 2865) pc) (fun pc => @Bool.rec (fun _ => Nat → Option ex_C) (fun pc => @Bool.rec (fun _ => Option ex_C) none (some k389_2862) (Nat.beq pc 2862)) (fun pc => @Bool.rec (fun _ => Option ex_C) none (some k389_2860) (Nat.beq pc 2860)) (Nat.ble pc 2860) pc) (Nat.ble pc 2862) pc) (fun pc => @Bool.rec (fun _ => Nat → Option ex_C) (fun pc => @Bool.rec (fun _ => Nat → Option ex_C) (fun pc => @Bool.rec (fun _ => Option ex_C) none (some k389_2824) (Nat.beq pc 2824)) (fun pc => @Bool.rec (fun _ => Option ex_C) none (some k389_2821) (Nat.beq pc 2821)) (Nat.ble pc 2821) pc) (fun pc => @Bool.rec (fun _ => Nat → Option ex_C) (fun pc => @Bool.rec (fun _ => Option ex_C) none (some k389_2819) (Nat.beq pc 2819)) (fun pc => @Bool.rec (fun _ => Option ex_C) none (some k389_2783) (Nat.beq pc 2783)) (Nat.ble pc 2783) pc) (Nat.ble pc 2819) pc) (Nat.ble pc 2824) pc) (fun pc => @Bool.rec (fun _ => Nat → Option ex_C) (fun pc => @Bool.rec (fun _ => Nat → Option ex_C) (fun pc => @Bool.rec (fun _ => Nat → Option ex_C) (fun pc => @Bool.rec (fun _ => Nat → Option ex_C) (fun pc => @Bool.rec (fun _ => Option ex_C) none (some k389_2758) (Nat.beq pc 2758)) (fun pc => @Bool.rec (fun _ => Option ex_C) none (some k389_2744) (Nat.beq pc 2744)) (Nat.ble pc 2744) pc) (fun pc => @Bool.rec (fun _ => Option ex_C) none (some k389_2741) (Nat.beq pc 2741)) (Nat.ble pc 2741) pc) (fun pc => @Bool.rec (fun _ => Nat → Option ex_C) (fun pc => @Bool.rec (fun _ => Option ex_C) none (some k389_2724) (Nat.beq pc 2724)) (fun pc => @Bool.rec (fun _ => Option ex_C) none (some k389_2676) (Nat.beq pc 2676)) (Nat.ble pc 2676) pc) (Nat.ble pc 2724) pc) (fun pc => @Bool.rec (fun _ => Nat → Option ex_C) (fun pc => @Bool.rec (fun _ => Nat → Option ex_C) (fun pc => @Bool.rec (fun _ => Option ex_C) none (some k389_2673) (Nat.beq pc 2673)) (fun pc => @Bool.rec (fun _ => Option ex_C) none (some k389_2656) (Nat.beq pc 2656)) (Nat.ble pc 2656) pc) (fun pc => @Bool.rec (fun _ => Nat → Option ex_C) (fun pc => @Bool.rec (fun _ => Option ex_C) none (some k389_2608) (Nat.beq pc 2608)) (fun pc => @Bool.rec (fun _ => Option ex_C) none (some k389_2605) (Nat.beq pc 2605)) (Nat.ble pc 2605) pc) (Nat.ble pc 2608) pc) (Nat.ble pc 2673) pc) (Nat.ble pc 2758) pc) (fun pc => @Bool.rec (fun _ => Nat → Option ex_C) (fun pc => @Bool.rec (fun _ => Nat → Option ex_C) (fun pc => @Bool.rec (fun _ => Nat → Option ex_C) (fun pc => @Bool.rec (fun _ => Nat → Option ex_C) (fun pc => @Bool.rec (fun _ => Nat → Option ex_C) (fun pc => @Bool.rec (fun _ => Option ex_C) none (some k389_2588) (Nat.beq pc 2588)) (fun pc => @Bool.rec (fun _ => Option ex_C) none (some k389_2564) (Nat.beq pc 2564)) (Nat.ble pc 2564) pc) (fun pc => @Bool.rec (fun _ => Option ex_C) none (some k389_2561) (Nat.beq pc 2561)) (Nat.ble pc 2561) pc) (fun pc => @Bool.rec (fun _ => Nat → Option ex_C) (fun pc => @Bool.rec (fun _ => Option ex_C) none (some k389_2544) (Nat.beq pc 2544)) (fun pc => @Bool.rec (fun _ => Option ex_C) none (some k389_2508) (Nat.beq pc 2508)) (Nat.ble pc 2508) pc) (Nat.ble pc 2544) pc) (fun pc => @Bool.rec (fun _ => Nat → Option ex_C) (fun pc => @Bool.rec (fun _ => Nat → Option ex_C) (fun pc => @Bool.rec (fun _ => Option ex_C) none (some k389_2495) (Nat.beq pc 2495)) (fun pc => @Bool.rec (fun _ => Option ex_C) none (some k389_2492) (Nat.beq pc 2492)) (Nat.ble pc 2492) pc) (fun pc => @Bool.rec (fun _ => Nat → Option ex_C) (fun pc => @Bool.rec (fun _ => Option ex_C) none (some k389_2475) (Nat.beq pc 2475)) (fun pc => @Bool.rec (fun _ => Option ex_C) none (some k389_2451) (Nat.beq pc 2451)) (Nat.ble pc 2451) pc) (Nat.ble pc 2475) pc) (Nat.ble pc 2495) pc) (fun pc => @Bool.rec (fun _ => Nat → Option ex_C) (fun pc => @Bool.rec (fun _ => Nat → Option ex_C) (fun pc => @Bool.rec (fun _ => Nat → Option ex_C) (fun pc => @Bool.rec (fun _ => Nat → Option ex_C) (fun pc => @Bool.rec (fun _ => Option ex_C) none (some k389_2438) (Nat.beq pc 2438)) (fun pc => @Bool.rec (fun _ => Option ex_C) none (some k389_2435) (Nat.beq pc 2435)) (Nat.ble pc 2435) pc) (fun pc => @Bool.rec (fun _ => Option ex_C) none (some k389_2418) (Nat.beq pc 2418)) (Nat.ble pc 2418) pc) (fun pc => @Bool.rec (fun _ => Nat → Option ex_C) (fun pc => @Bool.rec (fun _ => Option ex_C) none (some k389_2382) (Nat.beq pc 2382)) (fun pc => @Bool.rec (fun _ => Option ex_C) none (some k389_2379) (Nat.beq pc 2379)) (Nat.ble pc 2379) pc) (Nat.ble pc 2382) pc) (fun pc => @Bool.rec (fun _ => Nat → Option ex_C) (fun pc => @Bool.rec (fun _ => Nat → Option ex_C) (fun pc => @Bool.rec (fun _ => Option ex_C) none (some k389_2362) (Nat.beq pc 2362)) (fun pc => @Bool.rec (fun _ => Option ex_C) none (some k389_2326) (Nat.beq pc 2326)) (Nat.ble pc 2326) pc) (fun pc => @Bool.rec (fun _ => Nat → Option ex_C) (fun pc => @Bool.rec (fun _ => Option ex_C) none (some k389_2323) (Nat.beq pc 2323)) (fun pc => @Bool.rec (fun _ => Option ex_C) none (some k389_2306) (Nat.beq pc 2306)) (Nat.ble pc 2306) pc) (Nat.ble pc 2323) pc) (Nat.ble pc 2362) pc) (Nat.ble pc 2438) pc) (Nat.ble pc 2588) pc) (fun pc => @Bool.rec (fun _ => Nat → Option ex_C) (fun pc => @Bool.rec (fun _ => Nat → Option ex_C) (fun pc => @Bool.rec (fun _ => Nat → Option ex_C) (fun pc => @Bool.rec (fun _ => Nat → Option ex_C) (fun pc => @Bool.rec (fun _ => Nat → Option ex_C) (fun pc => @Bool.rec (fun _ => Nat → Option ex_C) (fun pc => @Bool.rec (fun _ => Option ex_C) none (some k389_2270) (Nat.beq pc 2270)) (fun pc => @Bool.rec (fun _ => Option ex_C) none (some k389_2257) (Nat.beq pc 2257)) (Nat.ble pc 2257) pc) (fun pc => @Bool.rec (fun _ => Option ex_C) none (some k389_2244) (Nat.beq pc 2244)) (Nat.ble pc 2244) pc) (fun pc => @Bool.rec (fun _ => Nat → Option ex_C) (fun pc => @Bool.rec (fun _ => Option ex_C) none (some k389_2241) (Nat.beq pc 2241)) (fun pc => @Bool.rec (fun _ => Option ex_C) none (some k389_2224) (Nat.beq pc 2224)) (Nat.ble pc 2224) pc) (Nat.ble pc 2241) pc) (fun pc => @Bool.rec (fun _ => Nat → Option ex_C) (fun pc => @Bool.rec (fun _ => Nat → Option ex_C) (fun pc => @Bool.rec (fun _ => Option ex_C) none (some k389_2188) (Nat.beq pc 2188)) (fun pc => @Bool.rec (fun _ => Option ex_C) none (some k389_2175) (Nat.beq pc 2175)) (Nat.ble pc 2175) pc) (fun pc => @Bool.rec (fun _ => Nat → Option ex_C) (fun pc => @Bool.rec (fun _ => Option ex_C) none (some k389_2162) (Nat.beq pc 2162)) (fun pc => @Bool.rec (fun _ => Option ex_C) none (some k389_2159) (Nat.beq pc 2159)) (Nat.ble pc 2159) pc) (Nat.ble pc 2162) pc) (Nat.ble pc 2188) pc) (fun pc => @Bool.rec (fun _ => Nat → Option ex_C) (fun pc => @Bool.rec (fun _ => Nat → Option ex_C) (fun pc => @Bool.rec (fun _ => Nat → Option ex_C) (fun pc => @Bool.rec (fun _ => Nat → Option ex_C) (fun pc => @Bool.rec (fun _ => Option ex_C) none (some k389_2142) (Nat.beq pc 2142)) (fun pc => @Bool.rec (fun _ => Option ex_C) none (some k389_2104) (Nat.beq pc 2104)) (Nat.ble pc 2104) pc) (fun pc => @Bool.rec (fun _ => Option ex_C) none (some k389_2091) (Nat.beq pc 2091)) (Nat.ble pc 2091) pc) (fun pc => @Bool.rec (fun _ => Nat → Option ex_C) (fun pc => @Bool.rec (fun _ => Option ex_C) none (some k389_2088) (Nat.beq pc 2088)) (fun pc => @Bool.rec (fun _ => Option ex_C) none (some k389_2071) (Nat.beq pc 2071)) (Nat.ble pc 2071) pc) (Nat.ble pc 2088) pc) (fun pc => @Bool.rec (fun _ => Nat → Option ex_C) (fun pc => @Bool.rec (fun _ => Nat → Option ex_C) (fun pc => @Bool.rec (fun _ => Option ex_C) none (some k389_2035) (Nat.beq pc 2035)) (fun pc => @Bool.rec (fun _ => Option ex_C) none (some k389_2032) (Nat.beq pc 2032)) (Nat.ble pc 2032) pc) (fun pc => @Bool.rec (fun _ => Nat → Option ex_C) (fun pc => @Bool.rec (fun _ => Option ex_C) none (some k389_2015) (Nat.beq pc 2015)) (fun pc => @Bool.rec (fun _ => Option ex_C) none (some k389_1993) (Nat.beq pc 1993)) (Nat.ble pc 1993) pc) (Nat.ble pc 2015) pc) (Nat.ble pc 2035) pc) (Nat.ble pc 2142) pc) (fun pc => @Bool.rec (fun _ => Nat → Option ex_C) (fun pc => @Bool.rec (fun _ => Nat → Option ex_C) (fun pc => @Bool.rec (fun _ => Nat → Option ex_C) (fun pc => @Bool.rec (fun _ => Nat → Option ex_C) (fun pc => @Bool.rec (fun _ => Nat → Option ex_C) (fun pc => @Bool.rec (fun _ => Option ex_C) none (some k389_1992) (Nat.beq pc 1992)) (fun pc => @Bool.rec (fun _ => Option ex_C) none (some k389_1960) (Nat.beq pc 1960)) (Nat.ble pc 1960) pc) (fun pc => @Bool.rec (fun _ => Option ex_C) none (some k389_1959) (Nat.beq pc 1959)) (Nat.ble pc 1959) pc) (fun pc => @Bool.rec (fun _ => Nat → Option ex_C) (fun pc => @Bool.rec (fun _ => Option ex_C) none (some k389_1939) (Nat.beq pc 1939)) (fun pc => @Bool.rec (fun _ => Option ex_C) none (some k389_1936) (Nat.beq pc 1936)) (Nat.ble pc 1936) pc) (Nat.ble pc 1939) pc) (fun pc => @Bool.rec (fun _ => Nat → Option ex_C) (fun pc => @Bool.rec (fun _ => Nat → Option ex_C) (fun pc => @Bool.rec (fun _ => Option ex_C) none (some k389_1930) (Nat.beq pc 1930)) (fun pc => @Bool.rec (fun _ => Option ex_C) none (some k389_1929) (Nat.beq pc 1929)) (Nat.ble pc 1929) pc) (fun pc => @Bool.rec (fun _ => Nat → Option ex_C) (fun pc => @Bool.rec (fun _ => Option ex_C) none (some k389_1912) (Nat.beq pc 1912)) (fun pc => @Bool.rec (fun _ => Option ex_C) none (some k389_1862) (Nat.beq pc 1862)) (Nat.ble pc 1862) pc) (Nat.ble pc 1912) pc) (Nat.ble pc 1930) pc) (fun pc => @Bool.rec (fun _ => Nat → Option ex_C) (fun pc => @Bool.rec (fun _ => Nat → Option ex_C) (fun pc => @Bool.rec (fun _ => Nat → Option ex_C) (fun pc => @Bool.rec (fun _ => Option ex_C) none (some k389_1859) (Nat.beq pc 1859)) (fun pc => @Bool.rec (fun _ => Option ex_C) none (some k389_1842) (Nat.beq pc 1842)) (Nat.ble pc 1842) pc) (fun pc => @Bool.rec (fun _ => Nat → Option ex_C) (fun pc => @Bool.rec (fun _ => Option ex_C) none (some k389_1806) (Nat.beq pc 1806)) (fun pc => @Bool.rec (fun _ => Option ex_C) none (some k389_1793) (Nat.beq pc 1793)) (Nat.ble pc 1793) pc) (Nat.ble pc 1806) pc) (fun pc => @Bool.rec (fun _ => Nat → Option ex_C) (fun pc => @Bool.rec (fun _ => Nat → Option ex_C) (fun pc => @Bool.rec (fun _ => Option ex_C) none (some k389_1790) (Nat.beq pc 1790)) (fun pc => @Bool.rec (fun _ => Option ex_C) none (some k389_1773) (Nat.beq pc 1773)) (Nat.ble pc 1773) pc) (fun pc => @Bool.rec (fun _ => Nat → Option ex_C) (fun pc => @Bool.rec (fun _ => Option ex_C) none (some k389_1749) (Nat.beq pc 1749)) (fun pc => @Bool.rec (fun _ => Option ex_C) none (some k389_1746) (Nat.beq pc 1746)) (Nat.ble pc 1746) pc) (Nat.ble pc 1749) pc) (Nat.ble pc 1790) pc) (Nat.ble pc 1859) pc) (Nat.ble pc 1992) pc) (Nat.ble pc 2270) pc) (fun pc => @Bool.rec (fun _ => Nat → Option ex_C) (fun pc => @Bool.rec (fun _ => Nat → Option ex_C) (fun pc => @Bool.rec (fun _ => Nat → Option ex_C) (fun pc => @Bool.rec (fun _ => Nat → Option ex_C) (fun pc => @Bool.rec (fun _ => Nat → Option ex_C) (fun pc => @Bool.rec (fun _ => Nat → Option ex_C) (fun pc => @Bool.rec (fun _ => Nat → Option ex_C) (fun pc => @Bool.rec (fun _ => Option ex_C) none (some k389_1740) (Nat.beq pc 1740)) (fun pc => @Bool.rec (fun _ => Option ex_C) none (some k389_1739) (Nat.beq pc 1739)) (Nat.ble pc 1739) pc) (fun pc => @Bool.rec (fun _ => Option ex_C) none (some k389_1722) (Nat.beq pc 1722)) (Nat.ble pc 1722) pc) (fun pc => @Bool.rec (fun _ => Nat → Option ex_C) (fun pc => @Bool.rec (fun _ => Option ex_C) none (some k389_1656) (Nat.beq pc 1656)) (fun pc => @Bool.rec (fun _ => Option ex_C) none (some k389_1653) (Nat.beq pc 1653)) (Nat.ble pc 1653) pc) (Nat.ble pc 1656) pc) (fun pc => @Bool.rec (fun _ => Nat → Option ex_C) (fun pc => @Bool.rec (fun _ => Nat → Option ex_C) (fun pc => @Bool.rec (fun _ => Option ex_C) none (some k389_1636) (Nat.beq pc 1636)) (fun pc => @Bool.rec (fun _ => Option ex_C) none (some k389_1612) (Nat.beq pc 1612)) (Nat.ble pc 1612) pc) (fun pc => @Bool.rec (fun _ => Nat → Option ex_C) (fun pc => @Bool.rec (fun _ => Option ex_C) none (some k389_1599) (Nat.beq pc 1599)) (fun pc => @Bool.rec (fun _ => Option ex_C) none (some k389_1586) (Nat.beq pc 1586)) (Nat.ble pc 1586) pc) (Nat.ble pc 1599) pc) (Nat.ble pc 1636) pc) (fun pc => @Bool.rec (fun _ => Nat → Option ex_C) (fun pc => @Bool.rec (fun _ => Nat → Option ex_C) (fun pc => @Bool.rec (fun _ => Nat → Option ex_C) (fun pc => @Bool.rec (fun _ => Nat → Option ex_C) (fun pc => @Bool.rec (fun _ => Option ex_C) none (some k389_1583) (Nat.beq pc 1583)) (fun pc => @Bool.rec (fun _ => Option ex_C) none (some k389_1566) (Nat.beq pc 1566)) (Nat.ble pc 1566) pc) (fun pc => @Bool.rec (fun _ => Option ex_C) none (some k389_1542) (Nat.beq pc 1542)) (Nat.ble pc 1542) pc) (fun pc => @Bool.rec (fun _ => Nat → Option ex_C) (fun pc => @Bool.rec (fun _ => Option ex_C) none (some k389_1539) (Nat.beq pc 1539)) (fun pc => @Bool.rec (fun _ => Option ex_C) none (some k389_1522) (Nat.beq pc 1522)) (Nat.ble pc 1522) pc) (Nat.ble pc 1539) pc) (fun pc => @Bool.rec (fun _ => Nat → Option ex_C) (fun pc => @Bool.rec (fun _ => Nat → Option ex_C) (fun pc => @Bool.rec (fun _ => Option ex_C) none (some k389_1432) (Nat.beq pc 1432)) (fun pc => @Bool.rec (fun _ => Option ex_C) none (some k389_1429) (Nat.beq pc 1429)) (Nat.ble pc 1429) pc) (fun pc => @Bool.rec (fun _ => Nat → Option ex_C) (fun pc => @Bool.rec (fun _ => Option ex_C) none (some k389_1412) (Nat.beq pc 1412)) (fun pc => @Bool.rec (fun _ => Option ex_C) none (some k389_1374) (Nat.beq pc 1374)) (Nat.ble pc 1374) pc) (Nat.ble pc 1412) pc) (Nat.ble pc 1432) pc) (Nat.ble pc 1583) pc) (fun pc => @Bool.rec (fun _ => Nat → Option ex_C) (fun pc => @Bool.rec (fun _ => Nat → Option ex_C) (fun pc => @Bool.rec (fun _ => Nat → Option ex_C) (fun pc => @Bool.rec (fun _ => Nat → Option ex_C) (fun pc => @Bool.rec (fun _ => Nat → Option ex_C) (fun pc => @Bool.rec (fun _ => Option ex_C) none (some k389_1371) (Nat.beq pc 1371)) (fun pc => @Bool.rec (fun _ => Option ex_C) none (some k389_1354) (Nat.beq pc 1354)) (Nat.ble pc 1354) pc) (fun pc => @Bool.rec (fun _ => Option ex_C) none (some k389_1316) (Nat.beq pc 1316)) (Nat.ble pc 1316) pc) (fun pc => @Bool.rec (fun _ => Nat → Option ex_C) (fun pc => @Bool.rec (fun _ => Option ex_C) none (some k389_1313) (Nat.beq pc 1313)) (fun pc => @Bool.rec (fun _ => Option ex_C) none (some k389_1296) (Nat.beq pc 1296)) (Nat.ble pc 1296) pc) (Nat.ble pc 1313) pc) (fun pc => @Bool.rec (fun _ => Nat → Option ex_C) (fun pc => @Bool.rec (fun _ => Nat → Option ex_C) (fun pc => @Bool.rec (fun _ => Option ex_C) none (some k389_1258) (Nat.beq pc 1258)) (fun pc => @Bool.rec (fun _ => Option ex_C) none (some k389_1255) (Nat.beq pc 1255)) (Nat.ble pc 1255) pc) (fun pc => @Bool.rec (fun _ => Nat → Option ex_C) (fun pc => @Bool.rec (fun _ => Option ex_C) none (some k389_1238) (Nat.beq pc 1238)) (fun pc => @Bool.rec (fun _ => Option ex_C) none (some k389_1176) (Nat.beq pc 1176)) (Nat.ble pc 1176) pc) (Nat.ble pc 1238) pc) (Nat.ble pc 1258) pc) (fun pc => @Bool.rec (fun _ => Nat → Option ex_C) (fun pc => @Bool.rec (fun _ => Nat → Option ex_C) (fun pc => @Bool.rec (fun _ => Nat → Option ex_C) (fun pc => @Bool.rec (fun _ => Option ex_C) none (some k389_1173) (Nat.beq pc 1173)) (fun pc => @Bool.rec (fun _ => Option ex_C) none (some k389_1156) (Nat.beq pc 1156)) (Nat.ble pc 1156) pc) (fun pc => @Bool.rec (fun _ => Nat → Option ex_C) (fun pc => @Bool.rec (fun _ => Option ex_C) none (some k389_1118) (Nat.beq pc 1118)) (fun pc => @Bool.rec (fun _ => Option ex_C) none (some k389_1115) (Nat.beq pc 1115)) (Nat.ble pc 1115) pc) (Nat.ble pc 1118) pc) (fun pc => @Bool.rec (fun _ => Nat → Option ex_C) (fun pc => @Bool.rec (fun _ => Nat → Option ex_C) (fun pc => @Bool.rec (fun _ => Option ex_C) none (some k389_1098) (Nat.beq pc 1098)) (fun pc => @Bool.rec (fun _ => Option ex_C) none (some k389_1006) (Nat.beq pc 1006)) (Nat.ble pc 1006) pc) (fun pc => @Bool.rec (fun _ => Nat → Option ex_C) (fun pc => @Bool.rec (fun _ => Option ex_C) none (some k389_1003) (Nat.beq pc 1003)) (fun pc => @Bool.rec (fun _ => Option ex_C) none (some k389_986) (Nat.beq pc 986)) (Nat.ble pc 986) pc) (Nat.ble pc 1003) pc) (Nat.ble pc 1098) pc) (Nat.ble pc 1173) pc) (Nat.ble pc 1371) pc) (fun pc => @Bool.rec (fun _ => Nat → Option ex_C) (fun pc => @Bool.rec (fun _ => Nat → Option ex_C) (fun pc => @Bool.rec (fun _ => Nat → Option ex_C) (fun pc => @Bool.rec (fun _ => Nat → Option ex_C) (fun pc => @Bool.rec (fun _ => Nat → Option ex_C) (fun pc => @Bool.rec (fun _ => Nat → Option ex_C) (fun pc => @Bool.rec (fun _ => Option ex_C) none (some k389_950) (Nat.beq pc 950)) (fun pc => @Bool.rec (fun _ => Option ex_C) none (some k389_947) (Nat.beq pc 947)) (Nat.ble pc 947) pc) (fun pc => @Bool.rec (fun _ => Option ex_C) none (some k389_930) (Nat.beq pc 930)) (Nat.ble pc 930) pc) (fun pc => @Bool.rec (fun _ => Nat → Option ex_C) (fun pc => @Bool.rec (fun _ => Option ex_C) none (some k389_894) (Nat.beq pc 894)) (fun pc => @Bool.rec (fun _ => Option ex_C) none (some k389_881) (Nat.beq pc 881)) (Nat.ble pc 881) pc) (Nat.ble pc 894) pc) (fun pc => @Bool.rec (fun _ => Nat → Option ex_C) (fun pc => @Bool.rec (fun _ => Nat → Option ex_C) (fun pc => @Bool.rec (fun _ => Option ex_C) none (some k389_878) (Nat.beq pc 878)) (fun pc => @Bool.rec (fun _ => Option ex_C) none (some k389_861) (Nat.beq pc 861)) (Nat.ble pc 861) pc) (fun pc => @Bool.rec (fun _ => Nat → Option ex_C) (fun pc => @Bool.rec (fun _ => Option ex_C) none (some k389_801) (Nat.beq pc 801)) (fun pc => @Bool.rec (fun _ => Option ex_C) none (some k389_798) (Nat.beq pc 798)) (Nat.ble pc 798) pc) (Nat.ble pc 801) pc) (Nat.ble pc 878) pc) (fun pc => @Bool.rec (fun _ => Nat → Option ex_C) (fun pc => @Bool.rec (fun _ => Nat → Option ex_C) (fun pc => @Bool.rec (fun _ => Nat → Option ex_C) (fun pc => @Bool.rec (fun _ => Nat → Option ex_C) (fun pc => @Bool.rec (fun _ => Option ex_C) none (some k389_781) (Nat.beq pc 781)) (fun pc => @Bool.rec (fun _ => Option ex_C) none (some k389_733) (Nat.beq pc 733)) (Nat.ble pc 733) pc) (fun pc => @Bool.rec (fun _ => Option ex_C) none (some k389_730) (Nat.beq pc 730)) (Nat.ble pc 730) pc) (fun pc => @Bool.rec (fun _ => Nat → Option ex_C) (fun pc => @Bool.rec (fun _ => Option ex_C) none (some k389_713) (Nat.beq pc 713)) (fun pc => @Bool.rec (fun _ => Option ex_C) none (some k389_665) (Nat.beq pc 665)) (Nat.ble pc 665) pc) (Nat.ble pc 713) pc) (fun pc => @Bool.rec (fun _ => Nat → Option ex_C) (fun pc => @Bool.rec (fun _ => Nat → Option ex_C) (fun pc => @Bool.rec (fun _ => Option ex_C) none (some k389_662) (Nat.beq pc 662)) (fun pc => @Bool.rec (fun _ => Option ex_C) none (some k389_645) (Nat.beq pc 645)) (Nat.ble pc 645) pc) (fun pc => @Bool.rec (fun _ => Nat → Option ex_C) (fun pc => @Bool.rec (fun _ => Option ex_C) none (some k389_609) (Nat.beq pc 609)) (fun pc => @Bool.rec (fun _ => Option ex_C) none (some k389_606) (Nat.beq pc 606)) (Nat.ble pc 606) pc) (Nat.ble pc 609) pc) (Nat.ble pc 662) pc) (Nat.ble pc 781) pc) (fun pc => @Bool.rec (fun _ => Nat → Option ex_C) (fun pc => @Bool.rec (fun _ => Nat → Option ex_C) (fun pc => @Bool.rec (fun _ => Nat → Option ex_C) (fun pc => @Bool.rec (fun _ => Nat → Option ex_C) (fun pc => @Bool.rec (fun _ => Nat → Option ex_C) (fun pc => @Bool.rec (fun _ => Option ex_C) none (some k389_589) (Nat.beq pc 589)) (fun pc => @Bool.rec (fun _ => Option ex_C) none (some k389_541) (Nat.beq pc 541)) (Nat.ble pc 541) pc) (fun pc => @Bool.rec (fun _ => Option ex_C) none (some k389_538) (Nat.beq pc 538)) (Nat.ble pc 538) pc) (fun pc => @Bool.rec (fun _ => Nat → Option ex_C) (fun pc => @Bool.rec (fun _ => Option ex_C) none (some k389_521) (Nat.beq pc 521)) (fun pc => @Bool.rec (fun _ => Option ex_C) none (some k389_449) (Nat.beq pc 449)) (Nat.ble pc 449) pc) (Nat.ble pc 521) pc) (fun pc => @Bool.rec (fun _ => Nat → Option ex_C) (fun pc => @Bool.rec (fun _ => Nat → Option ex_C) (fun pc => @Bool.rec (fun _ => Option ex_C) none (some k389_446) (Nat.beq pc 446)) (fun pc => @Bool.rec (fun _ => Option ex_C) none (some k389_429) (Nat.beq pc 429)) (Nat.ble pc 429) pc) (fun pc => @Bool.rec (fun _ => Nat → Option ex_C) (fun pc => @Bool.rec (fun _ => Option ex_C) none (some k389_393) (Nat.beq pc 393)) (fun pc => @Bool.rec (fun _ => Option ex_C) none (some k389_390) (Nat.beq pc 390)) (Nat.ble pc 390) pc) (Nat.ble pc 393) pc) (Nat.ble pc 446) pc) (fun pc => @Bool.rec (fun _ => Nat → Option ex_C) (fun pc => @Bool.rec (fun _ => Nat → Option ex_C) (fun pc => @Bool.rec (fun _ => Nat → Option ex_C) (fun pc => @Bool.rec (fun _ => Option ex_C) none (some k389_373) (Nat.beq pc 373)) (fun pc => @Bool.rec (fun _ => Option ex_C) none (some k389_337) (Nat.beq pc 337)) (Nat.ble pc 337) pc) (fun pc => @Bool.rec (fun _ => Nat → Option ex_C) (fun pc => @Bool.rec (fun _ => Option ex_C) none (some k389_334) (Nat.beq pc 334)) (fun pc => @Bool.rec (fun _ => Option ex_C) none (some k389_317) (Nat.beq pc 317)) (Nat.ble pc 317) pc) (Nat.ble pc 334) pc) (fun pc => @Bool.rec (fun _ => Nat → Option ex_C) (fun pc => @Bool.rec (fun _ => Nat → Option ex_C) (fun pc => @Bool.rec (fun _ => Option ex_C) none (some k389_281) (Nat.beq pc 281)) (fun pc => @Bool.rec (fun _ => Option ex_C) none (some k389_268) (Nat.beq pc 268)) (Nat.ble pc 268) pc) (fun pc => @Bool.rec (fun _ => Nat → Option ex_C) (fun pc => @Bool.rec (fun _ => Option ex_C) none (some k389_28) (Nat.beq pc 28)) (fun pc => @Bool.rec (fun _ => Option ex_C) none (some k389_0) (Nat.beq pc 0)) (Nat.ble pc 0) pc) (Nat.ble pc 28) pc) (Nat.ble pc 281) pc) (Nat.ble pc 373) pc) (Nat.ble pc 589) pc) (Nat.ble pc 950) pc) (Nat.ble pc 1740) pc
theorem ktE_389 : ex_CTT 1 [] cd_389 kt_389 cd_389 := (ex_ct2 (ex_ct2 (ex_ct2 (ex_ct2 (ex_ct2 (ex_ct2 (ex_ct2 (ex_ct1 kE389_0) (ex_ct1 kE389_28)) (ex_ct2 (ex_ct1 kE389_268) (ex_ct1 kE389_281))) (ex_ct2 (ex_ct2 (ex_ct1 kE389_317) (ex_ct1 kE389_334)) (ex_ct2 (ex_ct1 kE389_337) (ex_ct1 kE389_373)))) (ex_ct2 (ex_ct2 (ex_ct2 (ex_ct1 kE389_390) (ex_ct1 kE389_393)) (ex_ct2 (ex_ct1 kE389_429) (ex_ct1 kE389_446))) (ex_ct2 (ex_ct2 (ex_ct1 kE389_449) (ex_ct1 kE389_521)) (ex_ct2 (ex_ct1 kE389_538) (ex_ct2 (ex_ct1 kE389_541) (ex_ct1 kE389_589)))))) (ex_ct2 (ex_ct2 (ex_ct2 (ex_ct2 (ex_ct1 kE389_606) (ex_ct1 kE389_609)) (ex_ct2 (ex_ct1 kE389_645) (ex_ct1 kE389_662))) (ex_ct2 (ex_ct2 (ex_ct1 kE389_665) (ex_ct1 kE389_713)) (ex_ct2 (ex_ct1 kE389_730) (ex_ct2 (ex_ct1 kE389_733) (ex_ct1 kE389_781))))) (ex_ct2 (ex_ct2 (ex_ct2 (ex_ct1 kE389_798) (ex_ct1 kE389_801)) (ex_ct2 (ex_ct1 kE389_861) (ex_ct1 kE389_878))) (ex_ct2 (ex_ct2 (ex_ct1 kE389_881) (ex_ct1 kE389_894)) (ex_ct2 (ex_ct1 kE389_930) (ex_ct2 (ex_ct1 kE389_947) (ex_ct1 kE389_950))))))) (ex_ct2 (ex_ct2 (ex_ct2 (ex_ct2 (ex_ct2 (ex_ct1 kE389_986) (ex_ct1 kE389_1003)) (ex_ct2 (ex_ct1 kE389_1006) (ex_ct1 kE389_1098))) (ex_ct2 (ex_ct2 (ex_ct1 kE389_1115) (ex_ct1 kE389_1118)) (ex_ct2 (ex_ct1 kE389_1156) (ex_ct1 kE389_1173)))) (ex_ct2 (ex_ct2 (ex_ct2 (ex_ct1 kE389_1176) (ex_ct1 kE389_1238)) (ex_ct2 (ex_ct1 kE389_1255) (ex_ct1 kE389_1258))) (ex_ct2 (ex_ct2 (ex_ct1 kE389_1296) (ex_ct1 kE389_1313)) (ex_ct2 (ex_ct1 kE389_1316) (ex_ct2 (ex_ct1 kE389_1354) (ex_ct1 kE389_1371)))))) (ex_ct2 (ex_ct2 (ex_ct2 (ex_ct2 (ex_ct1 kE389_1374) (ex_ct1 kE389_1412)) (ex_ct2 (ex_ct1 kE389_1429) (ex_ct1 kE389_1432))) (ex_ct2 (ex_ct2 (ex_ct1 kE389_1522) (ex_ct1 kE389_1539)) (ex_ct2 (ex_ct1 kE389_1542) (ex_ct2 (ex_ct1 kE389_1566) (ex_ct1 kE389_1583))))) (ex_ct2 (ex_ct2 (ex_ct2 (ex_ct1 kE389_1586) (ex_ct1 kE389_1599)) (ex_ct2 (ex_ct1 kE389_1612) (ex_ct1 kE389_1636))) (ex_ct2 (ex_ct2 (ex_ct1 kE389_1653) (ex_ct1 kE389_1656)) (ex_ct2 (ex_ct1 kE389_1722) (ex_ct2 (ex_ct1 kE389_1739) (ex_ct1 kE389_1740)))))))) (ex_ct2 (ex_ct2 (ex_ct2 (ex_ct2 (ex_ct2 (ex_ct2 (ex_ct1 kE389_1746) (ex_ct1 kE389_1749)) (ex_ct2 (ex_ct1 kE389_1773) (ex_ct1 kE389_1790))) (ex_ct2 (ex_ct2 (ex_ct1 kE389_1793) (ex_ct1 kE389_1806)) (ex_ct2 (ex_ct1 kE389_1842) (ex_ct1 kE389_1859)))) (ex_ct2 (ex_ct2 (ex_ct2 (ex_ct1 kE389_1862) (ex_ct1 kE389_1912)) (ex_ct2 (ex_ct1 kE389_1929) (ex_ct1 kE389_1930))) (ex_ct2 (ex_ct2 (ex_ct1 kE389_1936) (ex_ct1 kE389_1939)) (ex_ct2 (ex_ct1 kE389_1959) (ex_ct2 (ex_ct1 kE389_1960) (ex_ct1 kE389_1992)))))) (ex_ct2 (ex_ct2 (ex_ct2 (ex_ct2 (ex_ct1 kE389_1993) (ex_ct1 kE389_2015)) (ex_ct2 (ex_ct1 kE389_2032) (ex_ct1 kE389_2035))) (ex_ct2 (ex_ct2 (ex_ct1 kE389_2071) (ex_ct1 kE389_2088)) (ex_ct2 (ex_ct1 kE389_2091) (ex_ct2 (ex_ct1 kE389_2104) (ex_ct1 kE389_2142))))) (ex_ct2 (ex_ct2 (ex_ct2 (ex_ct1 kE389_2159) (ex_ct1 kE389_2162)) (ex_ct2 (ex_ct1 kE389_2175) (ex_ct1 kE389_2188))) (ex_ct2 (ex_ct2 (ex_ct1 kE389_2224) (ex_ct1 kE389_2241)) (ex_ct2 (ex_ct1 kE389_2244) (ex_ct2 (ex_ct1 kE389_2257) (ex_ct1 kE389_2270))))))) (ex_ct2 (ex_ct2 (ex_ct2 (ex_ct2 (ex_ct2 (ex_ct1 kE389_2306) (ex_ct1 kE389_2323)) (ex_ct2 (ex_ct1 kE389_2326) (ex_ct1 kE389_2362))) (ex_ct2 (ex_ct2 (ex_ct1 kE389_2379) (ex_ct1 kE389_2382)) (ex_ct2 (ex_ct1 kE389_2418) (ex_ct2 (ex_ct1 kE389_2435) (ex_ct1 kE389_2438))))) (ex_ct2 (ex_ct2 (ex_ct2 (ex_ct1 kE389_2451) (ex_ct1 kE389_2475)) (ex_ct2 (ex_ct1 kE389_2492) (ex_ct1 kE389_2495))) (ex_ct2 (ex_ct2 (ex_ct1 kE389_2508) (ex_ct1 kE389_2544)) (ex_ct2 (ex_ct1 kE389_2561) (ex_ct2 (ex_ct1 kE389_2564) (ex_ct1 kE389_2588)))))) (ex_ct2 (ex_ct2 (ex_ct2 (ex_ct2 (ex_ct1 kE389_2605) (ex_ct1 kE389_2608)) (ex_ct2 (ex_ct1 kE389_2656) (ex_ct1 kE389_2673))) (ex_ct2 (ex_ct2 (ex_ct1 kE389_2676) (ex_ct1 kE389_2724)) (ex_ct2 (ex_ct1 kE389_2741) (ex_ct2 (ex_ct1 kE389_2744) (ex_ct1 kE389_2758))))) (ex_ct2 (ex_ct2 (ex_ct2 (ex_ct1 kE389_2783) (ex_ct1 kE389_2819)) (ex_ct2 (ex_ct1 kE389_2821) (ex_ct1 kE389_2824))) (ex_ct2 (ex_ct2 (ex_ct1 kE389_2860) (ex_ct1 kE389_2862)) (ex_ct2 (ex_ct1 kE389_2865) (ex_ct2 (ex_ct1 kE389_2878) (ex_ct1 kE389_2884)))))))))
end
