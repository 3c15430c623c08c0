/-! rows of code are the machine's -/
section
variable {E : ex_G} {b : Nat} {H0 : Heap} {G0 : List Nat} {ad0 : Nat → Nat} {nL : Nat} {p : Program} {l : Launch} {e : Env} {R : Room} {s : State} {m : MethodId} {args : Array Value} {below : List Frame} {meth : Method} {c : Code} {mc ms : Nat} {rM : Nat × Nat} {cc : ByteArray} {pc : Nat} {nx : ex_K}
theorem z_iv1 {A B : ex_K} (h : ex_Z E b H0 G0 ad0 nL p l e R s m args below meth c mc ms rM B pc) : ex_Z E b H0 G0 ad0 nL p l e R s m args below meth c mc ms rM (fun L S M => @Bool.rec (fun _ => ex_R) (A L S M) (B L S M) (Nat.beq 1 1)) pc := fun L S M hh => h L S M hh
theorem ex_seqZ {X : ex_X} {inf : Nat → ex_I} {V : ex_V} {ST : Nat → Nat} {own mn : String} {rt d : Nat} {ret : Option FieldType} {hs : ex_H} {hh : List (Nat × Nat × Nat × Nat)} {bt : ex_CD} {call : Nat → List Nat → Nat → ex_R} {exj : Nat → ex_K}
    (hx : p.tables.exec = Jvm.exec) (hb : c.code = cc) (hml : c.maxLocals = nL) (hV : ex_VOK E V) (hWd : ex_Wd X E b ST H0 s) (hSs : va_S (fun q => b ≤ q) H0 s.heap []) (hown : s.vm.findClass own = some m.cls) (hT : ∀ w ∈ ex_TT X.2.2, w.before args s = true) (hl : l.stackTraces = false)
    (hret : meth.sig.returnType = ret) (hmn : meth.name = mn) (hlk : meth.locks = false) (hR : R = ex_rm d mc ms) (hexc : c.exceptionTable.toList = tableOf hh) (hHO : ex_HO X (ex_TT X.2.2) own hs hh) (hCW : ex_CW X) (hCT : ex_CT)
    (hcall : ∀ mid as M' rM', call mid as M' = some rM' → ∃ d', d = d' + 1 ∧ ex_Cn l X E b ST H0 (inf mid) d' as M' rM')
    (hB1 : ∀ t n k ax r, bt t = (.astore n, k, ax) :: r → n < nL ∧ decode cc t = .ok (.astore n, 2)) (hB2 : ∀ t (n : Fin 4) k ax r, bt t = (.astore_n n, k, ax) :: r → n.val < nL ∧ decode cc t = .ok (.astore_n n, 1)) (kj : ∀ t, ex_Z E b H0 G0 ad0 nL p l e R s m args below meth c mc ms rM (exj t) t) :
    ∀ (lst : List ex_E) (pc : Nat), ex_BK X inf own mn cc nL rt ret lst pc → ex_Z E b H0 G0 ad0 nL p l e R s m args below meth c mc ms rM (ex_seq V ST ex_cB ex_cN d rt hs bt call exj lst) pc := by
  have hE : ex_svR E := hWd.1.2
  have hH0 : H0.size = b := hWd.1.1
  have hW : ex_Wo E b ST H0 args s := hWd.wo (fun k q hq w hw => hT w (hCW.1 k q hq w hw))
  have hN : ∀ w ∈ ex_TN, w.before args s = true := fun w hw => va_Nw.use (by
    have := (List.mem_filter.mp hw).2
    cases w <;> first | rfl | cases this) (hWd.2.2.2.2.1 w hw)
  have h2w : ex_W2 E b H0 args s := ⟨fun k q hq => hN _ (hCW.2.1 k q hq), fun kd a1 a2 => hN _ (hCW.2.2 kd a1 a2), hWd.2.2.2.2.2.2.1.1, hWd.2.2.2.2.2.2.2.1, hWd.2.2.2.2.2.2.2.2.1⟩
  have hmc : mc ≤ R.cells := by rw [hR]; exact Nat.le_refl _
  have hms : ms ≤ R.slots := by rw [hR]; exact Nat.le_refl _
  have hRf : 1 ≤ R.frames := by rw [hR]; exact Nat.le_add_left _ _
  have hRl : 100 ≤ R.locals := by rw [hR]; exact Nat.le_add_left _ _
  intro lst
  induction lst with
  | nil => intro pc _ L S M h; exact nomatch (show (none : ex_R) = some rM from h)
  | cons er rest ih =>
    obtain ⟨i, pc0, aux⟩ := er
    intro pc hBK
    have hBK : ex_sup i = false ∨ (pc0 = pc ∧ decode cc pc = .ok (i, ex_ln pc i) ∧ ex_nb nL pc aux i = true) ∧ ex_RW X inf own mn cc rt ret pc aux i ∧ (ex_stop aux i = true ∨ ex_BK X inf own mn cc nL rt ret rest (pc + ex_ln pc i)) := hBK
    rcases hBK with hsup | ⟨⟨hpc, hd, hn⟩, hw, hr⟩
    · show ex_Z E b H0 G0 ad0 nL p l e R s m args below meth c mc ms rM (ex_ins i V ST ex_cB ex_cN d rt hs bt call exj rest pc0 aux (ex_seq V ST ex_cB ex_cN d rt hs bt call exj rest)) pc
      cases i <;> first | (cases hsup; done) | exact fun _ _ _ h => nomatch h
    have hpc : pc0 = pc := hpc
    subst hpc
    have k0 : ex_stop aux i = false → ex_Z E b H0 G0 ad0 nL p l e R s m args below meth c mc ms rM (ex_seq V ST ex_cB ex_cN d rt hs bt call exj rest) (pc0 + ex_ln pc0 i) := fun hs0 => ih _ (hr.resolve_left (fun z => by rw [hs0] at z; cases z))
    clear ih hr
    have hd : decode cc pc0 = .ok (i, ex_ln pc0 i) := hd
    show ex_Z E b H0 G0 ad0 nL p l e R s m args below meth c mc ms rM (ex_ins i V ST ex_cB ex_cN d rt hs bt call exj rest pc0 aux (ex_seq V ST ex_cB ex_cN d rt hs bt call exj rest)) pc0
    have hn : ex_nb nL pc0 aux i = true := hn
    have hw : ex_RW X inf own mn cc rt ret pc0 aux i := hw
    cases i with
    | aaload =>
      have k := k0 rfl
      exact z_aaload hx hb hW hd k
    | aastore =>
      have k := k0 rfl
      show ex_Z E b H0 G0 ad0 nL p l e R s m args below meth c mc ms rM (ex_ast (fun k => (@Bool.rec (fun _ => Bool) (Nat.beq k 71) (true) (Nat.beq k 70))) (fun M k v => (@Bool.rec (fun _ => Bool) ((@Bool.rec (fun _ => Bool) (false) ((@Bool.rec (fun _ => Bool) (false) (Nat.beq (Nat.mod (ex_get M (Nat.sub v 8589934592)) 256) 64) (ex_isD v))) (Nat.beq k 71))) ((@Bool.rec (fun _ => Bool) ((@Bool.rec (fun _ => Bool) (false) ((@Bool.rec (fun _ => Bool) ((@Bool.rec (fun _ => Bool) (false) ((@Bool.rec (fun _ => Bool) (false) (Nat.ble (Nat.mod (ex_hd ST M v) 256) 71) (Nat.ble 64 (Nat.mod (ex_hd ST M v) 256)))) (ex_isD v))) (true) (Nat.ble (Nat.mod (ex_hd ST M v) 256) 19))) (ex_isR v))) (true) (Nat.beq v 4294967296))) (Nat.beq k 70))) (ex_seq V ST ex_cB ex_cN d rt hs bt call exj rest)) pc0
      exact z_aastore hx hb hW h2w hd k
    | aconst_null =>
      have k := k0 rfl
      exact z_aconst_null hx hb hd k
    | aload a0 =>
      have k := k0 rfl
      exact z_aload hx hb hE (of_decide_eq_true hn) hd k
    | aload_n a0 =>
      have k := k0 rfl
      exact z_aload_n hx hb hE (of_decide_eq_true hn) hd k
    | anewarray a0 =>
      have k := k0 rfl
      rcases hw with ⟨g1, g2⟩ | ⟨g1, g2⟩
      · exact z_anewO hx hb hW hown hmc hms (hT _ g2) (va_AO.use hWd.2.2.2.2.2.2.1.2) hd k g1
      · exact z_anewA hx hb hW hown hmc hms (hT _ g2) hWd.2.2.2.2.2.2.1.1 hd k g1
    | areturn =>
      have k := k0 rfl
      obtain ⟨ty, g1⟩ := hw
      exact z_areturn hx hb hE (fun z => ⟨hret.trans (g1 z).1, (g1 z).2⟩) hlk hd
    | arraylength =>
      have k := k0 rfl
      exact z_arraylength hx hb hW hd k
    | astore a0 =>
      have k := k0 rfl
      exact z_astore hx hb hE (of_decide_eq_true hn) hd k
    | astore_n a0 =>
      have k := k0 rfl
      exact z_astore_n hx hb hE (of_decide_eq_true hn) hd k
    | athrow => exact fun _ _ _ h => nomatch h
    | baload =>
      have k := k0 rfl
      exact z_baload hx hb hW hd k
    | bastore =>
      have k := k0 rfl
      show ex_Z E b H0 G0 ad0 nL p l e R s m args below meth c mc ms rM (ex_ast (fun k => Nat.beq k 65) (fun _ _ v => Nat.ble v 1) (ex_seq V ST ex_cB ex_cN d rt hs bt call exj rest)) pc0
      exact z_bastore hx hb hW hd k
    | bipush a0 =>
      have k := k0 rfl
      have hn := (Bool.and_eq_true _ _).mp hn
      exact z_bipush hx hb (of_decide_eq_true hn.1) (of_decide_eq_true hn.2) hd k
    | caload =>
      have k := k0 rfl
      exact z_caload hx hb hW hd k
    | castore =>
      have k := k0 rfl
      show ex_Z E b H0 G0 ad0 nL p l e R s m args below meth c mc ms rM (ex_ast (fun k => Nat.beq k 66) (fun _ _ v => ex_fit V 2 v) (ex_seq V ST ex_cB ex_cN d rt hs bt call exj rest)) pc0
      exact z_castore hx hb hV hW hd k
    | checkcast a0 =>
      have k := k0 rfl
      rcases hw with ⟨g0, r, nm, g1, g2, g3⟩ | ⟨g0, g1, g2⟩
      · refine z_checkcast hx hb hW hown g0 g1 (hT _ g2) ?_ hd k
        rcases g3 with g3 | g3
        · exact hN _ g3
        · rw [g3]; exact ex_cself (hW.2.2.1 _ _ g1).1.2.1
      · exact z_checkcastA hx hb hW hown g0 (ex_tyS aux g0 g1 ((hW.2.2.2.1 aux g0 (by omega)).2 (by omega))) (hT _ g2) hd k
    | d2f => exact fun _ _ _ h => nomatch h
    | d2i => exact fun _ _ _ h => nomatch h
    | d2l => exact fun _ _ _ h => nomatch h
    | dadd => exact fun _ _ _ h => nomatch h
    | daload => exact fun _ _ _ h => nomatch h
    | dastore => exact fun _ _ _ h => nomatch h
    | dcmp a0 =>
      have k := k0 rfl
      exact z_dcmp hx hb hd k
    | dconst a0 => exact fun _ _ _ h => nomatch h
    | ddiv =>
      have k := k0 rfl
      exact z_ddiv hx hb hd k
    | dload a0 =>
      have k := k0 rfl
      exact z_dload hx hb (of_decide_eq_true hn) hd k
    | dload_n a0 =>
      have k := k0 rfl
      exact z_dload_n hx hb (of_decide_eq_true hn) hd k
    | dmul => exact fun _ _ _ h => nomatch h
    | dneg => exact fun _ _ _ h => nomatch h
    | drem => exact fun _ _ _ h => nomatch h
    | dreturn =>
      have k := k0 rfl
      exact z_dreturn hx hb (fun z => hret.trans (hw z)) hlk hd
    | dstore a0 =>
      have k := k0 rfl
      exact z_dstore hx hb hE (of_decide_eq_true hn) hd k
    | dstore_n a0 =>
      have k := k0 rfl
      exact z_dstore_n hx hb hE (of_decide_eq_true hn) hd k
    | dsub => exact fun _ _ _ h => nomatch h
    | dup =>
      have k := k0 rfl
      exact z_dup hx hb hE.one hd k
    | dup_x1 =>
      have k := k0 rfl
      exact z_dup_x1 hx hb hE.one hd k
    | dup_x2 => exact fun _ _ _ h => nomatch h
    | dup2 =>
      have k := k0 rfl
      exact z_dup2 hx hb hE.one hd k
    | dup2_x1 => exact fun _ _ _ h => nomatch h
    | dup2_x2 => exact fun _ _ _ h => nomatch h
    | f2d => exact fun _ _ _ h => nomatch h
    | f2i => exact fun _ _ _ h => nomatch h
    | f2l => exact fun _ _ _ h => nomatch h
    | fadd => exact fun _ _ _ h => nomatch h
    | faload => exact fun _ _ _ h => nomatch h
    | fastore => exact fun _ _ _ h => nomatch h
    | fcmp a0 => exact fun _ _ _ h => nomatch h
    | fconst a0 =>
      have k := k0 rfl
      have hn := (Bool.and_eq_true _ _).mp hn
      have e0 := of_decide_eq_true hn.1
      have e1 := Nat.eq_of_beq_eq_true hn.2
      subst e0
      subst e1
      exact z_fconst hx hb hd k
    | fdiv => exact fun _ _ _ h => nomatch h
    | fload a0 => exact fun _ _ _ h => nomatch h
    | fload_n a0 => exact fun _ _ _ h => nomatch h
    | fmul => exact fun _ _ _ h => nomatch h
    | fneg => exact fun _ _ _ h => nomatch h
    | frem => exact fun _ _ _ h => nomatch h
    | freturn =>
      have k := k0 rfl
      exact z_freturn hx hb (fun z => hret.trans (hw z)) hlk hd
    | fstore a0 =>
      have k := k0 rfl
      exact z_fstore hx hb hE (of_decide_eq_true hn) hd k
    | fstore_n a0 =>
      have k := k0 rfl
      exact z_fstore_n hx hb hE (of_decide_eq_true hn) hd k
    | fsub => exact fun _ _ _ h => nomatch h
    | getfield a0 =>
      have k := k0 rfl
      obtain ⟨r, ref, g1, g2, g3 | ⟨host, g3⟩, g4⟩ := hw
      · exact z_getfield hx hb hW hown g1 g2 (hT _ g3) (ex_same_of hT g4) hd k
      · exact z_getfieldN hx hb hW hown g1 g2 (hN _ g3) (ex_same_of hT g4) hd k
    | getstatic a0 =>
      have k := k0 rfl
      obtain ⟨g1, ref, nf, df, g2, g3 | ⟨host, g3⟩⟩ := hw
      · exact z_getstatic hx hb h2w hH0 hown g2 g1 (hT _ g3) hd k
      · exact z_getstaticN hx hb h2w hH0 hown g2 g1 (hN _ g3) hd k
    | goto a0 =>
      have k := k0 rfl
      exact z_goto hx hb hd (of_decide_eq_true hn) (kj _)
    | goto_w a0 => exact fun _ _ _ h => nomatch h
    | i2b =>
      have k := k0 rfl
      exact y_i2b hx hb hV hd k
    | i2c =>
      have k := k0 rfl
      exact y_i2c hx hb hV hd k
    | i2d =>
      have k := k0 rfl
      exact z_i2d hx hb hd k
    | i2f => exact fun _ _ _ h => nomatch h
    | i2l =>
      have k := k0 rfl
      exact z_i2l hx hb hd k
    | i2s => exact fun _ _ _ h => nomatch h
    | iadd =>
      have k := k0 rfl
      exact y_iadd hx hb hV hd k
    | iaload =>
      have k := k0 rfl
      exact z_iaload hx hb hW hd k
    | iand =>
      have k := k0 rfl
      exact y_iand hx hb hV hd k
    | iastore =>
      have k := k0 rfl
      show ex_Z E b H0 G0 ad0 nL p l e R s m args below meth c mc ms rM (ex_ast (fun k => Nat.beq k 64) (fun _ _ v => ex_tI v) (ex_seq V ST ex_cB ex_cN d rt hs bt call exj rest)) pc0
      exact z_iastore hx hb hW hd k
    | iconst a0 =>
      have k := k0 rfl
      have hn := (Bool.and_eq_true _ _).mp hn
      exact z_iconst hx hb (of_decide_eq_true hn.1) (of_decide_eq_true hn.2) hd k
    | idiv =>
      have k := k0 rfl
      exact y_idiv hx hb hV hd k
    | if_acmp a0 a1 =>
      have k := k0 rfl
      exact z_acmp hx hb hW hd (of_decide_eq_true hn) (kj _) k
    | if_icmp a0 a1 =>
      have k := k0 rfl
      exact z_icmp hx hb hV hd (of_decide_eq_true hn) (kj _) k
    | ifCond a0 a1 =>
      have k := k0 rfl
      exact z_ifc hx hb hV hd (of_decide_eq_true hn) (kj _) k
    | ifnonnull a0 =>
      have k := k0 rfl
      exact z_ifnonnull hx hb hW hd (of_decide_eq_true hn) (kj _) k
    | ifnull a0 =>
      have k := k0 rfl
      exact z_ifnull hx hb hW hd (of_decide_eq_true hn) (kj _) k
    | iinc a0 a1 =>
      have k := k0 rfl
      have hn := (Bool.and_eq_true _ _).mp hn
      exact z_iinc hx hb hE (of_decide_eq_true hn.1) (of_decide_eq_true hn.2) hd k
    | iload a0 =>
      have k := k0 rfl
      exact z_iload hx hb (of_decide_eq_true hn) hd k
    | iload_n a0 =>
      have k := k0 rfl
      exact z_iload_n hx hb (of_decide_eq_true hn) hd k
    | imul =>
      have k := k0 rfl
      exact y_imul hx hb hV hd k
    | ineg =>
      have k := k0 rfl
      exact y_ineg hx hb hV hd k
    | instanceof a0 => exact fun _ _ _ h => nomatch h
    | invokedynamic a0 => exact fun _ _ _ h => nomatch h
    | invokeinterface a0 a1 =>
      have k := k0 rfl
      obtain ⟨nn, kk, r, x0, ⟨w1, w2, w3, w4⟩, w5, w6, w7, w8, w9, w10, w11, w12⟩ := hw
      refine z_inv (n := 5) hx hb hE hWd hown hT hlk hexc hHO hB1 hB2 kj k (fun as T M rM' G ad L ls H locs cells slots g1 g2 g3 g4 g5 g6 u1 u2 => ?_)
      obtain ⟨d', rfl, hC⟩ := hcall _ _ _ _ g1
      have hrv : ∃ x as', as = x :: as' ∧ ex_isR x = true ∧ ex_hd ST M x % 256 = aux / 32 % 256 := by
        rcases g5 with z | ⟨z, -⟩ | ⟨-, z⟩
        · omega
        · omega
        · exact z
      generalize inf (aux / 8192 - 16) = q at w1 w2 w3 w4 w9 w10 w11 hC
      obtain ⟨y, bytes, maxL, ret', _ | hh'⟩ := q
      · exact ex_runF hx hb hml hE hW hWd hown hT hR w2 hC (g2.trans w5) hrv w6 w7 g3 g4 g6 u1 u2 w1 w8 w9 w10 w4 w11 w12 hd
      · exact ex_runFW hx hb hml hE hW hWd hown hT hR w2 hC (g2.trans w5) hrv w6 w7 g3 g4 g6 u1 u2 w1 w8 w9 w10 w4 w11 w12 hd
    | invokespecial a0 =>
      have k := k0 rfl
      rcases hw with ⟨w0, w1, w2, w3⟩ | ⟨w0, nn, ⟨w1, w2, w3, w4⟩, w5, w6, w7, w8, w9, w10⟩
      · subst w0
        exact z_objInit hx hb hE hown hml (hT _ w1) (hT _ w2) (hT _ w3) hRf hd (by omega) k
      · have hinv : ex_Z E b H0 G0 ad0 nL p l e R s m args below meth c mc ms rM (ex_inv hs bt ST call exj pc0 aux (ex_seq V ST ex_cB ex_cN d rt hs bt call exj rest)) pc0 := by
          refine z_inv (n := 3) hx hb hE hWd hown hT hlk hexc hHO hB1 hB2 kj k (fun as T M rM' G ad L ls H locs cells slots g1 g2 g3 g4 g5 g6 u1 u2 => ?_)
          obtain ⟨d', rfl, hC⟩ := hcall _ _ _ _ g1
          have hrv : ∃ x as', as = x :: as' ∧ ex_isD x = true ∧ True := by
            rcases g5 with z | ⟨-, z⟩ | ⟨z, -⟩
            · omega
            · exact z
            · exact absurd w6 z
          generalize inf (aux / 8192 - 16) = q at w1 w2 w3 w4 w7 w8 w9 w10 hC
          obtain ⟨y, bytes, maxL, ret', hh'⟩ := q
          cases w10
          rcases w7 with w7 | ⟨host, w7⟩
          · exact ex_runI hx hb hml hE hW hWd hown hT hR w2 hC (g2.trans w5) hrv g3 g4 g6 u1 u2 w1 w7 w8 w4 w9 w3 hd
          · exact ex_runIN hx hb hml hE hW hWd hown hT hR w2 hC (g2.trans w5) hrv g3 g4 g6 u1 u2 w1 w7 w8 w4 w9 w3 hd
        intro L S M h
        have h : @Bool.rec (fun _ => ex_R) (ex_inv hs bt ST call exj pc0 aux (ex_seq V ST ex_cB ex_cN d rt hs bt call exj rest) L S M) _ (Nat.beq aux 0) = some rM := h
        rcases ex_br2 h with ⟨z, -⟩ | ⟨-, h⟩
        · exact absurd (Nat.eq_of_beq_eq_true z) w0
        · exact hinv L S M h
    | invokestatic a0 =>
      have k := k0 rfl
      obtain ⟨w0, ⟨w1, w2, w3, w4⟩, w5, w6⟩ := hw
      refine z_inv (n := 3) hx hb hE hWd hown hT hlk hexc hHO hB1 hB2 kj k (fun as T M rM' G ad L ls H locs cells slots g1 g2 g3 g4 g5 g6 u1 u2 => ?_)
      obtain ⟨d', rfl, hC⟩ := hcall _ _ _ _ g1
      generalize inf (aux / 8192 - 16) = q at w1 w2 w3 w4 w5 w6 hC
      obtain ⟨y, bytes, maxL, ret', _ | hh'⟩ := q
      · exact ex_runS hx hb hml hE hW hWd hown hT hR w2 hC g2 g3 g4 g6 u1 u2 w1 w5 w6 w4 w3 hd
      · exact ex_runSX hx hb hml hE hW hWd hown hT hR w2 hC g2 g3 g4 g6 u1 u2 w1 w5 w6 w4 w3 hd
    | invokevirtual a0 =>
      have k := k0 rfl
      rcases hw with ⟨w0, w1, w2, w3, w4, w5, w6⟩ | ⟨w0, nn, r, ⟨w1, w2, w3, w4⟩, w5, w6, w7, w8, w9, w10, w11⟩
      · subst w0
        show ex_Z E b H0 G0 ad0 nL p l e R s m args below meth c mc ms rM (fun L S M => (@Bool.rec (fun _ => ex_R) (ex_inv hs bt ST call exj pc0 1 (ex_seq V ST ex_cB ex_cN d rt hs bt call exj rest) L S M) (ex_clnS (ex_seq V ST ex_cB ex_cN d rt hs bt call exj rest) L S M) (Nat.beq 1 1))) pc0
        exact z_iv1 (A := ex_inv hs bt ST call exj pc0 1 (ex_seq V ST ex_cB ex_cN d rt hs bt call exj rest)) (z_clone (ST := ST) hx hb hml hW hE hmc hms hown (hT _ w1) (hT _ w2) (hT _ w3) (hT _ w4) (hT _ w5) (hN _ w6) hRf (by omega) hd k)
      · have hinv : ex_Z E b H0 G0 ad0 nL p l e R s m args below meth c mc ms rM (ex_inv hs bt ST call exj pc0 aux (ex_seq V ST ex_cB ex_cN d rt hs bt call exj rest)) pc0 := by
          refine z_inv (n := 3) hx hb hE hWd hown hT hlk hexc hHO hB1 hB2 kj k (fun as T M rM' G ad L ls H locs cells slots g1 g2 g3 g4 g5 g6 u1 u2 => ?_)
          obtain ⟨d', rfl, hC⟩ := hcall _ _ _ _ g1
          have hrv : ∃ x as', as = x :: as' ∧ ex_isR x = true ∧ ex_hd ST M x % 256 = aux / 32 % 256 := by
            rcases g5 with z | ⟨z, -⟩ | ⟨-, z⟩
            · omega
            · omega
            · exact z
          generalize inf (aux / 8192 - 16) = q at w1 w2 w3 w4 w8 w9 w10 w11 hC
          obtain ⟨y, bytes, maxL, ret', _ | hh'⟩ := q
          · exact ex_runV hx hb hml hE hW hWd hown hT hR w2 hC (g2.trans w5) hrv w6 w7 g3 g4 g6 u1 u2 w1 w9 w10 w11 (by rw [← show y.cls = r.1 from w8]; exact w4) ⟨w8, w3⟩ hd
          · exact ex_runVX hx hb hml hE hW hWd hown hT hR w2 hC (g2.trans w5) hrv w6 w7 g3 g4 g6 u1 u2 w1 w9 w10 w11 (by rw [← show y.cls = r.1 from w8]; exact w4) ⟨w8, w3⟩ hd
        intro L S M h
        have h : @Bool.rec (fun _ => ex_R) (ex_inv hs bt ST call exj pc0 aux (ex_seq V ST ex_cB ex_cN d rt hs bt call exj rest) L S M) _ (Nat.beq aux 1) = some rM := h
        rcases ex_br2 h with ⟨z, -⟩ | ⟨-, h⟩
        · exact absurd (Nat.eq_of_beq_eq_true z) w0
        · exact hinv L S M h
    | ior =>
      have k := k0 rfl
      exact y_ior hx hb hV hd k
    | irem =>
      have k := k0 rfl
      exact y_irem hx hb hV hd k
    | ireturn =>
      have k := k0 rfl
      obtain ⟨ty, g1, g2⟩ := hw
      exact z_ireturn hx hb hV hE (hret.trans g1) g2 hlk hd
    | ishl =>
      have k := k0 rfl
      exact z_ishl hx hb hd k
    | ishr =>
      have k := k0 rfl
      exact z_ishr hx hb hd k
    | istore a0 =>
      have k := k0 rfl
      exact z_istore hx hb hE (of_decide_eq_true hn) hd k
    | istore_n a0 =>
      have k := k0 rfl
      exact z_istore_n hx hb hE (of_decide_eq_true hn) hd k
    | isub =>
      have k := k0 rfl
      exact y_isub hx hb hV hd k
    | iushr => exact fun _ _ _ h => nomatch h
    | ixor =>
      have k := k0 rfl
      exact y_ixor hx hb hV hd k
    | jsr a0 => exact fun _ _ _ h => nomatch h
    | jsr_w a0 => exact fun _ _ _ h => nomatch h
    | l2d =>
      have k := k0 rfl
      exact z_l2d hx hb hd k
    | l2f => exact fun _ _ _ h => nomatch h
    | l2i => exact fun _ _ _ h => nomatch h
    | ladd =>
      have k := k0 rfl
      exact z_ladd hx hb hd k
    | laload =>
      have k := k0 rfl
      exact z_laload hx hb hW hd k
    | land => exact fun _ _ _ h => nomatch h
    | lastore =>
      have k := k0 rfl
      show ex_Z E b H0 G0 ad0 nL p l e R s m args below meth c mc ms rM (ex_ast (fun k => Nat.beq k 67) (fun _ _ v => ex_isL v) (ex_seq V ST ex_cB ex_cN d rt hs bt call exj rest)) pc0
      exact z_lastore hx hb hW hd k
    | lcmp =>
      have k := k0 rfl
      exact z_lcmp hx hb hV hd k
    | lconst a0 =>
      have k := k0 rfl
      have hn : aux = 412316860416 + a0.val := Nat.eq_of_beq_eq_true hn
      have ha := a0.isLt
      exact z_lconst hx hb (ex_isL_iff.mpr (by omega)) (by
        rw [ex_lvC (by omega), hn]
        rcases (show a0.val = 0 ∨ a0.val = 1 by omega) with e | e <;> rw [e] <;> decide +kernel) hd k
    | ldc a0 =>
      have k := k0 rfl
      rcases hw with ⟨g1, g2⟩ | ⟨g1, tx, g2⟩
      · exact z_ldcI hx hb hown g1 (hT _ g2) hd k
      · exact z_ldcS hx hb h2w hown g2 g1 hd k
    | ldc_w a0 =>
      have k := k0 rfl
      rcases hw with ⟨g1, g2⟩ | ⟨g1, tx, g2⟩
      · exact z_ldc_wI hx hb hown g1 (hT _ g2) hd k
      · exact z_ldc_wS hx hb h2w hown g2 g1 hd k
    | ldc2_w a0 =>
      have k := k0 rfl
      rcases hw with ⟨g1, g2, g3⟩ | ⟨g1, g2⟩
      · exact z_ldc2_wL hx hb hown (ex_isL_iff.mpr ⟨g1, g2⟩) (by rw [ex_lvC g1]; exact hT _ g3) hd k
      · subst g1; exact z_ldc2_wD hx hb hown (hT _ g2) hd k
    | ldiv => exact fun _ _ _ h => nomatch h
    | lload a0 =>
      have k := k0 rfl
      exact z_lload hx hb (of_decide_eq_true hn) hd k
    | lload_n a0 =>
      have k := k0 rfl
      exact z_lload_n hx hb (of_decide_eq_true hn) hd k
    | lmul => exact fun _ _ _ h => nomatch h
    | lneg => exact fun _ _ _ h => nomatch h
    | lookupswitch a0 a1 => exact fun _ _ _ h => nomatch h
    | lor => exact fun _ _ _ h => nomatch h
    | lrem => exact fun _ _ _ h => nomatch h
    | lreturn =>
      have k := k0 rfl
      exact z_lreturn hx hb (fun z => hret.trans (hw z)) hlk hd
    | lshl => exact fun _ _ _ h => nomatch h
    | lshr => exact fun _ _ _ h => nomatch h
    | lstore a0 =>
      have k := k0 rfl
      exact z_lstore hx hb hE (of_decide_eq_true hn) hd k
    | lstore_n a0 =>
      have k := k0 rfl
      exact z_lstore_n hx hb hE (of_decide_eq_true hn) hd k
    | lsub =>
      have k := k0 rfl
      exact z_lsub hx hb hd k
    | lushr => exact fun _ _ _ h => nomatch h
    | lxor => exact fun _ _ _ h => nomatch h
    | monitorenter => exact fun _ _ _ h => nomatch h
    | monitorexit => exact fun _ _ _ h => nomatch h
    | multianewarray a0 a1 =>
      have k := k0 rfl
      obtain ⟨g1, g2, g3⟩ := hw
      subst g1
      exact z_mna hx hb hW hmc hms hown (hT _ g2) hWd.2.2.2.2.2.2.1.1 (hT _ g3) hd k
    | new a0 =>
      intro L S M h
      have h : (fun L S M => (@Bool.rec (fun _ => ex_R) (ex_alloc M (ex_cB aux) (ex_cN aux) (fun c M => (ex_seq V ST ex_cB ex_cN d rt hs bt call exj rest) L (c :: S) M)) (match (generalizing := false) rest with | (.dup, _) :: (.invokespecial _, _) :: (.athrow, _) :: _ => (@Bool.rec (fun _ => ex_R) ((@Bool.rec (fun _ => ex_R) (none) ((@Bool.rec (fun _ => ex_R) (none) ((@Bool.rec (fun _ => ex_R) (none) ((@Bool.rec (fun _ => ex_R) (none) (some (Nat.add 549755813888 (Nat.sub aux 1000), ex_set (ex_set M 1 (Nat.succ (ex_get M 1))) 2 (Nat.add 6 (ex_get M 2)))) (Nat.ble (ex_get M 2) 100000000))) (Nat.ble (ex_get M 1) 1000000))) (Nat.ble (ex_rsum S) 8))) (Nat.ble 14 d))) (none) (ex_cov hs (Nat.add pc0 7))) | _ => none) (Nat.ble 1000 aux))) L S M = some rM := h
      rcases hw with ⟨g0, r, g1, g2, g3, g4⟩ | ⟨g0, ic, cls, g1, g2, g3, g4, g5, g6, g7, g8⟩
      · obtain ⟨t1, t2, t3, t4, t5, t6, -⟩ := hCT _ _ g1 g0
        rcases ex_br2 h with ⟨z, -⟩ | ⟨-, h⟩
        · have := Nat.le_of_ble_eq_true z; omega
        · exact z_new hx hb hW hown hmc hms g1 g0 (hT _ g2) (hT _ g3) (hT _ g4) t1 t2 (ex_tys r) t3 t4 t5 t6 hd (k0 (by
            show Nat.ble 1000 aux = false
            cases e9 : Nat.ble 1000 aux with
            | false => rfl
            | true => have := Nat.le_of_ble_eq_true e9; omega)) h
      · rcases ex_br2 h with ⟨-, h⟩ | ⟨z, -⟩
        · split at h
          · exact z_throw hx hb hml hE hWd hSs hown hT hlk hl hexc hHO hR g1 g2 g3 g4 g5 hd g6 g7 g8 h
          · cases h
        · rw [show Nat.ble 1000 aux = true from Nat.ble_eq.mpr g0] at z; cases z
    | newarray a0 =>
      have k := k0 rfl
      obtain ⟨g1, g2, g3⟩ := hw
      exact z_newarray hx hb hW hmc hms (hT _ g1) g2 g3 hd k
    | nop => exact fun _ _ _ h => nomatch h
    | pop =>
      have k := k0 rfl
      exact z_pop hx hb hE.one hd k
    | pop2 => exact fun _ _ _ h => nomatch h
    | putfield a0 =>
      have k := k0 rfl
      show ex_Z E b H0 G0 ad0 nL p l e R s m args below meth c mc ms rM (ex_pf V aux (ex_seq V ST ex_cB ex_cN d rt hs bt call exj rest)) pc0
      
      obtain ⟨r, ref, g1, g2, g3, g4, g5, g6⟩ := hw
      obtain ⟨-, -, t1, -, -, -, t2⟩ := hCT _ _ g1 (by omega)
      exact z_putfield hx hb hV hW hown g1 g2 (hT _ g3) (ex_same_of hT g4) (t1 _ g2) g5 (ex_tys r) t1 t2 (g6.imp id (fun z => ⟨z.1, hmn.trans z.2.1, z.2.2⟩)) hd k
    | putstatic a0 => exact fun _ _ _ h => nomatch h
    | ret a0 => exact fun _ _ _ h => nomatch h
    | return_ =>
      have k := k0 rfl
      exact z_return hx hb (fun z => hret.trans (hw z)) hlk hd
    | saload => exact fun _ _ _ h => nomatch h
    | sastore => exact fun _ _ _ h => nomatch h
    | sipush a0 =>
      have k := k0 rfl
      have hn := (Bool.and_eq_true _ _).mp hn
      exact z_sipush hx hb (of_decide_eq_true hn.1) (of_decide_eq_true hn.2) hd k
    | swap => exact fun _ _ _ h => nomatch h
    | tableswitch a0 a1 a2 a3 =>
      have k := k0 rfl
      obtain ⟨g1, g2, g3, g4, g5, g6⟩ := hw
      subst g1
      exact z_tableswitch hx hb hd g2 g3 g4 g5 g6 kj
end
