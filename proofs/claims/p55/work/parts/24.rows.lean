/-! a method's rows, checked; the rows' laws put together -/
def ex_ln (pc : Nat) : Instr → Nat
  | .aload _ => 2
  | .astore _ => 2
  | .bipush _ => 2
  | .dload _ => 2
  | .dstore _ => 2
  | .fstore _ => 2
  | .iload _ => 2
  | .istore _ => 2
  | .ldc _ => 2
  | .lload _ => 2
  | .lstore _ => 2
  | .newarray _ => 2
  | .anewarray _ => 3
  | .checkcast _ => 3
  | .getfield _ => 3
  | .getstatic _ => 3
  | .goto _ => 3
  | .if_acmp _ _ => 3
  | .if_icmp _ _ => 3
  | .ifCond _ _ => 3
  | .ifnonnull _ => 3
  | .ifnull _ => 3
  | .iinc _ _ => 3
  | .invokespecial _ => 3
  | .invokestatic _ => 3
  | .invokevirtual _ => 3
  | .ldc_w _ => 3
  | .ldc2_w _ => 3
  | .new _ => 3
  | .putfield _ => 3
  | .sipush _ => 3
  | .multianewarray _ _ => 4
  | .invokeinterface _ _ => 5
  | .tableswitch _ _ _ offs => 1 + (3 - pc % 4) + 12 + 4 * offs.size
  | _ => 1
def ex_nb (nL pc aux : Nat) : Instr → Bool
  | .iload a0 => decide (a0 < nL)
  | .lload a0 => decide (a0 < nL)
  | .dload a0 => decide (a0 < nL)
  | .aload a0 => decide (a0 < nL)
  | .istore a0 => decide (a0 < nL)
  | .fstore a0 => decide (a0 < nL)
  | .astore a0 => decide (a0 < nL)
  | .lstore a0 => decide (a0 + 1 < nL)
  | .dstore a0 => decide (a0 + 1 < nL)
  | .iload_n a0 => decide (a0.val < nL)
  | .lload_n a0 => decide (a0.val < nL)
  | .dload_n a0 => decide (a0.val < nL)
  | .aload_n a0 => decide (a0.val < nL)
  | .istore_n a0 => decide (a0.val < nL)
  | .fstore_n a0 => decide (a0.val < nL)
  | .astore_n a0 => decide (a0.val < nL)
  | .lstore_n a0 => decide (a0.val + 1 < nL)
  | .dstore_n a0 => decide (a0.val + 1 < nL)
  | .iconst a0 => decide (aux < 4294967296) && decide (Int32.ofInt a0 = nI aux)
  | .bipush a0 => decide (aux < 4294967296) && decide ((Int8.ofInt a0).toInt32 = nI aux)
  | .sipush a0 => decide (aux < 4294967296) && decide ((Int16.ofInt a0).toInt32 = nI aux)
  | .lconst a0 => Nat.beq aux (412316860416 + a0.val)
  | .fconst a0 => decide (a0 = 0) && Nat.beq aux 34359738368
  | .iinc a0 a1 => decide (a0 < nL) && decide (Int32.ofInt a1 = nI aux)
  | .ifCond a0 a1 => decide ((pc : Int) + a1 = (aux : Int))
  | .if_icmp a0 a1 => decide ((pc : Int) + a1 = (aux : Int))
  | .if_acmp a0 a1 => decide ((pc : Int) + a1 = (aux : Int))
  | .ifnull a0 => decide ((pc : Int) + a0 = (aux : Int))
  | .ifnonnull a0 => decide ((pc : Int) + a0 = (aux : Int))
  | .goto a0 => decide ((pc : Int) + a0 = (aux : Int))
  | _ => true
def ex_tys (r : vw_C) (j : Nat) : FieldType := (parseFieldDescriptor (r.2.1 j).2.2.1).getD .int
/-- of a method that is called: its code's word, its size, how many it takes -/
def ex_MF (X : ex_X) (q : ex_I) (n : Nat) : Prop := ex_cw q ∈ ex_TT X.2.2 ∧ q.2.2.1 ≤ 81 ∧ (q.1.cls ≠ "java/lang/invoke/MethodHandle" ∧ q.1.cls ≠ "java/lang/invoke/VarHandle" ∧ (parseMethodDescriptor q.1.desc).map (fun d => d.parameters.length) = some n) ∧ Cond.initialized q.1.cls ∈ ex_TT X.2.2
/-- a field's link -/
def ex_FL (X : ex_X) (own : String) (index : Nat) (ref n d : String) : Prop := Cond.fieldLink own index ref n d ∈ ex_TT X.2.2 ∨ ∃ host, Cond.fieldLinkNest own index ref n d host ∈ ex_TN
def ex_sm (X : ex_X) (ref o n d : String) : Prop := ref = o ∨ Cond.sameField ref o n d ∈ ex_TT X.2.2
/-- what a row of code needs beside numbers -/
def ex_RW (X : ex_X) (inf : Nat → ex_I) (own mn : String) (cc : ByteArray) (rt : Nat) (ret : Option FieldType) (pc aux : Nat) : Instr → Prop
  | .ldc index => (aux < 4294967296 ∧ Cond.constant own index (nI aux) ∈ ex_TT X.2.2) ∨ ((17179869184 ≤ aux ∧ aux < 34359738368) ∧ ∃ tx, (own, index, tx, aux) ∈ ex_srl)
  | .ldc_w index => (aux < 4294967296 ∧ Cond.constant own index (nI aux) ∈ ex_TT X.2.2) ∨ ((17179869184 ≤ aux ∧ aux < 34359738368) ∧ ∃ tx, (own, index, tx, aux) ∈ ex_srl)
  | .ldc2_w index => (274877906944 ≤ aux ∧ aux ≤ 549755813887 ∧ Cond.constantLong own index (Int64.ofInt ((aux : Int) - 412316860416)) ∈ ex_TT X.2.2) ∨ (aux = 34359738370 ∧ Cond.constantDouble own index 4620693217682128896 ∈ ex_TT X.2.2)
  | .getstatic index => (aux < 8589934592 ∨ 17179869184 ≤ aux) ∧ ∃ ref nf df, (ref, nf, df, aux) ∈ ex_sfl ∧ ex_FL X own index ref nf df
  | .getfield index => ∃ (r : vw_C) (ref : String), ex_cl[aux / 64 % 64]? = some r ∧ aux % 64 < r.2.2 ∧ ex_FL X own index ref (r.2.1 (aux % 64)).2.1 (r.2.1 (aux % 64)).2.2.1 ∧ ex_sm X ref (r.2.1 (aux % 64)).1 (r.2.1 (aux % 64)).2.1 (r.2.1 (aux % 64)).2.2.1
  | .putfield index => ∃ (r : vw_C) (ref : String), ex_cl[aux / 64 % 64]? = some r ∧ aux % 64 < r.2.2 ∧ Cond.fieldLink own index ref (r.2.1 (aux % 64)).2.1 (r.2.1 (aux % 64)).2.2.1 ∈ ex_TT X.2.2 ∧ ex_sm X ref (r.2.1 (aux % 64)).1 (r.2.1 (aux % 64)).2.1 (r.2.1 (aux % 64)).2.2.1 ∧
      ex_tc (aux / 4096 % 16) (ex_tys r (aux % 64)) = true ∧ ((r.2.1 (aux % 64)).2.2.2 = false ∨ ((r.2.1 (aux % 64)).2.2.2 = true ∧ mn = "<init>" ∧ (r.2.1 (aux % 64)).1 = own))
  | .new index => (aux < 64 ∧ ∃ r : vw_C, ex_cl[aux]? = some r ∧ Cond.classLink own index r.1 ∈ ex_TT X.2.2 ∧ Cond.instantiable r.1 r.2.2 ∈ ex_TT X.2.2 ∧ Cond.initialized r.1 ∈ ex_TT X.2.2) ∨
      (1000 ≤ aux ∧ ∃ (ic : Nat) (cls : String), ex_xn (aux - 1000) = cls ∧ Bundle.fit cls = true ∧ Cond.classLink own index cls ∈ ex_TT X.2.2 ∧ Cond.initialized cls ∈ ex_TT X.2.2 ∧ (∀ w ∈ vx_at0 own ic cls ["java/lang/RuntimeException", "java/lang/Exception"], (w ∈ ex_TT X.2.2 ∨ w ∈ ex_TN) ∧ vx_ot w = true) ∧
        decode cc (pc + 3) = .ok (.dup, 1) ∧ decode cc (pc + 4) = .ok (.invokespecial ic, 3) ∧ decode cc (pc + 7) = .ok (.athrow, 1))
  | .newarray t => Cond.arrayClass (newarray.typeOf t) ∈ ex_TT X.2.2 ∧ (64 ≤ aux ∧ aux ≤ 69) ∧ newarray.typeOf t = ex_ty aux
  | .anewarray index => (aux = 70 ∧ Cond.classLink own index "java/lang/Object" ∈ ex_TT X.2.2) ∨ (aux = 71 ∧ Cond.classLink own index "[I" ∈ ex_TT X.2.2)
  | .multianewarray index dims => dims = 2 ∧ Cond.classLink own index "[[I" ∈ ex_TT X.2.2 ∧ Cond.arrayClass .int ∈ ex_TT X.2.2
  | .checkcast index => (aux < 64 ∧ ∃ (r : vw_C) (nm : String), ex_cl[aux]? = some r ∧ Cond.classLink own index nm ∈ ex_TT X.2.2 ∧ (Cond.castable r.1 nm ∈ ex_TN ∨ nm = r.1)) ∨ (64 ≤ aux ∧ aux ≤ 71 ∧ Cond.classLink own index ("[" ++ (ex_ty aux).toString) ∈ ex_TT X.2.2)
  | .tableswitch dflt lo hi offs => lo = 0 ∧ (pc : Int) + dflt = (ex_get aux 0 : Int) ∧ ex_get aux 1 = 0 ∧ hi + 1 = (ex_get aux 2 : Int) ∧ ex_get aux 2 < 2147483648 ∧ ∀ i, i < ex_get aux 2 → ∃ off, offs[i]? = some off ∧ (pc : Int) + off = (ex_get aux (3 + i) : Int)
  | .invokestatic index => aux / 32 % 256 = 255 ∧ ex_MF X (inf (aux / 8192 - 16)) (aux % 32) ∧ Cond.methodLink own index (inf (aux / 8192 - 16)).1 ∈ ex_TT X.2.2 ∧ Cond.static (inf (aux / 8192 - 16)).1 ∈ ex_TT X.2.2
  | .invokevirtual index => (aux = 1 ∧ Cond.methodLink own index ⟨"[I", "clone", "()Ljava/lang/Object;"⟩ ∈ ex_TT X.2.2 ∧ Cond.sameMethod "[I" "java/lang/Object" "clone" "()Ljava/lang/Object;" ∈ ex_TT X.2.2 ∧ Cond.native ⟨"java/lang/Object", "clone", "()Ljava/lang/Object;"⟩ ∈ ex_TT X.2.2 ∧ Cond.instanceMethod ⟨"java/lang/Object", "clone", "()Ljava/lang/Object;"⟩ ∈ ex_TT X.2.2 ∧
        Cond.selects "[I" ⟨"[I", "clone", "()Ljava/lang/Object;"⟩ ⟨"java/lang/Object", "clone", "()Ljava/lang/Object;"⟩ ∈ ex_TT X.2.2 ∧ Cond.castable "[I" "java/lang/Cloneable" ∈ ex_TN) ∨
      (aux ≠ 1 ∧ ∃ (n : Nat) (r : vw_C), ex_MF X (inf (aux / 8192 - 16)) n ∧ aux % 32 = n + 1 ∧ aux / 32 % 256 < 64 ∧ ex_cl[aux / 32 % 256]? = some r ∧ (inf (aux / 8192 - 16)).1.cls = r.1 ∧ Cond.methodLink own index (inf (aux / 8192 - 16)).1 ∈ ex_TT X.2.2 ∧ Cond.instanceMethod (inf (aux / 8192 - 16)).1 ∈ ex_TT X.2.2 ∧ Cond.selects r.1 (inf (aux / 8192 - 16)).1 (inf (aux / 8192 - 16)).1 ∈ ex_TT X.2.2)
  | .invokeinterface index _ => ∃ (n k : Nat) (r : vw_C) (x0 : MethodName), ex_MF X (inf (aux / 8192 - 16)) k ∧ aux % 32 = n + 1 ∧ aux / 32 % 256 < 64 ∧ ex_cl[aux / 32 % 256]? = some r ∧ Cond.methodLink own index x0 ∈ ex_TT X.2.2 ∧ Cond.selects r.1 x0 (inf (aux / 8192 - 16)).1 ∈ ex_TT X.2.2 ∧ Cond.instanceMethod (inf (aux / 8192 - 16)).1 ∈ ex_TT X.2.2 ∧ (r.1, x0, (inf (aux / 8192 - 16)).1) ∈ X.2.1 ∧
      (x0.cls ≠ "java/lang/invoke/MethodHandle" ∧ x0.cls ≠ "java/lang/invoke/VarHandle" ∧ (parseMethodDescriptor x0.desc).map (fun d => d.parameters.length) = some n)
  | .invokespecial index => (aux = 0 ∧ Cond.methodLink own index Lib.objectInit ∈ ex_TT X.2.2 ∧ Cond.instanceMethod Lib.objectInit ∈ ex_TT X.2.2 ∧ Cond.code Lib.objectInit ⟨#[0xb1]⟩ 1 none ∈ ex_TT X.2.2) ∨
      (aux ≠ 0 ∧ ∃ n : Nat, ex_MF X (inf (aux / 8192 - 16)) n ∧ aux % 32 = n + 1 ∧ aux / 32 % 256 = 254 ∧ (Cond.methodLink own index (inf (aux / 8192 - 16)).1 ∈ ex_TT X.2.2 ∨ ∃ host, Cond.methodLinkNest own index (inf (aux / 8192 - 16)).1 host ∈ ex_TN) ∧ Cond.instanceMethod (inf (aux / 8192 - 16)).1 ∈ ex_TT X.2.2 ∧ (inf (aux / 8192 - 16)).1.name = "<init>" ∧ (inf (aux / 8192 - 16)).2.2.2 = (none, none))
  | .ireturn => ∃ ty, ret = some ty ∧ ex_tc rt ty = true
  | .areturn => ∃ ty, rt = 5 → ret = some ty ∧ ((∃ n, ty = .object n) ∨ ∃ t, ty = .array t)
  | .lreturn => rt = 3 → ret = some .long
  | .freturn => rt = 7 → ret = some .float
  | .dreturn => rt = 8 → ret = some .double
  | .return_ => rt = 15 → ret = none
  | _ => True
/-- the instructions that are evaluated; rows behind which nothing is -/
def ex_sup : Instr → Bool
  | .aaload  => true
  | .aastore  => true
  | .aconst_null  => true
  | .aload _ => true
  | .aload_n _ => true
  | .anewarray _ => true
  | .areturn  => true
  | .arraylength  => true
  | .astore _ => true
  | .astore_n _ => true
  | .baload  => true
  | .bastore  => true
  | .bipush _ => true
  | .caload  => true
  | .castore  => true
  | .checkcast _ => true
  | .dcmp _ => true
  | .ddiv  => true
  | .dload _ => true
  | .dload_n _ => true
  | .dreturn  => true
  | .dstore _ => true
  | .dstore_n _ => true
  | .dup  => true
  | .dup_x1  => true
  | .dup2  => true
  | .fconst _ => true
  | .freturn  => true
  | .fstore _ => true
  | .fstore_n _ => true
  | .getfield _ => true
  | .getstatic _ => true
  | .goto _ => true
  | .i2b  => true
  | .i2c  => true
  | .i2d  => true
  | .i2l  => true
  | .iadd  => true
  | .iaload  => true
  | .iand  => true
  | .iastore  => true
  | .iconst _ => true
  | .idiv  => true
  | .if_acmp _ _ => true
  | .if_icmp _ _ => true
  | .ifCond _ _ => true
  | .ifnonnull _ => true
  | .ifnull _ => true
  | .iinc _ _ => true
  | .iload _ => true
  | .iload_n _ => true
  | .imul  => true
  | .ineg  => true
  | .invokeinterface _ _ => true
  | .invokespecial _ => true
  | .invokestatic _ => true
  | .invokevirtual _ => true
  | .ior  => true
  | .irem  => true
  | .ireturn  => true
  | .ishl  => true
  | .ishr  => true
  | .istore _ => true
  | .istore_n _ => true
  | .isub  => true
  | .ixor  => true
  | .l2d  => true
  | .ladd  => true
  | .laload  => true
  | .lastore  => true
  | .lcmp  => true
  | .lconst _ => true
  | .ldc _ => true
  | .ldc_w _ => true
  | .ldc2_w _ => true
  | .lload _ => true
  | .lload_n _ => true
  | .lreturn  => true
  | .lstore _ => true
  | .lstore_n _ => true
  | .lsub  => true
  | .multianewarray _ _ => true
  | .new _ => true
  | .newarray _ => true
  | .pop  => true
  | .putfield _ => true
  | .return_  => true
  | .sipush _ => true
  | .tableswitch _ _ _ _ => true
  | _ => false
def ex_stop (aux : Nat) : Instr → Bool | .new _ => Nat.ble 1000 aux | _ => false
/-- a class can be cast to itself -/
theorem ex_cself {args : Array Value} {s : State} {C : String} {c : ClassId} (h : s.vm.findClass C = some c) : (Cond.castable C C).before args s = true := by
  have ha : s.vm.assignable c c = true := by
    show s.vm.assignableAux _ c c = true
    unfold Vm.assignableAux
    simp
  unfold Cond.before Cond.holds
  simp only [Cond.value]
  rw [h]
  simp [ha]
/-- rows of code, one behind the other -/
def ex_BK (X : ex_X) (inf : Nat → ex_I) (own mn : String) (cc : ByteArray) (nL rt : Nat) (ret : Option FieldType) : List ex_E → Nat → Prop
  | [], _ => True
  | e :: r, pc => ex_sup e.1 = false ∨ (e.2.1 = pc ∧ decode cc pc = .ok (e.1, ex_ln pc e.1) ∧ ex_nb nL pc e.2.2 e.1 = true) ∧ ex_RW X inf own mn cc rt ret pc e.2.2 e.1 ∧ (ex_stop e.2.2 e.1 = true ∨ ex_BK X inf own mn cc nL rt ret r (pc + ex_ln pc e.1))
/-- the classes' words -/
def ex_CW (X : ex_X) : Prop := (∀ (k : Nat) (q : vw_C), ex_cl[k]? = some q → ∀ w ∈ u_ws q.1 q.2.1 q.2.2, w ∈ ex_TT X.2.2) ∧ (∀ (k : Nat) (q : vw_C), ex_cl[k]? = some q → Cond.castable q.1 "java/lang/Object" ∈ ex_TN) ∧ (∀ kd, 64 ≤ kd → kd ≤ 71 → Cond.castable ("[" ++ (ex_ty kd).toString) "java/lang/Object" ∈ ex_TN)
/-- the classes' tables -/
def ex_CT : Prop := ∀ (k : Nat) (r : vw_C), ex_cl[k]? = some r → k < 64 → ex_cN k = r.2.2 ∧ r.2.2 < 64 ∧ (∀ j, j < r.2.2 → parseFieldDescriptor (r.2.1 j).2.2.1 = some (ex_tys r j)) ∧ ex_cB k < 2 ^ (40 * (r.2.2 + 1)) ∧ ex_get (ex_cB k) 0 = k + 256 * r.2.2 ∧ (∀ j, j < r.2.2 → ex_get (ex_cB k) (j + 1) = ex_dv (ex_tys r j)) ∧ (∀ a, a < r.2.2 → ∀ b, b < r.2.2 → a ≠ b → (r.2.1 a).2.1 ≠ (r.2.1 b).2.1)
theorem ex_lvC {E : ex_G} {aux : Nat} (h1 : 274877906944 ≤ aux) : ex_lv E aux = Int64.ofInt ((aux : Int) - 412316860416) := by
  unfold ex_lv; rw [if_neg (by omega)]
/-- the first rows of a block, but their words -/
def ex_sb (cc : ByteArray) (nL pe : Nat) : Nat → List ex_E → Nat → Bool
  | 0, _, pc => Nat.beq pc pe
  | _ + 1, [], _ => false
  | n + 1, e :: r, pc => Nat.beq e.2.1 pc && decide (decode cc pc = .ok (e.1, ex_ln pc e.1)) && ex_nb nL pc e.2.2 e.1 && !ex_stop e.2.2 e.1 && ex_sb cc nL pe n r (pc + ex_ln pc e.1)
def ex_isW : Instr → Bool
  | .ldc _ => true
  | .ldc_w _ => true
  | .ldc2_w _ => true
  | .getstatic _ => true
  | .getfield _ => true
  | .putfield _ => true
  | .new _ => true
  | .newarray _ => true
  | .anewarray _ => true
  | .multianewarray _ _ => true
  | .checkcast _ => true
  | .tableswitch _ _ _ _ => true
  | .invokestatic _ => true
  | .invokevirtual _ => true
  | .invokeinterface _ _ => true
  | .invokespecial _ => true
  | .ireturn  => true
  | .areturn  => true
  | .lreturn  => true
  | .freturn  => true
  | .dreturn  => true
  | .return_  => true
  | _ => false
/-- their words -/
def ex_sw (X : ex_X) (inf : Nat → ex_I) (own mn : String) (cc : ByteArray) (rt : Nat) (ret : Option FieldType) : Nat → List ex_E → Prop
  | 0, _ => True
  | _ + 1, [] => True
  | n + 1, e :: r => match ex_isW e.1 with
    | true => ex_RW X inf own mn cc rt ret e.2.1 e.2.2 e.1 ∧ ex_sw X inf own mn cc rt ret n r
    | false => ex_sw X inf own mn cc rt ret n r
theorem ex_RWt {X : ex_X} {inf : Nat → ex_I} {own mn : String} {cc : ByteArray} {rt : Nat} {ret : Option FieldType} {pc aux : Nat} {i : Instr} (h : ex_isW i = false) : ex_RW X inf own mn cc rt ret pc aux i := by
  cases i <;> first | exact trivial | cases h
theorem ex_seg {X : ex_X} {inf : Nat → ex_I} {own mn : String} {cc : ByteArray} {nL rt : Nat} {ret : Option FieldType} {pe : Nat} : ∀ (n : Nat) {l : List ex_E} {pc : Nat}, ex_sb cc nL pe n l pc = true → ex_sw X inf own mn cc rt ret n l → ex_BK X inf own mn cc nL rt ret (l.drop n) pe → ex_BK X inf own mn cc nL rt ret l pc
  | 0, l, pc, h1, _, h3 => by
    have h1 : pc = pe := Nat.eq_of_beq_eq_true h1
    subst h1
    exact h3
  | n + 1, [], pc, h1, _, _ => by cases h1
  | n + 1, e :: r, pc, h1, h2, h3 => by
    have h1 : (Nat.beq e.2.1 pc && decide (decode cc pc = .ok (e.1, ex_ln pc e.1)) && ex_nb nL pc e.2.2 e.1 && !ex_stop e.2.2 e.1 && ex_sb cc nL pe n r (pc + ex_ln pc e.1)) = true := h1
    simp only [Bool.and_eq_true, decide_eq_true_eq] at h1
    obtain ⟨⟨⟨⟨g1, g2⟩, g3⟩, -⟩, g4⟩ := h1
    have g1 := Nat.eq_of_beq_eq_true g1
    subst g1
    have h2 : (match ex_isW e.1 with | true => ex_RW X inf own mn cc rt ret e.2.1 e.2.2 e.1 ∧ ex_sw X inf own mn cc rt ret n r | false => ex_sw X inf own mn cc rt ret n r) := h2
    cases hw : ex_isW e.1 with
    | true =>
      rw [hw] at h2
      exact Or.inr ⟨⟨rfl, g2, g3⟩, h2.1, Or.inr (ex_seg n g4 h2.2 h3)⟩
    | false =>
      rw [hw] at h2
      exact Or.inr ⟨⟨rfl, g2, g3⟩, ex_RWt hw, Or.inr (ex_seg n g4 h2 h3)⟩
/-- a throw ends a block -/
theorem ex_segT {X : ex_X} {inf : Nat → ex_I} {own mn : String} {cc : ByteArray} {nL rt : Nat} {ret : Option FieldType} {e : ex_E} {r : List ex_E} {pc : Nat} (h1 : (Nat.beq e.2.1 pc && decide (decode cc pc = .ok (e.1, ex_ln pc e.1)) && ex_nb nL pc e.2.2 e.1 && ex_stop e.2.2 e.1) = true) (h2 : ex_RW X inf own mn cc rt ret pc e.2.2 e.1) : ex_BK X inf own mn cc nL rt ret (e :: r) pc := by
  simp only [Bool.and_eq_true, decide_eq_true_eq] at h1
  obtain ⟨⟨⟨g1, g2⟩, g3⟩, g4⟩ := h1
  have g1 := Nat.eq_of_beq_eq_true g1
  exact Or.inr ⟨⟨g1, g2, g3⟩, h2, Or.inl g4⟩
/-- what isn't evaluated ends it too -/
theorem ex_segU {X : ex_X} {inf : Nat → ex_I} {own mn : String} {cc : ByteArray} {nL rt : Nat} {ret : Option FieldType} {pc aux : Nat} {r : List ex_E} {pc' : Nat} : ex_BK X inf own mn cc nL rt ret ((.athrow, pc', aux) :: r) pc := Or.inl rfl
/-- a method's blocks by where they begin -/
theorem ex_leaf {P : List ex_E → Nat → Prop} {q : List ex_E} {k : Nat} (h0 : ∀ t, P [] t) (h : P q k) : ∀ t, P (@Bool.rec (fun _ => List ex_E) [] q (Nat.beq t k)) t := fun t => by
  cases e : Nat.beq t k with
  | true => have := Nat.eq_of_beq_eq_true e; subst this; exact h
  | false => exact h0 t
theorem ex_node {P : List ex_E → Nat → Prop} {f g : ex_CD} {k : Nat} (hf : ∀ t, P (f t) t) (hg : ∀ t, P (g t) t) : ∀ t, P (@Bool.rec (fun _ => ex_CD) g f (Nat.ble t k) t) t := fun t => by
  cases Nat.ble t k with
  | true => exact hf t
  | false => exact hg t
section
variable {E : ex_G} {b : Nat} {H0 : Heap} {G0 : List Nat} {ad0 : Nat → Nat} {nL : Nat} {p : Program} {l : Launch} {e : Env} {R : Room} {s : State} {m : MethodId} {args : Array Value} {below : List Frame} {meth : Method} {c : Code} {mc ms : Nat} {rM : Nat × Nat} {cc : ByteArray} {pc : Nat} {nx : ex_K}
theorem ex_noZ {ST : Nat → Nat} {exj : Nat → ex_K} : ex_Z E b H0 G0 ad0 nL p l e R s m args below meth c mc ms rM (fun _ _ _ => none) pc := fun _ _ _ h => nomatch h
theorem ex_same_of {ref o n d : String} {X : ex_X} (hT : ∀ w ∈ ex_TT X.2.2, w.before args s = true) (h : ex_sm X ref o n d) : ∀ x, s.fieldFound? o n d = some x → s.fieldFound? ref n d = some x := by
  rcases h with rfl | h
  · exact fun _ h => h
  · exact fun x hx => u_same (hT _ h) x hx
end
