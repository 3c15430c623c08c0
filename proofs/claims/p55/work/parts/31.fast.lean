noncomputable section

/-! quicker rows -/
def ex_gt (M i : Nat) : Nat := Nat.land (Nat.shiftRight M (Nat.mul (nat_lit 40) i)) (nat_lit 1099511627775)
theorem ex_gtE : ex_gt = ex_get := by
  funext M i
  exact Nat.and_two_pow_sub_one_eq_mod (M >>> (40 * i)) 40
def ex_gs (M i v : Nat) : Nat := Nat.xor M (Nat.shiftLeft (Nat.xor (ex_gt M i) v) (Nat.mul (nat_lit 40) i))
theorem ex_gsE : ex_gs = ex_set := by
  unfold ex_gs ex_set
  simp only [ex_gtE]
def g_hd (ST : Nat → Nat) (M c : Nat) : Nat := (@Bool.rec (fun _ => Nat) (ex_gt M (Nat.sub c (nat_lit 8589934592))) (ex_gt (ST (Nat.sub c (nat_lit 17179869184))) 0) (Nat.ble (nat_lit 17179869184) c))
theorem g_hdE : g_hd = ex_hd := by
  unfold g_hd ex_hd
  simp only [ex_gtE]
def g_sl (ST : Nat → Nat) (M c i : Nat) : Nat := (@Bool.rec (fun _ => Nat) (ex_gt M (Nat.add (Nat.sub c (nat_lit 8589934592)) (Nat.succ i))) (ex_gt (ST (Nat.sub c (nat_lit 17179869184))) (Nat.succ i)) (Nat.ble (nat_lit 17179869184) c))
abbrev ex_C : Type := ex_V → (Nat → Nat) → Nat → (Nat → List Nat → Nat → ex_R) → (Nat → ex_K) → ex_K
def ex_CE (rt : Nat) (hs : ex_H) (bt : ex_CD) (c : ex_C) (l : List ex_E) : Prop := ∀ V ST d call ex, c V ST d call ex = ex_seq V ST ex_cB ex_cN d rt hs bt call ex l

/-- an operation where one is a variable -/
def ex_sl2 (V : ex_V) (op a b : Nat) (nx : ex_K) : ex_K := fun L T M => (@Bool.rec (fun _ => ex_R) ((@Bool.rec (fun _ => ex_R) (none) ((@Bool.rec (fun _ => ex_R) (none) (ex_tld V (ex_key op a b) nx L T M) (ex_tI b))) (ex_tI a))) ((@Bool.rec (fun _ => ex_R) ((@Bool.rec (fun _ => ex_R) (none) (ex_tld V (ex_key op a b) nx L T M) (ex_tI b))) (none) (Nat.ble b (nat_lit 4294967295)))) (Nat.ble a (nat_lit 4294967295)))
def ex_lsE (S S' : List Nat) : Prop := S = S'
theorem g_slE : g_sl = ex_sl := by
  unfold g_sl ex_sl
  simp only [ex_gtE]

def g_ast (kd : Nat → Bool) (t : Nat → Nat → Nat → Bool) (nx : ex_K) : ex_K := fun L S M => (@List.rec Nat (fun _ => ex_R) none (fun v T_0 _ => (@List.rec Nat (fun _ => ex_R) none (fun i T_1 _ => (@List.rec Nat (fun _ => ex_R) none (fun c T _ => (@Bool.rec (fun _ => ex_R) (none) ((@Bool.rec (fun _ => ex_R) (none) ((@Bool.rec (fun _ => ex_R) (none) ((@Bool.rec (fun _ => ex_R) (none) (nx L T (ex_gs M (Nat.add (Nat.sub c 8589934592) (Nat.succ i)) v)) (t M (Nat.mod (ex_gt M (Nat.sub c 8589934592)) 256) v))) (Nat.ble (Nat.succ i) (Nat.div (ex_gt M (Nat.sub c 8589934592)) 256)))) (kd (Nat.mod (ex_gt M (Nat.sub c 8589934592)) 256)))) (ex_isD c))) T_1)) T_0)) S)
theorem g_astE : g_ast = ex_ast := by
  unfold g_ast ex_ast
  simp only [ex_gtE, ex_gsE]

def g_alloc (M B n : Nat) (k : Nat → Nat → ex_R) : ex_R :=
  (@Nat.rec (fun _ => ex_R) (none) (fun t _ => (@Bool.rec (fun _ => ex_R) (none) ((@Bool.rec (fun _ => ex_R) (none) ((@Bool.rec (fun _ => ex_R) (none) (k (Nat.add 8589934593 t) (ex_gs (ex_gs (ex_gs (Nat.xor M (Nat.shiftLeft B (Nat.mul 40 (Nat.succ t)))) 0 (Nat.add (Nat.succ t) (Nat.succ n))) 1 (Nat.succ (ex_gt M 1))) 2 (Nat.add n (ex_gt M 2)))) (Nat.ble (ex_gt M 2) 100000000))) (Nat.ble (ex_gt M 1) 1000000))) (Nat.ble t 200000))) (ex_gt M 0))
theorem g_allocE : g_alloc = ex_alloc := by
  unfold g_alloc ex_alloc
  simp only [ex_gtE, ex_gsE]
def g_pack : List Nat → Nat → Nat → Nat := fun l => List.rec (fun _ L => L) (fun a _ ih i L => ih ((@Bool.rec (fun _ => Nat) (Nat.succ i) (Nat.add i 2) (ex_c2 a))) (ex_gs L i a)) l
theorem g_packE : g_pack = ex_pack := by
  unfold g_pack ex_pack
  simp only [ex_gsE]
/-- a throw of the class's own -/
def c_newx (v : Nat) : ex_C := fun V ST d call ex L S M => (@Bool.rec (fun _ => ex_R) (none) ((@Bool.rec (fun _ => ex_R) (none) ((@Bool.rec (fun _ => ex_R) (none) ((@Bool.rec (fun _ => ex_R) (none) (some (v, ex_gs (ex_gs M 1 (Nat.succ (ex_gt M 1))) 2 (Nat.add 6 (ex_gt M 2)))) (Nat.ble (ex_gt M 2) 100000000))) (Nat.ble (ex_gt M 1) 1000000))) (Nat.ble (ex_rsum S) 8))) (Nat.ble 14 d))
theorem e_newx {rt : Nat} {hs : ex_H} {bt : ex_CD} {rest : List ex_E} (pc aux i j v : Nat) {p1 p2 p3 : Nat × Nat} (h1 : Nat.ble 1000 aux = true) (h2 : ex_cov hs (Nat.add pc 7) = false) (h3 : Nat.add 549755813888 (Nat.sub aux 1000) = v) : ex_CE rt hs bt (c_newx v) ((.new i, pc, aux) :: (.dup, p1) :: (.invokespecial j, p2) :: (.athrow, p3) :: rest) := by
  intro V ST d call ex
  show _ = s_new i V ST ex_cB ex_cN d rt hs bt call ex ((.dup, p1) :: (.invokespecial j, p2) :: (.athrow, p3) :: rest) pc aux (ex_seq V ST ex_cB ex_cN d rt hs bt call ex ((.dup, p1) :: (.invokespecial j, p2) :: (.athrow, p3) :: rest))
  subst h3
  unfold s_new
  rw [h1]
  dsimp only
  rw [h2]
  unfold c_newx
  simp only [ex_gtE, ex_gsE]
def c_newo (B n : Nat) (nx : ex_C) : ex_C := fun V ST d call ex L S M => g_alloc M B n (fun c M => nx V ST d call ex L (c :: S) M)
theorem e_newo {rt : Nat} {hs : ex_H} {bt : ex_CD} {nx : ex_C} {rest : List ex_E} (pc aux i B n : Nat) (h1 : Nat.ble 1000 aux = false) (h2 : ex_cB aux = B) (h3 : ex_cN aux = n) (h : ex_CE rt hs bt nx rest) : ex_CE rt hs bt (c_newo B n nx) ((.new i, pc, aux) :: rest) := by
  intro V ST d call ex
  show _ = s_new i V ST ex_cB ex_cN d rt hs bt call ex rest pc aux (ex_seq V ST ex_cB ex_cN d rt hs bt call ex rest)
  rw [← h V ST d call ex]
  subst h2 h3
  unfold s_new
  rw [h1]
  unfold c_newo
  simp only [g_allocE]
def c_newarr (kd z : Nat) (nx : ex_C) : ex_C := fun V ST d call ex L S M => (@List.rec Nat (fun _ => ex_R) none (fun n T _ => (@Bool.rec (fun _ => ex_R) (none) (g_alloc M (ex_blk kd n z) n (fun c M => nx V ST d call ex L (c :: T) M)) (Nat.ble n 100000))) S)
theorem e_newarr {rt : Nat} {hs : ex_H} {bt : ex_CD} {nx : ex_C} {rest : List ex_E} (pc aux z : Nat) {i : ArrayType} (h1 : ex_zero aux = z) (h : ex_CE rt hs bt nx rest) : ex_CE rt hs bt (c_newarr aux z nx) ((.newarray i, pc, aux) :: rest) := by
  intro V ST d call ex
  show _ = s_newarray i V ST ex_cB ex_cN d rt hs bt call ex rest pc aux (ex_seq V ST ex_cB ex_cN d rt hs bt call ex rest)
  rw [← h V ST d call ex]
  subst h1
  unfold c_newarr
  simp only [g_allocE]; rfl
def c_iload (n : Nat) (nx : ex_C) : ex_C := fun V ST d call ex L S M => (@Bool.rec (fun _ => ex_R) (none) (nx V ST d call ex L (ex_gt L n :: S) M) (ex_tI (ex_gt L n)))
theorem e_iload_iload {rt : Nat} {hs : ex_H} {bt : ex_CD} {nx : ex_C} {rest : List ex_E} (pc aux : Nat) (n : Nat)   (h : ex_CE rt hs bt nx rest) : ex_CE rt hs bt (c_iload n nx) ((.iload n, pc, aux) :: rest) := by
  intro V ST d call ex
  show _ = s_iload n V ST ex_cB ex_cN d rt hs bt call ex rest pc aux (ex_seq V ST ex_cB ex_cN d rt hs bt call ex rest)
  rw [← h V ST d call ex]
  unfold c_iload; simp only [ex_gtE]; rfl
theorem e_iload_iload_n {rt : Nat} {hs : ex_H} {bt : ex_CD} {nx : ex_C} {rest : List ex_E} (pc aux : Nat) (n : Nat) (n0 : Fin 4)   (hn : n0.val = n) (h : ex_CE rt hs bt nx rest) : ex_CE rt hs bt (c_iload n nx) ((.iload_n n0, pc, aux) :: rest) := by
  intro V ST d call ex
  show _ = s_iload_n n0 V ST ex_cB ex_cN d rt hs bt call ex rest pc aux (ex_seq V ST ex_cB ex_cN d rt hs bt call ex rest)
  rw [← h V ST d call ex]
  subst hn
  unfold c_iload; simp only [ex_gtE]; rfl
def c_aload (n : Nat) (nx : ex_C) : ex_C := fun V ST d call ex L S M => (@Bool.rec (fun _ => ex_R) (none) (nx V ST d call ex L (ex_gt L n :: S) M) (ex_tA (ex_gt L n)))
theorem e_aload_aload {rt : Nat} {hs : ex_H} {bt : ex_CD} {nx : ex_C} {rest : List ex_E} (pc aux : Nat) (n : Nat)   (h : ex_CE rt hs bt nx rest) : ex_CE rt hs bt (c_aload n nx) ((.aload n, pc, aux) :: rest) := by
  intro V ST d call ex
  show _ = s_aload n V ST ex_cB ex_cN d rt hs bt call ex rest pc aux (ex_seq V ST ex_cB ex_cN d rt hs bt call ex rest)
  rw [← h V ST d call ex]
  unfold c_aload; simp only [ex_gtE]; rfl
theorem e_aload_aload_n {rt : Nat} {hs : ex_H} {bt : ex_CD} {nx : ex_C} {rest : List ex_E} (pc aux : Nat) (n : Nat) (n0 : Fin 4)   (hn : n0.val = n) (h : ex_CE rt hs bt nx rest) : ex_CE rt hs bt (c_aload n nx) ((.aload_n n0, pc, aux) :: rest) := by
  intro V ST d call ex
  show _ = s_aload_n n0 V ST ex_cB ex_cN d rt hs bt call ex rest pc aux (ex_seq V ST ex_cB ex_cN d rt hs bt call ex rest)
  rw [← h V ST d call ex]
  subst hn
  unfold c_aload; simp only [ex_gtE]; rfl
def c_lload (n : Nat) (nx : ex_C) : ex_C := fun V ST d call ex L S M => (@Bool.rec (fun _ => ex_R) (none) (nx V ST d call ex L (ex_gt L n :: S) M) (ex_tL (ex_gt L n)))
theorem e_lload_lload {rt : Nat} {hs : ex_H} {bt : ex_CD} {nx : ex_C} {rest : List ex_E} (pc aux : Nat) (n : Nat)   (h : ex_CE rt hs bt nx rest) : ex_CE rt hs bt (c_lload n nx) ((.lload n, pc, aux) :: rest) := by
  intro V ST d call ex
  show _ = s_lload n V ST ex_cB ex_cN d rt hs bt call ex rest pc aux (ex_seq V ST ex_cB ex_cN d rt hs bt call ex rest)
  rw [← h V ST d call ex]
  unfold c_lload; simp only [ex_gtE]; rfl
theorem e_lload_lload_n {rt : Nat} {hs : ex_H} {bt : ex_CD} {nx : ex_C} {rest : List ex_E} (pc aux : Nat) (n : Nat) (n0 : Fin 4)   (hn : n0.val = n) (h : ex_CE rt hs bt nx rest) : ex_CE rt hs bt (c_lload n nx) ((.lload_n n0, pc, aux) :: rest) := by
  intro V ST d call ex
  show _ = s_lload_n n0 V ST ex_cB ex_cN d rt hs bt call ex rest pc aux (ex_seq V ST ex_cB ex_cN d rt hs bt call ex rest)
  rw [← h V ST d call ex]
  subst hn
  unfold c_lload; simp only [ex_gtE]; rfl
def c_dload (n : Nat) (nx : ex_C) : ex_C := fun V ST d call ex L S M => (@Bool.rec (fun _ => ex_R) (none) (nx V ST d call ex L (ex_gt L n :: S) M) (ex_tD (ex_gt L n)))
theorem e_dload_dload {rt : Nat} {hs : ex_H} {bt : ex_CD} {nx : ex_C} {rest : List ex_E} (pc aux : Nat) (n : Nat)   (h : ex_CE rt hs bt nx rest) : ex_CE rt hs bt (c_dload n nx) ((.dload n, pc, aux) :: rest) := by
  intro V ST d call ex
  show _ = s_dload n V ST ex_cB ex_cN d rt hs bt call ex rest pc aux (ex_seq V ST ex_cB ex_cN d rt hs bt call ex rest)
  rw [← h V ST d call ex]
  unfold c_dload; simp only [ex_gtE]; rfl
theorem e_dload_dload_n {rt : Nat} {hs : ex_H} {bt : ex_CD} {nx : ex_C} {rest : List ex_E} (pc aux : Nat) (n : Nat) (n0 : Fin 4)   (hn : n0.val = n) (h : ex_CE rt hs bt nx rest) : ex_CE rt hs bt (c_dload n nx) ((.dload_n n0, pc, aux) :: rest) := by
  intro V ST d call ex
  show _ = s_dload_n n0 V ST ex_cB ex_cN d rt hs bt call ex rest pc aux (ex_seq V ST ex_cB ex_cN d rt hs bt call ex rest)
  rw [← h V ST d call ex]
  subst hn
  unfold c_dload; simp only [ex_gtE]; rfl
def c_psh (v : Nat) (nx : ex_C) : ex_C := fun V ST d call ex L S M => nx V ST d call ex L (v :: S) M
theorem e_psh_iconst {rt : Nat} {hs : ex_H} {bt : ex_CD} {nx : ex_C} {rest : List ex_E} (pc aux : Nat) (i : Int)   (h : ex_CE rt hs bt nx rest) : ex_CE rt hs bt (c_psh aux nx) ((.iconst i, pc, aux) :: rest) := by
  intro V ST d call ex
  show _ = s_iconst i V ST ex_cB ex_cN d rt hs bt call ex rest pc aux (ex_seq V ST ex_cB ex_cN d rt hs bt call ex rest)
  rw [← h V ST d call ex]
  rfl
theorem e_psh_bipush {rt : Nat} {hs : ex_H} {bt : ex_CD} {nx : ex_C} {rest : List ex_E} (pc aux : Nat) (i : Int)   (h : ex_CE rt hs bt nx rest) : ex_CE rt hs bt (c_psh aux nx) ((.bipush i, pc, aux) :: rest) := by
  intro V ST d call ex
  show _ = s_bipush i V ST ex_cB ex_cN d rt hs bt call ex rest pc aux (ex_seq V ST ex_cB ex_cN d rt hs bt call ex rest)
  rw [← h V ST d call ex]
  rfl
theorem e_psh_sipush {rt : Nat} {hs : ex_H} {bt : ex_CD} {nx : ex_C} {rest : List ex_E} (pc aux : Nat) (i : Int)   (h : ex_CE rt hs bt nx rest) : ex_CE rt hs bt (c_psh aux nx) ((.sipush i, pc, aux) :: rest) := by
  intro V ST d call ex
  show _ = s_sipush i V ST ex_cB ex_cN d rt hs bt call ex rest pc aux (ex_seq V ST ex_cB ex_cN d rt hs bt call ex rest)
  rw [← h V ST d call ex]
  rfl
theorem e_psh_lconst {rt : Nat} {hs : ex_H} {bt : ex_CD} {nx : ex_C} {rest : List ex_E} (pc aux : Nat) (i : Fin 2)   (h : ex_CE rt hs bt nx rest) : ex_CE rt hs bt (c_psh aux nx) ((.lconst i, pc, aux) :: rest) := by
  intro V ST d call ex
  show _ = s_lconst i V ST ex_cB ex_cN d rt hs bt call ex rest pc aux (ex_seq V ST ex_cB ex_cN d rt hs bt call ex rest)
  rw [← h V ST d call ex]
  rfl
theorem e_psh_fconst {rt : Nat} {hs : ex_H} {bt : ex_CD} {nx : ex_C} {rest : List ex_E} (pc aux : Nat) (i : Fin 3)   (h : ex_CE rt hs bt nx rest) : ex_CE rt hs bt (c_psh aux nx) ((.fconst i, pc, aux) :: rest) := by
  intro V ST d call ex
  show _ = s_fconst i V ST ex_cB ex_cN d rt hs bt call ex rest pc aux (ex_seq V ST ex_cB ex_cN d rt hs bt call ex rest)
  rw [← h V ST d call ex]
  rfl
theorem e_psh_ldc {rt : Nat} {hs : ex_H} {bt : ex_CD} {nx : ex_C} {rest : List ex_E} (pc aux : Nat) (i : Nat)   (h : ex_CE rt hs bt nx rest) : ex_CE rt hs bt (c_psh aux nx) ((.ldc i, pc, aux) :: rest) := by
  intro V ST d call ex
  show _ = s_ldc i V ST ex_cB ex_cN d rt hs bt call ex rest pc aux (ex_seq V ST ex_cB ex_cN d rt hs bt call ex rest)
  rw [← h V ST d call ex]
  rfl
theorem e_psh_ldc_w {rt : Nat} {hs : ex_H} {bt : ex_CD} {nx : ex_C} {rest : List ex_E} (pc aux : Nat) (i : Nat)   (h : ex_CE rt hs bt nx rest) : ex_CE rt hs bt (c_psh aux nx) ((.ldc_w i, pc, aux) :: rest) := by
  intro V ST d call ex
  show _ = s_ldc_w i V ST ex_cB ex_cN d rt hs bt call ex rest pc aux (ex_seq V ST ex_cB ex_cN d rt hs bt call ex rest)
  rw [← h V ST d call ex]
  rfl
theorem e_psh_ldc2_w {rt : Nat} {hs : ex_H} {bt : ex_CD} {nx : ex_C} {rest : List ex_E} (pc aux : Nat) (i : Nat)   (h : ex_CE rt hs bt nx rest) : ex_CE rt hs bt (c_psh aux nx) ((.ldc2_w i, pc, aux) :: rest) := by
  intro V ST d call ex
  show _ = s_ldc2_w i V ST ex_cB ex_cN d rt hs bt call ex rest pc aux (ex_seq V ST ex_cB ex_cN d rt hs bt call ex rest)
  rw [← h V ST d call ex]
  rfl
theorem e_psh_getstatic {rt : Nat} {hs : ex_H} {bt : ex_CD} {nx : ex_C} {rest : List ex_E} (pc aux : Nat) (i : Nat)   (h : ex_CE rt hs bt nx rest) : ex_CE rt hs bt (c_psh aux nx) ((.getstatic i, pc, aux) :: rest) := by
  intro V ST d call ex
  show _ = s_getstatic i V ST ex_cB ex_cN d rt hs bt call ex rest pc aux (ex_seq V ST ex_cB ex_cN d rt hs bt call ex rest)
  rw [← h V ST d call ex]
  rfl
def c_istore (n : Nat) (nx : ex_C) : ex_C := fun V ST d call ex L S M => (@List.rec Nat (fun _ => ex_R) none (fun v T _ => (@Bool.rec (fun _ => ex_R) (none) ((@Nat.rec (fun _ => ex_R) (nx V ST d call ex (ex_gs L 0 v) T M) (fun k _ => (@Bool.rec (fun _ => ex_R) (nx V ST d call ex (ex_gs L (Nat.succ k) v) T M) (none) (ex_c2 (ex_gt L k)))) (n))) (ex_tI v))) S)
theorem e_istore_istore {rt : Nat} {hs : ex_H} {bt : ex_CD} {nx : ex_C} {rest : List ex_E} (pc aux : Nat) (n : Nat)   (h : ex_CE rt hs bt nx rest) : ex_CE rt hs bt (c_istore n nx) ((.istore n, pc, aux) :: rest) := by
  intro V ST d call ex
  show _ = s_istore n V ST ex_cB ex_cN d rt hs bt call ex rest pc aux (ex_seq V ST ex_cB ex_cN d rt hs bt call ex rest)
  rw [← h V ST d call ex]
  unfold c_istore; simp only [ex_gtE, ex_gsE]; rfl
theorem e_istore_istore_n {rt : Nat} {hs : ex_H} {bt : ex_CD} {nx : ex_C} {rest : List ex_E} (pc aux : Nat) (n : Nat) (n0 : Fin 4)   (hn : n0.val = n) (h : ex_CE rt hs bt nx rest) : ex_CE rt hs bt (c_istore n nx) ((.istore_n n0, pc, aux) :: rest) := by
  intro V ST d call ex
  show _ = s_istore_n n0 V ST ex_cB ex_cN d rt hs bt call ex rest pc aux (ex_seq V ST ex_cB ex_cN d rt hs bt call ex rest)
  rw [← h V ST d call ex]
  subst hn
  unfold c_istore; simp only [ex_gtE, ex_gsE]; rfl
def c_astore (n : Nat) (nx : ex_C) : ex_C := fun V ST d call ex L S M => (@List.rec Nat (fun _ => ex_R) none (fun v T _ => (@Bool.rec (fun _ => ex_R) (none) ((@Nat.rec (fun _ => ex_R) (nx V ST d call ex (ex_gs L 0 v) T M) (fun k _ => (@Bool.rec (fun _ => ex_R) (nx V ST d call ex (ex_gs L (Nat.succ k) v) T M) (none) (ex_c2 (ex_gt L k)))) (n))) (ex_tA v))) S)
theorem e_astore_astore {rt : Nat} {hs : ex_H} {bt : ex_CD} {nx : ex_C} {rest : List ex_E} (pc aux : Nat) (n : Nat)   (h : ex_CE rt hs bt nx rest) : ex_CE rt hs bt (c_astore n nx) ((.astore n, pc, aux) :: rest) := by
  intro V ST d call ex
  show _ = s_astore n V ST ex_cB ex_cN d rt hs bt call ex rest pc aux (ex_seq V ST ex_cB ex_cN d rt hs bt call ex rest)
  rw [← h V ST d call ex]
  unfold c_astore; simp only [ex_gtE, ex_gsE]; rfl
theorem e_astore_astore_n {rt : Nat} {hs : ex_H} {bt : ex_CD} {nx : ex_C} {rest : List ex_E} (pc aux : Nat) (n : Nat) (n0 : Fin 4)   (hn : n0.val = n) (h : ex_CE rt hs bt nx rest) : ex_CE rt hs bt (c_astore n nx) ((.astore_n n0, pc, aux) :: rest) := by
  intro V ST d call ex
  show _ = s_astore_n n0 V ST ex_cB ex_cN d rt hs bt call ex rest pc aux (ex_seq V ST ex_cB ex_cN d rt hs bt call ex rest)
  rw [← h V ST d call ex]
  subst hn
  unfold c_astore; simp only [ex_gtE, ex_gsE]; rfl
def c_fstore (n : Nat) (nx : ex_C) : ex_C := fun V ST d call ex L S M => (@List.rec Nat (fun _ => ex_R) none (fun v T _ => (@Bool.rec (fun _ => ex_R) (none) ((@Nat.rec (fun _ => ex_R) (nx V ST d call ex (ex_gs L 0 v) T M) (fun k _ => (@Bool.rec (fun _ => ex_R) (nx V ST d call ex (ex_gs L (Nat.succ k) v) T M) (none) (ex_c2 (ex_gt L k)))) (n))) (ex_tF v))) S)
theorem e_fstore_fstore {rt : Nat} {hs : ex_H} {bt : ex_CD} {nx : ex_C} {rest : List ex_E} (pc aux : Nat) (n : Nat)   (h : ex_CE rt hs bt nx rest) : ex_CE rt hs bt (c_fstore n nx) ((.fstore n, pc, aux) :: rest) := by
  intro V ST d call ex
  show _ = s_fstore n V ST ex_cB ex_cN d rt hs bt call ex rest pc aux (ex_seq V ST ex_cB ex_cN d rt hs bt call ex rest)
  rw [← h V ST d call ex]
  unfold c_fstore; simp only [ex_gtE, ex_gsE]; rfl
theorem e_fstore_fstore_n {rt : Nat} {hs : ex_H} {bt : ex_CD} {nx : ex_C} {rest : List ex_E} (pc aux : Nat) (n : Nat) (n0 : Fin 4)   (hn : n0.val = n) (h : ex_CE rt hs bt nx rest) : ex_CE rt hs bt (c_fstore n nx) ((.fstore_n n0, pc, aux) :: rest) := by
  intro V ST d call ex
  show _ = s_fstore_n n0 V ST ex_cB ex_cN d rt hs bt call ex rest pc aux (ex_seq V ST ex_cB ex_cN d rt hs bt call ex rest)
  rw [← h V ST d call ex]
  subst hn
  unfold c_fstore; simp only [ex_gtE, ex_gsE]; rfl
def c_iinc (n i : Nat) (nx : ex_C) : ex_C := fun V ST d call ex L S M => (@Bool.rec (fun _ => ex_R) (none) ((@Nat.rec (fun _ => ex_R) (nx V ST d call ex (ex_gs L 0 (Nat.mod (Nat.add (ex_gt L n) i) (nat_lit 4294967296))) S M) (fun k _ => (@Bool.rec (fun _ => ex_R) (nx V ST d call ex (ex_gs L (Nat.succ k) (Nat.mod (Nat.add (ex_gt L n) i) (nat_lit 4294967296))) S M) (none) (ex_c2 (ex_gt L k)))) (n))) (Nat.ble (ex_gt L n) (nat_lit 4294967295)))
theorem e_iinc {rt : Nat} {hs : ex_H} {bt : ex_CD} {nx : ex_C} {rest : List ex_E} (pc aux : Nat) (n : Nat) (j : Int)   (h : ex_CE rt hs bt nx rest) : ex_CE rt hs bt (c_iinc n aux nx) ((.iinc n j, pc, aux) :: rest) := by
  intro V ST d call ex
  show _ = s_iinc n j V ST ex_cB ex_cN d rt hs bt call ex rest pc aux (ex_seq V ST ex_cB ex_cN d rt hs bt call ex rest)
  rw [← h V ST d call ex]
  unfold c_iinc; simp only [ex_gtE, ex_gsE]; rfl
def c_iadd  (nx : ex_C) : ex_C := fun V ST d call ex L S M => (@List.rec Nat (fun _ => ex_R) none (fun b T_0 _ => (@List.rec Nat (fun _ => ex_R) none (fun a T _ => (@Bool.rec (fun _ => ex_R) (ex_sl2 V 3 a b (nx V ST d call ex) L T M) ((@Bool.rec (fun _ => ex_R) (ex_sl2 V 3 a b (nx V ST d call ex) L T M) (nx V ST d call ex L (Nat.mod (Nat.add a b) (nat_lit 4294967296) :: T) M) (Nat.ble b (nat_lit 4294967295)))) (Nat.ble a (nat_lit 4294967295)))) T_0)) S)
theorem e_iadd {rt : Nat} {hs : ex_H} {bt : ex_CD} {nx : ex_C} {rest : List ex_E} (pc aux : Nat)    (h : ex_CE rt hs bt nx rest) : ex_CE rt hs bt (c_iadd  nx) ((.iadd, pc, aux) :: rest) := by
  intro V ST d call ex
  show _ = s_iadd  V ST ex_cB ex_cN d rt hs bt call ex rest pc aux (ex_seq V ST ex_cB ex_cN d rt hs bt call ex rest)
  rw [← h V ST d call ex]; funext L S M; rcases S with _ | ⟨b, _ | ⟨a, T⟩⟩ <;> first | rfl | skip
  unfold c_iadd ex_sl2 s_iadd ex_bin2; dsimp only; cases Nat.ble a 4294967295 <;> cases Nat.ble b 4294967295 <;> rfl
def c_isub  (nx : ex_C) : ex_C := fun V ST d call ex L S M => (@List.rec Nat (fun _ => ex_R) none (fun b T_0 _ => (@List.rec Nat (fun _ => ex_R) none (fun a T _ => (@Bool.rec (fun _ => ex_R) (ex_sl2 V 4 a b (nx V ST d call ex) L T M) ((@Bool.rec (fun _ => ex_R) (ex_sl2 V 4 a b (nx V ST d call ex) L T M) (nx V ST d call ex L (Nat.mod (Nat.add a (Nat.sub (nat_lit 4294967296) b)) (nat_lit 4294967296) :: T) M) (Nat.ble b (nat_lit 4294967295)))) (Nat.ble a (nat_lit 4294967295)))) T_0)) S)
theorem e_isub {rt : Nat} {hs : ex_H} {bt : ex_CD} {nx : ex_C} {rest : List ex_E} (pc aux : Nat)    (h : ex_CE rt hs bt nx rest) : ex_CE rt hs bt (c_isub  nx) ((.isub, pc, aux) :: rest) := by
  intro V ST d call ex
  show _ = s_isub  V ST ex_cB ex_cN d rt hs bt call ex rest pc aux (ex_seq V ST ex_cB ex_cN d rt hs bt call ex rest)
  rw [← h V ST d call ex]; funext L S M; rcases S with _ | ⟨b, _ | ⟨a, T⟩⟩ <;> first | rfl | skip
  unfold c_isub ex_sl2 s_isub ex_bin2; dsimp only; cases Nat.ble a 4294967295 <;> cases Nat.ble b 4294967295 <;> rfl
def c_imul  (nx : ex_C) : ex_C := fun V ST d call ex L S M => (@List.rec Nat (fun _ => ex_R) none (fun b T_0 _ => (@List.rec Nat (fun _ => ex_R) none (fun a T _ => (@Bool.rec (fun _ => ex_R) (ex_sl2 V 5 a b (nx V ST d call ex) L T M) ((@Bool.rec (fun _ => ex_R) (ex_sl2 V 5 a b (nx V ST d call ex) L T M) (nx V ST d call ex L (Nat.mod (Nat.mul a b) (nat_lit 4294967296) :: T) M) (Nat.ble b (nat_lit 4294967295)))) (Nat.ble a (nat_lit 4294967295)))) T_0)) S)
theorem e_imul {rt : Nat} {hs : ex_H} {bt : ex_CD} {nx : ex_C} {rest : List ex_E} (pc aux : Nat)    (h : ex_CE rt hs bt nx rest) : ex_CE rt hs bt (c_imul  nx) ((.imul, pc, aux) :: rest) := by
  intro V ST d call ex
  show _ = s_imul  V ST ex_cB ex_cN d rt hs bt call ex rest pc aux (ex_seq V ST ex_cB ex_cN d rt hs bt call ex rest)
  rw [← h V ST d call ex]; funext L S M; rcases S with _ | ⟨b, _ | ⟨a, T⟩⟩ <;> first | rfl | skip
  unfold c_imul ex_sl2 s_imul ex_bin2; dsimp only; cases Nat.ble a 4294967295 <;> cases Nat.ble b 4294967295 <;> rfl
def c_iand  (nx : ex_C) : ex_C := fun V ST d call ex L S M => (@List.rec Nat (fun _ => ex_R) none (fun b T_0 _ => (@List.rec Nat (fun _ => ex_R) none (fun a T _ => (@Bool.rec (fun _ => ex_R) (ex_sl2 V 6 a b (nx V ST d call ex) L T M) ((@Bool.rec (fun _ => ex_R) (ex_sl2 V 6 a b (nx V ST d call ex) L T M) (nx V ST d call ex L (Nat.land a b :: T) M) (Nat.ble b (nat_lit 4294967295)))) (Nat.ble a (nat_lit 4294967295)))) T_0)) S)
theorem e_iand {rt : Nat} {hs : ex_H} {bt : ex_CD} {nx : ex_C} {rest : List ex_E} (pc aux : Nat)    (h : ex_CE rt hs bt nx rest) : ex_CE rt hs bt (c_iand  nx) ((.iand, pc, aux) :: rest) := by
  intro V ST d call ex
  show _ = s_iand  V ST ex_cB ex_cN d rt hs bt call ex rest pc aux (ex_seq V ST ex_cB ex_cN d rt hs bt call ex rest)
  rw [← h V ST d call ex]; funext L S M; rcases S with _ | ⟨b, _ | ⟨a, T⟩⟩ <;> first | rfl | skip
  unfold c_iand ex_sl2 s_iand ex_bin2; dsimp only; cases Nat.ble a 4294967295 <;> cases Nat.ble b 4294967295 <;> rfl
def c_icmp_eq (t : Nat) (nx : ex_C) : ex_C := fun V ST d call ex L S M => (@List.rec Nat (fun _ => ex_R) none (fun b T_0 _ => (@List.rec Nat (fun _ => ex_R) none (fun a T _ => (@Bool.rec (fun _ => ex_R) ((@Bool.rec (fun _ => ex_R) (none) ((@Bool.rec (fun _ => ex_R) (none) (ex_cnd V .eq a b (ex t L T M) (nx V ST d call ex L T M)) (ex_tI b))) (ex_tI a))) ((@Bool.rec (fun _ => ex_R) ((@Bool.rec (fun _ => ex_R) (none) ((@Bool.rec (fun _ => ex_R) (none) (ex_cnd V .eq a b (ex t L T M) (nx V ST d call ex L T M)) (ex_tI b))) (ex_tI a))) ((@Bool.rec (fun _ => ex_R) (nx V ST d call ex L T M) (ex t L T M) (Nat.beq a b))) (Nat.ble b (nat_lit 4294967295)))) (Nat.ble a (nat_lit 4294967295)))) T_0)) S)
theorem e_icmp_eq {rt : Nat} {hs : ex_H} {bt : ex_CD} {nx : ex_C} {rest : List ex_E} (pc aux : Nat) (j : Int)   (h : ex_CE rt hs bt nx rest) : ex_CE rt hs bt (c_icmp_eq aux nx) ((.if_icmp .eq j, pc, aux) :: rest) := by
  intro V ST d call ex
  show _ = s_if_icmp .eq j V ST ex_cB ex_cN d rt hs bt call ex rest pc aux (ex_seq V ST ex_cB ex_cN d rt hs bt call ex rest)
  rw [← h V ST d call ex]; funext L S M; rcases S with _ | ⟨b, _ | ⟨a, T⟩⟩ <;> first | rfl | skip
  unfold c_icmp_eq s_if_icmp ex_cnd ex_tI; dsimp only; cases Nat.ble a 4294967295 <;> cases Nat.ble b 4294967295 <;> rfl
def c_if_eq (t : Nat) (nx : ex_C) : ex_C := fun V ST d call ex L S M => (@List.rec Nat (fun _ => ex_R) none (fun a T _ => (@Bool.rec (fun _ => ex_R) ((@Bool.rec (fun _ => ex_R) (none) (ex_cnd V .eq a 0 (ex t L T M) (nx V ST d call ex L T M)) (ex_tI a))) ((@Bool.rec (fun _ => ex_R) (nx V ST d call ex L T M) (ex t L T M) (Nat.beq a (nat_lit 0)))) (Nat.ble a (nat_lit 4294967295)))) S)
theorem e_if_eq {rt : Nat} {hs : ex_H} {bt : ex_CD} {nx : ex_C} {rest : List ex_E} (pc aux : Nat) (j : Int)   (h : ex_CE rt hs bt nx rest) : ex_CE rt hs bt (c_if_eq aux nx) ((.ifCond .eq j, pc, aux) :: rest) := by
  intro V ST d call ex
  show _ = s_ifCond .eq j V ST ex_cB ex_cN d rt hs bt call ex rest pc aux (ex_seq V ST ex_cB ex_cN d rt hs bt call ex rest)
  rw [← h V ST d call ex]; funext L S M; rcases S with _ | ⟨a, T⟩ <;> first | rfl | skip
  unfold c_if_eq s_ifCond ex_cnd ex_tI; dsimp only; cases Nat.ble a 4294967295 <;> rfl
def c_icmp_ne (t : Nat) (nx : ex_C) : ex_C := fun V ST d call ex L S M => (@List.rec Nat (fun _ => ex_R) none (fun b T_0 _ => (@List.rec Nat (fun _ => ex_R) none (fun a T _ => (@Bool.rec (fun _ => ex_R) ((@Bool.rec (fun _ => ex_R) (none) ((@Bool.rec (fun _ => ex_R) (none) (ex_cnd V .ne a b (ex t L T M) (nx V ST d call ex L T M)) (ex_tI b))) (ex_tI a))) ((@Bool.rec (fun _ => ex_R) ((@Bool.rec (fun _ => ex_R) (none) ((@Bool.rec (fun _ => ex_R) (none) (ex_cnd V .ne a b (ex t L T M) (nx V ST d call ex L T M)) (ex_tI b))) (ex_tI a))) ((@Bool.rec (fun _ => ex_R) (ex t L T M) (nx V ST d call ex L T M) (Nat.beq a b))) (Nat.ble b (nat_lit 4294967295)))) (Nat.ble a (nat_lit 4294967295)))) T_0)) S)
theorem e_icmp_ne {rt : Nat} {hs : ex_H} {bt : ex_CD} {nx : ex_C} {rest : List ex_E} (pc aux : Nat) (j : Int)   (h : ex_CE rt hs bt nx rest) : ex_CE rt hs bt (c_icmp_ne aux nx) ((.if_icmp .ne j, pc, aux) :: rest) := by
  intro V ST d call ex
  show _ = s_if_icmp .ne j V ST ex_cB ex_cN d rt hs bt call ex rest pc aux (ex_seq V ST ex_cB ex_cN d rt hs bt call ex rest)
  rw [← h V ST d call ex]; funext L S M; rcases S with _ | ⟨b, _ | ⟨a, T⟩⟩ <;> first | rfl | skip
  unfold c_icmp_ne s_if_icmp ex_cnd ex_tI; dsimp only; cases Nat.ble a 4294967295 <;> cases Nat.ble b 4294967295 <;> rfl
def c_if_ne (t : Nat) (nx : ex_C) : ex_C := fun V ST d call ex L S M => (@List.rec Nat (fun _ => ex_R) none (fun a T _ => (@Bool.rec (fun _ => ex_R) ((@Bool.rec (fun _ => ex_R) (none) (ex_cnd V .ne a 0 (ex t L T M) (nx V ST d call ex L T M)) (ex_tI a))) ((@Bool.rec (fun _ => ex_R) (ex t L T M) (nx V ST d call ex L T M) (Nat.beq a (nat_lit 0)))) (Nat.ble a (nat_lit 4294967295)))) S)
theorem e_if_ne {rt : Nat} {hs : ex_H} {bt : ex_CD} {nx : ex_C} {rest : List ex_E} (pc aux : Nat) (j : Int)   (h : ex_CE rt hs bt nx rest) : ex_CE rt hs bt (c_if_ne aux nx) ((.ifCond .ne j, pc, aux) :: rest) := by
  intro V ST d call ex
  show _ = s_ifCond .ne j V ST ex_cB ex_cN d rt hs bt call ex rest pc aux (ex_seq V ST ex_cB ex_cN d rt hs bt call ex rest)
  rw [← h V ST d call ex]; funext L S M; rcases S with _ | ⟨a, T⟩ <;> first | rfl | skip
  unfold c_if_ne s_ifCond ex_cnd ex_tI; dsimp only; cases Nat.ble a 4294967295 <;> rfl
def c_icmp_lt (t : Nat) (nx : ex_C) : ex_C := fun V ST d call ex L S M => (@List.rec Nat (fun _ => ex_R) none (fun b T_0 _ => (@List.rec Nat (fun _ => ex_R) none (fun a T _ => (@Bool.rec (fun _ => ex_R) ((@Bool.rec (fun _ => ex_R) (none) ((@Bool.rec (fun _ => ex_R) (none) (ex_cnd V .lt a b (ex t L T M) (nx V ST d call ex L T M)) (ex_tI b))) (ex_tI a))) ((@Bool.rec (fun _ => ex_R) ((@Bool.rec (fun _ => ex_R) (none) ((@Bool.rec (fun _ => ex_R) (none) (ex_cnd V .lt a b (ex t L T M) (nx V ST d call ex L T M)) (ex_tI b))) (ex_tI a))) ((@Bool.rec (fun _ => ex_R) (ex t L T M) (nx V ST d call ex L T M) (Nat.ble (ex_bi b) (ex_bi a)))) (Nat.ble b (nat_lit 4294967295)))) (Nat.ble a (nat_lit 4294967295)))) T_0)) S)
theorem e_icmp_lt {rt : Nat} {hs : ex_H} {bt : ex_CD} {nx : ex_C} {rest : List ex_E} (pc aux : Nat) (j : Int)   (h : ex_CE rt hs bt nx rest) : ex_CE rt hs bt (c_icmp_lt aux nx) ((.if_icmp .lt j, pc, aux) :: rest) := by
  intro V ST d call ex
  show _ = s_if_icmp .lt j V ST ex_cB ex_cN d rt hs bt call ex rest pc aux (ex_seq V ST ex_cB ex_cN d rt hs bt call ex rest)
  rw [← h V ST d call ex]; funext L S M; rcases S with _ | ⟨b, _ | ⟨a, T⟩⟩ <;> first | rfl | skip
  unfold c_icmp_lt s_if_icmp ex_cnd ex_tI; dsimp only; cases Nat.ble a 4294967295 <;> cases Nat.ble b 4294967295 <;> rfl
def c_if_lt (t : Nat) (nx : ex_C) : ex_C := fun V ST d call ex L S M => (@List.rec Nat (fun _ => ex_R) none (fun a T _ => (@Bool.rec (fun _ => ex_R) ((@Bool.rec (fun _ => ex_R) (none) (ex_cnd V .lt a 0 (ex t L T M) (nx V ST d call ex L T M)) (ex_tI a))) ((@Bool.rec (fun _ => ex_R) (ex t L T M) (nx V ST d call ex L T M) (Nat.ble (nat_lit 2147483648) (ex_bi a)))) (Nat.ble a (nat_lit 4294967295)))) S)
theorem e_if_lt {rt : Nat} {hs : ex_H} {bt : ex_CD} {nx : ex_C} {rest : List ex_E} (pc aux : Nat) (j : Int)   (h : ex_CE rt hs bt nx rest) : ex_CE rt hs bt (c_if_lt aux nx) ((.ifCond .lt j, pc, aux) :: rest) := by
  intro V ST d call ex
  show _ = s_ifCond .lt j V ST ex_cB ex_cN d rt hs bt call ex rest pc aux (ex_seq V ST ex_cB ex_cN d rt hs bt call ex rest)
  rw [← h V ST d call ex]; funext L S M; rcases S with _ | ⟨a, T⟩ <;> first | rfl | skip
  unfold c_if_lt s_ifCond ex_cnd ex_tI; dsimp only; cases Nat.ble a 4294967295 <;> rfl
def c_icmp_ge (t : Nat) (nx : ex_C) : ex_C := fun V ST d call ex L S M => (@List.rec Nat (fun _ => ex_R) none (fun b T_0 _ => (@List.rec Nat (fun _ => ex_R) none (fun a T _ => (@Bool.rec (fun _ => ex_R) ((@Bool.rec (fun _ => ex_R) (none) ((@Bool.rec (fun _ => ex_R) (none) (ex_cnd V .ge a b (ex t L T M) (nx V ST d call ex L T M)) (ex_tI b))) (ex_tI a))) ((@Bool.rec (fun _ => ex_R) ((@Bool.rec (fun _ => ex_R) (none) ((@Bool.rec (fun _ => ex_R) (none) (ex_cnd V .ge a b (ex t L T M) (nx V ST d call ex L T M)) (ex_tI b))) (ex_tI a))) ((@Bool.rec (fun _ => ex_R) (nx V ST d call ex L T M) (ex t L T M) (Nat.ble (ex_bi b) (ex_bi a)))) (Nat.ble b (nat_lit 4294967295)))) (Nat.ble a (nat_lit 4294967295)))) T_0)) S)
theorem e_icmp_ge {rt : Nat} {hs : ex_H} {bt : ex_CD} {nx : ex_C} {rest : List ex_E} (pc aux : Nat) (j : Int)   (h : ex_CE rt hs bt nx rest) : ex_CE rt hs bt (c_icmp_ge aux nx) ((.if_icmp .ge j, pc, aux) :: rest) := by
  intro V ST d call ex
  show _ = s_if_icmp .ge j V ST ex_cB ex_cN d rt hs bt call ex rest pc aux (ex_seq V ST ex_cB ex_cN d rt hs bt call ex rest)
  rw [← h V ST d call ex]; funext L S M; rcases S with _ | ⟨b, _ | ⟨a, T⟩⟩ <;> first | rfl | skip
  unfold c_icmp_ge s_if_icmp ex_cnd ex_tI; dsimp only; cases Nat.ble a 4294967295 <;> cases Nat.ble b 4294967295 <;> rfl
def c_if_ge (t : Nat) (nx : ex_C) : ex_C := fun V ST d call ex L S M => (@List.rec Nat (fun _ => ex_R) none (fun a T _ => (@Bool.rec (fun _ => ex_R) ((@Bool.rec (fun _ => ex_R) (none) (ex_cnd V .ge a 0 (ex t L T M) (nx V ST d call ex L T M)) (ex_tI a))) ((@Bool.rec (fun _ => ex_R) (nx V ST d call ex L T M) (ex t L T M) (Nat.ble (nat_lit 2147483648) (ex_bi a)))) (Nat.ble a (nat_lit 4294967295)))) S)
theorem e_if_ge {rt : Nat} {hs : ex_H} {bt : ex_CD} {nx : ex_C} {rest : List ex_E} (pc aux : Nat) (j : Int)   (h : ex_CE rt hs bt nx rest) : ex_CE rt hs bt (c_if_ge aux nx) ((.ifCond .ge j, pc, aux) :: rest) := by
  intro V ST d call ex
  show _ = s_ifCond .ge j V ST ex_cB ex_cN d rt hs bt call ex rest pc aux (ex_seq V ST ex_cB ex_cN d rt hs bt call ex rest)
  rw [← h V ST d call ex]; funext L S M; rcases S with _ | ⟨a, T⟩ <;> first | rfl | skip
  unfold c_if_ge s_ifCond ex_cnd ex_tI; dsimp only; cases Nat.ble a 4294967295 <;> rfl
def c_icmp_gt (t : Nat) (nx : ex_C) : ex_C := fun V ST d call ex L S M => (@List.rec Nat (fun _ => ex_R) none (fun b T_0 _ => (@List.rec Nat (fun _ => ex_R) none (fun a T _ => (@Bool.rec (fun _ => ex_R) ((@Bool.rec (fun _ => ex_R) (none) ((@Bool.rec (fun _ => ex_R) (none) (ex_cnd V .gt a b (ex t L T M) (nx V ST d call ex L T M)) (ex_tI b))) (ex_tI a))) ((@Bool.rec (fun _ => ex_R) ((@Bool.rec (fun _ => ex_R) (none) ((@Bool.rec (fun _ => ex_R) (none) (ex_cnd V .gt a b (ex t L T M) (nx V ST d call ex L T M)) (ex_tI b))) (ex_tI a))) ((@Bool.rec (fun _ => ex_R) (ex t L T M) (nx V ST d call ex L T M) (Nat.ble (ex_bi a) (ex_bi b)))) (Nat.ble b (nat_lit 4294967295)))) (Nat.ble a (nat_lit 4294967295)))) T_0)) S)
theorem e_icmp_gt {rt : Nat} {hs : ex_H} {bt : ex_CD} {nx : ex_C} {rest : List ex_E} (pc aux : Nat) (j : Int)   (h : ex_CE rt hs bt nx rest) : ex_CE rt hs bt (c_icmp_gt aux nx) ((.if_icmp .gt j, pc, aux) :: rest) := by
  intro V ST d call ex
  show _ = s_if_icmp .gt j V ST ex_cB ex_cN d rt hs bt call ex rest pc aux (ex_seq V ST ex_cB ex_cN d rt hs bt call ex rest)
  rw [← h V ST d call ex]; funext L S M; rcases S with _ | ⟨b, _ | ⟨a, T⟩⟩ <;> first | rfl | skip
  unfold c_icmp_gt s_if_icmp ex_cnd ex_tI; dsimp only; cases Nat.ble a 4294967295 <;> cases Nat.ble b 4294967295 <;> rfl
def c_if_gt (t : Nat) (nx : ex_C) : ex_C := fun V ST d call ex L S M => (@List.rec Nat (fun _ => ex_R) none (fun a T _ => (@Bool.rec (fun _ => ex_R) ((@Bool.rec (fun _ => ex_R) (none) (ex_cnd V .gt a 0 (ex t L T M) (nx V ST d call ex L T M)) (ex_tI a))) ((@Bool.rec (fun _ => ex_R) (ex t L T M) (nx V ST d call ex L T M) (Nat.ble (ex_bi a) (nat_lit 2147483648)))) (Nat.ble a (nat_lit 4294967295)))) S)
theorem e_if_gt {rt : Nat} {hs : ex_H} {bt : ex_CD} {nx : ex_C} {rest : List ex_E} (pc aux : Nat) (j : Int)   (h : ex_CE rt hs bt nx rest) : ex_CE rt hs bt (c_if_gt aux nx) ((.ifCond .gt j, pc, aux) :: rest) := by
  intro V ST d call ex
  show _ = s_ifCond .gt j V ST ex_cB ex_cN d rt hs bt call ex rest pc aux (ex_seq V ST ex_cB ex_cN d rt hs bt call ex rest)
  rw [← h V ST d call ex]; funext L S M; rcases S with _ | ⟨a, T⟩ <;> first | rfl | skip
  unfold c_if_gt s_ifCond ex_cnd ex_tI; dsimp only; cases Nat.ble a 4294967295 <;> rfl
def c_icmp_le (t : Nat) (nx : ex_C) : ex_C := fun V ST d call ex L S M => (@List.rec Nat (fun _ => ex_R) none (fun b T_0 _ => (@List.rec Nat (fun _ => ex_R) none (fun a T _ => (@Bool.rec (fun _ => ex_R) ((@Bool.rec (fun _ => ex_R) (none) ((@Bool.rec (fun _ => ex_R) (none) (ex_cnd V .le a b (ex t L T M) (nx V ST d call ex L T M)) (ex_tI b))) (ex_tI a))) ((@Bool.rec (fun _ => ex_R) ((@Bool.rec (fun _ => ex_R) (none) ((@Bool.rec (fun _ => ex_R) (none) (ex_cnd V .le a b (ex t L T M) (nx V ST d call ex L T M)) (ex_tI b))) (ex_tI a))) ((@Bool.rec (fun _ => ex_R) (nx V ST d call ex L T M) (ex t L T M) (Nat.ble (ex_bi a) (ex_bi b)))) (Nat.ble b (nat_lit 4294967295)))) (Nat.ble a (nat_lit 4294967295)))) T_0)) S)
theorem e_icmp_le {rt : Nat} {hs : ex_H} {bt : ex_CD} {nx : ex_C} {rest : List ex_E} (pc aux : Nat) (j : Int)   (h : ex_CE rt hs bt nx rest) : ex_CE rt hs bt (c_icmp_le aux nx) ((.if_icmp .le j, pc, aux) :: rest) := by
  intro V ST d call ex
  show _ = s_if_icmp .le j V ST ex_cB ex_cN d rt hs bt call ex rest pc aux (ex_seq V ST ex_cB ex_cN d rt hs bt call ex rest)
  rw [← h V ST d call ex]; funext L S M; rcases S with _ | ⟨b, _ | ⟨a, T⟩⟩ <;> first | rfl | skip
  unfold c_icmp_le s_if_icmp ex_cnd ex_tI; dsimp only; cases Nat.ble a 4294967295 <;> cases Nat.ble b 4294967295 <;> rfl
def c_if_le (t : Nat) (nx : ex_C) : ex_C := fun V ST d call ex L S M => (@List.rec Nat (fun _ => ex_R) none (fun a T _ => (@Bool.rec (fun _ => ex_R) ((@Bool.rec (fun _ => ex_R) (none) (ex_cnd V .le a 0 (ex t L T M) (nx V ST d call ex L T M)) (ex_tI a))) ((@Bool.rec (fun _ => ex_R) (nx V ST d call ex L T M) (ex t L T M) (Nat.ble (ex_bi a) (nat_lit 2147483648)))) (Nat.ble a (nat_lit 4294967295)))) S)
theorem e_if_le {rt : Nat} {hs : ex_H} {bt : ex_CD} {nx : ex_C} {rest : List ex_E} (pc aux : Nat) (j : Int)   (h : ex_CE rt hs bt nx rest) : ex_CE rt hs bt (c_if_le aux nx) ((.ifCond .le j, pc, aux) :: rest) := by
  intro V ST d call ex
  show _ = s_ifCond .le j V ST ex_cB ex_cN d rt hs bt call ex rest pc aux (ex_seq V ST ex_cB ex_cN d rt hs bt call ex rest)
  rw [← h V ST d call ex]; funext L S M; rcases S with _ | ⟨a, T⟩ <;> first | rfl | skip
  unfold c_if_le s_ifCond ex_cnd ex_tI; dsimp only; cases Nat.ble a 4294967295 <;> rfl
def c_goto (t : Nat) : ex_C := fun V ST d call ex L S M => ex t L S M
theorem e_goto {rt : Nat} {hs : ex_H} {bt : ex_CD} {rest : List ex_E} (pc aux : Nat) (j : Int)   : ex_CE rt hs bt (c_goto aux) ((.goto j, pc, aux) :: rest) := by
  intro V ST d call ex
  show _ = s_goto j V ST ex_cB ex_cN d rt hs bt call ex rest pc aux (ex_seq V ST ex_cB ex_cN d rt hs bt call ex rest)
  rfl
def c_gf (kd ix : Nat) (nx : ex_C) : ex_C := fun V ST d call ex L S M => (@List.rec Nat (fun _ => ex_R) none (fun c T _ => (@Bool.rec (fun _ => ex_R) (none) ((@Bool.rec (fun _ => ex_R) (none) (nx V ST d call ex L (g_sl ST M c ix :: T) M) (Nat.beq (Nat.mod (g_hd ST M c) (nat_lit 256)) kd))) (ex_isR c))) S)
theorem e_gf {rt : Nat} {hs : ex_H} {bt : ex_CD} {nx : ex_C} {rest : List ex_E} (pc aux : Nat) (i : Nat) (kd ix : Nat) (h1 : Nat.mod (Nat.div aux 64) 64 = kd) (h2 : Nat.mod aux 64 = ix) (h : ex_CE rt hs bt nx rest) : ex_CE rt hs bt (c_gf kd ix nx) ((.getfield i, pc, aux) :: rest) := by
  intro V ST d call ex
  show _ = s_getfield i V ST ex_cB ex_cN d rt hs bt call ex rest pc aux (ex_seq V ST ex_cB ex_cN d rt hs bt call ex rest)
  rw [← h V ST d call ex]
  subst h1 h2
  unfold c_gf; simp only [g_hdE, g_slE]; rfl
def c_iaload  (nx : ex_C) : ex_C := fun V ST d call ex L S M => (@List.rec Nat (fun _ => ex_R) none (fun i T_0 _ => (@List.rec Nat (fun _ => ex_R) none (fun c T _ => (@Bool.rec (fun _ => ex_R) (none) ((@Bool.rec (fun _ => ex_R) (none) ((@Bool.rec (fun _ => ex_R) (none) ((@Bool.rec (fun _ => ex_R) (none) (nx V ST d call ex L (g_sl ST M c i :: T) M) (ex_tI (g_sl ST M c i)))) (Nat.ble (Nat.succ i) (Nat.div (g_hd ST M c) (nat_lit 256))))) (Nat.beq (Nat.mod (g_hd ST M c) (nat_lit 256)) 64))) (ex_isR c))) T_0)) S)
theorem e_iaload {rt : Nat} {hs : ex_H} {bt : ex_CD} {nx : ex_C} {rest : List ex_E} (pc aux : Nat)    (h : ex_CE rt hs bt nx rest) : ex_CE rt hs bt (c_iaload  nx) ((.iaload, pc, aux) :: rest) := by
  intro V ST d call ex
  show _ = s_iaload  V ST ex_cB ex_cN d rt hs bt call ex rest pc aux (ex_seq V ST ex_cB ex_cN d rt hs bt call ex rest)
  rw [← h V ST d call ex]
  unfold c_iaload; simp only [g_hdE, g_slE]; rfl
def c_baload  (nx : ex_C) : ex_C := fun V ST d call ex L S M => (@List.rec Nat (fun _ => ex_R) none (fun i T_0 _ => (@List.rec Nat (fun _ => ex_R) none (fun c T _ => (@Bool.rec (fun _ => ex_R) (none) ((@Bool.rec (fun _ => ex_R) (none) ((@Bool.rec (fun _ => ex_R) (none) ((@Bool.rec (fun _ => ex_R) (none) (nx V ST d call ex L (g_sl ST M c i :: T) M) (ex_isI (g_sl ST M c i)))) (Nat.ble (Nat.succ i) (Nat.div (g_hd ST M c) (nat_lit 256))))) ((@Bool.rec (fun _ => Bool) (Nat.beq (Nat.mod (g_hd ST M c) (nat_lit 256)) 69) (true) (Nat.beq (Nat.mod (g_hd ST M c) (nat_lit 256)) 65))))) (ex_isR c))) T_0)) S)
theorem e_baload {rt : Nat} {hs : ex_H} {bt : ex_CD} {nx : ex_C} {rest : List ex_E} (pc aux : Nat)    (h : ex_CE rt hs bt nx rest) : ex_CE rt hs bt (c_baload  nx) ((.baload, pc, aux) :: rest) := by
  intro V ST d call ex
  show _ = s_baload  V ST ex_cB ex_cN d rt hs bt call ex rest pc aux (ex_seq V ST ex_cB ex_cN d rt hs bt call ex rest)
  rw [← h V ST d call ex]
  unfold c_baload; simp only [g_hdE, g_slE]; rfl
def c_iastore  (nx : ex_C) : ex_C := fun V ST d call ex L S M => g_ast (fun k => Nat.beq k 64) (fun _ _ v => ex_tI v) (nx V ST d call ex) L S M
theorem e_iastore {rt : Nat} {hs : ex_H} {bt : ex_CD} {nx : ex_C} {rest : List ex_E} (pc aux : Nat)    (h : ex_CE rt hs bt nx rest) : ex_CE rt hs bt (c_iastore  nx) ((.iastore, pc, aux) :: rest) := by
  intro V ST d call ex
  show _ = s_iastore  V ST ex_cB ex_cN d rt hs bt call ex rest pc aux (ex_seq V ST ex_cB ex_cN d rt hs bt call ex rest)
  rw [← h V ST d call ex]
  unfold c_iastore; simp only [g_astE]; rfl
def c_bastore  (nx : ex_C) : ex_C := fun V ST d call ex L S M => g_ast (fun k => Nat.beq k 65) (fun _ _ v => Nat.ble v 1) (nx V ST d call ex) L S M
theorem e_bastore {rt : Nat} {hs : ex_H} {bt : ex_CD} {nx : ex_C} {rest : List ex_E} (pc aux : Nat)    (h : ex_CE rt hs bt nx rest) : ex_CE rt hs bt (c_bastore  nx) ((.bastore, pc, aux) :: rest) := by
  intro V ST d call ex
  show _ = s_bastore  V ST ex_cB ex_cN d rt hs bt call ex rest pc aux (ex_seq V ST ex_cB ex_cN d rt hs bt call ex rest)
  rw [← h V ST d call ex]
  unfold c_bastore; simp only [g_astE]; rfl
def c_pf (kd ty ix : Nat) (nx : ex_C) : ex_C := fun V ST d call ex L S M => (@List.rec Nat (fun _ => ex_R) none (fun v T_0 _ => (@List.rec Nat (fun _ => ex_R) none (fun c T _ => (@Bool.rec (fun _ => ex_R) (none) ((@Bool.rec (fun _ => ex_R) (none) ((@Bool.rec (fun _ => ex_R) (none) (nx V ST d call ex L T (ex_gs M (Nat.add (Nat.sub c 8589934592) (Nat.succ ix)) v)) (ex_fit V ty v))) (Nat.beq (Nat.mod (ex_gt M (Nat.sub c 8589934592)) 256) kd))) (ex_isD c))) T_0)) S)
theorem e_pf {rt : Nat} {hs : ex_H} {bt : ex_CD} {nx : ex_C} {rest : List ex_E} (pc aux : Nat) (i : Nat) (kd ty ix : Nat) (h1 : Nat.mod (Nat.div aux 64) 64 = kd) (h3 : Nat.mod (Nat.div aux 4096) 16 = ty) (h2 : Nat.mod aux 64 = ix) (h : ex_CE rt hs bt nx rest) : ex_CE rt hs bt (c_pf kd ty ix nx) ((.putfield i, pc, aux) :: rest) := by
  intro V ST d call ex
  show _ = s_putfield i V ST ex_cB ex_cN d rt hs bt call ex rest pc aux (ex_seq V ST ex_cB ex_cN d rt hs bt call ex rest)
  rw [← h V ST d call ex]
  subst h1 h2 h3
  unfold c_pf; simp only [ex_gtE, ex_gsE]; rfl
def c_invS (hs : ex_H) (bt : ex_CD) (pc na mid : Nat) (nx : ex_C) : ex_C := fun V ST d call ex L S M => (@Option.rec (List Nat × List Nat) (fun _ => ex_R) none (fun q => (@Bool.rec (fun _ => ex_R) (none) ((@Option.rec (Nat × Nat) (fun _ => ex_R) none (fun r => (@Bool.rec (fun _ => ex_R) (none) ((@Bool.rec (fun _ => ex_R) (none) ((@Bool.rec (fun _ => ex_R) ((@Bool.rec (fun _ => ex_R) (nx V ST d call ex L (r.1 :: q.2) r.2) (nx V ST d call ex L q.2 r.2) (Nat.beq r.1 (nat_lit 137438953473)))) ((@Bool.rec (fun _ => ex_R) (none) ((@Bool.rec (fun _ => ex_R) (none) ((@Nat.rec (fun _ => ex_R) ((@Bool.rec (fun _ => ex_R) (some r) (none) (ex_cov hs pc))) (fun h _ => ex_ctch ex bt (Nat.succ h) L r.2) (ex_hand hs pc (Nat.sub r.1 (nat_lit 549755813888))))) (Nat.ble r.1 (nat_lit 549755813894)))) (Nat.ble (nat_lit 549755813889) r.1))) (Nat.ble (nat_lit 549755813888) r.1))) (Nat.ble (ex_gt M 2) (ex_gt r.2 2)))) (Nat.ble (ex_gt M 1) (ex_gt r.2 1)))) (call mid q.1 M))) (Nat.ble (ex_rsum q.2) 8))) (ex_take na [] S))
theorem e_invS {rt : Nat} {hs : ex_H} {bt : ex_CD} {nx : ex_C} {rest : List ex_E} (pc aux : Nat) (i : Nat) (na mid : Nat) (h1 : Nat.mod aux 32 = na) (h2 : Nat.mod (Nat.div aux 32) 256 = 255) (h3 : Nat.sub (Nat.div aux 8192) 16 = mid) (h : ex_CE rt hs bt nx rest) : ex_CE rt hs bt (c_invS hs bt pc na mid nx) ((.invokestatic i, pc, aux) :: rest) := by
  intro V ST d call ex
  show _ = s_invokestatic i V ST ex_cB ex_cN d rt hs bt call ex rest pc aux (ex_seq V ST ex_cB ex_cN d rt hs bt call ex rest)
  rw [← h V ST d call ex]; funext L S M
  unfold c_invS s_invokestatic ex_inv
  rw [h1, h2, h3]
  cases ex_take na [] S with
  | none => rfl
  | some q =>
    rcases q with ⟨_ | ⟨c, as⟩, T⟩ <;> first | (simp only [ex_gtE, g_hdE, h2]; done) | (simp only [ex_gtE, g_hdE]; rfl)
def c_invP (hs : ex_H) (bt : ex_CD) (pc na mid : Nat) (nx : ex_C) : ex_C := fun V ST d call ex L S M => (@Option.rec (List Nat × List Nat) (fun _ => ex_R) none (fun q => (@Bool.rec (fun _ => ex_R) (none) ((@Bool.rec (fun _ => ex_R) (none) ((@Option.rec (Nat × Nat) (fun _ => ex_R) none (fun r => (@Bool.rec (fun _ => ex_R) (none) ((@Bool.rec (fun _ => ex_R) (none) ((@Bool.rec (fun _ => ex_R) ((@Bool.rec (fun _ => ex_R) (nx V ST d call ex L (r.1 :: q.2) r.2) (nx V ST d call ex L q.2 r.2) (Nat.beq r.1 (nat_lit 137438953473)))) ((@Bool.rec (fun _ => ex_R) (none) ((@Bool.rec (fun _ => ex_R) (none) ((@Nat.rec (fun _ => ex_R) ((@Bool.rec (fun _ => ex_R) (some r) (none) (ex_cov hs pc))) (fun h _ => ex_ctch ex bt (Nat.succ h) L r.2) (ex_hand hs pc (Nat.sub r.1 (nat_lit 549755813888))))) (Nat.ble r.1 (nat_lit 549755813894)))) (Nat.ble (nat_lit 549755813889) r.1))) (Nat.ble (nat_lit 549755813888) r.1))) (Nat.ble (ex_gt M 2) (ex_gt r.2 2)))) (Nat.ble (ex_gt M 1) (ex_gt r.2 1)))) (call mid q.1 M))) (@List.rec Nat (fun _ => Bool) false (fun c _ _ => ex_isD c) q.1))) (Nat.ble (ex_rsum q.2) 8))) (ex_take na [] S))
theorem e_invP {rt : Nat} {hs : ex_H} {bt : ex_CD} {nx : ex_C} {rest : List ex_E} (pc aux : Nat) (i : Nat) (na mid : Nat) (h1 : Nat.mod aux 32 = na) (h2 : Nat.mod (Nat.div aux 32) 256 = 254) (h3 : Nat.sub (Nat.div aux 8192) 16 = mid) (h6 : Nat.beq aux 0 = false) (h : ex_CE rt hs bt nx rest) : ex_CE rt hs bt (c_invP hs bt pc na mid nx) ((.invokespecial i, pc, aux) :: rest) := by
  intro V ST d call ex
  show _ = s_invokespecial i V ST ex_cB ex_cN d rt hs bt call ex rest pc aux (ex_seq V ST ex_cB ex_cN d rt hs bt call ex rest)
  rw [← h V ST d call ex]; funext L S M
  unfold c_invP s_invokespecial ex_inv
  rw [h6]
  dsimp only
  rw [h1, h2, h3]
  cases ex_take na [] S with
  | none => rfl
  | some q =>
    rcases q with ⟨_ | ⟨c, as⟩, T⟩ <;> first | (simp only [ex_gtE, g_hdE]; done) | (simp only [ex_gtE, g_hdE]; rfl)
def c_invV (hs : ex_H) (bt : ex_CD) (pc na mid rk : Nat) (nx : ex_C) : ex_C := fun V ST d call ex L S M => (@Option.rec (List Nat × List Nat) (fun _ => ex_R) none (fun q => (@Bool.rec (fun _ => ex_R) (none) ((@Bool.rec (fun _ => ex_R) (none) ((@Option.rec (Nat × Nat) (fun _ => ex_R) none (fun r => (@Bool.rec (fun _ => ex_R) (none) ((@Bool.rec (fun _ => ex_R) (none) ((@Bool.rec (fun _ => ex_R) ((@Bool.rec (fun _ => ex_R) (nx V ST d call ex L (r.1 :: q.2) r.2) (nx V ST d call ex L q.2 r.2) (Nat.beq r.1 (nat_lit 137438953473)))) ((@Bool.rec (fun _ => ex_R) (none) ((@Bool.rec (fun _ => ex_R) (none) ((@Nat.rec (fun _ => ex_R) ((@Bool.rec (fun _ => ex_R) (some r) (none) (ex_cov hs pc))) (fun h _ => ex_ctch ex bt (Nat.succ h) L r.2) (ex_hand hs pc (Nat.sub r.1 (nat_lit 549755813888))))) (Nat.ble r.1 (nat_lit 549755813894)))) (Nat.ble (nat_lit 549755813889) r.1))) (Nat.ble (nat_lit 549755813888) r.1))) (Nat.ble (ex_gt M 2) (ex_gt r.2 2)))) (Nat.ble (ex_gt M 1) (ex_gt r.2 1)))) (call mid q.1 M))) (@List.rec Nat (fun _ => Bool) false (fun c _ _ => (@Bool.rec (fun _ => Bool) (false) (Nat.beq (Nat.mod (g_hd ST M c) (nat_lit 256)) rk) (ex_isR c))) q.1))) (Nat.ble (ex_rsum q.2) 8))) (ex_take na [] S))
theorem e_invV_invokevirtual {rt : Nat} {hs : ex_H} {bt : ex_CD} {nx : ex_C} {rest : List ex_E} (pc aux : Nat) (i : Nat) (na mid rk : Nat) (h1 : Nat.mod aux 32 = na) (h2 : Nat.mod (Nat.div aux 32) 256 = rk) (h3 : Nat.sub (Nat.div aux 8192) 16 = mid) (h4 : Nat.beq rk 255 = false) (h5 : Nat.beq rk 254 = false) (h6 : Nat.beq aux 1 = false) (h : ex_CE rt hs bt nx rest) : ex_CE rt hs bt (c_invV hs bt pc na mid rk nx) ((.invokevirtual i, pc, aux) :: rest) := by
  intro V ST d call ex
  show _ = s_invokevirtual i V ST ex_cB ex_cN d rt hs bt call ex rest pc aux (ex_seq V ST ex_cB ex_cN d rt hs bt call ex rest)
  rw [← h V ST d call ex]; funext L S M
  unfold c_invV s_invokevirtual ex_inv
  rw [h6]
  dsimp only
  rw [h1, h2, h3]
  simp only [h4, h5]
  cases ex_take na [] S with
  | none => rfl
  | some q =>
    rcases q with ⟨_ | ⟨c, as⟩, T⟩ <;> first | (simp only [ex_gtE, g_hdE]; done) | (simp only [ex_gtE, g_hdE]; rfl)
theorem e_invV_invokeinterface {rt : Nat} {hs : ex_H} {bt : ex_CD} {nx : ex_C} {rest : List ex_E} (pc aux : Nat) (i : Nat) (j : Nat) (na mid rk : Nat) (h1 : Nat.mod aux 32 = na) (h2 : Nat.mod (Nat.div aux 32) 256 = rk) (h3 : Nat.sub (Nat.div aux 8192) 16 = mid) (h4 : Nat.beq rk 255 = false) (h5 : Nat.beq rk 254 = false) (h6 : Nat.beq aux 1 = false) (h : ex_CE rt hs bt nx rest) : ex_CE rt hs bt (c_invV hs bt pc na mid rk nx) ((.invokeinterface i j, pc, aux) :: rest) := by
  intro V ST d call ex
  show _ = s_invokeinterface i j V ST ex_cB ex_cN d rt hs bt call ex rest pc aux (ex_seq V ST ex_cB ex_cN d rt hs bt call ex rest)
  rw [← h V ST d call ex]; funext L S M
  unfold c_invV s_invokeinterface ex_inv
  dsimp only
  rw [h1, h2, h3]
  simp only [h4, h5]
  cases ex_take na [] S with
  | none => rfl
  | some q =>
    rcases q with ⟨_ | ⟨c, as⟩, T⟩ <;> first | (simp only [ex_gtE, g_hdE]; done) | (simp only [ex_gtE, g_hdE]; rfl)
def c_aconst_null   (nx : ex_C) : ex_C := fun V ST d call ex => s_aconst_null  V ST ex_cB ex_cN d 0 [] (fun _ => []) call ex [] 0 0 (nx V ST d call ex)
theorem e_aconst_null {rt : Nat} {hs : ex_H} {bt : ex_CD} {nx : ex_C} {rest : List ex_E} (pc aux : Nat)  (h : ex_CE rt hs bt nx rest) : ex_CE rt hs bt (c_aconst_null   nx) ((.aconst_null , pc, aux) :: rest) := by
  intro V ST d call ex
  show _ = s_aconst_null  V ST ex_cB ex_cN d rt hs bt call ex rest pc aux (ex_seq V ST ex_cB ex_cN d rt hs bt call ex rest)
  rw [← h V ST d call ex]
  rfl
def c_lstore (n : Nat)  (nx : ex_C) : ex_C := fun V ST d call ex => s_lstore n V ST ex_cB ex_cN d 0 [] (fun _ => []) call ex [] 0 0 (nx V ST d call ex)
theorem e_lstore {rt : Nat} {hs : ex_H} {bt : ex_CD} {nx : ex_C} {rest : List ex_E} (pc aux : Nat) (n : Nat) (h : ex_CE rt hs bt nx rest) : ex_CE rt hs bt (c_lstore n  nx) ((.lstore n, pc, aux) :: rest) := by
  intro V ST d call ex
  show _ = s_lstore n V ST ex_cB ex_cN d rt hs bt call ex rest pc aux (ex_seq V ST ex_cB ex_cN d rt hs bt call ex rest)
  rw [← h V ST d call ex]
  rfl
def c_lstore_n (n : Fin 4)  (nx : ex_C) : ex_C := fun V ST d call ex => s_lstore_n n V ST ex_cB ex_cN d 0 [] (fun _ => []) call ex [] 0 0 (nx V ST d call ex)
theorem e_lstore_n {rt : Nat} {hs : ex_H} {bt : ex_CD} {nx : ex_C} {rest : List ex_E} (pc aux : Nat) (n : Fin 4) (h : ex_CE rt hs bt nx rest) : ex_CE rt hs bt (c_lstore_n n  nx) ((.lstore_n n, pc, aux) :: rest) := by
  intro V ST d call ex
  show _ = s_lstore_n n V ST ex_cB ex_cN d rt hs bt call ex rest pc aux (ex_seq V ST ex_cB ex_cN d rt hs bt call ex rest)
  rw [← h V ST d call ex]
  rfl
def c_dstore (n : Nat)  (nx : ex_C) : ex_C := fun V ST d call ex => s_dstore n V ST ex_cB ex_cN d 0 [] (fun _ => []) call ex [] 0 0 (nx V ST d call ex)
theorem e_dstore {rt : Nat} {hs : ex_H} {bt : ex_CD} {nx : ex_C} {rest : List ex_E} (pc aux : Nat) (n : Nat) (h : ex_CE rt hs bt nx rest) : ex_CE rt hs bt (c_dstore n  nx) ((.dstore n, pc, aux) :: rest) := by
  intro V ST d call ex
  show _ = s_dstore n V ST ex_cB ex_cN d rt hs bt call ex rest pc aux (ex_seq V ST ex_cB ex_cN d rt hs bt call ex rest)
  rw [← h V ST d call ex]
  rfl
def c_dstore_n (n : Fin 4)  (nx : ex_C) : ex_C := fun V ST d call ex => s_dstore_n n V ST ex_cB ex_cN d 0 [] (fun _ => []) call ex [] 0 0 (nx V ST d call ex)
theorem e_dstore_n {rt : Nat} {hs : ex_H} {bt : ex_CD} {nx : ex_C} {rest : List ex_E} (pc aux : Nat) (n : Fin 4) (h : ex_CE rt hs bt nx rest) : ex_CE rt hs bt (c_dstore_n n  nx) ((.dstore_n n, pc, aux) :: rest) := by
  intro V ST d call ex
  show _ = s_dstore_n n V ST ex_cB ex_cN d rt hs bt call ex rest pc aux (ex_seq V ST ex_cB ex_cN d rt hs bt call ex rest)
  rw [← h V ST d call ex]
  rfl
def c_idiv   (nx : ex_C) : ex_C := fun V ST d call ex => s_idiv  V ST ex_cB ex_cN d 0 [] (fun _ => []) call ex [] 0 0 (nx V ST d call ex)
theorem e_idiv {rt : Nat} {hs : ex_H} {bt : ex_CD} {nx : ex_C} {rest : List ex_E} (pc aux : Nat)  (h : ex_CE rt hs bt nx rest) : ex_CE rt hs bt (c_idiv   nx) ((.idiv , pc, aux) :: rest) := by
  intro V ST d call ex
  show _ = s_idiv  V ST ex_cB ex_cN d rt hs bt call ex rest pc aux (ex_seq V ST ex_cB ex_cN d rt hs bt call ex rest)
  rw [← h V ST d call ex]
  rfl
def c_irem   (nx : ex_C) : ex_C := fun V ST d call ex => s_irem  V ST ex_cB ex_cN d 0 [] (fun _ => []) call ex [] 0 0 (nx V ST d call ex)
theorem e_irem {rt : Nat} {hs : ex_H} {bt : ex_CD} {nx : ex_C} {rest : List ex_E} (pc aux : Nat)  (h : ex_CE rt hs bt nx rest) : ex_CE rt hs bt (c_irem   nx) ((.irem , pc, aux) :: rest) := by
  intro V ST d call ex
  show _ = s_irem  V ST ex_cB ex_cN d rt hs bt call ex rest pc aux (ex_seq V ST ex_cB ex_cN d rt hs bt call ex rest)
  rw [← h V ST d call ex]
  rfl
def c_ior   (nx : ex_C) : ex_C := fun V ST d call ex => s_ior  V ST ex_cB ex_cN d 0 [] (fun _ => []) call ex [] 0 0 (nx V ST d call ex)
theorem e_ior {rt : Nat} {hs : ex_H} {bt : ex_CD} {nx : ex_C} {rest : List ex_E} (pc aux : Nat)  (h : ex_CE rt hs bt nx rest) : ex_CE rt hs bt (c_ior   nx) ((.ior , pc, aux) :: rest) := by
  intro V ST d call ex
  show _ = s_ior  V ST ex_cB ex_cN d rt hs bt call ex rest pc aux (ex_seq V ST ex_cB ex_cN d rt hs bt call ex rest)
  rw [← h V ST d call ex]
  rfl
def c_ixor   (nx : ex_C) : ex_C := fun V ST d call ex => s_ixor  V ST ex_cB ex_cN d 0 [] (fun _ => []) call ex [] 0 0 (nx V ST d call ex)
theorem e_ixor {rt : Nat} {hs : ex_H} {bt : ex_CD} {nx : ex_C} {rest : List ex_E} (pc aux : Nat)  (h : ex_CE rt hs bt nx rest) : ex_CE rt hs bt (c_ixor   nx) ((.ixor , pc, aux) :: rest) := by
  intro V ST d call ex
  show _ = s_ixor  V ST ex_cB ex_cN d rt hs bt call ex rest pc aux (ex_seq V ST ex_cB ex_cN d rt hs bt call ex rest)
  rw [← h V ST d call ex]
  rfl
def c_ishl   (nx : ex_C) : ex_C := fun V ST d call ex => s_ishl  V ST ex_cB ex_cN d 0 [] (fun _ => []) call ex [] 0 0 (nx V ST d call ex)
theorem e_ishl {rt : Nat} {hs : ex_H} {bt : ex_CD} {nx : ex_C} {rest : List ex_E} (pc aux : Nat)  (h : ex_CE rt hs bt nx rest) : ex_CE rt hs bt (c_ishl   nx) ((.ishl , pc, aux) :: rest) := by
  intro V ST d call ex
  show _ = s_ishl  V ST ex_cB ex_cN d rt hs bt call ex rest pc aux (ex_seq V ST ex_cB ex_cN d rt hs bt call ex rest)
  rw [← h V ST d call ex]
  rfl
def c_ishr   (nx : ex_C) : ex_C := fun V ST d call ex => s_ishr  V ST ex_cB ex_cN d 0 [] (fun _ => []) call ex [] 0 0 (nx V ST d call ex)
theorem e_ishr {rt : Nat} {hs : ex_H} {bt : ex_CD} {nx : ex_C} {rest : List ex_E} (pc aux : Nat)  (h : ex_CE rt hs bt nx rest) : ex_CE rt hs bt (c_ishr   nx) ((.ishr , pc, aux) :: rest) := by
  intro V ST d call ex
  show _ = s_ishr  V ST ex_cB ex_cN d rt hs bt call ex rest pc aux (ex_seq V ST ex_cB ex_cN d rt hs bt call ex rest)
  rw [← h V ST d call ex]
  rfl
def c_ineg   (nx : ex_C) : ex_C := fun V ST d call ex => s_ineg  V ST ex_cB ex_cN d 0 [] (fun _ => []) call ex [] 0 0 (nx V ST d call ex)
theorem e_ineg {rt : Nat} {hs : ex_H} {bt : ex_CD} {nx : ex_C} {rest : List ex_E} (pc aux : Nat)  (h : ex_CE rt hs bt nx rest) : ex_CE rt hs bt (c_ineg   nx) ((.ineg , pc, aux) :: rest) := by
  intro V ST d call ex
  show _ = s_ineg  V ST ex_cB ex_cN d rt hs bt call ex rest pc aux (ex_seq V ST ex_cB ex_cN d rt hs bt call ex rest)
  rw [← h V ST d call ex]
  rfl
def c_i2c   (nx : ex_C) : ex_C := fun V ST d call ex => s_i2c  V ST ex_cB ex_cN d 0 [] (fun _ => []) call ex [] 0 0 (nx V ST d call ex)
theorem e_i2c {rt : Nat} {hs : ex_H} {bt : ex_CD} {nx : ex_C} {rest : List ex_E} (pc aux : Nat)  (h : ex_CE rt hs bt nx rest) : ex_CE rt hs bt (c_i2c   nx) ((.i2c , pc, aux) :: rest) := by
  intro V ST d call ex
  show _ = s_i2c  V ST ex_cB ex_cN d rt hs bt call ex rest pc aux (ex_seq V ST ex_cB ex_cN d rt hs bt call ex rest)
  rw [← h V ST d call ex]
  rfl
def c_i2b   (nx : ex_C) : ex_C := fun V ST d call ex => s_i2b  V ST ex_cB ex_cN d 0 [] (fun _ => []) call ex [] 0 0 (nx V ST d call ex)
theorem e_i2b {rt : Nat} {hs : ex_H} {bt : ex_CD} {nx : ex_C} {rest : List ex_E} (pc aux : Nat)  (h : ex_CE rt hs bt nx rest) : ex_CE rt hs bt (c_i2b   nx) ((.i2b , pc, aux) :: rest) := by
  intro V ST d call ex
  show _ = s_i2b  V ST ex_cB ex_cN d rt hs bt call ex rest pc aux (ex_seq V ST ex_cB ex_cN d rt hs bt call ex rest)
  rw [← h V ST d call ex]
  rfl
def c_i2l   (nx : ex_C) : ex_C := fun V ST d call ex => s_i2l  V ST ex_cB ex_cN d 0 [] (fun _ => []) call ex [] 0 0 (nx V ST d call ex)
theorem e_i2l {rt : Nat} {hs : ex_H} {bt : ex_CD} {nx : ex_C} {rest : List ex_E} (pc aux : Nat)  (h : ex_CE rt hs bt nx rest) : ex_CE rt hs bt (c_i2l   nx) ((.i2l , pc, aux) :: rest) := by
  intro V ST d call ex
  show _ = s_i2l  V ST ex_cB ex_cN d rt hs bt call ex rest pc aux (ex_seq V ST ex_cB ex_cN d rt hs bt call ex rest)
  rw [← h V ST d call ex]
  rfl
def c_i2d   (nx : ex_C) : ex_C := fun V ST d call ex => s_i2d  V ST ex_cB ex_cN d 0 [] (fun _ => []) call ex [] 0 0 (nx V ST d call ex)
theorem e_i2d {rt : Nat} {hs : ex_H} {bt : ex_CD} {nx : ex_C} {rest : List ex_E} (pc aux : Nat)  (h : ex_CE rt hs bt nx rest) : ex_CE rt hs bt (c_i2d   nx) ((.i2d , pc, aux) :: rest) := by
  intro V ST d call ex
  show _ = s_i2d  V ST ex_cB ex_cN d rt hs bt call ex rest pc aux (ex_seq V ST ex_cB ex_cN d rt hs bt call ex rest)
  rw [← h V ST d call ex]
  rfl
def c_l2d   (nx : ex_C) : ex_C := fun V ST d call ex => s_l2d  V ST ex_cB ex_cN d 0 [] (fun _ => []) call ex [] 0 0 (nx V ST d call ex)
theorem e_l2d {rt : Nat} {hs : ex_H} {bt : ex_CD} {nx : ex_C} {rest : List ex_E} (pc aux : Nat)  (h : ex_CE rt hs bt nx rest) : ex_CE rt hs bt (c_l2d   nx) ((.l2d , pc, aux) :: rest) := by
  intro V ST d call ex
  show _ = s_l2d  V ST ex_cB ex_cN d rt hs bt call ex rest pc aux (ex_seq V ST ex_cB ex_cN d rt hs bt call ex rest)
  rw [← h V ST d call ex]
  rfl
def c_ddiv   (nx : ex_C) : ex_C := fun V ST d call ex => s_ddiv  V ST ex_cB ex_cN d 0 [] (fun _ => []) call ex [] 0 0 (nx V ST d call ex)
theorem e_ddiv {rt : Nat} {hs : ex_H} {bt : ex_CD} {nx : ex_C} {rest : List ex_E} (pc aux : Nat)  (h : ex_CE rt hs bt nx rest) : ex_CE rt hs bt (c_ddiv   nx) ((.ddiv , pc, aux) :: rest) := by
  intro V ST d call ex
  show _ = s_ddiv  V ST ex_cB ex_cN d rt hs bt call ex rest pc aux (ex_seq V ST ex_cB ex_cN d rt hs bt call ex rest)
  rw [← h V ST d call ex]
  rfl
def c_dcmp (i0 : CmpOp)  (nx : ex_C) : ex_C := fun V ST d call ex => s_dcmp i0 V ST ex_cB ex_cN d 0 [] (fun _ => []) call ex [] 0 0 (nx V ST d call ex)
theorem e_dcmp {rt : Nat} {hs : ex_H} {bt : ex_CD} {nx : ex_C} {rest : List ex_E} (pc aux : Nat) (i0 : CmpOp) (h : ex_CE rt hs bt nx rest) : ex_CE rt hs bt (c_dcmp i0  nx) ((.dcmp i0, pc, aux) :: rest) := by
  intro V ST d call ex
  show _ = s_dcmp i0 V ST ex_cB ex_cN d rt hs bt call ex rest pc aux (ex_seq V ST ex_cB ex_cN d rt hs bt call ex rest)
  rw [← h V ST d call ex]
  rfl
def c_ladd   (nx : ex_C) : ex_C := fun V ST d call ex => s_ladd  V ST ex_cB ex_cN d 0 [] (fun _ => []) call ex [] 0 0 (nx V ST d call ex)
theorem e_ladd {rt : Nat} {hs : ex_H} {bt : ex_CD} {nx : ex_C} {rest : List ex_E} (pc aux : Nat)  (h : ex_CE rt hs bt nx rest) : ex_CE rt hs bt (c_ladd   nx) ((.ladd , pc, aux) :: rest) := by
  intro V ST d call ex
  show _ = s_ladd  V ST ex_cB ex_cN d rt hs bt call ex rest pc aux (ex_seq V ST ex_cB ex_cN d rt hs bt call ex rest)
  rw [← h V ST d call ex]
  rfl
def c_lsub   (nx : ex_C) : ex_C := fun V ST d call ex => s_lsub  V ST ex_cB ex_cN d 0 [] (fun _ => []) call ex [] 0 0 (nx V ST d call ex)
theorem e_lsub {rt : Nat} {hs : ex_H} {bt : ex_CD} {nx : ex_C} {rest : List ex_E} (pc aux : Nat)  (h : ex_CE rt hs bt nx rest) : ex_CE rt hs bt (c_lsub   nx) ((.lsub , pc, aux) :: rest) := by
  intro V ST d call ex
  show _ = s_lsub  V ST ex_cB ex_cN d rt hs bt call ex rest pc aux (ex_seq V ST ex_cB ex_cN d rt hs bt call ex rest)
  rw [← h V ST d call ex]
  rfl
def c_lcmp   (nx : ex_C) : ex_C := fun V ST d call ex => s_lcmp  V ST ex_cB ex_cN d 0 [] (fun _ => []) call ex [] 0 0 (nx V ST d call ex)
theorem e_lcmp {rt : Nat} {hs : ex_H} {bt : ex_CD} {nx : ex_C} {rest : List ex_E} (pc aux : Nat)  (h : ex_CE rt hs bt nx rest) : ex_CE rt hs bt (c_lcmp   nx) ((.lcmp , pc, aux) :: rest) := by
  intro V ST d call ex
  show _ = s_lcmp  V ST ex_cB ex_cN d rt hs bt call ex rest pc aux (ex_seq V ST ex_cB ex_cN d rt hs bt call ex rest)
  rw [← h V ST d call ex]
  rfl
def c_dup   (nx : ex_C) : ex_C := fun V ST d call ex => s_dup  V ST ex_cB ex_cN d 0 [] (fun _ => []) call ex [] 0 0 (nx V ST d call ex)
theorem e_dup {rt : Nat} {hs : ex_H} {bt : ex_CD} {nx : ex_C} {rest : List ex_E} (pc aux : Nat)  (h : ex_CE rt hs bt nx rest) : ex_CE rt hs bt (c_dup   nx) ((.dup , pc, aux) :: rest) := by
  intro V ST d call ex
  show _ = s_dup  V ST ex_cB ex_cN d rt hs bt call ex rest pc aux (ex_seq V ST ex_cB ex_cN d rt hs bt call ex rest)
  rw [← h V ST d call ex]
  rfl
def c_dup_x1   (nx : ex_C) : ex_C := fun V ST d call ex => s_dup_x1  V ST ex_cB ex_cN d 0 [] (fun _ => []) call ex [] 0 0 (nx V ST d call ex)
theorem e_dup_x1 {rt : Nat} {hs : ex_H} {bt : ex_CD} {nx : ex_C} {rest : List ex_E} (pc aux : Nat)  (h : ex_CE rt hs bt nx rest) : ex_CE rt hs bt (c_dup_x1   nx) ((.dup_x1 , pc, aux) :: rest) := by
  intro V ST d call ex
  show _ = s_dup_x1  V ST ex_cB ex_cN d rt hs bt call ex rest pc aux (ex_seq V ST ex_cB ex_cN d rt hs bt call ex rest)
  rw [← h V ST d call ex]
  rfl
def c_dup2   (nx : ex_C) : ex_C := fun V ST d call ex => s_dup2  V ST ex_cB ex_cN d 0 [] (fun _ => []) call ex [] 0 0 (nx V ST d call ex)
theorem e_dup2 {rt : Nat} {hs : ex_H} {bt : ex_CD} {nx : ex_C} {rest : List ex_E} (pc aux : Nat)  (h : ex_CE rt hs bt nx rest) : ex_CE rt hs bt (c_dup2   nx) ((.dup2 , pc, aux) :: rest) := by
  intro V ST d call ex
  show _ = s_dup2  V ST ex_cB ex_cN d rt hs bt call ex rest pc aux (ex_seq V ST ex_cB ex_cN d rt hs bt call ex rest)
  rw [← h V ST d call ex]
  rfl
def c_pop   (nx : ex_C) : ex_C := fun V ST d call ex => s_pop  V ST ex_cB ex_cN d 0 [] (fun _ => []) call ex [] 0 0 (nx V ST d call ex)
theorem e_pop {rt : Nat} {hs : ex_H} {bt : ex_CD} {nx : ex_C} {rest : List ex_E} (pc aux : Nat)  (h : ex_CE rt hs bt nx rest) : ex_CE rt hs bt (c_pop   nx) ((.pop , pc, aux) :: rest) := by
  intro V ST d call ex
  show _ = s_pop  V ST ex_cB ex_cN d rt hs bt call ex rest pc aux (ex_seq V ST ex_cB ex_cN d rt hs bt call ex rest)
  rw [← h V ST d call ex]
  rfl
def c_ifnull (i0 : Int) (aux : Nat) (nx : ex_C) : ex_C := fun V ST d call ex => s_ifnull i0 V ST ex_cB ex_cN d 0 [] (fun _ => []) call ex [] 0 aux (nx V ST d call ex)
theorem e_ifnull {rt : Nat} {hs : ex_H} {bt : ex_CD} {nx : ex_C} {rest : List ex_E} (pc aux : Nat) (i0 : Int) (h : ex_CE rt hs bt nx rest) : ex_CE rt hs bt (c_ifnull i0 aux nx) ((.ifnull i0, pc, aux) :: rest) := by
  intro V ST d call ex
  show _ = s_ifnull i0 V ST ex_cB ex_cN d rt hs bt call ex rest pc aux (ex_seq V ST ex_cB ex_cN d rt hs bt call ex rest)
  rw [← h V ST d call ex]
  rfl
def c_ifnonnull (i0 : Int) (aux : Nat) (nx : ex_C) : ex_C := fun V ST d call ex => s_ifnonnull i0 V ST ex_cB ex_cN d 0 [] (fun _ => []) call ex [] 0 aux (nx V ST d call ex)
theorem e_ifnonnull {rt : Nat} {hs : ex_H} {bt : ex_CD} {nx : ex_C} {rest : List ex_E} (pc aux : Nat) (i0 : Int) (h : ex_CE rt hs bt nx rest) : ex_CE rt hs bt (c_ifnonnull i0 aux nx) ((.ifnonnull i0, pc, aux) :: rest) := by
  intro V ST d call ex
  show _ = s_ifnonnull i0 V ST ex_cB ex_cN d rt hs bt call ex rest pc aux (ex_seq V ST ex_cB ex_cN d rt hs bt call ex rest)
  rw [← h V ST d call ex]
  rfl
def c_if_acmp (c : ACond) (i1 : Int) (aux : Nat) (nx : ex_C) : ex_C := fun V ST d call ex => s_if_acmp c i1 V ST ex_cB ex_cN d 0 [] (fun _ => []) call ex [] 0 aux (nx V ST d call ex)
theorem e_if_acmp {rt : Nat} {hs : ex_H} {bt : ex_CD} {nx : ex_C} {rest : List ex_E} (pc aux : Nat) (c : ACond) (i1 : Int) (h : ex_CE rt hs bt nx rest) : ex_CE rt hs bt (c_if_acmp c i1 aux nx) ((.if_acmp c i1, pc, aux) :: rest) := by
  intro V ST d call ex
  show _ = s_if_acmp c i1 V ST ex_cB ex_cN d rt hs bt call ex rest pc aux (ex_seq V ST ex_cB ex_cN d rt hs bt call ex rest)
  rw [← h V ST d call ex]
  rfl
def c_tableswitch (i0 : Int) (i1 : Int) (i2 : Int) (i3 : Array Int) (aux : Nat) : ex_C := fun V ST d call ex => s_tableswitch i0 i1 i2 i3 V ST ex_cB ex_cN d 0 [] (fun _ => []) call ex [] 0 aux (fun _ _ _ => none)
theorem e_tableswitch {rt : Nat} {hs : ex_H} {bt : ex_CD} {rest : List ex_E} (pc aux : Nat) (i0 : Int) (i1 : Int) (i2 : Int) (i3 : Array Int) : ex_CE rt hs bt (c_tableswitch i0 i1 i2 i3 aux) ((.tableswitch i0 i1 i2 i3, pc, aux) :: rest) := by
  intro V ST d call ex
  show _ = s_tableswitch i0 i1 i2 i3 V ST ex_cB ex_cN d rt hs bt call ex rest pc aux (ex_seq V ST ex_cB ex_cN d rt hs bt call ex rest)
  rfl
def c_caload   (nx : ex_C) : ex_C := fun V ST d call ex => s_caload  V ST ex_cB ex_cN d 0 [] (fun _ => []) call ex [] 0 0 (nx V ST d call ex)
theorem e_caload {rt : Nat} {hs : ex_H} {bt : ex_CD} {nx : ex_C} {rest : List ex_E} (pc aux : Nat)  (h : ex_CE rt hs bt nx rest) : ex_CE rt hs bt (c_caload   nx) ((.caload , pc, aux) :: rest) := by
  intro V ST d call ex
  show _ = s_caload  V ST ex_cB ex_cN d rt hs bt call ex rest pc aux (ex_seq V ST ex_cB ex_cN d rt hs bt call ex rest)
  rw [← h V ST d call ex]
  rfl
def c_laload   (nx : ex_C) : ex_C := fun V ST d call ex => s_laload  V ST ex_cB ex_cN d 0 [] (fun _ => []) call ex [] 0 0 (nx V ST d call ex)
theorem e_laload {rt : Nat} {hs : ex_H} {bt : ex_CD} {nx : ex_C} {rest : List ex_E} (pc aux : Nat)  (h : ex_CE rt hs bt nx rest) : ex_CE rt hs bt (c_laload   nx) ((.laload , pc, aux) :: rest) := by
  intro V ST d call ex
  show _ = s_laload  V ST ex_cB ex_cN d rt hs bt call ex rest pc aux (ex_seq V ST ex_cB ex_cN d rt hs bt call ex rest)
  rw [← h V ST d call ex]
  rfl
def c_aaload   (nx : ex_C) : ex_C := fun V ST d call ex => s_aaload  V ST ex_cB ex_cN d 0 [] (fun _ => []) call ex [] 0 0 (nx V ST d call ex)
theorem e_aaload {rt : Nat} {hs : ex_H} {bt : ex_CD} {nx : ex_C} {rest : List ex_E} (pc aux : Nat)  (h : ex_CE rt hs bt nx rest) : ex_CE rt hs bt (c_aaload   nx) ((.aaload , pc, aux) :: rest) := by
  intro V ST d call ex
  show _ = s_aaload  V ST ex_cB ex_cN d rt hs bt call ex rest pc aux (ex_seq V ST ex_cB ex_cN d rt hs bt call ex rest)
  rw [← h V ST d call ex]
  rfl
def c_castore   (nx : ex_C) : ex_C := fun V ST d call ex => s_castore  V ST ex_cB ex_cN d 0 [] (fun _ => []) call ex [] 0 0 (nx V ST d call ex)
theorem e_castore {rt : Nat} {hs : ex_H} {bt : ex_CD} {nx : ex_C} {rest : List ex_E} (pc aux : Nat)  (h : ex_CE rt hs bt nx rest) : ex_CE rt hs bt (c_castore   nx) ((.castore , pc, aux) :: rest) := by
  intro V ST d call ex
  show _ = s_castore  V ST ex_cB ex_cN d rt hs bt call ex rest pc aux (ex_seq V ST ex_cB ex_cN d rt hs bt call ex rest)
  rw [← h V ST d call ex]
  rfl
def c_lastore   (nx : ex_C) : ex_C := fun V ST d call ex => s_lastore  V ST ex_cB ex_cN d 0 [] (fun _ => []) call ex [] 0 0 (nx V ST d call ex)
theorem e_lastore {rt : Nat} {hs : ex_H} {bt : ex_CD} {nx : ex_C} {rest : List ex_E} (pc aux : Nat)  (h : ex_CE rt hs bt nx rest) : ex_CE rt hs bt (c_lastore   nx) ((.lastore , pc, aux) :: rest) := by
  intro V ST d call ex
  show _ = s_lastore  V ST ex_cB ex_cN d rt hs bt call ex rest pc aux (ex_seq V ST ex_cB ex_cN d rt hs bt call ex rest)
  rw [← h V ST d call ex]
  rfl
def c_aastore   (nx : ex_C) : ex_C := fun V ST d call ex => s_aastore  V ST ex_cB ex_cN d 0 [] (fun _ => []) call ex [] 0 0 (nx V ST d call ex)
theorem e_aastore {rt : Nat} {hs : ex_H} {bt : ex_CD} {nx : ex_C} {rest : List ex_E} (pc aux : Nat)  (h : ex_CE rt hs bt nx rest) : ex_CE rt hs bt (c_aastore   nx) ((.aastore , pc, aux) :: rest) := by
  intro V ST d call ex
  show _ = s_aastore  V ST ex_cB ex_cN d rt hs bt call ex rest pc aux (ex_seq V ST ex_cB ex_cN d rt hs bt call ex rest)
  rw [← h V ST d call ex]
  rfl
def c_arraylength   (nx : ex_C) : ex_C := fun V ST d call ex => s_arraylength  V ST ex_cB ex_cN d 0 [] (fun _ => []) call ex [] 0 0 (nx V ST d call ex)
theorem e_arraylength {rt : Nat} {hs : ex_H} {bt : ex_CD} {nx : ex_C} {rest : List ex_E} (pc aux : Nat)  (h : ex_CE rt hs bt nx rest) : ex_CE rt hs bt (c_arraylength   nx) ((.arraylength , pc, aux) :: rest) := by
  intro V ST d call ex
  show _ = s_arraylength  V ST ex_cB ex_cN d rt hs bt call ex rest pc aux (ex_seq V ST ex_cB ex_cN d rt hs bt call ex rest)
  rw [← h V ST d call ex]
  rfl
def c_checkcast (i0 : Nat) (aux : Nat) (nx : ex_C) : ex_C := fun V ST d call ex => s_checkcast i0 V ST ex_cB ex_cN d 0 [] (fun _ => []) call ex [] 0 aux (nx V ST d call ex)
theorem e_checkcast {rt : Nat} {hs : ex_H} {bt : ex_CD} {nx : ex_C} {rest : List ex_E} (pc aux : Nat) (i0 : Nat) (h : ex_CE rt hs bt nx rest) : ex_CE rt hs bt (c_checkcast i0 aux nx) ((.checkcast i0, pc, aux) :: rest) := by
  intro V ST d call ex
  show _ = s_checkcast i0 V ST ex_cB ex_cN d rt hs bt call ex rest pc aux (ex_seq V ST ex_cB ex_cN d rt hs bt call ex rest)
  rw [← h V ST d call ex]
  rfl
def c_anewarray (i0 : Nat) (aux : Nat) (nx : ex_C) : ex_C := fun V ST d call ex => s_anewarray i0 V ST ex_cB ex_cN d 0 [] (fun _ => []) call ex [] 0 aux (nx V ST d call ex)
theorem e_anewarray {rt : Nat} {hs : ex_H} {bt : ex_CD} {nx : ex_C} {rest : List ex_E} (pc aux : Nat) (i0 : Nat) (h : ex_CE rt hs bt nx rest) : ex_CE rt hs bt (c_anewarray i0 aux nx) ((.anewarray i0, pc, aux) :: rest) := by
  intro V ST d call ex
  show _ = s_anewarray i0 V ST ex_cB ex_cN d rt hs bt call ex rest pc aux (ex_seq V ST ex_cB ex_cN d rt hs bt call ex rest)
  rw [← h V ST d call ex]
  rfl
def c_multianewarray (i0 : Nat) (i1 : Nat)  (nx : ex_C) : ex_C := fun V ST d call ex => s_multianewarray i0 i1 V ST ex_cB ex_cN d 0 [] (fun _ => []) call ex [] 0 0 (nx V ST d call ex)
theorem e_multianewarray {rt : Nat} {hs : ex_H} {bt : ex_CD} {nx : ex_C} {rest : List ex_E} (pc aux : Nat) (i0 : Nat) (i1 : Nat) (h : ex_CE rt hs bt nx rest) : ex_CE rt hs bt (c_multianewarray i0 i1  nx) ((.multianewarray i0 i1, pc, aux) :: rest) := by
  intro V ST d call ex
  show _ = s_multianewarray i0 i1 V ST ex_cB ex_cN d rt hs bt call ex rest pc aux (ex_seq V ST ex_cB ex_cN d rt hs bt call ex rest)
  rw [← h V ST d call ex]
  rfl
def c_ireturn  (rt : Nat) : ex_C := fun V ST d call ex => s_ireturn  V ST ex_cB ex_cN d rt [] (fun _ => []) call ex [] 0 0 (fun _ _ _ => none)
theorem e_ireturn {rt : Nat} {hs : ex_H} {bt : ex_CD} {rest : List ex_E} (pc aux : Nat)  : ex_CE rt hs bt (c_ireturn  rt) ((.ireturn , pc, aux) :: rest) := by
  intro V ST d call ex
  show _ = s_ireturn  V ST ex_cB ex_cN d rt hs bt call ex rest pc aux (ex_seq V ST ex_cB ex_cN d rt hs bt call ex rest)
  rfl
def c_lreturn  (rt : Nat) : ex_C := fun V ST d call ex => s_lreturn  V ST ex_cB ex_cN d rt [] (fun _ => []) call ex [] 0 0 (fun _ _ _ => none)
theorem e_lreturn {rt : Nat} {hs : ex_H} {bt : ex_CD} {rest : List ex_E} (pc aux : Nat)  : ex_CE rt hs bt (c_lreturn  rt) ((.lreturn , pc, aux) :: rest) := by
  intro V ST d call ex
  show _ = s_lreturn  V ST ex_cB ex_cN d rt hs bt call ex rest pc aux (ex_seq V ST ex_cB ex_cN d rt hs bt call ex rest)
  rfl
def c_areturn  (rt : Nat) : ex_C := fun V ST d call ex => s_areturn  V ST ex_cB ex_cN d rt [] (fun _ => []) call ex [] 0 0 (fun _ _ _ => none)
theorem e_areturn {rt : Nat} {hs : ex_H} {bt : ex_CD} {rest : List ex_E} (pc aux : Nat)  : ex_CE rt hs bt (c_areturn  rt) ((.areturn , pc, aux) :: rest) := by
  intro V ST d call ex
  show _ = s_areturn  V ST ex_cB ex_cN d rt hs bt call ex rest pc aux (ex_seq V ST ex_cB ex_cN d rt hs bt call ex rest)
  rfl
def c_freturn  (rt : Nat) : ex_C := fun V ST d call ex => s_freturn  V ST ex_cB ex_cN d rt [] (fun _ => []) call ex [] 0 0 (fun _ _ _ => none)
theorem e_freturn {rt : Nat} {hs : ex_H} {bt : ex_CD} {rest : List ex_E} (pc aux : Nat)  : ex_CE rt hs bt (c_freturn  rt) ((.freturn , pc, aux) :: rest) := by
  intro V ST d call ex
  show _ = s_freturn  V ST ex_cB ex_cN d rt hs bt call ex rest pc aux (ex_seq V ST ex_cB ex_cN d rt hs bt call ex rest)
  rfl
def c_dreturn  (rt : Nat) : ex_C := fun V ST d call ex => s_dreturn  V ST ex_cB ex_cN d rt [] (fun _ => []) call ex [] 0 0 (fun _ _ _ => none)
theorem e_dreturn {rt : Nat} {hs : ex_H} {bt : ex_CD} {rest : List ex_E} (pc aux : Nat)  : ex_CE rt hs bt (c_dreturn  rt) ((.dreturn , pc, aux) :: rest) := by
  intro V ST d call ex
  show _ = s_dreturn  V ST ex_cB ex_cN d rt hs bt call ex rest pc aux (ex_seq V ST ex_cB ex_cN d rt hs bt call ex rest)
  rfl
def c_return_  (rt : Nat) : ex_C := fun V ST d call ex => s_return_  V ST ex_cB ex_cN d rt [] (fun _ => []) call ex [] 0 0 (fun _ _ _ => none)
theorem e_return_ {rt : Nat} {hs : ex_H} {bt : ex_CD} {rest : List ex_E} (pc aux : Nat)  : ex_CE rt hs bt (c_return_  rt) ((.return_ , pc, aux) :: rest) := by
  intro V ST d call ex
  show _ = s_return_  V ST ex_cB ex_cN d rt hs bt call ex rest pc aux (ex_seq V ST ex_cB ex_cN d rt hs bt call ex rest)
  rfl
end
