noncomputable section

def ex_get (M i : Nat) : Nat := Nat.mod (Nat.shiftRight M (Nat.mul 40 i)) 1099511627776
def ex_set (M i v : Nat) : Nat := Nat.xor M (Nat.shiftLeft (Nat.xor (ex_get M i) v) (Nat.mul 40 i))
def ex_isI (v : Nat) : Bool := Nat.ble v 4294967295
def ex_tI (v : Nat) : Bool := (@Bool.rec (fun _ => Bool) ((@Bool.rec (fun _ => Bool) (false) (Nat.ble v 8589934591) (Nat.ble 4294967297 v))) (true) (Nat.ble v 4294967295))
def ex_tA (v : Nat) : Bool := (@Bool.rec (fun _ => Bool) (Nat.beq v 4294967296) (Nat.ble v 34359738367) (Nat.ble 8589934592 v))
def ex_isR (v : Nat) : Bool := (@Bool.rec (fun _ => Bool) (false) (Nat.ble v 34359738367) (Nat.ble 8589934592 v))
def ex_isD (v : Nat) : Bool := (@Bool.rec (fun _ => Bool) (false) (Nat.ble v 17179869183) (Nat.ble 8589934595 v))
def ex_isL (v : Nat) : Bool := (@Bool.rec (fun _ => Bool) (false) (Nat.ble v 549755813887) (Nat.ble 274877906944 v))
def ex_tL (v : Nat) : Bool := (@Bool.rec (fun _ => Bool) ((@Bool.rec (fun _ => Bool) (false) (Nat.ble v 68719542271) (Nat.ble 68719476736 v))) (Nat.ble v 549755813887) (Nat.ble 274877906944 v))
def ex_tD (v : Nat) : Bool := (@Bool.rec (fun _ => Bool) (Nat.beq v 34359738370) (true) (Nat.beq v 34359738369))
def ex_tF (v : Nat) : Bool := Nat.beq v 34359738368
def ex_c2 (v : Nat) : Bool := (@Bool.rec (fun _ => Bool) ((@Bool.rec (fun _ => Bool) (ex_tL v) (true) (ex_tD v))) (false) (Nat.ble v 34359738368))
/-- biased: signed order as the numbers' -/
def ex_bi (v : Nat) : Nat := Nat.xor v 2147483648
def ex_nth {α : Type} : List α → Nat → Option α := fun l => List.rec (fun _ => none) (fun a _ ih k => Nat.rec (some a) (fun k' _ => ih k') k) l
def ex_find : List (Nat × Nat) → Nat → Option Nat := fun l => List.rec (fun _ => none) (fun a _ ih k => bif Nat.beq a.1 k then some a.2 else ih k) l
def ex_mem : List Nat → Nat → Bool := fun l => List.rec (fun _ => false) (fun a _ ih k => bif Nat.beq a k then true else ih k) l
def ex_key (op a b : Nat) : Nat := Nat.add (Nat.shiftLeft (Nat.add (Nat.shiftLeft op 40) a) 40) b
/-- lowest, highest (biased), not among -/
def ex_rng (V : ex_V) (v : Nat) : Option (Nat × Nat × List Nat) := bif ex_isI v then some (ex_bi v, ex_bi v, []) else ex_nth V.1 (Nat.sub v 4294967297)
/-- a < b: 1, 0; where one is a variable -/
def ex_lt (V : ex_V) (a b : Nat) : Option Nat :=
  match ex_rng V a, ex_rng V b with
    | some p, some q => bif Nat.blt p.2.1 q.1 then some 1 else bif Nat.ble q.2.1 p.1 then some 0 else ex_find V.2 (ex_key 1 a b)
    | _, _ => none
/-- a = b: 1, 0; where one is a variable -/
def ex_eq (V : ex_V) (a b : Nat) : Option Nat :=
  match ex_rng V a, ex_rng V b with
    | some p, some q => bif Nat.blt p.2.1 q.1 || Nat.blt q.2.1 p.1 || (ex_isI b && ex_mem p.2.2 (ex_bi b)) || (ex_isI a && ex_mem q.2.2 (ex_bi a)) then some 0 else ex_find V.2 (ex_key 2 a b)
    | _, _ => none
/-- |a| of an int -/
def ex_ab (a : Nat) : Nat := (@Bool.rec (fun _ => Nat) (Nat.sub 4294967296 a) (a) (Nat.ble a 2147483647))
def ex_ng (a : Nat) : Nat := Nat.mod (Nat.sub 4294967296 a) 4294967296
def ex_div (a b : Nat) : Nat := (@Bool.rec (fun _ => Nat) ((@Bool.rec (fun _ => Nat) (Nat.mod (Nat.div (ex_ab a) (ex_ab b)) 4294967296) (ex_ng (Nat.div (ex_ab a) b)) (Nat.ble b 2147483647))) ((@Bool.rec (fun _ => Nat) (ex_ng (Nat.div a (ex_ab b))) (Nat.div a b) (Nat.ble b 2147483647))) (Nat.ble a 2147483647))
def ex_rem (a b : Nat) : Nat := (@Bool.rec (fun _ => Nat) (ex_ng (Nat.mod (ex_ab a) (ex_ab b))) (Nat.mod a (ex_ab b)) (Nat.ble a 2147483647))
def ex_hd (ST : Nat → Nat) (M c : Nat) : Nat := (@Bool.rec (fun _ => Nat) (ex_get M (Nat.sub c 8589934592)) (ex_get (ST (Nat.sub c 17179869184)) 0) (Nat.ble 17179869184 c))
def ex_sl (ST : Nat → Nat) (M c i : Nat) : Nat := (@Bool.rec (fun _ => Nat) (ex_get M (Nat.add (Nat.sub c 8589934592) (Nat.succ i))) (ex_get (ST (Nat.sub c 17179869184)) (Nat.succ i)) (Nat.ble 17179869184 c))
/-- is it a value of a field's or a row's type: 0 int 1 boolean 2 char 3 long 4 byte 5 reference -/
def ex_fit (V : ex_V) (t v : Nat) : Bool :=
  (@Bool.rec (fun _ => Bool) ((@Bool.rec (fun _ => Bool) ((@Bool.rec (fun _ => Bool) ((@Bool.rec (fun _ => Bool) ((@Bool.rec (fun _ => Bool) ((@Bool.rec (fun _ => Bool) (false) ((@Bool.rec (fun _ => Bool) ((@Bool.rec (fun _ => Bool) (false) (match ex_rng V v with | none => false | some q => Nat.ble 2147483648 q.1 && Nat.ble q.2.1 2147549183) (ex_tI v))) (Nat.ble v 65535) (ex_isI v))) (Nat.beq t 2))) (Nat.ble v 127) (Nat.beq t 4))) (ex_isL v) (Nat.beq t 3))) (Nat.ble v 1) (Nat.beq t 1))) (ex_tA v) (Nat.beq t 5))) (ex_tI v) (Nat.beq t 0))
/-- words 0, 1, 2 of the store: the next free word, cells made, elements made -/
def ex_alloc (M B n : Nat) (k : Nat → Nat → ex_R) : ex_R :=
  (@Nat.rec (fun _ => ex_R) (none) (fun t _ => (@Bool.rec (fun _ => ex_R) (none) ((@Bool.rec (fun _ => ex_R) (none) ((@Bool.rec (fun _ => ex_R) (none) (k (Nat.add 8589934593 t) (ex_set (ex_set (ex_set (Nat.xor M (Nat.shiftLeft B (Nat.mul 40 (Nat.succ t)))) 0 (Nat.add (Nat.succ t) (Nat.succ n))) 1 (Nat.succ (ex_get M 1))) 2 (Nat.add n (ex_get M 2)))) (Nat.ble (ex_get M 2) 100000000))) (Nat.ble (ex_get M 1) 1000000))) (Nat.ble t 200000))) (ex_get M 0))
/-- the block of a new row: its head, and n times its zero -/
def ex_blk (kd n z : Nat) : Nat := Nat.add (Nat.add kd (Nat.mul 256 n)) (Nat.shiftLeft (Nat.mul z (Nat.div (Nat.sub (Nat.pow 2 (Nat.mul 40 n)) 1) 1099511627775)) 40)
def ex_zero (kd : Nat) : Nat := (@Bool.rec (fun _ => Nat) ((@Bool.rec (fun _ => Nat) ((@Bool.rec (fun _ => Nat) ((@Bool.rec (fun _ => Nat) (4294967296) (0) (Nat.beq kd 69))) (34359738369) (Nat.beq kd 68))) (412316860416) (Nat.beq kd 67))) (0) (Nat.ble kd 66))
def ex_rsum : List Nat → Nat := fun l => List.rec 0 (fun a _ ih => Nat.add ((@Bool.rec (fun _ => Nat) (1) (2) (ex_c2 a))) ih) l
def ex_take (n : Nat) : List Nat → List Nat → Option (List Nat × List Nat) := Nat.rec (fun acc S => some (acc, S)) (fun _ ih acc S => @List.rec Nat (fun _ => Option (List Nat × List Nat)) none (fun v S' _ => @Bool.rec (fun _ => Option (List Nat × List Nat)) none (ih (v :: acc) S') (Nat.ble v 1099511627775)) S) n
def ex_pack : List Nat → Nat → Nat → Nat := fun l => List.rec (fun _ L => L) (fun a _ ih i L => ih ((@Bool.rec (fun _ => Nat) (Nat.succ i) (Nat.add i 2) (ex_c2 a))) (ex_set L i a)) l
def ex_hand : ex_H → Nat → Nat → Nat := fun l => List.rec (fun _ _ => 0) (fun a _ ih pc e => bif Nat.ble a.1 pc && Nat.blt pc a.2.1 && Nat.beq a.2.2.2 e then a.2.2.1 else ih pc e) l
def ex_cov : ex_H → Nat → Bool := fun l => List.rec (fun _ => false) (fun a _ ih pc => bif Nat.ble a.1 pc && Nat.blt pc a.2.1 then true else ih pc) l
def ex_st1 (nx : ex_K) (L n v : Nat) (S : List Nat) (M : Nat) : ex_R :=
  (@Nat.rec (fun _ => ex_R) (nx (ex_set L 0 v) S M) (fun k _ => (@Bool.rec (fun _ => ex_R) (nx (ex_set L (Nat.succ k) v) S M) (none) (ex_c2 (ex_get L k)))) (n))
def ex_st2 (nx : ex_K) (L n v : Nat) (S : List Nat) (M : Nat) : ex_R := ex_st1 (fun L S M => nx (ex_set L (Nat.succ n) 137438953472) S M) L n v S M
def ex_ld (t : Nat → Bool) (nx : ex_K) (n : Nat) : ex_K := fun L S M => (@Bool.rec (fun _ => ex_R) (none) (nx L (ex_get L n :: S) M) (t (ex_get L n)))
def ex_sti (t : Nat → Bool) (nx : ex_K) (n : Nat) : ex_K := fun L S M => (@List.rec Nat (fun _ => ex_R) none (fun v T _ => (@Bool.rec (fun _ => ex_R) (none) (ex_st1 nx L n v T M) (t v))) S)
def ex_stl (t : Nat → Bool) (nx : ex_K) (n : Nat) : ex_K := fun L S M => (@List.rec Nat (fun _ => ex_R) none (fun v T _ => (@Bool.rec (fun _ => ex_R) (none) (ex_st2 nx L n v T M) (t v))) S)
def ex_psh (nx : ex_K) (aux : Nat) : ex_K := fun L S M => nx L (aux :: S) M
/-- the answer that is told of an operation -/
def ex_tld (V : ex_V) (key : Nat) (nx : ex_K) : ex_K := fun L S M => (@Option.rec (Nat) (fun _ => ex_R) none (fun r => (@Bool.rec (fun _ => ex_R) (none) (nx L (r :: S) M) (ex_tI r))) (ex_find V.2 key))
def ex_bin (V : ex_V) (op : Nat) (g : Nat → Nat → Nat) (nx : ex_K) : ex_K := fun L S M => (@List.rec Nat (fun _ => ex_R) none (fun b T_0 _ => (@List.rec Nat (fun _ => ex_R) none (fun a T _ => (@Bool.rec (fun _ => ex_R) (ex_tld V (ex_key op a b) nx L T M) ((@Bool.rec (fun _ => ex_R) (ex_tld V (ex_key op a b) nx L T M) (nx L (g a b :: T) M) (Nat.ble b 4294967295))) (Nat.ble a 4294967295))) T_0)) S)
def ex_bin2 (V : ex_V) (op : Nat) (g : Nat → Nat → Nat) (nx : ex_K) : ex_K := fun L S M => (@List.rec Nat (fun _ => ex_R) none (fun b T_0 _ => (@List.rec Nat (fun _ => ex_R) none (fun a T _ => (@Bool.rec (fun _ => ex_R) ((@Bool.rec (fun _ => ex_R) (none) ((@Bool.rec (fun _ => ex_R) (none) (ex_tld V (ex_key op a b) nx L T M) (ex_tI b))) (ex_tI a))) ((@Bool.rec (fun _ => ex_R) ((@Bool.rec (fun _ => ex_R) (none) (ex_tld V (ex_key op a b) nx L T M) (ex_tI b))) (nx L (g a b :: T) M) (Nat.ble b 4294967295))) (Nat.ble a 4294967295))) T_0)) S)
/-- an int operation on numbers alone -/
def ex_bn (ok : Nat → Nat → Bool) (g : Nat → Nat → Nat) (nx : ex_K) : ex_K := fun L S M => (@List.rec Nat (fun _ => ex_R) none (fun b T_0 _ => (@List.rec Nat (fun _ => ex_R) none (fun a T _ => (@Bool.rec (fun _ => ex_R) (none) ((@Bool.rec (fun _ => ex_R) (none) ((@Bool.rec (fun _ => ex_R) (none) (nx L (g a b :: T) M) (ok a b))) (Nat.ble b 4294967295))) (Nat.ble a 4294967295))) T_0)) S)
def ex_un (V : ex_V) (op : Nat) (g : Nat → Nat) (nx : ex_K) : ex_K := fun L S M => (@List.rec Nat (fun _ => ex_R) none (fun a T _ => (@Bool.rec (fun _ => ex_R) (ex_tld V (ex_key op a 0) nx L T M) (nx L (g a :: T) M) (Nat.ble a 4294967295))) S)
def ex_un2 (V : ex_V) (op : Nat) (g : Nat → Nat) (nx : ex_K) : ex_K := fun L S M => (@List.rec Nat (fun _ => ex_R) none (fun a T _ => (@Bool.rec (fun _ => ex_R) ((@Bool.rec (fun _ => ex_R) (none) (ex_tld V (ex_key op a 0) nx L T M) (ex_tI a))) (nx L (g a :: T) M) (Nat.ble a 4294967295))) S)
def ex_br (c : Option Nat) (t f : ex_R) : ex_R := (@Option.rec (Nat) (fun _ => ex_R) none (fun n => (@Nat.rec (fun _ => ex_R) (f) (fun m _ => t) (n))) (c))

/-- a branch where one is a variable -/
def ex_cnV (V : ex_V) (c : ClassFile.Cond) (a b : Nat) (t f : ex_R) : ex_R := match c with
  | .eq => ex_br (ex_eq V a b) t f
  | .ne => ex_br (ex_eq V a b) f t
  | .lt => ex_br (ex_lt V a b) t f
  | .ge => ex_br (ex_lt V a b) f t
  | .gt => ex_br (ex_lt V b a) t f
  | .le => ex_br (ex_lt V b a) f t
/-- a branch on two ints -/
def ex_cnd (V : ex_V) (c : ClassFile.Cond) (a b : Nat) (t f : ex_R) : ex_R :=
  (@Bool.rec (fun _ => ex_R) (ex_cnV V c a b t f) ((@Bool.rec (fun _ => ex_R) (ex_cnV V c a b t f) (
    @ClassFile.Cond.rec (fun _ => ex_R)
      ((@Bool.rec (fun _ => ex_R) (f) (t) (Nat.beq a b))) ((@Bool.rec (fun _ => ex_R) (t) (f) (Nat.beq a b)))
      ((@Bool.rec (fun _ => ex_R) (t) (f) (Nat.ble (ex_bi b) (ex_bi a)))) ((@Bool.rec (fun _ => ex_R) (f) (t) (Nat.ble (ex_bi b) (ex_bi a))))
      ((@Bool.rec (fun _ => ex_R) (t) (f) (Nat.ble (ex_bi a) (ex_bi b)))) ((@Bool.rec (fun _ => ex_R) (f) (t) (Nat.ble (ex_bi a) (ex_bi b)))) c) (Nat.ble b 4294967295))) (Nat.ble a 4294967295))
/-- reading a place of a row: its kind kd, the test of what is read -/
def ex_ald (ST : Nat → Nat) (kd : Nat → Bool) (t : Nat → Bool) (nx : ex_K) : ex_K := fun L S M => (@List.rec Nat (fun _ => ex_R) none (fun i T_0 _ => (@List.rec Nat (fun _ => ex_R) none (fun c T _ => (@Bool.rec (fun _ => ex_R) (none) ((@Bool.rec (fun _ => ex_R) (none) ((@Bool.rec (fun _ => ex_R) (none) ((@Bool.rec (fun _ => ex_R) (none) (nx L (ex_sl ST M c i :: T) M) (t (ex_sl ST M c i)))) (Nat.ble (Nat.succ i) (Nat.div (ex_hd ST M c) 256)))) (kd (Nat.mod (ex_hd ST M c) 256)))) (ex_isR c))) T_0)) S)
/-- writing a place of a row that the run has made -/
def ex_ast (kd : Nat → Bool) (t : Nat → Nat → Nat → Bool) (nx : ex_K) : ex_K := fun L S M => (@List.rec Nat (fun _ => ex_R) none (fun v T_0 _ => (@List.rec Nat (fun _ => ex_R) none (fun i T_1 _ => (@List.rec Nat (fun _ => ex_R) none (fun c T _ => (@Bool.rec (fun _ => ex_R) (none) ((@Bool.rec (fun _ => ex_R) (none) ((@Bool.rec (fun _ => ex_R) (none) ((@Bool.rec (fun _ => ex_R) (none) (nx L T (ex_set M (Nat.add (Nat.sub c 8589934592) (Nat.succ i)) v)) (t M (Nat.mod (ex_get M (Nat.sub c 8589934592)) 256) v))) (Nat.ble (Nat.succ i) (Nat.div (ex_get M (Nat.sub c 8589934592)) 256)))) (kd (Nat.mod (ex_get M (Nat.sub c 8589934592)) 256)))) (ex_isD c))) T_1)) T_0)) S)
def ex_gf (ST : Nat → Nat) (aux : Nat) (nx : ex_K) : ex_K := fun L S M => (@List.rec Nat (fun _ => ex_R) none (fun c T _ => (@Bool.rec (fun _ => ex_R) (none) ((@Bool.rec (fun _ => ex_R) (none) (nx L (ex_sl ST M c (Nat.mod aux 64) :: T) M) (Nat.beq (Nat.mod (ex_hd ST M c) 256) (Nat.mod (Nat.div aux 64) 64)))) (ex_isR c))) S)
def ex_pf (V : ex_V) (aux : Nat) (nx : ex_K) : ex_K := fun L S M => (@List.rec Nat (fun _ => ex_R) none (fun v T_0 _ => (@List.rec Nat (fun _ => ex_R) none (fun c T _ => (@Bool.rec (fun _ => ex_R) (none) ((@Bool.rec (fun _ => ex_R) (none) ((@Bool.rec (fun _ => ex_R) (none) (nx L T (ex_set M (Nat.add (Nat.sub c 8589934592) (Nat.succ (Nat.mod aux 64))) v)) (ex_fit V (Nat.mod (Nat.div aux 4096) 16) v))) (Nat.beq (Nat.mod (ex_get M (Nat.sub c 8589934592)) 256) (Nat.mod (Nat.div aux 64) 64)))) (ex_isD c))) T_0)) S)
/-- the first row of a handler: the thrown object is laid where nobody reads it -/
def ex_ctch (ex : Nat → ex_K) (bt : ex_CD) (h : Nat) (L M : Nat) : ex_R :=
  match bt h with
  | (.astore n, _, ax) :: _ => bif Nat.beq ax (Nat.add h 2) then ex_st1 (ex ax) L n 137438953472 [] M else none
  | (.astore_n n, _, ax) :: _ => bif Nat.beq ax (Nat.add h 1) then ex_st1 (ex ax) L n.val 137438953472 [] M else none
  | _ => none
/-- behind a call -/
def ex_aft (hs : ex_H) (bt : ex_CD) (ex : Nat → ex_K) (pc : Nat) (nx : ex_K) (L : Nat) (T : List Nat) (M : Nat) (r : Nat × Nat) : ex_R :=
  (@Bool.rec (fun _ => ex_R) (none) ((@Bool.rec (fun _ => ex_R) (none) (
    (@Bool.rec (fun _ => ex_R) (
      (@Bool.rec (fun _ => ex_R) (nx L (r.1 :: T) r.2) (nx L T r.2) (Nat.beq r.1 137438953473))) ((@Bool.rec (fun _ => ex_R) (none) ((@Bool.rec (fun _ => ex_R) (none) ((@Nat.rec (fun _ => ex_R) ((@Bool.rec (fun _ => ex_R) (some r) (none) (ex_cov hs pc))) (fun h _ => ex_ctch ex bt (Nat.succ h) L r.2) (ex_hand hs pc (Nat.sub r.1 549755813888)))) (Nat.ble r.1 549755813894))) (Nat.ble 549755813889 r.1))) (Nat.ble 549755813888 r.1))) (Nat.ble (ex_get M 2) (ex_get r.2 2)))) (Nat.ble (ex_get M 1) (ex_get r.2 1)))
def ex_inv (hs : ex_H) (bt : ex_CD) (ST : Nat → Nat) (call : Nat → List Nat → Nat → ex_R) (ex : Nat → ex_K) (pc aux : Nat) (nx : ex_K) : ex_K := fun L S M =>
  (@Option.rec (List Nat × List Nat) (fun _ => ex_R) none (fun q => 
    (@Bool.rec (fun _ => ex_R) (none) ((@Bool.rec (fun _ => ex_R) (none) (
      (@Option.rec (Nat × Nat) (fun _ => ex_R) none (fun r => ex_aft hs bt ex pc nx L q.2 M r) (call (Nat.sub (Nat.div aux 8192) 16) q.1 M))) ((@Bool.rec (fun _ => Bool) (match q.1 with | [] => false | c :: _ => (@Bool.rec (fun _ => Bool) ((@Bool.rec (fun _ => Bool) (false) (Nat.beq (Nat.mod (ex_hd ST M c) 256) (Nat.mod (Nat.div aux 32) 256)) (ex_isR c))) (ex_isD c) (Nat.beq (Nat.mod (Nat.div aux 32) 256) 254))) (true) (Nat.beq (Nat.mod (Nat.div aux 32) 256) 255))))) (Nat.ble (ex_rsum q.2) 8))) (ex_take (Nat.mod aux 32) [] S))
def ex_mna (n m : Nat) (M : Nat) (k : Nat → Nat → ex_R) : ex_R :=
  ex_alloc M (ex_blk 71 n 4294967296) n (fun c M => Nat.rec (fun _ M => k c M) (fun _ ih i M => ex_alloc M (ex_blk 64 m 0) m (fun c2 M => ih (Nat.succ i) (ex_set M (Nat.add (Nat.sub c 8589934592) (Nat.succ i)) c2))) n 0 M)
/-- a copy of a row of ints, all of them numbers -/
def ex_cln (n B M : Nat) (k : Nat → Nat → ex_R) : ex_R := (@Bool.rec (fun _ => ex_R) (none) ((@Bool.rec (fun _ => ex_R) (none) (ex_alloc M B n k) (Nat.ble n 100000))) (Nat.beq (Nat.land (Nat.shiftRight B 40) (Nat.shiftRight (ex_blk 0 n 1095216660480) 40)) 0))
def ex_clnS (nx : ex_K) : ex_K := fun L S M => (@List.rec Nat (fun _ => ex_R) none (fun c T _ => (@Bool.rec (fun _ => ex_R) (none) ((@Bool.rec (fun _ => ex_R) (none) ((@Bool.rec (fun _ => ex_R) (none) (ex_cln (Nat.div (ex_get M (Nat.sub c 8589934592)) 256) (Nat.mod (Nat.shiftRight M (Nat.mul 40 (Nat.sub c 8589934592))) (Nat.pow 2 (Nat.mul 40 (Nat.succ (Nat.div (ex_get M (Nat.sub c 8589934592)) 256))))) M (fun c M => nx L (c :: T) M)) (Nat.ble (ex_rsum T) 8))) (Nat.beq (Nat.mod (ex_get M (Nat.sub c 8589934592)) 256) 64))) (ex_isD c))) S)
/-- what an instruction does -/
abbrev ex_S : Type := ex_V → (Nat → Nat) → (Nat → Nat) → (Nat → Nat) → Nat → Nat → ex_H → ex_CD → (Nat → List Nat → Nat → ex_R) → (Nat → ex_K) → List ex_E → Nat → Nat → ex_K → ex_K
def ex_no : ex_S := fun _ _ _ _ _ _ _ _ _ _ _ _ _ _ _ _ _ => none
/-- a long's range as an int's, biased -/
def ex_rnL (V : ex_V) (v : Nat) : Option (Nat × Nat × List Nat) := bif ex_isL v then (bif Nat.ble 410169376768 v && Nat.ble v 414464344063 then some (Nat.sub v 410169376768, Nat.sub v 410169376768, []) else none) else ex_nth V.1 (Nat.sub v 68719476736)
def ex_lcV (V : ex_V) (a b : Nat) (nx : ex_K) : ex_K := fun L T M => bif ex_tL a && ex_tL b then
    (match ex_rnL V a, ex_rnL V b with
    | some p, some q => bif Nat.blt p.2.1 q.1 then nx L (4294967295 :: T) M else bif Nat.blt q.2.1 p.1 then nx L (1 :: T) M else ex_tld V (ex_key 14 a b) nx L T M
    | _, _ => none) else none
def s_aaload  : ex_S := fun _ ST _ _ _ _ _ _ _ _ _ _ _ nx => ex_ald ST (fun k => (@Bool.rec (fun _ => Bool) (false) (Nat.ble k 72) (Nat.ble 70 k))) ex_tA nx
def s_aastore  : ex_S := fun _ ST _ _ _ _ _ _ _ _ _ _ _ nx => ex_ast (fun k => (@Bool.rec (fun _ => Bool) (Nat.beq k 71) (true) (Nat.beq k 70))) (fun M k v => (@Bool.rec (fun _ => Bool) ((@Bool.rec (fun _ => Bool) (false) ((@Bool.rec (fun _ => Bool) (false) (Nat.beq (Nat.mod (ex_get M (Nat.sub v 8589934592)) 256) 64) (ex_isD v))) (Nat.beq k 71))) ((@Bool.rec (fun _ => Bool) ((@Bool.rec (fun _ => Bool) (false) ((@Bool.rec (fun _ => Bool) ((@Bool.rec (fun _ => Bool) (false) ((@Bool.rec (fun _ => Bool) (false) (Nat.ble (Nat.mod (ex_hd ST M v) 256) 71) (Nat.ble 64 (Nat.mod (ex_hd ST M v) 256)))) (ex_isD v))) (true) (Nat.ble (Nat.mod (ex_hd ST M v) 256) 19))) (ex_isR v))) (true) (Nat.beq v 4294967296))) (Nat.beq k 70))) nx
def s_aconst_null  : ex_S := fun _ _ _ _ _ _ _ _ _ _ _ _ _ nx => ex_psh nx 4294967296
def s_aload (n : Nat) : ex_S := fun _ _ _ _ _ _ _ _ _ _ _ _ _ nx => ex_ld ex_tA nx n
def s_aload_n (n : Fin 4) : ex_S := fun _ _ _ _ _ _ _ _ _ _ _ _ _ nx => ex_ld ex_tA nx n.val
def s_anewarray (_ : Nat) : ex_S := fun _ _ _ _ _ _ _ _ _ _ _ _ aux nx => fun L S M => (@List.rec Nat (fun _ => ex_R) none (fun n T _ => (@Bool.rec (fun _ => ex_R) (none) (ex_alloc M (ex_blk aux n 4294967296) n (fun c M => nx L (c :: T) M)) (Nat.ble n 100000))) S)
def s_areturn  : ex_S := fun _ _ _ _ _ rt _ _ _ _ _ _ _ _ => fun L S M => (@List.rec Nat (fun _ => ex_R) none (fun v T _ => (@List.rec Nat (fun _ => ex_R) ((@Bool.rec (fun _ => ex_R) (none) ((@Bool.rec (fun _ => ex_R) (none) (some (v, M)) (Nat.beq rt 5))) (ex_tA v))) (fun _ _ _ => none) T)) S)
def s_arraylength  : ex_S := fun _ ST _ _ _ _ _ _ _ _ _ _ _ nx => fun L S M => (@List.rec Nat (fun _ => ex_R) none (fun c T _ => (@Bool.rec (fun _ => ex_R) (none) ((@Bool.rec (fun _ => ex_R) (none) (nx L (Nat.div (ex_hd ST M c) 256 :: T) M) ((@Bool.rec (fun _ => Bool) (false) (Nat.ble (Nat.mod (ex_hd ST M c) 256) 72) (Nat.ble 64 (Nat.mod (ex_hd ST M c) 256)))))) (ex_isR c))) S)
def s_astore (n : Nat) : ex_S := fun _ _ _ _ _ _ _ _ _ _ _ _ _ nx => ex_sti ex_tA nx n
def s_astore_n (n : Fin 4) : ex_S := fun _ _ _ _ _ _ _ _ _ _ _ _ _ nx => ex_sti ex_tA nx n.val
def s_baload  : ex_S := fun _ ST _ _ _ _ _ _ _ _ _ _ _ nx => ex_ald ST (fun k => (@Bool.rec (fun _ => Bool) (Nat.beq k 69) (true) (Nat.beq k 65))) ex_isI nx
def s_bastore  : ex_S := fun _ _ _ _ _ _ _ _ _ _ _ _ _ nx => ex_ast (fun k => Nat.beq k 65) (fun _ _ v => Nat.ble v 1) nx
def s_bipush (_ : Int) : ex_S := fun _ _ _ _ _ _ _ _ _ _ _ _ aux nx => ex_psh nx aux
def s_caload  : ex_S := fun _ ST _ _ _ _ _ _ _ _ _ _ _ nx => ex_ald ST (fun k => Nat.beq k 66) ex_tI nx
def s_castore  : ex_S := fun V _ _ _ _ _ _ _ _ _ _ _ _ nx => ex_ast (fun k => Nat.beq k 66) (fun _ _ v => ex_fit V 2 v) nx
def s_checkcast (_ : Nat) : ex_S := fun _ ST _ _ _ _ _ _ _ _ _ _ aux nx => fun L S M => (@List.rec Nat (fun _ => ex_R) none (fun c T _ => (@Bool.rec (fun _ => ex_R) ((@Bool.rec (fun _ => ex_R) (none) ((@Bool.rec (fun _ => ex_R) (none) (nx L S M) (Nat.beq (Nat.mod (ex_hd ST M c) 256) aux))) ((@Bool.rec (fun _ => Bool) (ex_isR c) (ex_isD c) (Nat.ble 64 aux))))) (nx L S M) (Nat.beq c 4294967296))) S)
def s_dcmp (_ : CmpOp) : ex_S := fun _ _ _ _ _ _ _ _ _ _ _ _ _ nx => fun L S M => (@List.rec Nat (fun _ => ex_R) none (fun b T_0 _ => (@List.rec Nat (fun _ => ex_R) none (fun a T _ => (@Bool.rec (fun _ => ex_R) (none) ((@Bool.rec (fun _ => ex_R) (none) (nx L (0 :: T) M) (Nat.beq b 34359738369))) (Nat.beq a 34359738369))) T_0)) S)
def s_ddiv  : ex_S := fun _ _ _ _ _ _ _ _ _ _ _ _ _ nx => fun L S M => (@List.rec Nat (fun _ => ex_R) none (fun b T_0 _ => (@List.rec Nat (fun _ => ex_R) none (fun a T _ => (@Bool.rec (fun _ => ex_R) (none) ((@Bool.rec (fun _ => ex_R) (none) (nx L (34359738369 :: T) M) (Nat.beq b 34359738370))) (Nat.beq a 34359738369))) T_0)) S)
def s_dload (n : Nat) : ex_S := fun _ _ _ _ _ _ _ _ _ _ _ _ _ nx => ex_ld ex_tD nx n
def s_dload_n (n : Fin 4) : ex_S := fun _ _ _ _ _ _ _ _ _ _ _ _ _ nx => ex_ld ex_tD nx n.val
def s_dreturn  : ex_S := fun _ _ _ _ _ rt _ _ _ _ _ _ _ _ => fun L S M => (@List.rec Nat (fun _ => ex_R) none (fun v T _ => (@List.rec Nat (fun _ => ex_R) ((@Bool.rec (fun _ => ex_R) (none) ((@Bool.rec (fun _ => ex_R) (none) (some (v, M)) (Nat.beq rt 8))) (ex_tD v))) (fun _ _ _ => none) T)) S)
def s_dstore (n : Nat) : ex_S := fun _ _ _ _ _ _ _ _ _ _ _ _ _ nx => ex_stl ex_tD nx n
def s_dstore_n (n : Fin 4) : ex_S := fun _ _ _ _ _ _ _ _ _ _ _ _ _ nx => ex_stl ex_tD nx n.val
def s_dup  : ex_S := fun _ _ _ _ _ _ _ _ _ _ _ _ _ nx => fun L S M => (@List.rec Nat (fun _ => ex_R) none (fun a T _ => (@Bool.rec (fun _ => ex_R) (nx L (a :: S) M) (none) (ex_c2 a))) S)
def s_dup_x1  : ex_S := fun _ _ _ _ _ _ _ _ _ _ _ _ _ nx => fun L S M => (@List.rec Nat (fun _ => ex_R) none (fun b T_0 _ => (@List.rec Nat (fun _ => ex_R) none (fun a T _ => (@Bool.rec (fun _ => ex_R) ((@Bool.rec (fun _ => ex_R) (nx L (b :: a :: b :: T) M) (none) (ex_c2 b))) (none) (ex_c2 a))) T_0)) S)
def s_dup2  : ex_S := fun _ _ _ _ _ _ _ _ _ _ _ _ _ nx => fun L S M => (@List.rec Nat (fun _ => ex_R) none (fun b T_0 _ => (@List.rec Nat (fun _ => ex_R) none (fun a T _ => (@Bool.rec (fun _ => ex_R) ((@Bool.rec (fun _ => ex_R) (nx L (b :: a :: S) M) (none) (ex_c2 b))) (none) (ex_c2 a))) T_0)) S)
def s_fconst (_ : Fin 3) : ex_S := fun _ _ _ _ _ _ _ _ _ _ _ _ aux nx => ex_psh nx aux
def s_freturn  : ex_S := fun _ _ _ _ _ rt _ _ _ _ _ _ _ _ => fun L S M => (@List.rec Nat (fun _ => ex_R) none (fun v T _ => (@List.rec Nat (fun _ => ex_R) ((@Bool.rec (fun _ => ex_R) (none) ((@Bool.rec (fun _ => ex_R) (none) (some (v, M)) (Nat.beq rt 7))) (ex_tF v))) (fun _ _ _ => none) T)) S)
def s_fstore (n : Nat) : ex_S := fun _ _ _ _ _ _ _ _ _ _ _ _ _ nx => ex_sti ex_tF nx n
def s_fstore_n (n : Fin 4) : ex_S := fun _ _ _ _ _ _ _ _ _ _ _ _ _ nx => ex_sti ex_tF nx n.val
def s_getfield (_ : Nat) : ex_S := fun _ ST _ _ _ _ _ _ _ _ _ _ aux nx => ex_gf ST aux nx
def s_getstatic (_ : Nat) : ex_S := fun _ _ _ _ _ _ _ _ _ _ _ _ aux nx => ex_psh nx aux
def s_goto (_ : Int) : ex_S := fun _ _ _ _ _ _ _ _ _ ex _ _ aux _ => ex aux
def s_i2b  : ex_S := fun V _ _ _ _ _ _ _ _ _ _ _ _ nx => ex_un2 V 13 (fun a => (@Bool.rec (fun _ => Nat) (Nat.add (Nat.mod a 256) 4294967040) (Nat.mod a 256) (Nat.ble (Nat.mod a 256) 127))) nx
def s_i2c  : ex_S := fun V _ _ _ _ _ _ _ _ _ _ _ _ nx => ex_un2 V 12 (fun a => Nat.mod a 65536) nx
def s_i2d  : ex_S := fun _ _ _ _ _ _ _ _ _ _ _ _ _ nx => fun L S M => (@List.rec Nat (fun _ => ex_R) none (fun a T _ => (@Bool.rec (fun _ => ex_R) (none) (nx L (34359738369 :: T) M) (Nat.beq a 0))) S)
def s_i2l  : ex_S := fun _ _ _ _ _ _ _ _ _ _ _ _ _ nx => fun L S M => (@List.rec Nat (fun _ => ex_R) none (fun a T _ => (@Bool.rec (fun _ => ex_R) ((@Bool.rec (fun _ => ex_R) ((@Bool.rec (fun _ => ex_R) (none) ((@Bool.rec (fun _ => ex_R) (none) (nx L (Nat.add 64424509439 a :: T) M) (Nat.ble a 4295032832))) (ex_tI a))) (nx L (Nat.add 408021893120 a :: T) M) (Nat.ble a 4294967295))) (nx L (Nat.add 412316860416 a :: T) M) (Nat.ble a 2147483647))) S)
def s_iadd  : ex_S := fun V _ _ _ _ _ _ _ _ _ _ _ _ nx => ex_bin2 V 3 (fun a b => Nat.mod (Nat.add a b) 4294967296) nx
def s_iaload  : ex_S := fun _ ST _ _ _ _ _ _ _ _ _ _ _ nx => ex_ald ST (fun k => Nat.beq k 64) ex_tI nx
def s_iand  : ex_S := fun V _ _ _ _ _ _ _ _ _ _ _ _ nx => ex_bin2 V 6 Nat.land nx
def s_iastore  : ex_S := fun _ _ _ _ _ _ _ _ _ _ _ _ _ nx => ex_ast (fun k => Nat.beq k 64) (fun _ _ v => ex_tI v) nx
def s_iconst (_ : Int) : ex_S := fun _ _ _ _ _ _ _ _ _ _ _ _ aux nx => ex_psh nx aux
def s_idiv  : ex_S := fun V _ _ _ _ _ _ _ _ _ _ _ _ nx => fun L S M => (@List.rec Nat (fun _ => ex_R) none (fun z T _ => (@Bool.rec (fun _ => ex_R) (ex_bin2 V 9 ex_div nx L S M) (none) (Nat.beq z 0))) S)
def s_if_acmp (c : ACond) (_ : Int) : ex_S := fun _ ST _ _ _ _ _ _ _ ex _ _ aux nx => fun L S M => (@List.rec Nat (fun _ => ex_R) none (fun b T_0 _ => (@List.rec Nat (fun _ => ex_R) none (fun a T _ => (@Bool.rec (fun _ => ex_R) (none) ((@Bool.rec (fun _ => ex_R) (none) ((@Bool.rec (fun _ => ex_R) ((@Bool.rec (fun _ => ex_R) ((@Bool.rec (fun _ => ex_R) (none) (@ClassFile.ACond.rec (fun _ => ex_R) ((@Bool.rec (fun _ => ex_R) (nx L T M) (ex aux L T M) (Nat.beq a b))) ((@Bool.rec (fun _ => ex_R) (ex aux L T M) (nx L T M) (Nat.beq a b))) c) ((@Bool.rec (fun _ => Bool) ((@Bool.rec (fun _ => Bool) (Nat.beq a b) (true) (ex_isD b))) (true) (ex_isD a))))) (none) (Nat.beq (Nat.mod (ex_hd ST M b) 256) 255))) (none) (Nat.beq (Nat.mod (ex_hd ST M a) 256) 255))) (ex_isR b))) (ex_isR a))) T_0)) S)
def s_if_icmp (c : ClassFile.Cond) (_ : Int) : ex_S := fun V _ _ _ _ _ _ _ _ ex _ _ aux nx => fun L S M => (@List.rec Nat (fun _ => ex_R) none (fun b T_0 _ => (@List.rec Nat (fun _ => ex_R) none (fun a T _ => (@Bool.rec (fun _ => ex_R) (none) ((@Bool.rec (fun _ => ex_R) (none) (ex_cnd V c a b (ex aux L T M) (nx L T M)) (ex_tI b))) (ex_tI a))) T_0)) S)
def s_ifCond (c : ClassFile.Cond) (_ : Int) : ex_S := fun V _ _ _ _ _ _ _ _ ex _ _ aux nx => fun L S M => (@List.rec Nat (fun _ => ex_R) none (fun a T _ => (@Bool.rec (fun _ => ex_R) (none) (ex_cnd V c a 0 (ex aux L T M) (nx L T M)) (ex_tI a))) S)
def s_ifnonnull (_ : Int) : ex_S := fun _ ST _ _ _ _ _ _ _ ex _ _ aux nx => fun L S M => (@List.rec Nat (fun _ => ex_R) none (fun a T _ => (@Bool.rec (fun _ => ex_R) ((@Bool.rec (fun _ => ex_R) (none) ((@Bool.rec (fun _ => ex_R) (ex aux L T M) (none) (Nat.beq (Nat.mod (ex_hd ST M a) 256) 255))) (ex_isR a))) (nx L T M) (Nat.beq a 4294967296))) S)
def s_ifnull (_ : Int) : ex_S := fun _ ST _ _ _ _ _ _ _ ex _ _ aux nx => fun L S M => (@List.rec Nat (fun _ => ex_R) none (fun a T _ => (@Bool.rec (fun _ => ex_R) ((@Bool.rec (fun _ => ex_R) (none) ((@Bool.rec (fun _ => ex_R) (nx L T M) (none) (Nat.beq (Nat.mod (ex_hd ST M a) 256) 255))) (ex_isR a))) (ex aux L T M) (Nat.beq a 4294967296))) S)
def s_iinc (n : Nat) (_ : Int) : ex_S := fun _ _ _ _ _ _ _ _ _ _ _ _ aux nx => fun L S M => (@Bool.rec (fun _ => ex_R) (none) (ex_st1 nx L n (Nat.mod (Nat.add (ex_get L n) aux) 4294967296) S M) (Nat.ble (ex_get L n) 4294967295))
def s_iload (n : Nat) : ex_S := fun _ _ _ _ _ _ _ _ _ _ _ _ _ nx => ex_ld ex_tI nx n
def s_iload_n (n : Fin 4) : ex_S := fun _ _ _ _ _ _ _ _ _ _ _ _ _ nx => ex_ld ex_tI nx n.val
def s_imul  : ex_S := fun V _ _ _ _ _ _ _ _ _ _ _ _ nx => ex_bin2 V 5 (fun a b => Nat.mod (Nat.mul a b) 4294967296) nx
def s_ineg  : ex_S := fun V _ _ _ _ _ _ _ _ _ _ _ _ nx => ex_un2 V 11 ex_ng nx
def s_invokeinterface (_ : Nat) (_ : Nat) : ex_S := fun _ ST _ _ _ _ hs bt call ex _ pc aux nx => ex_inv hs bt ST call ex pc aux nx
def s_invokespecial (_ : Nat) : ex_S := fun _ ST _ _ _ _ hs bt call ex _ pc aux nx => fun L S M => (@Bool.rec (fun _ => ex_R) (ex_inv hs bt ST call ex pc aux nx L S M) ((@List.rec Nat (fun _ => ex_R) none (fun c T _ => (@Bool.rec (fun _ => ex_R) (none) ((@Bool.rec (fun _ => ex_R) (none) (nx L T M) (Nat.ble (ex_rsum T) 8))) (ex_isD c))) S)) (Nat.beq aux 0))
def s_invokestatic (_ : Nat) : ex_S := fun _ ST _ _ _ _ hs bt call ex _ pc aux nx => ex_inv hs bt ST call ex pc aux nx
def s_invokevirtual (_ : Nat) : ex_S := fun _ ST _ _ _ _ hs bt call ex _ pc aux nx => fun L S M => (@Bool.rec (fun _ => ex_R) (ex_inv hs bt ST call ex pc aux nx L S M) (ex_clnS nx L S M) (Nat.beq aux 1))
def s_ior  : ex_S := fun V _ _ _ _ _ _ _ _ _ _ _ _ nx => ex_bin2 V 7 Nat.lor nx
def s_irem  : ex_S := fun V _ _ _ _ _ _ _ _ _ _ _ _ nx => fun L S M => (@List.rec Nat (fun _ => ex_R) none (fun z T _ => (@Bool.rec (fun _ => ex_R) (ex_bin2 V 10 ex_rem nx L S M) (none) (Nat.beq z 0))) S)
def s_ireturn  : ex_S := fun V _ _ _ _ rt _ _ _ _ _ _ _ _ => fun L S M => (@List.rec Nat (fun _ => ex_R) none (fun v T _ => (@List.rec Nat (fun _ => ex_R) ((@Bool.rec (fun _ => ex_R) (none) ((@Bool.rec (fun _ => ex_R) (none) ((@Bool.rec (fun _ => ex_R) (none) ((@Bool.rec (fun _ => ex_R) (some (v, M)) (none) (Nat.beq rt 3))) (Nat.ble rt 4))) (ex_fit V rt v))) (ex_tI v))) (fun _ _ _ => none) T)) S)
def s_ishl  : ex_S := fun _ _ _ _ _ _ _ _ _ _ _ _ _ nx => ex_bn (fun _ b => Nat.ble b 31) (fun a b => Nat.mod (Nat.shiftLeft a b) 4294967296) nx
def s_ishr  : ex_S := fun _ _ _ _ _ _ _ _ _ _ _ _ _ nx => ex_bn (fun a b => (@Bool.rec (fun _ => Bool) (false) (Nat.ble a 2147483647) (Nat.ble b 31))) Nat.shiftRight nx
def s_istore (n : Nat) : ex_S := fun _ _ _ _ _ _ _ _ _ _ _ _ _ nx => ex_sti ex_tI nx n
def s_istore_n (n : Fin 4) : ex_S := fun _ _ _ _ _ _ _ _ _ _ _ _ _ nx => ex_sti ex_tI nx n.val
def s_isub  : ex_S := fun V _ _ _ _ _ _ _ _ _ _ _ _ nx => ex_bin2 V 4 (fun a b => Nat.mod (Nat.add a (Nat.sub 4294967296 b)) 4294967296) nx
def s_ixor  : ex_S := fun V _ _ _ _ _ _ _ _ _ _ _ _ nx => ex_bin2 V 8 Nat.xor nx
def s_l2d  : ex_S := fun _ _ _ _ _ _ _ _ _ _ _ _ _ nx => fun L S M => (@List.rec Nat (fun _ => ex_R) none (fun a T _ => (@Bool.rec (fun _ => ex_R) (none) (nx L (34359738369 :: T) M) (Nat.beq a 412316860416))) S)
def s_ladd  : ex_S := fun _ _ _ _ _ _ _ _ _ _ _ _ _ nx => fun L S M => (@List.rec Nat (fun _ => ex_R) none (fun b T_0 _ => (@List.rec Nat (fun _ => ex_R) none (fun a T _ => (@Bool.rec (fun _ => ex_R) (none) ((@Bool.rec (fun _ => ex_R) (none) ((@Bool.rec (fun _ => ex_R) (none) ((@Bool.rec (fun _ => ex_R) (none) (nx L (Nat.sub (Nat.add a b) 412316860416 :: T) M) (Nat.ble (Nat.add a b) 962072674303))) (Nat.ble 687194767360 (Nat.add a b)))) (ex_isL b))) (ex_isL a))) T_0)) S)
def s_laload  : ex_S := fun _ ST _ _ _ _ _ _ _ _ _ _ _ nx => ex_ald ST (fun k => Nat.beq k 67) ex_isL nx
def s_lastore  : ex_S := fun _ _ _ _ _ _ _ _ _ _ _ _ _ nx => ex_ast (fun k => Nat.beq k 67) (fun _ _ v => ex_isL v) nx
def s_lcmp  : ex_S := fun V _ _ _ _ _ _ _ _ _ _ _ _ nx => fun L S M => (@List.rec Nat (fun _ => ex_R) none (fun b T_0 _ => (@List.rec Nat (fun _ => ex_R) none (fun a T _ => (@Bool.rec (fun _ => ex_R) (ex_lcV V a b nx L T M) ((@Bool.rec (fun _ => ex_R) ((@Bool.rec (fun _ => ex_R) (nx L (1 :: T) M) (nx L (4294967295 :: T) M) (Nat.ble a b))) (nx L (0 :: T) M) (Nat.beq a b))) ((@Bool.rec (fun _ => Bool) (false) (ex_isL b) (ex_isL a))))) T_0)) S)
def s_lconst (_ : Fin 2) : ex_S := fun _ _ _ _ _ _ _ _ _ _ _ _ aux nx => ex_psh nx aux
def s_ldc (_ : Nat) : ex_S := fun _ _ _ _ _ _ _ _ _ _ _ _ aux nx => ex_psh nx aux
def s_ldc_w (_ : Nat) : ex_S := fun _ _ _ _ _ _ _ _ _ _ _ _ aux nx => ex_psh nx aux
def s_ldc2_w (_ : Nat) : ex_S := fun _ _ _ _ _ _ _ _ _ _ _ _ aux nx => ex_psh nx aux
def s_lload (n : Nat) : ex_S := fun _ _ _ _ _ _ _ _ _ _ _ _ _ nx => ex_ld ex_tL nx n
def s_lload_n (n : Fin 4) : ex_S := fun _ _ _ _ _ _ _ _ _ _ _ _ _ nx => ex_ld ex_tL nx n.val
def s_lreturn  : ex_S := fun _ _ _ _ _ rt _ _ _ _ _ _ _ _ => fun L S M => (@List.rec Nat (fun _ => ex_R) none (fun v T _ => (@List.rec Nat (fun _ => ex_R) ((@Bool.rec (fun _ => ex_R) (none) ((@Bool.rec (fun _ => ex_R) (none) (some (v, M)) (Nat.beq rt 3))) (ex_tL v))) (fun _ _ _ => none) T)) S)
def s_lstore (n : Nat) : ex_S := fun _ _ _ _ _ _ _ _ _ _ _ _ _ nx => ex_stl ex_tL nx n
def s_lstore_n (n : Fin 4) : ex_S := fun _ _ _ _ _ _ _ _ _ _ _ _ _ nx => ex_stl ex_tL nx n.val
def s_lsub  : ex_S := fun _ _ _ _ _ _ _ _ _ _ _ _ _ nx => fun L S M => (@List.rec Nat (fun _ => ex_R) none (fun b T_0 _ => (@List.rec Nat (fun _ => ex_R) none (fun a T _ => (@Bool.rec (fun _ => ex_R) (none) ((@Bool.rec (fun _ => ex_R) (none) ((@Bool.rec (fun _ => ex_R) (none) ((@Bool.rec (fun _ => ex_R) (none) (nx L (Nat.sub (Nat.add a 412316860416) b :: T) M) (Nat.ble (Nat.sub (Nat.add a 412316860416) b) 549755813887))) (Nat.ble 274877906944 (Nat.sub (Nat.add a 412316860416) b)))) (ex_isL b))) (ex_isL a))) T_0)) S)
def s_multianewarray (_ : Nat) (_ : Nat) : ex_S := fun _ _ _ _ _ _ _ _ _ _ _ _ _ nx => fun L S M => (@List.rec Nat (fun _ => ex_R) none (fun m T_0 _ => (@List.rec Nat (fun _ => ex_R) none (fun n T _ => (@Bool.rec (fun _ => ex_R) (none) ((@Bool.rec (fun _ => ex_R) (none) ((@Bool.rec (fun _ => ex_R) (none) (ex_mna n m M (fun c M => nx L (c :: T) M)) (Nat.ble 3 (ex_get M 0)))) (Nat.ble m 1000))) (Nat.ble n 1000))) T_0)) S)
def s_new (_ : Nat) : ex_S := fun _ _ cB cN d _ hs _ _ _ rest pc aux nx => fun L S M => (@Bool.rec (fun _ => ex_R) (ex_alloc M (cB aux) (cN aux) (fun c M => nx L (c :: S) M)) (match rest with | (.dup, _) :: (.invokespecial _, _) :: (.athrow, _) :: _ => (@Bool.rec (fun _ => ex_R) ((@Bool.rec (fun _ => ex_R) (none) ((@Bool.rec (fun _ => ex_R) (none) ((@Bool.rec (fun _ => ex_R) (none) ((@Bool.rec (fun _ => ex_R) (none) (some (Nat.add 549755813888 (Nat.sub aux 1000), ex_set (ex_set M 1 (Nat.succ (ex_get M 1))) 2 (Nat.add 6 (ex_get M 2)))) (Nat.ble (ex_get M 2) 100000000))) (Nat.ble (ex_get M 1) 1000000))) (Nat.ble (ex_rsum S) 8))) (Nat.ble 14 d))) (none) (ex_cov hs (Nat.add pc 7))) | _ => none) (Nat.ble 1000 aux))
def s_newarray (_ : ArrayType) : ex_S := fun _ _ _ _ _ _ _ _ _ _ _ _ aux nx => fun L S M => (@List.rec Nat (fun _ => ex_R) none (fun n T _ => (@Bool.rec (fun _ => ex_R) (none) (ex_alloc M (ex_blk aux n (ex_zero aux)) n (fun c M => nx L (c :: T) M)) (Nat.ble n 100000))) S)
def s_pop  : ex_S := fun _ _ _ _ _ _ _ _ _ _ _ _ _ nx => fun L S M => (@List.rec Nat (fun _ => ex_R) none (fun a T _ => (@Bool.rec (fun _ => ex_R) (nx L T M) (none) (ex_c2 a))) S)
def s_putfield (_ : Nat) : ex_S := fun V _ _ _ _ _ _ _ _ _ _ _ aux nx => ex_pf V aux nx
def s_return_  : ex_S := fun _ _ _ _ _ rt _ _ _ _ _ _ _ _ => fun L S M => (@List.rec Nat (fun _ => ex_R) ((@Bool.rec (fun _ => ex_R) (none) (some (137438953473, M)) (Nat.beq rt 15))) (fun _ _ _ => none) S)
def s_sipush (_ : Int) : ex_S := fun _ _ _ _ _ _ _ _ _ _ _ _ aux nx => ex_psh nx aux
def s_tableswitch (_ : Int) (_ : Int) (_ : Int) (_ : Array Int) : ex_S := fun _ _ _ _ _ _ _ _ _ ex _ _ aux _ => fun L S M => (@List.rec Nat (fun _ => ex_R) none (fun a T _ => (@Bool.rec (fun _ => ex_R) (none) ((@Bool.rec (fun _ => ex_R) (ex (ex_get aux 0) L T M) ((@Bool.rec (fun _ => ex_R) (ex (ex_get aux (Nat.add 3 (Nat.sub (ex_bi a) (ex_bi (ex_get aux 1))))) L T M) (ex (ex_get aux 0) L T M) (Nat.ble (Nat.add (ex_bi (ex_get aux 1)) (ex_get aux 2)) (ex_bi a)))) (Nat.ble (ex_bi (ex_get aux 1)) (ex_bi a)))) (ex_isI a))) S)
def ex_ins (i : Instr) : ex_S := @Instr.rec (fun _ => ex_S)
  s_aaload
  s_aastore
  s_aconst_null
  s_aload
  s_aload_n
  s_anewarray
  s_areturn
  s_arraylength
  s_astore
  s_astore_n
  ex_no
  s_baload
  s_bastore
  s_bipush
  s_caload
  s_castore
  s_checkcast
  ex_no
  ex_no
  ex_no
  ex_no
  ex_no
  ex_no
  s_dcmp
  (fun _ => ex_no)
  s_ddiv
  s_dload
  s_dload_n
  ex_no
  ex_no
  ex_no
  s_dreturn
  s_dstore
  s_dstore_n
  ex_no
  s_dup
  s_dup_x1
  ex_no
  s_dup2
  ex_no
  ex_no
  ex_no
  ex_no
  ex_no
  ex_no
  ex_no
  ex_no
  (fun _ => ex_no)
  s_fconst
  ex_no
  (fun _ => ex_no)
  (fun _ => ex_no)
  ex_no
  ex_no
  ex_no
  s_freturn
  s_fstore
  s_fstore_n
  ex_no
  s_getfield
  s_getstatic
  s_goto
  (fun _ => ex_no)
  s_i2b
  s_i2c
  s_i2d
  ex_no
  s_i2l
  ex_no
  s_iadd
  s_iaload
  s_iand
  s_iastore
  s_iconst
  s_idiv
  s_if_acmp
  s_if_icmp
  s_ifCond
  s_ifnonnull
  s_ifnull
  s_iinc
  s_iload
  s_iload_n
  s_imul
  s_ineg
  (fun _ => ex_no)
  (fun _ => ex_no)
  s_invokeinterface
  s_invokespecial
  s_invokestatic
  s_invokevirtual
  s_ior
  s_irem
  s_ireturn
  s_ishl
  s_ishr
  s_istore
  s_istore_n
  s_isub
  ex_no
  s_ixor
  (fun _ => ex_no)
  (fun _ => ex_no)
  s_l2d
  ex_no
  ex_no
  s_ladd
  s_laload
  ex_no
  s_lastore
  s_lcmp
  s_lconst
  s_ldc
  s_ldc_w
  s_ldc2_w
  ex_no
  s_lload
  s_lload_n
  ex_no
  ex_no
  (fun _ _ => ex_no)
  ex_no
  ex_no
  s_lreturn
  ex_no
  ex_no
  s_lstore
  s_lstore_n
  s_lsub
  ex_no
  ex_no
  ex_no
  ex_no
  s_multianewarray
  s_new
  s_newarray
  ex_no
  s_pop
  ex_no
  s_putfield
  (fun _ => ex_no)
  (fun _ => ex_no)
  s_return_
  ex_no
  ex_no
  s_sipush
  ex_no
  s_tableswitch
  i

/-- rows of code, one behind the other -/
def ex_seq (V : ex_V) (ST : Nat → Nat) (cB cN : Nat → Nat) (d : Nat) (rt : Nat) (hs : ex_H) (bt : ex_CD) (call : Nat → List Nat → Nat → ex_R) (ex : Nat → ex_K) (l : List ex_E) : ex_K :=
  @List.rec ex_E (fun _ => ex_K) (fun _ _ _ => none) (fun e rest ih => ex_ins e.1 V ST cB cN d rt hs bt call ex rest e.2.1 e.2.2 ih) l
/-- fuel (a turn a jump or call), depth, return type, handlers, code, where -/
def ex_run (V : ex_V) (ST : Nat → Nat) (cB cN : Nat → Nat) (MI : ex_MI) (fuel : Nat) : Nat → Nat → ex_H → ex_CD → Nat → ex_K :=
  @Nat.rec (fun _ => Nat → Nat → ex_H → ex_CD → Nat → ex_K) (fun _ _ _ _ _ _ _ _ => none)
    (fun _ ih d rt hs bt pc => ex_seq V ST cB cN d rt hs bt
          (fun m as M => @Nat.rec (fun _ => ex_R) none (fun d' _ => (@Option.rec (Nat × Nat × Nat × ex_H × ex_CD) (fun _ => ex_R) none (fun q => (@Bool.rec (fun _ => ex_R) (none) (ih d' q.2.2.1 q.2.2.2.1 q.2.2.2.2 0 (ex_pack as 0 q.2.1) [] M) (Nat.ble (ex_rsum as) q.1))) (MI m))) d)
          (ih d rt hs bt) (bt pc)) fuel
/-- a method -/
def ex_call (V : ex_V) (ST : Nat → Nat) (cB cN : Nat → Nat) (MI : ex_MI) (fuel d m : Nat) (as : List Nat) (M : Nat) : ex_R :=
  (@Option.rec (Nat × Nat × Nat × ex_H × ex_CD) (fun _ => ex_R) none (fun q => (@Bool.rec (fun _ => ex_R) (none) (ex_run V ST cB cN MI fuel d q.2.2.1 q.2.2.2.1 q.2.2.2.2 0 (ex_pack as 0 q.2.1) [] M) (Nat.ble (ex_rsum as) q.1))) (MI m))
end
