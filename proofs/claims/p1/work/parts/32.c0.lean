noncomputable section

/-! blocks with their stacks known -/
abbrev ex_C : Type := ex_V → (Nat → Nat) → Nat → (Nat → List Nat → Nat → ex_R) → (Nat → ex_K) → ex_K
def ex_TL (V : ex_V) (key : Nat) (k : Nat → ex_R) : ex_R := (@Option.rec (Nat) (fun _ => ex_R) none (fun r => (@Bool.rec (fun _ => ex_R) (none) (k r) (ex_tI r))) (ex_find V.2 key))
def ex_B2 (V : ex_V) (op : Nat) (g : Nat → Nat → Nat) (a b : Nat) (k : Nat → ex_R) : ex_R := (@Bool.rec (fun _ => ex_R) ((@Bool.rec (fun _ => ex_R) (none) ((@Bool.rec (fun _ => ex_R) (none) (ex_TL V (ex_key op a b) k) (ex_tI b))) (ex_tI a))) ((@Bool.rec (fun _ => ex_R) ((@Bool.rec (fun _ => ex_R) (none) (ex_TL V (ex_key op a b) k) (ex_tI b))) (k (g a b)) (Nat.ble b 4294967295))) (Nat.ble a 4294967295))
def ex_U2 (V : ex_V) (op : Nat) (g : Nat → Nat) (a : Nat) (k : Nat → ex_R) : ex_R := (@Bool.rec (fun _ => ex_R) ((@Bool.rec (fun _ => ex_R) (none) (ex_TL V (ex_key op a 0) k) (ex_tI a))) (k (g a)) (Nat.ble a 4294967295))
def ex_ceq (V : ex_V) (a b : Nat) (t f : ex_R) : ex_R := (@Bool.rec (fun _ => ex_R) (ex_cnV V .eq a b t f) ((@Bool.rec (fun _ => ex_R) (ex_cnV V .eq a b t f) ((@Bool.rec (fun _ => ex_R) (f) (t) (Nat.beq a b))) (Nat.ble b 4294967295))) (Nat.ble a 4294967295))
def ex_cne (V : ex_V) (a b : Nat) (t f : ex_R) : ex_R := (@Bool.rec (fun _ => ex_R) (ex_cnV V .ne a b t f) ((@Bool.rec (fun _ => ex_R) (ex_cnV V .ne a b t f) ((@Bool.rec (fun _ => ex_R) (t) (f) (Nat.beq a b))) (Nat.ble b 4294967295))) (Nat.ble a 4294967295))
def ex_clt (V : ex_V) (a b : Nat) (t f : ex_R) : ex_R := (@Bool.rec (fun _ => ex_R) (ex_cnV V .lt a b t f) ((@Bool.rec (fun _ => ex_R) (ex_cnV V .lt a b t f) ((@Bool.rec (fun _ => ex_R) (t) (f) (Nat.ble (ex_bi b) (ex_bi a)))) (Nat.ble b 4294967295))) (Nat.ble a 4294967295))
def ex_cge (V : ex_V) (a b : Nat) (t f : ex_R) : ex_R := (@Bool.rec (fun _ => ex_R) (ex_cnV V .ge a b t f) ((@Bool.rec (fun _ => ex_R) (ex_cnV V .ge a b t f) ((@Bool.rec (fun _ => ex_R) (f) (t) (Nat.ble (ex_bi b) (ex_bi a)))) (Nat.ble b 4294967295))) (Nat.ble a 4294967295))
def ex_cgt (V : ex_V) (a b : Nat) (t f : ex_R) : ex_R := (@Bool.rec (fun _ => ex_R) (ex_cnV V .gt a b t f) ((@Bool.rec (fun _ => ex_R) (ex_cnV V .gt a b t f) ((@Bool.rec (fun _ => ex_R) (t) (f) (Nat.ble (ex_bi a) (ex_bi b)))) (Nat.ble b 4294967295))) (Nat.ble a 4294967295))
def ex_cle (V : ex_V) (a b : Nat) (t f : ex_R) : ex_R := (@Bool.rec (fun _ => ex_R) (ex_cnV V .le a b t f) ((@Bool.rec (fun _ => ex_R) (ex_cnV V .le a b t f) ((@Bool.rec (fun _ => ex_R) (f) (t) (Nat.ble (ex_bi a) (ex_bi b)))) (Nat.ble b 4294967295))) (Nat.ble a 4294967295))
def ex_aeq (ST : Nat → Nat) (M a b : Nat) (t f : ex_R) : ex_R := (@Bool.rec (fun _ => ex_R) (none) ((@Bool.rec (fun _ => ex_R) (none) ((@Bool.rec (fun _ => ex_R) ((@Bool.rec (fun _ => ex_R) ((@Bool.rec (fun _ => ex_R) (none) ((@Bool.rec (fun _ => ex_R) (f) (t) (Nat.beq a b))) ((@Bool.rec (fun _ => Bool) ((@Bool.rec (fun _ => Bool) (Nat.beq a b) (true) (ex_isD b))) (true) (ex_isD a))))) (none) (Nat.beq (Nat.mod (ex_hd ST M b) 256) 255))) (none) (Nat.beq (Nat.mod (ex_hd ST M a) 256) 255))) (ex_isR b))) (ex_isR a))
def ex_AL (ST : Nat → Nat) (kd : Nat → Bool) (t : Nat → Bool) (M i c : Nat) (k : Nat → ex_R) : ex_R := (@Bool.rec (fun _ => ex_R) (none) ((@Bool.rec (fun _ => ex_R) (none) ((@Bool.rec (fun _ => ex_R) (none) ((@Bool.rec (fun _ => ex_R) (none) (k (ex_sl ST M c i)) (t (ex_sl ST M c i)))) (Nat.ble (Nat.succ i) (Nat.div (ex_hd ST M c) 256)))) (kd (Nat.mod (ex_hd ST M c) 256)))) (ex_isR c))
def ex_AS (kd : Nat → Bool) (t : Nat → Nat → Nat → Bool) (M v i c : Nat) (k : Nat → ex_R) : ex_R := (@Bool.rec (fun _ => ex_R) (none) ((@Bool.rec (fun _ => ex_R) (none) ((@Bool.rec (fun _ => ex_R) (none) ((@Bool.rec (fun _ => ex_R) (none) (k (ex_set M (Nat.add (Nat.sub c 8589934592) (Nat.succ i)) v)) (t M (Nat.mod (ex_get M (Nat.sub c 8589934592)) 256) v))) (Nat.ble (Nat.succ i) (Nat.div (ex_get M (Nat.sub c 8589934592)) 256)))) (kd (Nat.mod (ex_get M (Nat.sub c 8589934592)) 256)))) (ex_isD c))
def ex_EX (hs : ex_H) (bt : ex_CD) (ex : Nat → ex_K) (pc L : Nat) (r : Nat × Nat) : ex_R := (@Bool.rec (fun _ => ex_R) (none) ((@Bool.rec (fun _ => ex_R) (none) ((@Nat.rec (fun _ => ex_R) ((@Bool.rec (fun _ => ex_R) (some r) (none) (ex_cov hs pc))) (fun h _ => ex_ctch ex bt (Nat.succ h) L r.2) (ex_hand hs pc (Nat.sub r.1 549755813888)))) (Nat.ble r.1 549755813894))) (Nat.ble 549755813889 r.1))

def ex_cX (rt : Nat) (hs : ex_H) (bt : ex_CD) (c : ex_C) (l : List ex_E) : Prop := c = fun V ST d call exj L S M => ex_seq V ST ex_cB ex_cN d rt hs bt call exj l L S M
theorem ex_cl1 {rt : Nat} {hs : ex_H} {bt : ex_CD} {c : ex_C} {q : List ex_E} {k : Nat} (h0 : Nat → True) (h : ex_cX rt hs bt c q) : ∀ t, ex_cX rt hs bt (@Bool.rec (fun _ => ex_C) (fun _ _ _ _ _ _ _ _ => none) c (Nat.beq t k)) (@Bool.rec (fun _ => List ex_E) [] q (Nat.beq t k)) := fun t => by
  cases Nat.beq t k with
  | true => exact h
  | false => exact rfl
theorem ex_cl2 {rt : Nat} {hs : ex_H} {bt : ex_CD} {f g : Nat → ex_C} {f' g' : ex_CD} {k : Nat} (hf : ∀ t, ex_cX rt hs bt (f t) (f' t)) (hg : ∀ t, ex_cX rt hs bt (g t) (g' t)) : ∀ t, ex_cX rt hs bt (@Bool.rec (fun _ => Nat → ex_C) g f (Nat.ble t k) t) (@Bool.rec (fun _ => ex_CD) g' f' (Nat.ble t k) t) := fun t => by
  cases Nat.ble t k with
  | true => exact hf t
  | false => exact hg t
theorem ex_clP (rt : Nat) (hs : ex_H) (bt : ex_CD) (ct : Nat → ex_C) (cd : ex_CD) (h : ∀ t, ex_cX rt hs bt (ct t) (cd t)) : ∀ t, ct t = (fun V ST d call exj L S M => ex_seq V ST ex_cB ex_cN d rt hs bt call exj (cd t) L S M) := h
end
