noncomputable section

def c_none : ex_C := fun _ _ _ _ _ _ _ _ => none
theorem e_nil {rt : Nat} {hs : ex_H} {bt : ex_CD} : ex_CE rt hs bt c_none [] := fun _ _ _ _ _ => rfl
theorem e_bad {rt : Nat} {hs : ex_H} {bt : ex_CD} {pc aux : Nat} {rest : List ex_E} : ex_CE rt hs bt c_none ((.athrow, pc, aux) :: rest) := fun _ _ _ _ _ => rfl
def c_clone (nx : ex_C) : ex_C := fun V ST d call ex => ex_clnS (nx V ST d call ex)
theorem e_clone {rt : Nat} {hs : ex_H} {bt : ex_CD} {nx : ex_C} {rest : List ex_E} {pc i : Nat} (h : ex_CE rt hs bt nx rest) : ex_CE rt hs bt (c_clone nx) ((.invokevirtual i, pc, 1) :: rest) := by
  intro V ST d call ex
  show _ = s_invokevirtual i V ST ex_cB ex_cN d rt hs bt call ex rest pc 1 (ex_seq V ST ex_cB ex_cN d rt hs bt call ex rest)
  rw [← h V ST d call ex]
  rfl
def c_oinit (nx : ex_C) : ex_C := fun V ST d call ex L S M => (@List.rec Nat (fun _ => ex_R) none (fun c T _ => @Bool.rec (fun _ => ex_R) none (@Bool.rec (fun _ => ex_R) none (nx V ST d call ex L T M) (Nat.ble (ex_rsum T) 8)) (ex_isD c)) S)
theorem e_oinit {rt : Nat} {hs : ex_H} {bt : ex_CD} {nx : ex_C} {rest : List ex_E} {pc i : Nat} (h : ex_CE rt hs bt nx rest) : ex_CE rt hs bt (c_oinit nx) ((.invokespecial i, pc, 0) :: rest) := by
  intro V ST d call ex
  show _ = s_invokespecial i V ST ex_cB ex_cN d rt hs bt call ex rest pc 0 (ex_seq V ST ex_cB ex_cN d rt hs bt call ex rest)
  rw [← h V ST d call ex]
  rfl
/-- a method's blocks -/
def ex_CTT (rt : Nat) (hs : ex_H) (bt : ex_CD) (kt : Nat → Option ex_C) (cd : ex_CD) : Prop := ∀ t c, kt t = some c → ex_CE rt hs bt c (cd t)
theorem ex_ct1 {rt : Nat} {hs : ex_H} {bt : ex_CD} {c : ex_C} {q : List ex_E} {k : Nat} (h : ex_CE rt hs bt c q) : ex_CTT rt hs bt (fun pc => @Bool.rec (fun _ => Option ex_C) none (some c) (Nat.beq pc k)) (fun pc => @Bool.rec (fun _ => List ex_E) [] q (Nat.beq pc k)) := fun t c' e => by
  revert e
  show @Bool.rec (fun _ => Option ex_C) none (some c) (Nat.beq t k) = some c' → ex_CE rt hs bt c' (@Bool.rec (fun _ => List ex_E) [] q (Nat.beq t k))
  cases Nat.beq t k with
  | true => intro e; cases e; exact h
  | false => intro e; cases e
theorem ex_ct2 {rt : Nat} {hs : ex_H} {bt : ex_CD} {f g : Nat → Option ex_C} {f' g' : ex_CD} {k : Nat} (hf : ex_CTT rt hs bt f f') (hg : ex_CTT rt hs bt g g') : ex_CTT rt hs bt (fun pc => @Bool.rec (fun _ => Nat → Option ex_C) g f (Nat.ble pc k) pc) (fun pc => @Bool.rec (fun _ => ex_CD) g' f' (Nat.ble pc k) pc) := fun t c' e => by
  revert e
  show @Bool.rec (fun _ => Nat → Option ex_C) g f (Nat.ble t k) t = some c' → ex_CE rt hs bt c' (@Bool.rec (fun _ => ex_CD) g' f' (Nat.ble t k) t)
  cases Nat.ble t k with
  | true => exact hf t c'
  | false => exact hg t c'
end
