noncomputable section
/-! runs without fuel: what the quicker run comes to when it is given enough -/
def zle (A : Nat → ex_R) (a : ex_R) : Prop := ∀ r, a = some r → ∃ F, ∀ f, F ≤ f → A f = some r
theorem zle_none {A : Nat → ex_R} : zle A none := fun _ h => nomatch h
theorem zle_c {a : ex_R} : zle (fun _ => a) a := fun _ h => ⟨0, fun _ _ => h⟩
theorem zle_b {A B : Nat → ex_R} {a b : ex_R} (k : Bool) (h1 : zle A a) (h2 : zle B b) : zle (fun f => @Bool.rec (fun _ => ex_R) (A f) (B f) k) (@Bool.rec (fun _ => ex_R) a b k) := by
  cases k with
  | false => exact h1
  | true => exact h2
theorem zle_l {A : Nat → ex_R} {a : ex_R} {C : Nat → Nat → List Nat → ex_R} {c : Nat → List Nat → ex_R} (S : List Nat) (h1 : zle A a) (h2 : ∀ x T, zle (fun f => C f x T) (c x T)) : zle (fun f => @List.rec Nat (fun _ => ex_R) (A f) (fun x T _ => C f x T) S) (@List.rec Nat (fun _ => ex_R) a (fun x T _ => c x T) S) := by
  cases S with
  | nil => exact h1
  | cons x T => exact h2 x T
theorem zle_o {α : Type} {A : Nat → ex_R} {a : ex_R} {C : Nat → α → ex_R} {c : α → ex_R} (o : Option α) (h1 : zle A a) (h2 : ∀ x, zle (fun f => C f x) (c x)) : zle (fun f => @Option.rec α (fun _ => ex_R) (A f) (fun x => C f x) o) (@Option.rec α (fun _ => ex_R) a (fun x => c x) o) := by
  cases o with
  | none => exact h1
  | some x => exact h2 x
theorem zle_n {A : Nat → ex_R} {a : ex_R} {C : Nat → Nat → ex_R} {c : Nat → ex_R} (n : Nat) (h1 : zle A a) (h2 : ∀ x, zle (fun f => C f x) (c x)) : zle (fun f => @Nat.rec (fun _ => ex_R) (A f) (fun x _ => C f x) n) (@Nat.rec (fun _ => ex_R) a (fun x _ => c x) n) := by
  cases n with
  | zero => exact h1
  | succ x => exact h2 x
theorem zle_k {B : Nat → ex_R} {b : ex_R} (hc : zle B b) {C : Nat → Nat × Nat → ex_R} {c : Nat × Nat → ex_R} (h2 : ∀ x, zle (fun f => C f x) (c x)) : zle (fun f => @Option.rec (Nat × Nat) (fun _ => ex_R) none (fun x => C f x) (B f)) (@Option.rec (Nat × Nat) (fun _ => ex_R) none (fun x => c x) b) := by
  intro r h
  cases e : b with
  | none => rw [e] at h; cases h
  | some q =>
    rw [e] at h
    obtain ⟨F1, h1⟩ := hc q e
    obtain ⟨F2, h3⟩ := h2 q r h
    refine ⟨max F1 F2, fun f hf => ?_⟩
    show @Option.rec (Nat × Nat) (fun _ => ex_R) none (fun x => C f x) (B f) = some r
    rw [h1 f (by omega)]
    exact h3 f (by omega)
theorem zle_cond {A B : Nat → ex_R} {a b : ex_R} (k : Bool) (h1 : zle A a) (h2 : zle B b) : zle (fun f => bif k then A f else B f) (bif k then a else b) := by
  cases k with
  | false => exact h2
  | true => exact h1
theorem zle_br {A B : Nat → ex_R} {a b : ex_R} (k : Option Nat) (h1 : zle A a) (h2 : zle B b) : zle (fun f => ex_br k (A f) (B f)) (ex_br k a b) := by
  unfold ex_br
  exact zle_o k zle_none (fun n => zle_n n h2 (fun _ => h1))
theorem zle_cnV {A B : Nat → ex_R} {a b : ex_R} {V : ex_V} {c : ClassFile.Cond} {x y : Nat} (h1 : zle A a) (h2 : zle B b) : zle (fun f => ex_cnV V c x y (A f) (B f)) (ex_cnV V c x y a b) := by
  unfold ex_cnV
  cases c <;> first | exact zle_br _ h1 h2 | exact zle_br _ h2 h1
theorem zle_cnd {A B : Nat → ex_R} {a b : ex_R} {V : ex_V} {c : ClassFile.Cond} {x y : Nat} (h1 : zle A a) (h2 : zle B b) : zle (fun f => ex_cnd V c x y (A f) (B f)) (ex_cnd V c x y a b) := by
  unfold ex_cnd
  refine zle_b _ (zle_cnV h1 h2) (zle_b _ (zle_cnV h1 h2) ?_)
  cases c <;> first | exact zle_b _ h2 h1 | exact zle_b _ h1 h2
/-- a block goes with what it calls and where it jumps -/
def zKC (c : ex_C) : Prop := ∀ (V : ex_V) (ST : Nat → Nat) (d : Nat) (cF : Nat → Nat → List Nat → Nat → ex_R) (ca : Nat → List Nat → Nat → ex_R) (jF : Nat → Nat → ex_K) (j : Nat → ex_K),
  (∀ m as M, zle (fun f => cF f m as M) (ca m as M)) → (∀ pc L S M, zle (fun f => jF f pc L S M) (j pc L S M)) → ∀ L S M, zle (fun f => c V ST d (cF f) (jF f) L S M) (c V ST d ca j L S M)
theorem zle_ctch {jF : Nat → Nat → ex_K} {j : Nat → ex_K} (hj : ∀ pc L S M, zle (fun f => jF f pc L S M) (j pc L S M)) {bt : ex_CD} {h L M : Nat} : zle (fun f => ex_ctch (jF f) bt h L M) (ex_ctch j bt h L M) := by
  unfold ex_ctch
  cases bt h with
  | nil => exact zle_none
  | cons x t =>
    obtain ⟨i, p, ax⟩ := x
    cases i <;> first | exact zle_none | exact zle_cond _ (by unfold ex_st1; exact zle_n _ (hj _ _ _ _) (fun _ => zle_b _ (hj _ _ _ _) zle_none)) zle_none

theorem kc_aaload {nx : ex_C} (h : zKC nx) : zKC (c_aaload nx) := by
  intro V ST d cF ca jF j hc hj L S M
  unfold c_aaload
  try unfold s_aaload
  try unfold ex_bin2
  try unfold ex_un2
  try unfold ex_bn
  try unfold ex_ald
  try unfold ex_ast
  try unfold g_ast
  try unfold ex_psh
  try unfold ex_sl2
  try unfold ex_tld
  try unfold ex_lcV
  try unfold ex_stl
  try unfold ex_st2
  try unfold ex_sti
  try unfold ex_st1
  try unfold g_alloc
  repeat' first | exact zle_none | exact zle_c | exact h V ST d cF ca jF j hc hj _ _ _ | exact hj _ _ _ _ | exact zle_ctch hj | refine zle_k (hc _ _ _) (fun _ => ?_) | refine zle_cnd ?_ ?_ | refine zle_b _ ?_ ?_ | refine zle_l _ ?_ (fun _ _ => ?_) | refine zle_o _ ?_ (fun _ => ?_) | refine zle_n _ ?_ (fun _ => ?_) | refine zle_cond _ ?_ ?_
theorem kc_aload {n : Nat} {nx : ex_C} (h : zKC nx) : zKC (c_aload n nx) := by
  intro V ST d cF ca jF j hc hj L S M
  unfold c_aload
  try unfold ex_bin2
  try unfold ex_un2
  try unfold ex_bn
  try unfold ex_ald
  try unfold ex_ast
  try unfold g_ast
  try unfold ex_psh
  try unfold ex_sl2
  try unfold ex_tld
  try unfold ex_lcV
  try unfold ex_stl
  try unfold ex_st2
  try unfold ex_sti
  try unfold ex_st1
  try unfold g_alloc
  repeat' first | exact zle_none | exact zle_c | exact h V ST d cF ca jF j hc hj _ _ _ | exact hj _ _ _ _ | exact zle_ctch hj | refine zle_k (hc _ _ _) (fun _ => ?_) | refine zle_cnd ?_ ?_ | refine zle_b _ ?_ ?_ | refine zle_l _ ?_ (fun _ _ => ?_) | refine zle_o _ ?_ (fun _ => ?_) | refine zle_n _ ?_ (fun _ => ?_) | refine zle_cond _ ?_ ?_
theorem kc_areturn {rt : Nat} : zKC (c_areturn rt) := by
  intro V ST d cF ca jF j hc hj L S M
  unfold c_areturn
  try unfold s_areturn
  try unfold ex_bin2
  try unfold ex_un2
  try unfold ex_bn
  try unfold ex_ald
  try unfold ex_ast
  try unfold g_ast
  try unfold ex_psh
  try unfold ex_sl2
  try unfold ex_tld
  try unfold ex_lcV
  try unfold ex_stl
  try unfold ex_st2
  try unfold ex_sti
  try unfold ex_st1
  try unfold g_alloc
  repeat' first | exact zle_none | exact zle_c | exact hj _ _ _ _ | exact zle_ctch hj | refine zle_k (hc _ _ _) (fun _ => ?_) | refine zle_cnd ?_ ?_ | refine zle_b _ ?_ ?_ | refine zle_l _ ?_ (fun _ _ => ?_) | refine zle_o _ ?_ (fun _ => ?_) | refine zle_n _ ?_ (fun _ => ?_) | refine zle_cond _ ?_ ?_
theorem kc_arraylength {nx : ex_C} (h : zKC nx) : zKC (c_arraylength nx) := by
  intro V ST d cF ca jF j hc hj L S M
  unfold c_arraylength
  try unfold s_arraylength
  try unfold ex_bin2
  try unfold ex_un2
  try unfold ex_bn
  try unfold ex_ald
  try unfold ex_ast
  try unfold g_ast
  try unfold ex_psh
  try unfold ex_sl2
  try unfold ex_tld
  try unfold ex_lcV
  try unfold ex_stl
  try unfold ex_st2
  try unfold ex_sti
  try unfold ex_st1
  try unfold g_alloc
  repeat' first | exact zle_none | exact zle_c | exact h V ST d cF ca jF j hc hj _ _ _ | exact hj _ _ _ _ | exact zle_ctch hj | refine zle_k (hc _ _ _) (fun _ => ?_) | refine zle_cnd ?_ ?_ | refine zle_b _ ?_ ?_ | refine zle_l _ ?_ (fun _ _ => ?_) | refine zle_o _ ?_ (fun _ => ?_) | refine zle_n _ ?_ (fun _ => ?_) | refine zle_cond _ ?_ ?_
theorem kc_astore {n : Nat} {nx : ex_C} (h : zKC nx) : zKC (c_astore n nx) := by
  intro V ST d cF ca jF j hc hj L S M
  unfold c_astore
  try unfold ex_bin2
  try unfold ex_un2
  try unfold ex_bn
  try unfold ex_ald
  try unfold ex_ast
  try unfold g_ast
  try unfold ex_psh
  try unfold ex_sl2
  try unfold ex_tld
  try unfold ex_lcV
  try unfold ex_stl
  try unfold ex_st2
  try unfold ex_sti
  try unfold ex_st1
  try unfold g_alloc
  repeat' first | exact zle_none | exact zle_c | exact h V ST d cF ca jF j hc hj _ _ _ | exact hj _ _ _ _ | exact zle_ctch hj | refine zle_k (hc _ _ _) (fun _ => ?_) | refine zle_cnd ?_ ?_ | refine zle_b _ ?_ ?_ | refine zle_l _ ?_ (fun _ _ => ?_) | refine zle_o _ ?_ (fun _ => ?_) | refine zle_n _ ?_ (fun _ => ?_) | refine zle_cond _ ?_ ?_
theorem kc_baload {nx : ex_C} (h : zKC nx) : zKC (c_baload nx) := by
  intro V ST d cF ca jF j hc hj L S M
  unfold c_baload
  try unfold ex_bin2
  try unfold ex_un2
  try unfold ex_bn
  try unfold ex_ald
  try unfold ex_ast
  try unfold g_ast
  try unfold ex_psh
  try unfold ex_sl2
  try unfold ex_tld
  try unfold ex_lcV
  try unfold ex_stl
  try unfold ex_st2
  try unfold ex_sti
  try unfold ex_st1
  try unfold g_alloc
  repeat' first | exact zle_none | exact zle_c | exact h V ST d cF ca jF j hc hj _ _ _ | exact hj _ _ _ _ | exact zle_ctch hj | refine zle_k (hc _ _ _) (fun _ => ?_) | refine zle_cnd ?_ ?_ | refine zle_b _ ?_ ?_ | refine zle_l _ ?_ (fun _ _ => ?_) | refine zle_o _ ?_ (fun _ => ?_) | refine zle_n _ ?_ (fun _ => ?_) | refine zle_cond _ ?_ ?_
theorem kc_bastore {nx : ex_C} (h : zKC nx) : zKC (c_bastore nx) := by
  intro V ST d cF ca jF j hc hj L S M
  unfold c_bastore
  try unfold ex_bin2
  try unfold ex_un2
  try unfold ex_bn
  try unfold ex_ald
  try unfold ex_ast
  try unfold g_ast
  try unfold ex_psh
  try unfold ex_sl2
  try unfold ex_tld
  try unfold ex_lcV
  try unfold ex_stl
  try unfold ex_st2
  try unfold ex_sti
  try unfold ex_st1
  try unfold g_alloc
  repeat' first | exact zle_none | exact zle_c | exact h V ST d cF ca jF j hc hj _ _ _ | exact hj _ _ _ _ | exact zle_ctch hj | refine zle_k (hc _ _ _) (fun _ => ?_) | refine zle_cnd ?_ ?_ | refine zle_b _ ?_ ?_ | refine zle_l _ ?_ (fun _ _ => ?_) | refine zle_o _ ?_ (fun _ => ?_) | refine zle_n _ ?_ (fun _ => ?_) | refine zle_cond _ ?_ ?_
theorem kc_caload {nx : ex_C} (h : zKC nx) : zKC (c_caload nx) := by
  intro V ST d cF ca jF j hc hj L S M
  unfold c_caload
  try unfold s_caload
  try unfold ex_bin2
  try unfold ex_un2
  try unfold ex_bn
  try unfold ex_ald
  try unfold ex_ast
  try unfold g_ast
  try unfold ex_psh
  try unfold ex_sl2
  try unfold ex_tld
  try unfold ex_lcV
  try unfold ex_stl
  try unfold ex_st2
  try unfold ex_sti
  try unfold ex_st1
  try unfold g_alloc
  repeat' first | exact zle_none | exact zle_c | exact h V ST d cF ca jF j hc hj _ _ _ | exact hj _ _ _ _ | exact zle_ctch hj | refine zle_k (hc _ _ _) (fun _ => ?_) | refine zle_cnd ?_ ?_ | refine zle_b _ ?_ ?_ | refine zle_l _ ?_ (fun _ _ => ?_) | refine zle_o _ ?_ (fun _ => ?_) | refine zle_n _ ?_ (fun _ => ?_) | refine zle_cond _ ?_ ?_
theorem kc_castore {nx : ex_C} (h : zKC nx) : zKC (c_castore nx) := by
  intro V ST d cF ca jF j hc hj L S M
  unfold c_castore
  try unfold s_castore
  try unfold ex_bin2
  try unfold ex_un2
  try unfold ex_bn
  try unfold ex_ald
  try unfold ex_ast
  try unfold g_ast
  try unfold ex_psh
  try unfold ex_sl2
  try unfold ex_tld
  try unfold ex_lcV
  try unfold ex_stl
  try unfold ex_st2
  try unfold ex_sti
  try unfold ex_st1
  try unfold g_alloc
  repeat' first | exact zle_none | exact zle_c | exact h V ST d cF ca jF j hc hj _ _ _ | exact hj _ _ _ _ | exact zle_ctch hj | refine zle_k (hc _ _ _) (fun _ => ?_) | refine zle_cnd ?_ ?_ | refine zle_b _ ?_ ?_ | refine zle_l _ ?_ (fun _ _ => ?_) | refine zle_o _ ?_ (fun _ => ?_) | refine zle_n _ ?_ (fun _ => ?_) | refine zle_cond _ ?_ ?_
theorem kc_ddiv {nx : ex_C} (h : zKC nx) : zKC (c_ddiv nx) := by
  intro V ST d cF ca jF j hc hj L S M
  unfold c_ddiv
  try unfold s_ddiv
  try unfold ex_bin2
  try unfold ex_un2
  try unfold ex_bn
  try unfold ex_ald
  try unfold ex_ast
  try unfold g_ast
  try unfold ex_psh
  try unfold ex_sl2
  try unfold ex_tld
  try unfold ex_lcV
  try unfold ex_stl
  try unfold ex_st2
  try unfold ex_sti
  try unfold ex_st1
  try unfold g_alloc
  repeat' first | exact zle_none | exact zle_c | exact h V ST d cF ca jF j hc hj _ _ _ | exact hj _ _ _ _ | exact zle_ctch hj | refine zle_k (hc _ _ _) (fun _ => ?_) | refine zle_cnd ?_ ?_ | refine zle_b _ ?_ ?_ | refine zle_l _ ?_ (fun _ _ => ?_) | refine zle_o _ ?_ (fun _ => ?_) | refine zle_n _ ?_ (fun _ => ?_) | refine zle_cond _ ?_ ?_
theorem kc_dreturn {rt : Nat} : zKC (c_dreturn rt) := by
  intro V ST d cF ca jF j hc hj L S M
  unfold c_dreturn
  try unfold s_dreturn
  try unfold ex_bin2
  try unfold ex_un2
  try unfold ex_bn
  try unfold ex_ald
  try unfold ex_ast
  try unfold g_ast
  try unfold ex_psh
  try unfold ex_sl2
  try unfold ex_tld
  try unfold ex_lcV
  try unfold ex_stl
  try unfold ex_st2
  try unfold ex_sti
  try unfold ex_st1
  try unfold g_alloc
  repeat' first | exact zle_none | exact zle_c | exact hj _ _ _ _ | exact zle_ctch hj | refine zle_k (hc _ _ _) (fun _ => ?_) | refine zle_cnd ?_ ?_ | refine zle_b _ ?_ ?_ | refine zle_l _ ?_ (fun _ _ => ?_) | refine zle_o _ ?_ (fun _ => ?_) | refine zle_n _ ?_ (fun _ => ?_) | refine zle_cond _ ?_ ?_
theorem kc_dup {nx : ex_C} (h : zKC nx) : zKC (c_dup nx) := by
  intro V ST d cF ca jF j hc hj L S M
  unfold c_dup
  try unfold s_dup
  try unfold ex_bin2
  try unfold ex_un2
  try unfold ex_bn
  try unfold ex_ald
  try unfold ex_ast
  try unfold g_ast
  try unfold ex_psh
  try unfold ex_sl2
  try unfold ex_tld
  try unfold ex_lcV
  try unfold ex_stl
  try unfold ex_st2
  try unfold ex_sti
  try unfold ex_st1
  try unfold g_alloc
  repeat' first | exact zle_none | exact zle_c | exact h V ST d cF ca jF j hc hj _ _ _ | exact hj _ _ _ _ | exact zle_ctch hj | refine zle_k (hc _ _ _) (fun _ => ?_) | refine zle_cnd ?_ ?_ | refine zle_b _ ?_ ?_ | refine zle_l _ ?_ (fun _ _ => ?_) | refine zle_o _ ?_ (fun _ => ?_) | refine zle_n _ ?_ (fun _ => ?_) | refine zle_cond _ ?_ ?_
theorem kc_dup2 {nx : ex_C} (h : zKC nx) : zKC (c_dup2 nx) := by
  intro V ST d cF ca jF j hc hj L S M
  unfold c_dup2
  try unfold s_dup2
  try unfold ex_bin2
  try unfold ex_un2
  try unfold ex_bn
  try unfold ex_ald
  try unfold ex_ast
  try unfold g_ast
  try unfold ex_psh
  try unfold ex_sl2
  try unfold ex_tld
  try unfold ex_lcV
  try unfold ex_stl
  try unfold ex_st2
  try unfold ex_sti
  try unfold ex_st1
  try unfold g_alloc
  repeat' first | exact zle_none | exact zle_c | exact h V ST d cF ca jF j hc hj _ _ _ | exact hj _ _ _ _ | exact zle_ctch hj | refine zle_k (hc _ _ _) (fun _ => ?_) | refine zle_cnd ?_ ?_ | refine zle_b _ ?_ ?_ | refine zle_l _ ?_ (fun _ _ => ?_) | refine zle_o _ ?_ (fun _ => ?_) | refine zle_n _ ?_ (fun _ => ?_) | refine zle_cond _ ?_ ?_
theorem kc_freturn {rt : Nat} : zKC (c_freturn rt) := by
  intro V ST d cF ca jF j hc hj L S M
  unfold c_freturn
  try unfold s_freturn
  try unfold ex_bin2
  try unfold ex_un2
  try unfold ex_bn
  try unfold ex_ald
  try unfold ex_ast
  try unfold g_ast
  try unfold ex_psh
  try unfold ex_sl2
  try unfold ex_tld
  try unfold ex_lcV
  try unfold ex_stl
  try unfold ex_st2
  try unfold ex_sti
  try unfold ex_st1
  try unfold g_alloc
  repeat' first | exact zle_none | exact zle_c | exact hj _ _ _ _ | exact zle_ctch hj | refine zle_k (hc _ _ _) (fun _ => ?_) | refine zle_cnd ?_ ?_ | refine zle_b _ ?_ ?_ | refine zle_l _ ?_ (fun _ _ => ?_) | refine zle_o _ ?_ (fun _ => ?_) | refine zle_n _ ?_ (fun _ => ?_) | refine zle_cond _ ?_ ?_
theorem kc_gf {kd ix : Nat} {nx : ex_C} (h : zKC nx) : zKC (c_gf kd ix nx) := by
  intro V ST d cF ca jF j hc hj L S M
  unfold c_gf
  try unfold ex_bin2
  try unfold ex_un2
  try unfold ex_bn
  try unfold ex_ald
  try unfold ex_ast
  try unfold g_ast
  try unfold ex_psh
  try unfold ex_sl2
  try unfold ex_tld
  try unfold ex_lcV
  try unfold ex_stl
  try unfold ex_st2
  try unfold ex_sti
  try unfold ex_st1
  try unfold g_alloc
  repeat' first | exact zle_none | exact zle_c | exact h V ST d cF ca jF j hc hj _ _ _ | exact hj _ _ _ _ | exact zle_ctch hj | refine zle_k (hc _ _ _) (fun _ => ?_) | refine zle_cnd ?_ ?_ | refine zle_b _ ?_ ?_ | refine zle_l _ ?_ (fun _ _ => ?_) | refine zle_o _ ?_ (fun _ => ?_) | refine zle_n _ ?_ (fun _ => ?_) | refine zle_cond _ ?_ ?_
theorem kc_goto {t : Nat} : zKC (c_goto t) := by
  intro V ST d cF ca jF j hc hj L S M
  unfold c_goto
  try unfold ex_bin2
  try unfold ex_un2
  try unfold ex_bn
  try unfold ex_ald
  try unfold ex_ast
  try unfold g_ast
  try unfold ex_psh
  try unfold ex_sl2
  try unfold ex_tld
  try unfold ex_lcV
  try unfold ex_stl
  try unfold ex_st2
  try unfold ex_sti
  try unfold ex_st1
  try unfold g_alloc
  repeat' first | exact zle_none | exact zle_c | exact hj _ _ _ _ | exact zle_ctch hj | refine zle_k (hc _ _ _) (fun _ => ?_) | refine zle_cnd ?_ ?_ | refine zle_b _ ?_ ?_ | refine zle_l _ ?_ (fun _ _ => ?_) | refine zle_o _ ?_ (fun _ => ?_) | refine zle_n _ ?_ (fun _ => ?_) | refine zle_cond _ ?_ ?_
theorem kc_i2b {nx : ex_C} (h : zKC nx) : zKC (c_i2b nx) := by
  intro V ST d cF ca jF j hc hj L S M
  unfold c_i2b
  try unfold s_i2b
  try unfold ex_bin2
  try unfold ex_un2
  try unfold ex_bn
  try unfold ex_ald
  try unfold ex_ast
  try unfold g_ast
  try unfold ex_psh
  try unfold ex_sl2
  try unfold ex_tld
  try unfold ex_lcV
  try unfold ex_stl
  try unfold ex_st2
  try unfold ex_sti
  try unfold ex_st1
  try unfold g_alloc
  repeat' first | exact zle_none | exact zle_c | exact h V ST d cF ca jF j hc hj _ _ _ | exact hj _ _ _ _ | exact zle_ctch hj | refine zle_k (hc _ _ _) (fun _ => ?_) | refine zle_cnd ?_ ?_ | refine zle_b _ ?_ ?_ | refine zle_l _ ?_ (fun _ _ => ?_) | refine zle_o _ ?_ (fun _ => ?_) | refine zle_n _ ?_ (fun _ => ?_) | refine zle_cond _ ?_ ?_
theorem kc_i2c {nx : ex_C} (h : zKC nx) : zKC (c_i2c nx) := by
  intro V ST d cF ca jF j hc hj L S M
  unfold c_i2c
  try unfold s_i2c
  try unfold ex_bin2
  try unfold ex_un2
  try unfold ex_bn
  try unfold ex_ald
  try unfold ex_ast
  try unfold g_ast
  try unfold ex_psh
  try unfold ex_sl2
  try unfold ex_tld
  try unfold ex_lcV
  try unfold ex_stl
  try unfold ex_st2
  try unfold ex_sti
  try unfold ex_st1
  try unfold g_alloc
  repeat' first | exact zle_none | exact zle_c | exact h V ST d cF ca jF j hc hj _ _ _ | exact hj _ _ _ _ | exact zle_ctch hj | refine zle_k (hc _ _ _) (fun _ => ?_) | refine zle_cnd ?_ ?_ | refine zle_b _ ?_ ?_ | refine zle_l _ ?_ (fun _ _ => ?_) | refine zle_o _ ?_ (fun _ => ?_) | refine zle_n _ ?_ (fun _ => ?_) | refine zle_cond _ ?_ ?_
theorem kc_i2l {nx : ex_C} (h : zKC nx) : zKC (c_i2l nx) := by
  intro V ST d cF ca jF j hc hj L S M
  unfold c_i2l
  try unfold s_i2l
  try unfold ex_bin2
  try unfold ex_un2
  try unfold ex_bn
  try unfold ex_ald
  try unfold ex_ast
  try unfold g_ast
  try unfold ex_psh
  try unfold ex_sl2
  try unfold ex_tld
  try unfold ex_lcV
  try unfold ex_stl
  try unfold ex_st2
  try unfold ex_sti
  try unfold ex_st1
  try unfold g_alloc
  repeat' first | exact zle_none | exact zle_c | exact h V ST d cF ca jF j hc hj _ _ _ | exact hj _ _ _ _ | exact zle_ctch hj | refine zle_k (hc _ _ _) (fun _ => ?_) | refine zle_cnd ?_ ?_ | refine zle_b _ ?_ ?_ | refine zle_l _ ?_ (fun _ _ => ?_) | refine zle_o _ ?_ (fun _ => ?_) | refine zle_n _ ?_ (fun _ => ?_) | refine zle_cond _ ?_ ?_
theorem kc_iadd {nx : ex_C} (h : zKC nx) : zKC (c_iadd nx) := by
  intro V ST d cF ca jF j hc hj L S M
  unfold c_iadd
  try unfold ex_bin2
  try unfold ex_un2
  try unfold ex_bn
  try unfold ex_ald
  try unfold ex_ast
  try unfold g_ast
  try unfold ex_psh
  try unfold ex_sl2
  try unfold ex_tld
  try unfold ex_lcV
  try unfold ex_stl
  try unfold ex_st2
  try unfold ex_sti
  try unfold ex_st1
  try unfold g_alloc
  repeat' first | exact zle_none | exact zle_c | exact h V ST d cF ca jF j hc hj _ _ _ | exact hj _ _ _ _ | exact zle_ctch hj | refine zle_k (hc _ _ _) (fun _ => ?_) | refine zle_cnd ?_ ?_ | refine zle_b _ ?_ ?_ | refine zle_l _ ?_ (fun _ _ => ?_) | refine zle_o _ ?_ (fun _ => ?_) | refine zle_n _ ?_ (fun _ => ?_) | refine zle_cond _ ?_ ?_
theorem kc_iaload {nx : ex_C} (h : zKC nx) : zKC (c_iaload nx) := by
  intro V ST d cF ca jF j hc hj L S M
  unfold c_iaload
  try unfold ex_bin2
  try unfold ex_un2
  try unfold ex_bn
  try unfold ex_ald
  try unfold ex_ast
  try unfold g_ast
  try unfold ex_psh
  try unfold ex_sl2
  try unfold ex_tld
  try unfold ex_lcV
  try unfold ex_stl
  try unfold ex_st2
  try unfold ex_sti
  try unfold ex_st1
  try unfold g_alloc
  repeat' first | exact zle_none | exact zle_c | exact h V ST d cF ca jF j hc hj _ _ _ | exact hj _ _ _ _ | exact zle_ctch hj | refine zle_k (hc _ _ _) (fun _ => ?_) | refine zle_cnd ?_ ?_ | refine zle_b _ ?_ ?_ | refine zle_l _ ?_ (fun _ _ => ?_) | refine zle_o _ ?_ (fun _ => ?_) | refine zle_n _ ?_ (fun _ => ?_) | refine zle_cond _ ?_ ?_
theorem kc_iand {nx : ex_C} (h : zKC nx) : zKC (c_iand nx) := by
  intro V ST d cF ca jF j hc hj L S M
  unfold c_iand
  try unfold ex_bin2
  try unfold ex_un2
  try unfold ex_bn
  try unfold ex_ald
  try unfold ex_ast
  try unfold g_ast
  try unfold ex_psh
  try unfold ex_sl2
  try unfold ex_tld
  try unfold ex_lcV
  try unfold ex_stl
  try unfold ex_st2
  try unfold ex_sti
  try unfold ex_st1
  try unfold g_alloc
  repeat' first | exact zle_none | exact zle_c | exact h V ST d cF ca jF j hc hj _ _ _ | exact hj _ _ _ _ | exact zle_ctch hj | refine zle_k (hc _ _ _) (fun _ => ?_) | refine zle_cnd ?_ ?_ | refine zle_b _ ?_ ?_ | refine zle_l _ ?_ (fun _ _ => ?_) | refine zle_o _ ?_ (fun _ => ?_) | refine zle_n _ ?_ (fun _ => ?_) | refine zle_cond _ ?_ ?_
theorem kc_iastore {nx : ex_C} (h : zKC nx) : zKC (c_iastore nx) := by
  intro V ST d cF ca jF j hc hj L S M
  unfold c_iastore
  try unfold ex_bin2
  try unfold ex_un2
  try unfold ex_bn
  try unfold ex_ald
  try unfold ex_ast
  try unfold g_ast
  try unfold ex_psh
  try unfold ex_sl2
  try unfold ex_tld
  try unfold ex_lcV
  try unfold ex_stl
  try unfold ex_st2
  try unfold ex_sti
  try unfold ex_st1
  try unfold g_alloc
  repeat' first | exact zle_none | exact zle_c | exact h V ST d cF ca jF j hc hj _ _ _ | exact hj _ _ _ _ | exact zle_ctch hj | refine zle_k (hc _ _ _) (fun _ => ?_) | refine zle_cnd ?_ ?_ | refine zle_b _ ?_ ?_ | refine zle_l _ ?_ (fun _ _ => ?_) | refine zle_o _ ?_ (fun _ => ?_) | refine zle_n _ ?_ (fun _ => ?_) | refine zle_cond _ ?_ ?_
theorem kc_icmp_eq {t : Nat} {nx : ex_C} (h : zKC nx) : zKC (c_icmp_eq t nx) := by
  intro V ST d cF ca jF j hc hj L S M
  unfold c_icmp_eq
  try unfold ex_bin2
  try unfold ex_un2
  try unfold ex_bn
  try unfold ex_ald
  try unfold ex_ast
  try unfold g_ast
  try unfold ex_psh
  try unfold ex_sl2
  try unfold ex_tld
  try unfold ex_lcV
  try unfold ex_stl
  try unfold ex_st2
  try unfold ex_sti
  try unfold ex_st1
  try unfold g_alloc
  repeat' first | exact zle_none | exact zle_c | exact h V ST d cF ca jF j hc hj _ _ _ | exact hj _ _ _ _ | exact zle_ctch hj | refine zle_k (hc _ _ _) (fun _ => ?_) | refine zle_cnd ?_ ?_ | refine zle_b _ ?_ ?_ | refine zle_l _ ?_ (fun _ _ => ?_) | refine zle_o _ ?_ (fun _ => ?_) | refine zle_n _ ?_ (fun _ => ?_) | refine zle_cond _ ?_ ?_
theorem kc_icmp_ge {t : Nat} {nx : ex_C} (h : zKC nx) : zKC (c_icmp_ge t nx) := by
  intro V ST d cF ca jF j hc hj L S M
  unfold c_icmp_ge
  try unfold ex_bin2
  try unfold ex_un2
  try unfold ex_bn
  try unfold ex_ald
  try unfold ex_ast
  try unfold g_ast
  try unfold ex_psh
  try unfold ex_sl2
  try unfold ex_tld
  try unfold ex_lcV
  try unfold ex_stl
  try unfold ex_st2
  try unfold ex_sti
  try unfold ex_st1
  try unfold g_alloc
  repeat' first | exact zle_none | exact zle_c | exact h V ST d cF ca jF j hc hj _ _ _ | exact hj _ _ _ _ | exact zle_ctch hj | refine zle_k (hc _ _ _) (fun _ => ?_) | refine zle_cnd ?_ ?_ | refine zle_b _ ?_ ?_ | refine zle_l _ ?_ (fun _ _ => ?_) | refine zle_o _ ?_ (fun _ => ?_) | refine zle_n _ ?_ (fun _ => ?_) | refine zle_cond _ ?_ ?_
theorem kc_icmp_gt {t : Nat} {nx : ex_C} (h : zKC nx) : zKC (c_icmp_gt t nx) := by
  intro V ST d cF ca jF j hc hj L S M
  unfold c_icmp_gt
  try unfold ex_bin2
  try unfold ex_un2
  try unfold ex_bn
  try unfold ex_ald
  try unfold ex_ast
  try unfold g_ast
  try unfold ex_psh
  try unfold ex_sl2
  try unfold ex_tld
  try unfold ex_lcV
  try unfold ex_stl
  try unfold ex_st2
  try unfold ex_sti
  try unfold ex_st1
  try unfold g_alloc
  repeat' first | exact zle_none | exact zle_c | exact h V ST d cF ca jF j hc hj _ _ _ | exact hj _ _ _ _ | exact zle_ctch hj | refine zle_k (hc _ _ _) (fun _ => ?_) | refine zle_cnd ?_ ?_ | refine zle_b _ ?_ ?_ | refine zle_l _ ?_ (fun _ _ => ?_) | refine zle_o _ ?_ (fun _ => ?_) | refine zle_n _ ?_ (fun _ => ?_) | refine zle_cond _ ?_ ?_
theorem kc_icmp_le {t : Nat} {nx : ex_C} (h : zKC nx) : zKC (c_icmp_le t nx) := by
  intro V ST d cF ca jF j hc hj L S M
  unfold c_icmp_le
  try unfold ex_bin2
  try unfold ex_un2
  try unfold ex_bn
  try unfold ex_ald
  try unfold ex_ast
  try unfold g_ast
  try unfold ex_psh
  try unfold ex_sl2
  try unfold ex_tld
  try unfold ex_lcV
  try unfold ex_stl
  try unfold ex_st2
  try unfold ex_sti
  try unfold ex_st1
  try unfold g_alloc
  repeat' first | exact zle_none | exact zle_c | exact h V ST d cF ca jF j hc hj _ _ _ | exact hj _ _ _ _ | exact zle_ctch hj | refine zle_k (hc _ _ _) (fun _ => ?_) | refine zle_cnd ?_ ?_ | refine zle_b _ ?_ ?_ | refine zle_l _ ?_ (fun _ _ => ?_) | refine zle_o _ ?_ (fun _ => ?_) | refine zle_n _ ?_ (fun _ => ?_) | refine zle_cond _ ?_ ?_
theorem kc_icmp_lt {t : Nat} {nx : ex_C} (h : zKC nx) : zKC (c_icmp_lt t nx) := by
  intro V ST d cF ca jF j hc hj L S M
  unfold c_icmp_lt
  try unfold ex_bin2
  try unfold ex_un2
  try unfold ex_bn
  try unfold ex_ald
  try unfold ex_ast
  try unfold g_ast
  try unfold ex_psh
  try unfold ex_sl2
  try unfold ex_tld
  try unfold ex_lcV
  try unfold ex_stl
  try unfold ex_st2
  try unfold ex_sti
  try unfold ex_st1
  try unfold g_alloc
  repeat' first | exact zle_none | exact zle_c | exact h V ST d cF ca jF j hc hj _ _ _ | exact hj _ _ _ _ | exact zle_ctch hj | refine zle_k (hc _ _ _) (fun _ => ?_) | refine zle_cnd ?_ ?_ | refine zle_b _ ?_ ?_ | refine zle_l _ ?_ (fun _ _ => ?_) | refine zle_o _ ?_ (fun _ => ?_) | refine zle_n _ ?_ (fun _ => ?_) | refine zle_cond _ ?_ ?_
theorem kc_icmp_ne {t : Nat} {nx : ex_C} (h : zKC nx) : zKC (c_icmp_ne t nx) := by
  intro V ST d cF ca jF j hc hj L S M
  unfold c_icmp_ne
  try unfold ex_bin2
  try unfold ex_un2
  try unfold ex_bn
  try unfold ex_ald
  try unfold ex_ast
  try unfold g_ast
  try unfold ex_psh
  try unfold ex_sl2
  try unfold ex_tld
  try unfold ex_lcV
  try unfold ex_stl
  try unfold ex_st2
  try unfold ex_sti
  try unfold ex_st1
  try unfold g_alloc
  repeat' first | exact zle_none | exact zle_c | exact h V ST d cF ca jF j hc hj _ _ _ | exact hj _ _ _ _ | exact zle_ctch hj | refine zle_k (hc _ _ _) (fun _ => ?_) | refine zle_cnd ?_ ?_ | refine zle_b _ ?_ ?_ | refine zle_l _ ?_ (fun _ _ => ?_) | refine zle_o _ ?_ (fun _ => ?_) | refine zle_n _ ?_ (fun _ => ?_) | refine zle_cond _ ?_ ?_
theorem kc_idiv {nx : ex_C} (h : zKC nx) : zKC (c_idiv nx) := by
  intro V ST d cF ca jF j hc hj L S M
  unfold c_idiv
  try unfold s_idiv
  try unfold ex_bin2
  try unfold ex_un2
  try unfold ex_bn
  try unfold ex_ald
  try unfold ex_ast
  try unfold g_ast
  try unfold ex_psh
  try unfold ex_sl2
  try unfold ex_tld
  try unfold ex_lcV
  try unfold ex_stl
  try unfold ex_st2
  try unfold ex_sti
  try unfold ex_st1
  try unfold g_alloc
  repeat' first | exact zle_none | exact zle_c | exact h V ST d cF ca jF j hc hj _ _ _ | exact hj _ _ _ _ | exact zle_ctch hj | refine zle_k (hc _ _ _) (fun _ => ?_) | refine zle_cnd ?_ ?_ | refine zle_b _ ?_ ?_ | refine zle_l _ ?_ (fun _ _ => ?_) | refine zle_o _ ?_ (fun _ => ?_) | refine zle_n _ ?_ (fun _ => ?_) | refine zle_cond _ ?_ ?_
theorem kc_if_eq {t : Nat} {nx : ex_C} (h : zKC nx) : zKC (c_if_eq t nx) := by
  intro V ST d cF ca jF j hc hj L S M
  unfold c_if_eq
  try unfold ex_bin2
  try unfold ex_un2
  try unfold ex_bn
  try unfold ex_ald
  try unfold ex_ast
  try unfold g_ast
  try unfold ex_psh
  try unfold ex_sl2
  try unfold ex_tld
  try unfold ex_lcV
  try unfold ex_stl
  try unfold ex_st2
  try unfold ex_sti
  try unfold ex_st1
  try unfold g_alloc
  repeat' first | exact zle_none | exact zle_c | exact h V ST d cF ca jF j hc hj _ _ _ | exact hj _ _ _ _ | exact zle_ctch hj | refine zle_k (hc _ _ _) (fun _ => ?_) | refine zle_cnd ?_ ?_ | refine zle_b _ ?_ ?_ | refine zle_l _ ?_ (fun _ _ => ?_) | refine zle_o _ ?_ (fun _ => ?_) | refine zle_n _ ?_ (fun _ => ?_) | refine zle_cond _ ?_ ?_
theorem kc_if_ge {t : Nat} {nx : ex_C} (h : zKC nx) : zKC (c_if_ge t nx) := by
  intro V ST d cF ca jF j hc hj L S M
  unfold c_if_ge
  try unfold ex_bin2
  try unfold ex_un2
  try unfold ex_bn
  try unfold ex_ald
  try unfold ex_ast
  try unfold g_ast
  try unfold ex_psh
  try unfold ex_sl2
  try unfold ex_tld
  try unfold ex_lcV
  try unfold ex_stl
  try unfold ex_st2
  try unfold ex_sti
  try unfold ex_st1
  try unfold g_alloc
  repeat' first | exact zle_none | exact zle_c | exact h V ST d cF ca jF j hc hj _ _ _ | exact hj _ _ _ _ | exact zle_ctch hj | refine zle_k (hc _ _ _) (fun _ => ?_) | refine zle_cnd ?_ ?_ | refine zle_b _ ?_ ?_ | refine zle_l _ ?_ (fun _ _ => ?_) | refine zle_o _ ?_ (fun _ => ?_) | refine zle_n _ ?_ (fun _ => ?_) | refine zle_cond _ ?_ ?_
theorem kc_if_le {t : Nat} {nx : ex_C} (h : zKC nx) : zKC (c_if_le t nx) := by
  intro V ST d cF ca jF j hc hj L S M
  unfold c_if_le
  try unfold ex_bin2
  try unfold ex_un2
  try unfold ex_bn
  try unfold ex_ald
  try unfold ex_ast
  try unfold g_ast
  try unfold ex_psh
  try unfold ex_sl2
  try unfold ex_tld
  try unfold ex_lcV
  try unfold ex_stl
  try unfold ex_st2
  try unfold ex_sti
  try unfold ex_st1
  try unfold g_alloc
  repeat' first | exact zle_none | exact zle_c | exact h V ST d cF ca jF j hc hj _ _ _ | exact hj _ _ _ _ | exact zle_ctch hj | refine zle_k (hc _ _ _) (fun _ => ?_) | refine zle_cnd ?_ ?_ | refine zle_b _ ?_ ?_ | refine zle_l _ ?_ (fun _ _ => ?_) | refine zle_o _ ?_ (fun _ => ?_) | refine zle_n _ ?_ (fun _ => ?_) | refine zle_cond _ ?_ ?_
theorem kc_if_lt {t : Nat} {nx : ex_C} (h : zKC nx) : zKC (c_if_lt t nx) := by
  intro V ST d cF ca jF j hc hj L S M
  unfold c_if_lt
  try unfold ex_bin2
  try unfold ex_un2
  try unfold ex_bn
  try unfold ex_ald
  try unfold ex_ast
  try unfold g_ast
  try unfold ex_psh
  try unfold ex_sl2
  try unfold ex_tld
  try unfold ex_lcV
  try unfold ex_stl
  try unfold ex_st2
  try unfold ex_sti
  try unfold ex_st1
  try unfold g_alloc
  repeat' first | exact zle_none | exact zle_c | exact h V ST d cF ca jF j hc hj _ _ _ | exact hj _ _ _ _ | exact zle_ctch hj | refine zle_k (hc _ _ _) (fun _ => ?_) | refine zle_cnd ?_ ?_ | refine zle_b _ ?_ ?_ | refine zle_l _ ?_ (fun _ _ => ?_) | refine zle_o _ ?_ (fun _ => ?_) | refine zle_n _ ?_ (fun _ => ?_) | refine zle_cond _ ?_ ?_
theorem kc_if_ne {t : Nat} {nx : ex_C} (h : zKC nx) : zKC (c_if_ne t nx) := by
  intro V ST d cF ca jF j hc hj L S M
  unfold c_if_ne
  try unfold ex_bin2
  try unfold ex_un2
  try unfold ex_bn
  try unfold ex_ald
  try unfold ex_ast
  try unfold g_ast
  try unfold ex_psh
  try unfold ex_sl2
  try unfold ex_tld
  try unfold ex_lcV
  try unfold ex_stl
  try unfold ex_st2
  try unfold ex_sti
  try unfold ex_st1
  try unfold g_alloc
  repeat' first | exact zle_none | exact zle_c | exact h V ST d cF ca jF j hc hj _ _ _ | exact hj _ _ _ _ | exact zle_ctch hj | refine zle_k (hc _ _ _) (fun _ => ?_) | refine zle_cnd ?_ ?_ | refine zle_b _ ?_ ?_ | refine zle_l _ ?_ (fun _ _ => ?_) | refine zle_o _ ?_ (fun _ => ?_) | refine zle_n _ ?_ (fun _ => ?_) | refine zle_cond _ ?_ ?_
theorem kc_iinc {n i : Nat} {nx : ex_C} (h : zKC nx) : zKC (c_iinc n i nx) := by
  intro V ST d cF ca jF j hc hj L S M
  unfold c_iinc
  try unfold ex_bin2
  try unfold ex_un2
  try unfold ex_bn
  try unfold ex_ald
  try unfold ex_ast
  try unfold g_ast
  try unfold ex_psh
  try unfold ex_sl2
  try unfold ex_tld
  try unfold ex_lcV
  try unfold ex_stl
  try unfold ex_st2
  try unfold ex_sti
  try unfold ex_st1
  try unfold g_alloc
  repeat' first | exact zle_none | exact zle_c | exact h V ST d cF ca jF j hc hj _ _ _ | exact hj _ _ _ _ | exact zle_ctch hj | refine zle_k (hc _ _ _) (fun _ => ?_) | refine zle_cnd ?_ ?_ | refine zle_b _ ?_ ?_ | refine zle_l _ ?_ (fun _ _ => ?_) | refine zle_o _ ?_ (fun _ => ?_) | refine zle_n _ ?_ (fun _ => ?_) | refine zle_cond _ ?_ ?_
theorem kc_iload {n : Nat} {nx : ex_C} (h : zKC nx) : zKC (c_iload n nx) := by
  intro V ST d cF ca jF j hc hj L S M
  unfold c_iload
  try unfold ex_bin2
  try unfold ex_un2
  try unfold ex_bn
  try unfold ex_ald
  try unfold ex_ast
  try unfold g_ast
  try unfold ex_psh
  try unfold ex_sl2
  try unfold ex_tld
  try unfold ex_lcV
  try unfold ex_stl
  try unfold ex_st2
  try unfold ex_sti
  try unfold ex_st1
  try unfold g_alloc
  repeat' first | exact zle_none | exact zle_c | exact h V ST d cF ca jF j hc hj _ _ _ | exact hj _ _ _ _ | exact zle_ctch hj | refine zle_k (hc _ _ _) (fun _ => ?_) | refine zle_cnd ?_ ?_ | refine zle_b _ ?_ ?_ | refine zle_l _ ?_ (fun _ _ => ?_) | refine zle_o _ ?_ (fun _ => ?_) | refine zle_n _ ?_ (fun _ => ?_) | refine zle_cond _ ?_ ?_
theorem kc_imul {nx : ex_C} (h : zKC nx) : zKC (c_imul nx) := by
  intro V ST d cF ca jF j hc hj L S M
  unfold c_imul
  try unfold ex_bin2
  try unfold ex_un2
  try unfold ex_bn
  try unfold ex_ald
  try unfold ex_ast
  try unfold g_ast
  try unfold ex_psh
  try unfold ex_sl2
  try unfold ex_tld
  try unfold ex_lcV
  try unfold ex_stl
  try unfold ex_st2
  try unfold ex_sti
  try unfold ex_st1
  try unfold g_alloc
  repeat' first | exact zle_none | exact zle_c | exact h V ST d cF ca jF j hc hj _ _ _ | exact hj _ _ _ _ | exact zle_ctch hj | refine zle_k (hc _ _ _) (fun _ => ?_) | refine zle_cnd ?_ ?_ | refine zle_b _ ?_ ?_ | refine zle_l _ ?_ (fun _ _ => ?_) | refine zle_o _ ?_ (fun _ => ?_) | refine zle_n _ ?_ (fun _ => ?_) | refine zle_cond _ ?_ ?_
theorem kc_ineg {nx : ex_C} (h : zKC nx) : zKC (c_ineg nx) := by
  intro V ST d cF ca jF j hc hj L S M
  unfold c_ineg
  try unfold s_ineg
  try unfold ex_bin2
  try unfold ex_un2
  try unfold ex_bn
  try unfold ex_ald
  try unfold ex_ast
  try unfold g_ast
  try unfold ex_psh
  try unfold ex_sl2
  try unfold ex_tld
  try unfold ex_lcV
  try unfold ex_stl
  try unfold ex_st2
  try unfold ex_sti
  try unfold ex_st1
  try unfold g_alloc
  repeat' first | exact zle_none | exact zle_c | exact h V ST d cF ca jF j hc hj _ _ _ | exact hj _ _ _ _ | exact zle_ctch hj | refine zle_k (hc _ _ _) (fun _ => ?_) | refine zle_cnd ?_ ?_ | refine zle_b _ ?_ ?_ | refine zle_l _ ?_ (fun _ _ => ?_) | refine zle_o _ ?_ (fun _ => ?_) | refine zle_n _ ?_ (fun _ => ?_) | refine zle_cond _ ?_ ?_
theorem kc_invP {hs : ex_H} {bt : ex_CD} {pc na mid : Nat} {nx : ex_C} (h : zKC nx) : zKC (c_invP hs bt pc na mid nx) := by
  intro V ST d cF ca jF j hc hj L S M
  unfold c_invP
  try unfold ex_bin2
  try unfold ex_un2
  try unfold ex_bn
  try unfold ex_ald
  try unfold ex_ast
  try unfold g_ast
  try unfold ex_psh
  try unfold ex_sl2
  try unfold ex_tld
  try unfold ex_lcV
  try unfold ex_stl
  try unfold ex_st2
  try unfold ex_sti
  try unfold ex_st1
  try unfold g_alloc
  repeat' first | exact zle_none | exact zle_c | exact h V ST d cF ca jF j hc hj _ _ _ | exact hj _ _ _ _ | exact zle_ctch hj | refine zle_k (hc _ _ _) (fun _ => ?_) | refine zle_cnd ?_ ?_ | refine zle_b _ ?_ ?_ | refine zle_l _ ?_ (fun _ _ => ?_) | refine zle_o _ ?_ (fun _ => ?_) | refine zle_n _ ?_ (fun _ => ?_) | refine zle_cond _ ?_ ?_
theorem kc_invS {hs : ex_H} {bt : ex_CD} {pc na mid : Nat} {nx : ex_C} (h : zKC nx) : zKC (c_invS hs bt pc na mid nx) := by
  intro V ST d cF ca jF j hc hj L S M
  unfold c_invS
  try unfold ex_bin2
  try unfold ex_un2
  try unfold ex_bn
  try unfold ex_ald
  try unfold ex_ast
  try unfold g_ast
  try unfold ex_psh
  try unfold ex_sl2
  try unfold ex_tld
  try unfold ex_lcV
  try unfold ex_stl
  try unfold ex_st2
  try unfold ex_sti
  try unfold ex_st1
  try unfold g_alloc
  repeat' first | exact zle_none | exact zle_c | exact h V ST d cF ca jF j hc hj _ _ _ | exact hj _ _ _ _ | exact zle_ctch hj | refine zle_k (hc _ _ _) (fun _ => ?_) | refine zle_cnd ?_ ?_ | refine zle_b _ ?_ ?_ | refine zle_l _ ?_ (fun _ _ => ?_) | refine zle_o _ ?_ (fun _ => ?_) | refine zle_n _ ?_ (fun _ => ?_) | refine zle_cond _ ?_ ?_
theorem kc_invV {hs : ex_H} {bt : ex_CD} {pc na mid rk : Nat} {nx : ex_C} (h : zKC nx) : zKC (c_invV hs bt pc na mid rk nx) := by
  intro V ST d cF ca jF j hc hj L S M
  unfold c_invV
  try unfold ex_bin2
  try unfold ex_un2
  try unfold ex_bn
  try unfold ex_ald
  try unfold ex_ast
  try unfold g_ast
  try unfold ex_psh
  try unfold ex_sl2
  try unfold ex_tld
  try unfold ex_lcV
  try unfold ex_stl
  try unfold ex_st2
  try unfold ex_sti
  try unfold ex_st1
  try unfold g_alloc
  repeat' first | exact zle_none | exact zle_c | exact h V ST d cF ca jF j hc hj _ _ _ | exact hj _ _ _ _ | exact zle_ctch hj | refine zle_k (hc _ _ _) (fun _ => ?_) | refine zle_cnd ?_ ?_ | refine zle_b _ ?_ ?_ | refine zle_l _ ?_ (fun _ _ => ?_) | refine zle_o _ ?_ (fun _ => ?_) | refine zle_n _ ?_ (fun _ => ?_) | refine zle_cond _ ?_ ?_
theorem kc_ior {nx : ex_C} (h : zKC nx) : zKC (c_ior nx) := by
  intro V ST d cF ca jF j hc hj L S M
  unfold c_ior
  try unfold s_ior
  try unfold ex_bin2
  try unfold ex_un2
  try unfold ex_bn
  try unfold ex_ald
  try unfold ex_ast
  try unfold g_ast
  try unfold ex_psh
  try unfold ex_sl2
  try unfold ex_tld
  try unfold ex_lcV
  try unfold ex_stl
  try unfold ex_st2
  try unfold ex_sti
  try unfold ex_st1
  try unfold g_alloc
  repeat' first | exact zle_none | exact zle_c | exact h V ST d cF ca jF j hc hj _ _ _ | exact hj _ _ _ _ | exact zle_ctch hj | refine zle_k (hc _ _ _) (fun _ => ?_) | refine zle_cnd ?_ ?_ | refine zle_b _ ?_ ?_ | refine zle_l _ ?_ (fun _ _ => ?_) | refine zle_o _ ?_ (fun _ => ?_) | refine zle_n _ ?_ (fun _ => ?_) | refine zle_cond _ ?_ ?_
theorem kc_irem {nx : ex_C} (h : zKC nx) : zKC (c_irem nx) := by
  intro V ST d cF ca jF j hc hj L S M
  unfold c_irem
  try unfold s_irem
  try unfold ex_bin2
  try unfold ex_un2
  try unfold ex_bn
  try unfold ex_ald
  try unfold ex_ast
  try unfold g_ast
  try unfold ex_psh
  try unfold ex_sl2
  try unfold ex_tld
  try unfold ex_lcV
  try unfold ex_stl
  try unfold ex_st2
  try unfold ex_sti
  try unfold ex_st1
  try unfold g_alloc
  repeat' first | exact zle_none | exact zle_c | exact h V ST d cF ca jF j hc hj _ _ _ | exact hj _ _ _ _ | exact zle_ctch hj | refine zle_k (hc _ _ _) (fun _ => ?_) | refine zle_cnd ?_ ?_ | refine zle_b _ ?_ ?_ | refine zle_l _ ?_ (fun _ _ => ?_) | refine zle_o _ ?_ (fun _ => ?_) | refine zle_n _ ?_ (fun _ => ?_) | refine zle_cond _ ?_ ?_
theorem kc_ireturn {rt : Nat} : zKC (c_ireturn rt) := by
  intro V ST d cF ca jF j hc hj L S M
  unfold c_ireturn
  try unfold s_ireturn
  try unfold ex_bin2
  try unfold ex_un2
  try unfold ex_bn
  try unfold ex_ald
  try unfold ex_ast
  try unfold g_ast
  try unfold ex_psh
  try unfold ex_sl2
  try unfold ex_tld
  try unfold ex_lcV
  try unfold ex_stl
  try unfold ex_st2
  try unfold ex_sti
  try unfold ex_st1
  try unfold g_alloc
  repeat' first | exact zle_none | exact zle_c | exact hj _ _ _ _ | exact zle_ctch hj | refine zle_k (hc _ _ _) (fun _ => ?_) | refine zle_cnd ?_ ?_ | refine zle_b _ ?_ ?_ | refine zle_l _ ?_ (fun _ _ => ?_) | refine zle_o _ ?_ (fun _ => ?_) | refine zle_n _ ?_ (fun _ => ?_) | refine zle_cond _ ?_ ?_
theorem kc_ishl {nx : ex_C} (h : zKC nx) : zKC (c_ishl nx) := by
  intro V ST d cF ca jF j hc hj L S M
  unfold c_ishl
  try unfold s_ishl
  try unfold ex_bin2
  try unfold ex_un2
  try unfold ex_bn
  try unfold ex_ald
  try unfold ex_ast
  try unfold g_ast
  try unfold ex_psh
  try unfold ex_sl2
  try unfold ex_tld
  try unfold ex_lcV
  try unfold ex_stl
  try unfold ex_st2
  try unfold ex_sti
  try unfold ex_st1
  try unfold g_alloc
  repeat' first | exact zle_none | exact zle_c | exact h V ST d cF ca jF j hc hj _ _ _ | exact hj _ _ _ _ | exact zle_ctch hj | refine zle_k (hc _ _ _) (fun _ => ?_) | refine zle_cnd ?_ ?_ | refine zle_b _ ?_ ?_ | refine zle_l _ ?_ (fun _ _ => ?_) | refine zle_o _ ?_ (fun _ => ?_) | refine zle_n _ ?_ (fun _ => ?_) | refine zle_cond _ ?_ ?_
theorem kc_ishr {nx : ex_C} (h : zKC nx) : zKC (c_ishr nx) := by
  intro V ST d cF ca jF j hc hj L S M
  unfold c_ishr
  try unfold s_ishr
  try unfold ex_bin2
  try unfold ex_un2
  try unfold ex_bn
  try unfold ex_ald
  try unfold ex_ast
  try unfold g_ast
  try unfold ex_psh
  try unfold ex_sl2
  try unfold ex_tld
  try unfold ex_lcV
  try unfold ex_stl
  try unfold ex_st2
  try unfold ex_sti
  try unfold ex_st1
  try unfold g_alloc
  repeat' first | exact zle_none | exact zle_c | exact h V ST d cF ca jF j hc hj _ _ _ | exact hj _ _ _ _ | exact zle_ctch hj | refine zle_k (hc _ _ _) (fun _ => ?_) | refine zle_cnd ?_ ?_ | refine zle_b _ ?_ ?_ | refine zle_l _ ?_ (fun _ _ => ?_) | refine zle_o _ ?_ (fun _ => ?_) | refine zle_n _ ?_ (fun _ => ?_) | refine zle_cond _ ?_ ?_
theorem kc_istore {n : Nat} {nx : ex_C} (h : zKC nx) : zKC (c_istore n nx) := by
  intro V ST d cF ca jF j hc hj L S M
  unfold c_istore
  try unfold ex_bin2
  try unfold ex_un2
  try unfold ex_bn
  try unfold ex_ald
  try unfold ex_ast
  try unfold g_ast
  try unfold ex_psh
  try unfold ex_sl2
  try unfold ex_tld
  try unfold ex_lcV
  try unfold ex_stl
  try unfold ex_st2
  try unfold ex_sti
  try unfold ex_st1
  try unfold g_alloc
  repeat' first | exact zle_none | exact zle_c | exact h V ST d cF ca jF j hc hj _ _ _ | exact hj _ _ _ _ | exact zle_ctch hj | refine zle_k (hc _ _ _) (fun _ => ?_) | refine zle_cnd ?_ ?_ | refine zle_b _ ?_ ?_ | refine zle_l _ ?_ (fun _ _ => ?_) | refine zle_o _ ?_ (fun _ => ?_) | refine zle_n _ ?_ (fun _ => ?_) | refine zle_cond _ ?_ ?_
theorem kc_isub {nx : ex_C} (h : zKC nx) : zKC (c_isub nx) := by
  intro V ST d cF ca jF j hc hj L S M
  unfold c_isub
  try unfold ex_bin2
  try unfold ex_un2
  try unfold ex_bn
  try unfold ex_ald
  try unfold ex_ast
  try unfold g_ast
  try unfold ex_psh
  try unfold ex_sl2
  try unfold ex_tld
  try unfold ex_lcV
  try unfold ex_stl
  try unfold ex_st2
  try unfold ex_sti
  try unfold ex_st1
  try unfold g_alloc
  repeat' first | exact zle_none | exact zle_c | exact h V ST d cF ca jF j hc hj _ _ _ | exact hj _ _ _ _ | exact zle_ctch hj | refine zle_k (hc _ _ _) (fun _ => ?_) | refine zle_cnd ?_ ?_ | refine zle_b _ ?_ ?_ | refine zle_l _ ?_ (fun _ _ => ?_) | refine zle_o _ ?_ (fun _ => ?_) | refine zle_n _ ?_ (fun _ => ?_) | refine zle_cond _ ?_ ?_
theorem kc_ixor {nx : ex_C} (h : zKC nx) : zKC (c_ixor nx) := by
  intro V ST d cF ca jF j hc hj L S M
  unfold c_ixor
  try unfold s_ixor
  try unfold ex_bin2
  try unfold ex_un2
  try unfold ex_bn
  try unfold ex_ald
  try unfold ex_ast
  try unfold g_ast
  try unfold ex_psh
  try unfold ex_sl2
  try unfold ex_tld
  try unfold ex_lcV
  try unfold ex_stl
  try unfold ex_st2
  try unfold ex_sti
  try unfold ex_st1
  try unfold g_alloc
  repeat' first | exact zle_none | exact zle_c | exact h V ST d cF ca jF j hc hj _ _ _ | exact hj _ _ _ _ | exact zle_ctch hj | refine zle_k (hc _ _ _) (fun _ => ?_) | refine zle_cnd ?_ ?_ | refine zle_b _ ?_ ?_ | refine zle_l _ ?_ (fun _ _ => ?_) | refine zle_o _ ?_ (fun _ => ?_) | refine zle_n _ ?_ (fun _ => ?_) | refine zle_cond _ ?_ ?_
theorem kc_l2d {nx : ex_C} (h : zKC nx) : zKC (c_l2d nx) := by
  intro V ST d cF ca jF j hc hj L S M
  unfold c_l2d
  try unfold s_l2d
  try unfold ex_bin2
  try unfold ex_un2
  try unfold ex_bn
  try unfold ex_ald
  try unfold ex_ast
  try unfold g_ast
  try unfold ex_psh
  try unfold ex_sl2
  try unfold ex_tld
  try unfold ex_lcV
  try unfold ex_stl
  try unfold ex_st2
  try unfold ex_sti
  try unfold ex_st1
  try unfold g_alloc
  repeat' first | exact zle_none | exact zle_c | exact h V ST d cF ca jF j hc hj _ _ _ | exact hj _ _ _ _ | exact zle_ctch hj | refine zle_k (hc _ _ _) (fun _ => ?_) | refine zle_cnd ?_ ?_ | refine zle_b _ ?_ ?_ | refine zle_l _ ?_ (fun _ _ => ?_) | refine zle_o _ ?_ (fun _ => ?_) | refine zle_n _ ?_ (fun _ => ?_) | refine zle_cond _ ?_ ?_
theorem kc_ladd {nx : ex_C} (h : zKC nx) : zKC (c_ladd nx) := by
  intro V ST d cF ca jF j hc hj L S M
  unfold c_ladd
  try unfold s_ladd
  try unfold ex_bin2
  try unfold ex_un2
  try unfold ex_bn
  try unfold ex_ald
  try unfold ex_ast
  try unfold g_ast
  try unfold ex_psh
  try unfold ex_sl2
  try unfold ex_tld
  try unfold ex_lcV
  try unfold ex_stl
  try unfold ex_st2
  try unfold ex_sti
  try unfold ex_st1
  try unfold g_alloc
  repeat' first | exact zle_none | exact zle_c | exact h V ST d cF ca jF j hc hj _ _ _ | exact hj _ _ _ _ | exact zle_ctch hj | refine zle_k (hc _ _ _) (fun _ => ?_) | refine zle_cnd ?_ ?_ | refine zle_b _ ?_ ?_ | refine zle_l _ ?_ (fun _ _ => ?_) | refine zle_o _ ?_ (fun _ => ?_) | refine zle_n _ ?_ (fun _ => ?_) | refine zle_cond _ ?_ ?_
theorem kc_lcmp {nx : ex_C} (h : zKC nx) : zKC (c_lcmp nx) := by
  intro V ST d cF ca jF j hc hj L S M
  unfold c_lcmp
  try unfold s_lcmp
  try unfold ex_bin2
  try unfold ex_un2
  try unfold ex_bn
  try unfold ex_ald
  try unfold ex_ast
  try unfold g_ast
  try unfold ex_psh
  try unfold ex_sl2
  try unfold ex_tld
  try unfold ex_lcV
  try unfold ex_stl
  try unfold ex_st2
  try unfold ex_sti
  try unfold ex_st1
  try unfold g_alloc
  repeat' first | exact zle_none | exact zle_c | exact h V ST d cF ca jF j hc hj _ _ _ | exact hj _ _ _ _ | exact zle_ctch hj | refine zle_k (hc _ _ _) (fun _ => ?_) | refine zle_cnd ?_ ?_ | refine zle_b _ ?_ ?_ | refine zle_l _ ?_ (fun _ _ => ?_) | refine zle_o _ ?_ (fun _ => ?_) | refine zle_n _ ?_ (fun _ => ?_) | refine zle_cond _ ?_ ?_
theorem kc_lload {n : Nat} {nx : ex_C} (h : zKC nx) : zKC (c_lload n nx) := by
  intro V ST d cF ca jF j hc hj L S M
  unfold c_lload
  try unfold ex_bin2
  try unfold ex_un2
  try unfold ex_bn
  try unfold ex_ald
  try unfold ex_ast
  try unfold g_ast
  try unfold ex_psh
  try unfold ex_sl2
  try unfold ex_tld
  try unfold ex_lcV
  try unfold ex_stl
  try unfold ex_st2
  try unfold ex_sti
  try unfold ex_st1
  try unfold g_alloc
  repeat' first | exact zle_none | exact zle_c | exact h V ST d cF ca jF j hc hj _ _ _ | exact hj _ _ _ _ | exact zle_ctch hj | refine zle_k (hc _ _ _) (fun _ => ?_) | refine zle_cnd ?_ ?_ | refine zle_b _ ?_ ?_ | refine zle_l _ ?_ (fun _ _ => ?_) | refine zle_o _ ?_ (fun _ => ?_) | refine zle_n _ ?_ (fun _ => ?_) | refine zle_cond _ ?_ ?_
theorem kc_lreturn {rt : Nat} : zKC (c_lreturn rt) := by
  intro V ST d cF ca jF j hc hj L S M
  unfold c_lreturn
  try unfold s_lreturn
  try unfold ex_bin2
  try unfold ex_un2
  try unfold ex_bn
  try unfold ex_ald
  try unfold ex_ast
  try unfold g_ast
  try unfold ex_psh
  try unfold ex_sl2
  try unfold ex_tld
  try unfold ex_lcV
  try unfold ex_stl
  try unfold ex_st2
  try unfold ex_sti
  try unfold ex_st1
  try unfold g_alloc
  repeat' first | exact zle_none | exact zle_c | exact hj _ _ _ _ | exact zle_ctch hj | refine zle_k (hc _ _ _) (fun _ => ?_) | refine zle_cnd ?_ ?_ | refine zle_b _ ?_ ?_ | refine zle_l _ ?_ (fun _ _ => ?_) | refine zle_o _ ?_ (fun _ => ?_) | refine zle_n _ ?_ (fun _ => ?_) | refine zle_cond _ ?_ ?_
theorem kc_lstore {n : Nat} {nx : ex_C} (h : zKC nx) : zKC (c_lstore n nx) := by
  intro V ST d cF ca jF j hc hj L S M
  unfold c_lstore
  try unfold s_lstore
  try unfold ex_bin2
  try unfold ex_un2
  try unfold ex_bn
  try unfold ex_ald
  try unfold ex_ast
  try unfold g_ast
  try unfold ex_psh
  try unfold ex_sl2
  try unfold ex_tld
  try unfold ex_lcV
  try unfold ex_stl
  try unfold ex_st2
  try unfold ex_sti
  try unfold ex_st1
  try unfold g_alloc
  repeat' first | exact zle_none | exact zle_c | exact h V ST d cF ca jF j hc hj _ _ _ | exact hj _ _ _ _ | exact zle_ctch hj | refine zle_k (hc _ _ _) (fun _ => ?_) | refine zle_cnd ?_ ?_ | refine zle_b _ ?_ ?_ | refine zle_l _ ?_ (fun _ _ => ?_) | refine zle_o _ ?_ (fun _ => ?_) | refine zle_n _ ?_ (fun _ => ?_) | refine zle_cond _ ?_ ?_
theorem kc_lstore_n {n : Fin 4} {nx : ex_C} (h : zKC nx) : zKC (c_lstore_n n nx) := by
  intro V ST d cF ca jF j hc hj L S M
  unfold c_lstore_n
  try unfold s_lstore_n
  try unfold ex_bin2
  try unfold ex_un2
  try unfold ex_bn
  try unfold ex_ald
  try unfold ex_ast
  try unfold g_ast
  try unfold ex_psh
  try unfold ex_sl2
  try unfold ex_tld
  try unfold ex_lcV
  try unfold ex_stl
  try unfold ex_st2
  try unfold ex_sti
  try unfold ex_st1
  try unfold g_alloc
  repeat' first | exact zle_none | exact zle_c | exact h V ST d cF ca jF j hc hj _ _ _ | exact hj _ _ _ _ | exact zle_ctch hj | refine zle_k (hc _ _ _) (fun _ => ?_) | refine zle_cnd ?_ ?_ | refine zle_b _ ?_ ?_ | refine zle_l _ ?_ (fun _ _ => ?_) | refine zle_o _ ?_ (fun _ => ?_) | refine zle_n _ ?_ (fun _ => ?_) | refine zle_cond _ ?_ ?_
theorem kc_lsub {nx : ex_C} (h : zKC nx) : zKC (c_lsub nx) := by
  intro V ST d cF ca jF j hc hj L S M
  unfold c_lsub
  try unfold s_lsub
  try unfold ex_bin2
  try unfold ex_un2
  try unfold ex_bn
  try unfold ex_ald
  try unfold ex_ast
  try unfold g_ast
  try unfold ex_psh
  try unfold ex_sl2
  try unfold ex_tld
  try unfold ex_lcV
  try unfold ex_stl
  try unfold ex_st2
  try unfold ex_sti
  try unfold ex_st1
  try unfold g_alloc
  repeat' first | exact zle_none | exact zle_c | exact h V ST d cF ca jF j hc hj _ _ _ | exact hj _ _ _ _ | exact zle_ctch hj | refine zle_k (hc _ _ _) (fun _ => ?_) | refine zle_cnd ?_ ?_ | refine zle_b _ ?_ ?_ | refine zle_l _ ?_ (fun _ _ => ?_) | refine zle_o _ ?_ (fun _ => ?_) | refine zle_n _ ?_ (fun _ => ?_) | refine zle_cond _ ?_ ?_
theorem kc_newarr {kd z : Nat} {nx : ex_C} (h : zKC nx) : zKC (c_newarr kd z nx) := by
  intro V ST d cF ca jF j hc hj L S M
  unfold c_newarr
  try unfold ex_bin2
  try unfold ex_un2
  try unfold ex_bn
  try unfold ex_ald
  try unfold ex_ast
  try unfold g_ast
  try unfold ex_psh
  try unfold ex_sl2
  try unfold ex_tld
  try unfold ex_lcV
  try unfold ex_stl
  try unfold ex_st2
  try unfold ex_sti
  try unfold ex_st1
  try unfold g_alloc
  repeat' first | exact zle_none | exact zle_c | exact h V ST d cF ca jF j hc hj _ _ _ | exact hj _ _ _ _ | exact zle_ctch hj | refine zle_k (hc _ _ _) (fun _ => ?_) | refine zle_cnd ?_ ?_ | refine zle_b _ ?_ ?_ | refine zle_l _ ?_ (fun _ _ => ?_) | refine zle_o _ ?_ (fun _ => ?_) | refine zle_n _ ?_ (fun _ => ?_) | refine zle_cond _ ?_ ?_
theorem kc_newo {B n : Nat} {nx : ex_C} (h : zKC nx) : zKC (c_newo B n nx) := by
  intro V ST d cF ca jF j hc hj L S M
  unfold c_newo
  try unfold ex_bin2
  try unfold ex_un2
  try unfold ex_bn
  try unfold ex_ald
  try unfold ex_ast
  try unfold g_ast
  try unfold ex_psh
  try unfold ex_sl2
  try unfold ex_tld
  try unfold ex_lcV
  try unfold ex_stl
  try unfold ex_st2
  try unfold ex_sti
  try unfold ex_st1
  try unfold g_alloc
  repeat' first | exact zle_none | exact zle_c | exact h V ST d cF ca jF j hc hj _ _ _ | exact hj _ _ _ _ | exact zle_ctch hj | refine zle_k (hc _ _ _) (fun _ => ?_) | refine zle_cnd ?_ ?_ | refine zle_b _ ?_ ?_ | refine zle_l _ ?_ (fun _ _ => ?_) | refine zle_o _ ?_ (fun _ => ?_) | refine zle_n _ ?_ (fun _ => ?_) | refine zle_cond _ ?_ ?_
theorem kc_newx {v : Nat} : zKC (c_newx v) := by
  intro V ST d cF ca jF j hc hj L S M
  unfold c_newx
  try unfold ex_bin2
  try unfold ex_un2
  try unfold ex_bn
  try unfold ex_ald
  try unfold ex_ast
  try unfold g_ast
  try unfold ex_psh
  try unfold ex_sl2
  try unfold ex_tld
  try unfold ex_lcV
  try unfold ex_stl
  try unfold ex_st2
  try unfold ex_sti
  try unfold ex_st1
  try unfold g_alloc
  repeat' first | exact zle_none | exact zle_c | exact hj _ _ _ _ | exact zle_ctch hj | refine zle_k (hc _ _ _) (fun _ => ?_) | refine zle_cnd ?_ ?_ | refine zle_b _ ?_ ?_ | refine zle_l _ ?_ (fun _ _ => ?_) | refine zle_o _ ?_ (fun _ => ?_) | refine zle_n _ ?_ (fun _ => ?_) | refine zle_cond _ ?_ ?_
theorem kc_none : zKC (c_none) := by
  intro V ST d cF ca jF j hc hj L S M
  unfold c_none
  try unfold ex_bin2
  try unfold ex_un2
  try unfold ex_bn
  try unfold ex_ald
  try unfold ex_ast
  try unfold g_ast
  try unfold ex_psh
  try unfold ex_sl2
  try unfold ex_tld
  try unfold ex_lcV
  try unfold ex_stl
  try unfold ex_st2
  try unfold ex_sti
  try unfold ex_st1
  try unfold g_alloc
  repeat' first | exact zle_none | exact zle_c | exact hj _ _ _ _ | exact zle_ctch hj | refine zle_k (hc _ _ _) (fun _ => ?_) | refine zle_cnd ?_ ?_ | refine zle_b _ ?_ ?_ | refine zle_l _ ?_ (fun _ _ => ?_) | refine zle_o _ ?_ (fun _ => ?_) | refine zle_n _ ?_ (fun _ => ?_) | refine zle_cond _ ?_ ?_
theorem kc_oinit {nx : ex_C} (h : zKC nx) : zKC (c_oinit nx) := by
  intro V ST d cF ca jF j hc hj L S M
  unfold c_oinit
  try unfold ex_bin2
  try unfold ex_un2
  try unfold ex_bn
  try unfold ex_ald
  try unfold ex_ast
  try unfold g_ast
  try unfold ex_psh
  try unfold ex_sl2
  try unfold ex_tld
  try unfold ex_lcV
  try unfold ex_stl
  try unfold ex_st2
  try unfold ex_sti
  try unfold ex_st1
  try unfold g_alloc
  repeat' first | exact zle_none | exact zle_c | exact h V ST d cF ca jF j hc hj _ _ _ | exact hj _ _ _ _ | exact zle_ctch hj | refine zle_k (hc _ _ _) (fun _ => ?_) | refine zle_cnd ?_ ?_ | refine zle_b _ ?_ ?_ | refine zle_l _ ?_ (fun _ _ => ?_) | refine zle_o _ ?_ (fun _ => ?_) | refine zle_n _ ?_ (fun _ => ?_) | refine zle_cond _ ?_ ?_
theorem kc_pf {kd ty ix : Nat} {nx : ex_C} (h : zKC nx) : zKC (c_pf kd ty ix nx) := by
  intro V ST d cF ca jF j hc hj L S M
  unfold c_pf
  try unfold ex_bin2
  try unfold ex_un2
  try unfold ex_bn
  try unfold ex_ald
  try unfold ex_ast
  try unfold g_ast
  try unfold ex_psh
  try unfold ex_sl2
  try unfold ex_tld
  try unfold ex_lcV
  try unfold ex_stl
  try unfold ex_st2
  try unfold ex_sti
  try unfold ex_st1
  try unfold g_alloc
  repeat' first | exact zle_none | exact zle_c | exact h V ST d cF ca jF j hc hj _ _ _ | exact hj _ _ _ _ | exact zle_ctch hj | refine zle_k (hc _ _ _) (fun _ => ?_) | refine zle_cnd ?_ ?_ | refine zle_b _ ?_ ?_ | refine zle_l _ ?_ (fun _ _ => ?_) | refine zle_o _ ?_ (fun _ => ?_) | refine zle_n _ ?_ (fun _ => ?_) | refine zle_cond _ ?_ ?_
theorem kc_pop {nx : ex_C} (h : zKC nx) : zKC (c_pop nx) := by
  intro V ST d cF ca jF j hc hj L S M
  unfold c_pop
  try unfold s_pop
  try unfold ex_bin2
  try unfold ex_un2
  try unfold ex_bn
  try unfold ex_ald
  try unfold ex_ast
  try unfold g_ast
  try unfold ex_psh
  try unfold ex_sl2
  try unfold ex_tld
  try unfold ex_lcV
  try unfold ex_stl
  try unfold ex_st2
  try unfold ex_sti
  try unfold ex_st1
  try unfold g_alloc
  repeat' first | exact zle_none | exact zle_c | exact h V ST d cF ca jF j hc hj _ _ _ | exact hj _ _ _ _ | exact zle_ctch hj | refine zle_k (hc _ _ _) (fun _ => ?_) | refine zle_cnd ?_ ?_ | refine zle_b _ ?_ ?_ | refine zle_l _ ?_ (fun _ _ => ?_) | refine zle_o _ ?_ (fun _ => ?_) | refine zle_n _ ?_ (fun _ => ?_) | refine zle_cond _ ?_ ?_
theorem kc_psh {v : Nat} {nx : ex_C} (h : zKC nx) : zKC (c_psh v nx) := by
  intro V ST d cF ca jF j hc hj L S M
  unfold c_psh
  try unfold ex_bin2
  try unfold ex_un2
  try unfold ex_bn
  try unfold ex_ald
  try unfold ex_ast
  try unfold g_ast
  try unfold ex_psh
  try unfold ex_sl2
  try unfold ex_tld
  try unfold ex_lcV
  try unfold ex_stl
  try unfold ex_st2
  try unfold ex_sti
  try unfold ex_st1
  try unfold g_alloc
  repeat' first | exact zle_none | exact zle_c | exact h V ST d cF ca jF j hc hj _ _ _ | exact hj _ _ _ _ | exact zle_ctch hj | refine zle_k (hc _ _ _) (fun _ => ?_) | refine zle_cnd ?_ ?_ | refine zle_b _ ?_ ?_ | refine zle_l _ ?_ (fun _ _ => ?_) | refine zle_o _ ?_ (fun _ => ?_) | refine zle_n _ ?_ (fun _ => ?_) | refine zle_cond _ ?_ ?_
theorem kc_return_ {rt : Nat} : zKC (c_return_ rt) := by
  intro V ST d cF ca jF j hc hj L S M
  unfold c_return_
  try unfold s_return_
  try unfold ex_bin2
  try unfold ex_un2
  try unfold ex_bn
  try unfold ex_ald
  try unfold ex_ast
  try unfold g_ast
  try unfold ex_psh
  try unfold ex_sl2
  try unfold ex_tld
  try unfold ex_lcV
  try unfold ex_stl
  try unfold ex_st2
  try unfold ex_sti
  try unfold ex_st1
  try unfold g_alloc
  repeat' first | exact zle_none | exact zle_c | exact hj _ _ _ _ | exact zle_ctch hj | refine zle_k (hc _ _ _) (fun _ => ?_) | refine zle_cnd ?_ ?_ | refine zle_b _ ?_ ?_ | refine zle_l _ ?_ (fun _ _ => ?_) | refine zle_o _ ?_ (fun _ => ?_) | refine zle_n _ ?_ (fun _ => ?_) | refine zle_cond _ ?_ ?_
theorem kc_tableswitch {i0 : Int} {i1 : Int} {i2 : Int} {i3 : Array Int} {aux : Nat} : zKC (c_tableswitch i0 i1 i2 i3 aux) := by
  intro V ST d cF ca jF j hc hj L S M
  unfold c_tableswitch
  try unfold s_tableswitch
  try unfold ex_bin2
  try unfold ex_un2
  try unfold ex_bn
  try unfold ex_ald
  try unfold ex_ast
  try unfold g_ast
  try unfold ex_psh
  try unfold ex_sl2
  try unfold ex_tld
  try unfold ex_lcV
  try unfold ex_stl
  try unfold ex_st2
  try unfold ex_sti
  try unfold ex_st1
  try unfold g_alloc
  repeat' first | exact zle_none | exact zle_c | exact hj _ _ _ _ | exact zle_ctch hj | refine zle_k (hc _ _ _) (fun _ => ?_) | refine zle_cnd ?_ ?_ | refine zle_b _ ?_ ?_ | refine zle_l _ ?_ (fun _ _ => ?_) | refine zle_o _ ?_ (fun _ => ?_) | refine zle_n _ ?_ (fun _ => ?_) | refine zle_cond _ ?_ ?_
theorem kc_fall {c : ex_C} (h : zKC c) : zKC c := h
section
variable {AL : ex_AL} {V : ex_V} {ST : Nat → Nat} {MK : ex_MK}
/-- what a run comes to -/
def zRn (AL : ex_AL) (V : ex_V) (ST : Nat → Nat) (MK : ex_MK) (d : Nat) (kt : Nat → Option ex_C) (pc L : Nat) (S : List Nat) (M : Nat) : ex_R :=
  @dite ex_R (∃ r, ∃ F, ∀ f, F ≤ f → cx_run AL V ST MK f d kt pc L S M = some r) (Classical.propDecidable _) (fun h => some (Classical.choose h)) (fun _ => none)
theorem zRn_iff {d : Nat} {kt : Nat → Option ex_C} {pc L : Nat} {S : List Nat} {M : Nat} {r : Nat × Nat} : zRn AL V ST MK d kt pc L S M = some r ↔ ∃ F, ∀ f, F ≤ f → cx_run AL V ST MK f d kt pc L S M = some r := by
  unfold zRn
  constructor
  · intro h
    by_cases hx : ∃ r, ∃ F, ∀ f, F ≤ f → cx_run AL V ST MK f d kt pc L S M = some r
    · rw [dif_pos hx] at h
      have e := Option.some.inj h
      rw [← e]
      exact Classical.choose_spec hx
    · rw [dif_neg hx] at h
      cases h
  · intro h
    have hx : ∃ r, ∃ F, ∀ f, F ≤ f → cx_run AL V ST MK f d kt pc L S M = some r := ⟨r, h⟩
    rw [dif_pos hx]
    obtain ⟨F1, h1⟩ := Classical.choose_spec hx
    obtain ⟨F2, h2⟩ := h
    have e1 := h1 (max F1 F2) (by omega)
    have e2 := h2 (max F1 F2) (by omega)
    rw [e1] at e2
    exact e2
/-- what a call comes to, out of what runs come to -/
def zCf (AL : ex_AL) (MK : ex_MK) (run : Nat → (Nat → Option ex_C) → Nat → ex_K) (d m : Nat) (as : List Nat) (M : Nat) : ex_R :=
  @Nat.rec (fun _ => ex_R) none (fun d' _ => @Option.rec ex_R (fun _ => ex_R) ((@Option.rec (Nat × Nat × (Nat → Option ex_C)) (fun _ => ex_R) none (fun q => (@Bool.rec (fun _ => ex_R) (none) (run d' q.2.2 0 (g_pack as 0 q.2.1) [] M) (Nat.ble (ex_rsum as) q.1))) (MK m))) (fun r => r) (AL d' m as M)) d
abbrev zCl (AL : ex_AL) (V : ex_V) (ST : Nat → Nat) (MK : ex_MK) : Nat → Nat → List Nat → Nat → ex_R := zCf AL MK (zRn AL V ST MK)
theorem zle_run {d : Nat} {kt : Nat → Option ex_C} {pc L : Nat} {S : List Nat} {M : Nat} : zle (fun f => cx_run AL V ST MK f d kt pc L S M) (zRn AL V ST MK d kt pc L S M) := fun _ h => zRn_iff.mp h
theorem zle_Cf {d m : Nat} {as : List Nat} {M : Nat} : zle (fun f => zCf AL MK (cx_run AL V ST MK f) d m as M) (zCl AL V ST MK d m as M) := by
  unfold zCl zCf
  exact zle_n d zle_none (fun d' => zle_o _ (zle_o _ zle_none (fun q => zle_b _ zle_none zle_run)) (fun _ => zle_c))
theorem zRn_eq {d : Nat} {kt : Nat → Option ex_C} {pc L : Nat} {S : List Nat} {M : Nat} {r : Nat × Nat} {c : ex_C} (hk : kt pc = some c) (hc : zKC c) (h : c V ST d (zCl AL V ST MK d) (zRn AL V ST MK d kt) L S M = some r) : zRn AL V ST MK d kt pc L S M = some r := by
  obtain ⟨F, hF⟩ := hc V ST d (fun f => zCf AL MK (cx_run AL V ST MK f) d) _ (fun f => cx_run AL V ST MK f d kt) _ (fun _ _ _ => zle_Cf) (fun _ _ _ _ => zle_run) L S M r h
  refine zRn_iff.mpr ⟨F + 1, fun f hf => ?_⟩
  obtain ⟨f', rfl⟩ : ∃ f', f = f' + 1 := ⟨f - 1, by omega⟩
  show @Option.rec ex_C (fun _ => ex_R) none (fun c => c V ST d (zCf AL MK (cx_run AL V ST MK f') d) (cx_run AL V ST MK f' d kt) L S M) (kt pc) = _
  rw [hk]
  exact hF f' (by omega)
theorem zCl_eq {d m : Nat} {as : List Nat} {M : Nat} {q : Nat × Nat × (Nat → Option ex_C)} (ha : AL d m as M = none) (hm : MK m = some q) (hr : Nat.ble (ex_rsum as) q.1 = true) : zCl AL V ST MK (d + 1) m as M = zRn AL V ST MK d q.2.2 0 (g_pack as 0 q.2.1) [] M := by
  show @Option.rec ex_R (fun _ => ex_R) ((@Option.rec (Nat × Nat × (Nat → Option ex_C)) (fun _ => ex_R) none (fun q => (@Bool.rec (fun _ => ex_R) (none) (zRn AL V ST MK d q.2.2 0 (g_pack as 0 q.2.1) [] M) (Nat.ble (ex_rsum as) q.1))) (MK m))) (fun r => r) (AL d m as M) = _
  rw [ha, hm]
  dsimp only
  rw [hr]
end
end
