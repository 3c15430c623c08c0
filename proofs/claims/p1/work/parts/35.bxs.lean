noncomputable section
/-! steps of quicker rows over locals that are known by a list -/
def bx_L (L : Nat) (vs : List Nat) : Prop := ∀ i v, vs[i]? = some v → ex_get L i = v
theorem bx_set {L n v : Nat} {vs : List Nat} (hL : bx_L L vs) (hv : v < 1099511627776) : bx_L (ex_set L n v) (vs.set n v) := by
  intro i w h
  rw [ex_get_set hv]
  rw [List.getElem?_set] at h
  by_cases e : n = i
  · subst e
    rw [if_pos rfl] at h ⊢
    split at h
    · exact Option.some.inj h
    · cases h
  · rw [if_neg e] at h
    rw [if_neg (fun z => e z.symm)]
    exact hL i w h
theorem bx_c2 {v : Nat} (h : v < 34359738369) : ex_c2 v = false := by
  cases hc : ex_c2 v with
  | false => rfl
  | true => have := ex_c2_iff.mp hc; omega
theorem bx_tI {v : Nat} (h : v < 4294967296) : ex_tI v = true := ex_tI_iff.mpr (Or.inl h)
theorem bx_le {a c : Nat} (h : a ≤ c) : Nat.ble a c = true := Nat.ble_eq_true_of_le h
theorem bx_nle {a c : Nat} (h : c < a) : Nat.ble a c = false := by
  cases hc : Nat.ble a c with
  | false => rfl
  | true => exact absurd (Nat.le_of_ble_eq_true hc) (by omega)
theorem bx_ne {a c : Nat} (h : a ≠ c) : Nat.beq a c = false := by
  cases hc : Nat.beq a c with
  | false => rfl
  | true => exact absurd (Nat.eq_of_beq_eq_true hc) h
theorem bx_eq {a c : Nat} (h : a = c) : Nat.beq a c = true := by subst h; exact Nat.beq_refl a
section
variable {V : ex_V} {ST : Nat → Nat} {d : Nat} {call : Nat → List Nat → Nat → ex_R} {ex : Nat → ex_K} {nx : ex_C} {L M : Nat} {S vs : List Nat}
theorem bx_iload {n v : Nat} (hL : bx_L L vs) (h : vs[n]? = some v) (ht : v < 4294967296) : c_iload n nx V ST d call ex L S M = nx V ST d call ex L (v :: S) M := by
  unfold c_iload
  simp only [ex_gtE, hL n v h, bx_tI ht]
theorem bx_aload {n v : Nat} (hL : bx_L L vs) (h : vs[n]? = some v) (ht : ex_tA v = true) : c_aload n nx V ST d call ex L S M = nx V ST d call ex L (v :: S) M := by
  unfold c_aload
  simp only [ex_gtE, hL n v h, ht]
theorem bx_istore {n v w : Nat} (hL : bx_L L vs) (h : vs[n]? = some w) (hw : w < 34359738369) (ht : v < 4294967296) : c_istore (n + 1) nx V ST d call ex L (v :: S) M = nx V ST d call ex (ex_set L (n + 1) v) S M := by
  unfold c_istore
  simp only [ex_gtE, ex_gsE, hL n w h, bx_tI ht, bx_c2 hw, Nat.succ_eq_add_one]
theorem bx_astore {n v w : Nat} (hL : bx_L L vs) (h : vs[n]? = some w) (hw : w < 34359738369) (ht : ex_tA v = true) : c_astore (n + 1) nx V ST d call ex L (v :: S) M = nx V ST d call ex (ex_set L (n + 1) v) S M := by
  unfold c_astore
  simp only [ex_gtE, ex_gsE, hL n w h, ht, bx_c2 hw, Nat.succ_eq_add_one]
theorem bx_iinc {n v w i : Nat} (hL : bx_L L vs) (h : vs[n]? = some w) (hw : w < 34359738369) (h1 : vs[n + 1]? = some v) (ht : v < 4294967296) : c_iinc (n + 1) i nx V ST d call ex L S M = nx V ST d call ex (ex_set L (n + 1) (Nat.mod (Nat.add v i) 4294967296)) S M := by
  unfold c_iinc
  have e : Nat.ble v 4294967295 = true := bx_le (by omega)
  simp only [ex_gtE, ex_gsE, hL n w h, hL _ v h1, e, bx_c2 hw, Nat.succ_eq_add_one]
theorem bx_goto {t : Nat} : c_goto t V ST d call ex L S M = ex t L S M := rfl
theorem bx_icmp_ge {t a c : Nat} (ha : a < 4294967296) (hc : c < 4294967296) (h : ex_bi a < ex_bi c) : c_icmp_ge t nx V ST d call ex L (c :: a :: S) M = nx V ST d call ex L S M := by
  unfold c_icmp_ge
  have e1 : Nat.ble a 4294967295 = true := bx_le (by omega)
  have e2 : Nat.ble c 4294967295 = true := bx_le (by omega)
  simp only [e1, e2, bx_nle h]
theorem bx_icmp_ge_t {t a c : Nat} (ha : a < 4294967296) (hc : c < 4294967296) (h : ex_bi c ≤ ex_bi a) : c_icmp_ge t nx V ST d call ex L (c :: a :: S) M = ex t L S M := by
  unfold c_icmp_ge
  have e1 : Nat.ble a 4294967295 = true := bx_le (by omega)
  have e2 : Nat.ble c 4294967295 = true := bx_le (by omega)
  simp only [e1, e2, bx_le h]
theorem bx_icmp_gt {t a c : Nat} (ha : a < 4294967296) (hc : c < 4294967296) (h : ex_bi a ≤ ex_bi c) : c_icmp_gt t nx V ST d call ex L (c :: a :: S) M = nx V ST d call ex L S M := by
  unfold c_icmp_gt
  have e1 : Nat.ble a 4294967295 = true := bx_le (by omega)
  have e2 : Nat.ble c 4294967295 = true := bx_le (by omega)
  simp only [e1, e2, bx_le h]
theorem bx_icmp_ne_t {t a c : Nat} (ha : a < 4294967296) (hc : c < 4294967296) (h : a ≠ c) : c_icmp_ne t nx V ST d call ex L (c :: a :: S) M = ex t L S M := by
  unfold c_icmp_ne
  have e1 : Nat.ble a 4294967295 = true := bx_le (by omega)
  have e2 : Nat.ble c 4294967295 = true := bx_le (by omega)
  simp only [e1, e2, bx_ne h]
theorem bx_icmp_ne {t a : Nat} (ha : a < 4294967296) : c_icmp_ne t nx V ST d call ex L (a :: a :: S) M = nx V ST d call ex L S M := by
  unfold c_icmp_ne
  have e1 : Nat.ble a 4294967295 = true := bx_le (by omega)
  simp only [e1, Nat.beq_refl]
theorem bx_icmp_eq_t {t a : Nat} (ha : a < 4294967296) : c_icmp_eq t nx V ST d call ex L (a :: a :: S) M = ex t L S M := by
  unfold c_icmp_eq
  have e1 : Nat.ble a 4294967295 = true := bx_le (by omega)
  simp only [e1, Nat.beq_refl]
theorem bx_if_eq_t {t : Nat} : c_if_eq t nx V ST d call ex L (0 :: S) M = ex t L S M := rfl
theorem bx_if_eq1 {t : Nat} : c_if_eq t nx V ST d call ex L (1 :: S) M = nx V ST d call ex L S M := rfl
theorem bx_psh {v : Nat} : c_psh v nx V ST d call ex L S M = nx V ST d call ex L (v :: S) M := rfl
theorem bx_mul0 {s : Nat} (hs : s < 4294967296) : c_imul nx V ST d call ex L (0 :: s :: S) M = nx V ST d call ex L (0 :: S) M := by
  unfold c_imul
  have e1 : Nat.ble s 4294967295 = true := bx_le (by omega)
  have e2 : Nat.ble 0 4294967295 = true := rfl
  have e3 : Nat.mod (Nat.mul s 0) 4294967296 = 0 := rfl
  simp only [e1, e2, e3]
theorem bx_add0 {s : Nat} (hs : s < 4294967296) : c_iadd nx V ST d call ex L (0 :: s :: S) M = nx V ST d call ex L (s :: S) M := by
  unfold c_iadd
  have e1 : Nat.ble s 4294967295 = true := bx_le (by omega)
  have e2 : Nat.ble 0 4294967295 = true := rfl
  have e3 : Nat.mod (Nat.add s 0) 4294967296 = s := Nat.mod_eq_of_lt hs
  simp only [e1, e2, e3]
theorem bx_rem0 {aux : Nat} : c_irem nx V ST d call ex L (2 :: 0 :: S) M = nx V ST d call ex L (0 :: S) M := rfl
theorem bx_div0 {aux : Nat} : c_idiv nx V ST d call ex L (2 :: 0 :: S) M = nx V ST d call ex L (0 :: S) M := rfl
/-- a field of a made cell -/
theorem bx_gf {kd ix w : Nat} (hw : 3 ≤ w) (hw2 : w < 8589934592) (hk : ex_get M w % 256 = kd) : c_gf kd ix nx V ST d call ex L ((8589934592 + w) :: S) M = nx V ST d call ex L (ex_get M (w + (ix + 1)) :: S) M := by
  unfold c_gf
  have e1 : ex_isR (8589934592 + w) = true := ex_isR_iff.mpr (by omega)
  have e2 : ex_hd ST M (8589934592 + w) = ex_get M w := by rw [ex_hdD (by omega), Nat.add_sub_cancel_left]
  have e3 : ex_sl ST M (8589934592 + w) ix = ex_get M (w + (ix + 1)) := by rw [ex_slD (by omega), Nat.add_sub_cancel_left]
  have e4 : Nat.beq (Nat.mod (ex_get M w) 256) kd = true := bx_eq hk
  simp only [g_hdE, g_slE, e1, e2, e3, e4]
/-- a place of a made row of ints -/
theorem bx_iaload {i w v : Nat} (hw : 3 ≤ w) (hw2 : w < 8589934592) (hk : ex_get M w % 256 = 64) (hi : i < ex_get M w / 256) (hv : ex_get M (w + (i + 1)) = v) (ht : v < 4294967296) : c_iaload nx V ST d call ex L (i :: (8589934592 + w) :: S) M = nx V ST d call ex L (v :: S) M := by
  unfold c_iaload
  have e1 : ex_isR (8589934592 + w) = true := ex_isR_iff.mpr (by omega)
  have e2 : ex_hd ST M (8589934592 + w) = ex_get M w := by rw [ex_hdD (by omega), Nat.add_sub_cancel_left]
  have e3 : ex_sl ST M (8589934592 + w) i = v := by rw [ex_slD (by omega), Nat.add_sub_cancel_left, hv]
  have e4 : Nat.beq (Nat.mod (ex_get M w) 256) 64 = true := bx_eq hk
  have e5 : Nat.ble (Nat.succ i) (Nat.div (ex_get M w) 256) = true := bx_le hi
  simp only [g_hdE, g_slE, e1, e2, e3, e4, e5, bx_tI ht]
theorem bx_iastore {i w v : Nat} (hw : 3 ≤ w) (hw2 : w < 8589934592) (hk : ex_get M w % 256 = 64) (hi : i < ex_get M w / 256) (ht : v < 4294967296) : c_iastore nx V ST d call ex L (v :: i :: (8589934592 + w) :: S) M = nx V ST d call ex L S (ex_set M (w + (i + 1)) v) := by
  unfold c_iastore g_ast
  have e1 : ex_isD (8589934592 + w) = true := ex_isD_iff.mpr (by omega)
  have e0 : Nat.sub (8589934592 + w) 8589934592 = w := Nat.add_sub_cancel_left ..
  have e4 : Nat.beq (Nat.mod (ex_get M w) 256) 64 = true := bx_eq hk
  have e5 : Nat.ble (Nat.succ i) (Nat.div (ex_get M w) 256) = true := bx_le hi
  have e6 : Nat.add w (Nat.succ i) = w + (i + 1) := rfl
  simp only [ex_gtE, ex_gsE, e0, e1, e4, e5, e6, bx_tI ht]
theorem bx_ireturn {v : Nat} (ht : v < 4294967296) : c_ireturn 0 V ST d call ex L [v] M = some (v, M) := by
  unfold c_ireturn s_ireturn
  have e : ex_fit V 0 v = true := bx_tI ht
  have e2 : Nat.ble 0 4 = true := rfl
  have e3 : Nat.beq 0 3 = false := rfl
  simp only [bx_tI ht, e, e2, e3]
/-- a new row of ints -/
theorem bx_newarr {n : Nat} (hn : n ≤ 100000) (h0 : 1 ≤ ex_get M 0) (h1 : ex_get M 0 ≤ 200001) (h2 : ex_get M 1 ≤ 1000000) (h3 : ex_get M 2 ≤ 100000000) : c_newarr 64 0 nx V ST d call ex L (n :: S) M = nx V ST d call ex L ((8589934592 + ex_get M 0) :: S) (ex_mk M (ex_blk 64 n 0) n (ex_get M 0)) := by
  unfold c_newarr g_alloc
  have e1 : Nat.ble n 100000 = true := bx_le hn
  simp only [ex_gtE, ex_gsE, e1]
  obtain ⟨t, ht⟩ : ∃ t, ex_get M 0 = t + 1 := ⟨ex_get M 0 - 1, by omega⟩
  rw [ht]
  have e2 : Nat.ble t 200000 = true := bx_le (by omega)
  have e3 : Nat.ble (ex_get M 1) 1000000 = true := bx_le h2
  have e4 : Nat.ble (ex_get M 2) 100000000 = true := bx_le h3
  have e5 : 8589934592 + (t + 1) = Nat.add 8589934593 t := by show _ = 8589934593 + t; omega
  have e6 : ex_mk M (ex_blk 64 n 0) n (t + 1) = ex_set (ex_set (ex_set (Nat.xor M (Nat.shiftLeft (ex_blk 64 n 0) (Nat.mul 40 (Nat.succ t)))) 0 (Nat.add (Nat.succ t) (Nat.succ n))) 1 (Nat.succ (ex_get M 1))) 2 (Nat.add n (ex_get M 2)) := by
      unfold ex_mk
      rw [show t + 1 + 1 + n = Nat.add (Nat.succ t) (Nat.succ n) by show _ = (t + 1) + (n + 1); omega]
      rfl
  simp only [e2, e3, e4, e5, e6]
/-- a call of a virtual method of three arguments, with nothing below them -/
theorem bx_inv3 {hs : ex_H} {bt : ex_CD} {pc mid rk x y w v : Nat} (hx : x < 4294967296) (hy : y < 4294967296) (hw : 3 ≤ w) (hw2 : w < 8589934592) (hk : ex_get M w % 256 = rk) (hc : call mid [8589934592 + w, x, y] M = some (v, M)) (hv : v < 4294967296) : c_invV hs bt pc 3 mid rk nx V ST d call ex L (y :: x :: (8589934592 + w) :: []) M = nx V ST d call ex L (v :: []) M := by
  unfold c_invV
  have t1 : Nat.ble y 1099511627775 = true := bx_le (by omega)
  have t2 : Nat.ble x 1099511627775 = true := bx_le (by omega)
  have t3 : Nat.ble (8589934592 + w) 1099511627775 = true := bx_le (by omega)
  have e0 : ex_take 3 [] (y :: x :: (8589934592 + w) :: []) = some ([8589934592 + w, x, y], []) := by
    show @Bool.rec (fun _ => Option (List Nat × List Nat)) none (@Bool.rec (fun _ => Option (List Nat × List Nat)) none (@Bool.rec (fun _ => Option (List Nat × List Nat)) none (some ([8589934592 + w, x, y], [])) (Nat.ble (8589934592 + w) 1099511627775)) (Nat.ble x 1099511627775)) (Nat.ble y 1099511627775) = _
    rw [t1, t2, t3]
  have e1 : ex_isR (8589934592 + w) = true := ex_isR_iff.mpr (by omega)
  have e2 : ex_hd ST M (8589934592 + w) = ex_get M w := by rw [ex_hdD (by omega), Nat.add_sub_cancel_left]
  have e4 : Nat.beq (Nat.mod (ex_get M w) 256) rk = true := bx_eq hk
  have e5 : Nat.ble (ex_rsum []) 8 = true := rfl
  have e6 : ∀ k, Nat.ble (ex_get M k) (ex_get M k) = true := fun k => bx_le (Nat.le_refl _)
  have e7 : Nat.ble 549755813888 v = false := bx_nle (by omega)
  have e8 : Nat.beq v 137438953473 = false := bx_ne (by omega)
  simp only [e0, ex_gtE, g_hdE, e1, e2, e4, e5, e6, hc, e7, e8]
end
end
