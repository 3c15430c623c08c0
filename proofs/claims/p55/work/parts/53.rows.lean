noncomputable section
/-! rows of the class's instructions over a Callerhall's store -/
/-- the locals that are known -/
def bx_L (L : Nat) (vs : List Nat) : Prop := ∀ i v, vs[i]? = some v → ex_get L i = v
theorem bx_set {L n v : Nat} {vs : List Nat} (hL : bx_L L vs) (hv : v < 1099511627776) : bx_L (ex_set L n v) (vs.set n v) := by
  intro i w h
  rw [ex_get_set hv]
  rw [List.getElem?_set] at h
  by_cases e : n = i
  · subst e
    rw [if_pos rfl] at h ⊢
    split at h
    · exact Option.some.inj h
    · cases h
  · rw [if_neg e] at h
    rw [if_neg (fun z => e z.symm)]
    exact hL i w h
theorem bx_c2 {v : Nat} (h : v < 34359738369) : ex_c2 v = false := by
  cases hc : ex_c2 v with
  | false => rfl
  | true => have := ex_c2_iff.mp hc; omega
theorem bx_tI {v : Nat} (h : v < 4294967296) : ex_tI v = true := ex_tI_iff.mpr (Or.inl h)
theorem bx_le {a c : Nat} (h : a ≤ c) : Nat.ble a c = true := Nat.ble_eq_true_of_le h
theorem bx_nle {a c : Nat} (h : c < a) : Nat.ble a c = false := by
  cases hc : Nat.ble a c with
  | false => rfl
  | true => exact absurd (Nat.le_of_ble_eq_true hc) (by omega)
theorem bx_ne {a c : Nat} (h : a ≠ c) : Nat.beq a c = false := by
  cases hc : Nat.beq a c with
  | false => rfl
  | true => exact absurd (Nat.eq_of_beq_eq_true hc) h
theorem bx_eq {a c : Nat} (h : a = c) : Nat.beq a c = true := by subst h; exact Nat.beq_refl a
theorem enc_le (x : Int) : Nat.ble (enc x) 4294967295 = true := bx_le (by have := enc_lt x; omega)
theorem enc_tI (x : Int) : ex_tI (enc x) = true := bx_tI (enc_lt x)
theorem enc_isI (x : Int) : ex_isI (enc x) = true := enc_le x
theorem enc_l (x : Int) : enc x < 34359738369 := Nat.lt_trans (enc_lt x) (by decide)
theorem enc_c2 (x : Int) : ex_c2 (enc x) = false := bx_c2 (enc_l x)
theorem zf_l {b n : Nat} {f : Nat → Nat} (h : zOk b n f) (q : Nat) : zf b q < 34359738369 := by have := zf_bd h q; omega
theorem zf_tA {b n : Nat} {f : Nat → Nat} (h : zOk b n f) (q : Nat) : ex_tA (zf b q) = true := ex_tA_iff.mpr (by have := zf_bd h q; omega)
theorem zf_isR {b n : Nat} {f : Nat → Nat} (h : zOk b n f) (q : Nat) : ex_isR (zf b q) = true := ex_isR_iff.mpr (by have := zf_bd h q; omega)
theorem zf_isD {b n : Nat} {f : Nat → Nat} (h : zOk b n f) (q : Nat) : ex_isD (zf b q) = true := ex_isD_iff.mpr (by have := zf_bd h q; omega)
theorem zf_c2 {b n : Nat} {f : Nat → Nat} (h : zOk b n f) (q : Nat) : ex_c2 (zf b q) = false := bx_c2 (zf_l h q)
theorem zf_sub (b q : Nat) : Nat.sub (zf b q) 8589934592 = b + zO q := Nat.add_sub_cancel_left ..
theorem zf_hd {b n : Nat} {f : Nat → Nat} {g : Nat → Int → Int} (h : zOk b n f) (ST : Nat → Nat) {q : Nat} (hw : zH q < 1073741824) : ex_hd ST (zM n (zWf b f g)) (zf b q) = zH q := by
  rw [ex_hdD (by have := zf_bd h q; omega)]
  rw [show zf b q - 8589934592 = b + zO q from zf_sub b q, zget h (zO_lt q)]
  show zdc b g (zH q) = _
  unfold zdc
  rw [if_pos hw]
theorem zf_sl {b n : Nat} {f : Nat → Nat} {g : Nat → Int → Int} (h : zOk b n f) (ST : Nat → Nat) {q k : Nat} (hk : zO q + (k + 1) < 3418) : ex_sl ST (zM n (zWf b f g)) (zf b q) k = zdc b g (zS q k) := by
  rw [ex_slD (by have := zf_bd h q; omega), show zf b q - 8589934592 = b + zO q from zf_sub b q, Nat.add_assoc, zget h hk]
  rfl
theorem zH_lt : ∀ q, q < 240 → zH q < 1073741824 := by decide +kernel
theorem zdc_i {b : Nat} {g : Nat → Int → Int} {q k e : Nat} (hq : q < 240) (hk : k < 256) (h : e = 2147483648 + q * 256 + k) : zdc b g e = enc (g q k) := by
  subst h
  unfold zdc
  rw [if_neg (by omega), if_neg (by omega), if_pos (by omega), show (2147483648 + q * 256 + k - 2147483648) / 256 = q by omega, show (2147483648 + q * 256 + k - 2147483648) % 256 = k by omega]
theorem zdc_r {b : Nat} {g : Nat → Int → Int} {q' e : Nat} (h : e = 1073741824 + zO q') : zdc b g e = zf b q' := by
  subst h
  have := zO_lt q'
  unfold zdc zf
  rw [if_neg (by omega), if_pos (by omega), Nat.add_sub_cancel_left]
section
variable {V : ex_V} {ST : Nat → Nat} {d : Nat} {ca : Nat → List Nat → Nat → ex_R} {j : Nat → ex_K} {nx : ex_C} {L M : Nat} {S T vs : List Nat} {b n : Nat} {f : Nat → Nat} {g : Nat → Int → Int}
theorem zr_iload {k v : Nat} (hL : bx_L L vs) (h : vs[k]? = some v) (ht : v < 4294967296) : c_iload k nx V ST d ca j L S M = nx V ST d ca j L (v :: S) M := by
  unfold c_iload
  simp only [ex_gtE, hL k v h, bx_tI ht]
theorem zr_aload {k v : Nat} (hL : bx_L L vs) (h : vs[k]? = some v) (ht : ex_tA v = true) : c_aload k nx V ST d ca j L S M = nx V ST d ca j L (v :: S) M := by
  unfold c_aload
  simp only [ex_gtE, hL k v h, ht]
theorem zr_istore {k v w : Nat} (hL : bx_L L vs) (h : vs[k]? = some w) (hw : ex_c2 w = false) (ht : v < 4294967296) : c_istore (k + 1) nx V ST d ca j L (v :: S) M = nx V ST d ca j (ex_set L (k + 1) v) S M := by
  unfold c_istore
  simp only [ex_gtE, ex_gsE, hL k w h, bx_tI ht, hw, Nat.succ_eq_add_one]
theorem zr_astore {k v w : Nat} (hL : bx_L L vs) (h : vs[k]? = some w) (hw : ex_c2 w = false) (ht : ex_tA v = true) : c_astore (k + 1) nx V ST d ca j L (v :: S) M = nx V ST d ca j (ex_set L (k + 1) v) S M := by
  unfold c_astore
  simp only [ex_gtE, ex_gsE, hL k w h, ht, hw, Nat.succ_eq_add_one]
theorem zr_iinc {k w i : Nat} {x i' : Int} (hL : bx_L L vs) (h : vs[k]? = some w) (hw : ex_c2 w = false) (h1 : vs[k + 1]? = some (enc x)) (hi : i = enc i') : c_iinc (k + 1) i nx V ST d ca j L S M = nx V ST d ca j (ex_set L (k + 1) (enc (x + i'))) S M := by
  subst hi
  unfold c_iinc
  simp only [ex_gtE, ex_gsE, hL k w h, hL _ _ h1, enc_le, hw, Nat.succ_eq_add_one, enc_add]
theorem zr_psh {v : Nat} : c_psh v nx V ST d ca j L S M = nx V ST d ca j L (v :: S) M := rfl
theorem zr_pshi {v : Nat} (x : Int) (h : v = enc x) : c_psh v nx V ST d ca j L S M = nx V ST d ca j L (enc x :: S) M := by subst h; rfl
theorem zr_goto {t : Nat} : c_goto t V ST d ca j L S M = j t L S M := rfl
theorem zr_iadd {x y : Int} : c_iadd nx V ST d ca j L (enc y :: enc x :: S) M = nx V ST d ca j L (enc (x + y) :: S) M := by
  unfold c_iadd
  simp only [enc_le, enc_add]
theorem zr_isub {x y : Int} : c_isub nx V ST d ca j L (enc y :: enc x :: S) M = nx V ST d ca j L (enc (x - y) :: S) M := by
  unfold c_isub
  simp only [enc_le, enc_sub]
theorem zr_imul {x y : Int} : c_imul nx V ST d ca j L (enc y :: enc x :: S) M = nx V ST d ca j L (enc (x * y) :: S) M := by
  unfold c_imul
  simp only [enc_le, enc_mul]
theorem zr_and3 {x : Int} : c_iand nx V ST d ca j L (3 :: enc x :: S) M = nx V ST d ca j L (enc (x % 4) :: S) M := by
  unfold c_iand
  have e : Nat.ble 3 4294967295 = true := rfl
  simp only [enc_le, e, enc_and3]
theorem zr_and7 {x : Int} : c_iand nx V ST d ca j L (7 :: enc x :: S) M = nx V ST d ca j L (enc (x % 8) :: S) M := by
  unfold c_iand
  have e : Nat.ble 7 4294967295 = true := rfl
  simp only [enc_le, e, enc_and7]
theorem zr_div2 {x : Int} (h : zR x) : c_idiv nx V ST d ca j L (2 :: enc x :: S) M = nx V ST d ca j L (enc (x.tdiv 2) :: S) M := by
  unfold c_idiv s_idiv ex_bin2
  have e : Nat.ble 2 4294967295 = true := rfl
  have e2 : Nat.beq 2 0 = false := rfl
  simp only [enc_le, e, e2, enc_div2 h]
theorem zr_ineg {x : Int} : c_ineg nx V ST d ca j L (enc x :: S) M = nx V ST d ca j L (enc (-x) :: S) M := by
  unfold c_ineg s_ineg ex_un2
  simp only [enc_le, enc_neg]
theorem enc_ble {x y : Int} (hx : zR x) (hy : zR y) (h : x ≤ y) : Nat.ble (ex_bi (enc x)) (ex_bi (enc y)) = true := by
  rw [enc_bi hx, enc_bi hy]; exact bx_le (by omega)
theorem enc_nble {x y : Int} (hx : zR x) (hy : zR y) (h : y < x) : Nat.ble (ex_bi (enc x)) (ex_bi (enc y)) = false := by
  rw [enc_bi hx, enc_bi hy]; unfold zR at hx hy; exact bx_nle (by omega)
theorem enc_beq {x y : Int} (h : x = y) : Nat.beq (enc x) (enc y) = true := bx_eq (by rw [h])
theorem enc_nbeq {x y : Int} (hx : zR x) (hy : zR y) (h : x ≠ y) : Nat.beq (enc x) (enc y) = false := bx_ne (fun e => h (enc_inj hx hy e))
