noncomputable section
/-! rows of the class's instructions over a Callerhall's store -/
/-- locals: a word each -/
def zP : List Nat → Nat := fun l => @List.rec Nat (fun _ => Nat) 0 (fun a _ ih => a % 1099511627776 + 1099511627776 * ih) l
theorem zP_cons (a : Nat) (t : List Nat) : zP (a :: t) = a % 1099511627776 + 1099511627776 * zP t := rfl
theorem zP_lt : ∀ vs : List Nat, zP vs < 2 ^ (40 * vs.length) := by
  intro vs
  induction vs with
  | nil => exact Nat.one_pos
  | cons a t ih =>
    rw [zP_cons, List.length_cons, show 40 * (t.length + 1) = 40 + 40 * t.length by omega, Nat.pow_add]
    have ha : a % 1099511627776 < 1099511627776 := Nat.mod_lt _ (by decide)
    have h2 : 1099511627776 * (zP t + 1) ≤ 1099511627776 * 2 ^ (40 * t.length) := Nat.mul_le_mul_left _ ih
    show _ < 1099511627776 * 2 ^ (40 * t.length)
    omega
theorem zP_get : ∀ (vs : List Nat) (k v : Nat), vs[k]? = some v → v < 1099511627776 → ex_get (zP vs) k = v := by
  intro vs
  induction vs with
  | nil => intro k v h; cases h
  | cons a t ih =>
    intro k v h hv
    rw [zP_cons, ex_get_low (Nat.mod_lt _ (by decide))]
    cases k with
    | zero =>
      have h : some a = some v := h
      rw [if_pos rfl, Option.some.inj h, Nat.mod_eq_of_lt hv]
    | succ k =>
      rw [if_neg (by omega)]
      exact ih k v h hv
theorem zP_getm : ∀ (vs : List Nat) (k v : Nat), vs[k]? = some v → ex_get (zP vs) k = v % 1099511627776 := by
  intro vs
  induction vs with
  | nil => intro k v h; cases h
  | cons a t ih =>
    intro k v h
    rw [zP_cons, ex_get_low (Nat.mod_lt _ (by decide))]
    cases k with
    | zero =>
      have h : some a = some v := h
      rw [if_pos rfl, Option.some.inj h]
    | succ k =>
      rw [if_neg (by omega)]
      exact ih k v h
theorem zP_set {vs : List Nat} {k v : Nat} (hk : k < vs.length) (hv : v < 1099511627776) : ex_set (zP vs) k v = zP (vs.set k v) := by
  refine ex_ext (n := vs.length) (ex_set_lt (zP_lt vs) hk hv) (by have := zP_lt (vs.set k v); rwa [List.length_set] at this) fun i hi => ?_
  rw [ex_get_set hv]
  by_cases e : i = k
  · subst e
    rw [if_pos rfl, zP_get _ i v (by rw [List.getElem?_set_self hk]) hv]
  · rw [if_neg e, zP_getm vs i vs[i] (List.getElem?_eq_getElem hi), zP_getm (vs.set k v) i vs[i] (by rw [List.getElem?_set_ne (fun z => e z.symm)]; exact List.getElem?_eq_getElem hi)]
theorem bx_c2 {v : Nat} (h : v < 34359738369) : ex_c2 v = false := by
  cases hc : ex_c2 v with
  | false => rfl
  | true => have := ex_c2_iff.mp hc; omega
theorem bx_tI {v : Nat} (h : v < 4294967296) : ex_tI v = true := ex_tI_iff.mpr (Or.inl h)
theorem bx_le {a c : Nat} (h : a ≤ c) : Nat.ble a c = true := Nat.ble_eq_true_of_le h
theorem bx_nle {a c : Nat} (h : c < a) : Nat.ble a c = false := by
  cases hc : Nat.ble a c with
  | false => rfl
  | true => exact absurd (Nat.le_of_ble_eq_true hc) (by omega)
theorem bx_ne {a c : Nat} (h : a ≠ c) : Nat.beq a c = false := by
  cases hc : Nat.beq a c with
  | false => rfl
  | true => exact absurd (Nat.eq_of_beq_eq_true hc) h
theorem bx_eq {a c : Nat} (h : a = c) : Nat.beq a c = true := by subst h; exact Nat.beq_refl a
theorem enc_le (x : Int) : Nat.ble (enc x) 4294967295 = true := bx_le (by have := enc_lt x; omega)
theorem enc_tI (x : Int) : ex_tI (enc x) = true := bx_tI (enc_lt x)
theorem enc_isI (x : Int) : ex_isI (enc x) = true := enc_le x
theorem enc_l (x : Int) : enc x < 34359738369 := Nat.lt_trans (enc_lt x) (by decide)
theorem enc_c2 (x : Int) : ex_c2 (enc x) = false := bx_c2 (enc_l x)
theorem zf_l {b n : Nat} {f : Nat → Nat} (h : zOk b n f) (q : Nat) : zf b q < 34359738369 := by have := zf_bd h q; omega
theorem zf_tA {b n : Nat} {f : Nat → Nat} (h : zOk b n f) (q : Nat) : ex_tA (zf b q) = true := ex_tA_iff.mpr (by have := zf_bd h q; omega)
theorem zf_isR {b n : Nat} {f : Nat → Nat} (h : zOk b n f) (q : Nat) : ex_isR (zf b q) = true := ex_isR_iff.mpr (by have := zf_bd h q; omega)
theorem zf_isD {b n : Nat} {f : Nat → Nat} (h : zOk b n f) (q : Nat) : ex_isD (zf b q) = true := ex_isD_iff.mpr (by have := zf_bd h q; omega)
theorem zf_c2 {b n : Nat} {f : Nat → Nat} (h : zOk b n f) (q : Nat) : ex_c2 (zf b q) = false := bx_c2 (zf_l h q)
theorem zf_sub (b q : Nat) : Nat.sub (zf b q) 8589934592 = b + zO q := Nat.add_sub_cancel_left ..
theorem zf_hd {b n : Nat} {f : Nat → Nat} {g : Nat → Int → Int} (h : zOk b n f) (ST : Nat → Nat) {q : Nat} (hw : zH q < 1073741824) : ex_hd ST (zM n (zWf b f g)) (zf b q) = zH q := by
  rw [ex_hdD (by have := zf_bd h q; omega)]
  rw [show zf b q - 8589934592 = b + zO q from zf_sub b q, zget h (zO_lt q)]
  show zdc b g (zH q) = _
  unfold zdc
  rw [if_pos hw]
theorem zf_sl {b n : Nat} {f : Nat → Nat} {g : Nat → Int → Int} (h : zOk b n f) (ST : Nat → Nat) {q k : Nat} (hk : zO q + (k + 1) < 3418) : ex_sl ST (zM n (zWf b f g)) (zf b q) k = zdc b g (zS q k) := by
  rw [ex_slD (by have := zf_bd h q; omega), show zf b q - 8589934592 = b + zO q from zf_sub b q, Nat.add_assoc, zget h hk]
  rfl
theorem zH_lt : ∀ q, q < 240 → zH q < 1073741824 := by decide +kernel
theorem zdc_i {b : Nat} {g : Nat → Int → Int} {q k e : Nat} (hq : q < 240) (hk : k < 256) (h : e = 2147483648 + q * 256 + k) : zdc b g e = enc (g q k) := by
  subst h
  unfold zdc
  rw [if_neg (by omega), if_neg (by omega), if_pos (by omega), show (2147483648 + q * 256 + k - 2147483648) / 256 = q by omega, show (2147483648 + q * 256 + k - 2147483648) % 256 = k by omega]
theorem zdc_r {b : Nat} {g : Nat → Int → Int} {q' e : Nat} (h : e = 1073741824 + zO q') : zdc b g e = zf b q' := by
  subst h
  have := zO_lt q'
  unfold zdc zf
  rw [if_neg (by omega), if_pos (by omega), Nat.add_sub_cancel_left]
section
variable {V : ex_V} {ST : Nat → Nat} {d : Nat} {ca : Nat → List Nat → Nat → ex_R} {j : Nat → ex_K} {nx : ex_C} {L M : Nat} {S T vs : List Nat} {b n : Nat} {f : Nat → Nat} {g : Nat → Int → Int}
theorem zr_iload {k v : Nat} (h : vs[k]? = some v) (ht : v < 4294967296) : c_iload k nx V ST d ca j (zP vs) S M = nx V ST d ca j (zP vs) (v :: S) M := by
  unfold c_iload
  simp only [ex_gtE, zP_get vs k v h (Nat.lt_trans ht (by decide)), bx_tI ht]
theorem zr_aload {k v : Nat} (h : vs[k]? = some v) (ht : ex_tA v = true) : c_aload k nx V ST d ca j (zP vs) S M = nx V ST d ca j (zP vs) (v :: S) M := by
  unfold c_aload
  simp only [ex_gtE, zP_get vs k v h (ex_A_lt ht), ht]
theorem zr_istore {k v w : Nat} {vs' : List Nat} (h : vs[k]? = some w) (hw : ex_c2 w = false) (hw2 : w < 1099511627776) (hk : k + 1 < vs.length) (hs : vs.set (k + 1) v = vs') (ht : v < 4294967296) : c_istore (k + 1) nx V ST d ca j (zP vs) (v :: S) M = nx V ST d ca j (zP vs') S M := by
  unfold c_istore
  subst hs
  have hv : v < 1099511627776 := Nat.lt_trans ht (by decide)
  simp only [ex_gtE, ex_gsE, zP_get vs k w h hw2, bx_tI ht, hw, Nat.succ_eq_add_one, zP_set hk hv]
theorem zr_astore {k v w : Nat} {vs' : List Nat} (h : vs[k]? = some w) (hw : ex_c2 w = false) (hw2 : w < 1099511627776) (hk : k + 1 < vs.length) (hs : vs.set (k + 1) v = vs') (ht : ex_tA v = true) : c_astore (k + 1) nx V ST d ca j (zP vs) (v :: S) M = nx V ST d ca j (zP vs') S M := by
  unfold c_astore
  subst hs
  have hv : v < 1099511627776 := ex_A_lt ht
  simp only [ex_gtE, ex_gsE, zP_get vs k w h hw2, ht, hw, Nat.succ_eq_add_one, zP_set hk hv]
theorem zr_iinc {k w i : Nat} {x i' : Int} {vs' : List Nat} (h : vs[k]? = some w) (hw : ex_c2 w = false) (hw2 : w < 1099511627776) (h1 : vs[k + 1]? = some (enc x)) (hi : i = enc i') (hk : k + 1 < vs.length) (hs : vs.set (k + 1) (enc (nz (x + i'))) = vs') : c_iinc (k + 1) i nx V ST d ca j (zP vs) S M = nx V ST d ca j (zP vs') S M := by
  subst hi hs
  unfold c_iinc
  have hv : enc (x + i') < 1099511627776 := Nat.lt_trans (enc_lt _) (by decide)
  simp only [ex_gtE, ex_gsE, zP_get vs k w h hw2, zP_get vs _ _ h1 (Nat.lt_trans (enc_lt _) (by decide)), enc_le, hw, Nat.succ_eq_add_one, enc_add, zP_set hk hv, enc_nz]
theorem zr_psh {v : Nat} : c_psh v nx V ST d ca j L S M = nx V ST d ca j L (v :: S) M := rfl
theorem zr_pshi {v : Nat} (x : Int) (h : v = enc x) : c_psh v nx V ST d ca j L S M = nx V ST d ca j L (enc x :: S) M := by subst h; rfl
theorem zr_goto {t : Nat} : c_goto t V ST d ca j L S M = j t L S M := rfl
theorem zr_iadd {x y : Int} : c_iadd nx V ST d ca j L (enc y :: enc x :: S) M = nx V ST d ca j L (enc (nz (x + y)) :: S) M := by
  rw [enc_nz]
  unfold c_iadd
  simp only [enc_le, enc_add]
theorem zr_isub {x y : Int} : c_isub nx V ST d ca j L (enc y :: enc x :: S) M = nx V ST d ca j L (enc (nz (x - y)) :: S) M := by
  rw [enc_nz]
  unfold c_isub
  simp only [enc_le, enc_sub]
theorem zr_imul {x y : Int} : c_imul nx V ST d ca j L (enc y :: enc x :: S) M = nx V ST d ca j L (enc (nz (x * y)) :: S) M := by
  rw [enc_nz]
  unfold c_imul
  simp only [enc_le, enc_mul]
def zand (x y : Int) : Int := nz ((Nat.land (enc x) (enc y) : Nat) : Int)
def zor (x y : Int) : Int := nz ((Nat.lor (enc x) (enc y) : Nat) : Int)
def zshl (x y : Int) : Int := nz ((Nat.mod (Nat.shiftLeft (enc x) (enc y)) 4294967296 : Nat) : Int)
theorem enc_nat {a : Nat} (h : a < 4294967296) : enc (nz (a : Int)) = a := by rw [enc_nz]; unfold enc; omega
theorem zr_iand {x y : Int} : c_iand nx V ST d ca j L (enc y :: enc x :: S) M = nx V ST d ca j L (enc (zand x y) :: S) M := by
  unfold c_iand zand
  have h : Nat.land (enc x) (enc y) < 4294967296 := Nat.lt_of_le_of_lt (Nat.and_le_left (n := enc x) (m := enc y)) (enc_lt x)
  rw [enc_nat h]
  simp only [enc_le]
theorem zr_ior {x y : Int} : c_ior nx V ST d ca j L (enc y :: enc x :: S) M = nx V ST d ca j L (enc (zor x y) :: S) M := by
  unfold c_ior s_ior ex_bin2 zor
  have h : Nat.lor (enc x) (enc y) < 4294967296 := Nat.or_lt_two_pow (n := 32) (enc_lt x) (enc_lt y)
  rw [enc_nat h]
  simp only [enc_le]
theorem zr_ishl {x y : Int} (hy : 0 ≤ y ∧ y < 32) : c_ishl nx V ST d ca j L (enc y :: enc x :: S) M = nx V ST d ca j L (enc (zshl x y) :: S) M := by
  unfold c_ishl s_ishl ex_bn zshl
  have h : Nat.mod (Nat.shiftLeft (enc x) (enc y)) 4294967296 < 4294967296 := Nat.mod_lt _ (by decide)
  have e : Nat.ble (enc y) 31 = true := bx_le (by unfold enc; omega)
  rw [enc_nat h]
  simp only [enc_le, e]
theorem zr_i2c {x : Int} : c_i2c nx V ST d ca j L (enc x :: S) M = nx V ST d ca j L (enc (nz (x % 65536)) :: S) M := by
  unfold c_i2c s_i2c ex_un2
  have h : Nat.mod (enc x) 65536 = enc (nz (x % 65536)) := by
    rw [enc_nz]
    show enc x % 65536 = _
    unfold enc; omega
  simp only [enc_le, h]
theorem zr_dup {v : Nat} (h : ex_c2 v = false) : c_dup nx V ST d ca j L (v :: S) M = nx V ST d ca j L (v :: v :: S) M := by
  unfold c_dup s_dup
  simp only [h]
theorem zr_dup2 {v w : Nat} (h : ex_c2 v = false) (h2 : ex_c2 w = false) : c_dup2 nx V ST d ca j L (v :: w :: S) M = nx V ST d ca j L (v :: w :: v :: w :: S) M := by
  unfold c_dup2 s_dup2
  simp only [h, h2]
theorem zr_pop {v : Nat} (h : ex_c2 v = false) : c_pop nx V ST d ca j L (v :: S) M = nx V ST d ca j L S M := by
  unfold c_pop s_pop
  simp only [h]
theorem enc_of {a : Nat} (ha : a < 4294967296) : enc (nI a).toInt = a := by
  have h := ex_ti ha
  unfold enc
  rw [h]
  split <;> omega
theorem nI_enc (x : Int) : (nI (enc x)).toInt = nz x := by
  rw [ex_ti (enc_lt x)]
  unfold enc nz
  split <;> omega
theorem enc_bmod (x : Int) : enc (x.bmod (2 ^ 32)) = enc x := by
  have h : (x.bmod (2 ^ 32)) % 4294967296 = x % 4294967296 := by
    have := Int.bmod_emod (x := x) (m := 2 ^ 32)
    exact this
  unfold enc
  rw [h]
theorem enc_div {x y : Int} (hx : zR x) (hy : zR y) (h0 : y ≠ 0) : ex_div (enc x) (enc y) = enc (x.tdiv y) := by
  have hn : enc y ≠ 0 := fun e => h0 (enc_inj hy (by unfold zR; omega) e)
  obtain ⟨h1, h2⟩ := ex_divE (enc_lt x) (enc_lt y) hn
  rw [← enc_of h2, h1, Int32.toInt_div, nI_enc, nI_enc, nz_id hx, nz_id hy]
  exact enc_bmod _
theorem enc_rem {x y : Int} (hx : zR x) (hy : zR y) (h0 : y ≠ 0) : ex_rem (enc x) (enc y) = enc (x.tmod y) := by
  have hn : enc y ≠ 0 := fun e => h0 (enc_inj hy (by unfold zR; omega) e)
  obtain ⟨h1, h2⟩ := ex_remE (enc_lt x) (enc_lt y) hn
  rw [← enc_of h2, h1, Int32.toInt_sub, Int32.toInt_mul, Int32.toInt_div, nI_enc, nI_enc, nz_id hx, nz_id hy]
  have e : x.tmod y = x - x.tdiv y * y := by have := Int.mul_tdiv_add_tmod x y; rw [Int.mul_comm] at this; omega
  rw [e]
  show enc (_ : Int) = _
  sorry
theorem zr_div {x y : Int} (hx : zR x) (hy : zR y) (h0 : y ≠ 0) : c_idiv nx V ST d ca j L (enc y :: enc x :: S) M = nx V ST d ca j L (enc (nz (x.tdiv y)) :: S) M := by
  rw [enc_nz]
  unfold c_idiv s_idiv ex_bin2
  have e2 : Nat.beq (enc y) 0 = false := bx_ne (fun e => h0 (enc_inj hy (by unfold zR; omega) e))
  simp only [enc_le, e2, enc_div hx hy h0]
theorem zr_rem {x y : Int} (hx : zR x) (hy : zR y) (h0 : y ≠ 0) : c_irem nx V ST d ca j L (enc y :: enc x :: S) M = nx V ST d ca j L (enc (nz (x.tmod y)) :: S) M := by
  rw [enc_nz]
  unfold c_irem s_irem ex_bin2
  have e2 : Nat.beq (enc y) 0 = false := bx_ne (fun e => h0 (enc_inj hy (by unfold zR; omega) e))
  simp only [enc_le, e2, enc_rem hx hy h0]
theorem zr_ineg {x : Int} : c_ineg nx V ST d ca j L (enc x :: S) M = nx V ST d ca j L (enc (nz (-x)) :: S) M := by
  rw [enc_nz]
  unfold c_ineg s_ineg ex_un2
  simp only [enc_le, enc_neg]
theorem enc_ble {x y : Int} (hx : zR x) (hy : zR y) (h : x ≤ y) : Nat.ble (ex_bi (enc x)) (ex_bi (enc y)) = true := by
  rw [enc_bi hx, enc_bi hy]; exact bx_le (by omega)
theorem enc_nble {x y : Int} (hx : zR x) (hy : zR y) (h : y < x) : Nat.ble (ex_bi (enc x)) (ex_bi (enc y)) = false := by
  rw [enc_bi hx, enc_bi hy]; unfold zR at hx hy; exact bx_nle (by omega)
theorem enc_beq {x y : Int} (h : x = y) : Nat.beq (enc x) (enc y) = true := bx_eq (by rw [h])
theorem enc_nbeq {x y : Int} (hx : zR x) (hy : zR y) (h : x ≠ y) : Nat.beq (enc x) (enc y) = false := bx_ne (fun e => h (enc_inj hx hy e))
/-! branches -/
theorem zr_icmp_eq_t {t : Nat} {x y : Int} (hx : zR x) (hy : zR y) (h : x = y) : c_icmp_eq t nx V ST d ca j L (enc y :: enc x :: S) M = j t L S M := by
  unfold c_icmp_eq
  simp only [enc_le, enc_beq h]
theorem zr_icmp_eq_n {t : Nat} {x y : Int} (hx : zR x) (hy : zR y) (h : x ≠ y) : c_icmp_eq t nx V ST d ca j L (enc y :: enc x :: S) M = nx V ST d ca j L S M := by
  unfold c_icmp_eq
  simp only [enc_le, enc_nbeq hx hy h]
theorem zr_icmp_ne_t {t : Nat} {x y : Int} (hx : zR x) (hy : zR y) (h : x ≠ y) : c_icmp_ne t nx V ST d ca j L (enc y :: enc x :: S) M = j t L S M := by
  unfold c_icmp_ne
  simp only [enc_le, enc_nbeq hx hy h]
theorem zr_icmp_ne_n {t : Nat} {x y : Int} (hx : zR x) (hy : zR y) (h : x = y) : c_icmp_ne t nx V ST d ca j L (enc y :: enc x :: S) M = nx V ST d ca j L S M := by
  unfold c_icmp_ne
  simp only [enc_le, enc_beq h]
theorem zr_icmp_lt_t {t : Nat} {x y : Int} (hx : zR x) (hy : zR y) (h : x < y) : c_icmp_lt t nx V ST d ca j L (enc y :: enc x :: S) M = j t L S M := by
  unfold c_icmp_lt
  simp only [enc_le, enc_nble hy hx h]
theorem zr_icmp_lt_n {t : Nat} {x y : Int} (hx : zR x) (hy : zR y) (h : y ≤ x) : c_icmp_lt t nx V ST d ca j L (enc y :: enc x :: S) M = nx V ST d ca j L S M := by
  unfold c_icmp_lt
  simp only [enc_le, enc_ble hy hx h]
theorem zr_icmp_ge_t {t : Nat} {x y : Int} (hx : zR x) (hy : zR y) (h : y ≤ x) : c_icmp_ge t nx V ST d ca j L (enc y :: enc x :: S) M = j t L S M := by
  unfold c_icmp_ge
  simp only [enc_le, enc_ble hy hx h]
theorem zr_icmp_ge_n {t : Nat} {x y : Int} (hx : zR x) (hy : zR y) (h : x < y) : c_icmp_ge t nx V ST d ca j L (enc y :: enc x :: S) M = nx V ST d ca j L S M := by
  unfold c_icmp_ge
  simp only [enc_le, enc_nble hy hx h]
theorem zr_icmp_gt_t {t : Nat} {x y : Int} (hx : zR x) (hy : zR y) (h : y < x) : c_icmp_gt t nx V ST d ca j L (enc y :: enc x :: S) M = j t L S M := by
  unfold c_icmp_gt
  simp only [enc_le, enc_nble hx hy h]
theorem zr_icmp_gt_n {t : Nat} {x y : Int} (hx : zR x) (hy : zR y) (h : x ≤ y) : c_icmp_gt t nx V ST d ca j L (enc y :: enc x :: S) M = nx V ST d ca j L S M := by
  unfold c_icmp_gt
  simp only [enc_le, enc_ble hx hy h]
theorem zr_icmp_le_t {t : Nat} {x y : Int} (hx : zR x) (hy : zR y) (h : x ≤ y) : c_icmp_le t nx V ST d ca j L (enc y :: enc x :: S) M = j t L S M := by
  unfold c_icmp_le
  simp only [enc_le, enc_ble hx hy h]
theorem zr_icmp_le_n {t : Nat} {x y : Int} (hx : zR x) (hy : zR y) (h : y < x) : c_icmp_le t nx V ST d ca j L (enc y :: enc x :: S) M = nx V ST d ca j L S M := by
  unfold c_icmp_le
  simp only [enc_le, enc_nble hx hy h]
theorem enc_0 : enc 0 = 0 := rfl
theorem enc_1 : enc 1 = 1 := rfl
theorem zR_0 : zR 0 := by unfold zR; omega
theorem enc_b0 : ex_bi (enc 0) = 2147483648 := enc_bi zR_0
theorem enc_beq0 {x : Int} (h : x = 0) : Nat.beq (enc x) 0 = true := enc_beq (y := 0) h
theorem enc_nbeq0 {x : Int} (hx : zR x) (h : x ≠ 0) : Nat.beq (enc x) 0 = false := enc_nbeq (y := 0) hx zR_0 h
theorem enc_0ble {x : Int} (hx : zR x) (h : 0 ≤ x) : Nat.ble 2147483648 (ex_bi (enc x)) = true := by have := enc_ble zR_0 hx h; rwa [enc_b0] at this
theorem enc_0nble {x : Int} (hx : zR x) (h : x < 0) : Nat.ble 2147483648 (ex_bi (enc x)) = false := by have := enc_nble zR_0 hx h; rwa [enc_b0] at this
theorem enc_ble0 {x : Int} (hx : zR x) (h : x ≤ 0) : Nat.ble (ex_bi (enc x)) 2147483648 = true := by have := enc_ble hx zR_0 h; rwa [enc_b0] at this
theorem enc_nble0 {x : Int} (hx : zR x) (h : 0 < x) : Nat.ble (ex_bi (enc x)) 2147483648 = false := by have := enc_nble hx zR_0 h; rwa [enc_b0] at this
theorem zr_if_eq_t {t : Nat} {x : Int} (hx : zR x) (h : x = 0) : c_if_eq t nx V ST d ca j L (enc x :: S) M = j t L S M := by
  unfold c_if_eq
  simp only [enc_le, enc_beq0 h]
theorem zr_if_eq_n {t : Nat} {x : Int} (hx : zR x) (h : x ≠ 0) : c_if_eq t nx V ST d ca j L (enc x :: S) M = nx V ST d ca j L S M := by
  unfold c_if_eq
  simp only [enc_le, enc_nbeq0 hx h]
theorem zr_if_ne_t {t : Nat} {x : Int} (hx : zR x) (h : x ≠ 0) : c_if_ne t nx V ST d ca j L (enc x :: S) M = j t L S M := by
  unfold c_if_ne
  simp only [enc_le, enc_nbeq0 hx h]
theorem zr_if_ne_n {t : Nat} {x : Int} (hx : zR x) (h : x = 0) : c_if_ne t nx V ST d ca j L (enc x :: S) M = nx V ST d ca j L S M := by
  unfold c_if_ne
  simp only [enc_le, enc_beq0 h]
theorem zr_if_lt_t {t : Nat} {x : Int} (hx : zR x) (h : x < 0) : c_if_lt t nx V ST d ca j L (enc x :: S) M = j t L S M := by
  unfold c_if_lt
  simp only [enc_le, enc_0nble hx h]
theorem zr_if_lt_n {t : Nat} {x : Int} (hx : zR x) (h : 0 ≤ x) : c_if_lt t nx V ST d ca j L (enc x :: S) M = nx V ST d ca j L S M := by
  unfold c_if_lt
  simp only [enc_le, enc_0ble hx h]
theorem zr_if_ge_t {t : Nat} {x : Int} (hx : zR x) (h : 0 ≤ x) : c_if_ge t nx V ST d ca j L (enc x :: S) M = j t L S M := by
  unfold c_if_ge
  simp only [enc_le, enc_0ble hx h]
theorem zr_if_ge_n {t : Nat} {x : Int} (hx : zR x) (h : x < 0) : c_if_ge t nx V ST d ca j L (enc x :: S) M = nx V ST d ca j L S M := by
  unfold c_if_ge
  simp only [enc_le, enc_0nble hx h]
theorem zr_if_gt_t {t : Nat} {x : Int} (hx : zR x) (h : 0 < x) : c_if_gt t nx V ST d ca j L (enc x :: S) M = j t L S M := by
  unfold c_if_gt
  simp only [enc_le, enc_nble0 hx h]
theorem zr_if_gt_n {t : Nat} {x : Int} (hx : zR x) (h : x ≤ 0) : c_if_gt t nx V ST d ca j L (enc x :: S) M = nx V ST d ca j L S M := by
  unfold c_if_gt
  simp only [enc_le, enc_ble0 hx h]
theorem zr_if_le_t {t : Nat} {x : Int} (hx : zR x) (h : x ≤ 0) : c_if_le t nx V ST d ca j L (enc x :: S) M = j t L S M := by
  unfold c_if_le
  simp only [enc_le, enc_ble0 hx h]
theorem zr_if_le_n {t : Nat} {x : Int} (hx : zR x) (h : 0 < x) : c_if_le t nx V ST d ca j L (enc x :: S) M = nx V ST d ca j L S M := by
  unfold c_if_le
  simp only [enc_le, enc_nble0 hx h]
/-! fields and rows -/
theorem zr_gfr {q k kd q' : Nat} (h : zOk b n f) (hF : zFr q k kd q') : c_gf kd k nx V ST d ca j L (zf b q :: S) (zM n (zWf b f g)) = nx V ST d ca j L (zf b q' :: S) (zM n (zWf b f g)) := by
  obtain ⟨h1, h2, h3, h4⟩ := hF
  unfold c_gf
  have e1 : Nat.beq (Nat.mod (zH q) 256) kd = true := bx_eq h2
  simp only [g_hdE, g_slE, zf_isR h, zf_hd h ST (zH_lt q h1), zf_sl h ST h3, zdc_r h4, e1]
theorem zr_gfi {q k kd : Nat} (h : zOk b n f) (hF : zFi q k kd) : c_gf kd k nx V ST d ca j L (zf b q :: S) (zM n (zWf b f g)) = nx V ST d ca j L (enc (nz (g q k)) :: S) (zM n (zWf b f g)) := by
  obtain ⟨h1, h2, h3, h4, h5⟩ := hF
  rw [enc_nz]
  unfold c_gf
  have e1 : Nat.beq (Nat.mod (zH q) 256) kd = true := bx_eq h2
  simp only [g_hdE, g_slE, zf_isR h, zf_hd h ST (zH_lt q h1), zf_sl h ST h3, zdc_i h1 h5 h4, e1]
theorem zr_pfi {q k kd : Nat} {x : Int} (h : zOk b n f) (hF : zFi q k kd) : c_pf kd 0 k nx V ST d ca j L (enc x :: zf b q :: S) (zM n (zWf b f g)) = nx V ST d ca j L S (zM n (zWf b f (upd g q k x))) := by
  obtain ⟨h1, h2, h3, h4, h5⟩ := hF
  unfold c_pf
  have e1 : Nat.beq (Nat.mod (zH q) 256) kd = true := bx_eq h2
  have e2 : ex_get (zM n (zWf b f g)) (b + zO q) = zH q := by
    have := zf_hd (g := g) h ST (zH_lt q h1)
    rw [ex_hdD (by have := zf_bd h q; omega)] at this
    rwa [show zf b q - 8589934592 = b + zO q from zf_sub b q] at this
  have e3 : ex_fit V 0 (enc x) = true := enc_tI x
  have e4 : Nat.add (b + zO q) (Nat.succ k) = b + (zO q + (k + 1)) := by show b + zO q + (k + 1) = _; omega
  simp only [ex_gtE, ex_gsE, zf_isD h, zf_sub, e2, e1, e3, e4, zset h h3 h4 h1 h5]
/-- a field of 0 and 1 -/
theorem zr_pfb {q k kd : Nat} {x : Int} (h : zOk b n f) (hF : zFi q k kd) (hx : x = 0 ∨ x = 1) : c_pf kd 1 k nx V ST d ca j L (enc x :: zf b q :: S) (zM n (zWf b f g)) = nx V ST d ca j L S (zM n (zWf b f (upd g q k x))) := by
  obtain ⟨h1, h2, h3, h4, h5⟩ := hF
  unfold c_pf
  have e1 : Nat.beq (Nat.mod (zH q) 256) kd = true := bx_eq h2
  have e2 : ex_get (zM n (zWf b f g)) (b + zO q) = zH q := by
    have := zf_hd (g := g) h ST (zH_lt q h1)
    rw [ex_hdD (by have := zf_bd h q; omega)] at this
    rwa [show zf b q - 8589934592 = b + zO q from zf_sub b q] at this
  have e3 : ex_fit V 1 (enc x) = true := by rcases hx with rfl | rfl <;> rfl
  have e4 : Nat.add (b + zO q) (Nat.succ k) = b + (zO q + (k + 1)) := by show b + zO q + (k + 1) = _; omega
  simp only [ex_gtE, ex_gsE, zf_isD h, zf_sub, e2, e1, e3, e4, zset h h3 h4 h1 h5]
/-- a field of a char -/
theorem zr_pfc {q k kd : Nat} {x : Int} (h : zOk b n f) (hF : zFi q k kd) (hx : 0 ≤ x ∧ x < 65536) : c_pf kd 2 k nx V ST d ca j L (enc x :: zf b q :: S) (zM n (zWf b f g)) = nx V ST d ca j L S (zM n (zWf b f (upd g q k x))) := by
  obtain ⟨h1, h2, h3, h4, h5⟩ := hF
  unfold c_pf
  have e1 : Nat.beq (Nat.mod (zH q) 256) kd = true := bx_eq h2
  have e2 : ex_get (zM n (zWf b f g)) (b + zO q) = zH q := by
    have := zf_hd (g := g) h ST (zH_lt q h1)
    rw [ex_hdD (by have := zf_bd h q; omega)] at this
    rwa [show zf b q - 8589934592 = b + zO q from zf_sub b q] at this
  have e3 : ex_fit V 2 (enc x) = true := by
    have e5 : Nat.ble (enc x) 65535 = true := bx_le (by unfold enc; omega)
    unfold ex_fit
    simp only [enc_isI, e5]
    rfl
  have e4 : Nat.add (b + zO q) (Nat.succ k) = b + (zO q + (k + 1)) := by show b + zO q + (k + 1) = _; omega
  simp only [ex_gtE, ex_gsE, zf_isD h, zf_sub, e2, e1, e3, e4, zset h h3 h4 h1 h5]
/-- what a place of a row of numbers is -/
theorem zAr_at {q kd m : Nat} {x : Int} (hA : zAr q kd m) (h0 : 0 ≤ x) (h1 : x < m) : enc x = x.toNat ∧ x.toNat < m ∧ ((x.toNat : Nat) : Int) = x ∧ zO q + (x.toNat + 1) < 3418 ∧ zS q x.toNat = 2147483648 + q * 256 + x.toNat ∧ x.toNat < 256 := by
  obtain ⟨a1, a2, a3, a4, a5⟩ := hA
  have hm : x.toNat < m := by omega
  obtain ⟨s1, s2⟩ := a5 x.toNat hm
  exact ⟨enc_nn h0 (by omega), hm, by omega, s1, s2, by omega⟩
theorem zr_iald {q m : Nat} {x : Int} (h : zOk b n f) (hA : zAr q 64 m) (h0 : 0 ≤ x) (h1 : x < m) : c_iaload nx V ST d ca j L (enc x :: zf b q :: S) (zM n (zWf b f g)) = nx V ST d ca j L (enc (nz (g q x)) :: S) (zM n (zWf b f g)) := by
  obtain ⟨s1, s2, s3, s4, s5, s6⟩ := zAr_at hA h0 h1
  obtain ⟨a1, a2, a3, a4, a5⟩ := hA
  rw [enc_nz]
  unfold c_iaload
  have e1 : Nat.beq (Nat.mod (zH q) 256) 64 = true := bx_eq a2
  have e2 : Nat.ble (Nat.succ x.toNat) (Nat.div (zH q) 256) = true := bx_le (by show x.toNat + 1 ≤ zH q / 256; omega)
  have e3 : zdc b g (zS q x.toNat) = enc (g q x) := by rw [zdc_i a1 s6 s5, s3]
  rw [s1]
  simp only [g_hdE, g_slE, zf_isR h, zf_hd h ST (zH_lt q a1), zf_sl h ST s4, e1, e2, e3, enc_tI]
theorem zr_iast {q m : Nat} {x y : Int} (h : zOk b n f) (hA : zAr q 64 m) (h0 : 0 ≤ x) (h1 : x < m) : c_iastore nx V ST d ca j L (enc y :: enc x :: zf b q :: S) (zM n (zWf b f g)) = nx V ST d ca j L S (zM n (zWf b f (upd g q x y))) := by
  obtain ⟨s1, s2, s3, s4, s5, s6⟩ := zAr_at hA h0 h1
  obtain ⟨a1, a2, a3, a4, a5⟩ := hA
  unfold c_iastore g_ast
  have e1 : Nat.beq (Nat.mod (zH q) 256) 64 = true := bx_eq a2
  have e2 : Nat.ble (Nat.succ x.toNat) (Nat.div (zH q) 256) = true := bx_le (by show x.toNat + 1 ≤ zH q / 256; omega)
  have e3 : ex_get (zM n (zWf b f g)) (b + zO q) = zH q := by
    have := zf_hd (g := g) h ST (zH_lt q a1)
    rw [ex_hdD (by have := zf_bd h q; omega)] at this
    rwa [show zf b q - 8589934592 = b + zO q from zf_sub b q] at this
  have e4 : Nat.add (b + zO q) (Nat.succ x.toNat) = b + (zO q + (x.toNat + 1)) := by show b + zO q + (x.toNat + 1) = _; omega
  have e5 := zset (g := g) (v := y) h s4 s5 a1 s6
  rw [s3] at e5
  rw [s1]
  simp only [ex_gtE, ex_gsE, zf_isD h, zf_sub, e3, e1, e2, e4, enc_tI, e5]
theorem zr_bald {q m : Nat} {x : Int} (h : zOk b n f) (hA : zAr q 65 m) (h0 : 0 ≤ x) (h1 : x < m) : c_baload nx V ST d ca j L (enc x :: zf b q :: S) (zM n (zWf b f g)) = nx V ST d ca j L (enc (nz (g q x)) :: S) (zM n (zWf b f g)) := by
  obtain ⟨s1, s2, s3, s4, s5, s6⟩ := zAr_at hA h0 h1
  obtain ⟨a1, a2, a3, a4, a5⟩ := hA
  rw [enc_nz]
  unfold c_baload
  have e1 : Nat.beq (Nat.mod (zH q) 256) 65 = true := bx_eq a2
  have e2 : Nat.ble (Nat.succ x.toNat) (Nat.div (zH q) 256) = true := bx_le (by show x.toNat + 1 ≤ zH q / 256; omega)
  have e3 : zdc b g (zS q x.toNat) = enc (g q x) := by rw [zdc_i a1 s6 s5, s3]
  rw [s1]
  simp only [g_hdE, g_slE, zf_isR h, zf_hd h ST (zH_lt q a1), zf_sl h ST s4, e1, e2, e3, enc_isI]
theorem zr_bast {q m : Nat} {x y : Int} (h : zOk b n f) (hA : zAr q 65 m) (h0 : 0 ≤ x) (h1 : x < m) (hy : y = 0 ∨ y = 1) : c_bastore nx V ST d ca j L (enc y :: enc x :: zf b q :: S) (zM n (zWf b f g)) = nx V ST d ca j L S (zM n (zWf b f (upd g q x y))) := by
  obtain ⟨s1, s2, s3, s4, s5, s6⟩ := zAr_at hA h0 h1
  obtain ⟨a1, a2, a3, a4, a5⟩ := hA
  unfold c_bastore g_ast
  have e1 : Nat.beq (Nat.mod (zH q) 256) 65 = true := bx_eq a2
  have e2 : Nat.ble (Nat.succ x.toNat) (Nat.div (zH q) 256) = true := bx_le (by show x.toNat + 1 ≤ zH q / 256; omega)
  have e3 : ex_get (zM n (zWf b f g)) (b + zO q) = zH q := by
    have := zf_hd (g := g) h ST (zH_lt q a1)
    rw [ex_hdD (by have := zf_bd h q; omega)] at this
    rwa [show zf b q - 8589934592 = b + zO q from zf_sub b q] at this
  have e4 : Nat.add (b + zO q) (Nat.succ x.toNat) = b + (zO q + (x.toNat + 1)) := by show b + zO q + (x.toNat + 1) = _; omega
  have e5 := zset (g := g) (v := y) h s4 s5 a1 s6
  rw [s3] at e5
  have e6 : Nat.ble (enc y) 1 = true := by rcases hy with rfl | rfl <;> rfl
  rw [s1]
  simp only [ex_gtE, ex_gsE, zf_isD h, zf_sub, e3, e1, e2, e4, e5, e6]
/-- a place of a static row of numbers -/
theorem zr_iaS {s m : Nat} {x y : Int} (hs : ex_get (ST s) 0 = 64 + 256 * m) (hm : m < 1000) (h0 : 0 ≤ x) (h1 : x < m) (hy : ex_get (ST s) (x.toNat + 1) = enc y) (hs2 : s < 1000) : c_iaload nx V ST d ca j L (enc x :: (17179869184 + s) :: S) M = nx V ST d ca j L (enc y :: S) M := by
  unfold c_iaload
  have e0 : ex_isR (17179869184 + s) = true := ex_isR_iff.mpr (by omega)
  have e1 : ex_hd ST M (17179869184 + s) = 64 + 256 * m := by rw [ex_hdS (by omega), Nat.add_sub_cancel_left, hs]
  have e2 : ex_sl ST M (17179869184 + s) x.toNat = enc y := by rw [ex_slS (by omega), Nat.add_sub_cancel_left, hy]
  have e3 : Nat.beq (Nat.mod (64 + 256 * m) 256) 64 = true := bx_eq (by show (64 + 256 * m) % 256 = 64; omega)
  have e4 : Nat.ble (Nat.succ x.toNat) (Nat.div (64 + 256 * m) 256) = true := bx_le (by show x.toNat + 1 ≤ (64 + 256 * m) / 256; omega)
  rw [enc_nn h0 (by omega)]
  simp only [g_hdE, g_slE, e0, e1, e2, e3, e4, enc_tI]
/-! calls -/
def zAll (T : List Nat) : Prop := ∀ a ∈ T, a < 34359738369
theorem zA_nil : zAll [] := fun _ h => nomatch h
theorem zA_cons {a : Nat} (h : a < 34359738369) (hT : zAll T) : zAll (a :: T) := fun x hx => (List.mem_cons.mp hx).elim (fun e => e ▸ h) (hT x)
theorem zrsum (hT : zAll T) : ex_rsum T = T.length := by
  induction T with
  | nil => rfl
  | cons a T ih =>
    show Nat.add (@Bool.rec (fun _ => Nat) 1 2 (ex_c2 a)) (ex_rsum T) = _
    rw [bx_c2 (hT a List.mem_cons_self), ih (fun x hx => hT x (List.mem_cons_of_mem _ hx))]
    show 1 + T.length = T.length + 1
    omega
theorem zrsum_le {k : Nat} (hT : zAll T) (h : T.length ≤ k) : Nat.ble (ex_rsum T) k = true := by rw [zrsum hT]; exact bx_le h
theorem ztake : ∀ (as acc : List Nat), zAll as → ex_take as.length acc (as ++ T) = some (as.reverse ++ acc, T) := by
  intro as
  induction as with
  | nil => intro acc _; rfl
  | cons a as ih =>
    intro acc h
    show @Bool.rec (fun _ => Option (List Nat × List Nat)) none (ex_take as.length (a :: acc) (as ++ T)) (Nat.ble a 1099511627775) = _
    rw [bx_le (show a ≤ 1099511627775 by have := h a List.mem_cons_self; omega), ih (a :: acc) (fun x hx => h x (List.mem_cons_of_mem _ hx))]
    simp

/-- what follows a call -/
def zTh (x : ex_R) (M : Nat) (T : List Nat) (k : List Nat → Nat → ex_R) : ex_R := @Option.rec (Nat × Nat) (fun _ => ex_R) none (fun r => if ex_get M 1 ≤ ex_get r.2 1 ∧ ex_get M 2 ≤ ex_get r.2 2 then (if r.1 < 34359738369 then k (r.1 :: T) r.2 else if r.1 = 137438953473 then k T r.2 else if 549755813889 ≤ r.1 ∧ r.1 ≤ 549755813894 then some r else none) else none) x

theorem zr_invS {bt : ex_CD} {pc na mid : Nat} {R : Nat × Nat} (as : List Nat) (hn : as.length = na) (ha : zAll as) (hT : zAll T) (hT8 : T.length ≤ 8) (k : zTh (ca mid as.reverse M) M T (fun S M => nx V ST d ca j L S M) = some R) : c_invS [] bt pc na mid nx V ST d ca j L (as ++ T) M = some R := by
  subst hn
  unfold c_invS
  have e0 := ztake (T := T) as [] ha
  rw [List.append_nil] at e0
  have e1 := zrsum_le (k := 8) hT hT8
  cases hcall : ca mid as.reverse M with
  | none => rw [hcall] at k; cases k
  | some q0 =>
    obtain ⟨v, M'⟩ := q0
    rw [hcall] at k
    have k : (if ex_get M 1 ≤ ex_get M' 1 ∧ ex_get M 2 ≤ ex_get M' 2 then (if v < 34359738369 then nx V ST d ca j L (v :: T) M' else if v = 137438953473 then nx V ST d ca j L T M' else if 549755813889 ≤ v ∧ v ≤ 549755813894 then some (v, M') else none) else none) = some R := k
    by_cases c0 : ex_get M 1 ≤ ex_get M' 1 ∧ ex_get M 2 ≤ ex_get M' 2
    · rw [if_pos c0] at k
      have e2 : Nat.ble (ex_get M 1) (ex_get M' 1) = true := bx_le c0.1
      have e3 : Nat.ble (ex_get M 2) (ex_get M' 2) = true := bx_le c0.2
      by_cases c1 : v < 34359738369
      · rw [if_pos c1] at k
        have e4 : Nat.ble 549755813888 v = false := bx_nle (by omega)
        have e5 : Nat.beq v 137438953473 = false := bx_ne (by omega)
        simp only [ex_gtE, e0, e1, e2, e3, e4, e5, hcall]
        exact k
      · rw [if_neg c1] at k
        by_cases c2 : v = 137438953473
        · rw [if_pos c2] at k
          have e4 : Nat.ble 549755813888 v = false := bx_nle (by omega)
          have e5 : Nat.beq v 137438953473 = true := bx_eq c2
          simp only [ex_gtE, e0, e1, e2, e3, e4, e5, hcall]
          exact k
        · rw [if_neg c2] at k
          by_cases c3 : 549755813889 ≤ v ∧ v ≤ 549755813894
          · rw [if_pos c3] at k
            have e4 : Nat.ble 549755813888 v = true := bx_le (by omega)
            have e5 : Nat.ble 549755813889 v = true := bx_le c3.1
            have e6 : Nat.ble v 549755813894 = true := bx_le c3.2
            have e7 : ex_hand [] pc (Nat.sub v 549755813888) = 0 := rfl
            have e8 : ex_cov [] pc = false := rfl
            simp only [ex_gtE, e0, e1, e2, e3, e4, e5, e6, e7, e8, hcall]
            exact k
          · rw [if_neg c3] at k; cases k
    · rw [if_neg c0] at k; cases k
theorem zr_invV {bt : ex_CD} {pc na mid rk q : Nat} {R : Nat × Nat} (h : zOk b n f) (as : List Nat) (hn : as.length + 1 = na) (hq : q < 240 ∧ zH q % 256 = rk) (ha : zAll as) (hT : zAll T) (hT8 : T.length ≤ 8) (k : zTh (ca mid (zf b q :: as.reverse) (zM n (zWf b f g))) (zM n (zWf b f g)) T (fun S M => nx V ST d ca j L S M) = some R) : c_invV [] bt pc na mid rk nx V ST d ca j L (as ++ zf b q :: T) (zM n (zWf b f g)) = some R := by
  subst hn
  unfold c_invV
  have e0 := ztake (T := T) (as ++ [zf b q]) [] (fun x hx => (List.mem_append.mp hx).elim (ha x) (fun e => (List.mem_singleton.mp e) ▸ zf_l h q))
  rw [List.append_nil, List.length_append, List.reverse_append, List.append_assoc] at e0
  have e0 : ex_take (as.length + 1) [] (as ++ zf b q :: T) = some (zf b q :: as.reverse, T) := e0
  have e1 := zrsum_le (k := 8) hT hT8
  have e9 : Nat.beq (Nat.mod (zH q) 256) rk = true := bx_eq hq.2
  cases hcall : ca mid (zf b q :: as.reverse) (zM n (zWf b f g)) with
  | none => rw [hcall] at k; cases k
  | some q0 =>
    obtain ⟨v, M'⟩ := q0
    rw [hcall] at k
    have k : (if ex_get (zM n (zWf b f g)) 1 ≤ ex_get M' 1 ∧ ex_get (zM n (zWf b f g)) 2 ≤ ex_get M' 2 then (if v < 34359738369 then nx V ST d ca j L (v :: T) M' else if v = 137438953473 then nx V ST d ca j L T M' else if 549755813889 ≤ v ∧ v ≤ 549755813894 then some (v, M') else none) else none) = some R := k
    by_cases c0 : ex_get (zM n (zWf b f g)) 1 ≤ ex_get M' 1 ∧ ex_get (zM n (zWf b f g)) 2 ≤ ex_get M' 2
    · rw [if_pos c0] at k
      have e2 : Nat.ble (ex_get (zM n (zWf b f g)) 1) (ex_get M' 1) = true := bx_le c0.1
      have e3 : Nat.ble (ex_get (zM n (zWf b f g)) 2) (ex_get M' 2) = true := bx_le c0.2
      by_cases c1 : v < 34359738369
      · rw [if_pos c1] at k
        have e4 : Nat.ble 549755813888 v = false := bx_nle (by omega)
        have e5 : Nat.beq v 137438953473 = false := bx_ne (by omega)
        simp only [ex_gtE, g_hdE, e0, e1, zf_isR h, zf_isD h, zf_hd h ST (zH_lt q hq.1), e9, e2, e3, e4, e5, hcall]
        exact k
      · rw [if_neg c1] at k
        by_cases c2 : v = 137438953473
        · rw [if_pos c2] at k
          have e4 : Nat.ble 549755813888 v = false := bx_nle (by omega)
          have e5 : Nat.beq v 137438953473 = true := bx_eq c2
          simp only [ex_gtE, g_hdE, e0, e1, zf_isR h, zf_isD h, zf_hd h ST (zH_lt q hq.1), e9, e2, e3, e4, e5, hcall]
          exact k
        · rw [if_neg c2] at k
          by_cases c3 : 549755813889 ≤ v ∧ v ≤ 549755813894
          · rw [if_pos c3] at k
            have e4 : Nat.ble 549755813888 v = true := bx_le (by omega)
            have e5 : Nat.ble 549755813889 v = true := bx_le c3.1
            have e6 : Nat.ble v 549755813894 = true := bx_le c3.2
            have e7 : ex_hand [] pc (Nat.sub v 549755813888) = 0 := rfl
            have e8 : ex_cov [] pc = false := rfl
            simp only [ex_gtE, g_hdE, e0, e1, zf_isR h, zf_isD h, zf_hd h ST (zH_lt q hq.1), e9, e2, e3, e4, e5, e6, e7, e8, hcall]
            exact k
          · rw [if_neg c3] at k; cases k
    · rw [if_neg c0] at k; cases k
theorem zr_invP {bt : ex_CD} {pc na mid q : Nat} {R : Nat × Nat} (h : zOk b n f) (as : List Nat) (hn : as.length + 1 = na) (ha : zAll as) (hT : zAll T) (hT8 : T.length ≤ 8) (k : zTh (ca mid (zf b q :: as.reverse) (zM n (zWf b f g))) (zM n (zWf b f g)) T (fun S M => nx V ST d ca j L S M) = some R) : c_invP [] bt pc na mid nx V ST d ca j L (as ++ zf b q :: T) (zM n (zWf b f g)) = some R := by
  subst hn
  unfold c_invP
  have e0 := ztake (T := T) (as ++ [zf b q]) [] (fun x hx => (List.mem_append.mp hx).elim (ha x) (fun e => (List.mem_singleton.mp e) ▸ zf_l h q))
  rw [List.append_nil, List.length_append, List.reverse_append, List.append_assoc] at e0
  have e0 : ex_take (as.length + 1) [] (as ++ zf b q :: T) = some (zf b q :: as.reverse, T) := e0
  have e1 := zrsum_le (k := 8) hT hT8
  cases hcall : ca mid (zf b q :: as.reverse) (zM n (zWf b f g)) with
  | none => rw [hcall] at k; cases k
  | some q0 =>
    obtain ⟨v, M'⟩ := q0
    rw [hcall] at k
    have k : (if ex_get (zM n (zWf b f g)) 1 ≤ ex_get M' 1 ∧ ex_get (zM n (zWf b f g)) 2 ≤ ex_get M' 2 then (if v < 34359738369 then nx V ST d ca j L (v :: T) M' else if v = 137438953473 then nx V ST d ca j L T M' else if 549755813889 ≤ v ∧ v ≤ 549755813894 then some (v, M') else none) else none) = some R := k
    by_cases c0 : ex_get (zM n (zWf b f g)) 1 ≤ ex_get M' 1 ∧ ex_get (zM n (zWf b f g)) 2 ≤ ex_get M' 2
    · rw [if_pos c0] at k
      have e2 : Nat.ble (ex_get (zM n (zWf b f g)) 1) (ex_get M' 1) = true := bx_le c0.1
      have e3 : Nat.ble (ex_get (zM n (zWf b f g)) 2) (ex_get M' 2) = true := bx_le c0.2
      by_cases c1 : v < 34359738369
      · rw [if_pos c1] at k
        have e4 : Nat.ble 549755813888 v = false := bx_nle (by omega)
        have e5 : Nat.beq v 137438953473 = false := bx_ne (by omega)
        simp only [ex_gtE, g_hdE, e0, e1, zf_isR h, zf_isD h, e2, e3, e4, e5, hcall]
        exact k
      · rw [if_neg c1] at k
        by_cases c2 : v = 137438953473
        · rw [if_pos c2] at k
          have e4 : Nat.ble 549755813888 v = false := bx_nle (by omega)
          have e5 : Nat.beq v 137438953473 = true := bx_eq c2
          simp only [ex_gtE, g_hdE, e0, e1, zf_isR h, zf_isD h, e2, e3, e4, e5, hcall]
          exact k
        · rw [if_neg c2] at k
          by_cases c3 : 549755813889 ≤ v ∧ v ≤ 549755813894
          · rw [if_pos c3] at k
            have e4 : Nat.ble 549755813888 v = true := bx_le (by omega)
            have e5 : Nat.ble 549755813889 v = true := bx_le c3.1
            have e6 : Nat.ble v 549755813894 = true := bx_le c3.2
            have e7 : ex_hand [] pc (Nat.sub v 549755813888) = 0 := rfl
            have e8 : ex_cov [] pc = false := rfl
            simp only [ex_gtE, g_hdE, e0, e1, zf_isR h, zf_isD h, e2, e3, e4, e5, e6, e7, e8, hcall]
            exact k
          · rw [if_neg c3] at k; cases k
    · rw [if_neg c0] at k; cases k
def zbump (f : Nat → Nat) : Nat → Nat := fun a => if a = 1 then f 1 + 1 else if a = 2 then 6 + f 2 else f a
theorem zr_newx {v : Nat} (h : zOk b n f) (hd : 14 ≤ d) (hT : zAll S) (hT8 : S.length ≤ 8) : c_newx v V ST d ca j L S (zM n (zWf b f g)) = some (v, zM n (zWf b (zbump f) g)) := by
  have h' := h
  obtain ⟨h1, h2, h3, h4, h5⟩ := h'
  unfold c_newx
  have g1 : ex_get (zM n (zWf b f g)) 1 = f 1 := zgetf h (by omega) (by omega)
  have g2 : ex_get (zM n (zWf b f g)) 2 = f 2 := zgetf h (by omega) (by omega)
  have e1 : Nat.ble (f 2) 100000000 = true := bx_le (by omega)
  have e2 : Nat.ble (f 1) 1000000 = true := bx_le (by omega)
  have e3 := zrsum_le (k := 8) hT hT8
  have e4 : Nat.ble 14 d = true := bx_le hd
  simp only [ex_gtE, ex_gsE, g1, g2, e1, e2, e3, e4]
  have e5 : ex_set (ex_set (zM n (zWf b f g)) 1 (Nat.succ (f 1))) 2 (Nat.add 6 (f 2)) = zM n (zWf b (zbump f) g) := by
    rw [zM_set (by omega) (show f 1 + 1 < 1099511627776 by omega), zM_set (by omega) (show 6 + f 2 < 1099511627776 by omega)]
    congr 1
    funext a
    unfold zWf
    by_cases c : b ≤ a ∧ a < b + 3418
    · rw [if_pos c, if_neg (by omega), if_neg (by omega), if_pos c]
    · rw [if_neg c, if_neg c]
      unfold zbump
      by_cases c1 : a = 1
      · subst c1; rw [if_neg (by omega), if_pos rfl, if_pos rfl]
      · rw [if_neg c1, if_neg c1]
        by_cases c2 : a = 2
        · rw [if_pos c2, if_pos c2]; rfl
        · rw [if_neg c2, if_neg c2]
  rw [e5]
/-- the length of a row -/
theorem zr_alen {q kd m : Nat} (h : zOk b n f) (hA : zAr q kd m) (hk : 64 ≤ kd ∧ kd ≤ 72) : c_arraylength nx V ST d ca j L (zf b q :: S) (zM n (zWf b f g)) = nx V ST d ca j L (enc (m : Int) :: S) (zM n (zWf b f g)) := by
  obtain ⟨a1, a2, a3, a4, a5⟩ := hA
  unfold c_arraylength s_arraylength
  have e1 : Nat.ble (Nat.mod (zH q) 256) 72 = true := bx_le (by show zH q % 256 ≤ 72; omega)
  have e2 : Nat.ble 64 (Nat.mod (zH q) 256) = true := bx_le (by show 64 ≤ zH q % 256; omega)
  have e3 : Nat.div (zH q) 256 = enc (m : Int) := by show zH q / 256 = _; unfold enc; omega
  simp only [zf_isR h, zf_hd h ST (zH_lt q a1), e1, e2, e3]
/-- a place of a row of chars -/
theorem zr_cald {q m : Nat} {x : Int} (h : zOk b n f) (hA : zAr q 66 m) (h0 : 0 ≤ x) (h1 : x < m) : c_caload nx V ST d ca j L (enc x :: zf b q :: S) (zM n (zWf b f g)) = nx V ST d ca j L (enc (nz (g q x)) :: S) (zM n (zWf b f g)) := by
  obtain ⟨s1, s2, s3, s4, s5, s6⟩ := zAr_at hA h0 h1
  obtain ⟨a1, a2, a3, a4, a5⟩ := hA
  rw [enc_nz]
  unfold c_caload s_caload ex_ald
  have e1 : Nat.beq (Nat.mod (zH q) 256) 66 = true := bx_eq a2
  have e2 : Nat.ble (Nat.succ x.toNat) (Nat.div (zH q) 256) = true := bx_le (by show x.toNat + 1 ≤ zH q / 256; omega)
  have e3 : zdc b g (zS q x.toNat) = enc (g q x) := by rw [zdc_i a1 s6 s5, s3]
  rw [s1]
  simp only [zf_isR h, zf_hd h ST (zH_lt q a1), zf_sl h ST s4, e1, e2, e3, enc_tI]
theorem zr_cast {q m : Nat} {x y : Int} (h : zOk b n f) (hA : zAr q 66 m) (h0 : 0 ≤ x) (h1 : x < m) (hy : 0 ≤ y ∧ y < 65536) : c_castore nx V ST d ca j L (enc y :: enc x :: zf b q :: S) (zM n (zWf b f g)) = nx V ST d ca j L S (zM n (zWf b f (upd g q x y))) := by
  obtain ⟨s1, s2, s3, s4, s5, s6⟩ := zAr_at hA h0 h1
  obtain ⟨a1, a2, a3, a4, a5⟩ := hA
  unfold c_castore s_castore ex_ast
  have e1 : Nat.beq (Nat.mod (zH q) 256) 66 = true := bx_eq a2
  have e2 : Nat.ble (Nat.succ x.toNat) (Nat.div (zH q) 256) = true := bx_le (by show x.toNat + 1 ≤ zH q / 256; omega)
  have e3 : ex_get (zM n (zWf b f g)) (b + zO q) = zH q := by
    have := zf_hd (g := g) h ST (zH_lt q a1)
    rw [ex_hdD (by have := zf_bd h q; omega)] at this
    rwa [show zf b q - 8589934592 = b + zO q from zf_sub b q] at this
  have e4 : Nat.add (b + zO q) (Nat.succ x.toNat) = b + (zO q + (x.toNat + 1)) := by show b + zO q + (x.toNat + 1) = _; omega
  have e5 := zset (g := g) (v := y) h s4 s5 a1 s6
  rw [s3] at e5
  have e6 : ex_fit V 2 (enc y) = true := by
    have e7 : Nat.ble (enc y) 65535 = true := bx_le (by unfold enc; omega)
    unfold ex_fit
    simp only [enc_isI, e7]
    rfl
  rw [s1]
  simp only [zf_isD h, zf_sub, e3, e1, e2, e4, e5, e6]
theorem zr_alenS {s m : Nat} (hs : ex_get (ST s) 0 = 64 + 256 * m) (hm : m < 1000) (hs2 : s < 1000) : c_arraylength nx V ST d ca j L ((17179869184 + s) :: S) M = nx V ST d ca j L (enc (m : Int) :: S) M := by
  unfold c_arraylength s_arraylength
  have e0 : ex_isR (17179869184 + s) = true := ex_isR_iff.mpr (by omega)
  have e1 : ex_hd ST M (17179869184 + s) = 64 + 256 * m := by rw [ex_hdS (by omega), Nat.add_sub_cancel_left, hs]
  have e2 : Nat.ble (Nat.mod (64 + 256 * m) 256) 72 = true := bx_le (by show (64 + 256 * m) % 256 ≤ 72; omega)
  have e3 : Nat.ble 64 (Nat.mod (64 + 256 * m) 256) = true := bx_le (by show 64 ≤ (64 + 256 * m) % 256; omega)
  have e4 : Nat.div (64 + 256 * m) 256 = enc (m : Int) := by show (64 + 256 * m) / 256 = _; unfold enc; omega
  simp only [e0, e1, e2, e3, e4]
/-- a row of a row of rows -/
def zAA (q m kd l : Nat) : Prop := q < 240 ∧ zH q % 256 = 71 ∧ zH q / 256 = m ∧ m ≤ 30 ∧ ∀ i, i < m → zO q + (i + 1) < 3418 ∧ zS q i = 1073741824 + zO (q + 1 + i) ∧ zAr (q + 1 + i) kd l
theorem zr_aald {q m kd l : Nat} {x : Int} (h : zOk b n f) (hA : zAA q m kd l) (h0 : 0 ≤ x) (h1 : x < m) : c_aaload nx V ST d ca j L (enc x :: zf b q :: S) (zM n (zWf b f g)) = nx V ST d ca j L (zf b (q + 1 + x.toNat) :: S) (zM n (zWf b f g)) := by
  obtain ⟨a1, a2, a3, a4, a5⟩ := hA
  have hm : x.toNat < m := by omega
  obtain ⟨s1, s2, s3⟩ := a5 x.toNat hm
  unfold c_aaload s_aaload ex_ald
  have e1 : Nat.ble (Nat.mod (zH q) 256) 72 = true := bx_le (by show zH q % 256 ≤ 72; omega)
  have e2 : Nat.ble 70 (Nat.mod (zH q) 256) = true := bx_le (by show 70 ≤ zH q % 256; omega)
  have e3 : Nat.ble (Nat.succ x.toNat) (Nat.div (zH q) 256) = true := bx_le (by show x.toNat + 1 ≤ zH q / 256; omega)
  rw [enc_nn h0 (by omega)]
  simp only [zf_isR h, zf_hd h ST (zH_lt q a1), zf_sl h ST s1, zdc_r s2, zf_tA h, e1, e2, e3]

/-! ends -/
theorem zr_ireturn {x : Int} : c_ireturn 0 V ST d ca j L [enc x] M = some (enc x, M) := by
  unfold c_ireturn s_ireturn
  have e : ex_fit V 0 (enc x) = true := enc_tI x
  have e2 : Nat.ble 0 4 = true := rfl
  have e3 : Nat.beq 0 3 = false := rfl
  simp only [enc_tI, e, e2, e3]
theorem zr_breturn {x : Int} (hx : x = 0 ∨ x = 1) : c_ireturn 1 V ST d ca j L [enc x] M = some (enc x, M) := by
  unfold c_ireturn s_ireturn
  have e : ex_fit V 1 (enc x) = true := by rcases hx with rfl | rfl <;> rfl
  have e2 : Nat.ble 1 4 = true := rfl
  have e3 : Nat.beq 1 3 = false := rfl
  simp only [enc_tI, e, e2, e3]
theorem zr_creturn {x : Int} (hx : 0 ≤ x ∧ x < 65536) : c_ireturn 2 V ST d ca j L [enc x] M = some (enc x, M) := by
  unfold c_ireturn s_ireturn
  have e : ex_fit V 2 (enc x) = true := by
    have e5 : Nat.ble (enc x) 65535 = true := bx_le (by unfold enc; omega)
    unfold ex_fit
    simp only [enc_isI, e5]
    rfl
  have e2 : Nat.ble 2 4 = true := rfl
  have e3 : Nat.beq 2 3 = false := rfl
  simp only [enc_tI, e, e2, e3]
theorem zr_return : c_return_ 15 V ST d ca j L [] M = some (137438953473, M) := rfl
theorem zr_areturn {q : Nat} (h : zOk b n f) : c_areturn 5 V ST d ca j L [zf b q] M = some (zf b q, M) := by
  unfold c_areturn s_areturn
  have e2 : Nat.beq 5 5 = true := rfl
  simp only [zf_tA h, e2]
/-- the locals at a method's beginning -/
theorem zL : ∀ (as : List Nat) (pre : List Nat) (k : Nat), zAll as → g_pack as pre.length (zP (pre ++ List.replicate (as.length + k) 137438953472)) = zP (pre ++ as ++ List.replicate k 137438953472) := by
  intro as
  induction as with
  | nil => intro pre k _; rw [List.length_nil, Nat.zero_add, List.append_nil]; rfl
  | cons a as ih =>
    intro pre k h
    have ha : a < 1099511627776 := Nat.lt_trans (h a List.mem_cons_self) (by decide)
    show g_pack as (@Bool.rec (fun _ => Nat) (Nat.succ pre.length) (Nat.add pre.length 2) (ex_c2 a)) (ex_gs _ pre.length a) = _
    rw [bx_c2 (h a List.mem_cons_self), ex_gsE, zP_set (by rw [List.length_append, List.length_replicate, List.length_cons]; omega) ha]
    have e : (pre ++ List.replicate ((a :: as).length + k) 137438953472).set pre.length a = (pre ++ [a]) ++ List.replicate (as.length + k) 137438953472 := by
      rw [List.set_append_right _ _ (Nat.le_refl _), Nat.sub_self, List.length_cons, show as.length + 1 + k = (as.length + k) + 1 by omega, List.replicate_succ, List.set_cons_zero, List.append_assoc]
      rfl
    rw [e]
    have := ih (pre ++ [a]) k (fun x hx => h x (List.mem_cons_of_mem _ hx))
    rw [List.length_append] at this
    refine this.trans ?_
    rw [List.append_assoc, List.append_assoc, List.append_assoc]
    rfl
end
end
