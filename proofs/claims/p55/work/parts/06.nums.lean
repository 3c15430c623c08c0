/-! the codes' operations are the machine's -/
theorem ex_nm (n : Nat) : nI (n % 4294967296) = nI n := by
  apply Int32.toBitVec_inj.mp
  show BitVec.ofNat 32 (n % 4294967296) = BitVec.ofNat 32 n
  apply BitVec.eq_of_toNat_eq
  simp
theorem ex_tn {n : Nat} (h : n < 4294967296) : (nI n).toBitVec.toNat = n := by
  show (BitVec.ofNat 32 n).toNat = n
  rw [BitVec.toNat_ofNat]; exact Nat.mod_eq_of_lt h
theorem ex_ti {n : Nat} (h : n < 4294967296) : (nI n).toInt = if n < 2147483648 then (n : Int) else (n : Int) - 4294967296 := by
  show (nI n).toBitVec.toInt = _
  rw [BitVec.toInt_eq_toNat_cond, ex_tn h]
  split <;> split <;> omega
theorem ex_ni {a b : Nat} (ha : a < 4294967296) (hb : b < 4294967296) (h : nI a = nI b) : a = b := by rw [← ex_tn ha, h, ex_tn hb]
theorem ex_neg {a : Nat} (h : a ≤ 4294967296) : nI (ex_ng a) = -nI a := by
  show nI ((4294967296 - a) % 4294967296) = -nI a
  rw [ex_nm]
  have h1 : nI (4294967296 - a) + nI a = nI 0 := by rw [nI_add, Nat.sub_add_cancel h]; rfl
  have h2 : nI (4294967296 - a) = nI 0 - nI a := by rw [← h1, Int32.add_sub_cancel]
  rw [h2, nI_0, Int32.sub_eq_add_neg, Int32.zero_add]
theorem ex_add (a b : Nat) : nI (Nat.mod (Nat.add a b) 4294967296) = nI a + nI b := by rw [nI_add]; exact ex_nm _
theorem ex_sub {a b : Nat} (hb : b < 4294967296) : nI (Nat.mod (Nat.add a (Nat.sub 4294967296 b)) 4294967296) = nI a - nI b := by
  show nI ((a + (4294967296 - b)) % 4294967296) = _
  rw [ex_nm, ← nI_add, Int32.sub_eq_add_neg, ← ex_neg (by omega)]
  show nI a + nI (4294967296 - b) = nI a + nI ((4294967296 - b) % 4294967296)
  rw [ex_nm]
theorem ex_mul (a b : Nat) : nI (Nat.mod (Nat.mul a b) 4294967296) = nI a * nI b := by
  show nI ((a * b) % 4294967296) = _
  rw [ex_nm]; exact Int32.ofNat_mul a b
theorem ex_and {a b : Nat} (ha : a < 4294967296) (hb : b < 4294967296) : nI (Nat.land a b) = nI a &&& nI b ∧ Nat.land a b < 4294967296 := by
  have hl : a &&& b < 2 ^ 32 := Nat.and_lt_two_pow a hb
  refine ⟨?_, hl⟩
  apply Int32.toBitVec_inj.mp
  apply BitVec.eq_of_toNat_eq
  rw [Int32.toBitVec_and, BitVec.toNat_and, ex_tn ha, ex_tn hb]
  exact ex_tn hl
theorem ex_or {a b : Nat} (ha : a < 4294967296) (hb : b < 4294967296) : nI (Nat.lor a b) = nI a ||| nI b ∧ Nat.lor a b < 4294967296 := by
  have hl : a ||| b < 2 ^ 32 := Nat.or_lt_two_pow ha hb
  refine ⟨?_, hl⟩
  apply Int32.toBitVec_inj.mp
  apply BitVec.eq_of_toNat_eq
  rw [Int32.toBitVec_or, BitVec.toNat_or, ex_tn ha, ex_tn hb]
  exact ex_tn hl
theorem ex_xor {a b : Nat} (ha : a < 4294967296) (hb : b < 4294967296) : nI (Nat.xor a b) = nI a ^^^ nI b ∧ Nat.xor a b < 4294967296 := by
  have hl : a ^^^ b < 2 ^ 32 := Nat.xor_lt_two_pow ha hb
  refine ⟨?_, hl⟩
  apply Int32.toBitVec_inj.mp
  apply BitVec.eq_of_toNat_eq
  rw [Int32.toBitVec_xor, BitVec.toNat_xor, ex_tn ha, ex_tn hb]
  exact ex_tn hl
theorem ex_ab_pos {a : Nat} (h : a < 2147483648) : ex_ab a = a := by
  unfold ex_ab; rw [ex_bN, if_pos (Nat.ble_eq.mpr (by omega))]
theorem ex_ab_neg {a : Nat} (h : 2147483648 ≤ a) : ex_ab a = 4294967296 - a := by
  unfold ex_ab; rw [ex_bN, if_neg (by rw [Nat.ble_eq]; omega)]; rfl
theorem ex_msb {a : Nat} (h : a < 4294967296) : (nI a).toBitVec.msb = decide (2147483648 ≤ a) := by
  rw [BitVec.msb_eq_decide, ex_tn h]
theorem ex_nbv {a : Nat} (h : a < 4294967296) (h2 : 2147483648 ≤ a) : (-(nI a).toBitVec).toNat = ex_ab a := by
  rw [BitVec.toNat_neg, ex_tn h, ex_ab_neg h2]; omega
theorem ex_divE {a b : Nat} (ha : a < 4294967296) (hb : b < 4294967296) (h0 : b ≠ 0) : nI (ex_div a b) = nI a / nI b ∧ ex_div a b < 4294967296 := by
  have hud : ∀ x y : Nat, y ≠ 0 → x < 4294967296 → x / y < 4294967296 := fun x y hy hx => Nat.lt_of_le_of_lt (Nat.div_le_self x y) hx
  have key : ∀ (k : Nat), k < 4294967296 → (nI a / nI b).toBitVec.toNat = k → nI k = nI a / nI b := fun k hk h => by
    apply Int32.toBitVec_inj.mp
    apply BitVec.eq_of_toNat_eq
    rw [ex_tn hk, h]
  have hdv : (nI a / nI b).toBitVec = (nI a).toBitVec.sdiv (nI b).toBitVec := rfl
  have hneg : ∀ k, k < 4294967296 → ex_ng k < 4294967296 := fun k _ => Nat.mod_lt _ (by decide)
  have hng : ∀ (v : BitVec 32), (-v).toNat = ex_ng v.toNat := fun v => by rw [BitVec.toNat_neg]; rfl
  unfold ex_div
  simp only [ex_bN, Nat.ble_eq]
  by_cases h1 : a ≤ 2147483647 <;> by_cases h2 : b ≤ 2147483647
  · rw [if_pos h1, if_pos h2]
    have hk := hud a b h0 ha
    refine ⟨key _ hk ?_, hk⟩
    rw [hdv, BitVec.sdiv_eq, ex_msb ha, ex_msb hb, decide_eq_false (by omega), decide_eq_false (by omega)]
    show ((nI a).toBitVec / (nI b).toBitVec).toNat = a / b
    rw [BitVec.toNat_udiv, ex_tn ha, ex_tn hb]
  · rw [if_pos h1, if_neg h2]
    have hk := hneg (a / ex_ab b) (hud a _ (by rw [ex_ab_neg (by omega)]; omega) ha)
    refine ⟨key _ hk ?_, hk⟩
    rw [hdv, BitVec.sdiv_eq, ex_msb ha, ex_msb hb, decide_eq_false (by omega), decide_eq_true (by omega)]
    show (-((nI a).toBitVec / -(nI b).toBitVec)).toNat = ex_ng (a / ex_ab b)
    rw [hng, BitVec.toNat_udiv, ex_tn ha, ex_nbv hb (by omega)]
  · rw [if_neg h1, if_pos h2]
    have hk := hneg (ex_ab a / b) (hud _ _ h0 (by rw [ex_ab_neg (by omega)]; omega))
    refine ⟨key _ hk ?_, hk⟩
    rw [hdv, BitVec.sdiv_eq, ex_msb ha, ex_msb hb, decide_eq_true (by omega), decide_eq_false (by omega)]
    show (-(-(nI a).toBitVec / (nI b).toBitVec)).toNat = ex_ng (ex_ab a / b)
    rw [hng, BitVec.toNat_udiv, ex_tn hb, ex_nbv ha (by omega)]
  · rw [if_neg h1, if_neg h2]
    have hk : Nat.mod (Nat.div (ex_ab a) (ex_ab b)) 4294967296 < 4294967296 := Nat.mod_lt _ (by decide)
    have hk2 := hud (ex_ab a) (ex_ab b) (by rw [ex_ab_neg (by omega)]; omega) (by rw [ex_ab_neg (by omega)]; omega)
    refine ⟨key _ hk ?_, hk⟩
    rw [hdv, BitVec.sdiv_eq, ex_msb ha, ex_msb hb, decide_eq_true (by omega), decide_eq_true (by omega)]
    show (-(nI a).toBitVec / -(nI b).toBitVec).toNat = (ex_ab a / ex_ab b) % 4294967296
    rw [BitVec.toNat_udiv, ex_nbv ha (by omega), ex_nbv hb (by omega), Nat.mod_eq_of_lt hk2]
theorem ex_nab {a : Nat} (h : a < 4294967296) (h2 : 2147483648 ≤ a) : nI a = -nI (ex_ab a) := by
  rw [ex_ab_neg h2, ← ex_neg (by omega)]
  show nI a = nI ((4294967296 - (4294967296 - a)) % 4294967296)
  rw [ex_nm]; congr 1; omega
theorem ex_remE {a b : Nat} (ha : a < 4294967296) (hb : b < 4294967296) (h0 : b ≠ 0) : nI (ex_rem a b) = nI a - nI a / nI b * nI b ∧ ex_rem a b < 4294967296 := by
  have hmn : ∀ k : Nat, ex_ng k < 4294967296 := fun k => Nat.mod_lt _ (by decide)
  have hb0 : ex_ab b ≠ 0 := by
    rcases Nat.lt_or_ge b 2147483648 with q | q
    · rw [ex_ab_pos q]; exact h0
    · rw [ex_ab_neg q]; omega
  have hbl : ex_ab b < 4294967296 := by
    rcases Nat.lt_or_ge b 2147483648 with q | q
    · rw [ex_ab_pos q]; exact hb
    · rw [ex_ab_neg q]; omega
  -- (a / b) * b, by signs
  have hd := (ex_divE ha hb h0).1
  have hm : ∀ x : Nat, nI x - nI (x / ex_ab b * ex_ab b) = nI (x % ex_ab b) := fun x => by
    have e : x = x % ex_ab b + x / ex_ab b * ex_ab b := by rw [Nat.mul_comm]; exact (Nat.mod_add_div x (ex_ab b)).symm
    have e2 : nI x = nI (x % ex_ab b) + nI (x / ex_ab b * ex_ab b) := by rw [nI_add, ← e]
    rw [e2, Int32.add_sub_cancel]
  have hmu : ∀ x y : Nat, nI (x * y) = nI x * nI y := fun x y => Int32.ofNat_mul x y
  have hlt : ∀ x : Nat, x < 4294967296 → x / ex_ab b ≤ 4294967296 := fun x h => Nat.le_of_lt (Nat.lt_of_le_of_lt (Nat.div_le_self _ _) h)
  rw [← hd]
  unfold ex_rem ex_div
  simp only [ex_bN, Nat.ble_eq]
  by_cases h1 : a ≤ 2147483647
  · rw [if_pos h1, if_pos h1]
    have hr : a % ex_ab b < 4294967296 := Nat.lt_of_le_of_lt (Nat.mod_le _ _) ha
    refine ⟨?_, hr⟩
    by_cases h2 : b ≤ 2147483647
    · rw [if_pos h2]
      have eb : ex_ab b = b := ex_ab_pos (by omega)
      rw [eb] at hm ⊢
      show nI (a % b) = nI a - nI (a / b) * nI b
      rw [← hmu, hm]
    · rw [if_neg h2]
      show nI (a % ex_ab b) = nI a - nI (ex_ng (a / ex_ab b)) * nI b
      rw [ex_neg (hlt a ha), ex_nab hb (by omega), Int32.neg_mul_neg, ← hmu, hm]
  · rw [if_neg h1, if_neg h1]
    have al : ex_ab a < 4294967296 := by rw [ex_ab_neg (by omega)]; omega
    refine ⟨?_, hmn _⟩
    have hra : ex_ab a % ex_ab b ≤ 4294967296 := Nat.le_of_lt (Nat.lt_of_le_of_lt (Nat.mod_le _ _) al)
    show nI (ex_ng (ex_ab a % ex_ab b)) = _
    rw [ex_neg hra]
    by_cases h2 : b ≤ 2147483647
    · rw [if_pos h2]
      have eb : ex_ab b = b := ex_ab_pos (by omega)
      show -nI (ex_ab a % ex_ab b) = nI a - nI (ex_ng (ex_ab a / b)) * nI b
      have hl2 := hlt (ex_ab a) al
      have hm2 := hm (ex_ab a)
      rw [eb] at hl2 hm2 ⊢
      rw [ex_neg hl2, Int32.neg_mul, ← hmu, Int32.sub_neg, ex_nab ha (by omega), ← hm2, Int32.neg_sub, Int32.add_comm, Int32.sub_eq_add_neg]
    · rw [if_neg h2]
      show -nI (ex_ab a % ex_ab b) = nI a - nI (Nat.mod (ex_ab a / ex_ab b) 4294967296) * nI b
      have : nI (Nat.mod (ex_ab a / ex_ab b) 4294967296) = nI (ex_ab a / ex_ab b) := ex_nm _
      rw [this, ex_nab hb (by omega), Int32.mul_neg, ← hmu, Int32.sub_neg, ex_nab ha (by omega), ← hm (ex_ab a), Int32.neg_sub, Int32.add_comm, Int32.sub_eq_add_neg]
/-- signed order, biased -/
def ex_B (x : Int32) : Nat := (x.toInt + 2147483648).toNat
theorem ex_xhb {n : Nat} (h : n < 2147483648) : n ^^^ 2147483648 = n + 2147483648 := by
  have h1 := Nat.two_pow_add_eq_or_of_lt (show n < 2 ^ 31 from h) 1
  rw [show n + 2147483648 = 2 ^ 31 * 1 + n by omega, h1]
  apply Nat.eq_of_testBit_eq
  intro i
  rw [Nat.testBit_xor, Nat.testBit_or, show (2147483648 : Nat) = 2 ^ 31 * 1 from rfl]
  by_cases hi : i < 31
  · rw [show (2 ^ 31 * 1 : Nat) = 2 ^ 31 from rfl, Nat.testBit_two_pow_of_ne (by omega)]; simp
  · rw [Nat.testBit_lt_two_pow (Nat.lt_of_lt_of_le (show n < 2 ^ 31 from h) (Nat.pow_le_pow_right (by decide) (by omega)))]; simp
theorem ex_xhb2 {n : Nat} (h : n < 4294967296) (h2 : 2147483648 ≤ n) : n ^^^ 2147483648 = n - 2147483648 := by
  have h1 := ex_xhb (n := n - 2147483648) (by omega)
  rw [Nat.sub_add_cancel h2] at h1
  have h3 : (n - 2147483648 ^^^ 2147483648) ^^^ 2147483648 = n - 2147483648 := by rw [Nat.xor_assoc, Nat.xor_self, Nat.xor_zero]
  rw [h1] at h3
  exact h3
theorem ex_B_n {n : Nat} (h : n < 4294967296) : ex_B (nI n) = ex_bi n := by
  unfold ex_B
  rw [ex_ti h]
  show _ = n ^^^ 2147483648
  by_cases q : n < 2147483648
  · rw [if_pos q, ex_xhb q]; omega
  · rw [if_neg q, ex_xhb2 h (by omega)]; omega
theorem ex_rg (x : Int32) : -2147483648 ≤ x.toInt ∧ x.toInt < 2147483648 := ⟨Int32.le_toInt x, Int32.toInt_lt x⟩
theorem ex_B_lt (x y : Int32) : x < y ↔ ex_B x < ex_B y := by
  have := ex_rg x; have := ex_rg y
  rw [Int32.lt_iff_toInt_lt]; unfold ex_B; omega
theorem ex_B_eq (x y : Int32) : x = y ↔ ex_B x = ex_B y := by
  have := ex_rg x; have := ex_rg y
  rw [← Int32.toInt_inj]; unfold ex_B; omega
theorem ex_B_le (x y : Int32) : x ≤ y ↔ ex_B x ≤ ex_B y := by
  have := ex_rg x; have := ex_rg y
  rw [Int32.le_iff_toInt_le]; unfold ex_B; omega
/-- what a run's variables are known to be -/
def ex_told (E : ex_G) (op a b r : Nat) : Prop := match op with
  | 1 => (r = 0 ∧ ¬ ex_iv E a < ex_iv E b) ∨ (r = 1 ∧ ex_iv E a < ex_iv E b)
  | 2 => (r = 0 ∧ ¬ ex_iv E a = ex_iv E b) ∨ (r = 1 ∧ ex_iv E a = ex_iv E b)
  | 3 => ex_iv E r = ex_iv E a + ex_iv E b | 4 => ex_iv E r = ex_iv E a - ex_iv E b | 5 => ex_iv E r = ex_iv E a * ex_iv E b
  | 6 => ex_iv E r = ex_iv E a &&& ex_iv E b | 7 => ex_iv E r = ex_iv E a ||| ex_iv E b | 8 => ex_iv E r = ex_iv E a ^^^ ex_iv E b
  | 9 => ex_iv E b ≠ 0 ∧ ex_iv E r = ex_iv E a / ex_iv E b | 10 => ex_iv E b ≠ 0 ∧ ex_iv E r = ex_iv E a - ex_iv E a / ex_iv E b * ex_iv E b
  | 11 => ex_iv E r = -ex_iv E a | 12 => ex_iv E r = ((ex_iv E a).toUInt32 % 65536).toInt32 | 13 => ex_iv E r = (ex_iv E a).toInt8.toInt32
  | 14 => ex_iv E r = lg_cmp (ex_lv E a) (ex_lv E b)
  | _ => True
def ex_VOK (E : ex_G) (V : ex_V) : Prop :=
  (∀ j q, ex_nth V.1 j = some q → q.1 ≤ ex_B (E.2.2.2 j) ∧ ex_B (E.2.2.2 j) ≤ q.2.1 ∧ ex_mem q.2.2 (ex_B (E.2.2.2 j)) = false) ∧
  ∀ op a b r, a < 1099511627776 → b < 1099511627776 → ex_find V.2 (ex_key op a b) = some r → ex_told E op a b r
theorem ex_rng_ok {E : ex_G} {V : ex_V} (hV : ex_VOK E V) {v : Nat} {q : Nat × Nat × List Nat} (h : ex_rng V v = some q) : q.1 ≤ ex_B (ex_iv E v) ∧ ex_B (ex_iv E v) ≤ q.2.1 ∧ ex_mem q.2.2 (ex_B (ex_iv E v)) = false := by
  unfold ex_rng at h
  by_cases hi : ex_isI v = true
  · rw [hi] at h
    have h' : some (ex_bi v, ex_bi v, ([] : List Nat)) = some q := h
    have h'' : (ex_bi v, ex_bi v, ([] : List Nat)) = q := Option.some.inj h'
    rw [← h'']
    have hv : v < 4294967296 := by have := Nat.le_of_ble_eq_true hi; omega
    rw [ex_iv_n hv, ex_B_n hv]
    generalize ex_bi v = z
    exact ⟨Nat.le_refl z, Nat.le_refl z, rfl⟩
  · rw [Bool.eq_false_iff.mpr hi] at h
    have h' : ex_nth V.1 (v - 4294967297) = some q := h
    have hv : ¬ v < 4294967296 := fun z => hi (Nat.ble_eq_true_of_le (by omega))
    have := hV.1 _ q h'
    unfold ex_iv
    rw [if_neg hv]
    exact this
theorem ex_blt {a b : Nat} : Nat.blt a b = true ↔ a < b := by rw [Nat.blt_eq]
theorem ex_lt_ok {E : ex_G} {V : ex_V} (hV : ex_VOK E V) {a b r : Nat} (ha : a < 1099511627776) (hb : b < 1099511627776) (h : ex_lt V a b = some r) : (r = 0 ∧ ¬ ex_iv E a < ex_iv E b) ∨ (r = 1 ∧ ex_iv E a < ex_iv E b) := by
  unfold ex_lt at h
  cases h1 : ex_rng V a with
  | none => rw [h1] at h; cases h
  | some x =>
    cases h2 : ex_rng V b with
    | none => rw [h1, h2] at h; cases h
    | some y =>
      rw [h1, h2] at h
      obtain ⟨x1, x2, -⟩ := ex_rng_ok hV h1
      obtain ⟨y1, y2, -⟩ := ex_rng_ok hV h2
      dsimp only at h
      cases c1 : Nat.blt x.2.1 y.1 with
      | true =>
        rw [c1] at h; cases h
        have := ex_blt.mp c1
        exact Or.inr ⟨rfl, (ex_B_lt _ _).mpr (by omega)⟩
      | false =>
        rw [c1] at h
        cases c2 : Nat.ble y.2.1 x.1 with
        | true =>
          rw [c2] at h; cases h
          have := Nat.le_of_ble_eq_true c2
          exact Or.inl ⟨rfl, fun z => by have := (ex_B_lt _ _).mp z; omega⟩
        | false => rw [c2] at h; exact hV.2 1 a b r ha hb h
theorem ex_eq_ok {E : ex_G} {V : ex_V} (hV : ex_VOK E V) {a b r : Nat} (ha : a < 1099511627776) (hb : b < 1099511627776) (h : ex_eq V a b = some r) : (r = 0 ∧ ¬ ex_iv E a = ex_iv E b) ∨ (r = 1 ∧ ex_iv E a = ex_iv E b) := by
  unfold ex_eq at h
  cases h1 : ex_rng V a with
  | none => rw [h1] at h; cases h
  | some x =>
    cases h2 : ex_rng V b with
    | none => rw [h1, h2] at h; cases h
    | some y =>
      rw [h1, h2] at h
      obtain ⟨x1, x2, x3⟩ := ex_rng_ok hV h1
      obtain ⟨y1, y2, y3⟩ := ex_rng_ok hV h2
      dsimp only at h
      cases c1 : (Nat.blt x.2.1 y.1 || Nat.blt y.2.1 x.1 || (ex_isI b && ex_mem x.2.2 (ex_bi b)) || (ex_isI a && ex_mem y.2.2 (ex_bi a))) with
      | true =>
        rw [c1] at h; cases h
        refine Or.inl ⟨rfl, fun z => ?_⟩
        have zB := (ex_B_eq _ _).mp z
        simp only [Bool.or_eq_true, Bool.and_eq_true, ex_blt] at c1
        rcases c1 with ((c | c) | ⟨c, d⟩) | ⟨c, d⟩
        · omega
        · omega
        · have hb : b < 4294967296 := by have := Nat.le_of_ble_eq_true c; omega
          rw [← ex_B_n hb, ← ex_iv_n (E := E) hb, ← zB, x3] at d; cases d
        · have ha : a < 4294967296 := by have := Nat.le_of_ble_eq_true c; omega
          rw [← ex_B_n ha, ← ex_iv_n (E := E) ha, zB, y3] at d; cases d
      | false => rw [c1] at h; exact hV.2 2 a b r ha hb h
theorem ex_lvL {E : ex_G} {v : Nat} (h : ex_isL v = true) : (ex_lv E v).toInt = (v : Int) - 412316860416 := by
  have := ex_isL_iff.mp h
  unfold ex_lv
  rw [if_neg (by omega), Int64.toInt_ofInt_of_le (by omega) (by omega)]
theorem ex_cmpE (x y : Int64) : lg_cmp x y = if x.toInt = y.toInt then nI 0 else if x.toInt < y.toInt then nI 4294967295 else nI 1 := by
  unfold lg_cmp
  by_cases h : x.toInt = y.toInt
  · rw [if_pos h, if_neg, if_pos (Int64.toInt_inj.mp h)]; rfl
    rw [gt_iff_lt, Int64.lt_iff_toInt_lt]; omega
  · rw [if_neg h]
    by_cases h2 : x.toInt < y.toInt
    · rw [if_pos h2, if_neg, if_neg (fun z => h (by rw [z]))]
      · decide
      · rw [gt_iff_lt, Int64.lt_iff_toInt_lt]; omega
    · rw [if_neg h2, if_pos]; rfl
      rw [gt_iff_lt, Int64.lt_iff_toInt_lt]; omega
theorem ex_i2bE {a : Nat} : (nI a).toInt8.toInt32 = nI (if a % 256 ≤ 127 then a % 256 else a % 256 + 4294967040) := by
  have h1 : (nI a).toInt8 = Int8.ofNat (a % 256) := by
    rw [show (nI a).toInt8 = Int8.ofNat a from Int32.toInt8_ofNat']
    apply Int8.toBitVec_inj.mp
    apply BitVec.eq_of_toNat_eq
    show (BitVec.ofNat 8 a).toNat = (BitVec.ofNat 8 (a % 256)).toNat
    simp
  rw [h1]
  have h2 : ∀ k, k < 256 → (Int8.ofNat k).toInt32 = nI (if k ≤ 127 then k else k + 4294967040) := by decide +kernel
  exact h2 _ (Nat.mod_lt _ (by decide))
