/-! the store's words -/
theorem ex_getE (M i : Nat) : ex_get M i = (M >>> (40 * i)) % 2 ^ 40 := rfl
theorem ex_setE (M i v : Nat) : ex_set M i v = M ^^^ ((ex_get M i ^^^ v) <<< (40 * i)) := rfl
theorem ex_tb (M i j : Nat) : (ex_get M i).testBit j = (decide (j < 40) && M.testBit (40 * i + j)) := by
  rw [ex_getE, Nat.testBit_mod_two_pow, Nat.testBit_shiftRight]
theorem ex_get_lt (M i : Nat) : ex_get M i < 1099511627776 := Nat.mod_lt _ (by decide)
theorem ex_hi {v : Nat} (h : v < 1099511627776) {j : Nat} (hj : 40 ≤ j) : v.testBit j = false :=
  Nat.testBit_lt_two_pow (Nat.lt_of_lt_of_le (show v < 2 ^ 40 from h) (Nat.pow_le_pow_right (by decide) hj))
theorem ex_xhi {a b : Nat} (ha : a < 1099511627776) (hb : b < 1099511627776) {j : Nat} (hj : 40 ≤ j) : (a ^^^ b).testBit j = false := by
  rw [Nat.testBit_xor, ex_hi ha hj, ex_hi hb hj]; rfl
theorem ex_get_set {M i v : Nat} (hv : v < 1099511627776) (j : Nat) : ex_get (ex_set M i v) j = if j = i then v else ex_get M j := by
  apply Nat.eq_of_testBit_eq
  intro b
  rw [ex_tb, ex_setE, Nat.testBit_xor, Nat.testBit_shiftLeft]
  by_cases hb : b < 40
  · by_cases e : j = i
    · subst e
      rw [if_pos rfl, show 40 * j + b - 40 * j = b by omega, Nat.testBit_xor, ex_tb]
      have h1 : (40 * j ≤ 40 * j + b) := by omega
      simp [hb, h1]
    · rw [if_neg e, ex_tb]
      rcases Nat.lt_or_ge j i with q | q
      · have : ¬ (40 * i ≤ 40 * j + b) := by omega
        simp [hb, this]
      · rw [ex_xhi (ex_get_lt M i) hv (show 40 ≤ 40 * j + b - 40 * i by omega)]
        simp [hb]
  · have hb' : 40 ≤ b := by omega
    rw [show decide (b < 40) = false by simp [hb]]
    split
    · rw [ex_hi hv hb']; rfl
    · rw [ex_hi (ex_get_lt M j) hb']; rfl
theorem ex_set_lt {M i v t : Nat} (hM : M < 2 ^ (40 * t)) (hi : i < t) (hv : v < 1099511627776) : ex_set M i v < 2 ^ (40 * t) := by
  apply Nat.lt_pow_two_of_testBit
  intro b hb
  rw [ex_setE, Nat.testBit_xor, Nat.testBit_shiftLeft, ex_xhi (ex_get_lt M i) hv (show 40 ≤ b - 40 * i by omega)]
  rw [Nat.testBit_lt_two_pow (Nat.lt_of_lt_of_le hM (Nat.pow_le_pow_right (by decide) hb))]
  simp
theorem ex_get_ge {M t : Nat} (hM : M < 2 ^ (40 * t)) {i : Nat} (hi : t ≤ i) : ex_get M i = 0 := by
  apply Nat.eq_of_testBit_eq
  intro b
  rw [ex_tb, Nat.testBit_lt_two_pow (Nat.lt_of_lt_of_le hM (Nat.pow_le_pow_right (by decide) (show 40 * t ≤ 40 * i + b by omega)))]
  simp
/-- a block behind the store -/
theorem ex_get_blk {M t B : Nat} (hM : M < 2 ^ (40 * t)) (j : Nat) : ex_get (M ^^^ (B <<< (40 * t))) j = if j < t then ex_get M j else ex_get B (j - t) := by
  apply Nat.eq_of_testBit_eq
  intro b
  rw [ex_tb, Nat.testBit_xor, Nat.testBit_shiftLeft]
  split
  · rename_i h
    rw [ex_tb]
    by_cases hb : b < 40
    · have : ¬ (40 * t ≤ 40 * j + b) := by omega
      simp [hb, this]
    · simp [hb]
  · rename_i h
    rw [ex_tb, Nat.testBit_lt_two_pow (Nat.lt_of_lt_of_le hM (Nat.pow_le_pow_right (by decide) (show 40 * t ≤ 40 * j + b by omega)))]
    have : 40 * t ≤ 40 * j + b := by omega
    rw [show 40 * j + b - 40 * t = 40 * (j - t) + b by omega]
    simp [this]
theorem ex_blk_lt {M t B n : Nat} (hM : M < 2 ^ (40 * t)) (hB : B < 2 ^ (40 * n)) : M ^^^ (B <<< (40 * t)) < 2 ^ (40 * (t + n)) := by
  apply Nat.lt_pow_two_of_testBit
  intro b hb
  rw [Nat.testBit_xor, Nat.testBit_shiftLeft, Nat.testBit_lt_two_pow (Nat.lt_of_lt_of_le hM (Nat.pow_le_pow_right (by decide) (show 40 * t ≤ b by omega))),
    Nat.testBit_lt_two_pow (Nat.lt_of_lt_of_le hB (Nat.pow_le_pow_right (by decide) (show 40 * n ≤ b - 40 * t by omega)))]
  simp
/-- a part of the store -/
theorem ex_get_part {M w n j : Nat} (hj : j < n) : ex_get ((M >>> (40 * w)) % 2 ^ (40 * n)) j = ex_get M (w + j) := by
  apply Nat.eq_of_testBit_eq
  intro b
  rw [ex_tb, ex_tb, Nat.testBit_mod_two_pow, Nat.testBit_shiftRight]
  by_cases hb : b < 40
  · have : 40 * j + b < 40 * n := by omega
    rw [show 40 * w + (40 * j + b) = 40 * (w + j) + b by omega]
    simp [hb, this]
  · simp [hb]
/-- n times 1 -/
theorem ex_rep (n : Nat) : (2 ^ (40 * (n + 1)) - 1) / 1099511627775 = 1 + 1099511627776 * ((2 ^ (40 * n) - 1) / 1099511627775) := by
  have h : ∀ n : Nat, ∃ r, 2 ^ (40 * n) = 1 + 1099511627775 * r := by
    intro n
    induction n with
    | zero => exact ⟨0, rfl⟩
    | succ n ih =>
      obtain ⟨r, hr⟩ := ih
      refine ⟨1 + 1099511627776 * r, ?_⟩
      rw [show 40 * (n + 1) = 40 * n + 40 by omega, Nat.pow_add, hr]
      omega
  obtain ⟨r, hr⟩ := h n
  have hr2 : 2 ^ (40 * (n + 1)) = 1 + 1099511627775 * (1 + 1099511627776 * r) := by
    rw [show 40 * (n + 1) = 40 * n + 40 by omega, Nat.pow_add, hr]
    omega
  rw [hr, hr2]
  omega
theorem ex_get_low {a b : Nat} (ha : a < 1099511627776) (j : Nat) : ex_get (a + 1099511627776 * b) j = if j = 0 then a else ex_get b (j - 1) := by
  have h1 : a + 1099511627776 * b = a ^^^ (b <<< (40 * 1)) := by
    rw [show a + 1099511627776 * b = 2 ^ 40 * b + a by omega, Nat.two_pow_add_eq_or_of_lt (show a < 2 ^ 40 from ha)]
    apply Nat.eq_of_testBit_eq
    intro k
    rw [Nat.testBit_or, Nat.testBit_xor, Nat.testBit_shiftLeft]
    rw [show 2 ^ 40 * b = b <<< 40 by rw [Nat.shiftLeft_eq, Nat.mul_comm], Nat.testBit_shiftLeft]
    rcases Nat.lt_or_ge k 40 with q | q
    · have : ¬ 40 ≤ k := by omega
      simp [this]
    · rw [ex_hi ha q]; simp
  rw [h1, ex_get_blk (show a < 2 ^ (40 * 1) from ha)]
  by_cases e : j = 0
  · subst e
    rw [if_pos (by decide), if_pos rfl, ex_getE]
    show a >>> 0 % 2 ^ 40 = a
    rw [Nat.shiftRight_zero]
    exact Nat.mod_eq_of_lt ha
  · rw [if_neg (by omega), if_neg e]
theorem ex_blkE (kd n z : Nat) : ex_blk kd n z = (kd + 256 * n) + 1099511627776 * (z * ((2 ^ (40 * n) - 1) / 1099511627775)) := by
  show (kd + 256 * n) + ((z * ((2 ^ (40 * n) - 1) / 1099511627775)) <<< 40) = _
  rw [Nat.shiftLeft_eq, Nat.mul_comm _ (2 ^ 40)]
theorem ex_get_rep {z : Nat} (hz : z < 1099511627776) : ∀ (n j : Nat), j < n → ex_get (z * ((2 ^ (40 * n) - 1) / 1099511627775)) j = z := by
  intro n
  induction n with
  | zero => intro j h; omega
  | succ n ih =>
    intro j hj
    rw [ex_rep, show z * (1 + 1099511627776 * ((2 ^ (40 * n) - 1) / 1099511627775)) = z + 1099511627776 * (z * ((2 ^ (40 * n) - 1) / 1099511627775)) by rw [Nat.mul_add, Nat.mul_one, Nat.mul_left_comm], ex_get_low hz]
    split
    · rfl
    · exact ih (j - 1) (by omega)
theorem ex_get_new {kd n z : Nat} (hk : kd < 256) (hn : n ≤ 200000) (hz : z < 1099511627776) (j : Nat) (hj : j ≤ n) : ex_get (ex_blk kd n z) j = if j = 0 then kd + 256 * n else z := by
  rw [ex_blkE, ex_get_low (by omega)]
  split
  · rfl
  · exact ex_get_rep hz n (j - 1) (by omega)
theorem ex_new_lt {kd n z : Nat} (hk : kd < 256) (hn : n ≤ 200000) (hz : z < 1099511627776) : ex_blk kd n z < 2 ^ (40 * (n + 1)) := by
  have h : ∀ n, z * ((2 ^ (40 * n) - 1) / 1099511627775) < 2 ^ (40 * n) := by
    intro n
    induction n with
    | zero => simp
    | succ n ih =>
      rw [ex_rep, show z * (1 + 1099511627776 * ((2 ^ (40 * n) - 1) / 1099511627775)) = z + 1099511627776 * (z * ((2 ^ (40 * n) - 1) / 1099511627775)) by rw [Nat.mul_add, Nat.mul_one, Nat.mul_left_comm],
        show 40 * (n + 1) = 40 * n + 40 by omega, Nat.pow_add]
      generalize z * ((2 ^ (40 * n) - 1) / 1099511627775) = y at ih ⊢
      generalize 2 ^ (40 * n) = Y at ih ⊢
      omega
  have h1 := h n
  rw [ex_blkE, show 40 * (n + 1) = 40 * n + 40 by omega, Nat.pow_add]
  generalize z * ((2 ^ (40 * n) - 1) / 1099511627775) = y at h1 ⊢
  generalize 2 ^ (40 * n) = Y at h1 ⊢
  omega
