noncomputable section
/-! dance: the comparisons as longs are variables too -/
def lz_v (xs : Nat → Int32) : Nat → Int32 := fun j => if j = 34 then lg_cmp (xs 4).toInt64 1 else if j = 35 then lg_cmp (xs 4).toInt64 12 else if j = 37 then lg_cmp (xs 5).toInt64 (xs 4).toInt64 else if j = 38 then lg_cmp (xs 5).toInt64 12 else lx_v xs j
theorem lz_v9 {xs : Nat → Int32} {j : Nat} (h1 : j ≠ 34) (h2 : j ≠ 35) (h3 : j ≠ 37) (h4 : j ≠ 38) : lz_v xs j = lx_v xs j := by
  unfold lz_v
  rw [if_neg h1, if_neg h2, if_neg h3, if_neg h4]
theorem lz_v0 {xs : Nat → Int32} {j : Nat} (hj : j < 6) : (E0 (lz_v xs)).2.2.2 j = xs j := (lz_v9 (by omega) (by omega) (by omega) (by omega)).trans (lx_v0 hj)
theorem lz_v1 {xs : Nat → Int32} {j : Nat} (hj : j < 6) : (E0 (lz_v xs)).2.2.2 (6 + j) = lx_ch (xs j) := (lz_v9 (by omega) (by omega) (by omega) (by omega)).trans (lx_v1 hj)
theorem lz_v2 {xs : Nat → Int32} {j : Nat} (hj : j < 6) : (E0 (lz_v xs)).2.2.2 (12 + j) = (lx_ch (xs j)).toInt8.toInt32 := (lz_v9 (by omega) (by omega) (by omega) (by omega)).trans (lx_v2 hj)
theorem lz_v3m {xs : Nat → Int32} {t : Nat} : lz_v xs (18 + 3 * t) = nI (t + 1) * xs 4 := (lz_v9 (by omega) (by omega) (by omega) (by omega)).trans lx_v3.1
theorem lz_v3 {xs : Nat → Int32} {t : Nat} (ht : t ≤ 4) : lz_v xs (18 + 3 * t) = nI (t + 1) * xs 4 ∧ lz_v xs (19 + 3 * t) = nI (t + 1) * xs 4 / xs 5 ∧ lz_v xs (20 + 3 * t) = nI (t + 1) * xs 4 - nI (t + 1) * xs 4 / xs 5 * xs 5 :=
  ⟨lz_v3m, (lz_v9 (by omega) (by omega) (by omega) (by omega)).trans lx_v3.2.1, (lz_v9 (by omega) (by omega) (by omega) (by omega)).trans lx_v3.2.2⟩
def lz_sOK (xs : Nat → Int32) (O : Nat) : Prop := ex_get O 0 = 64 + 256 * 6 ∧ ∀ k, k < 6 → ex_tI (ex_get O (k + 1)) = true ∧ ex_iv (E0 (lz_v xs)) (ex_get O (k + 1)) = xs k
def lz_D (pc : Nat) (V : ex_V) (O : Nat) : Prop := ∀ xs : Nat → Int32, ex_VOK (E0 (lz_v xs)) V → lz_sOK xs O → lx_G (lz_v xs) 6 xs pc lx_L1 lx_M1
theorem zl {pc : Nat} {V : ex_V} {O : Nat} (h : lx_ok pc V O = true) : lz_D pc V O := by
  intro xs hV hO
  unfold lx_ok at h
  cases hr : cx_run lx_A0 V (xw_S O) ex_km 30000 943 kt_389 pc lx_L1 [] lx_M1 with
  | none => rw [hr] at h; cases h
  | some r =>
    rw [hr] at h
    rw [ex_gtE] at h
    obtain ⟨h1, h⟩ := bx_andE (show bx_and (Nat.beq r.1 1) (bx_and (Nat.ble (ex_get r.2 1) 600006) (Nat.ble (ex_get r.2 2) 7302039)) = true from h)
    obtain ⟨h2, h3⟩ := bx_andE h
    exact ⟨O, V, lx_A0, 30000, r, fun E hE => ⟨hO.1, fun k hk => ⟨(hO.2 k hk).1, by
      have := (hO.2 k hk).2
      rw [← this]
      exact lx_ivE hE _⟩⟩, fun E hE => lx_E0 hE hV, fun _ _ _ _ _ _ => ex_AOK0, hr, Nat.eq_of_beq_eq_true h1, Nat.le_of_ble_eq_true h2, Nat.le_of_ble_eq_true h3⟩
/-- a's side and what lies above it -/
theorem zsp {pc : Nat} {V : ex_V} {O : Nat} (j a : Nat) (h1 : lz_D pc (vH V j a) O) (h2 : lz_D pc (vL V j (a + 1)) O) : lz_D pc V O := fun xs hV hO => by
  by_cases h : ex_B ((E0 (lz_v xs)).2.2.2 j) ≤ a
  · exact h1 xs (vH_ok hV h) hO
  · exact h2 xs (vL_ok hV (by omega)) hO
theorem zab {pc : Nat} {V : ex_V} {O : Nat} (j : Nat) (h : lx_em V j = true) : lz_D pc V O := fun xs hV _ => by
  exfalso
  unfold lx_em at h
  cases hq : V.1[j]? with
  | none => rw [hq] at h; cases h
  | some q =>
    rw [hq] at h
    obtain ⟨g1, g2, g3⟩ := hV.1 j q (by rw [ex_nthE]; exact hq)
    have := List.all_eq_true.mp h (ex_B ((E0 (lz_v xs)).2.2.2 j) - q.1) (List.mem_range.mpr (by omega))
    rw [show q.1 + (ex_B ((E0 (lz_v xs)).2.2.2 j) - q.1) = ex_B ((E0 (lz_v xs)).2.2.2 j) by omega, g3] at this
    cases this
theorem zS_ok {xs : Nat → Int32} {O j a : Nat} (hj : j < 6) (hO : lz_sOK xs O) (h : ex_B (xs j) = a) : lz_sOK xs (oS O j a) := by
  obtain ⟨b1, b2⟩ := ex_Bi h
  have g : ∀ i, ex_get (oS O j a) i = if i = j + 1 then ex_bi a else ex_get O i := fun i => ex_get_set (by omega) i
  refine ⟨by rw [g, if_neg (by omega)]; exact hO.1, fun k hk => ?_⟩
  rw [g]
  by_cases e : k = j
  · subst e
    rw [if_pos rfl]
    exact ⟨bx_tI b1, by rw [ex_iv_n b1]; exact b2⟩
  · rw [if_neg (by omega)]
    exact hO.2 k hk
/-- the script's int j is a, or isn't -/
theorem zeq {pc : Nat} {V : ex_V} {O : Nat} (j a : Nat) (hj : Nat.ble j 5 = true) (h1 : lz_D pc V (oS O j a)) (h2 : lz_D pc (vX V j a) O) : lz_D pc V O := fun xs hV hO => by
  have hj : j < 6 := by have := Nat.le_of_ble_eq_true hj; omega
  by_cases h : ex_B (xs j) = a
  · exact h1 xs hV (zS_ok hj hO h)
  · exact h2 xs (vX_ok hV (by rw [lz_v0 hj]; exact h)) hO
/-- only a is left -/
theorem zco {pc : Nat} {V : ex_V} {O : Nat} (j a : Nat) (hj : Nat.ble j 5 = true) (h : lx_sg V j a = true) (h1 : lz_D pc V (oS O j a)) : lz_D pc V O := fun xs hV hO => by
  have hj : j < 6 := by have := Nat.le_of_ble_eq_true hj; omega
  have := lx_sgE hV h
  rw [lz_v0 hj] at this
  exact h1 xs hV (zS_ok hj hO this)
theorem zch {pc : Nat} {V : ex_V} {O : Nat} (j : Nat) (hj : Nat.ble j 5 = true) (h1 : lz_D pc (vT (vH (vL V (6 + j) 2147483648) (6 + j) 2147549183) 12 (4294967297 + j) 0 (4294967303 + j)) O) : lz_D pc V O := fun xs hV hO => by
  have hj : j < 6 := by have := Nat.le_of_ble_eq_true hj; omega
  refine h1 xs (vT_ok (vH_ok (vL_ok hV ?_) ?_) (by omega) (by decide) ?_) hO
  · rw [lz_v1 hj]; exact (lx_chB _).1
  · rw [lz_v1 hj]; exact (lx_chB _).2
  · show ex_iv (E0 (lz_v xs)) (4294967303 + j) = ((ex_iv (E0 (lz_v xs)) (4294967297 + j)).toUInt32 % 65536).toInt32
    rw [show 4294967303 + j = 4294967297 + (6 + j) by omega, lx_iv, lx_iv, show lz_v xs (6 + j) = lx_ch (xs j) from lz_v1 hj, show lz_v xs j = xs j from lz_v0 hj]
    rfl
/-- that char is a, or isn't -/
theorem lz_chT {xs : Nat → Int32} {j a : Nat} (hj : j < 6) (h : ex_B (lx_ch (xs j)) = a) : ex_told (E0 (lz_v xs)) 12 (4294967297 + j) 0 (ex_bi a) := by
  obtain ⟨b1, b2⟩ := ex_Bi h
  show ex_iv (E0 (lz_v xs)) (ex_bi a) = ((ex_iv (E0 (lz_v xs)) (4294967297 + j)).toUInt32 % 65536).toInt32
  rw [ex_iv_n b1, b2, lx_iv, show lz_v xs j = xs j from lz_v0 hj]
  rfl
theorem zce {pc : Nat} {V : ex_V} {O : Nat} (j a : Nat) (hj : Nat.ble j 5 = true) (h1 : lz_D pc (vT V 12 (4294967297 + j) 0 (ex_bi a)) O) (h2 : lz_D pc (vX V (6 + j) a) O) : lz_D pc V O := fun xs hV hO => by
  have hj : j < 6 := by have := Nat.le_of_ble_eq_true hj; omega
  by_cases h : ex_B (lx_ch (xs j)) = a
  · exact h1 xs (vT_ok hV (by omega) (by decide) (lz_chT hj h)) hO
  · exact h2 xs (vX_ok hV (by rw [lz_v1 hj]; exact h)) hO
theorem zcc {pc : Nat} {V : ex_V} {O : Nat} (j a : Nat) (hj : Nat.ble j 5 = true) (h : lx_sg V (6 + j) a = true) (h1 : lz_D pc (vT V 12 (4294967297 + j) 0 (ex_bi a)) O) : lz_D pc V O := fun xs hV hO => by
  have hj : j < 6 := by have := Nat.le_of_ble_eq_true hj; omega
  have := lx_sgE hV h
  rw [lz_v1 hj] at this
  exact h1 xs (vT_ok hV (by omega) (by decide) (lz_chT hj this)) hO
theorem zba {pc : Nat} {V : ex_V} {O : Nat} (j : Nat) (hj : Nat.ble j 5 = true) (h : lx_rg V (6 + j) 2147483648 2147483775 = true) (h1 : lz_D pc (vT V 13 (4294967303 + j) 0 (4294967303 + j)) O) : lz_D pc V O := fun xs hV hO => by
  have hj : j < 6 := by have := Nat.le_of_ble_eq_true hj; omega
  obtain ⟨g1, g2⟩ := lx_rgE hV h
  refine h1 xs (vT_ok hV (by omega) (by decide) ?_) hO
  show ex_iv (E0 (lz_v xs)) (4294967303 + j) = (ex_iv (E0 (lz_v xs)) (4294967303 + j)).toInt8.toInt32
  rw [show 4294967303 + j = 4294967297 + (6 + j) by omega, lx_iv]
  have g1 : 2147483648 ≤ ex_B (lz_v xs (6 + j)) := g1
  have g2 : ex_B (lz_v xs (6 + j)) ≤ 2147483775 := g2
  obtain ⟨n, e, hn⟩ := lx_num (lo := 0) (hi := 0) g1 (by omega)
  rw [e, ex_i2bE, if_pos (by omega), Nat.mod_eq_of_lt (by omega)]
theorem zbb {pc : Nat} {V : ex_V} {O : Nat} (j : Nat) (hj : Nat.ble j 5 = true) (h : lx_rg V (6 + j) 2147483776 2147483903 = true) (h1 : lz_D pc (vT (vH (vL V (12 + j) 2147483520) (12 + j) 2147483647) 13 (4294967303 + j) 0 (4294967309 + j)) O) : lz_D pc V O := fun xs hV hO => by
  have hj : j < 6 := by have := Nat.le_of_ble_eq_true hj; omega
  obtain ⟨g1, g2⟩ := lx_rgE hV h
  rw [lz_v1 hj] at g1 g2
  obtain ⟨n, e, hn⟩ := lx_num (lo := 0) (hi := 0) (x := lx_ch (xs j)) (by omega) (by omega)
  have e2 : (lx_ch (xs j)).toInt8.toInt32 = nI (n + 4294967040) := by
    rw [e, ex_i2bE, if_neg (by omega), Nat.mod_eq_of_lt (by omega)]
  have e3 : ex_B ((E0 (lz_v xs)).2.2.2 (12 + j)) = n + 4294967040 - 2147483648 := by
    rw [lz_v2 hj, e2, ex_B_n (by omega)]
    exact ex_xhb2 (by omega) (by omega)
  refine h1 xs (vT_ok (vH_ok (vL_ok hV (by rw [e3]; omega)) (by rw [e3]; omega)) (by omega) (by decide) ?_) hO
  show ex_iv (E0 (lz_v xs)) (4294967309 + j) = (ex_iv (E0 (lz_v xs)) (4294967303 + j)).toInt8.toInt32
  rw [show 4294967303 + j = 4294967297 + (6 + j) by omega, show 4294967309 + j = 4294967297 + (12 + j) by omega, lx_iv, lx_iv, show lz_v xs (6 + j) = lx_ch (xs j) from lz_v1 hj]
  exact lz_v2 hj
/-- two variables compared -/
theorem zlt {pc : Nat} {V : ex_V} {O : Nat} (a b : Nat) (ha : Nat.ble a 8589934591 = true) (hb : Nat.ble b 8589934591 = true) (h1 : lz_D pc (vT V 1 a b 1) O) (h2 : lz_D pc (vT V 1 a b 0) O) : lz_D pc V O := fun xs hV hO => by
  have ha := Nat.le_of_ble_eq_true ha
  have hb := Nat.le_of_ble_eq_true hb
  by_cases h : ex_iv (E0 (lz_v xs)) a < ex_iv (E0 (lz_v xs)) b
  · exact h1 xs (vT_ok hV (by omega) (by omega) (Or.inr ⟨rfl, h⟩)) hO
  · exact h2 xs (vT_ok hV (by omega) (by omega) (Or.inl ⟨rfl, h⟩)) hO
/-- a product with the fourth int -/
theorem zmu {pc : Nat} {V : ex_V} {O : Nat} (t : Nat) (ht : Nat.ble t 99 = true) (h1 : lz_D pc (vT V 5 (t + 1) 4294967301 (4294967315 + 3 * t)) O) : lz_D pc V O := fun xs hV hO => by
  have ht := Nat.le_of_ble_eq_true ht
  refine h1 xs (vT_ok hV (by omega) (by decide) ?_) hO
  show ex_iv (E0 (lz_v xs)) (4294967315 + 3 * t) = ex_iv (E0 (lz_v xs)) (t + 1) * ex_iv (E0 (lz_v xs)) 4294967301
  rw [show 4294967315 + 3 * t = 4294967297 + (18 + 3 * t) by omega, lx_iv, ex_iv_n (by omega), show (4294967301 : Nat) = 4294967297 + 4 from rfl, lx_iv, lz_v3m]
  rfl
theorem lz_45 {xs : Nat → Int32} {V : ex_V} (hV : ex_VOK (E0 (lz_v xs)) V) (h4 : lx_rg V 4 2147483649 2147483660 = true) (h5 : lx_rg V 5 2147483649 2147483660 = true) : ∃ a b, 1 ≤ a ∧ a ≤ 12 ∧ 1 ≤ b ∧ b ≤ 12 ∧ xs 4 = nI a ∧ xs 5 = nI b := by
  obtain ⟨g1, g2⟩ := lx_rgE hV h4
  obtain ⟨g3, g4⟩ := lx_rgE hV h5
  rw [lz_v0 (by decide)] at g1 g2 g3 g4
  obtain ⟨a, e1, n1⟩ := lx_num (lo := 0) (hi := 0) (x := xs 4) (by omega) (by omega)
  obtain ⟨b, e2, n2⟩ := lx_num (lo := 0) (hi := 0) (x := xs 5) (by omega) (by omega)
  exact ⟨a, b, by omega, by omega, by omega, by omega, e1, e2⟩
/-- something is over -/
theorem zpa {pc : Nat} {V : ex_V} {O : Nat} (t : Nat) (ms : List Nat) (ht : Nat.ble t 4 = true) (h4 : lx_rg V 4 2147483649 2147483660 = true) (h5 : lx_rg V 5 2147483649 2147483660 = true) (hlt : ex_find V.2 (ex_key 1 4294967302 4294967301) = some 0) (hc : lx_c1 t ms = true)
    (h1 : lz_D pc (vT (vT (vX V (20 + 3 * t) 2147483648) 9 (4294967315 + 3 * t) 4294967302 (4294967316 + 3 * t)) 10 (4294967315 + 3 * t) 4294967302 (4294967317 + 3 * t)) O)
    (h2 : ∀ m ∈ ms, lz_D pc (vT (vT V 9 (4294967315 + 3 * t) 4294967302 m) 10 (4294967315 + 3 * t) 4294967302 0) O) (hm : (ms.all fun m => Nat.ble m 1000) = true) : lz_D pc V O := fun xs hV hO => by
  have ht := Nat.le_of_ble_eq_true ht
  obtain ⟨a, b, a1, a2, b1, b2, e4, e5⟩ := lz_45 hV h4 h5
  obtain ⟨v18, v19, v20⟩ := lz_v3 (xs := xs) (t := t) ht
  have i18 : ex_iv (E0 (lz_v xs)) (4294967315 + 3 * t) = nI (t + 1) * xs 4 := by rw [show 4294967315 + 3 * t = 4294967297 + (18 + 3 * t) by omega, lx_iv, v18]
  have i19 : ex_iv (E0 (lz_v xs)) (4294967316 + 3 * t) = nI (t + 1) * xs 4 / xs 5 := by rw [show 4294967316 + 3 * t = 4294967297 + (19 + 3 * t) by omega, lx_iv, v19]
  have i20 : ex_iv (E0 (lz_v xs)) (4294967317 + 3 * t) = nI (t + 1) * xs 4 - nI (t + 1) * xs 4 / xs 5 * xs 5 := by rw [show 4294967317 + 3 * t = 4294967297 + (20 + 3 * t) by omega, lx_iv, v20]
  have i5 : ex_iv (E0 (lz_v xs)) 4294967302 = xs 5 := by rw [show (4294967302 : Nat) = 4294967297 + 5 from rfl, lx_iv]; rfl
  have i4 : ex_iv (E0 (lz_v xs)) 4294967301 = xs 4 := by rw [show (4294967301 : Nat) = 4294967297 + 4 from rfl, lx_iv]; rfl
  have n5 : xs 5 ≠ 0 := by rw [e5]; exact lx_ne0 b (by omega) b1
  by_cases hz : nI (t + 1) * xs 4 - nI (t + 1) * xs 4 / xs 5 * xs 5 = 0
  · have hlt2 : ¬ nI b < nI a := by
      rcases hV.2 1 _ _ _ (by decide) (by decide) hlt with ⟨-, q⟩ | ⟨q, -⟩
      · rw [i5, i4, e4, e5] at q; exact q
      · cases q
    have := List.all_eq_true.mp (List.all_eq_true.mp hc a (List.mem_range.mpr (by omega))) b (List.mem_range.mpr (by omega))
    simp only [Bool.or_eq_true, Bool.not_eq_true', Bool.and_eq_false_iff, decide_eq_false_iff_not, decide_eq_true_eq, List.any_eq_true] at this
    have hex : ∃ m, m ∈ ms ∧ lx_q (t + 1) a b = nI m := by
      rcases this with ((h | h) | h) | h
      · omega
      · exact absurd h hlt2
      · refine absurd ?_ h
        rw [e4, e5] at hz
        exact hz
      · exact h
    obtain ⟨m, hm1, hm2⟩ := hex
    have hm3 := Nat.le_of_ble_eq_true (List.all_eq_true.mp hm m hm1)
    have hq : nI (t + 1) * xs 4 / xs 5 = nI m := by rw [e4, e5]; exact hm2
    refine h2 m hm1 xs (vT_ok (vT_ok hV (by omega) (by decide) ?_) (by omega) (by decide) ?_) hO
    · show ex_iv (E0 (lz_v xs)) 4294967302 ≠ 0 ∧ ex_iv (E0 (lz_v xs)) m = ex_iv (E0 (lz_v xs)) (4294967315 + 3 * t) / ex_iv (E0 (lz_v xs)) 4294967302
      rw [i5, i18, ex_iv_n (by omega), hq]
      exact ⟨n5, rfl⟩
    · show ex_iv (E0 (lz_v xs)) 4294967302 ≠ 0 ∧ ex_iv (E0 (lz_v xs)) 0 = ex_iv (E0 (lz_v xs)) (4294967315 + 3 * t) - ex_iv (E0 (lz_v xs)) (4294967315 + 3 * t) / ex_iv (E0 (lz_v xs)) 4294967302 * ex_iv (E0 (lz_v xs)) 4294967302
      rw [i5, i18, hz, ex_iv_n (by decide)]
      exact ⟨n5, rfl⟩
  · refine h1 xs (vT_ok (vT_ok (vX_ok hV ?_) (by omega) (by decide) ?_) (by omega) (by decide) ?_) hO
    · show ex_B (lz_v xs (20 + 3 * t)) ≠ 2147483648
      rw [v20]
      intro q
      refine hz ((ex_B_eq _ _).mpr ?_)
      rw [q]; rfl
    · show ex_iv (E0 (lz_v xs)) 4294967302 ≠ 0 ∧ ex_iv (E0 (lz_v xs)) (4294967316 + 3 * t) = ex_iv (E0 (lz_v xs)) (4294967315 + 3 * t) / ex_iv (E0 (lz_v xs)) 4294967302
      rw [i5, i18, i19]
      exact ⟨n5, rfl⟩
    · show ex_iv (E0 (lz_v xs)) 4294967302 ≠ 0 ∧ ex_iv (E0 (lz_v xs)) (4294967317 + 3 * t) = ex_iv (E0 (lz_v xs)) (4294967315 + 3 * t) - ex_iv (E0 (lz_v xs)) (4294967315 + 3 * t) / ex_iv (E0 (lz_v xs)) 4294967302 * ex_iv (E0 (lz_v xs)) 4294967302
      rw [i5, i18, i20]
      exact ⟨n5, rfl⟩
/-- another product's quotient, where the first is whole -/
theorem zra {pc : Nat} {V : ex_V} {O : Nat} (t m t2 n : Nat) (ht : Nat.ble t 99 = true) (ht2 : Nat.ble t2 99 = true) (hn : Nat.ble n 1000 = true) (hm : Nat.ble m 1000 = true) (h4 : lx_rg V 4 2147483649 2147483660 = true) (h5 : lx_rg V 5 2147483649 2147483660 = true)
    (f1 : ex_find V.2 (ex_key 9 (4294967315 + 3 * t) 4294967302) = some m) (f2 : ex_find V.2 (ex_key 10 (4294967315 + 3 * t) 4294967302) = some 0) (hc : lx_c2 t m t2 n = true)
    (h1 : lz_D pc (vT V 9 (4294967315 + 3 * t2) 4294967302 n) O) : lz_D pc V O := fun xs hV hO => by
  have ht := Nat.le_of_ble_eq_true ht
  have ht2 := Nat.le_of_ble_eq_true ht2
  have hn := Nat.le_of_ble_eq_true hn
  have hm := Nat.le_of_ble_eq_true hm
  obtain ⟨a, b, a1, a2, b1, b2, e4, e5⟩ := lz_45 hV h4 h5
  have i18 : ∀ t, ex_iv (E0 (lz_v xs)) (4294967315 + 3 * t) = nI (t + 1) * xs 4 := fun t => by rw [show 4294967315 + 3 * t = 4294967297 + (18 + 3 * t) by omega, lx_iv, lz_v3m]
  have i5 : ex_iv (E0 (lz_v xs)) 4294967302 = xs 5 := by rw [show (4294967302 : Nat) = 4294967297 + 5 from rfl, lx_iv]; rfl
  have n5 : xs 5 ≠ 0 := by rw [e5]; exact lx_ne0 b (by omega) b1
  have g1 : ex_iv (E0 (lz_v xs)) 4294967302 ≠ 0 ∧ ex_iv (E0 (lz_v xs)) m = ex_iv (E0 (lz_v xs)) (4294967315 + 3 * t) / ex_iv (E0 (lz_v xs)) 4294967302 := hV.2 9 _ _ _ (by omega) (by decide) f1
  have g2 : ex_iv (E0 (lz_v xs)) 4294967302 ≠ 0 ∧ ex_iv (E0 (lz_v xs)) 0 = ex_iv (E0 (lz_v xs)) (4294967315 + 3 * t) - ex_iv (E0 (lz_v xs)) (4294967315 + 3 * t) / ex_iv (E0 (lz_v xs)) 4294967302 * ex_iv (E0 (lz_v xs)) 4294967302 := hV.2 10 _ _ _ (by omega) (by decide) f2
  rw [i5, i18, ex_iv_n (by omega), e4, e5] at g1 g2
  have := List.all_eq_true.mp (List.all_eq_true.mp hc a (List.mem_range.mpr (by omega))) b (List.mem_range.mpr (by omega))
  simp only [Bool.or_eq_true, Bool.not_eq_true', Bool.and_eq_false_iff, decide_eq_false_iff_not, decide_eq_true_eq] at this
  have hq : lx_q (t2 + 1) a b = nI n := by
    rcases this with ((h | h) | h) | h
    · omega
    · exact absurd g2.2.symm h
    · exact absurd g1.2.symm h
    · exact h
  refine h1 xs (vT_ok hV (by omega) (by decide) ?_) hO
  show ex_iv (E0 (lz_v xs)) 4294967302 ≠ 0 ∧ ex_iv (E0 (lz_v xs)) n = ex_iv (E0 (lz_v xs)) (4294967315 + 3 * t2) / ex_iv (E0 (lz_v xs)) 4294967302
  rw [i5, i18, ex_iv_n (by omega)]
  refine ⟨n5, ?_⟩
  rw [e4, e5]
  exact hq.symm
theorem zc_ge {x y : Int64} (h : y.toInt ≤ x.toInt) : 2147483648 ≤ ex_B (lg_cmp x y) ∧ ex_B (lg_cmp x y) ≤ 2147483649 := by
  rw [ex_cmpE]
  split
  · decide
  · rw [if_neg (by omega)]; decide
theorem zc_le {x y : Int64} (h : x.toInt ≤ y.toInt) : 2147483647 ≤ ex_B (lg_cmp x y) ∧ ex_B (lg_cmp x y) ≤ 2147483648 := by
  rw [ex_cmpE]
  split
  · decide
  · rw [if_pos (by omega)]; decide
theorem zc_lo {x : Int32} {n : Nat} (h : n + 2147483648 ≤ ex_B x) : (n : Int) ≤ x.toInt := by
  unfold ex_B at h; have := ex_rg x; omega
theorem zc_hi {x : Int32} {n : Nat} (h : ex_B x ≤ n + 2147483648) : x.toInt ≤ (n : Int) := by
  unfold ex_B at h; have := ex_rg x; omega
theorem zc_l {v : Nat → Int32} {j : Nat} (hj : j < 60000) : ex_lv (E0 v) (68719476736 + j) = (v j).toInt64 := by
  unfold ex_lv
  rw [if_pos (by omega), Nat.add_sub_cancel_left]
  rfl
theorem zc_4 {xs : Nat → Int32} : ex_lv (E0 (lz_v xs)) 68719476740 = (xs 4).toInt64 := zc_l (j := 4) (by decide)
theorem zc_5 {xs : Nat → Int32} : ex_lv (E0 (lz_v xs)) 68719476741 = (xs 5).toInt64 := zc_l (j := 5) (by decide)
theorem zc_1 {E : ex_G} : ex_lv E 412316860417 = 1 := by
  unfold ex_lv
  rw [if_neg (by decide)]
  rfl
theorem zc_12 {E : ex_G} : ex_lv E 412316860428 = 12 := by
  unfold ex_lv
  rw [if_neg (by decide)]
  rfl
theorem z34 {pc : Nat} {V : ex_V} {O : Nat} (h : lx_rg V 4 2147483649 2147483660 = true) (h1 : lz_D pc (vT (vH (vL V 34 2147483648) 34 2147483649) 14 68719476740 412316860417 4294967331) O) : lz_D pc V O := fun xs hV hO => by
  obtain ⟨g1, g2⟩ := lx_rgE hV h
  rw [lz_v0 (by decide)] at g1 g2
  have k := zc_ge (x := (xs 4).toInt64) (y := 1) (by rw [Int32.toInt_toInt64]; exact zc_lo (n := 1) g1)
  refine h1 xs (vT_ok (vH_ok (vL_ok hV k.1) k.2) (by decide) (by decide) ?_) hO
  show ex_iv (E0 (lz_v xs)) (4294967297 + 34) = lg_cmp (ex_lv (E0 (lz_v xs)) 68719476740) (ex_lv (E0 (lz_v xs)) 412316860417)
  rw [lx_iv, zc_4, zc_1]; rfl
theorem z35 {pc : Nat} {V : ex_V} {O : Nat} (h : lx_rg V 4 2147483649 2147483660 = true) (h1 : lz_D pc (vT (vH (vL V 35 2147483647) 35 2147483648) 14 68719476740 412316860428 4294967332) O) : lz_D pc V O := fun xs hV hO => by
  obtain ⟨g1, g2⟩ := lx_rgE hV h
  rw [lz_v0 (by decide)] at g1 g2
  have k := zc_le (x := (xs 4).toInt64) (y := 12) (by rw [Int32.toInt_toInt64]; exact zc_hi (n := 12) g2)
  refine h1 xs (vT_ok (vH_ok (vL_ok hV k.1) k.2) (by decide) (by decide) ?_) hO
  show ex_iv (E0 (lz_v xs)) (4294967297 + 35) = lg_cmp (ex_lv (E0 (lz_v xs)) 68719476740) (ex_lv (E0 (lz_v xs)) 412316860428)
  rw [lx_iv, zc_4, zc_12]; rfl
theorem z38 {pc : Nat} {V : ex_V} {O : Nat} (h : lx_rg V 5 2147483649 2147483660 = true) (h1 : lz_D pc (vT (vH (vL V 38 2147483647) 38 2147483648) 14 68719476741 412316860428 4294967335) O) : lz_D pc V O := fun xs hV hO => by
  obtain ⟨g1, g2⟩ := lx_rgE hV h
  rw [lz_v0 (by decide)] at g1 g2
  have k := zc_le (x := (xs 5).toInt64) (y := 12) (by rw [Int32.toInt_toInt64]; exact zc_hi (n := 12) g2)
  refine h1 xs (vT_ok (vH_ok (vL_ok hV k.1) k.2) (by decide) (by decide) ?_) hO
  show ex_iv (E0 (lz_v xs)) (4294967297 + 38) = lg_cmp (ex_lv (E0 (lz_v xs)) 68719476741) (ex_lv (E0 (lz_v xs)) 412316860428)
  rw [lx_iv, zc_5, zc_12]; rfl
theorem zc_i5 {xs : Nat → Int32} : ex_iv (E0 (lz_v xs)) 4294967302 = xs 5 := by rw [show (4294967302 : Nat) = 4294967297 + 5 from rfl, lx_iv]; exact lz_v0 (xs := xs) (j := 5) (by decide)
theorem zc_i4 {xs : Nat → Int32} : ex_iv (E0 (lz_v xs)) 4294967301 = xs 4 := by rw [show (4294967301 : Nat) = 4294967297 + 4 from rfl, lx_iv]; exact lz_v0 (xs := xs) (j := 4) (by decide)
theorem z37 {pc : Nat} {V : ex_V} {O : Nat} (hlt : ex_find V.2 (ex_key 1 4294967302 4294967301) = some 0) (h1 : lz_D pc (vT (vH (vL V 37 2147483648) 37 2147483649) 14 68719476741 68719476740 4294967334) O) : lz_D pc V O := fun xs hV hO => by
  have q : ¬ xs 5 < xs 4 := by
    rcases hV.2 1 _ _ _ (by decide) (by decide) hlt with ⟨-, q⟩ | ⟨q, -⟩
    · rw [zc_i5, zc_i4] at q; exact q
    · cases q
  rw [Int32.lt_iff_toInt_lt] at q
  have k := zc_ge (x := (xs 5).toInt64) (y := (xs 4).toInt64) (by rw [Int32.toInt_toInt64, Int32.toInt_toInt64]; omega)
  refine h1 xs (vT_ok (vH_ok (vL_ok hV k.1) k.2) (by decide) (by decide) ?_) hO
  show ex_iv (E0 (lz_v xs)) (4294967297 + 37) = lg_cmp (ex_lv (E0 (lz_v xs)) 68719476741) (ex_lv (E0 (lz_v xs)) 68719476740)
  rw [lx_iv, zc_5, zc_4]; rfl
theorem zl5 {pc : Nat} {V : ex_V} {O : Nat} (hlt : ex_find V.2 (ex_key 1 4294967302 4294967301) = some 0) (h : lx_rg V 4 2147483649 2147483660 = true) (h1 : lz_D pc (vL V 5 2147483649) O) : lz_D pc V O := fun xs hV hO => by
  have q : ¬ xs 5 < xs 4 := by
    rcases hV.2 1 _ _ _ (by decide) (by decide) hlt with ⟨-, q⟩ | ⟨q, -⟩
    · rw [zc_i5, zc_i4] at q; exact q
    · cases q
  obtain ⟨g1, g2⟩ := lx_rgE hV h
  rw [lz_v0 (by decide)] at g1 g2
  rw [ex_B_lt] at q
  refine h1 xs (vL_ok hV ?_) hO
  rw [lz_v0 (by decide)]
  omega
theorem zlc1 {pc : Nat} {V : ex_V} {O : Nat} (hlt : ex_find V.2 (ex_key 1 4294967302 4294967301) = some 1) (h1 : lz_D pc (vT V 14 68719476741 68719476740 4294967295) O) : lz_D pc V O := fun xs hV hO => by
  refine h1 xs (vT_ok hV (by decide) (by decide) ?_) hO
  have q : xs 5 < xs 4 := by
    rcases hV.2 1 _ _ _ (by decide) (by decide) hlt with ⟨q, -⟩ | ⟨-, q⟩
    · cases q
    · rw [zc_i5, zc_i4] at q; exact q
  rw [Int32.lt_iff_toInt_lt] at q
  show ex_iv (E0 (lz_v xs)) 4294967295 = lg_cmp (ex_lv (E0 (lz_v xs)) 68719476741) (ex_lv (E0 (lz_v xs)) 68719476740)
  rw [zc_5, zc_4, ex_iv_n (by decide), ex_cmpE, if_neg (by rw [Int32.toInt_toInt64, Int32.toInt_toInt64]; omega), if_pos (by rw [Int32.toInt_toInt64, Int32.toInt_toInt64]; omega)]
end
