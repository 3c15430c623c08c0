noncomputable section
/-! cases: what is known of a script, and how it is divided -/
def lx_ch (x : Int32) : Int32 := (x.toUInt32 % 65536).toInt32
/-- the variables of a run, out of the script: its ints, their chars, these chars' bytes; products of its fourth, by its fifth, and what is over -/
def lx_v (xs : Nat → Int32) : Nat → Int32 := fun j =>
  if j < 6 then xs j else if j < 12 then lx_ch (xs (j - 6)) else if j < 18 then (lx_ch (xs (j - 12))).toInt8.toInt32
  else if j % 3 = 0 then nI ((j - 18) / 3 + 1) * xs 4 else if j % 3 = 1 then nI ((j - 18) / 3 + 1) * xs 4 / xs 5
  else nI ((j - 18) / 3 + 1) * xs 4 - nI ((j - 18) / 3 + 1) * xs 4 / xs 5 * xs 5
def E0 (v : Nat → Int32) : ex_G := ((fun _ => 0, fun _ _ => 0), fun _ => 0, fun _ => .null, v)
theorem lx_E0 {E : ex_G} {v : Nat → Int32} {V : ex_V} (hE : E.2.2.2 = v) (h : ex_VOK (E0 v) V) : ex_VOK E V := by
  subst hE
  exact h
theorem lx_ivE {E : ex_G} {v : Nat → Int32} (hE : E.2.2.2 = v) (x : Nat) : ex_iv E x = ex_iv (E0 v) x := by
  subst hE
  rfl
def lx_sOK (xs : Nat → Int32) (O : Nat) : Prop := ex_get O 0 = 64 + 256 * 6 ∧ ∀ k, k < 6 → ex_tI (ex_get O (k + 1)) = true ∧ ex_iv (E0 (lx_v xs)) (ex_get O (k + 1)) = xs k
/-- every script that is so ends with 1 -/
def lx_D (pc : Nat) (V : ex_V) (O : Nat) : Prop := ∀ xs : Nat → Int32, ex_VOK (E0 (lx_v xs)) V → lx_sOK xs O → lx_G (lx_v xs) 6 xs pc lx_L1 lx_M1
def lx_ok (pc : Nat) (V : ex_V) (O : Nat) : Bool := @Option.rec (Nat × Nat) (fun _ => Bool) false (fun r => bx_and (Nat.beq r.1 1) (bx_and (Nat.ble (ex_gt r.2 1) 600006) (Nat.ble (ex_gt r.2 2) 7302039))) (cx_run lx_A0 V (xw_S O) ex_km 30000 943 kt_389 pc lx_L1 [] lx_M1)
theorem dl {pc : Nat} {V : ex_V} {O : Nat} (h : lx_ok pc V O = true) : lx_D pc V O := by
  intro xs hV hO
  unfold lx_ok at h
  cases hr : cx_run lx_A0 V (xw_S O) ex_km 30000 943 kt_389 pc lx_L1 [] lx_M1 with
  | none => rw [hr] at h; cases h
  | some r =>
    rw [hr] at h
    rw [ex_gtE] at h
    obtain ⟨h1, h⟩ := bx_andE (show bx_and (Nat.beq r.1 1) (bx_and (Nat.ble (ex_get r.2 1) 600006) (Nat.ble (ex_get r.2 2) 7302039)) = true from h)
    obtain ⟨h2, h3⟩ := bx_andE h
    exact ⟨O, V, lx_A0, 30000, r, fun E hE => ⟨hO.1, fun k hk => ⟨(hO.2 k hk).1, by
      have := (hO.2 k hk).2
      rw [← this]
      exact lx_ivE hE _⟩⟩, fun E hE => lx_E0 hE hV, fun _ _ _ _ _ _ => ex_AOK0, hr, Nat.eq_of_beq_eq_true h1, Nat.le_of_ble_eq_true h2, Nat.le_of_ble_eq_true h3⟩
/-! what is known, made narrower -/
def vH (V : ex_V) (j a : Nat) : ex_V := (V.1.modify j (fun q => (q.1, a, q.2.2)), V.2)
def vL (V : ex_V) (j a : Nat) : ex_V := (V.1.modify j (fun q => (a, q.2.1, q.2.2)), V.2)
def vX (V : ex_V) (j a : Nat) : ex_V := (V.1.modify j (fun q => (q.1, q.2.1, a :: q.2.2)), V.2)
def vT (V : ex_V) (op a b r : Nat) : ex_V := (V.1, (ex_key op a b, r) :: V.2)
theorem ex_nthE {α : Type} : ∀ (l : List α) (j : Nat), ex_nth l j = l[j]? := by
  intro l
  induction l with
  | nil => intro j; cases j <;> rfl
  | cons a l ih =>
    intro j
    cases j with
    | zero => rfl
    | succ j => exact ih j
theorem vmod {E : ex_G} {V : ex_V} {j : Nat} {f : Nat × Nat × List Nat → Nat × Nat × List Nat} (hV : ex_VOK E V) (hf : ∀ q : Nat × Nat × List Nat, (q.1 ≤ ex_B (E.2.2.2 j) ∧ ex_B (E.2.2.2 j) ≤ q.2.1 ∧ ex_mem q.2.2 (ex_B (E.2.2.2 j)) = false) → ((f q).1 ≤ ex_B (E.2.2.2 j) ∧ ex_B (E.2.2.2 j) ≤ (f q).2.1 ∧ ex_mem (f q).2.2 (ex_B (E.2.2.2 j)) = false)) : ex_VOK E (V.1.modify j f, V.2) := by
  refine ⟨fun i q h => ?_, hV.2⟩
  rw [ex_nthE] at h
  have h : (V.1.modify j f)[i]? = some q := h
  rw [List.getElem?_modify] at h
  cases hq : V.1[i]? with
  | none => rw [hq] at h; cases h
  | some q0 =>
    rw [hq] at h
    have h : (if j = i then f q0 else q0) = q := Option.some.inj h
    have h0 := hV.1 i q0 (by rw [ex_nthE]; exact hq)
    by_cases e : j = i
    · subst e
      rw [if_pos rfl] at h
      rw [← h]
      exact hf q0 h0
    · rw [if_neg e] at h
      rw [← h]
      exact h0
theorem vH_ok {E : ex_G} {V : ex_V} {j a : Nat} (hV : ex_VOK E V) (h : ex_B (E.2.2.2 j) ≤ a) : ex_VOK E (vH V j a) := vmod hV fun q hq => ⟨hq.1, h, hq.2.2⟩
theorem vL_ok {E : ex_G} {V : ex_V} {j a : Nat} (hV : ex_VOK E V) (h : a ≤ ex_B (E.2.2.2 j)) : ex_VOK E (vL V j a) := vmod hV fun q hq => ⟨h, hq.2.1, hq.2.2⟩
theorem vX_ok {E : ex_G} {V : ex_V} {j a : Nat} (hV : ex_VOK E V) (h : ex_B (E.2.2.2 j) ≠ a) : ex_VOK E (vX V j a) := vmod hV fun q hq => ⟨hq.1, hq.2.1, by
  show (bif Nat.beq a (ex_B (E.2.2.2 j)) then true else ex_mem q.2.2 (ex_B (E.2.2.2 j))) = false
  rw [bx_ne (fun z => h z.symm)]
  exact hq.2.2⟩
theorem vT_ok {E : ex_G} {V : ex_V} {op a b r : Nat} (hV : ex_VOK E V) (ha : a < 1099511627776) (hb : b < 1099511627776) (h : ex_told E op a b r) : ex_VOK E (vT V op a b r) := by
  refine ⟨hV.1, fun op' a' b' r' ha' hb' hf => ?_⟩
  have hf : (bif Nat.beq (ex_key op a b) (ex_key op' a' b') then some r else ex_find V.2 (ex_key op' a' b')) = some r' := hf
  cases hk : Nat.beq (ex_key op a b) (ex_key op' a' b') with
  | true =>
    rw [hk] at hf
    have hf : some r = some r' := hf
    cases hf
    obtain ⟨rfl, rfl, rfl⟩ := ex_keyI ha hb ha' hb' (Nat.eq_of_beq_eq_true hk)
    exact h
  | false =>
    rw [hk] at hf
    exact hV.2 op' a' b' r' ha' hb' hf
/-- a's side and what lies above it -/
theorem dsp {pc : Nat} {V : ex_V} {O : Nat} (j a : Nat) (h1 : lx_D pc (vH V j a) O) (h2 : lx_D pc (vL V j (a + 1)) O) : lx_D pc V O := fun xs hV hO => by
  by_cases h : ex_B ((E0 (lx_v xs)).2.2.2 j) ≤ a
  · exact h1 xs (vH_ok hV h) hO
  · exact h2 xs (vL_ok hV (by omega)) hO
/-- nothing is so -/
def lx_em (V : ex_V) (j : Nat) : Bool := match V.1[j]? with | none => false | some q => (List.range (q.2.1 + 1 - q.1)).all fun i => ex_mem q.2.2 (q.1 + i)
theorem dab {pc : Nat} {V : ex_V} {O : Nat} (j : Nat) (h : lx_em V j = true) : lx_D pc V O := fun xs hV _ => by
  exfalso
  unfold lx_em at h
  cases hq : V.1[j]? with
  | none => rw [hq] at h; cases h
  | some q =>
    rw [hq] at h
    obtain ⟨g1, g2, g3⟩ := hV.1 j q (by rw [ex_nthE]; exact hq)
    have := List.all_eq_true.mp h (ex_B ((E0 (lx_v xs)).2.2.2 j) - q.1) (List.mem_range.mpr (by omega))
    rw [show q.1 + (ex_B ((E0 (lx_v xs)).2.2.2 j) - q.1) = ex_B ((E0 (lx_v xs)).2.2.2 j) by omega, g3] at this
    cases this
theorem ex_Bi {x : Int32} {a : Nat} (h : ex_B x = a) : ex_bi a < 4294967296 ∧ nI (ex_bi a) = x := by
  have hr := ex_rg x
  have ha : a < 4294967296 := by rw [← h]; unfold ex_B; omega
  have hb : ex_bi a < 4294967296 := by
    by_cases q : a < 2147483648
    · rw [show ex_bi a = a + 2147483648 from ex_xhb q]; omega
    · rw [show ex_bi a = a - 2147483648 from ex_xhb2 ha (by omega)]; omega
  refine ⟨hb, (ex_B_eq _ _).mpr ?_⟩
  rw [ex_B_n hb, h]
  show (a ^^^ 2147483648) ^^^ 2147483648 = a
  rw [Nat.xor_assoc, Nat.xor_self, Nat.xor_zero]
/-- the script's word j is the number a -/
def oS (O j a : Nat) : Nat := ex_set O (j + 1) (ex_bi a)
theorem oS_ok {xs : Nat → Int32} {O j a : Nat} (hj : j < 6) (hO : lx_sOK xs O) (h : ex_B (xs j) = a) : lx_sOK xs (oS O j a) := by
  obtain ⟨b1, b2⟩ := ex_Bi h
  have g : ∀ i, ex_get (oS O j a) i = if i = j + 1 then ex_bi a else ex_get O i := fun i => ex_get_set (by omega) i
  refine ⟨by rw [g, if_neg (by omega)]; exact hO.1, fun k hk => ?_⟩
  rw [g]
  by_cases e : k = j
  · subst e
    rw [if_pos rfl]
    exact ⟨bx_tI b1, by rw [ex_iv_n b1]; exact b2⟩
  · rw [if_neg (by omega)]
    exact hO.2 k hk
theorem lx_v0 {xs : Nat → Int32} {j : Nat} (hj : j < 6) : (E0 (lx_v xs)).2.2.2 j = xs j := if_pos hj
theorem lx_v1 {xs : Nat → Int32} {j : Nat} (hj : j < 6) : (E0 (lx_v xs)).2.2.2 (6 + j) = lx_ch (xs j) := by
  show lx_v xs (6 + j) = _
  unfold lx_v
  rw [if_neg (by omega), if_pos (by omega), Nat.add_sub_cancel_left]
theorem lx_iv {v : Nat → Int32} {j : Nat} : ex_iv (E0 v) (4294967297 + j) = v j := by
  unfold ex_iv
  rw [if_neg (by omega), Nat.add_sub_cancel_left]
  rfl
/-- the script's int j is a, or isn't -/
theorem deq {pc : Nat} {V : ex_V} {O : Nat} (j a : Nat) (hj : Nat.ble j 5 = true) (h1 : lx_D pc V (oS O j a)) (h2 : lx_D pc (vX V j a) O) : lx_D pc V O := fun xs hV hO => by
  have hj : j < 6 := by have := Nat.le_of_ble_eq_true hj; omega
  by_cases h : ex_B (xs j) = a
  · exact h1 xs hV (oS_ok hj hO h)
  · exact h2 xs (vX_ok hV (by rw [lx_v0 hj]; exact h)) hO
def lx_sg (V : ex_V) (j a : Nat) : Bool := match V.1[j]? with | none => false | some q => bx_and (Nat.beq q.1 a) (Nat.beq q.2.1 a)
theorem lx_sgE {E : ex_G} {V : ex_V} {j a : Nat} (hV : ex_VOK E V) (h : lx_sg V j a = true) : ex_B (E.2.2.2 j) = a := by
  unfold lx_sg at h
  cases hq : V.1[j]? with
  | none => rw [hq] at h; cases h
  | some q =>
    rw [hq] at h
    obtain ⟨h1, h2⟩ := bx_andE (show bx_and (Nat.beq q.1 a) (Nat.beq q.2.1 a) = true from h)
    obtain ⟨g1, g2, -⟩ := hV.1 j q (by rw [ex_nthE]; exact hq)
    have h1 := Nat.eq_of_beq_eq_true h1
    have h2 := Nat.eq_of_beq_eq_true h2
    omega
/-- only a is left -/
theorem dco {pc : Nat} {V : ex_V} {O : Nat} (j a : Nat) (hj : Nat.ble j 5 = true) (h : lx_sg V j a = true) (h1 : lx_D pc V (oS O j a)) : lx_D pc V O := fun xs hV hO => by
  have hj : j < 6 := by have := Nat.le_of_ble_eq_true hj; omega
  have := lx_sgE hV h
  rw [lx_v0 hj] at this
  exact h1 xs hV (oS_ok hj hO this)
/-- the char of the script's int j -/
theorem lx_chn {a : Nat} (ha : a < 4294967296) : lx_ch (nI a) = nI (a % 65536) := by
  symm
  show nI (a % 65536) = ((nI a).toUInt32 % 65536).toInt32
  rw [pk_char, ex_tn ha]
theorem lx_chB (x : Int32) : 2147483648 ≤ ex_B (lx_ch x) ∧ ex_B (lx_ch x) ≤ 2147549183 := by
  obtain ⟨b1, b2⟩ := ex_Bi (x := x) rfl
  rw [← b2, lx_chn b1]
  have h : ex_bi (ex_B x) % 65536 < 65536 := Nat.mod_lt _ (by decide)
  generalize ex_bi (ex_B x) % 65536 = n at h
  rw [ex_B_n (by omega), show ex_bi n = n + 2147483648 from ex_xhb (by omega)]
  omega
theorem dch {pc : Nat} {V : ex_V} {O : Nat} (j : Nat) (hj : Nat.ble j 5 = true) (h1 : lx_D pc (vT (vH (vL V (6 + j) 2147483648) (6 + j) 2147549183) 12 (4294967297 + j) 0 (4294967303 + j)) O) : lx_D pc V O := fun xs hV hO => by
  have hj : j < 6 := by have := Nat.le_of_ble_eq_true hj; omega
  refine h1 xs (vT_ok (vH_ok (vL_ok hV ?_) ?_) (by omega) (by decide) ?_) hO
  · rw [lx_v1 hj]; exact (lx_chB _).1
  · rw [lx_v1 hj]; exact (lx_chB _).2
  · show ex_iv (E0 (lx_v xs)) (4294967303 + j) = ((ex_iv (E0 (lx_v xs)) (4294967297 + j)).toUInt32 % 65536).toInt32
    rw [show 4294967303 + j = 4294967297 + (6 + j) by omega, lx_iv, lx_iv, show lx_v xs (6 + j) = lx_ch (xs j) from lx_v1 hj, show lx_v xs j = xs j from lx_v0 hj]
    rfl
/-- that char is a, or isn't -/
theorem lx_chT {xs : Nat → Int32} {j a : Nat} (hj : j < 6) (h : ex_B (lx_ch (xs j)) = a) : ex_told (E0 (lx_v xs)) 12 (4294967297 + j) 0 (ex_bi a) := by
  obtain ⟨b1, b2⟩ := ex_Bi h
  show ex_iv (E0 (lx_v xs)) (ex_bi a) = ((ex_iv (E0 (lx_v xs)) (4294967297 + j)).toUInt32 % 65536).toInt32
  rw [ex_iv_n b1, b2, lx_iv, show lx_v xs j = xs j from lx_v0 hj]
  rfl
theorem dce {pc : Nat} {V : ex_V} {O : Nat} (j a : Nat) (hj : Nat.ble j 5 = true) (h1 : lx_D pc (vT V 12 (4294967297 + j) 0 (ex_bi a)) O) (h2 : lx_D pc (vX V (6 + j) a) O) : lx_D pc V O := fun xs hV hO => by
  have hj : j < 6 := by have := Nat.le_of_ble_eq_true hj; omega
  by_cases h : ex_B (lx_ch (xs j)) = a
  · exact h1 xs (vT_ok hV (by omega) (by decide) (lx_chT hj h)) hO
  · exact h2 xs (vX_ok hV (by rw [lx_v1 hj]; exact h)) hO
theorem dcc {pc : Nat} {V : ex_V} {O : Nat} (j a : Nat) (hj : Nat.ble j 5 = true) (h : lx_sg V (6 + j) a = true) (h1 : lx_D pc (vT V 12 (4294967297 + j) 0 (ex_bi a)) O) : lx_D pc V O := fun xs hV hO => by
  have hj : j < 6 := by have := Nat.le_of_ble_eq_true hj; omega
  have := lx_sgE hV h
  rw [lx_v1 hj] at this
  exact h1 xs (vT_ok hV (by omega) (by decide) (lx_chT hj this)) hO
/-- the byte of that char -/
def lx_rg (V : ex_V) (j lo hi : Nat) : Bool := match V.1[j]? with | none => false | some q => bx_and (Nat.ble lo q.1) (Nat.ble q.2.1 hi)
theorem lx_rgE {E : ex_G} {V : ex_V} {j lo hi : Nat} (hV : ex_VOK E V) (h : lx_rg V j lo hi = true) : lo ≤ ex_B (E.2.2.2 j) ∧ ex_B (E.2.2.2 j) ≤ hi := by
  unfold lx_rg at h
  cases hq : V.1[j]? with
  | none => rw [hq] at h; cases h
  | some q =>
    rw [hq] at h
    obtain ⟨h1, h2⟩ := bx_andE (show bx_and (Nat.ble lo q.1) (Nat.ble q.2.1 hi) = true from h)
    obtain ⟨g1, g2, -⟩ := hV.1 j q (by rw [ex_nthE]; exact hq)
    have h1 := Nat.le_of_ble_eq_true h1
    have h2 := Nat.le_of_ble_eq_true h2
    omega
theorem lx_v2 {xs : Nat → Int32} {j : Nat} (hj : j < 6) : (E0 (lx_v xs)).2.2.2 (12 + j) = (lx_ch (xs j)).toInt8.toInt32 := by
  show lx_v xs (12 + j) = _
  unfold lx_v
  rw [if_neg (by omega), if_neg (by omega), if_pos (by omega), Nat.add_sub_cancel_left]
theorem lx_num {x : Int32} {lo hi : Nat} (h1 : 2147483648 ≤ ex_B x) (h2 : ex_B x < 4294967296) : ∃ n, x = nI n ∧ n + 2147483648 = ex_B x := by
  obtain ⟨b1, b2⟩ := ex_Bi (x := x) rfl
  rw [show ex_bi (ex_B x) = ex_B x - 2147483648 from ex_xhb2 h2 h1] at b2
  exact ⟨_, b2.symm, by omega⟩
theorem dba {pc : Nat} {V : ex_V} {O : Nat} (j : Nat) (hj : Nat.ble j 5 = true) (h : lx_rg V (6 + j) 2147483648 2147483775 = true) (h1 : lx_D pc (vT V 13 (4294967303 + j) 0 (4294967303 + j)) O) : lx_D pc V O := fun xs hV hO => by
  have hj : j < 6 := by have := Nat.le_of_ble_eq_true hj; omega
  obtain ⟨g1, g2⟩ := lx_rgE hV h
  refine h1 xs (vT_ok hV (by omega) (by decide) ?_) hO
  show ex_iv (E0 (lx_v xs)) (4294967303 + j) = (ex_iv (E0 (lx_v xs)) (4294967303 + j)).toInt8.toInt32
  rw [show 4294967303 + j = 4294967297 + (6 + j) by omega, lx_iv]
  have g1 : 2147483648 ≤ ex_B (lx_v xs (6 + j)) := g1
  have g2 : ex_B (lx_v xs (6 + j)) ≤ 2147483775 := g2
  obtain ⟨n, e, hn⟩ := lx_num (lo := 0) (hi := 0) g1 (by omega)
  rw [e, ex_i2bE, if_pos (by omega), Nat.mod_eq_of_lt (by omega)]
theorem dbb {pc : Nat} {V : ex_V} {O : Nat} (j : Nat) (hj : Nat.ble j 5 = true) (h : lx_rg V (6 + j) 2147483776 2147483903 = true) (h1 : lx_D pc (vT (vH (vL V (12 + j) 2147483520) (12 + j) 2147483647) 13 (4294967303 + j) 0 (4294967309 + j)) O) : lx_D pc V O := fun xs hV hO => by
  have hj : j < 6 := by have := Nat.le_of_ble_eq_true hj; omega
  obtain ⟨g1, g2⟩ := lx_rgE hV h
  rw [lx_v1 hj] at g1 g2
  obtain ⟨n, e, hn⟩ := lx_num (lo := 0) (hi := 0) (x := lx_ch (xs j)) (by omega) (by omega)
  have e2 : (lx_ch (xs j)).toInt8.toInt32 = nI (n + 4294967040) := by
    rw [e, ex_i2bE, if_neg (by omega), Nat.mod_eq_of_lt (by omega)]
  have e3 : ex_B ((E0 (lx_v xs)).2.2.2 (12 + j)) = n + 4294967040 - 2147483648 := by
    rw [lx_v2 hj, e2, ex_B_n (by omega)]
    exact ex_xhb2 (by omega) (by omega)
  refine h1 xs (vT_ok (vH_ok (vL_ok hV (by rw [e3]; omega)) (by rw [e3]; omega)) (by omega) (by decide) ?_) hO
  show ex_iv (E0 (lx_v xs)) (4294967309 + j) = (ex_iv (E0 (lx_v xs)) (4294967303 + j)).toInt8.toInt32
  rw [show 4294967303 + j = 4294967297 + (6 + j) by omega, show 4294967309 + j = 4294967297 + (12 + j) by omega, lx_iv, lx_iv, show lx_v xs (6 + j) = lx_ch (xs j) from lx_v1 hj]
  exact lx_v2 hj
/-- two variables compared -/
theorem dlt {pc : Nat} {V : ex_V} {O : Nat} (a b : Nat) (ha : Nat.ble a 8589934591 = true) (hb : Nat.ble b 8589934591 = true) (h1 : lx_D pc (vT V 1 a b 1) O) (h2 : lx_D pc (vT V 1 a b 0) O) : lx_D pc V O := fun xs hV hO => by
  have ha := Nat.le_of_ble_eq_true ha
  have hb := Nat.le_of_ble_eq_true hb
  by_cases h : ex_iv (E0 (lx_v xs)) a < ex_iv (E0 (lx_v xs)) b
  · exact h1 xs (vT_ok hV (by omega) (by omega) (Or.inr ⟨rfl, h⟩)) hO
  · exact h2 xs (vT_ok hV (by omega) (by omega) (Or.inl ⟨rfl, h⟩)) hO
/-! parts of a call: the fourth int over the fifth -/
theorem lx_v3 {xs : Nat → Int32} {t : Nat} : lx_v xs (18 + 3 * t) = nI (t + 1) * xs 4 ∧ lx_v xs (19 + 3 * t) = nI (t + 1) * xs 4 / xs 5 ∧ lx_v xs (20 + 3 * t) = nI (t + 1) * xs 4 - nI (t + 1) * xs 4 / xs 5 * xs 5 := by
  unfold lx_v
  refine ⟨?_, ?_, ?_⟩
  · rw [if_neg (by omega), if_neg (by omega), if_neg (by omega), if_pos (by omega), show (18 + 3 * t - 18) / 3 = t by omega]
  · rw [if_neg (by omega), if_neg (by omega), if_neg (by omega), if_neg (by omega), if_pos (by omega), show (19 + 3 * t - 18) / 3 = t by omega]
  · rw [if_neg (by omega), if_neg (by omega), if_neg (by omega), if_neg (by omega), if_neg (by omega), show (20 + 3 * t - 18) / 3 = t by omega]
/-- a product with the fourth int -/
theorem dmu {pc : Nat} {V : ex_V} {O : Nat} (t : Nat) (ht : Nat.ble t 99 = true) (h1 : lx_D pc (vT V 5 (t + 1) 4294967301 (4294967315 + 3 * t)) O) : lx_D pc V O := fun xs hV hO => by
  have ht := Nat.le_of_ble_eq_true ht
  refine h1 xs (vT_ok hV (by omega) (by decide) ?_) hO
  show ex_iv (E0 (lx_v xs)) (4294967315 + 3 * t) = ex_iv (E0 (lx_v xs)) (t + 1) * ex_iv (E0 (lx_v xs)) 4294967301
  rw [show 4294967315 + 3 * t = 4294967297 + (18 + 3 * t) by omega, lx_iv, ex_iv_n (by omega), show (4294967301 : Nat) = 4294967297 + 4 from rfl, lx_iv, lx_v3.1]
  rfl
def lx_iva (t : Nat) : Nat := 4294967315 + 3 * t
theorem lx_45 {xs : Nat → Int32} {V : ex_V} (hV : ex_VOK (E0 (lx_v xs)) V) (h4 : lx_rg V 4 2147483649 2147483660 = true) (h5 : lx_rg V 5 2147483649 2147483660 = true) : ∃ a b, 1 ≤ a ∧ a ≤ 12 ∧ 1 ≤ b ∧ b ≤ 12 ∧ xs 4 = nI a ∧ xs 5 = nI b := by
  obtain ⟨g1, g2⟩ := lx_rgE hV h4
  obtain ⟨g3, g4⟩ := lx_rgE hV h5
  rw [lx_v0 (by decide)] at g1 g2 g3 g4
  obtain ⟨a, e1, n1⟩ := lx_num (lo := 0) (hi := 0) (x := xs 4) (by omega) (by omega)
  obtain ⟨b, e2, n2⟩ := lx_num (lo := 0) (hi := 0) (x := xs 5) (by omega) (by omega)
  exact ⟨a, b, by omega, by omega, by omega, by omega, e1, e2⟩
def lx_q (c a b : Nat) : Int32 := nI c * nI a / nI b
def lx_m (c a b : Nat) : Int32 := nI c * nI a - nI c * nI a / nI b * nI b
/-- for all that there are of the two: nothing over, the quotient m, or something over -/
def lx_c1 (t : Nat) (ms : List Nat) : Bool := (List.range 13).all fun a => (List.range 13).all fun b => (!(decide (1 ≤ a) && decide (1 ≤ b))) || decide (nI b < nI a) || decide (lx_m (t + 1) a b ≠ 0) || ms.any fun m => decide (lx_q (t + 1) a b = nI m)
def lx_c2 (t m t2 n : Nat) : Bool := (List.range 13).all fun a => (List.range 13).all fun b => (!(decide (1 ≤ a) && decide (1 ≤ b))) || decide (lx_m (t + 1) a b ≠ 0) || decide (lx_q (t + 1) a b ≠ nI m) || decide (lx_q (t2 + 1) a b = nI n)
theorem lx_ne0 : ∀ b, b < 13 → 1 ≤ b → nI b ≠ 0 := by decide
/-- something is over -/
theorem dpa {pc : Nat} {V : ex_V} {O : Nat} (t : Nat) (ms : List Nat) (ht : Nat.ble t 99 = true) (h4 : lx_rg V 4 2147483649 2147483660 = true) (h5 : lx_rg V 5 2147483649 2147483660 = true) (hlt : ex_find V.2 (ex_key 1 4294967302 4294967301) = some 0) (hc : lx_c1 t ms = true)
    (h1 : lx_D pc (vT (vT (vX V (20 + 3 * t) 2147483648) 9 (4294967315 + 3 * t) 4294967302 (4294967316 + 3 * t)) 10 (4294967315 + 3 * t) 4294967302 (4294967317 + 3 * t)) O)
    (h2 : ∀ m ∈ ms, lx_D pc (vT (vT V 9 (4294967315 + 3 * t) 4294967302 m) 10 (4294967315 + 3 * t) 4294967302 0) O) (hm : (ms.all fun m => Nat.ble m 1000) = true) : lx_D pc V O := fun xs hV hO => by
  have ht := Nat.le_of_ble_eq_true ht
  obtain ⟨a, b, a1, a2, b1, b2, e4, e5⟩ := lx_45 hV h4 h5
  obtain ⟨v18, v19, v20⟩ := lx_v3 (xs := xs) (t := t)
  have i18 : ex_iv (E0 (lx_v xs)) (4294967315 + 3 * t) = nI (t + 1) * xs 4 := by rw [show 4294967315 + 3 * t = 4294967297 + (18 + 3 * t) by omega, lx_iv, v18]
  have i19 : ex_iv (E0 (lx_v xs)) (4294967316 + 3 * t) = nI (t + 1) * xs 4 / xs 5 := by rw [show 4294967316 + 3 * t = 4294967297 + (19 + 3 * t) by omega, lx_iv, v19]
  have i20 : ex_iv (E0 (lx_v xs)) (4294967317 + 3 * t) = nI (t + 1) * xs 4 - nI (t + 1) * xs 4 / xs 5 * xs 5 := by rw [show 4294967317 + 3 * t = 4294967297 + (20 + 3 * t) by omega, lx_iv, v20]
  have i5 : ex_iv (E0 (lx_v xs)) 4294967302 = xs 5 := by rw [show (4294967302 : Nat) = 4294967297 + 5 from rfl, lx_iv]; rfl
  have i4 : ex_iv (E0 (lx_v xs)) 4294967301 = xs 4 := by rw [show (4294967301 : Nat) = 4294967297 + 4 from rfl, lx_iv]; rfl
  have n5 : xs 5 ≠ 0 := by rw [e5]; exact lx_ne0 b (by omega) b1
  by_cases hz : nI (t + 1) * xs 4 - nI (t + 1) * xs 4 / xs 5 * xs 5 = 0
  · have hlt2 : ¬ nI b < nI a := by
      rcases hV.2 1 _ _ _ (by decide) (by decide) hlt with ⟨-, q⟩ | ⟨q, -⟩
      · rw [i5, i4, e4, e5] at q; exact q
      · cases q
    have := List.all_eq_true.mp (List.all_eq_true.mp hc a (List.mem_range.mpr (by omega))) b (List.mem_range.mpr (by omega))
    simp only [Bool.or_eq_true, Bool.not_eq_true', Bool.and_eq_false_iff, decide_eq_false_iff_not, decide_eq_true_eq, List.any_eq_true] at this
    have hex : ∃ m, m ∈ ms ∧ lx_q (t + 1) a b = nI m := by
      rcases this with ((h | h) | h) | h
      · omega
      · exact absurd h hlt2
      · refine absurd ?_ h
        rw [e4, e5] at hz
        exact hz
      · exact h
    obtain ⟨m, hm1, hm2⟩ := hex
    have hm3 := Nat.le_of_ble_eq_true (List.all_eq_true.mp hm m hm1)
    have hq : nI (t + 1) * xs 4 / xs 5 = nI m := by rw [e4, e5]; exact hm2
    refine h2 m hm1 xs (vT_ok (vT_ok hV (by omega) (by decide) ?_) (by omega) (by decide) ?_) hO
    · show ex_iv (E0 (lx_v xs)) 4294967302 ≠ 0 ∧ ex_iv (E0 (lx_v xs)) m = ex_iv (E0 (lx_v xs)) (4294967315 + 3 * t) / ex_iv (E0 (lx_v xs)) 4294967302
      rw [i5, i18, ex_iv_n (by omega), hq]
      exact ⟨n5, rfl⟩
    · show ex_iv (E0 (lx_v xs)) 4294967302 ≠ 0 ∧ ex_iv (E0 (lx_v xs)) 0 = ex_iv (E0 (lx_v xs)) (4294967315 + 3 * t) - ex_iv (E0 (lx_v xs)) (4294967315 + 3 * t) / ex_iv (E0 (lx_v xs)) 4294967302 * ex_iv (E0 (lx_v xs)) 4294967302
      rw [i5, i18, hz, ex_iv_n (by decide)]
      exact ⟨n5, rfl⟩
  · refine h1 xs (vT_ok (vT_ok (vX_ok hV ?_) (by omega) (by decide) ?_) (by omega) (by decide) ?_) hO
    · show ex_B (lx_v xs (20 + 3 * t)) ≠ 2147483648
      rw [v20]
      intro q
      refine hz ((ex_B_eq _ _).mpr ?_)
      rw [q]; rfl
    · show ex_iv (E0 (lx_v xs)) 4294967302 ≠ 0 ∧ ex_iv (E0 (lx_v xs)) (4294967316 + 3 * t) = ex_iv (E0 (lx_v xs)) (4294967315 + 3 * t) / ex_iv (E0 (lx_v xs)) 4294967302
      rw [i5, i18, i19]
      exact ⟨n5, rfl⟩
    · show ex_iv (E0 (lx_v xs)) 4294967302 ≠ 0 ∧ ex_iv (E0 (lx_v xs)) (4294967317 + 3 * t) = ex_iv (E0 (lx_v xs)) (4294967315 + 3 * t) - ex_iv (E0 (lx_v xs)) (4294967315 + 3 * t) / ex_iv (E0 (lx_v xs)) 4294967302 * ex_iv (E0 (lx_v xs)) 4294967302
      rw [i5, i18, i20]
      exact ⟨n5, rfl⟩
/-- another product's quotient, where the first is whole -/
theorem dra {pc : Nat} {V : ex_V} {O : Nat} (t m t2 n : Nat) (ht : Nat.ble t 99 = true) (ht2 : Nat.ble t2 99 = true) (hn : Nat.ble n 1000 = true) (hm : Nat.ble m 1000 = true) (h4 : lx_rg V 4 2147483649 2147483660 = true) (h5 : lx_rg V 5 2147483649 2147483660 = true)
    (f1 : ex_find V.2 (ex_key 9 (4294967315 + 3 * t) 4294967302) = some m) (f2 : ex_find V.2 (ex_key 10 (4294967315 + 3 * t) 4294967302) = some 0) (hc : lx_c2 t m t2 n = true)
    (h1 : lx_D pc (vT V 9 (4294967315 + 3 * t2) 4294967302 n) O) : lx_D pc V O := fun xs hV hO => by
  have ht := Nat.le_of_ble_eq_true ht
  have ht2 := Nat.le_of_ble_eq_true ht2
  have hn := Nat.le_of_ble_eq_true hn
  have hm := Nat.le_of_ble_eq_true hm
  obtain ⟨a, b, a1, a2, b1, b2, e4, e5⟩ := lx_45 hV h4 h5
  have i18 : ∀ t, ex_iv (E0 (lx_v xs)) (4294967315 + 3 * t) = nI (t + 1) * xs 4 := fun t => by rw [show 4294967315 + 3 * t = 4294967297 + (18 + 3 * t) by omega, lx_iv, lx_v3.1]
  have i5 : ex_iv (E0 (lx_v xs)) 4294967302 = xs 5 := by rw [show (4294967302 : Nat) = 4294967297 + 5 from rfl, lx_iv]; rfl
  have n5 : xs 5 ≠ 0 := by rw [e5]; exact lx_ne0 b (by omega) b1
  have g1 : ex_iv (E0 (lx_v xs)) 4294967302 ≠ 0 ∧ ex_iv (E0 (lx_v xs)) m = ex_iv (E0 (lx_v xs)) (4294967315 + 3 * t) / ex_iv (E0 (lx_v xs)) 4294967302 := hV.2 9 _ _ _ (by omega) (by decide) f1
  have g2 : ex_iv (E0 (lx_v xs)) 4294967302 ≠ 0 ∧ ex_iv (E0 (lx_v xs)) 0 = ex_iv (E0 (lx_v xs)) (4294967315 + 3 * t) - ex_iv (E0 (lx_v xs)) (4294967315 + 3 * t) / ex_iv (E0 (lx_v xs)) 4294967302 * ex_iv (E0 (lx_v xs)) 4294967302 := hV.2 10 _ _ _ (by omega) (by decide) f2
  rw [i5, i18, ex_iv_n (by omega), e4, e5] at g1 g2
  have := List.all_eq_true.mp (List.all_eq_true.mp hc a (List.mem_range.mpr (by omega))) b (List.mem_range.mpr (by omega))
  simp only [Bool.or_eq_true, Bool.not_eq_true', Bool.and_eq_false_iff, decide_eq_false_iff_not, decide_eq_true_eq] at this
  have hq : lx_q (t2 + 1) a b = nI n := by
    rcases this with ((h | h) | h) | h
    · omega
    · exact absurd g2.2.symm h
    · exact absurd g1.2.symm h
    · exact h
  refine h1 xs (vT_ok hV (by omega) (by decide) ?_) hO
  show ex_iv (E0 (lx_v xs)) 4294967302 ≠ 0 ∧ ex_iv (E0 (lx_v xs)) n = ex_iv (E0 (lx_v xs)) (4294967315 + 3 * t2) / ex_iv (E0 (lx_v xs)) 4294967302
  rw [i5, i18, ex_iv_n (by omega)]
  refine ⟨n5, ?_⟩
  rw [e4, e5]
  exact hq.symm
end
noncomputable section
/-! all that is known at first: the call -/
def lx_Vf (k : Nat) : ex_V := (List.replicate 40 (0, 4294967295, []), [(ex_key 6 4294967297 63, k)])
theorem lx_VfOK {E : ex_G} {k : Nat} (hk : k < 64) (h0 : E.2.2.2 0 &&& 63 = nI k) : ex_VOK E (lx_Vf k) := by
  refine ⟨fun j q h => ?_, (lx_VkOK hk h0).2⟩
  rw [ex_nthE] at h
  have h : (List.replicate 40 ((0, 4294967295, []) : Nat × Nat × List Nat))[j]? = some q := h
  rw [List.getElem?_replicate] at h
  split at h
  · have hq := (Option.some.inj h).symm
    subst hq
    have := ex_rg (E.2.2.2 j)
    refine ⟨Nat.zero_le _, ?_, rfl⟩
    show (_ : Int).toNat ≤ 4294967295
    omega
  · cases h
end
