noncomputable section
/-! the claim's start: every script of at most six ints -/
def lx_Os (L : Nat) : Nat := Nat.sub lx_O (Nat.mul 256 (Nat.sub 6 L))
theorem lx_OsOK : ∀ L, L < 6 → ex_get (lx_Os L) 0 = 64 + 256 * L ∧ ∀ k, k < L → ex_get (lx_Os L) (k + 1) = 4294967297 + k := by decide +kernel
def lx_okS (L : Nat) : Bool := @Option.rec (Nat × Nat) (fun _ => Bool) false (fun r => bx_and (Nat.beq r.1 1) (bx_and (Nat.ble (ex_gt r.2 1) 600006) (Nat.ble (ex_gt r.2 2) 7302039))) (cx_run lx_A0 ([], []) (xw_S (lx_Os L)) ex_km 30000 943 kt_389 0 (ex_pack [17179869184] 0 lx_u) [] 3)
theorem lx_s0 : lx_okS 0 = true := by decide +kernel
theorem lx_s1 : lx_okS 1 = true := by decide +kernel
theorem lx_s2 : lx_okS 2 = true := by decide +kernel
theorem lx_s3 : lx_okS 3 = true := by decide +kernel
theorem lx_s4 : lx_okS 4 = true := by decide +kernel
theorem lx_s5 : lx_okS 5 = true := by decide +kernel
theorem lx_short {L : Nat} {xs : Nat → Int32} (hL : L < 6) : lx_G (lx_v xs) L xs 0 (ex_pack [17179869184] 0 lx_u) 3 := by
  have h : lx_okS L = true := by
    match L, hL with
    | 0, _ => exact lx_s0
    | 1, _ => exact lx_s1
    | 2, _ => exact lx_s2
    | 3, _ => exact lx_s3
    | 4, _ => exact lx_s4
    | 5, _ => exact lx_s5
    | L + 6, h => omega
  unfold lx_okS at h
  cases hr : cx_run lx_A0 ([], []) (xw_S (lx_Os L)) ex_km 30000 943 kt_389 0 (ex_pack [17179869184] 0 lx_u) [] 3 with
  | none => rw [hr] at h; cases h
  | some r =>
    rw [hr] at h
    rw [ex_gtE] at h
    obtain ⟨h1, h⟩ := bx_andE (show bx_and (Nat.beq r.1 1) (bx_and (Nat.ble (ex_get r.2 1) 600006) (Nat.ble (ex_get r.2 2) 7302039)) = true from h)
    obtain ⟨h2, h3⟩ := bx_andE h
    obtain ⟨o1, o2⟩ := lx_OsOK L hL
    refine ⟨lx_Os L, ([], []), lx_A0, 30000, r, fun E hE => ⟨o1, fun k hk => ?_⟩, fun E hE => ⟨fun j q h => (by cases j <;> exact nomatch (show (none : Option (Nat × Nat × List Nat)) = some q from h)), fun op a b r _ _ h => nomatch (show (none : Option Nat) = some r from h)⟩, fun _ _ _ _ _ _ => ex_AOK0, hr, Nat.eq_of_beq_eq_true h1, Nat.le_of_ble_eq_true h2, Nat.le_of_ble_eq_true h3⟩
    rw [o2 k hk]
    refine ⟨ex_tI_iff.mpr (by omega), ?_⟩
    rw [lx_ivE hE, lx_iv]
    exact lx_v0 (by omega)
theorem lx_full {xs : Nat → Int32} : ∀ k, k < 64 → xs 0 &&& 63 = nI k → ∃ v : Nat → Int32, (∀ j, j < 6 → v j = xs j) ∧ lx_G v 6 xs (lx_t k) lx_L1 lx_M1 := by
  intro k hk h0
  have hx : ∀ j, j < 6 → lx_v xs j = xs j := fun j hj => lx_v0 hj
  have hV := lx_VfOK (E := E0 (lx_v xs)) hk h0
  have hO : lx_sOK xs lx_O := lx_v6 (E := E0 (lx_v xs)) hx
  match k, hk, hV, h0 with
  | 0, _, hV, _ => exact ⟨lx_v xs, hx, tr_0 xs hV hO⟩
  | 1, _, hV, _ => exact ⟨lx_v xs, hx, tr_1 xs hV hO⟩
  | 2, _, hV, _ => exact ⟨lx_v xs, hx, tr_2 xs hV hO⟩
  | 3, _, hV, _ => exact ⟨lx_v xs, hx, tr_3 xs hV hO⟩
  | 4, _, hV, _ => exact ⟨lx_v xs, hx, tr_4 xs hV hO⟩
  | 5, _, hV, _ => exact ⟨lx_v xs, hx, tr_5 xs hV hO⟩
  | 6, _, hV, _ => exact ⟨lx_v xs, hx, tr_6 xs hV hO⟩
  | 7, _, hV, _ => exact ⟨lx_v xs, hx, tr_7 xs hV hO⟩
  | 8, _, hV, _ => exact ⟨lx_v xs, hx, tr_8 xs hV hO⟩
  | 9, _, hV, _ => exact ⟨lx_v xs, hx, tr_9 xs hV hO⟩
  | 10, _, hV, _ => exact ⟨lx_v xs, hx, tr_10 xs hV hO⟩
  | 11, _, hV, _ => exact ⟨lx_v xs, hx, tr_11 xs hV hO⟩
  | 12, _, hV, _ => exact ⟨lx_v xs, hx, tr_12 xs hV hO⟩
  | 13, hk, _, h0 => exact ⟨ly_v xs, fun j hj => ly_v0 hj, tr_13 xs (lx_VfOK (E := E0 (ly_v xs)) hk h0) (fun e he => nomatch he) (lx_v6 (E := E0 (ly_v xs)) fun j hj => ly_v0 hj)⟩
  | 14, _, hV, _ => exact ⟨lx_v xs, hx, tr_14 xs hV hO⟩
  | 15, _, hV, _ => exact ⟨lx_v xs, hx, tr_15 xs hV hO⟩
  | 16, _, hV, _ => exact ⟨lx_v xs, hx, tr_16 xs hV hO⟩
  | 17, _, hV, _ => exact ⟨lx_v xs, hx, tr_17 xs hV hO⟩
  | 18, _, hV, _ => exact ⟨lx_v xs, hx, tr_18 xs hV hO⟩
  | 19, hk, _, h0 => exact ⟨lz_v xs, fun j hj => lz_v0 hj, tr_19 xs (lx_VfOK (E := E0 (lz_v xs)) hk h0) (lx_v6 (E := E0 (lz_v xs)) fun j hj => lz_v0 hj)⟩
  | 20, _, hV, _ => exact ⟨lx_v xs, hx, tr_20 xs hV hO⟩
  | 21, _, hV, _ => exact ⟨lx_v xs, hx, tr_21 xs hV hO⟩
  | 22, _, hV, _ => exact ⟨lx_v xs, hx, tr_22 xs hV hO⟩
  | 23, _, hV, _ => exact ⟨lx_v xs, hx, tr_23 xs hV hO⟩
  | 24, _, hV, _ => exact ⟨lx_v xs, hx, tr_24 xs hV hO⟩
  | 25, _, hV, _ => exact ⟨lx_v xs, hx, tr_25 xs hV hO⟩
  | 26, _, hV, _ => exact ⟨lx_v xs, hx, tr_26 xs hV hO⟩
  | 27, _, hV, _ => exact ⟨lx_v xs, hx, tr_27 xs hV hO⟩
  | 28, _, hV, _ => exact ⟨lx_v xs, hx, tr_28 xs hV hO⟩
  | 29, _, hV, _ => exact ⟨lx_v xs, hx, tr_29 xs hV hO⟩
  | 30, _, hV, _ => exact ⟨lx_v xs, hx, tr_30 xs hV hO⟩
  | 31, _, hV, _ => exact ⟨lx_v xs, hx, tr_31 xs hV hO⟩
  | 32, _, hV, _ => exact ⟨lx_v xs, hx, tr_32 xs hV hO⟩
  | 33, _, hV, _ => exact ⟨lx_v xs, hx, tr_33 xs hV hO⟩
  | 34, _, hV, _ => exact ⟨lx_v xs, hx, tr_34 xs hV hO⟩
  | 35, _, hV, _ => exact ⟨lx_v xs, hx, tr_35 xs hV hO⟩
  | 36, _, hV, _ => exact ⟨lx_v xs, hx, tr_36 xs hV hO⟩
  | 37, _, hV, _ => exact ⟨lx_v xs, hx, tr_37 xs hV hO⟩
  | 38, _, hV, _ => exact ⟨lx_v xs, hx, tr_38 xs hV hO⟩
  | 39, _, hV, _ => exact ⟨lx_v xs, hx, tr_39 xs hV hO⟩
  | 40, _, hV, _ => exact ⟨lx_v xs, hx, tr_40 xs hV hO⟩
  | 41, _, hV, _ => exact ⟨lx_v xs, hx, tr_41 xs hV hO⟩
  | 42, _, hV, _ => exact ⟨lx_v xs, hx, tr_42 xs hV hO⟩
  | 43, _, hV, _ => exact ⟨lx_v xs, hx, tr_43 xs hV hO⟩
  | 44, _, hV, _ => exact ⟨lx_v xs, hx, tr_44 xs hV hO⟩
  | 45, _, hV, _ => exact ⟨lx_v xs, hx, tr_45 xs hV hO⟩
  | 46, _, hV, _ => exact ⟨lx_v xs, hx, tr_46 xs hV hO⟩
  | 47, _, hV, _ => exact ⟨lx_v xs, hx, tr_47 xs hV hO⟩
  | 48, _, hV, _ => exact ⟨lx_v xs, hx, tr_48 xs hV hO⟩
  | 49, _, hV, _ => exact ⟨lx_v xs, hx, tr_49 xs hV hO⟩
  | 50, _, hV, _ => exact ⟨lx_v xs, hx, tr_50 xs hV hO⟩
  | 51, _, hV, _ => exact ⟨lx_v xs, hx, tr_51 xs hV hO⟩
  | 52, _, hV, _ => exact ⟨lx_v xs, hx, tr_52 xs hV hO⟩
  | 53, _, hV, _ => exact ⟨lx_v xs, hx, tr_53 xs hV hO⟩
  | 54, _, hV, _ => exact ⟨lx_v xs, hx, tr_54 xs hV hO⟩
  | 55, _, hV, _ => exact ⟨lx_v xs, hx, tr_55 xs hV hO⟩
  | 56, _, hV, _ => exact ⟨lx_v xs, hx, tr_56 xs hV hO⟩
  | 57, _, hV, _ => exact ⟨lx_v xs, hx, tr_57 xs hV hO⟩
  | 58, _, hV, _ => exact ⟨lx_v xs, hx, tr_58 xs hV hO⟩
  | 59, _, hV, _ => exact ⟨lx_v xs, hx, tr_59 xs hV hO⟩
  | 60, _, hV, _ => exact ⟨lx_v xs, hx, tr_60 xs hV hO⟩
  | 61, _, hV, _ => exact ⟨lx_v xs, hx, tr_61 xs hV hO⟩
  | 62, _, hV, _ => exact ⟨lx_v xs, hx, tr_62 xs hV hO⟩
  | 63, _, hV, _ => exact ⟨lx_v xs, hx, tr_63 xs hV hO⟩
  | k + 64, h, _, _ => omega
theorem lx_and (x : Int32) : ∃ k, k < 64 ∧ x &&& 63 = nI k := by
  obtain ⟨b1, b2⟩ := ex_Bi (x := x) rfl
  refine ⟨ex_bi (ex_B x) &&& 63, ?_, ?_⟩
  · have := Nat.and_lt_two_pow (ex_bi (ex_B x)) (show 63 < 2 ^ 6 by decide)
    exact this
  · have h := (ex_and b1 (show 63 < 4294967296 by decide)).1
    rw [b2] at h
    exact h.symm
theorem whole_start {p : Program} {e : Env} {s : State} {m : MethodId} {below : List Frame} {meth : Method} {c : Code} (l : Launch) (hflags : l.flags = flags0) {b L : Nat} {xs : Nat → Int32} (hL : L ≤ 6) (C0 : lw_At p s m meth c b L xs) : W p l e room_1 s m #[Value.ref b] below meth c s.heap [] 0 0 (lw_Z below #[Value.ref b] s) (entryFrame m ([Value.ref b] : List Value).toArray 10) := by
  by_cases h6 : L < 6
  · exact lx_start l hflags hL C0 (v := lx_v xs) (fun j hj => lx_v0 hj) (Or.inl ⟨h6, lx_short h6⟩)
  · have hL6 : L = 6 := by omega
    obtain ⟨k, hk, h0⟩ := lx_and (xs 0)
    obtain ⟨v, hv, hG⟩ := lx_full k hk h0
    exact lx_start l hflags hL C0 hv (Or.inr ⟨k, hL6, hk, h0, hG⟩)
end
