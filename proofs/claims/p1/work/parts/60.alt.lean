noncomputable section
/-! define: where a char is one of a constant's, String.indexOf answers a variable, after all alternatives were run -/
abbrev yE : Type := Nat × Nat × Nat × List (ex_V × Nat)
def y_u : Nat := 151115727451966085791744
def y_one (ST : Nat → Nat) (d s c M : Nat) (a : ex_V × Nat) : Bool := bx_and (Nat.ble (ex_rsum [s, c]) 2) (@Option.rec (Nat × Nat) (fun _ => Bool) false (fun r => bx_and (Nat.beq r.1 a.2) (Nat.beq r.2 M)) (cx_run lx_A0 a.1 ST ex_km 400 d kt_305 0 (g_pack [s, c] 0 y_u) [] M))
def y_chk (ST : Nat → Nat) (d s c M : Nat) (l : List (ex_V × Nat)) : Bool := @List.rec (ex_V × Nat) (fun _ => Bool) true (fun a _ ih => bx_and (y_one ST d s c M a) ih) l
def y_find (ST : Nat → Nat) (d s c M : Nat) (T : List yE) : Option ex_R := @List.rec yE (fun _ => Option ex_R) none (fun e _ ih => @Bool.rec (fun _ => Option ex_R) ih (@Bool.rec (fun _ => Option ex_R) none (some (some (e.2.2.1, M))) (y_chk ST d s c M e.2.2.2)) (bx_and (Nat.beq e.1 s) (Nat.beq e.2.1 c))) T
def yA (T : List yE) (ST : Nat → Nat) : ex_AL := fun d m as M => @Bool.rec (fun _ => Option ex_R) none (@List.rec Nat (fun _ => Option ex_R) none (fun s l _ => @List.rec Nat (fun _ => Option ex_R) none (fun c l2 _ => @List.rec Nat (fun _ => Option ex_R) (y_find ST d s c M T) (fun _ _ _ => none) l2) l) as) (Nat.beq m 305)
def y_TOK (E : ex_G) (T : List yE) : Prop := ∀ e ∈ T, ex_tI e.2.2.1 = true ∧ ∃ a ∈ e.2.2.2, ex_VOK E a.1 ∧ ex_tI a.2 = true ∧ ex_iv E e.2.2.1 = ex_iv E a.2
theorem y_chkE {ST : Nat → Nat} {d s c M : Nat} : ∀ {l : List (ex_V × Nat)}, y_chk ST d s c M l = true → ∀ a ∈ l, y_one ST d s c M a = true := by
  intro l
  induction l with
  | nil => intro _ a ha; cases ha
  | cons b l ih =>
    intro h a ha
    obtain ⟨h1, h2⟩ := bx_andE (show bx_and (y_one ST d s c M b) (y_chk ST d s c M l) = true from h)
    rcases List.mem_cons.mp ha with e | ha
    · subst e; exact h1
    · exact ih h2 a ha
theorem y_findE {ST : Nat → Nat} {d s c M : Nat} {rM : Nat × Nat} : ∀ {T : List yE}, y_find ST d s c M T = some (some rM) → ∃ e ∈ T, e.1 = s ∧ e.2.1 = c ∧ rM = (e.2.2.1, M) ∧ y_chk ST d s c M e.2.2.2 = true := by
  intro T
  induction T with
  | nil => intro h; exact nomatch (show (none : Option ex_R) = some (some rM) from h)
  | cons e T ih =>
    intro h
    have h : @Bool.rec (fun _ => Option ex_R) (y_find ST d s c M T) (@Bool.rec (fun _ => Option ex_R) none (some (some (e.2.2.1, M))) (y_chk ST d s c M e.2.2.2)) (bx_and (Nat.beq e.1 s) (Nat.beq e.2.1 c)) = some (some rM) := h
    cases hb : bx_and (Nat.beq e.1 s) (Nat.beq e.2.1 c) with
    | false =>
      rw [hb] at h
      obtain ⟨e', h1, h2⟩ := ih h
      exact ⟨e', List.mem_cons_of_mem _ h1, h2⟩
    | true =>
      rw [hb] at h
      obtain ⟨k1, k2⟩ := bx_andE hb
      have h : @Bool.rec (fun _ => Option ex_R) none (some (some (e.2.2.1, M))) (y_chk ST d s c M e.2.2.2) = some (some rM) := h
      cases hc : y_chk ST d s c M e.2.2.2 with
      | false => rw [hc] at h; cases h
      | true =>
        rw [hc] at h
        have h : some (some (e.2.2.1, M)) = some (some rM) := h
        cases h
        exact ⟨e, List.mem_cons_self, Nat.eq_of_beq_eq_true k1, Nat.eq_of_beq_eq_true k2, rfl, hc⟩
theorem y_AOK {l : Launch} {ST : Nat → Nat} {E : ex_G} {b : Nat} {H0 : Heap} {T : List yE} (hl : l.stackTraces = false) (hT : y_TOK E T) : ex_AOK l ex_Xc ex_inf ST E b H0 (yA T ST) := by
  intro d m as M rM h
  have h : @Bool.rec (fun _ => Option ex_R) none (@List.rec Nat (fun _ => Option ex_R) none (fun s l _ => @List.rec Nat (fun _ => Option ex_R) none (fun c l2 _ => @List.rec Nat (fun _ => Option ex_R) (y_find ST d s c M T) (fun _ _ _ => none) l2) l) as) (Nat.beq m 305) = some (some rM) := h
  cases hm : Nat.beq m 305 with
  | false => rw [hm] at h; cases h
  | true =>
    rw [hm] at h
    have hm := Nat.eq_of_beq_eq_true hm
    subst hm
    cases as with
    | nil => exact nomatch (show (none : Option ex_R) = some (some rM) from h)
    | cons s as =>
      cases as with
      | nil => exact nomatch (show (none : Option ex_R) = some (some rM) from h)
      | cons c as =>
        cases as with
        | cons z as => exact nomatch (show (none : Option ex_R) = some (some rM) from h)
        | nil =>
          have h : y_find ST d s c M T = some (some rM) := h
          obtain ⟨e, he, rfl, rfl, rfl, hc⟩ := y_findE h
          obtain ⟨t1, a, ha, hV, t2, hi⟩ := hT e he
          have h1 := y_chkE hc a ha
          unfold y_one at h1
          obtain ⟨h0, h1⟩ := bx_andE h1
          have hn : ex_rsum [e.1, e.2.1] ≤ 2 := Nat.le_of_ble_eq_true h0
          cases hr : cx_run lx_A0 a.1 ST ex_km 400 d kt_305 0 (g_pack [e.1, e.2.1] 0 y_u) [] M with
          | none => rw [hr] at h1; cases h1
          | some r =>
            rw [hr] at h1
            obtain ⟨g1, g2⟩ := bx_andE (show bx_and (Nat.beq r.1 a.2) (Nat.beq r.2 M) = true from h1)
            have g1 := Nat.eq_of_beq_eq_true g1
            have g2 := Nat.eq_of_beq_eq_true g2
            have hre : r = (a.2, M) := Prod.ext g1 g2
            rw [hre, g_packE] at hr
            have hk : ∀ (K : ex_K), K = (fun L S M' => if cx_run lx_A0 a.1 ST ex_km 400 d kt_305 0 L S M' = some (a.2, M) then some (e.2.2.1, M) else none) → ex_Cn l ex_Xc E b ST H0 (ex_inf 305) d [e.1, e.2.1] M (e.2.2.1, M) := by
              intro K hK
              · refine cx_met mk305 (K := K) ?_ hn ?_
                · intro G0 ad0 p e' R s m args below meth c mc ms rM c1 c2 c3 c4 c5 c6 c7 c8 c9 c10 c11 c12
                  intro L S M' hk
                  rw [hK] at hk
                  dsimp only at hk
                  split at hk
                  · rename_i hrun
                    have hrm := Option.some.inj hk
                    subst hrm
                    obtain ⟨z1, z2⟩ := cx_runZ (AL := lx_A0) ex_AOK0 (ex_kmOK hl hV ex_CWc ex_CTc) 400 d 305 (2, y_u, kt_305) rfl G0 ad0 p e' R s m args below meth c mc ms (a.2, M) c1 c2 c3 c4 c5 c6 c7 c8 c9 c10 c11 c12 0 L S M' hrun
                    refine ⟨z1, fun G ad ls st H locs cells slots q hc hs => bx_mono (fun a' s o t h => ?_) (fun x s t h => ?_) (z2 G ad ls st H locs cells slots q hc hs)⟩
                    · obtain ⟨G1, ad1, y1, y2, y3, y4, y5⟩ := h
                      have u1 := ex_I_lt t1
                      have u2 := ex_I_lt t2
                      refine ⟨G1, ad1, y1, y2, y3, (by show e.2.2.1 < _; omega), Or.inr ⟨(by show e.2.2.1 ≠ _; omega), ex_okc_lt u1.2, ?_⟩⟩
                      rcases y5 with ⟨y5, -⟩ | ⟨-, -, y5⟩
                      · have y5 : a.2 = 137438953473 := y5
                        omega
                      · rw [y5]
                        show Outcome.returned (some (ex_v E ad1 a.2)) = Outcome.returned (some (ex_v E ad1 e.2.2.1))
                        rw [ex_v_I t1, ex_v_I t2, hi]
                    · obtain ⟨G1, ad1, -, -, -, y4, -⟩ := h
                      have u2 := ex_I_lt t2
                      have y4 : 549755813888 ≤ a.2 := y4
                      omega
                  · cases hk
                · rw [hK]
                  exact if_pos hr
            exact hk _ rfl

/-- a constant's chars, by which int of the script is looked up, the class's and the reference's -/
def y_ls : Nat → Nat → List Nat := fun j w => match j, w with | 3, 0 => [117, 113, 112, 98, 103, 102, 104, 99, 116, 119, 120, 111, 114] | 3, 1 => [117, 113, 112, 98, 103, 102, 104, 99, 116, 119, 120, 114, 111] | 4, 0 => [97, 104, 115, 108, 114, 99, 101] | 4, 1 => [97, 104, 115, 108, 114, 99, 101] | 5, 0 => [45, 88, 89, 79, 80, 84, 67] | 5, 1 => [45, 88, 89, 79, 80, 84, 67] | _, _ => []
def y_sc : Nat → Nat → Nat := fun j w => match j, w with | 3, 0 => 17179869203 | 3, 1 => 17179869211 | 4, 0 => 17179869207 | 4, 1 => 17179869213 | 5, 0 => 17179869209 | 5, 1 => 17179869215 | _, _ => 0
def y_ix (l : List Nat) (x : Int32) : Int32 := match l.findIdx? (fun a => decide (nI a = x)) with | some p => nI p | none => 0
def ly_v (xs : Nat → Int32) : Nat → Int32 := fun j => if j < 18 then lx_v xs j else y_ix (y_ls ((j - 18) / 2 + 3) ((j - 18) % 2)) (lx_ch (xs ((j - 18) / 2 + 3)))
def ly_sOK (xs : Nat → Int32) (O : Nat) : Prop := ex_get O 0 = 64 + 256 * 6 ∧ ∀ k, k < 6 → ex_tI (ex_get O (k + 1)) = true ∧ ex_iv (E0 (ly_v xs)) (ex_get O (k + 1)) = xs k
def ly_D (T : List yE) (pc : Nat) (V : ex_V) (O : Nat) : Prop := ∀ xs : Nat → Int32, ex_VOK (E0 (ly_v xs)) V → y_TOK (E0 (ly_v xs)) T → ly_sOK xs O → lx_G (ly_v xs) 6 xs pc lx_L1 lx_M1
def ly_ok (T : List yE) (pc : Nat) (V : ex_V) (O : Nat) : Bool := @Option.rec (Nat × Nat) (fun _ => Bool) false (fun r => bx_and (Nat.beq r.1 1) (bx_and (Nat.ble (ex_gt r.2 1) 600006) (Nat.ble (ex_gt r.2 2) 7302039))) (cx_run (yA T (xw_S O)) V (xw_S O) ex_km 30000 943 kt_389 pc lx_L1 [] lx_M1)
theorem y_E0 {E : ex_G} {v : Nat → Int32} {T : List yE} (hE : E.2.2.2 = v) (h : y_TOK (E0 v) T) : y_TOK E T := by
  subst hE
  exact h
theorem yl {T : List yE} {pc : Nat} {V : ex_V} {O : Nat} (h : ly_ok T pc V O = true) : ly_D T pc V O := by
  intro xs hV hT hO
  unfold ly_ok at h
  cases hr : cx_run (yA T (xw_S O)) V (xw_S O) ex_km 30000 943 kt_389 pc lx_L1 [] lx_M1 with
  | none => rw [hr] at h; cases h
  | some r =>
    rw [hr] at h
    rw [ex_gtE] at h
    obtain ⟨h1, h⟩ := bx_andE (show bx_and (Nat.beq r.1 1) (bx_and (Nat.ble (ex_get r.2 1) 600006) (Nat.ble (ex_get r.2 2) 7302039)) = true from h)
    obtain ⟨h2, h3⟩ := bx_andE h
    exact ⟨O, V, yA T (xw_S O), 30000, r, fun E hE => ⟨hO.1, fun k hk => ⟨(hO.2 k hk).1, by
      have := (hO.2 k hk).2
      rw [← this]
      exact lx_ivE hE _⟩⟩, fun E hE => lx_E0 hE hV, fun _ E _ _ hl hE => y_AOK hl (y_E0 hE hT), hr, Nat.eq_of_beq_eq_true h1, Nat.le_of_ble_eq_true h2, Nat.le_of_ble_eq_true h3⟩
/-- a's side and what lies above it -/
theorem ysp {T : List yE} {pc : Nat} {V : ex_V} {O : Nat} (j a : Nat) (h1 : ly_D T pc (vH V j a) O) (h2 : ly_D T pc (vL V j (a + 1)) O) : ly_D T pc V O := fun xs hV hT hO => by
  by_cases h : ex_B ((E0 (ly_v xs)).2.2.2 j) ≤ a
  · exact h1 xs (vH_ok hV h) hT hO
  · exact h2 xs (vL_ok hV (by omega)) hT hO
theorem yab {T : List yE} {pc : Nat} {V : ex_V} {O : Nat} (j : Nat) (h : lx_em V j = true) : ly_D T pc V O := fun xs hV _ _ => by
  exfalso
  unfold lx_em at h
  cases hq : V.1[j]? with
  | none => rw [hq] at h; cases h
  | some q =>
    rw [hq] at h
    obtain ⟨g1, g2, g3⟩ := hV.1 j q (by rw [ex_nthE]; exact hq)
    have := List.all_eq_true.mp h (ex_B ((E0 (ly_v xs)).2.2.2 j) - q.1) (List.mem_range.mpr (by omega))
    rw [show q.1 + (ex_B ((E0 (ly_v xs)).2.2.2 j) - q.1) = ex_B ((E0 (ly_v xs)).2.2.2 j) by omega, g3] at this
    cases this
theorem yS_ok {xs : Nat → Int32} {O j a : Nat} (hj : j < 6) (hO : ly_sOK xs O) (h : ex_B (xs j) = a) : ly_sOK xs (oS O j a) := by
  obtain ⟨b1, b2⟩ := ex_Bi h
  have g : ∀ i, ex_get (oS O j a) i = if i = j + 1 then ex_bi a else ex_get O i := fun i => ex_get_set (by omega) i
  refine ⟨by rw [g, if_neg (by omega)]; exact hO.1, fun k hk => ?_⟩
  rw [g]
  by_cases e : k = j
  · subst e
    rw [if_pos rfl]
    exact ⟨bx_tI b1, by rw [ex_iv_n b1]; exact b2⟩
  · rw [if_neg (by omega)]
    exact hO.2 k hk
theorem ly_v9 {xs : Nat → Int32} {j : Nat} (hj : j < 18) : ly_v xs j = lx_v xs j := if_pos hj
theorem ly_v0 {xs : Nat → Int32} {j : Nat} (hj : j < 6) : (E0 (ly_v xs)).2.2.2 j = xs j := (ly_v9 (by omega)).trans (lx_v0 hj)
theorem ly_v1 {xs : Nat → Int32} {j : Nat} (hj : j < 6) : (E0 (ly_v xs)).2.2.2 (6 + j) = lx_ch (xs j) := (ly_v9 (by omega)).trans (lx_v1 hj)
theorem ly_v2 {xs : Nat → Int32} {j : Nat} (hj : j < 6) : (E0 (ly_v xs)).2.2.2 (12 + j) = (lx_ch (xs j)).toInt8.toInt32 := (ly_v9 (by omega)).trans (lx_v2 hj)
/-- the script's int j is a, or isn't -/
theorem yeq {T : List yE} {pc : Nat} {V : ex_V} {O : Nat} (j a : Nat) (hj : Nat.ble j 5 = true) (h1 : ly_D T pc V (oS O j a)) (h2 : ly_D T pc (vX V j a) O) : ly_D T pc V O := fun xs hV hT hO => by
  have hj : j < 6 := by have := Nat.le_of_ble_eq_true hj; omega
  by_cases h : ex_B (xs j) = a
  · exact h1 xs hV hT (yS_ok hj hO h)
  · exact h2 xs (vX_ok hV (by rw [ly_v0 hj]; exact h)) hT hO
/-- only a is left -/
theorem yco {T : List yE} {pc : Nat} {V : ex_V} {O : Nat} (j a : Nat) (hj : Nat.ble j 5 = true) (h : lx_sg V j a = true) (h1 : ly_D T pc V (oS O j a)) : ly_D T pc V O := fun xs hV hT hO => by
  have hj : j < 6 := by have := Nat.le_of_ble_eq_true hj; omega
  have := lx_sgE hV h
  rw [ly_v0 hj] at this
  exact h1 xs hV hT (yS_ok hj hO this)
theorem ych {T : List yE} {pc : Nat} {V : ex_V} {O : Nat} (j : Nat) (hj : Nat.ble j 5 = true) (h1 : ly_D T pc (vT (vH (vL V (6 + j) 2147483648) (6 + j) 2147549183) 12 (4294967297 + j) 0 (4294967303 + j)) O) : ly_D T pc V O := fun xs hV hT hO => by
  have hj : j < 6 := by have := Nat.le_of_ble_eq_true hj; omega
  refine h1 xs (vT_ok (vH_ok (vL_ok hV ?_) ?_) (by omega) (by decide) ?_) hT hO
  · rw [ly_v1 hj]; exact (lx_chB _).1
  · rw [ly_v1 hj]; exact (lx_chB _).2
  · show ex_iv (E0 (ly_v xs)) (4294967303 + j) = ((ex_iv (E0 (ly_v xs)) (4294967297 + j)).toUInt32 % 65536).toInt32
    rw [show 4294967303 + j = 4294967297 + (6 + j) by omega, lx_iv, lx_iv, show ly_v xs (6 + j) = lx_ch (xs j) from ly_v1 hj, show ly_v xs j = xs j from ly_v0 hj]
    rfl
/-- that char is a, or isn't -/
theorem ly_chT {xs : Nat → Int32} {j a : Nat} (hj : j < 6) (h : ex_B (lx_ch (xs j)) = a) : ex_told (E0 (ly_v xs)) 12 (4294967297 + j) 0 (ex_bi a) := by
  obtain ⟨b1, b2⟩ := ex_Bi h
  show ex_iv (E0 (ly_v xs)) (ex_bi a) = ((ex_iv (E0 (ly_v xs)) (4294967297 + j)).toUInt32 % 65536).toInt32
  rw [ex_iv_n b1, b2, lx_iv, show ly_v xs j = xs j from ly_v0 hj]
  rfl
theorem yce {T : List yE} {pc : Nat} {V : ex_V} {O : Nat} (j a : Nat) (hj : Nat.ble j 5 = true) (h1 : ly_D T pc (vT V 12 (4294967297 + j) 0 (ex_bi a)) O) (h2 : ly_D T pc (vX V (6 + j) a) O) : ly_D T pc V O := fun xs hV hT hO => by
  have hj : j < 6 := by have := Nat.le_of_ble_eq_true hj; omega
  by_cases h : ex_B (lx_ch (xs j)) = a
  · exact h1 xs (vT_ok hV (by omega) (by decide) (ly_chT hj h)) hT hO
  · exact h2 xs (vX_ok hV (by rw [ly_v1 hj]; exact h)) hT hO
theorem ycc {T : List yE} {pc : Nat} {V : ex_V} {O : Nat} (j a : Nat) (hj : Nat.ble j 5 = true) (h : lx_sg V (6 + j) a = true) (h1 : ly_D T pc (vT V 12 (4294967297 + j) 0 (ex_bi a)) O) : ly_D T pc V O := fun xs hV hT hO => by
  have hj : j < 6 := by have := Nat.le_of_ble_eq_true hj; omega
  have := lx_sgE hV h
  rw [ly_v1 hj] at this
  exact h1 xs (vT_ok hV (by omega) (by decide) (ly_chT hj this)) hT hO
theorem yba {T : List yE} {pc : Nat} {V : ex_V} {O : Nat} (j : Nat) (hj : Nat.ble j 5 = true) (h : lx_rg V (6 + j) 2147483648 2147483775 = true) (h1 : ly_D T pc (vT V 13 (4294967303 + j) 0 (4294967303 + j)) O) : ly_D T pc V O := fun xs hV hT hO => by
  have hj : j < 6 := by have := Nat.le_of_ble_eq_true hj; omega
  obtain ⟨g1, g2⟩ := lx_rgE hV h
  refine h1 xs (vT_ok hV (by omega) (by decide) ?_) hT hO
  show ex_iv (E0 (ly_v xs)) (4294967303 + j) = (ex_iv (E0 (ly_v xs)) (4294967303 + j)).toInt8.toInt32
  rw [show 4294967303 + j = 4294967297 + (6 + j) by omega, lx_iv]
  have g1 : 2147483648 ≤ ex_B (ly_v xs (6 + j)) := g1
  have g2 : ex_B (ly_v xs (6 + j)) ≤ 2147483775 := g2
  obtain ⟨n, e, hn⟩ := lx_num (lo := 0) (hi := 0) g1 (by omega)
  rw [e, ex_i2bE, if_pos (by omega), Nat.mod_eq_of_lt (by omega)]
theorem ybb {T : List yE} {pc : Nat} {V : ex_V} {O : Nat} (j : Nat) (hj : Nat.ble j 5 = true) (h : lx_rg V (6 + j) 2147483776 2147483903 = true) (h1 : ly_D T pc (vT (vH (vL V (12 + j) 2147483520) (12 + j) 2147483647) 13 (4294967303 + j) 0 (4294967309 + j)) O) : ly_D T pc V O := fun xs hV hT hO => by
  have hj : j < 6 := by have := Nat.le_of_ble_eq_true hj; omega
  obtain ⟨g1, g2⟩ := lx_rgE hV h
  rw [ly_v1 hj] at g1 g2
  obtain ⟨n, e, hn⟩ := lx_num (lo := 0) (hi := 0) (x := lx_ch (xs j)) (by omega) (by omega)
  have e2 : (lx_ch (xs j)).toInt8.toInt32 = nI (n + 4294967040) := by
    rw [e, ex_i2bE, if_neg (by omega), Nat.mod_eq_of_lt (by omega)]
  have e3 : ex_B ((E0 (ly_v xs)).2.2.2 (12 + j)) = n + 4294967040 - 2147483648 := by
    rw [ly_v2 hj, e2, ex_B_n (by omega)]
    exact ex_xhb2 (by omega) (by omega)
  refine h1 xs (vT_ok (vH_ok (vL_ok hV (by rw [e3]; omega)) (by rw [e3]; omega)) (by omega) (by decide) ?_) hT hO
  show ex_iv (E0 (ly_v xs)) (4294967309 + j) = (ex_iv (E0 (ly_v xs)) (4294967303 + j)).toInt8.toInt32
  rw [show 4294967303 + j = 4294967297 + (6 + j) by omega, show 4294967309 + j = 4294967297 + (12 + j) by omega, lx_iv, lx_iv, show ly_v xs (6 + j) = lx_ch (xs j) from ly_v1 hj]
  exact ly_v2 hj
/-- a char is one of the constant's, or none of them -/
def y_V (j a : Nat) : ex_V := ((List.replicate 40 (0, 4294967295, [])).set (6 + j) (a + 2147483648, a + 2147483648, []), [(ex_key 13 (4294967303 + j) 0, a)])
def y_al (j : Nat) (l : List Nat) : List (ex_V × Nat) := l.zipIdx.map fun q => (y_V j q.1, q.2)
def y_en (j w : Nat) : yE := (y_sc j w, 4294967303 + j, 4294967297 + (18 + 2 * (j - 3) + w), y_al j (y_ls j w))
def y_vX (V : ex_V) (j : Nat) (l : List Nat) : ex_V := l.foldl (fun V a => vX V (6 + j) (a + 2147483648)) V
theorem y_VOK {E : ex_G} {j a : Nat} (hj : j < 6) (ha : a < 128) (h : E.2.2.2 (6 + j) = nI a) : ex_VOK E (y_V j a) := by
  have hB : ex_B (nI a) = a + 2147483648 := by rw [ex_B_n (by omega)]; exact ex_xhb (by omega)
  refine ⟨fun i q hq => ?_, fun op a' b r ha' hb' hf => ?_⟩
  · rw [ex_nthE] at hq
    have hq : ((List.replicate 40 ((0, 4294967295, []) : Nat × Nat × List Nat)).set (6 + j) (a + 2147483648, a + 2147483648, []))[i]? = some q := hq
    rw [List.getElem?_set] at hq
    by_cases e : 6 + j = i
    · subst e
      rw [if_pos rfl] at hq
      split at hq
      · have hq := (Option.some.inj hq).symm
        subst hq
        rw [h, hB]
        exact ⟨Nat.le_refl _, Nat.le_refl _, rfl⟩
      · cases hq
    · rw [if_neg e, List.getElem?_replicate] at hq
      split at hq
      · have hq := (Option.some.inj hq).symm
        subst hq
        have := ex_rg (E.2.2.2 i)
        refine ⟨Nat.zero_le _, ?_, rfl⟩
        show (_ : Int).toNat ≤ 4294967295
        omega
      · cases hq
  · have hf : (bif Nat.beq (ex_key 13 (4294967303 + j) 0) (ex_key op a' b) then some a else none) = some r := hf
    cases hk : Nat.beq (ex_key 13 (4294967303 + j) 0) (ex_key op a' b) with
    | false => rw [hk] at hf; cases hf
    | true =>
      rw [hk] at hf
      have hf : some a = some r := hf
      cases hf
      obtain ⟨rfl, rfl, rfl⟩ := ex_keyI (by omega) (by decide) ha' hb' (Nat.eq_of_beq_eq_true hk)
      show ex_iv E a = (ex_iv E (4294967303 + j)).toInt8.toInt32
      have e : ex_iv E (4294967303 + j) = nI a := by
        unfold ex_iv
        rw [if_neg (by omega), show 4294967303 + j - 4294967297 = 6 + j by omega, h]
      rw [e, ex_i2bE, if_pos (by omega), Nat.mod_eq_of_lt (by omega), ex_iv_n (by omega)]
theorem y_lsOK : ∀ j, j < 6 → 3 ≤ j → ∀ w, w < 2 → (y_ls j 0).all (fun a => decide (a < 128) && (y_ls j w).contains a) = true ∧ (List.range (y_ls j w).length).all (fun p => decide (y_ix (y_ls j w) (nI ((y_ls j w).getD p 0)) = nI p)) = true ∧ (y_ls j w).length ≤ 100 := by decide +kernel
theorem y_vXok {E : ex_G} {j : Nat} : ∀ (l : List Nat) (V : ex_V), ex_VOK E V → (∀ a ∈ l, ex_B (E.2.2.2 (6 + j)) ≠ a + 2147483648) → ex_VOK E (y_vX V j l) := by
  intro l
  induction l with
  | nil => intro V h _; exact h
  | cons a l ih => intro V h hn; exact ih _ (vX_ok h (hn a List.mem_cons_self)) (fun b hb => hn b (List.mem_cons_of_mem _ hb))
theorem ymem {T : List yE} {pc : Nat} {V : ex_V} {O : Nat} (j n0 n1 : Nat) (hj : Nat.ble j 5 = true) (hj3 : Nat.ble 3 j = true) (e0 : (y_ls j 0).length = n0) (e1 : (y_ls j 1).length = n1)
    (h1 : ly_D (y_en j 0 :: y_en j 1 :: T) pc (vH (vL (vH (vL V (18 + 2 * (j - 3)) 2147483648) (18 + 2 * (j - 3)) (n0 + 2147483647)) (19 + 2 * (j - 3)) 2147483648) (19 + 2 * (j - 3)) (n1 + 2147483647)) O)
    (h2 : ly_D T pc (y_vX V j (y_ls j 0)) O) : ly_D T pc V O := fun xs hV hT hO => by
  have hj : j < 6 := by have := Nat.le_of_ble_eq_true hj; omega
  have hj3 := Nat.le_of_ble_eq_true hj3
  by_cases hm : ∃ a, a ∈ y_ls j 0 ∧ lx_ch (xs j) = nI a
  · obtain ⟨a, ha, hx⟩ := hm
    have key : ∀ w, w < 2 → a < 128 ∧ ∃ p, p < (y_ls j w).length ∧ (y_ls j w)[p]? = some a ∧ ly_v xs (18 + 2 * (j - 3) + w) = nI p := by
      intro w hw
      obtain ⟨k1, k2, k3⟩ := y_lsOK j hj hj3 w hw
      have k1 := List.all_eq_true.mp k1 a ha
      rw [Bool.and_eq_true, decide_eq_true_eq, List.contains_iff_mem] at k1
      obtain ⟨p, hp, hpa⟩ := List.getElem_of_mem k1.2
      have hp2 : (y_ls j w)[p]? = some a := List.getElem?_eq_some_iff.mpr ⟨hp, hpa⟩
      have k2 := of_decide_eq_true (List.all_eq_true.mp k2 p (List.mem_range.mpr hp))
      refine ⟨k1.1, p, hp, hp2, ?_⟩
      rw [List.getD_eq_getElem?_getD, hp2] at k2
      unfold ly_v
      rw [if_neg (by omega), show (18 + 2 * (j - 3) + w - 18) / 2 + 3 = j by omega, show (18 + 2 * (j - 3) + w - 18) % 2 = w by omega, hx]
      exact k2
    obtain ⟨ha0, p0, q1, q2, q3⟩ := key 0 (by decide)
    obtain ⟨-, p1, r1, r2, r3⟩ := key 1 (by decide)
    have l0 := (y_lsOK j hj hj3 0 (by decide)).2.2
    have l1 := (y_lsOK j hj hj3 1 (by decide)).2.2
    have B0 : ex_B ((E0 (ly_v xs)).2.2.2 (18 + 2 * (j - 3))) = p0 + 2147483648 := by
      show ex_B (ly_v xs (18 + 2 * (j - 3) + 0)) = _
      rw [q3, ex_B_n (by omega)]; exact ex_xhb (by omega)
    have B1 : ex_B ((E0 (ly_v xs)).2.2.2 (19 + 2 * (j - 3))) = p1 + 2147483648 := by
      show ex_B (ly_v xs (19 + 2 * (j - 3))) = _
      rw [show 19 + 2 * (j - 3) = 18 + 2 * (j - 3) + 1 by omega, r3, ex_B_n (by omega)]; exact ex_xhb (by omega)
    have hVa : ex_VOK (E0 (ly_v xs)) (y_V j a) := y_VOK hj ha0 (by rw [ly_v1 hj]; exact hx)
    have ent : ∀ w, w < 2 → ∀ p, p < (y_ls j w).length → (y_ls j w)[p]? = some a → ly_v xs (18 + 2 * (j - 3) + w) = nI p → (y_ls j w).length ≤ 100 → ex_tI (y_en j w).2.2.1 = true ∧ ∃ z ∈ (y_en j w).2.2.2, ex_VOK (E0 (ly_v xs)) z.1 ∧ ex_tI z.2 = true ∧ ex_iv (E0 (ly_v xs)) (y_en j w).2.2.1 = ex_iv (E0 (ly_v xs)) z.2 := by
      intro w hw p hp hpa hpv hl
      refine ⟨ex_tI_iff.mpr (Or.inr (by show 4294967297 ≤ 4294967297 + (18 + 2 * (j - 3) + w) ∧ 4294967297 + (18 + 2 * (j - 3) + w) < 8589934592; omega)), (y_V j a, p), List.mem_map.mpr ⟨(a, p), List.mem_zipIdx_iff_getElem?.mpr hpa, rfl⟩, hVa, bx_tI (by show p < 4294967296; omega), ?_⟩
      show ex_iv (E0 (ly_v xs)) (4294967297 + (18 + 2 * (j - 3) + w)) = ex_iv (E0 (ly_v xs)) p
      rw [lx_iv, hpv, ex_iv_n (by omega)]
    refine h1 xs (vH_ok (vL_ok (vH_ok (vL_ok hV (by rw [B0]; omega)) (by rw [B0]; omega)) (by rw [B1]; omega)) (by rw [B1]; omega)) (fun e he => ?_) hO
    rcases List.mem_cons.mp he with e2 | he
    · subst e2; exact ent 0 (by decide) p0 q1 q2 q3 l0
    rcases List.mem_cons.mp he with e2 | he
    · subst e2; exact ent 1 (by decide) p1 r1 r2 r3 l1
    · exact hT e he
  · refine h2 xs (y_vXok _ _ hV (fun a ha hB => hm ⟨a, ha, ?_⟩)) hT hO
    have k1 := List.all_eq_true.mp (y_lsOK j hj hj3 0 (by decide)).1 a ha
    rw [Bool.and_eq_true, decide_eq_true_eq] at k1
    rw [ly_v1 hj] at hB
    refine (ex_B_eq _ _).mpr ?_
    rw [hB, ex_B_n (by omega)]
    exact (ex_xhb (show a < 2147483648 by omega)).symm
end
