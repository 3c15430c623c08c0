noncomputable section
/-! the world at the law's start, whole -/
def xw_nd (O : Nat) : Bool := (List.range (ex_get O 0 / 256)).all fun k => decide (ex_get O (k + 1) < 8589934592) || decide (17179869184 ≤ ex_get O (k + 1))
theorem xw_nds : ∀ j, j < 170 → xw_nd (ex_st j) = true := by decide +kernel
theorem xw_big {j : Nat} (h : 170 ≤ j) : ex_st j = 255 := by
  unfold ex_st
  simp only [bx_nle (show 84 < j by omega), bx_nle (show 126 < j by omega), bx_nle (show 147 < j by omega), bx_nle (show 158 < j by omega), bx_nle (show 163 < j by omega), bx_nle (show 166 < j by omega), bx_nle (show 167 < j by omega), bx_nle (show 168 < j by omega), bx_ne (show j ≠ 169 by omega)]
theorem xw_nd_spec {E : ex_G} {O : Nat} (h : xw_nd O = true) : (∀ k, k < ex_get O 0 / 256 → ∀ ad ad', ex_v E ad (ex_get O (k + 1)) = ex_v E ad' (ex_get O (k + 1))) ∧ ∀ k, k < ex_get O 0 / 256 → ∀ G, ex_okc G (ex_get O (k + 1)) := by
  have h := List.all_eq_true.mp h
  refine ⟨fun k hk ad ad' => ?_, fun k hk G a b => ?_⟩
  · have := h k (List.mem_range.mpr hk)
    simp only [Bool.or_eq_true, decide_eq_true_eq] at this
    refine ex_v_ad (G := []) (fun a b => ?_) (fun w hw => nomatch hw)
    omega
  · have := h k (List.mem_range.mpr hk)
    simp only [Bool.or_eq_true, decide_eq_true_eq] at this
    omega
theorem xw_chs : ∀ i, i < 128 → ex_get (ex_st (42 + i)) 0 = 275 ∧ ex_get (ex_st (42 + i)) 1 = i := by decide +kernel
theorem xw_ca : ex_get (ex_st 16) 0 = 32840 ∧ ∀ k, k < 128 → ex_get (ex_st 16) (k + 1) = 17179869184 + (42 + k) := by decide +kernel
theorem xw_41 : ex_get (ex_st 41) 0 % 256 = 255 := by decide +kernel
theorem xw_fls : ∀ j, j < 42 → j ≠ 0 → j ≠ 16 → j ≠ 41 → (match xw_fl[j]? with | some (some _) => true | _ => false) = true := by decide +kernel
def xw_sv (b : Nat) (a : Nat → Nat) (ac : Nat) (adc : Nat → Nat) (vf : Value) (j : Nat) : Value := if j = 0 then .ref b else if j = 16 then .ref ac else if j = 41 then vf else if j < 42 then .ref (a j) else .ref (adc (j - 42))
theorem xw_lt {H : Heap} {a : Nat} {cell : Cell} (h : H[a]? = some cell) : a < H.size := (Array.getElem?_eq_some_iff.mp h).1
theorem xw_ao {A B : Array Value} {s : State} {t : FieldType} (h : (Cond.arrayOver t).before A s = true) : (Cond.arrayOver t).before B s = true := h
theorem xw_str {args A : Array Value} {s : State} {own : String} {k a : Nat} (h : (Term.string own k).eval args s none [] s = some (.ref a)) : (Term.string own k).eval A s none [] s = some (.ref a) := h
theorem xw_world {s : State} {b L : Nat} {xs : Nat → Int32} (ht : ∀ w ∈ lw_tbl, w.before #[Value.ref b] s = true) (hg : (Jvm.Cond.and given_1 narrow_1).before #[Value.ref b] s = true) (hX : va_X b L xs s s.heap) (hL : L ≤ 6) :
    ∃ (D : va_G) (dA : Nat → ClassId) (sv : Nat → Value), sv 0 = .ref b ∧ ∀ (v : Nat → Int32) (O : Nat), (ex_get O 0 % 256 ≠ 255 → ex_get O 0 = 64 + 256 * L ∧ ∀ k, k < L → ex_tI (ex_get O (k + 1)) = true ∧ ex_iv (D, dA, sv, v) (ex_get O (k + 1)) = xs k) → ex_Wd ex_Xc (D, dA, sv, v) s.heap.size (xw_S O) s.heap s := by
  have hf : ∀ w ∈ xw_FL, w.before #[Value.ref b] s = true := flat_of_before _ hg
  obtain ⟨z, hz⟩ := Classical.axiomOfChoice (xw_cls ht)
  obtain ⟨dA, hdA⟩ := Classical.axiomOfChoice (xw_kds ht hf)
  obtain ⟨a, ha⟩ := Classical.axiomOfChoice (xw_get hf)
  have hA : ∀ a : Nat, a < s.heap.size → ¬ (fun q => s.heap.size ≤ q) a := fun _ h => Nat.not_le.mpr h
  -- the cached characters
  have hlen := va_eqt (hf (Cond.eq (.length (.static "java/lang/Character$CharacterCache" "cache" "[Ljava/lang/Character;")) (.int 128)) (List.mem_of_getElem? (i := 319) (by decide +kernel)))
  obtain ⟨ac, ccell, cc1, cc2, -⟩ := Term.length_spec hlen
  have harrc := hf (Cond.arrayOf (.static "java/lang/Character$CharacterCache" "cache" "[Ljava/lang/Character;") (.object "java/lang/Character")) (List.mem_of_getElem? (i := 318) (by decide +kernel))
  obtain ⟨adc, hadc, hel⟩ := xw_Cof (args := #[Value.ref b]) (s := s) (st := .static "java/lang/Character$CharacterCache" "cache" "[Ljava/lang/Character;") rfl hlen (hf _ (List.mem_of_getElem? (i := 320) (by decide +kernel))) (fun _ _ h => h)
  obtain ⟨vf, hvf, hvr⟩ := Cond.isRef_spec (args := #[Value.ref b]) (first := s) (o := none) (s := s) (idx := []) (hf (Cond.isRef (.static "jdk/internal/util/Preconditions" "SIOOBE_FORMATTER" "Ljava/util/function/BiFunction;")) (List.mem_of_getElem? (i := 215) (by decide +kernel)))
  have hTa := va_Tof (A := xF) (N := 128) (ty := .object "java/lang/Character") (f := fun k => .ref (adc k)) (by decide) harrc hlen (fun k hk => hel k hk) (fun _ _ h => h)
  refine ⟨(fun k => (z k).1, fun k => (z k).2), dA, xw_sv b a ac adc vf, rfl, fun v O hO0 => ?_⟩
  generalize hE : ((((fun k => (z k).1), fun k => (z k).2), dA, xw_sv b a ac adc vf, v) : ex_G) = E
  have hE1 : ∀ k, E.1.1 k = (z k).1 := fun k => by rw [← hE]
  have hE2 : ∀ k, E.1.2 k = (z k).2 := fun k => by rw [← hE]
  have hE3 : E.2.1 = dA := by rw [← hE]
  have hsv : E.2.2.1 = xw_sv b a ac adc vf := by rw [← hE]
  have hK : ∀ (k : Nat) (q : vw_C), ex_cl[k]? = some q → u_Kn s q.1 q.2.1 q.2.2 (E.1.1 k) (E.1.2 k) := fun k q hq => by rw [hE1, hE2]; exact hz k q hq
  have hvS : ∀ (ad : Nat → Nat) (j : Nat), j < 17179869184 → ex_v E ad (17179869184 + j) = xw_sv b a ac adc vf j := fun ad j hj => by rw [ex_v_S (by omega) (by omega), Nat.add_sub_cancel_left, hsv]
  have hsvj : ∀ j, j < 42 → j ≠ 0 → j ≠ 16 → j ≠ 41 → xw_sv b a ac adc vf j = .ref (a j) := fun j h1 h2 h3 h4 => by unfold xw_sv; rw [if_neg h2, if_neg h3, if_neg h4, if_pos h1]
  refine ⟨⟨rfl, fun j => ?_⟩, hK, fun kd a1 a2 => by rw [hE3]; exact hdA kd a1 a2, fun j hj => ?_, fun w hw => ?_, xw_Nc hf, ⟨?_, ?_⟩, fun q hq => ?_, fun q hq => ?_, xw_Fw ht, ?_, ?_⟩
  · rw [hsv]
    unfold xw_sv
    split
    · exact Or.inr ⟨_, rfl⟩
    split
    · exact Or.inr ⟨_, rfl⟩
    split
    · cases vf <;> first | exact Or.inl rfl | exact Or.inr ⟨_, rfl⟩ | cases hvr
    split <;> exact Or.inr ⟨_, rfl⟩
  · by_cases h0 : j = 0
    · subst h0
      rw [xw_S0] at hj ⊢
      obtain ⟨hO, hOk⟩ := hO0 hj
      obtain ⟨scr, x1, x2, x3, x4, x5⟩ := hX
      have hn : ex_get O 0 / 256 = L := by rw [hO]; omega
      refine ⟨b, xw_lt x1, by rw [hsv]; rfl, fun k hk ad ad' => ?_, fun k hk G => ?_, fun ad => ⟨scr, x1, x3, xw_noS x2, fun q => absurd q (by rw [hO]; omega), fun _ _ => ⟨?_, ?_, ?_, ?_, fun k hk => ?_⟩⟩⟩
      · have := (hOk k (by omega)).1
        rw [ex_v_I this, ex_v_I this]
      · exact ex_okc_lt (ex_I_lt (hOk k (by omega)).1).2
      · have : ex_get O 0 % 256 = 64 := by rw [hO]; omega
        rw [this]; exact x2
      · rw [hn]; omega
      · rw [hn, x4]
      · omega
      · rw [hn] at hk
        rw [x5 k hk, ex_v_I (hOk k hk).1]
        have := (hOk k hk).2
        rw [hE] at this
        rw [this]
    · rw [xw_Sj h0] at hj ⊢
      have hj170 : j < 170 := Nat.lt_of_not_le fun q => hj (by rw [xw_big q]; decide)
      have hnd := xw_nd_spec (E := E) (xw_nds j hj170)
      by_cases h16 : j = 16
      · subst h16
        obtain ⟨t, t1, t2⟩ := hTa
        cases t1.symm.trans cc1
        obtain ⟨cell, t3, -⟩ := id t2
        refine ⟨ac, xw_lt t3, by rw [hsv]; rfl, hnd.1, hnd.2, fun ad => xw_ROa (ty := .object "java/lang/Character") (f := fun k => .ref (adc k)) (by rw [xw_ca.1]; decide) (by rw [xw_ca.1]; rfl) (by rw [xw_ca.1]; decide) (fun k hk => ?_) (by rw [xw_ca.1]; exact t2)⟩
        have hk : k < 128 := by rw [xw_ca.1] at hk; exact hk
        rw [xw_ca.2 k hk, hvS ad _ (by omega)]
        unfold xw_sv
        rw [if_neg (by omega), if_neg (by omega), if_neg (by omega), if_neg (by omega), Nat.add_sub_cancel_left]
      by_cases h41 : j = 41
      · subst h41; exact absurd xw_41 hj
      by_cases h42 : j < 42
      · have hck := xw_cks j h42
        have hfl := xw_fls j h42 h0 h16 h41
        cases hq : xw_fl[j]? with
        | none => rw [hq] at hfl; cases hfl
        | some q =>
          have hP := ha j q hq
          rw [hq] at hck
          have hck : xw_ck xw_FL j q = true := hck
          have hsj := hsvj j h42 h0 h16 h41
          match q, hq, hP, hck with
          | none, hq, _, _ => rw [hq] at hfl; cases hfl
          | some (i, tm, some ty), _, hP, hck =>
            simp only [xw_ck, Bool.and_eq_true, Bool.or_eq_true, decide_eq_true_eq] at hck
            obtain ⟨⟨⟨⟨⟨k1, k2⟩, k3⟩, k4⟩, k5⟩, -⟩ := hck
            obtain ⟨p1, p2⟩ := hP
            obtain ⟨cell, t3, -⟩ := id p2
            refine ⟨a j, xw_lt t3, by rw [hsv]; exact hsj, hnd.1, hnd.2, fun ad => xw_ROa (f := fun k => .int (nI (xw_e j k))) k2 k1 k4 (fun k hk => ?_) p2⟩
            have := List.all_eq_true.mp k5 k (List.mem_range.mpr hk)
            exact ex_v_n (of_decide_eq_true this)
          | some (i, tm, none), _, hP, hck =>
            simp only [xw_ck, Bool.and_eq_true, decide_eq_true_eq] at hck
            obtain ⟨⟨⟨⟨k1, k2⟩, k3⟩, -⟩, k5⟩ := hck
            obtain ⟨p1, p2, p3⟩ := hP
            obtain ⟨cell, t3, -⟩ := id p2
            cases hq2 : xw_fl[j + 1]? with
            | none => rw [hq2] at k5; cases k5
            | some q2 =>
              rw [hq2] at k5
              match q2, k5, hq2 with
              | none, k5, _ => cases k5
              | some (_, t2, none), k5, _ => cases k5
              | some (i2, t2, some ty2), k5, hq2 =>
                have k5 : decide (t2 = .field tm "java/lang/String" "value" "[B") = true := k5
                have k5 := of_decide_eq_true k5
                obtain ⟨r1, r2⟩ := ha (j + 1) _ hq2
                rw [k5] at r1
                have hj1 : j + 1 < 42 := (List.getElem?_eq_some_iff.mp hq2).1
                have hn16 : j + 1 ≠ 16 := fun z => by rw [z, show xw_fl[16]? = some none from rfl] at hq2; cases hq2
                have hn41 : j + 1 ≠ 41 := fun z => by rw [z, show xw_fl[41]? = some none from rfl] at hq2; cases hq2
                refine ⟨a j, xw_lt t3, by rw [hsv]; exact hsj, hnd.1, hnd.2, fun ad => xw_ROs (j := j) (t := a (j + 1)) k1 k2 k3 (by omega) (hK 18 _ rfl) (by rw [hsv]; exact hsvj (j + 1) hj1 (by omega) hn16 hn41) p2 p3 (vk_OFof p1 ?_ (fun _ _ h => h))⟩
                exact r1
      · have h := hadc (j - 42) (by omega)
        obtain ⟨cA, t3, -⟩ := id h.1
        have hc := xw_chs (j - 42) (by omega)
        rw [show 42 + (j - 42) = j by omega] at hc
        refine ⟨adc (j - 42), xw_lt t3, ?_, hnd.1, hnd.2, fun ad => xw_ROc hc.1 hc.2 (by omega) (hK 19 _ rfl) h.1 h.2⟩
        rw [hsv]; unfold xw_sv
        rw [if_neg h0, if_neg h16, if_neg h41, if_neg h42]
  · have hm := List.mem_filter.mp hw
    refine va_Nw.of (A := #[Value.ref b]) ?_ (ht w (xw_tl hm.1))
    have hn := hm.2
    cases w <;> first | rfl | cases hn
  · exact xw_ao (xw_t ht ex_q2 6 rfl)
  · exact va_AO.of (xw_t ht ex_q8 15 rfl)
  · skip
    rcases List.mem_cons.mp hq with e | hq
    · subst e
      refine va_Zof (v := ex_v E id 17179869185) (xw_t ht ex_q3 214 rfl) (xw_t ht ex_q1 1 rfl) ?_ hA
      rw [show ex_v E id 17179869185 = .ref (a 1) from hvS id 1 (by decide)]
      exact (ha 1 _ rfl).1
    rcases List.mem_cons.mp hq with e | hq
    · subst e
      refine va_Zof (v := ex_v E id 17179869186) (xw_t ht ex_q3 212 rfl) (xw_t ht ex_q1 1 rfl) ?_ hA
      rw [show ex_v E id 17179869186 = .ref (a 2) from hvS id 2 (by decide)]
      exact (ha 2 _ rfl).1
    rcases List.mem_cons.mp hq with e | hq
    · subst e
      refine va_Zof (v := ex_v E id 17179869187) (xw_t ht ex_q3 106 rfl) (xw_t ht ex_q1 1 rfl) ?_ hA
      rw [show ex_v E id 17179869187 = .ref (a 3) from hvS id 3 (by decide)]
      exact (ha 3 _ rfl).1
    rcases List.mem_cons.mp hq with e | hq
    · subst e
      refine va_Zof (v := ex_v E id 17179869188) (xw_t ht ex_q3 102 rfl) (xw_t ht ex_q1 1 rfl) ?_ hA
      rw [show ex_v E id 17179869188 = .ref (a 4) from hvS id 4 (by decide)]
      exact (ha 4 _ rfl).1
    rcases List.mem_cons.mp hq with e | hq
    · subst e
      refine va_Zof (v := ex_v E id 17179869189) (xw_t ht ex_q3 104 rfl) (xw_t ht ex_q1 1 rfl) ?_ hA
      rw [show ex_v E id 17179869189 = .ref (a 5) from hvS id 5 (by decide)]
      exact (ha 5 _ rfl).1
    rcases List.mem_cons.mp hq with e | hq
    · subst e
      refine va_Zof (v := ex_v E id 17179869190) (xw_t ht ex_q2 202 rfl) (xw_t ht ex_q1 1 rfl) ?_ hA
      rw [show ex_v E id 17179869190 = .ref (a 6) from hvS id 6 (by decide)]
      exact (ha 6 _ rfl).1
    rcases List.mem_cons.mp hq with e | hq
    · subst e
      refine va_Zof (v := ex_v E id 17179869191) (xw_t ht ex_q2 198 rfl) (xw_t ht ex_q1 1 rfl) ?_ hA
      rw [show ex_v E id 17179869191 = .ref (a 7) from hvS id 7 (by decide)]
      exact (ha 7 _ rfl).1
    rcases List.mem_cons.mp hq with e | hq
    · subst e
      refine va_Zof (v := ex_v E id 17179869192) (xw_t ht ex_q2 200 rfl) (xw_t ht ex_q1 1 rfl) ?_ hA
      rw [show ex_v E id 17179869192 = .ref (a 8) from hvS id 8 (by decide)]
      exact (ha 8 _ rfl).1
    rcases List.mem_cons.mp hq with e | hq
    · subst e
      refine va_Zof (v := ex_v E id 17179869193) (xw_t ht ex_q4 48 rfl) (xw_t ht ex_q1 1 rfl) ?_ hA
      rw [show ex_v E id 17179869193 = .ref (a 9) from hvS id 9 (by decide)]
      exact (ha 9 _ rfl).1
    rcases List.mem_cons.mp hq with e | hq
    · subst e
      refine va_Zof (v := ex_v E id 17179869194) (xw_t ht ex_q4 50 rfl) (xw_t ht ex_q1 1 rfl) ?_ hA
      rw [show ex_v E id 17179869194 = .ref (a 10) from hvS id 10 (by decide)]
      exact (ha 10 _ rfl).1
    rcases List.mem_cons.mp hq with e | hq
    · subst e
      refine va_Zof (v := ex_v E id 17179869195) (xw_t ht ex_q10 115 rfl) (xw_t ht ex_q1 13 rfl) ?_ hA
      rw [show ex_v E id 17179869195 = .ref (a 11) from hvS id 11 (by decide)]
      exact (ha 11 _ rfl).1
    rcases List.mem_cons.mp hq with e | hq
    · subst e
      refine va_Zof (v := ex_v E id 17179869196) (xw_t ht ex_q10 117 rfl) (xw_t ht ex_q1 13 rfl) ?_ hA
      rw [show ex_v E id 17179869196 = .ref (a 12) from hvS id 12 (by decide)]
      exact (ha 12 _ rfl).1
    rcases List.mem_cons.mp hq with e | hq
    · subst e
      refine va_Zof (v := ex_v E id 17179869197) (xw_t ht ex_q10 3 rfl) (xw_t ht ex_q1 13 rfl) ?_ hA
      rw [show ex_v E id 17179869197 = .ref (a 13) from hvS id 13 (by decide)]
      exact (ha 13 _ rfl).1
    rcases List.mem_cons.mp hq with e | hq
    · subst e
      refine va_Zof (v := ex_v E id 17179869198) (xw_t ht ex_q9 156 rfl) (xw_t ht ex_q1 13 rfl) ?_ hA
      rw [show ex_v E id 17179869198 = .ref (a 14) from hvS id 14 (by decide)]
      exact (ha 14 _ rfl).1
    rcases List.mem_cons.mp hq with e | hq
    · subst e
      refine va_Zof (v := ex_v E id 17179869200) (xw_t ht ex_q10 195 rfl) (xw_t ht ex_q1 40 rfl) ?_ hA
      rw [show ex_v E id 17179869200 = .ref ac from hvS id 16 (by decide)]
      exact cc1
    rcases List.mem_cons.mp hq with e | hq
    · subst e
      refine va_Zof (v := ex_v E id 1) (xw_t ht ex_q3 83 rfl) (xw_t ht ex_q1 26 rfl) ?_ hA
      rw [show ex_v E id 1 = .int (nI 1) from ex_v_n (by decide)]
      exact va_eqt (z := nI 1) (hf (Cond.eq (.static "java/lang/String" "COMPACT_STRINGS" "Z") (.int (nI 1))) (List.mem_of_getElem? (i := 37) (by decide +kernel)))
    rcases List.mem_cons.mp hq with e | hq
    · subst e
      refine va_Zof (v := ex_v E id 1) (xw_t ht ex_q3 143 rfl) (xw_t ht ex_q1 33 rfl) ?_ hA
      rw [show ex_v E id 1 = .int (nI 1) from ex_v_n (by decide)]
      exact va_eqt (z := nI 1) (hf (Cond.eq (.static "java/lang/StringUTF16" "$assertionsDisabled" "Z") (.int (nI 1))) (List.mem_of_getElem? (i := 216) (by decide +kernel)))
    rcases List.mem_cons.mp hq with e | hq
    · subst e
      refine va_Zof (v := ex_v E id 0) (xw_t ht ex_q3 145 rfl) (xw_t ht ex_q1 33 rfl) ?_ hA
      rw [show ex_v E id 0 = .int (nI 0) from ex_v_n (by decide)]
      exact va_eqt (z := nI 0) (hf (Cond.eq (.static "java/lang/StringUTF16" "HI_BYTE_SHIFT" "I") (.int (nI 0))) (List.mem_of_getElem? (i := 217) (by decide +kernel)))
    rcases List.mem_cons.mp hq with e | hq
    · subst e
      refine va_Zof (v := ex_v E id 8) (xw_t ht ex_q3 147 rfl) (xw_t ht ex_q1 33 rfl) ?_ hA
      rw [show ex_v E id 8 = .int (nI 8) from ex_v_n (by decide)]
      exact va_eqt (z := nI 8) (hf (Cond.eq (.static "java/lang/StringUTF16" "LO_BYTE_SHIFT" "I") (.int (nI 8))) (List.mem_of_getElem? (i := 218) (by decide +kernel)))
    rcases List.mem_cons.mp hq with e | hq
    · subst e
      refine va_Zof (v := ex_v E id 17179869199) (xw_t ht ex_q7 172 rfl) (xw_t ht ex_q1 16 rfl) ?_ hA
      rw [show ex_v E id 17179869199 = .ref (a 15) from hvS id 15 (by decide)]
      exact (ha 15 _ rfl).1
    rcases List.mem_cons.mp hq with e | hq
    · subst e
      refine va_Zof (v := ex_v E id 17179869225) (xw_t ht ex_q3 125 rfl) (xw_t ht ex_q1 34 rfl) ?_ hA
      rw [show ex_v E id 17179869225 = vf from hvS id 41 (by decide)]
      exact hvf
    cases hq
  · rcases List.mem_cons.mp hq with e | hq
    · subst e
      exact ⟨a 19, by rw [hsv]; rfl, vk_R.of (A := #[Value.ref b]) (xw_t ht ex_q3 197 rfl) (xw_str (ha 19 _ rfl).1)⟩
    rcases List.mem_cons.mp hq with e | hq
    · subst e
      exact ⟨a 17, by rw [hsv]; rfl, vk_R.of (A := #[Value.ref b]) (xw_t ht ex_q3 73 rfl) (xw_str (ha 17 _ rfl).1)⟩
    rcases List.mem_cons.mp hq with e | hq
    · subst e
      exact ⟨a 21, by rw [hsv]; rfl, vk_R.of (A := #[Value.ref b]) (xw_t ht ex_q6 5 rfl) (xw_str (ha 21 _ rfl).1)⟩
    rcases List.mem_cons.mp hq with e | hq
    · subst e
      exact ⟨a 23, by rw [hsv]; rfl, vk_R.of (A := #[Value.ref b]) (xw_t ht ex_q6 73 rfl) (xw_str (ha 23 _ rfl).1)⟩
    rcases List.mem_cons.mp hq with e | hq
    · subst e
      exact ⟨a 25, by rw [hsv]; rfl, vk_R.of (A := #[Value.ref b]) (xw_t ht ex_q6 78 rfl) (xw_str (ha 25 _ rfl).1)⟩
    rcases List.mem_cons.mp hq with e | hq
    · subst e
      exact ⟨a 27, by rw [hsv]; rfl, vk_R.of (A := #[Value.ref b]) (xw_t ht ex_q9 92 rfl) (xw_str (ha 27 _ rfl).1)⟩
    rcases List.mem_cons.mp hq with e | hq
    · subst e
      exact ⟨a 29, by rw [hsv]; rfl, vk_R.of (A := #[Value.ref b]) (xw_t ht ex_q9 94 rfl) (xw_str (ha 29 _ rfl).1)⟩
    rcases List.mem_cons.mp hq with e | hq
    · subst e
      exact ⟨a 31, by rw [hsv]; rfl, vk_R.of (A := #[Value.ref b]) (xw_t ht ex_q9 95 rfl) (xw_str (ha 31 _ rfl).1)⟩
    rcases List.mem_cons.mp hq with e | hq
    · subst e
      exact ⟨a 35, by rw [hsv]; rfl, vk_R.of (A := #[Value.ref b]) (xw_t ht ex_q10 149 rfl) (xw_str (ha 35 _ rfl).1)⟩
    rcases List.mem_cons.mp hq with e | hq
    · subst e
      exact ⟨a 37, by rw [hsv]; rfl, vk_R.of (A := #[Value.ref b]) (xw_t ht ex_q11 53 rfl) (xw_str (ha 37 _ rfl).1)⟩
    rcases List.mem_cons.mp hq with e | hq
    · subst e
      exact ⟨a 39, by rw [hsv]; rfl, vk_R.of (A := #[Value.ref b]) (xw_t ht ex_q11 103 rfl) (xw_str (ha 39 _ rfl).1)⟩
    rcases List.mem_cons.mp hq with e | hq
    · subst e
      exact ⟨a 33, by rw [hsv]; rfl, vk_R.of (A := #[Value.ref b]) (xw_t ht ex_q9 208 rfl) (xw_str (ha 33 _ rfl).1)⟩
    cases hq
  · exact vx_Zqof (xw_t ht ex_q5 1 rfl) (xw_t ht ex_q1 21 rfl) (hf (Cond.isRef (.static "java/lang/Throwable" "UNASSIGNED_STACK" "[Ljava/lang/StackTraceElement;")) (List.mem_of_getElem? (i := 265) (by decide +kernel))) hA
  · exact vx_Zqof (xw_t ht ex_q5 3 rfl) (xw_t ht ex_q1 21 rfl) (hf (Cond.isRef (.static "java/lang/Throwable" "SUPPRESSED_SENTINEL" "Ljava/util/List;")) (List.mem_of_getElem? (i := 266) (by decide +kernel))) hA
end
