noncomputable section

section
variable {AL : ex_AL} {V : ex_V} {ST : Nat → Nat} {d b n : Nat} {f : Nat → Nat} {g : Nat → Int → Int} {r : Nat × Nat}
theorem zs_94_9 (h : zOk b n f) {l1 : Int} (zl1 : zR l1) (k : some (enc l1, (zM n (zWf b f g))) = some r) : k94_9 V ST d (zCl AL V ST ex_km d) (zRn AL V ST ex_km d kt_94) (zP [zf b 0, enc l1]) [] (zM n (zWf b f g)) = some r := by
  unfold k94_9
  refine (zr_iload (v := enc l1) rfl (enc_lt _)).trans ?_
  exact zr_ireturn.trans k
theorem zs_94_4 (h : zOk b n f) {s0 : Int} (zs0 : zR s0) (k : zTh (zCl AL V ST ex_km d 148 [zf b 0] (zM n (zWf b f g))) (zM n (zWf b f g)) [] (fun S M => k94_9 V ST d (zCl AL V ST ex_km d) (zRn AL V ST ex_km d kt_94) (zP [zf b 0, enc s0]) S M) = some r) : k94_4 V ST d (zCl AL V ST ex_km d) (zRn AL V ST ex_km d kt_94) (zP [zf b 0, 137438953472]) [enc s0] (zM n (zWf b f g)) = some r := by
  unfold k94_4
  refine (zr_istore (w := zf b 0) (vs' := [zf b 0, enc s0]) rfl (zf_c2 h _) (Nat.lt_trans (zf_l h _) (by decide)) (by decide) rfl (enc_lt _)).trans ?_
  refine (zr_aload (v := zf b 0) rfl (zf_tA h _)).trans ?_
  refine zr_invV h [] rfl (tk_hall rfl) (zA_nil) (zA_nil) (by decide) ?_
  exact k
theorem zs_94_0 (h : zOk b n f)   (k : zTh (zCl AL V ST ex_km d 151 [zf b 0] (zM n (zWf b f g))) (zM n (zWf b f g)) [] (fun S M => k94_4 V ST d (zCl AL V ST ex_km d) (zRn AL V ST ex_km d kt_94) (zP [zf b 0, 137438953472]) S M) = some r) : k94_0 V ST d (zCl AL V ST ex_km d) (zRn AL V ST ex_km d kt_94) (zP [zf b 0, 137438953472]) [] (zM n (zWf b f g)) = some r := by
  unfold k94_0
  refine (zr_aload (v := zf b 0) rfl (zf_tA h _)).trans ?_
  refine zr_invV h [] rfl (tk_hall rfl) (zA_nil) (zA_nil) (by decide) ?_
  exact k
theorem zs_95_5 (h : zOk b n f) {l1 : Int} (zl1 : zR l1) (k : (if 0 ≤ l1 ∧ l1 < 8 then some (enc (nz (g (1 + 1) l1)), (zM n (zWf b f g))) else none) = some r) : k95_5 V ST d (zCl AL V ST ex_km d) (zRn AL V ST ex_km d kt_95) (zP [zf b 0, enc l1]) [] (zM n (zWf b f g)) = some r := by
  unfold k95_5
  refine (zr_aload (v := zf b 0) rfl (zf_tA h _)).trans ?_
  refine (zr_gfr h (tr_hall_dancers rfl)).trans ?_
  refine (zr_gfr h (tr_pl_x (Or.inl rfl))).trans ?_
  refine (zr_iload (v := enc l1) rfl (enc_lt _)).trans ?_
  by_cases c1 : 0 ≤ l1 ∧ l1 < 8
  · rw [if_pos c1] at k
    refine (zr_iald h (ta_pl_x (Or.inl rfl)) c1.1 (by have := c1.2; omega)).trans ?_
    exact zr_ireturn.trans k
  · rw [if_neg c1] at k; cases k
theorem zs_95_0 (h : zOk b n f) {l1 : Int} (zl1 : zR l1) (k : zTh (zCl AL V ST ex_km d 133 [zf b 0, enc l1] (zM n (zWf b f g))) (zM n (zWf b f g)) [] (fun S M => k95_5 V ST d (zCl AL V ST ex_km d) (zRn AL V ST ex_km d kt_95) (zP [zf b 0, enc l1]) S M) = some r) : k95_0 V ST d (zCl AL V ST ex_km d) (zRn AL V ST ex_km d kt_95) (zP [zf b 0, enc l1]) [] (zM n (zWf b f g)) = some r := by
  unfold k95_0
  refine (zr_aload (v := zf b 0) rfl (zf_tA h _)).trans ?_
  refine (zr_iload (v := enc l1) rfl (enc_lt _)).trans ?_
  refine zr_invV h [enc l1] rfl (tk_hall rfl) (zA_cons (enc_l _) zA_nil) (zA_nil) (by decide) ?_
  exact k
theorem zs_96_5 (h : zOk b n f) {l1 : Int} (zl1 : zR l1) (k : (if 0 ≤ l1 ∧ l1 < 8 then some (enc (nz (g (1 + 2) l1)), (zM n (zWf b f g))) else none) = some r) : k96_5 V ST d (zCl AL V ST ex_km d) (zRn AL V ST ex_km d kt_96) (zP [zf b 0, enc l1]) [] (zM n (zWf b f g)) = some r := by
  unfold k96_5
  refine (zr_aload (v := zf b 0) rfl (zf_tA h _)).trans ?_
  refine (zr_gfr h (tr_hall_dancers rfl)).trans ?_
  refine (zr_gfr h (tr_pl_y (Or.inl rfl))).trans ?_
  refine (zr_iload (v := enc l1) rfl (enc_lt _)).trans ?_
  by_cases c1 : 0 ≤ l1 ∧ l1 < 8
  · rw [if_pos c1] at k
    refine (zr_iald h (ta_pl_y (Or.inl rfl)) c1.1 (by have := c1.2; omega)).trans ?_
    exact zr_ireturn.trans k
  · rw [if_neg c1] at k; cases k
theorem zs_96_0 (h : zOk b n f) {l1 : Int} (zl1 : zR l1) (k : zTh (zCl AL V ST ex_km d 133 [zf b 0, enc l1] (zM n (zWf b f g))) (zM n (zWf b f g)) [] (fun S M => k96_5 V ST d (zCl AL V ST ex_km d) (zRn AL V ST ex_km d kt_96) (zP [zf b 0, enc l1]) S M) = some r) : k96_0 V ST d (zCl AL V ST ex_km d) (zRn AL V ST ex_km d kt_96) (zP [zf b 0, enc l1]) [] (zM n (zWf b f g)) = some r := by
  unfold k96_0
  refine (zr_aload (v := zf b 0) rfl (zf_tA h _)).trans ?_
  refine (zr_iload (v := enc l1) rfl (enc_lt _)).trans ?_
  refine zr_invV h [enc l1] rfl (tk_hall rfl) (zA_cons (enc_l _) zA_nil) (zA_nil) (by decide) ?_
  exact k
theorem zs_97_5 (h : zOk b n f) {l1 : Int} (zl1 : zR l1) (k : (if 0 ≤ l1 ∧ l1 < 8 then some (enc (nz (g (1 + 3) l1)), (zM n (zWf b f g))) else none) = some r) : k97_5 V ST d (zCl AL V ST ex_km d) (zRn AL V ST ex_km d kt_97) (zP [zf b 0, enc l1]) [] (zM n (zWf b f g)) = some r := by
  unfold k97_5
  refine (zr_aload (v := zf b 0) rfl (zf_tA h _)).trans ?_
  refine (zr_gfr h (tr_hall_dancers rfl)).trans ?_
  refine (zr_gfr h (tr_pl_f (Or.inl rfl))).trans ?_
  refine (zr_iload (v := enc l1) rfl (enc_lt _)).trans ?_
  by_cases c1 : 0 ≤ l1 ∧ l1 < 8
  · rw [if_pos c1] at k
    refine (zr_iald h (ta_pl_f (Or.inl rfl)) c1.1 (by have := c1.2; omega)).trans ?_
    exact zr_ireturn.trans k
  · rw [if_neg c1] at k; cases k
theorem zs_97_0 (h : zOk b n f) {l1 : Int} (zl1 : zR l1) (k : zTh (zCl AL V ST ex_km d 133 [zf b 0, enc l1] (zM n (zWf b f g))) (zM n (zWf b f g)) [] (fun S M => k97_5 V ST d (zCl AL V ST ex_km d) (zRn AL V ST ex_km d kt_97) (zP [zf b 0, enc l1]) S M) = some r) : k97_0 V ST d (zCl AL V ST ex_km d) (zRn AL V ST ex_km d kt_97) (zP [zf b 0, enc l1]) [] (zM n (zWf b f g)) = some r := by
  unfold k97_0
  refine (zr_aload (v := zf b 0) rfl (zf_tA h _)).trans ?_
  refine (zr_iload (v := enc l1) rfl (enc_lt _)).trans ?_
  refine zr_invV h [enc l1] rfl (tk_hall rfl) (zA_cons (enc_l _) zA_nil) (zA_nil) (by decide) ?_
  exact k
theorem zs_98_70 (h : zOk b n f) {l1 : Int} {l2 : Int} {l3 : Int} {l4 : Int} {l5 : Int} {l6 : Int} (zl1 : zR l1) (zl2 : zR l2) (zl3 : zR l3) (zl4 : zR l4) (zl5 : zR l5) (zl6 : zR l6) (k : some (enc l6, (zM n (zWf b f g))) = some r) : k98_70 V ST d (zCl AL V ST ex_km d) (zRn AL V ST ex_km d kt_98) (zP [zf b 0, enc l1, enc l2, enc l3, enc l4, enc l5, enc l6]) [] (zM n (zWf b f g)) = some r := by
  unfold k98_70
  refine (zr_iload (v := enc l6) rfl (enc_lt _)).trans ?_
  exact zr_ireturn.trans k
theorem zs_98_66 (h : zOk b n f) {l1 : Int} {l2 : Int} {l3 : Int} {l4 : Int} {l5 : Int} {l6 : Int} (zl1 : zR l1) (zl2 : zR l2) (zl3 : zR l3) (zl4 : zR l4) (zl5 : zR l5) (zl6 : zR l6) (k : zTh (zCl AL V ST ex_km d 149 [zf b 0] (zM n (zWf b f g))) (zM n (zWf b f g)) [] (fun S M => k98_70 V ST d (zCl AL V ST ex_km d) (zRn AL V ST ex_km d kt_98) (zP [zf b 0, enc l1, enc l2, enc l3, enc l4, enc l5, enc l6]) S M) = some r) : k98_66 V ST d (zCl AL V ST ex_km d) (zRn AL V ST ex_km d kt_98) (zP [zf b 0, enc l1, enc l2, enc l3, enc l4, enc l5, enc l6]) [] (zM n (zWf b f g)) = some r := by
  unfold k98_66
  refine (zr_aload (v := zf b 0) rfl (zf_tA h _)).trans ?_
  refine zr_invV h [] rfl (tk_hall rfl) (zA_nil) (zA_nil) (by decide) ?_
  exact k
theorem zs_98_43 (h : zOk b n f) {l1 : Int} {l2 : Int} {l3 : Int} {l4 : Int} {l5 : Int} (zl1 : zR l1) (zl2 : zR l2) (zl3 : zR l3) (zl4 : zR l4) (zl5 : zR l5) (k : (if 0 ≤ l1 ∧ l1 < 8 then zTh (zCl AL V ST ex_km d 41 [zf b 1, enc l1, enc l2, enc l3, enc l4] (zM n (zWf b f g))) (zM n (zWf b f g)) [] (fun S M => k98_66 V ST d (zCl AL V ST ex_km d) (zRn AL V ST ex_km d kt_98) (zP [zf b 0, enc l1, enc l2, enc l3, enc l4, enc l5, enc (nz (g (1 + 3) l1))]) S M) else none) = some r) : k98_43 V ST d (zCl AL V ST ex_km d) (zRn AL V ST ex_km d kt_98) (zP [zf b 0, enc l1, enc l2, enc l3, enc l4, enc l5, 137438953472]) [] (zM n (zWf b f g)) = some r := by
  unfold k98_43
  refine (zr_aload (v := zf b 0) rfl (zf_tA h _)).trans ?_
  refine (zr_gfr h (tr_hall_dancers rfl)).trans ?_
  refine (zr_gfr h (tr_pl_f (Or.inl rfl))).trans ?_
  refine (zr_iload (v := enc l1) rfl (enc_lt _)).trans ?_
  by_cases c1 : 0 ≤ l1 ∧ l1 < 8
  · rw [if_pos c1] at k
    refine (zr_iald h (ta_pl_f (Or.inl rfl)) c1.1 (by have := c1.2; omega)).trans ?_
    refine (zr_istore (w := enc l5) (vs' := [zf b 0, enc l1, enc l2, enc l3, enc l4, enc l5, enc (nz (g (1 + 3) l1))]) rfl (enc_c2 _) (Nat.lt_trans (enc_lt _) (by decide)) (by decide) rfl (enc_lt _)).trans ?_
    refine (zr_aload (v := zf b 0) rfl (zf_tA h _)).trans ?_
    refine (zr_gfr h (tr_hall_dancers rfl)).trans ?_
    refine (zr_iload (v := enc l1) rfl (enc_lt _)).trans ?_
    refine (zr_iload (v := enc l2) rfl (enc_lt _)).trans ?_
    refine (zr_iload (v := enc l3) rfl (enc_lt _)).trans ?_
    refine (zr_iload (v := enc l4) rfl (enc_lt _)).trans ?_
    refine zr_invV h [enc l4, enc l3, enc l2, enc l1] rfl (tk_pl (Or.inl rfl)) (zA_cons (enc_l _) (zA_cons (enc_l _) (zA_cons (enc_l _) (zA_cons (enc_l _) zA_nil)))) (zA_nil) (by decide) ?_
    exact k
  · rw [if_neg c1] at k; cases k
theorem zs_98_22 (h : zOk b n f) {l1 : Int} {l2 : Int} {l3 : Int} {l4 : Int} {s0 : Int} (zl1 : zR l1) (zl2 : zR l2) (zl3 : zR l3) (zl4 : zR l4) (zs0 : zR s0) (k : (if s0 < 0 then zRn AL V ST ex_km d kt_98 43 (zP [zf b 0, enc l1, enc l2, enc l3, enc l4, enc s0, 137438953472]) [] (zM n (zWf b f g)) else (if s0 = l1 then zRn AL V ST ex_km d kt_98 43 (zP [zf b 0, enc l1, enc l2, enc l3, enc l4, enc s0, 137438953472]) [] (zM n (zWf b f g)) else (if 14 ≤ d then some (549755813891, zM n (zWf b (zbump f) g)) else none))) = some r) : k98_22 V ST d (zCl AL V ST ex_km d) (zRn AL V ST ex_km d kt_98) (zP [zf b 0, enc l1, enc l2, enc l3, enc l4, 137438953472, 137438953472]) [enc s0] (zM n (zWf b f g)) = some r := by
  unfold k98_22
  refine (zr_istore (w := enc l4) (vs' := [zf b 0, enc l1, enc l2, enc l3, enc l4, enc s0, 137438953472]) rfl (enc_c2 _) (Nat.lt_trans (enc_lt _) (by decide)) (by decide) rfl (enc_lt _)).trans ?_
  refine (zr_iload (v := enc s0) rfl (enc_lt _)).trans ?_
  by_cases c1 : s0 < 0
  · rw [if_pos c1] at k
    exact (zr_if_lt_t (zs0) c1).trans k
  · rw [if_neg c1] at k
    refine (zr_if_lt_n (zs0) (Int.not_lt.mp c1)).trans ?_
    refine (zr_iload (v := enc s0) rfl (enc_lt _)).trans ?_
    refine (zr_iload (v := enc l1) rfl (enc_lt _)).trans ?_
    by_cases c2 : s0 = l1
    · rw [if_pos c2] at k
      exact (zr_icmp_eq_t (zs0) (zl1) c2).trans k
    · rw [if_neg c2] at k
      refine (zr_icmp_eq_n (zs0) (zl1) c2).trans ?_
      by_cases c3 : 14 ≤ d
      · rw [if_pos c3] at k
        exact (zr_newx h c3 (zA_nil) (by decide)).trans k
      · rw [if_neg c3] at k; cases k
theorem zs_98_13 (h : zOk b n f) {l1 : Int} {l2 : Int} {l3 : Int} {l4 : Int} (zl1 : zR l1) (zl2 : zR l2) (zl3 : zR l3) (zl4 : zR l4) (k : zTh (zCl AL V ST ex_km d 42 [zf b 1, enc l2, enc l3] (zM n (zWf b f g))) (zM n (zWf b f g)) [] (fun S M => k98_22 V ST d (zCl AL V ST ex_km d) (zRn AL V ST ex_km d kt_98) (zP [zf b 0, enc l1, enc l2, enc l3, enc l4, 137438953472, 137438953472]) S M) = some r) : k98_13 V ST d (zCl AL V ST ex_km d) (zRn AL V ST ex_km d kt_98) (zP [zf b 0, enc l1, enc l2, enc l3, enc l4, 137438953472, 137438953472]) [] (zM n (zWf b f g)) = some r := by
  unfold k98_13
  refine (zr_aload (v := zf b 0) rfl (zf_tA h _)).trans ?_
  refine (zr_gfr h (tr_hall_dancers rfl)).trans ?_
  refine (zr_iload (v := enc l2) rfl (enc_lt _)).trans ?_
  refine (zr_iload (v := enc l3) rfl (enc_lt _)).trans ?_
  refine zr_invV h [enc l3, enc l2] rfl (tk_pl (Or.inl rfl)) (zA_cons (enc_l _) (zA_cons (enc_l _) zA_nil)) (zA_nil) (by decide) ?_
  exact k
theorem zs_98_5 (h : zOk b n f) {l1 : Int} {l2 : Int} {l3 : Int} {l4 : Int} (zl1 : zR l1) (zl2 : zR l2) (zl3 : zR l3) (zl4 : zR l4) (k : zTh (zCl AL V ST ex_km d 134 [zf b 0, enc l2, enc l3, enc l4] (zM n (zWf b f g))) (zM n (zWf b f g)) [] (fun S M => k98_13 V ST d (zCl AL V ST ex_km d) (zRn AL V ST ex_km d kt_98) (zP [zf b 0, enc l1, enc l2, enc l3, enc l4, 137438953472, 137438953472]) S M) = some r) : k98_5 V ST d (zCl AL V ST ex_km d) (zRn AL V ST ex_km d kt_98) (zP [zf b 0, enc l1, enc l2, enc l3, enc l4, 137438953472, 137438953472]) [] (zM n (zWf b f g)) = some r := by
  unfold k98_5
  refine (zr_aload (v := zf b 0) rfl (zf_tA h _)).trans ?_
  refine (zr_iload (v := enc l2) rfl (enc_lt _)).trans ?_
  refine (zr_iload (v := enc l3) rfl (enc_lt _)).trans ?_
  refine (zr_iload (v := enc l4) rfl (enc_lt _)).trans ?_
  refine zr_invV h [enc l4, enc l3, enc l2] rfl (tk_hall rfl) (zA_cons (enc_l _) (zA_cons (enc_l _) (zA_cons (enc_l _) zA_nil))) (zA_nil) (by decide) ?_
  exact k
theorem zs_98_0 (h : zOk b n f) {l1 : Int} {l2 : Int} {l3 : Int} {l4 : Int} (zl1 : zR l1) (zl2 : zR l2) (zl3 : zR l3) (zl4 : zR l4) (k : zTh (zCl AL V ST ex_km d 133 [zf b 0, enc l1] (zM n (zWf b f g))) (zM n (zWf b f g)) [] (fun S M => k98_5 V ST d (zCl AL V ST ex_km d) (zRn AL V ST ex_km d kt_98) (zP [zf b 0, enc l1, enc l2, enc l3, enc l4, 137438953472, 137438953472]) S M) = some r) : k98_0 V ST d (zCl AL V ST ex_km d) (zRn AL V ST ex_km d kt_98) (zP [zf b 0, enc l1, enc l2, enc l3, enc l4, 137438953472, 137438953472]) [] (zM n (zWf b f g)) = some r := by
  unfold k98_0
  refine (zr_aload (v := zf b 0) rfl (zf_tA h _)).trans ?_
  refine (zr_iload (v := enc l1) rfl (enc_lt _)).trans ?_
  refine zr_invV h [enc l1] rfl (tk_hall rfl) (zA_cons (enc_l _) zA_nil) (zA_nil) (by decide) ?_
  exact k
theorem zs_99_139 (h : zOk b n f) {l1 : Int} {l2 : Int} {l3 : Int} {l4 : Int} {l5 : Int} {l6 : Int} (zl1 : zR l1) (zl2 : zR l2) (zl3 : zR l3) (zl4 : zR l4) (zl5 : zR l5) (zl6 : zR l6) (k : some (enc l6, (zM n (zWf b f g))) = some r) : k99_139 V ST d (zCl AL V ST ex_km d) (zRn AL V ST ex_km d kt_99) (zP [zf b 0, enc l1, enc l2, enc l3, enc l4, enc l5, enc l6]) [] (zM n (zWf b f g)) = some r := by
  unfold k99_139
  refine (zr_iload (v := enc l6) rfl (enc_lt _)).trans ?_
  exact zr_ireturn.trans k
theorem zs_99_135 (h : zOk b n f) {l1 : Int} {l2 : Int} {l3 : Int} {l4 : Int} {l5 : Int} {l6 : Int} (zl1 : zR l1) (zl2 : zR l2) (zl3 : zR l3) (zl4 : zR l4) (zl5 : zR l5) (zl6 : zR l6) (k : zTh (zCl AL V ST ex_km d 149 [zf b 0] (zM n (zWf b f g))) (zM n (zWf b f g)) [] (fun S M => k99_139 V ST d (zCl AL V ST ex_km d) (zRn AL V ST ex_km d kt_99) (zP [zf b 0, enc l1, enc l2, enc l3, enc l4, enc l5, enc l6]) S M) = some r) : k99_135 V ST d (zCl AL V ST ex_km d) (zRn AL V ST ex_km d kt_99) (zP [zf b 0, enc l1, enc l2, enc l3, enc l4, enc l5, enc l6]) [] (zM n (zWf b f g)) = some r := by
  unfold k99_135
  refine (zr_aload (v := zf b 0) rfl (zf_tA h _)).trans ?_
  refine zr_invV h [] rfl (tk_hall rfl) (zA_nil) (zA_nil) (by decide) ?_
  exact k
theorem zs_99_122 (h : zOk b n f) {l1 : Int} {l2 : Int} {l3 : Int} {l4 : Int} {l5 : Int} {l6 : Int} (zl1 : zR l1) (zl2 : zR l2) (zl3 : zR l3) (zl4 : zR l4) (zl5 : zR l5) (zl6 : zR l6) (k : zTh (zCl AL V ST ex_km d 41 [zf b 1, enc l2, enc l3, enc l4, enc l5] (zM n (zWf b f g))) (zM n (zWf b f g)) [] (fun S M => k99_135 V ST d (zCl AL V ST ex_km d) (zRn AL V ST ex_km d kt_99) (zP [zf b 0, enc l1, enc l2, enc l3, enc l4, enc l5, enc l6]) S M) = some r) : k99_122 V ST d (zCl AL V ST ex_km d) (zRn AL V ST ex_km d kt_99) (zP [zf b 0, enc l1, enc l2, enc l3, enc l4, enc l5, enc l6]) [] (zM n (zWf b f g)) = some r := by
  unfold k99_122
  refine (zr_aload (v := zf b 0) rfl (zf_tA h _)).trans ?_
  refine (zr_gfr h (tr_hall_dancers rfl)).trans ?_
  refine (zr_iload (v := enc l2) rfl (enc_lt _)).trans ?_
  refine (zr_iload (v := enc l3) rfl (enc_lt _)).trans ?_
  refine (zr_iload (v := enc l4) rfl (enc_lt _)).trans ?_
  refine (zr_iload (v := enc l5) rfl (enc_lt _)).trans ?_
  refine zr_invV h [enc l5, enc l4, enc l3, enc l2] rfl (tk_pl (Or.inl rfl)) (zA_cons (enc_l _) (zA_cons (enc_l _) (zA_cons (enc_l _) (zA_cons (enc_l _) zA_nil)))) (zA_nil) (by decide) ?_
  exact k
theorem zs_99_84 (h : zOk b n f) {l1 : Int} {l2 : Int} {l3 : Int} {l4 : Int} {l5 : Int} {s0 : Int} {s1 : Int} (zl1 : zR l1) (zl2 : zR l2) (zl3 : zR l3) (zl4 : zR l4) (zl5 : zR l5) (zs0 : zR s0) (zs1 : zR s1) (k : (if 0 ≤ l2 ∧ l2 < 8 then (if 0 ≤ l2 ∧ l2 < 8 then (if 0 ≤ l2 ∧ l2 < 8 then zTh (zCl AL V ST ex_km d 41 [zf b 1, enc l1, enc (nz (g (1 + 1) l2)), enc (nz (g (1 + 2) l2)), enc (nz (g (1 + 3) l2))] (zM n (zWf b f g))) (zM n (zWf b f g)) [] (fun S M => k99_122 V ST d (zCl AL V ST ex_km d) (zRn AL V ST ex_km d kt_99) (zP [zf b 0, enc l1, enc l2, enc l3, enc l4, enc l5, enc (nz (s1 + s0))]) S M) else none) else none) else none) = some r) : k99_84 V ST d (zCl AL V ST ex_km d) (zRn AL V ST ex_km d kt_99) (zP [zf b 0, enc l1, enc l2, enc l3, enc l4, enc l5, 137438953472]) [enc s0, enc s1] (zM n (zWf b f g)) = some r := by
  unfold k99_84
  refine (zr_iadd).trans ?_
  refine (zr_istore (w := enc l5) (vs' := [zf b 0, enc l1, enc l2, enc l3, enc l4, enc l5, enc (nz (s1 + s0))]) rfl (enc_c2 _) (Nat.lt_trans (enc_lt _) (by decide)) (by decide) rfl (enc_lt _)).trans ?_
  refine (zr_aload (v := zf b 0) rfl (zf_tA h _)).trans ?_
  refine (zr_gfr h (tr_hall_dancers rfl)).trans ?_
  refine (zr_iload (v := enc l1) rfl (enc_lt _)).trans ?_
  refine (zr_aload (v := zf b 0) rfl (zf_tA h _)).trans ?_
  refine (zr_gfr h (tr_hall_dancers rfl)).trans ?_
  refine (zr_gfr h (tr_pl_x (Or.inl rfl))).trans ?_
  refine (zr_iload (v := enc l2) rfl (enc_lt _)).trans ?_
  by_cases c1 : 0 ≤ l2 ∧ l2 < 8
  · rw [if_pos c1] at k
    refine (zr_iald h (ta_pl_x (Or.inl rfl)) c1.1 (by have := c1.2; omega)).trans ?_
    refine (zr_aload (v := zf b 0) rfl (zf_tA h _)).trans ?_
    refine (zr_gfr h (tr_hall_dancers rfl)).trans ?_
    refine (zr_gfr h (tr_pl_y (Or.inl rfl))).trans ?_
    refine (zr_iload (v := enc l2) rfl (enc_lt _)).trans ?_
    by_cases c2 : 0 ≤ l2 ∧ l2 < 8
    · rw [if_pos c2] at k
      refine (zr_iald h (ta_pl_y (Or.inl rfl)) c2.1 (by have := c2.2; omega)).trans ?_
      refine (zr_aload (v := zf b 0) rfl (zf_tA h _)).trans ?_
      refine (zr_gfr h (tr_hall_dancers rfl)).trans ?_
      refine (zr_gfr h (tr_pl_f (Or.inl rfl))).trans ?_
      refine (zr_iload (v := enc l2) rfl (enc_lt _)).trans ?_
      by_cases c3 : 0 ≤ l2 ∧ l2 < 8
      · rw [if_pos c3] at k
        refine (zr_iald h (ta_pl_f (Or.inl rfl)) c3.1 (by have := c3.2; omega)).trans ?_
        refine zr_invV h [enc (nz (g (1 + 3) l2)), enc (nz (g (1 + 2) l2)), enc (nz (g (1 + 1) l2)), enc l1] rfl (tk_pl (Or.inl rfl)) (zA_cons (enc_l _) (zA_cons (enc_l _) (zA_cons (enc_l _) (zA_cons (enc_l _) zA_nil)))) (zA_nil) (by decide) ?_
        exact k
      · rw [if_neg c3] at k; cases k
    · rw [if_neg c2] at k; cases k
  · rw [if_neg c1] at k; cases k
theorem zs_99_69 (h : zOk b n f) {l1 : Int} {l2 : Int} {l3 : Int} {l4 : Int} {l5 : Int} {s0 : Int} (zl1 : zR l1) (zl2 : zR l2) (zl3 : zR l3) (zl4 : zR l4) (zl5 : zR l5) (zs0 : zR s0) (k : (if 0 ≤ l2 ∧ l2 < 8 then zTh (zCl AL V ST ex_km d 160 [enc (nz (l4 - (nz (g (1 + 2) l2))))] (zM n (zWf b f g))) (zM n (zWf b f g)) [enc s0] (fun S M => k99_84 V ST d (zCl AL V ST ex_km d) (zRn AL V ST ex_km d kt_99) (zP [zf b 0, enc l1, enc l2, enc l3, enc l4, enc l5, 137438953472]) S M) else none) = some r) : k99_69 V ST d (zCl AL V ST ex_km d) (zRn AL V ST ex_km d kt_99) (zP [zf b 0, enc l1, enc l2, enc l3, enc l4, enc l5, 137438953472]) [enc s0] (zM n (zWf b f g)) = some r := by
  unfold k99_69
  refine (zr_iload (v := enc l4) rfl (enc_lt _)).trans ?_
  refine (zr_aload (v := zf b 0) rfl (zf_tA h _)).trans ?_
  refine (zr_gfr h (tr_hall_dancers rfl)).trans ?_
  refine (zr_gfr h (tr_pl_y (Or.inl rfl))).trans ?_
  refine (zr_iload (v := enc l2) rfl (enc_lt _)).trans ?_
  by_cases c1 : 0 ≤ l2 ∧ l2 < 8
  · rw [if_pos c1] at k
    refine (zr_iald h (ta_pl_y (Or.inl rfl)) c1.1 (by have := c1.2; omega)).trans ?_
    refine (zr_isub).trans ?_
    refine zr_invS [enc (nz (l4 - (nz (g (1 + 2) l2))))] rfl (zA_cons (enc_l _) zA_nil) (zA_cons (enc_l _) zA_nil) (by decide) ?_
    exact k
  · rw [if_neg c1] at k; cases k
theorem zs_99_23 (h : zOk b n f) {l1 : Int} {l2 : Int} (zl1 : zR l1) (zl2 : zR l2) (k : (if 0 ≤ l1 ∧ l1 < 8 then (if 0 ≤ l1 ∧ l1 < 8 then (if 0 ≤ l1 ∧ l1 < 8 then (if 0 ≤ l2 ∧ l2 < 8 then zTh (zCl AL V ST ex_km d 160 [enc (nz ((nz (g (1 + 1) l1)) - (nz (g (1 + 1) l2))))] (zM n (zWf b f g))) (zM n (zWf b f g)) [] (fun S M => k99_69 V ST d (zCl AL V ST ex_km d) (zRn AL V ST ex_km d kt_99) (zP [zf b 0, enc l1, enc l2, enc (nz (g (1 + 1) l1)), enc (nz (g (1 + 2) l1)), enc (nz (g (1 + 3) l1)), 137438953472]) S M) else none) else none) else none) else none) = some r) : k99_23 V ST d (zCl AL V ST ex_km d) (zRn AL V ST ex_km d kt_99) (zP [zf b 0, enc l1, enc l2, 137438953472, 137438953472, 137438953472, 137438953472]) [] (zM n (zWf b f g)) = some r := by
  unfold k99_23
  refine (zr_aload (v := zf b 0) rfl (zf_tA h _)).trans ?_
  refine (zr_gfr h (tr_hall_dancers rfl)).trans ?_
  refine (zr_gfr h (tr_pl_x (Or.inl rfl))).trans ?_
  refine (zr_iload (v := enc l1) rfl (enc_lt _)).trans ?_
  by_cases c1 : 0 ≤ l1 ∧ l1 < 8
  · rw [if_pos c1] at k
    refine (zr_iald h (ta_pl_x (Or.inl rfl)) c1.1 (by have := c1.2; omega)).trans ?_
    refine (zr_istore (w := enc l2) (vs' := [zf b 0, enc l1, enc l2, enc (nz (g (1 + 1) l1)), 137438953472, 137438953472, 137438953472]) rfl (enc_c2 _) (Nat.lt_trans (enc_lt _) (by decide)) (by decide) rfl (enc_lt _)).trans ?_
    refine (zr_aload (v := zf b 0) rfl (zf_tA h _)).trans ?_
    refine (zr_gfr h (tr_hall_dancers rfl)).trans ?_
    refine (zr_gfr h (tr_pl_y (Or.inl rfl))).trans ?_
    refine (zr_iload (v := enc l1) rfl (enc_lt _)).trans ?_
    by_cases c2 : 0 ≤ l1 ∧ l1 < 8
    · rw [if_pos c2] at k
      refine (zr_iald h (ta_pl_y (Or.inl rfl)) c2.1 (by have := c2.2; omega)).trans ?_
      refine (zr_istore (w := enc (nz (g (1 + 1) l1))) (vs' := [zf b 0, enc l1, enc l2, enc (nz (g (1 + 1) l1)), enc (nz (g (1 + 2) l1)), 137438953472, 137438953472]) rfl (enc_c2 _) (Nat.lt_trans (enc_lt _) (by decide)) (by decide) rfl (enc_lt _)).trans ?_
      refine (zr_aload (v := zf b 0) rfl (zf_tA h _)).trans ?_
      refine (zr_gfr h (tr_hall_dancers rfl)).trans ?_
      refine (zr_gfr h (tr_pl_f (Or.inl rfl))).trans ?_
      refine (zr_iload (v := enc l1) rfl (enc_lt _)).trans ?_
      by_cases c3 : 0 ≤ l1 ∧ l1 < 8
      · rw [if_pos c3] at k
        refine (zr_iald h (ta_pl_f (Or.inl rfl)) c3.1 (by have := c3.2; omega)).trans ?_
        refine (zr_istore (w := enc (nz (g (1 + 2) l1))) (vs' := [zf b 0, enc l1, enc l2, enc (nz (g (1 + 1) l1)), enc (nz (g (1 + 2) l1)), enc (nz (g (1 + 3) l1)), 137438953472]) rfl (enc_c2 _) (Nat.lt_trans (enc_lt _) (by decide)) (by decide) rfl (enc_lt _)).trans ?_
        refine (zr_iload (v := enc (nz (g (1 + 1) l1))) rfl (enc_lt _)).trans ?_
        refine (zr_aload (v := zf b 0) rfl (zf_tA h _)).trans ?_
        refine (zr_gfr h (tr_hall_dancers rfl)).trans ?_
        refine (zr_gfr h (tr_pl_x (Or.inl rfl))).trans ?_
        refine (zr_iload (v := enc l2) rfl (enc_lt _)).trans ?_
        by_cases c4 : 0 ≤ l2 ∧ l2 < 8
        · rw [if_pos c4] at k
          refine (zr_iald h (ta_pl_x (Or.inl rfl)) c4.1 (by have := c4.2; omega)).trans ?_
          refine (zr_isub).trans ?_
          refine zr_invS [enc (nz ((nz (g (1 + 1) l1)) - (nz (g (1 + 1) l2))))] rfl (zA_cons (enc_l _) zA_nil) (zA_nil) (by decide) ?_
          exact k
        · rw [if_neg c4] at k; cases k
      · rw [if_neg c3] at k; cases k
    · rw [if_neg c2] at k; cases k
  · rw [if_neg c1] at k; cases k
theorem zs_99_10 (h : zOk b n f) {l1 : Int} {l2 : Int} (zl1 : zR l1) (zl2 : zR l2) (k : (if l1 = l2 then (if 14 ≤ d then some (549755813890, zM n (zWf b (zbump f) g)) else none) else zRn AL V ST ex_km d kt_99 23 (zP [zf b 0, enc l1, enc l2, 137438953472, 137438953472, 137438953472, 137438953472]) [] (zM n (zWf b f g))) = some r) : k99_10 V ST d (zCl AL V ST ex_km d) (zRn AL V ST ex_km d kt_99) (zP [zf b 0, enc l1, enc l2, 137438953472, 137438953472, 137438953472, 137438953472]) [] (zM n (zWf b f g)) = some r := by
  unfold k99_10
  refine (zr_iload (v := enc l1) rfl (enc_lt _)).trans ?_
  refine (zr_iload (v := enc l2) rfl (enc_lt _)).trans ?_
  by_cases c1 : l1 = l2
  · rw [if_pos c1] at k
    refine (zr_icmp_ne_n (zl1) (zl2) c1).trans ?_
    by_cases c2 : 14 ≤ d
    · rw [if_pos c2] at k
      exact (zr_newx h c2 (zA_nil) (by decide)).trans k
    · rw [if_neg c2] at k; cases k
  · rw [if_neg c1] at k
    exact (zr_icmp_ne_t (zl1) (zl2) c1).trans k
theorem zs_99_5 (h : zOk b n f) {l1 : Int} {l2 : Int} (zl1 : zR l1) (zl2 : zR l2) (k : zTh (zCl AL V ST ex_km d 133 [zf b 0, enc l2] (zM n (zWf b f g))) (zM n (zWf b f g)) [] (fun S M => k99_10 V ST d (zCl AL V ST ex_km d) (zRn AL V ST ex_km d kt_99) (zP [zf b 0, enc l1, enc l2, 137438953472, 137438953472, 137438953472, 137438953472]) S M) = some r) : k99_5 V ST d (zCl AL V ST ex_km d) (zRn AL V ST ex_km d kt_99) (zP [zf b 0, enc l1, enc l2, 137438953472, 137438953472, 137438953472, 137438953472]) [] (zM n (zWf b f g)) = some r := by
  unfold k99_5
  refine (zr_aload (v := zf b 0) rfl (zf_tA h _)).trans ?_
  refine (zr_iload (v := enc l2) rfl (enc_lt _)).trans ?_
  refine zr_invV h [enc l2] rfl (tk_hall rfl) (zA_cons (enc_l _) zA_nil) (zA_nil) (by decide) ?_
  exact k
theorem zs_99_0 (h : zOk b n f) {l1 : Int} {l2 : Int} (zl1 : zR l1) (zl2 : zR l2) (k : zTh (zCl AL V ST ex_km d 133 [zf b 0, enc l1] (zM n (zWf b f g))) (zM n (zWf b f g)) [] (fun S M => k99_5 V ST d (zCl AL V ST ex_km d) (zRn AL V ST ex_km d kt_99) (zP [zf b 0, enc l1, enc l2, 137438953472, 137438953472, 137438953472, 137438953472]) S M) = some r) : k99_0 V ST d (zCl AL V ST ex_km d) (zRn AL V ST ex_km d kt_99) (zP [zf b 0, enc l1, enc l2, 137438953472, 137438953472, 137438953472, 137438953472]) [] (zM n (zWf b f g)) = some r := by
  unfold k99_0
  refine (zr_aload (v := zf b 0) rfl (zf_tA h _)).trans ?_
  refine (zr_iload (v := enc l1) rfl (enc_lt _)).trans ?_
  refine zr_invV h [enc l1] rfl (tk_hall rfl) (zA_cons (enc_l _) zA_nil) (zA_nil) (by decide) ?_
  exact k
theorem zs_100_92 (h : zOk b n f) {l1 : Int} {l2 : Int} {l3 : Nat} {l4 : Nat} (zl1 : zR l1) (zl2 : zR l2) (zl3 : ex_c2 l3 = false ∧ l3 < 1099511627776) (zl4 : ex_c2 l4 = false ∧ l4 < 1099511627776) (k : some (enc (nz (g (1 + 3) 0)), (zM n (zWf b f g))) = some r) : k100_92 V ST d (zCl AL V ST ex_km d) (zRn AL V ST ex_km d kt_100) (zP [zf b 0, enc l1, enc l2, l3, l4]) [] (zM n (zWf b f g)) = some r := by
  unfold k100_92
  refine (zr_aload (v := zf b 0) rfl (zf_tA h _)).trans ?_
  refine (zr_gfr h (tr_hall_dancers rfl)).trans ?_
  refine (zr_gfr h (tr_pl_f (Or.inl rfl))).trans ?_
  refine (zr_pshi 0 rfl).trans ?_
  refine (zr_iald h (ta_pl_f (Or.inl rfl)) (by decide) (by decide)).trans ?_
  exact zr_ireturn.trans k
theorem zs_100_88 (h : zOk b n f) {l1 : Int} {l2 : Int} {l3 : Nat} {l4 : Nat} (zl1 : zR l1) (zl2 : zR l2) (zl3 : ex_c2 l3 = false ∧ l3 < 1099511627776) (zl4 : ex_c2 l4 = false ∧ l4 < 1099511627776) (k : zTh (zCl AL V ST ex_km d 149 [zf b 0] (zM n (zWf b f g))) (zM n (zWf b f g)) [] (fun S M => k100_92 V ST d (zCl AL V ST ex_km d) (zRn AL V ST ex_km d kt_100) (zP [zf b 0, enc l1, enc l2, l3, l4]) S M) = some r) : k100_88 V ST d (zCl AL V ST ex_km d) (zRn AL V ST ex_km d kt_100) (zP [zf b 0, enc l1, enc l2, l3, l4]) [] (zM n (zWf b f g)) = some r := by
  unfold k100_88
  refine (zr_aload (v := zf b 0) rfl (zf_tA h _)).trans ?_
  refine zr_invV h [] rfl (tk_hall rfl) (zA_nil) (zA_nil) (by decide) ?_
  exact k
theorem zs_100_82 (h : zOk b n f) {l1 : Int} {l2 : Int} {l3 : Int} {l4 : Int} (zl1 : zR l1) (zl2 : zR l2) (zl3 : zR l3) (zl4 : zR l4) (k : zRn AL V ST ex_km d kt_100 20 (zP [zf b 0, enc l1, enc (nz (l2 + 1)), enc l3, enc l4]) [] (zM n (zWf b f g)) = some r) : k100_82 V ST d (zCl AL V ST ex_km d) (zRn AL V ST ex_km d kt_100) (zP [zf b 0, enc l1, enc l2, enc l3, enc l4]) [] (zM n (zWf b f g)) = some r := by
  unfold k100_82
  refine (zr_iinc (w := enc l1) (x := l2) (i' := 1) (vs' := [zf b 0, enc l1, enc (nz (l2 + 1)), enc l3, enc l4]) rfl (enc_c2 _) (Nat.lt_trans (enc_lt _) (by decide)) rfl rfl (by decide) rfl).trans ?_
  exact (zr_goto).trans k
theorem zs_100_66 (h : zOk b n f) {l1 : Int} {l2 : Int} {l3 : Int} {l4 : Int} {s0 : Int} {s1 : Int} {s2 : Int} {s3 : Nat} (zl1 : zR l1) (zl2 : zR l2) (zl3 : zR l3) (zl4 : zR l4) (zs0 : zR s0) (zs1 : zR s1) (zs2 : zR s2) (zs3 : zI_pl s3) (k : (if 0 ≤ l2 ∧ l2 < 8 then zTh (zCl AL V ST ex_km d 41 [zf b s3, enc s2, enc s1, enc s0, enc (zand (nz ((nz (g (1 + 3) l2)) - l1)) 3)] (zM n (zWf b f g))) (zM n (zWf b f g)) [] (fun S M => k100_82 V ST d (zCl AL V ST ex_km d) (zRn AL V ST ex_km d kt_100) (zP [zf b 0, enc l1, enc l2, enc l3, enc l4]) S M) else none) = some r) : k100_66 V ST d (zCl AL V ST ex_km d) (zRn AL V ST ex_km d kt_100) (zP [zf b 0, enc l1, enc l2, enc l3, enc l4]) [enc s0, enc s1, enc s2, zf b s3] (zM n (zWf b f g)) = some r := by
  unfold k100_66
  refine (zr_aload (v := zf b 0) rfl (zf_tA h _)).trans ?_
  refine (zr_gfr h (tr_hall_dancers rfl)).trans ?_
  refine (zr_gfr h (tr_pl_f (Or.inl rfl))).trans ?_
  refine (zr_iload (v := enc l2) rfl (enc_lt _)).trans ?_
  by_cases c1 : 0 ≤ l2 ∧ l2 < 8
  · rw [if_pos c1] at k
    refine (zr_iald h (ta_pl_f (Or.inl rfl)) c1.1 (by have := c1.2; omega)).trans ?_
    refine (zr_iload (v := enc l1) rfl (enc_lt _)).trans ?_
    refine (zr_isub).trans ?_
    refine (zr_pshi 3 rfl).trans ?_
    refine (zr_iand).trans ?_
    refine zr_invV h [enc (zand (nz ((nz (g (1 + 3) l2)) - l1)) 3), enc s0, enc s1, enc s2] rfl (tk_pl zs3) (zA_cons (enc_l _) (zA_cons (enc_l _) (zA_cons (enc_l _) (zA_cons (enc_l _) zA_nil)))) (zA_nil) (by decide) ?_
    exact k
  · rw [if_neg c1] at k; cases k
theorem zs_100_59 (h : zOk b n f) {l1 : Int} {l2 : Int} {l3 : Int} {l4 : Int} {s0 : Int} {s1 : Int} {s2 : Nat} (zl1 : zR l1) (zl2 : zR l2) (zl3 : zR l3) (zl4 : zR l4) (zs0 : zR s0) (zs1 : zR s1) (zs2 : zI_pl s2) (k : zTh (zCl AL V ST ex_km d 156 [enc l3, enc l4, enc l1] (zM n (zWf b f g))) (zM n (zWf b f g)) [enc s0, enc s1, zf b s2] (fun S M => k100_66 V ST d (zCl AL V ST ex_km d) (zRn AL V ST ex_km d kt_100) (zP [zf b 0, enc l1, enc l2, enc l3, enc l4]) S M) = some r) : k100_59 V ST d (zCl AL V ST ex_km d) (zRn AL V ST ex_km d kt_100) (zP [zf b 0, enc l1, enc l2, enc l3, enc l4]) [enc s0, enc s1, zf b s2] (zM n (zWf b f g)) = some r := by
  unfold k100_59
  refine (zr_iload (v := enc l3) rfl (enc_lt _)).trans ?_
  refine (zr_iload (v := enc l4) rfl (enc_lt _)).trans ?_
  refine (zr_iload (v := enc l1) rfl (enc_lt _)).trans ?_
  refine zr_invS [enc l1, enc l4, enc l3] rfl (zA_cons (enc_l _) (zA_cons (enc_l _) (zA_cons (enc_l _) zA_nil))) (zA_cons (enc_l _) (zA_cons (enc_l _) (zA_cons (zf_l h _) zA_nil))) (by decide) ?_
  exact k
theorem zs_100_20 (h : zOk b n f) {l1 : Int} {l2 : Int} {l3 : Nat} {l4 : Nat} (zl1 : zR l1) (zl2 : zR l2) (zl3 : ex_c2 l3 = false ∧ l3 < 1099511627776) (zl4 : ex_c2 l4 = false ∧ l4 < 1099511627776) (k : (if l2 < 8 then (if 0 ≤ l2 ∧ l2 < 8 then (if 0 ≤ l2 ∧ l2 < 8 then zTh (zCl AL V ST ex_km d 155 [enc (nz (g (1 + 1) l2)), enc (nz (g (1 + 2) l2)), enc l1] (zM n (zWf b f g))) (zM n (zWf b f g)) [enc l2, zf b 1] (fun S M => k100_59 V ST d (zCl AL V ST ex_km d) (zRn AL V ST ex_km d kt_100) (zP [zf b 0, enc l1, enc l2, enc (nz (g (1 + 1) l2)), enc (nz (g (1 + 2) l2))]) S M) else none) else none) else zRn AL V ST ex_km d kt_100 88 (zP [zf b 0, enc l1, enc l2, l3, l4]) [] (zM n (zWf b f g))) = some r) : k100_20 V ST d (zCl AL V ST ex_km d) (zRn AL V ST ex_km d kt_100) (zP [zf b 0, enc l1, enc l2, l3, l4]) [] (zM n (zWf b f g)) = some r := by
  unfold k100_20
  refine (zr_iload (v := enc l2) rfl (enc_lt _)).trans ?_
  refine (zr_pshi 8 rfl).trans ?_
  by_cases c1 : l2 < 8
  · rw [if_pos c1] at k
    refine (zr_icmp_ge_n (zl2) ((by unfold zR; omega)) c1).trans ?_
    refine (zr_aload (v := zf b 0) rfl (zf_tA h _)).trans ?_
    refine (zr_gfr h (tr_hall_dancers rfl)).trans ?_
    refine (zr_gfr h (tr_pl_x (Or.inl rfl))).trans ?_
    refine (zr_iload (v := enc l2) rfl (enc_lt _)).trans ?_
    by_cases c2 : 0 ≤ l2 ∧ l2 < 8
    · rw [if_pos c2] at k
      refine (zr_iald h (ta_pl_x (Or.inl rfl)) c2.1 (by have := c2.2; omega)).trans ?_
      refine (zr_istore (w := enc l2) (vs' := [zf b 0, enc l1, enc l2, enc (nz (g (1 + 1) l2)), l4]) rfl (enc_c2 _) (Nat.lt_trans (enc_lt _) (by decide)) (by decide) rfl (enc_lt _)).trans ?_
      refine (zr_aload (v := zf b 0) rfl (zf_tA h _)).trans ?_
      refine (zr_gfr h (tr_hall_dancers rfl)).trans ?_
      refine (zr_gfr h (tr_pl_y (Or.inl rfl))).trans ?_
      refine (zr_iload (v := enc l2) rfl (enc_lt _)).trans ?_
      by_cases c3 : 0 ≤ l2 ∧ l2 < 8
      · rw [if_pos c3] at k
        refine (zr_iald h (ta_pl_y (Or.inl rfl)) c3.1 (by have := c3.2; omega)).trans ?_
        refine (zr_istore (w := enc (nz (g (1 + 1) l2))) (vs' := [zf b 0, enc l1, enc l2, enc (nz (g (1 + 1) l2)), enc (nz (g (1 + 2) l2))]) rfl (enc_c2 _) (Nat.lt_trans (enc_lt _) (by decide)) (by decide) rfl (enc_lt _)).trans ?_
        refine (zr_aload (v := zf b 0) rfl (zf_tA h _)).trans ?_
        refine (zr_gfr h (tr_hall_dancers rfl)).trans ?_
        refine (zr_iload (v := enc l2) rfl (enc_lt _)).trans ?_
        refine (zr_iload (v := enc (nz (g (1 + 1) l2))) rfl (enc_lt _)).trans ?_
        refine (zr_iload (v := enc (nz (g (1 + 2) l2))) rfl (enc_lt _)).trans ?_
        refine (zr_iload (v := enc l1) rfl (enc_lt _)).trans ?_
        refine zr_invS [enc l1, enc (nz (g (1 + 2) l2)), enc (nz (g (1 + 1) l2))] rfl (zA_cons (enc_l _) (zA_cons (enc_l _) (zA_cons (enc_l _) zA_nil))) (zA_cons (enc_l _) (zA_cons (zf_l h _) zA_nil)) (by decide) ?_
        exact k
      · rw [if_neg c3] at k; cases k
    · rw [if_neg c2] at k; cases k
  · rw [if_neg c1] at k
    exact (zr_icmp_ge_t (zl2) ((by unfold zR; omega)) (Int.not_lt.mp c1)).trans k
theorem zs_100_18 (h : zOk b n f) {l1 : Int} (zl1 : zR l1) (k : k100_20 V ST d (zCl AL V ST ex_km d) (zRn AL V ST ex_km d kt_100) (zP [zf b 0, enc l1, enc 0, 137438953472, 137438953472]) [] (zM n (zWf b f g)) = some r) : k100_18 V ST d (zCl AL V ST ex_km d) (zRn AL V ST ex_km d kt_100) (zP [zf b 0, enc l1, 137438953472, 137438953472, 137438953472]) [] (zM n (zWf b f g)) = some r := by
  unfold k100_18
  refine (zr_pshi 0 rfl).trans ?_
  refine (zr_istore (w := enc l1) (vs' := [zf b 0, enc l1, enc 0, 137438953472, 137438953472]) rfl (enc_c2 _) (Nat.lt_trans (enc_lt _) (by decide)) (by decide) rfl (enc_lt _)).trans ?_
  exact k
theorem zs_100_10 (h : zOk b n f) {l1 : Int} (zl1 : zR l1) (k : (if 14 ≤ d then some (549755813890, zM n (zWf b (zbump f) g)) else none) = some r) : k100_10 V ST d (zCl AL V ST ex_km d) (zRn AL V ST ex_km d kt_100) (zP [zf b 0, enc l1, 137438953472, 137438953472, 137438953472]) [] (zM n (zWf b f g)) = some r := by
  unfold k100_10
  by_cases c1 : 14 ≤ d
  · rw [if_pos c1] at k
    exact (zr_newx h c1 (zA_nil) (by decide)).trans k
  · rw [if_neg c1] at k; cases k
theorem zs_100_0 (h : zOk b n f) {l1 : Int} (zl1 : zR l1) (k : (if l1 < 1 then zRn AL V ST ex_km d kt_100 10 (zP [zf b 0, enc l1, 137438953472, 137438953472, 137438953472]) [] (zM n (zWf b f g)) else (if 3 < l1 then k100_10 V ST d (zCl AL V ST ex_km d) (zRn AL V ST ex_km d kt_100) (zP [zf b 0, enc l1, 137438953472, 137438953472, 137438953472]) [] (zM n (zWf b f g)) else zRn AL V ST ex_km d kt_100 18 (zP [zf b 0, enc l1, 137438953472, 137438953472, 137438953472]) [] (zM n (zWf b f g)))) = some r) : k100_0 V ST d (zCl AL V ST ex_km d) (zRn AL V ST ex_km d kt_100) (zP [zf b 0, enc l1, 137438953472, 137438953472, 137438953472]) [] (zM n (zWf b f g)) = some r := by
  unfold k100_0
  refine (zr_iload (v := enc l1) rfl (enc_lt _)).trans ?_
  refine (zr_pshi 1 rfl).trans ?_
  by_cases c1 : l1 < 1
  · rw [if_pos c1] at k
    exact (zr_icmp_lt_t (zl1) ((by unfold zR; omega)) c1).trans k
  · rw [if_neg c1] at k
    refine (zr_icmp_lt_n (zl1) ((by unfold zR; omega)) (Int.not_lt.mp c1)).trans ?_
    refine (zr_iload (v := enc l1) rfl (enc_lt _)).trans ?_
    refine (zr_pshi 3 rfl).trans ?_
    by_cases c2 : 3 < l1
    · rw [if_pos c2] at k
      refine (zr_icmp_le_n (zl1) ((by unfold zR; omega)) c2).trans ?_
      exact k
    · rw [if_neg c2] at k
      exact (zr_icmp_le_t (zl1) ((by unfold zR; omega)) (Int.not_lt.mp c2)).trans k
theorem zs_101_22 (h : zOk b n f) {l1 : Int} {l2 : Int} {l3 : Int} (zl1 : zR l1) (zl2 : zR l2) (zl3 : zR l3) (k : some (enc l3, (zM n (zWf b f g))) = some r) : k101_22 V ST d (zCl AL V ST ex_km d) (zRn AL V ST ex_km d kt_101) (zP [zf b 0, enc l1, enc l2, enc l3]) [] (zM n (zWf b f g)) = some r := by
  unfold k101_22
  refine (zr_iload (v := enc l3) rfl (enc_lt _)).trans ?_
  exact zr_ireturn.trans k
theorem zs_101_9 (h : zOk b n f) {l1 : Int} {l2 : Int} {s0 : Int} (zl1 : zR l1) (zl2 : zR l2) (zs0 : zR s0) (k : (if s0 < 0 then (if 14 ≤ d then some (549755813892, zM n (zWf b (zbump f) g)) else none) else zRn AL V ST ex_km d kt_101 22 (zP [zf b 0, enc l1, enc l2, enc s0]) [] (zM n (zWf b f g))) = some r) : k101_9 V ST d (zCl AL V ST ex_km d) (zRn AL V ST ex_km d kt_101) (zP [zf b 0, enc l1, enc l2, 137438953472]) [enc s0] (zM n (zWf b f g)) = some r := by
  unfold k101_9
  refine (zr_istore (w := enc l2) (vs' := [zf b 0, enc l1, enc l2, enc s0]) rfl (enc_c2 _) (Nat.lt_trans (enc_lt _) (by decide)) (by decide) rfl (enc_lt _)).trans ?_
  refine (zr_iload (v := enc s0) rfl (enc_lt _)).trans ?_
  by_cases c1 : s0 < 0
  · rw [if_pos c1] at k
    refine (zr_if_ge_n (zs0) c1).trans ?_
    by_cases c2 : 14 ≤ d
    · rw [if_pos c2] at k
      exact (zr_newx h c2 (zA_nil) (by decide)).trans k
    · rw [if_neg c2] at k; cases k
  · rw [if_neg c1] at k
    exact (zr_if_ge_t (zs0) (Int.not_lt.mp c1)).trans k
theorem zs_101_0 (h : zOk b n f) {l1 : Int} {l2 : Int} (zl1 : zR l1) (zl2 : zR l2) (k : zTh (zCl AL V ST ex_km d 42 [zf b 1, enc l1, enc l2] (zM n (zWf b f g))) (zM n (zWf b f g)) [] (fun S M => k101_9 V ST d (zCl AL V ST ex_km d) (zRn AL V ST ex_km d kt_101) (zP [zf b 0, enc l1, enc l2, 137438953472]) S M) = some r) : k101_0 V ST d (zCl AL V ST ex_km d) (zRn AL V ST ex_km d kt_101) (zP [zf b 0, enc l1, enc l2, 137438953472]) [] (zM n (zWf b f g)) = some r := by
  unfold k101_0
  refine (zr_aload (v := zf b 0) rfl (zf_tA h _)).trans ?_
  refine (zr_gfr h (tr_hall_dancers rfl)).trans ?_
  refine (zr_iload (v := enc l1) rfl (enc_lt _)).trans ?_
  refine (zr_iload (v := enc l2) rfl (enc_lt _)).trans ?_
  refine zr_invV h [enc l2, enc l1] rfl (tk_pl (Or.inl rfl)) (zA_cons (enc_l _) (zA_cons (enc_l _) zA_nil)) (zA_nil) (by decide) ?_
  exact k
theorem zs_102_43 (h : zOk b n f) {l1 : Int} {l2 : Int} {l3 : Int} (zl1 : zR l1) (zl2 : zR l2) (zl3 : zR l3) (k : some (enc l3, (zM n (zWf b f g))) = some r) : k102_43 V ST d (zCl AL V ST ex_km d) (zRn AL V ST ex_km d kt_102) (zP [zf b 0, enc l1, enc l2, enc l3]) [] (zM n (zWf b f g)) = some r := by
  unfold k102_43
  refine (zr_iload (v := enc l3) rfl (enc_lt _)).trans ?_
  exact zr_ireturn.trans k
theorem zs_102_22 (h : zOk b n f) {l1 : Int} {l2 : Int} (zl1 : zR l1) (zl2 : zR l2) (k : (if 0 ≤ l1 ∧ l1 < 8 then (if 0 ≤ l1 ∧ l1 < 8 then zTh (zCl AL V ST ex_km d 46 [zf b 155] (zM n (zWf b f (upd g 13 l1 l2)))) (zM n (zWf b f (upd g 13 l1 l2))) [] (fun S M => k102_43 V ST d (zCl AL V ST ex_km d) (zRn AL V ST ex_km d kt_102) (zP [zf b 0, enc l1, enc l2, enc (nz (g 13 l1))]) S M) else none) else none) = some r) : k102_22 V ST d (zCl AL V ST ex_km d) (zRn AL V ST ex_km d kt_102) (zP [zf b 0, enc l1, enc l2, 137438953472]) [] (zM n (zWf b f g)) = some r := by
  unfold k102_22
  refine (zr_aload (v := zf b 0) rfl (zf_tA h _)).trans ?_
  refine (zr_gfr h (tr_hall_skills rfl)).trans ?_
  refine (zr_iload (v := enc l1) rfl (enc_lt _)).trans ?_
  by_cases c1 : 0 ≤ l1 ∧ l1 < 8
  · rw [if_pos c1] at k
    refine (zr_iald h (ta_hall_skills rfl) c1.1 (by have := c1.2; omega)).trans ?_
    refine (zr_istore (w := enc l2) (vs' := [zf b 0, enc l1, enc l2, enc (nz (g 13 l1))]) rfl (enc_c2 _) (Nat.lt_trans (enc_lt _) (by decide)) (by decide) rfl (enc_lt _)).trans ?_
    refine (zr_aload (v := zf b 0) rfl (zf_tA h _)).trans ?_
    refine (zr_gfr h (tr_hall_skills rfl)).trans ?_
    refine (zr_iload (v := enc l1) rfl (enc_lt _)).trans ?_
    refine (zr_iload (v := enc l2) rfl (enc_lt _)).trans ?_
    by_cases c2 : 0 ≤ l1 ∧ l1 < 8
    · rw [if_pos c2] at k
      refine (zr_iast h (ta_hall_skills rfl) c2.1 (by have := c2.2; omega)).trans ?_
      refine (zr_aload (v := zf b 0) rfl (zf_tA h _)).trans ?_
      refine (zr_gfr h (tr_hall_rest rfl)).trans ?_
      refine zr_invV h [] rfl (tk_plan (Or.inr rfl)) (zA_nil) (zA_nil) (by decide) ?_
      exact k
    · rw [if_neg c2] at k; cases k
  · rw [if_neg c1] at k; cases k
theorem zs_102_14 (h : zOk b n f) {l1 : Int} {l2 : Int} (zl1 : zR l1) (zl2 : zR l2) (k : (if 14 ≤ d then some (549755813890, zM n (zWf b (zbump f) g)) else none) = some r) : k102_14 V ST d (zCl AL V ST ex_km d) (zRn AL V ST ex_km d kt_102) (zP [zf b 0, enc l1, enc l2, 137438953472]) [] (zM n (zWf b f g)) = some r := by
  unfold k102_14
  by_cases c1 : 14 ≤ d
  · rw [if_pos c1] at k
    exact (zr_newx h c1 (zA_nil) (by decide)).trans k
  · rw [if_neg c1] at k; cases k
theorem zs_102_5 (h : zOk b n f) {l1 : Int} {l2 : Int} (zl1 : zR l1) (zl2 : zR l2) (k : (if l2 < 0 then zRn AL V ST ex_km d kt_102 14 (zP [zf b 0, enc l1, enc l2, 137438953472]) [] (zM n (zWf b f g)) else (if 3 < l2 then k102_14 V ST d (zCl AL V ST ex_km d) (zRn AL V ST ex_km d kt_102) (zP [zf b 0, enc l1, enc l2, 137438953472]) [] (zM n (zWf b f g)) else zRn AL V ST ex_km d kt_102 22 (zP [zf b 0, enc l1, enc l2, 137438953472]) [] (zM n (zWf b f g)))) = some r) : k102_5 V ST d (zCl AL V ST ex_km d) (zRn AL V ST ex_km d kt_102) (zP [zf b 0, enc l1, enc l2, 137438953472]) [] (zM n (zWf b f g)) = some r := by
  unfold k102_5
  refine (zr_iload (v := enc l2) rfl (enc_lt _)).trans ?_
  by_cases c1 : l2 < 0
  · rw [if_pos c1] at k
    exact (zr_if_lt_t (zl2) c1).trans k
  · rw [if_neg c1] at k
    refine (zr_if_lt_n (zl2) (Int.not_lt.mp c1)).trans ?_
    refine (zr_iload (v := enc l2) rfl (enc_lt _)).trans ?_
    refine (zr_pshi 3 rfl).trans ?_
    by_cases c2 : 3 < l2
    · rw [if_pos c2] at k
      refine (zr_icmp_le_n (zl2) ((by unfold zR; omega)) c2).trans ?_
      exact k
    · rw [if_neg c2] at k
      exact (zr_icmp_le_t (zl2) ((by unfold zR; omega)) (Int.not_lt.mp c2)).trans k
theorem zs_102_0 (h : zOk b n f) {l1 : Int} {l2 : Int} (zl1 : zR l1) (zl2 : zR l2) (k : zTh (zCl AL V ST ex_km d 133 [zf b 0, enc l1] (zM n (zWf b f g))) (zM n (zWf b f g)) [] (fun S M => k102_5 V ST d (zCl AL V ST ex_km d) (zRn AL V ST ex_km d kt_102) (zP [zf b 0, enc l1, enc l2, 137438953472]) S M) = some r) : k102_0 V ST d (zCl AL V ST ex_km d) (zRn AL V ST ex_km d kt_102) (zP [zf b 0, enc l1, enc l2, 137438953472]) [] (zM n (zWf b f g)) = some r := by
  unfold k102_0
  refine (zr_aload (v := zf b 0) rfl (zf_tA h _)).trans ?_
  refine (zr_iload (v := enc l1) rfl (enc_lt _)).trans ?_
  refine zr_invV h [enc l1] rfl (tk_hall rfl) (zA_cons (enc_l _) zA_nil) (zA_nil) (by decide) ?_
  exact k
theorem zs_103_79 (h : zOk b n f) {l1 : Int} {l2 : Int} {l3 : Int} {l4 : Int} {l5 : Int} {l6 : Int} {l7 : Int} {l8 : Int} {l9 : Int} {s0 : Int} (zl1 : zR l1) (zl2 : zR l2) (zl3 : zR l3) (zl4 : zR l4) (zl5 : zR l5) (zl6 : zR l6) (zl7 : zR l7) (zl8 : zR l8) (zl9 : zR l9) (zs0 : zR s0) (k : some (enc s0, (zM n (zWf b f g))) = some r) : k103_79 V ST d (zCl AL V ST ex_km d) (zRn AL V ST ex_km d kt_103) (zP [zf b 0, enc l1, enc l2, enc l3, enc l4, enc l5, enc l6, enc l7, enc l8, enc l9]) [enc s0] (zM n (zWf b f g)) = some r := by
  unfold k103_79
  exact zr_ireturn.trans k
theorem zs_103_63 (h : zOk b n f) {l1 : Int} {l2 : Int} {l3 : Int} {l4 : Int} {l5 : Int} {l6 : Int} {l7 : Int} {l8 : Int} {l9 : Int} (zl1 : zR l1) (zl2 : zR l2) (zl3 : zR l3) (zl4 : zR l4) (zl5 : zR l5) (zl6 : zR l6) (zl7 : zR l7) (zl8 : zR l8) (zl9 : zR l9) (k : zTh (zCl AL V ST ex_km d 4 [zf b 71, enc l6, enc l2, enc l7, enc l8, enc l9] (zM n (zWf b f g))) (zM n (zWf b f g)) [] (fun S M => k103_79 V ST d (zCl AL V ST ex_km d) (zRn AL V ST ex_km d kt_103) (zP [zf b 0, enc l1, enc l2, enc l3, enc l4, enc l5, enc l6, enc l7, enc l8, enc l9]) S M) = some r) : k103_63 V ST d (zCl AL V ST ex_km d) (zRn AL V ST ex_km d kt_103) (zP [zf b 0, enc l1, enc l2, enc l3, enc l4, enc l5, enc l6, enc l7, enc l8, enc l9]) [] (zM n (zWf b f g)) = some r := by
  unfold k103_63
  refine (zr_aload (v := zf b 0) rfl (zf_tA h _)).trans ?_
  refine (zr_gfr h (tr_hall_book rfl)).trans ?_
  refine (zr_iload (v := enc l6) rfl (enc_lt _)).trans ?_
  refine (zr_iload (v := enc l2) rfl (enc_lt _)).trans ?_
  refine (zr_iload (v := enc l7) rfl (enc_lt _)).trans ?_
  refine (zr_iload (v := enc l8) rfl (enc_lt _)).trans ?_
  refine (zr_iload (v := enc l9) rfl (enc_lt _)).trans ?_
  refine zr_invV h [enc l9, enc l8, enc l7, enc l2, enc l6] rfl (tk_book rfl) (zA_cons (enc_l _) (zA_cons (enc_l _) (zA_cons (enc_l _) (zA_cons (enc_l _) (zA_cons (enc_l _) zA_nil))))) (zA_nil) (by decide) ?_
  exact k
theorem zs_103_56 (h : zOk b n f) {l1 : Int} {l2 : Int} {l3 : Int} {l4 : Int} {l5 : Int} {l6 : Int} {l7 : Int} {l8 : Int} {l9 : Int} (zl1 : zR l1) (zl2 : zR l2) (zl3 : zR l3) (zl4 : zR l4) (zl5 : zR l5) (zl6 : zR l6) (zl7 : zR l7) (zl8 : zR l8) (zl9 : zR l9) (k : zTh (zCl AL V ST ex_km d 46 [zf b 155] (zM n (zWf b f g))) (zM n (zWf b f g)) [] (fun S M => k103_63 V ST d (zCl AL V ST ex_km d) (zRn AL V ST ex_km d kt_103) (zP [zf b 0, enc l1, enc l2, enc l3, enc l4, enc l5, enc l6, enc l7, enc l8, enc l9]) S M) = some r) : k103_56 V ST d (zCl AL V ST ex_km d) (zRn AL V ST ex_km d kt_103) (zP [zf b 0, enc l1, enc l2, enc l3, enc l4, enc l5, enc l6, enc l7, enc l8, enc l9]) [] (zM n (zWf b f g)) = some r := by
  unfold k103_56
  refine (zr_aload (v := zf b 0) rfl (zf_tA h _)).trans ?_
  refine (zr_gfr h (tr_hall_rest rfl)).trans ?_
  refine zr_invV h [] rfl (tk_plan (Or.inr rfl)) (zA_nil) (zA_nil) (by decide) ?_
  exact k
theorem zs_103_45 (h : zOk b n f) {l1 : Int} {l2 : Int} {l3 : Int} {l4 : Int} {l5 : Int} {l6 : Int} {l7 : Int} {l8 : Int} {l9 : Int} {s0 : Int} (zl1 : zR l1) (zl2 : zR l2) (zl3 : zR l3) (zl4 : zR l4) (zl5 : zR l5) (zl6 : zR l6) (zl7 : zR l7) (zl8 : zR l8) (zl9 : zR l9) (zs0 : zR s0) (k : (if s0 = 0 then (if 14 ≤ d then some (549755813893, zM n (zWf b (zbump f) g)) else none) else zRn AL V ST ex_km d kt_103 56 (zP [zf b 0, enc l1, enc l2, enc l3, enc l4, enc l5, enc l6, enc l7, enc l8, enc l9]) [] (zM n (zWf b f g))) = some r) : k103_45 V ST d (zCl AL V ST ex_km d) (zRn AL V ST ex_km d kt_103) (zP [zf b 0, enc l1, enc l2, enc l3, enc l4, enc l5, enc l6, enc l7, enc l8, enc l9]) [enc s0] (zM n (zWf b f g)) = some r := by
  unfold k103_45
  by_cases c1 : s0 = 0
  · rw [if_pos c1] at k
    refine (zr_if_ne_n (zs0) c1).trans ?_
    by_cases c2 : 14 ≤ d
    · rw [if_pos c2] at k
      exact (zr_newx h c2 (zA_nil) (by decide)).trans k
    · rw [if_neg c2] at k; cases k
  · rw [if_neg c1] at k
    exact (zr_if_ne_t (zs0) c1).trans k
theorem zs_103_35 (h : zOk b n f) {l1 : Int} {l2 : Int} {l3 : Int} {l4 : Int} {l5 : Int} {l6 : Int} {l7 : Int} {l8 : Int} {l9 : Int} (zl1 : zR l1) (zl2 : zR l2) (zl3 : zR l3) (zl4 : zR l4) (zl5 : zR l5) (zl6 : zR l6) (zl7 : zR l7) (zl8 : zR l8) (zl9 : zR l9) (k : zTh (zCl AL V ST ex_km d 3 [zf b 71, enc l6, enc l2] (zM n (zWf b f g))) (zM n (zWf b f g)) [] (fun S M => k103_45 V ST d (zCl AL V ST ex_km d) (zRn AL V ST ex_km d kt_103) (zP [zf b 0, enc l1, enc l2, enc l3, enc l4, enc l5, enc l6, enc l7, enc l8, enc l9]) S M) = some r) : k103_35 V ST d (zCl AL V ST ex_km d) (zRn AL V ST ex_km d kt_103) (zP [zf b 0, enc l1, enc l2, enc l3, enc l4, enc l5, enc l6, enc l7, enc l8, enc l9]) [] (zM n (zWf b f g)) = some r := by
  unfold k103_35
  refine (zr_aload (v := zf b 0) rfl (zf_tA h _)).trans ?_
  refine (zr_gfr h (tr_hall_book rfl)).trans ?_
  refine (zr_iload (v := enc l6) rfl (enc_lt _)).trans ?_
  refine (zr_iload (v := enc l2) rfl (enc_lt _)).trans ?_
  refine zr_invV h [enc l2, enc l6] rfl (tk_book rfl) (zA_cons (enc_l _) (zA_cons (enc_l _) zA_nil)) (zA_nil) (by decide) ?_
  exact k
theorem zs_103_28 (h : zOk b n f) {l1 : Int} {l2 : Int} {l3 : Int} {l4 : Int} {l5 : Int} {l6 : Int} {l7 : Int} {l8 : Int} {s0 : Int} (zl1 : zR l1) (zl2 : zR l2) (zl3 : zR l3) (zl4 : zR l4) (zl5 : zR l5) (zl6 : zR l6) (zl7 : zR l7) (zl8 : zR l8) (zs0 : zR s0) (k : zTh (zCl AL V ST ex_km d 135 [zf b 0, enc l2] (zM n (zWf b f g))) (zM n (zWf b f g)) [] (fun S M => k103_35 V ST d (zCl AL V ST ex_km d) (zRn AL V ST ex_km d kt_103) (zP [zf b 0, enc l1, enc l2, enc l3, enc l4, enc l5, enc l6, enc l7, enc l8, enc s0]) S M) = some r) : k103_28 V ST d (zCl AL V ST ex_km d) (zRn AL V ST ex_km d kt_103) (zP [zf b 0, enc l1, enc l2, enc l3, enc l4, enc l5, enc l6, enc l7, enc l8, 137438953472]) [enc s0] (zM n (zWf b f g)) = some r := by
  unfold k103_28
  refine (zr_istore (w := enc l8) (vs' := [zf b 0, enc l1, enc l2, enc l3, enc l4, enc l5, enc l6, enc l7, enc l8, enc s0]) rfl (enc_c2 _) (Nat.lt_trans (enc_lt _) (by decide)) (by decide) rfl (enc_lt _)).trans ?_
  refine (zr_aload (v := zf b 0) rfl (zf_tA h _)).trans ?_
  refine (zr_iload (v := enc l2) rfl (enc_lt _)).trans ?_
  refine zr_invV h [enc l2] rfl (tk_hall rfl) (zA_cons (enc_l _) zA_nil) (zA_nil) (by decide) ?_
  exact k
theorem zs_103_20 (h : zOk b n f) {l1 : Int} {l2 : Int} {l3 : Int} {l4 : Int} {l5 : Int} {l6 : Int} {l7 : Int} {s0 : Int} (zl1 : zR l1) (zl2 : zR l2) (zl3 : zR l3) (zl4 : zR l4) (zl5 : zR l5) (zl6 : zR l6) (zl7 : zR l7) (zs0 : zR s0) (k : zTh (zCl AL V ST ex_km d 140 [zf b 0, enc l5] (zM n (zWf b f g))) (zM n (zWf b f g)) [] (fun S M => k103_28 V ST d (zCl AL V ST ex_km d) (zRn AL V ST ex_km d kt_103) (zP [zf b 0, enc l1, enc l2, enc l3, enc l4, enc l5, enc l6, enc l7, enc s0, 137438953472]) S M) = some r) : k103_20 V ST d (zCl AL V ST ex_km d) (zRn AL V ST ex_km d kt_103) (zP [zf b 0, enc l1, enc l2, enc l3, enc l4, enc l5, enc l6, enc l7, 137438953472, 137438953472]) [enc s0] (zM n (zWf b f g)) = some r := by
  unfold k103_20
  refine (zr_istore (w := enc l7) (vs' := [zf b 0, enc l1, enc l2, enc l3, enc l4, enc l5, enc l6, enc l7, enc s0, 137438953472]) rfl (enc_c2 _) (Nat.lt_trans (enc_lt _) (by decide)) (by decide) rfl (enc_lt _)).trans ?_
  refine (zr_aload (v := zf b 0) rfl (zf_tA h _)).trans ?_
  refine (zr_iload (v := enc l5) rfl (enc_lt _)).trans ?_
  refine zr_invV h [enc l5] rfl (tk_hall rfl) (zA_cons (enc_l _) zA_nil) (zA_nil) (by decide) ?_
  exact k
theorem zs_103_12 (h : zOk b n f) {l1 : Int} {l2 : Int} {l3 : Int} {l4 : Int} {l5 : Int} {l6 : Int} {s0 : Int} (zl1 : zR l1) (zl2 : zR l2) (zl3 : zR l3) (zl4 : zR l4) (zl5 : zR l5) (zl6 : zR l6) (zs0 : zR s0) (k : zTh (zCl AL V ST ex_km d 139 [zf b 0, enc l4] (zM n (zWf b f g))) (zM n (zWf b f g)) [] (fun S M => k103_20 V ST d (zCl AL V ST ex_km d) (zRn AL V ST ex_km d kt_103) (zP [zf b 0, enc l1, enc l2, enc l3, enc l4, enc l5, enc l6, enc s0, 137438953472, 137438953472]) S M) = some r) : k103_12 V ST d (zCl AL V ST ex_km d) (zRn AL V ST ex_km d kt_103) (zP [zf b 0, enc l1, enc l2, enc l3, enc l4, enc l5, enc l6, 137438953472, 137438953472, 137438953472]) [enc s0] (zM n (zWf b f g)) = some r := by
  unfold k103_12
  refine (zr_istore (w := enc l6) (vs' := [zf b 0, enc l1, enc l2, enc l3, enc l4, enc l5, enc l6, enc s0, 137438953472, 137438953472]) rfl (enc_c2 _) (Nat.lt_trans (enc_lt _) (by decide)) (by decide) rfl (enc_lt _)).trans ?_
  refine (zr_aload (v := zf b 0) rfl (zf_tA h _)).trans ?_
  refine (zr_iload (v := enc l4) rfl (enc_lt _)).trans ?_
  refine zr_invV h [enc l4] rfl (tk_hall rfl) (zA_cons (enc_l _) zA_nil) (zA_nil) (by decide) ?_
  exact k
theorem zs_103_5 (h : zOk b n f) {l1 : Int} {l2 : Int} {l3 : Int} {l4 : Int} {l5 : Int} {s0 : Int} (zl1 : zR l1) (zl2 : zR l2) (zl3 : zR l3) (zl4 : zR l4) (zl5 : zR l5) (zs0 : zR s0) (k : zTh (zCl AL V ST ex_km d 138 [zf b 0, enc l3] (zM n (zWf b f g))) (zM n (zWf b f g)) [] (fun S M => k103_12 V ST d (zCl AL V ST ex_km d) (zRn AL V ST ex_km d kt_103) (zP [zf b 0, enc l1, enc l2, enc l3, enc l4, enc l5, enc s0, 137438953472, 137438953472, 137438953472]) S M) = some r) : k103_5 V ST d (zCl AL V ST ex_km d) (zRn AL V ST ex_km d kt_103) (zP [zf b 0, enc l1, enc l2, enc l3, enc l4, enc l5, 137438953472, 137438953472, 137438953472, 137438953472]) [enc s0] (zM n (zWf b f g)) = some r := by
  unfold k103_5
  refine (zr_istore (w := enc l5) (vs' := [zf b 0, enc l1, enc l2, enc l3, enc l4, enc l5, enc s0, 137438953472, 137438953472, 137438953472]) rfl (enc_c2 _) (Nat.lt_trans (enc_lt _) (by decide)) (by decide) rfl (enc_lt _)).trans ?_
  refine (zr_aload (v := zf b 0) rfl (zf_tA h _)).trans ?_
  refine (zr_iload (v := enc l3) rfl (enc_lt _)).trans ?_
  refine zr_invV h [enc l3] rfl (tk_hall rfl) (zA_cons (enc_l _) zA_nil) (zA_nil) (by decide) ?_
  exact k
theorem zs_103_0 (h : zOk b n f) {l1 : Int} {l2 : Int} {l3 : Int} {l4 : Int} {l5 : Int} (zl1 : zR l1) (zl2 : zR l2) (zl3 : zR l3) (zl4 : zR l4) (zl5 : zR l5) (k : zTh (zCl AL V ST ex_km d 137 [zf b 0, enc l1] (zM n (zWf b f g))) (zM n (zWf b f g)) [] (fun S M => k103_5 V ST d (zCl AL V ST ex_km d) (zRn AL V ST ex_km d kt_103) (zP [zf b 0, enc l1, enc l2, enc l3, enc l4, enc l5, 137438953472, 137438953472, 137438953472, 137438953472]) S M) = some r) : k103_0 V ST d (zCl AL V ST ex_km d) (zRn AL V ST ex_km d kt_103) (zP [zf b 0, enc l1, enc l2, enc l3, enc l4, enc l5, 137438953472, 137438953472, 137438953472, 137438953472]) [] (zM n (zWf b f g)) = some r := by
  unfold k103_0
  refine (zr_aload (v := zf b 0) rfl (zf_tA h _)).trans ?_
  refine (zr_iload (v := enc l1) rfl (enc_lt _)).trans ?_
  refine zr_invV h [enc l1] rfl (tk_hall rfl) (zA_cons (enc_l _) zA_nil) (zA_nil) (by decide) ?_
  exact k
theorem zs_104_5 (h : zOk b n f) {l1 : Int} (zl1 : zR l1) (k : some (enc (nz (g 151 5)), (zM n (zWf b f g))) = some r) : k104_5 V ST d (zCl AL V ST ex_km d) (zRn AL V ST ex_km d kt_104) (zP [zf b 0, enc l1]) [] (zM n (zWf b f g)) = some r := by
  unfold k104_5
  refine (zr_aload (v := zf b 0) rfl (zf_tA h _)).trans ?_
  refine (zr_gfr h (tr_hall_plan rfl)).trans ?_
  refine (zr_gfi h (ti_plan_partCount (Or.inl rfl))).trans ?_
  exact zr_ireturn.trans k
theorem zs_104_0 (h : zOk b n f) {l1 : Int} (zl1 : zR l1) (k : zTh (zCl AL V ST ex_km d 142 [zf b 0, enc l1] (zM n (zWf b f g))) (zM n (zWf b f g)) [] (fun S M => k104_5 V ST d (zCl AL V ST ex_km d) (zRn AL V ST ex_km d kt_104) (zP [zf b 0, enc l1]) S M) = some r) : k104_0 V ST d (zCl AL V ST ex_km d) (zRn AL V ST ex_km d kt_104) (zP [zf b 0, enc l1]) [] (zM n (zWf b f g)) = some r := by
  unfold k104_0
  refine (zr_aload (v := zf b 0) rfl (zf_tA h _)).trans ?_
  refine (zr_iload (v := enc l1) rfl (enc_lt _)).trans ?_
  refine zr_invV h [enc l1] rfl (tk_hall rfl) (zA_cons (enc_l _) zA_nil) (zA_nil) (by decide) ?_
  exact k
theorem zs_105_5 (h : zOk b n f) {l1 : Int} {l2 : Int} {l3 : Int} {l4 : Int} {l5 : Int} {s0 : Int} (zl1 : zR l1) (zl2 : zR l2) (zl3 : zR l3) (zl4 : zR l4) (zl5 : zR l5) (zs0 : zR s0) (k : zTh (zCl AL V ST ex_km d 140 [zf b 0, enc l3] (zM n (zWf b f g))) (zM n (zWf b f g)) [] (fun S M => k105_12 V ST d (zCl AL V ST ex_km d) (zRn AL V ST ex_km d kt_105) (zP [zf b 0, enc l1, enc l2, enc l3, enc l4, enc l5, enc s0, 137438953472, 137438953472, 137438953472]) S M) = some r) : k105_5 V ST d (zCl AL V ST ex_km d) (zRn AL V ST ex_km d kt_105) (zP [zf b 0, enc l1, enc l2, enc l3, enc l4, enc l5, 137438953472, 137438953472, 137438953472, 137438953472]) [enc s0] (zM n (zWf b f g)) = some r := by
  unfold k105_5
  refine (zr_istore (w := enc l5) (vs' := [zf b 0, enc l1, enc l2, enc l3, enc l4, enc l5, enc s0, 137438953472, 137438953472, 137438953472]) rfl (enc_c2 _) (Nat.lt_trans (enc_lt _) (by decide)) (by decide) rfl (enc_lt _)).trans ?_
  refine (zr_aload (v := zf b 0) rfl (zf_tA h _)).trans ?_
  refine (zr_iload (v := enc l3) rfl (enc_lt _)).trans ?_
  refine zr_invV h [enc l3] rfl (tk_hall rfl) (zA_cons (enc_l _) zA_nil) (zA_nil) (by decide) ?_
  exact k
theorem zs_105_0 (h : zOk b n f) {l1 : Int} {l2 : Int} {l3 : Int} {l4 : Int} {l5 : Int} (zl1 : zR l1) (zl2 : zR l2) (zl3 : zR l3) (zl4 : zR l4) (zl5 : zR l5) (k : zTh (zCl AL V ST ex_km d 139 [zf b 0, enc l2] (zM n (zWf b f g))) (zM n (zWf b f g)) [] (fun S M => k105_5 V ST d (zCl AL V ST ex_km d) (zRn AL V ST ex_km d kt_105) (zP [zf b 0, enc l1, enc l2, enc l3, enc l4, enc l5, 137438953472, 137438953472, 137438953472, 137438953472]) S M) = some r) : k105_0 V ST d (zCl AL V ST ex_km d) (zRn AL V ST ex_km d kt_105) (zP [zf b 0, enc l1, enc l2, enc l3, enc l4, enc l5, 137438953472, 137438953472, 137438953472, 137438953472]) [] (zM n (zWf b f g)) = some r := by
  unfold k105_0
  refine (zr_aload (v := zf b 0) rfl (zf_tA h _)).trans ?_
  refine (zr_iload (v := enc l2) rfl (enc_lt _)).trans ?_
  refine zr_invV h [enc l2] rfl (tk_hall rfl) (zA_cons (enc_l _) zA_nil) (zA_nil) (by decide) ?_
  exact k
theorem zs_106_99 (h : zOk b n f) {l1 : Int} (zl1 : zR l1) (k : some (enc l1, (zM n (zWf b f g))) = some r) : k106_99 V ST d (zCl AL V ST ex_km d) (zRn AL V ST ex_km d kt_106) (zP [zf b 0, enc l1]) [] (zM n (zWf b f g)) = some r := by
  unfold k106_99
  refine (zr_iload (v := enc l1) rfl (enc_lt _)).trans ?_
  exact zr_ireturn.trans k
theorem zs_106_92 (h : zOk b n f) {l1 : Int} (zl1 : zR l1) (k : zTh (zCl AL V ST ex_km d 46 [zf b 155] (zM n (zWf b f g))) (zM n (zWf b f g)) [] (fun S M => k106_99 V ST d (zCl AL V ST ex_km d) (zRn AL V ST ex_km d kt_106) (zP [zf b 0, enc l1]) S M) = some r) : k106_92 V ST d (zCl AL V ST ex_km d) (zRn AL V ST ex_km d kt_106) (zP [zf b 0, enc l1]) [] (zM n (zWf b f g)) = some r := by
  unfold k106_92
  refine (zr_aload (v := zf b 0) rfl (zf_tA h _)).trans ?_
  refine (zr_gfr h (tr_hall_rest rfl)).trans ?_
  refine zr_invV h [] rfl (tk_plan (Or.inr rfl)) (zA_nil) (zA_nil) (by decide) ?_
  exact k
theorem zs_106_88 (h : zOk b n f) {l1 : Int} {s0 : Int} {s1 : Int} (zl1 : zR l1) (zs0 : zR s0) (zs1 : zR s1) (k : zTh (zCl AL V ST ex_km d 144 [zf b 0, enc (nz (s1 - s0))] (zM n (zWf b f g))) (zM n (zWf b f g)) [] (fun S M => k106_92 V ST d (zCl AL V ST ex_km d) (zRn AL V ST ex_km d kt_106) (zP [zf b 0, enc l1]) S M) = some r) : k106_88 V ST d (zCl AL V ST ex_km d) (zRn AL V ST ex_km d kt_106) (zP [zf b 0, enc l1]) [enc s0, enc s1, zf b 0] (zM n (zWf b f g)) = some r := by
  unfold k106_88
  refine (zr_isub).trans ?_
  refine zr_invV h [enc (nz (s1 - s0))] rfl (tk_hall rfl) (zA_cons (enc_l _) zA_nil) (zA_nil) (by decide) ?_
  exact k
theorem zs_106_66 (h : zOk b n f) {l1 : Int} (zl1 : zR l1) (k : zTh (zCl AL V ST ex_km d 53 [zf b 155, enc (nz (g 155 8))] (zM n (zWf b f g))) (zM n (zWf b f g)) [enc (nz (g 155 6)), zf b 0] (fun S M => k106_88 V ST d (zCl AL V ST ex_km d) (zRn AL V ST ex_km d kt_106) (zP [zf b 0, enc l1]) S M) = some r) : k106_66 V ST d (zCl AL V ST ex_km d) (zRn AL V ST ex_km d kt_106) (zP [zf b 0, enc l1]) [] (zM n (zWf b f g)) = some r := by
  unfold k106_66
  refine (zr_aload (v := zf b 0) rfl (zf_tA h _)).trans ?_
  refine (zr_aload (v := zf b 0) rfl (zf_tA h _)).trans ?_
  refine (zr_gfr h (tr_hall_rest rfl)).trans ?_
  refine (zr_gfi h (ti_plan_beatCount (Or.inr rfl))).trans ?_
  refine (zr_aload (v := zf b 0) rfl (zf_tA h _)).trans ?_
  refine (zr_gfr h (tr_hall_rest rfl)).trans ?_
  refine (zr_aload (v := zf b 0) rfl (zf_tA h _)).trans ?_
  refine (zr_gfr h (tr_hall_rest rfl)).trans ?_
  refine (zr_gfi h (ti_plan_done (Or.inr rfl))).trans ?_
  refine zr_invV h [enc (nz (g 155 8))] rfl (tk_plan (Or.inr rfl)) (zA_cons (enc_l _) zA_nil) (zA_cons (enc_l _) (zA_cons (zf_l h _) zA_nil)) (by decide) ?_
  exact k
theorem zs_106_43 (h : zOk b n f) {l1 : Int} (zl1 : zR l1) (k : zTh (zCl AL V ST ex_km d 143 [zf b 0, zf b 155, enc 1, enc (nz (g 155 5)), enc (nz (g 155 8))] (zM n (zWf b f g))) (zM n (zWf b f g)) [] (fun S M => k106_66 V ST d (zCl AL V ST ex_km d) (zRn AL V ST ex_km d kt_106) (zP [zf b 0, enc l1]) S M) = some r) : k106_43 V ST d (zCl AL V ST ex_km d) (zRn AL V ST ex_km d kt_106) (zP [zf b 0, enc l1]) [] (zM n (zWf b f g)) = some r := by
  unfold k106_43
  refine (zr_aload (v := zf b 0) rfl (zf_tA h _)).trans ?_
  refine (zr_aload (v := zf b 0) rfl (zf_tA h _)).trans ?_
  refine (zr_gfr h (tr_hall_rest rfl)).trans ?_
  refine (zr_pshi 1 rfl).trans ?_
  refine (zr_aload (v := zf b 0) rfl (zf_tA h _)).trans ?_
  refine (zr_gfr h (tr_hall_rest rfl)).trans ?_
  refine (zr_gfi h (ti_plan_partCount (Or.inr rfl))).trans ?_
  refine (zr_aload (v := zf b 0) rfl (zf_tA h _)).trans ?_
  refine (zr_gfr h (tr_hall_rest rfl)).trans ?_
  refine (zr_gfi h (ti_plan_done (Or.inr rfl))).trans ?_
  refine zr_invV h [enc (nz (g 155 8)), enc (nz (g 155 5)), enc 1, zf b 155] rfl (tk_hall rfl) (zA_cons (enc_l _) (zA_cons (enc_l _) (zA_cons (enc_l _) (zA_cons (zf_l h _) zA_nil)))) (zA_nil) (by decide) ?_
  exact k
theorem zs_106_28 (h : zOk b n f) {l1 : Int} (zl1 : zR l1) (k : zTh (zCl AL V ST ex_km d 58 [zf b 15, zf b 9, zf b 13] (zM n (zWf b f g))) (zM n (zWf b f g)) [] (fun S M => k106_43 V ST d (zCl AL V ST ex_km d) (zRn AL V ST ex_km d kt_106) (zP [zf b 0, enc l1]) S M) = some r) : k106_28 V ST d (zCl AL V ST ex_km d) (zRn AL V ST ex_km d kt_106) (zP [zf b 0, enc l1]) [] (zM n (zWf b f g)) = some r := by
  unfold k106_28
  refine (zr_aload (v := zf b 0) rfl (zf_tA h _)).trans ?_
  refine (zr_gfr h (tr_hall_stage rfl)).trans ?_
  refine (zr_aload (v := zf b 0) rfl (zf_tA h _)).trans ?_
  refine (zr_gfr h (tr_hall_trial rfl)).trans ?_
  refine (zr_aload (v := zf b 0) rfl (zf_tA h _)).trans ?_
  refine (zr_gfr h (tr_hall_skills rfl)).trans ?_
  refine zr_invV h [zf b 13, zf b 9] rfl (tk_stage rfl) (zA_cons (zf_l h _) (zA_cons (zf_l h _) zA_nil)) (zA_nil) (by decide) ?_
  exact k
theorem zs_106_17 (h : zOk b n f) {l1 : Int} (zl1 : zR l1) (k : zTh (zCl AL V ST ex_km d 37 [zf b 159, zf b 9] (zM n (zWf b f g))) (zM n (zWf b f g)) [] (fun S M => k106_28 V ST d (zCl AL V ST ex_km d) (zRn AL V ST ex_km d kt_106) (zP [zf b 0, enc l1]) S M) = some r) : k106_17 V ST d (zCl AL V ST ex_km d) (zRn AL V ST ex_km d kt_106) (zP [zf b 0, enc l1]) [] (zM n (zWf b f g)) = some r := by
  unfold k106_17
  refine (zr_aload (v := zf b 0) rfl (zf_tA h _)).trans ?_
  refine (zr_gfr h (tr_hall_past rfl)).trans ?_
  refine (zr_aload (v := zf b 0) rfl (zf_tA h _)).trans ?_
  refine (zr_gfr h (tr_hall_trial rfl)).trans ?_
  refine zr_invV h [zf b 9] rfl (tk_past rfl) (zA_cons (zf_l h _) zA_nil) (zA_nil) (by decide) ?_
  exact k
theorem zs_106_4 (h : zOk b n f) {s0 : Int} (zs0 : zR s0) (k : (if s0 = 0 then (if 14 ≤ d then some (549755813893, zM n (zWf b (zbump f) g)) else none) else zRn AL V ST ex_km d kt_106 17 (zP [zf b 0, enc s0]) [] (zM n (zWf b f g))) = some r) : k106_4 V ST d (zCl AL V ST ex_km d) (zRn AL V ST ex_km d kt_106) (zP [zf b 0, 137438953472]) [enc s0] (zM n (zWf b f g)) = some r := by
  unfold k106_4
  refine (zr_istore (w := zf b 0) (vs' := [zf b 0, enc s0]) rfl (zf_c2 h _) (Nat.lt_trans (zf_l h _) (by decide)) (by decide) rfl (enc_lt _)).trans ?_
  refine (zr_iload (v := enc s0) rfl (enc_lt _)).trans ?_
  by_cases c1 : s0 = 0
  · rw [if_pos c1] at k
    refine (zr_if_ne_n (zs0) c1).trans ?_
    by_cases c2 : 14 ≤ d
    · rw [if_pos c2] at k
      exact (zr_newx h c2 (zA_nil) (by decide)).trans k
    · rw [if_neg c2] at k; cases k
  · rw [if_neg c1] at k
    exact (zr_if_ne_t (zs0) c1).trans k
theorem zs_106_0 (h : zOk b n f)   (k : zTh (zCl AL V ST ex_km d 107 [zf b 0] (zM n (zWf b f g))) (zM n (zWf b f g)) [] (fun S M => k106_4 V ST d (zCl AL V ST ex_km d) (zRn AL V ST ex_km d kt_106) (zP [zf b 0, 137438953472]) S M) = some r) : k106_0 V ST d (zCl AL V ST ex_km d) (zRn AL V ST ex_km d kt_106) (zP [zf b 0, 137438953472]) [] (zM n (zWf b f g)) = some r := by
  unfold k106_0
  refine (zr_aload (v := zf b 0) rfl (zf_tA h _)).trans ?_
  refine zr_invV h [] rfl (tk_hall rfl) (zA_nil) (zA_nil) (by decide) ?_
  exact k
theorem zs_107_0 (h : zOk b n f)   (k : some (enc (nz ((nz (g 155 5)) - (nz (g 155 8)))), (zM n (zWf b f g))) = some r) : k107_0 V ST d (zCl AL V ST ex_km d) (zRn AL V ST ex_km d kt_107) (zP [zf b 0]) [] (zM n (zWf b f g)) = some r := by
  unfold k107_0
  refine (zr_aload (v := zf b 0) rfl (zf_tA h _)).trans ?_
  refine (zr_gfr h (tr_hall_rest rfl)).trans ?_
  refine (zr_gfi h (ti_plan_partCount (Or.inr rfl))).trans ?_
  refine (zr_aload (v := zf b 0) rfl (zf_tA h _)).trans ?_
  refine (zr_gfr h (tr_hall_rest rfl)).trans ?_
  refine (zr_gfi h (ti_plan_done (Or.inr rfl))).trans ?_
  refine (zr_isub).trans ?_
  exact zr_ireturn.trans k
theorem zs_108_0 (h : zOk b n f)   (k : (if 0 ≤ nz (g 237 2) ∧ nz (g 237 2) < 65536 then some (enc (nz (g 237 2)), (zM n (zWf b f g))) else none) = some r) : k108_0 V ST d (zCl AL V ST ex_km d) (zRn AL V ST ex_km d kt_108) (zP [zf b 0]) [] (zM n (zWf b f g)) = some r := by
  unfold k108_0
  refine (zr_aload (v := zf b 0) rfl (zf_tA h _)).trans ?_
  refine (zr_gfr h (tr_hall_tally rfl)).trans ?_
  refine (zr_gfi h (ti_tally_reason rfl)).trans ?_
  by_cases c1 : 0 ≤ nz (g 237 2) ∧ nz (g 237 2) < 65536
  · rw [if_pos c1] at k
    exact (zr_creturn c1).trans k
  · rw [if_neg c1] at k; cases k
theorem zs_109_18 (h : zOk b n f)   (k : some (enc (nz (g 237 3)), (zM n (zWf b f g))) = some r) : k109_18 V ST d (zCl AL V ST ex_km d) (zRn AL V ST ex_km d kt_109) (zP [zf b 0]) [] (zM n (zWf b f g)) = some r := by
  unfold k109_18
  refine (zr_aload (v := zf b 0) rfl (zf_tA h _)).trans ?_
  refine (zr_gfr h (tr_hall_tally rfl)).trans ?_
  refine (zr_gfi h (ti_tally_culprit rfl)).trans ?_
  exact zr_ireturn.trans k
theorem zs_109_0 (h : zOk b n f)   (k : (if nz (g 237 3) < 0 then (if 14 ≤ d then some (549755813892, zM n (zWf b (zbump f) g)) else none) else zRn AL V ST ex_km d kt_109 18 (zP [zf b 0]) [] (zM n (zWf b f g))) = some r) : k109_0 V ST d (zCl AL V ST ex_km d) (zRn AL V ST ex_km d kt_109) (zP [zf b 0]) [] (zM n (zWf b f g)) = some r := by
  unfold k109_0
  refine (zr_aload (v := zf b 0) rfl (zf_tA h _)).trans ?_
  refine (zr_gfr h (tr_hall_tally rfl)).trans ?_
  refine (zr_gfi h (ti_tally_culprit rfl)).trans ?_
  by_cases c1 : nz (g 237 3) < 0
  · rw [if_pos c1] at k
    refine (zr_if_ge_n (nz_R _) c1).trans ?_
    by_cases c2 : 14 ≤ d
    · rw [if_pos c2] at k
      exact (zr_newx h c2 (zA_nil) (by decide)).trans k
    · rw [if_neg c2] at k; cases k
  · rw [if_neg c1] at k
    exact (zr_if_ge_t (nz_R _) (Int.not_lt.mp c1)).trans k
theorem zs_110_85 (h : zOk b n f) {l1 : Int} {l2 : Int} {l3 : Int} {l4 : Int} {l5 : Int} {l6 : Int} {s0 : Int} (zl1 : zR l1) (zl2 : zR l2) (zl3 : zR l3) (zl4 : zR l4) (zl5 : zR l5) (zl6 : zR l6) (zs0 : zR s0) (k : (if s0 = 0 ∨ s0 = 1 then some (enc s0, (zM n (zWf b f g))) else none) = some r) : k110_85 V ST d (zCl AL V ST ex_km d) (zRn AL V ST ex_km d kt_110) (zP [zf b 0, enc l1, enc l2, enc l3, enc l4, enc l5, enc l6]) [enc s0] (zM n (zWf b f g)) = some r := by
  unfold k110_85
  by_cases c1 : s0 = 0 ∨ s0 = 1
  · rw [if_pos c1] at k
    exact (zr_breturn c1).trans k
  · rw [if_neg c1] at k; cases k
theorem zs_110_84 (h : zOk b n f) {l1 : Int} {l2 : Int} {l3 : Int} {l4 : Int} {l5 : Int} {l6 : Int} (zl1 : zR l1) (zl2 : zR l2) (zl3 : zR l3) (zl4 : zR l4) (zl5 : zR l5) (zl6 : zR l6) (k : k110_85 V ST d (zCl AL V ST ex_km d) (zRn AL V ST ex_km d kt_110) (zP [zf b 0, enc l1, enc l2, enc l3, enc l4, enc l5, enc l6]) [enc 0] (zM n (zWf b f g)) = some r) : k110_84 V ST d (zCl AL V ST ex_km d) (zRn AL V ST ex_km d kt_110) (zP [zf b 0, enc l1, enc l2, enc l3, enc l4, enc l5, enc l6]) [] (zM n (zWf b f g)) = some r := by
  unfold k110_84
  refine (zr_pshi 0 rfl).trans ?_
  exact k
theorem zs_110_75 (h : zOk b n f) {l1 : Int} {l2 : Int} {l3 : Int} {l4 : Int} {l5 : Int} {l6 : Int} {s0 : Int} (zl1 : zR l1) (zl2 : zR l2) (zl3 : zR l3) (zl4 : zR l4) (zl5 : zR l5) (zl6 : zR l6) (zs0 : zR s0) (k : (if s0 = 45 then zRn AL V ST ex_km d kt_110 85 (zP [zf b 0, enc l1, enc l2, enc l3, enc l4, enc l5, enc l6]) [enc 1] (zM n (zWf b f g)) else zRn AL V ST ex_km d kt_110 84 (zP [zf b 0, enc l1, enc l2, enc l3, enc l4, enc l5, enc l6]) [] (zM n (zWf b f g))) = some r) : k110_75 V ST d (zCl AL V ST ex_km d) (zRn AL V ST ex_km d kt_110) (zP [zf b 0, enc l1, enc l2, enc l3, enc l4, enc l5, enc l6]) [enc s0] (zM n (zWf b f g)) = some r := by
  unfold k110_75
  refine (zr_pshi 45 rfl).trans ?_
  by_cases c1 : s0 = 45
  · rw [if_pos c1] at k
    refine (zr_icmp_ne_n (zs0) ((by unfold zR; omega)) c1).trans ?_
    refine (zr_pshi 1 rfl).trans ?_
    exact (zr_goto).trans k
  · rw [if_neg c1] at k
    exact (zr_icmp_ne_t (zs0) ((by unfold zR; omega)) c1).trans k
theorem zs_110_56 (h : zOk b n f) {l1 : Int} {l2 : Int} {l3 : Int} {l4 : Int} {l5 : Int} {l6 : Int} (zl1 : zR l1) (zl2 : zR l2) (zl3 : zR l3) (zl4 : zR l4) (zl5 : zR l5) (zl6 : zR l6) (k : zTh (zCl AL V ST ex_km d 59 [zf b 15, zf b 151, enc (nz (g 151 5)), enc 0] (zM n (zWf b f g))) (zM n (zWf b f g)) [] (fun S M => k110_75 V ST d (zCl AL V ST ex_km d) (zRn AL V ST ex_km d kt_110) (zP [zf b 0, enc l1, enc l2, enc l3, enc l4, enc l5, enc l6]) S M) = some r) : k110_56 V ST d (zCl AL V ST ex_km d) (zRn AL V ST ex_km d kt_110) (zP [zf b 0, enc l1, enc l2, enc l3, enc l4, enc l5, enc l6]) [] (zM n (zWf b f g)) = some r := by
  unfold k110_56
  refine (zr_aload (v := zf b 0) rfl (zf_tA h _)).trans ?_
  refine (zr_gfr h (tr_hall_stage rfl)).trans ?_
  refine (zr_aload (v := zf b 0) rfl (zf_tA h _)).trans ?_
  refine (zr_gfr h (tr_hall_plan rfl)).trans ?_
  refine (zr_aload (v := zf b 0) rfl (zf_tA h _)).trans ?_
  refine (zr_gfr h (tr_hall_plan rfl)).trans ?_
  refine (zr_gfi h (ti_plan_partCount (Or.inl rfl))).trans ?_
  refine (zr_pshi 0 rfl).trans ?_
  refine zr_invV h [enc 0, enc (nz (g 151 5)), zf b 151] rfl (tk_stage rfl) (zA_cons (enc_l _) (zA_cons (enc_l _) (zA_cons (zf_l h _) zA_nil))) (zA_nil) (by decide) ?_
  exact k
theorem zs_110_41 (h : zOk b n f) {l1 : Int} {l2 : Int} {l3 : Int} {l4 : Int} {l5 : Int} {l6 : Int} (zl1 : zR l1) (zl2 : zR l2) (zl3 : zR l3) (zl4 : zR l4) (zl5 : zR l5) (zl6 : zR l6) (k : zTh (zCl AL V ST ex_km d 58 [zf b 15, zf b 1, zf b 13] (zM n (zWf b f g))) (zM n (zWf b f g)) [] (fun S M => k110_56 V ST d (zCl AL V ST ex_km d) (zRn AL V ST ex_km d kt_110) (zP [zf b 0, enc l1, enc l2, enc l3, enc l4, enc l5, enc l6]) S M) = some r) : k110_41 V ST d (zCl AL V ST ex_km d) (zRn AL V ST ex_km d kt_110) (zP [zf b 0, enc l1, enc l2, enc l3, enc l4, enc l5, enc l6]) [] (zM n (zWf b f g)) = some r := by
  unfold k110_41
  refine (zr_aload (v := zf b 0) rfl (zf_tA h _)).trans ?_
  refine (zr_gfr h (tr_hall_stage rfl)).trans ?_
  refine (zr_aload (v := zf b 0) rfl (zf_tA h _)).trans ?_
  refine (zr_gfr h (tr_hall_dancers rfl)).trans ?_
  refine (zr_aload (v := zf b 0) rfl (zf_tA h _)).trans ?_
  refine (zr_gfr h (tr_hall_skills rfl)).trans ?_
  refine zr_invV h [zf b 13, zf b 1] rfl (tk_stage rfl) (zA_cons (zf_l h _) (zA_cons (zf_l h _) zA_nil)) (zA_nil) (by decide) ?_
  exact k
theorem zs_110_30 (h : zOk b n f) {l1 : Int} {l2 : Int} {l3 : Int} {l4 : Int} {l5 : Int} {l6 : Int} (zl1 : zR l1) (zl2 : zR l2) (zl3 : zR l3) (zl4 : zR l4) (zl5 : zR l5) (zl6 : zR l6) (k : zTh (zCl AL V ST ex_km d 49 [zf b 151, enc l5, enc l6] (zM n (zWf b f g))) (zM n (zWf b f g)) [] (fun S M => k110_41 V ST d (zCl AL V ST ex_km d) (zRn AL V ST ex_km d kt_110) (zP [zf b 0, enc l1, enc l2, enc l3, enc l4, enc l5, enc l6]) S M) = some r) : k110_30 V ST d (zCl AL V ST ex_km d) (zRn AL V ST ex_km d kt_110) (zP [zf b 0, enc l1, enc l2, enc l3, enc l4, enc l5, enc l6]) [] (zM n (zWf b f g)) = some r := by
  unfold k110_30
  refine (zr_aload (v := zf b 0) rfl (zf_tA h _)).trans ?_
  refine (zr_gfr h (tr_hall_plan rfl)).trans ?_
  refine (zr_iload (v := enc l5) rfl (enc_lt _)).trans ?_
  refine (zr_iload (v := enc l6) rfl (enc_lt _)).trans ?_
  refine zr_invV h [enc l6, enc l5] rfl (tk_plan (Or.inl rfl)) (zA_cons (enc_l _) (zA_cons (enc_l _) zA_nil)) (zA_nil) (by decide) ?_
  exact k
theorem zs_110_19 (h : zOk b n f) {l1 : Int} {l2 : Int} {l3 : Int} {l4 : Int} {l5 : Int} {s0 : Int} (zl1 : zR l1) (zl2 : zR l2) (zl3 : zR l3) (zl4 : zR l4) (zl5 : zR l5) (zs0 : zR s0) (k : zTh (zCl AL V ST ex_km d 48 [zf b 151, enc l4] (zM n (zWf b f g))) (zM n (zWf b f g)) [] (fun S M => k110_30 V ST d (zCl AL V ST ex_km d) (zRn AL V ST ex_km d kt_110) (zP [zf b 0, enc l1, enc l2, enc l3, enc l4, enc l5, enc s0]) S M) = some r) : k110_19 V ST d (zCl AL V ST ex_km d) (zRn AL V ST ex_km d kt_110) (zP [zf b 0, enc l1, enc l2, enc l3, enc l4, enc l5, 137438953472]) [enc s0] (zM n (zWf b f g)) = some r := by
  unfold k110_19
  refine (zr_istore (w := enc l5) (vs' := [zf b 0, enc l1, enc l2, enc l3, enc l4, enc l5, enc s0]) rfl (enc_c2 _) (Nat.lt_trans (enc_lt _) (by decide)) (by decide) rfl (enc_lt _)).trans ?_
  refine (zr_aload (v := zf b 0) rfl (zf_tA h _)).trans ?_
  refine (zr_gfr h (tr_hall_plan rfl)).trans ?_
  refine (zr_iload (v := enc l4) rfl (enc_lt _)).trans ?_
  refine zr_invV h [enc l4] rfl (tk_plan (Or.inl rfl)) (zA_cons (enc_l _) zA_nil) (zA_nil) (by decide) ?_
  exact k
theorem zs_110_12 (h : zOk b n f) {l1 : Int} {l2 : Int} {l3 : Int} {l4 : Int} {s0 : Int} (zl1 : zR l1) (zl2 : zR l2) (zl3 : zR l3) (zl4 : zR l4) (zs0 : zR s0) (k : zTh (zCl AL V ST ex_km d 140 [zf b 0, enc l3] (zM n (zWf b f g))) (zM n (zWf b f g)) [] (fun S M => k110_19 V ST d (zCl AL V ST ex_km d) (zRn AL V ST ex_km d kt_110) (zP [zf b 0, enc l1, enc l2, enc l3, enc l4, enc s0, 137438953472]) S M) = some r) : k110_12 V ST d (zCl AL V ST ex_km d) (zRn AL V ST ex_km d kt_110) (zP [zf b 0, enc l1, enc l2, enc l3, enc l4, 137438953472, 137438953472]) [enc s0] (zM n (zWf b f g)) = some r := by
  unfold k110_12
  refine (zr_istore (w := enc l4) (vs' := [zf b 0, enc l1, enc l2, enc l3, enc l4, enc s0, 137438953472]) rfl (enc_c2 _) (Nat.lt_trans (enc_lt _) (by decide)) (by decide) rfl (enc_lt _)).trans ?_
  refine (zr_aload (v := zf b 0) rfl (zf_tA h _)).trans ?_
  refine (zr_iload (v := enc l3) rfl (enc_lt _)).trans ?_
  refine zr_invV h [enc l3] rfl (tk_hall rfl) (zA_cons (enc_l _) zA_nil) (zA_nil) (by decide) ?_
  exact k
theorem zs_110_5 (h : zOk b n f) {l1 : Int} {l2 : Int} {l3 : Int} {s0 : Int} (zl1 : zR l1) (zl2 : zR l2) (zl3 : zR l3) (zs0 : zR s0) (k : zTh (zCl AL V ST ex_km d 139 [zf b 0, enc l2] (zM n (zWf b f g))) (zM n (zWf b f g)) [] (fun S M => k110_12 V ST d (zCl AL V ST ex_km d) (zRn AL V ST ex_km d kt_110) (zP [zf b 0, enc l1, enc l2, enc l3, enc s0, 137438953472, 137438953472]) S M) = some r) : k110_5 V ST d (zCl AL V ST ex_km d) (zRn AL V ST ex_km d kt_110) (zP [zf b 0, enc l1, enc l2, enc l3, 137438953472, 137438953472, 137438953472]) [enc s0] (zM n (zWf b f g)) = some r := by
  unfold k110_5
  refine (zr_istore (w := enc l3) (vs' := [zf b 0, enc l1, enc l2, enc l3, enc s0, 137438953472, 137438953472]) rfl (enc_c2 _) (Nat.lt_trans (enc_lt _) (by decide)) (by decide) rfl (enc_lt _)).trans ?_
  refine (zr_aload (v := zf b 0) rfl (zf_tA h _)).trans ?_
  refine (zr_iload (v := enc l2) rfl (enc_lt _)).trans ?_
  refine zr_invV h [enc l2] rfl (tk_hall rfl) (zA_cons (enc_l _) zA_nil) (zA_nil) (by decide) ?_
  exact k
theorem zs_110_0 (h : zOk b n f) {l1 : Int} {l2 : Int} {l3 : Int} (zl1 : zR l1) (zl2 : zR l2) (zl3 : zR l3) (k : zTh (zCl AL V ST ex_km d 138 [zf b 0, enc l1] (zM n (zWf b f g))) (zM n (zWf b f g)) [] (fun S M => k110_5 V ST d (zCl AL V ST ex_km d) (zRn AL V ST ex_km d kt_110) (zP [zf b 0, enc l1, enc l2, enc l3, 137438953472, 137438953472, 137438953472]) S M) = some r) : k110_0 V ST d (zCl AL V ST ex_km d) (zRn AL V ST ex_km d kt_110) (zP [zf b 0, enc l1, enc l2, enc l3, 137438953472, 137438953472, 137438953472]) [] (zM n (zWf b f g)) = some r := by
  unfold k110_0
  refine (zr_aload (v := zf b 0) rfl (zf_tA h _)).trans ?_
  refine (zr_iload (v := enc l1) rfl (enc_lt _)).trans ?_
  refine zr_invV h [enc l1] rfl (tk_hall rfl) (zA_cons (enc_l _) zA_nil) (zA_nil) (by decide) ?_
  exact k
theorem zs_111_43 (h : zOk b n f)   (k : some (enc (nz (g 159 3)), (zM n (zWf b f g))) = some r) : k111_43 V ST d (zCl AL V ST ex_km d) (zRn AL V ST ex_km d kt_111) (zP [zf b 0]) [] (zM n (zWf b f g)) = some r := by
  unfold k111_43
  refine (zr_aload (v := zf b 0) rfl (zf_tA h _)).trans ?_
  refine (zr_gfr h (tr_hall_past rfl)).trans ?_
  refine (zr_gfi h (ti_past_size rfl)).trans ?_
  exact zr_ireturn.trans k
theorem zs_111_36 (h : zOk b n f)   (k : zTh (zCl AL V ST ex_km d 46 [zf b 155] (zM n (zWf b f g))) (zM n (zWf b f g)) [] (fun S M => k111_43 V ST d (zCl AL V ST ex_km d) (zRn AL V ST ex_km d kt_111) (zP [zf b 0]) S M) = some r) : k111_36 V ST d (zCl AL V ST ex_km d) (zRn AL V ST ex_km d kt_111) (zP [zf b 0]) [] (zM n (zWf b f g)) = some r := by
  unfold k111_36
  refine (zr_aload (v := zf b 0) rfl (zf_tA h _)).trans ?_
  refine (zr_gfr h (tr_hall_rest rfl)).trans ?_
  refine zr_invV h [] rfl (tk_plan (Or.inr rfl)) (zA_nil) (zA_nil) (by decide) ?_
  exact k
theorem zs_111_29 (h : zOk b n f)   (k : zTh (zCl AL V ST ex_km d 38 [zf b 159] (zM n (zWf b f g))) (zM n (zWf b f g)) [] (fun S M => k111_36 V ST d (zCl AL V ST ex_km d) (zRn AL V ST ex_km d kt_111) (zP [zf b 0]) S M) = some r) : k111_29 V ST d (zCl AL V ST ex_km d) (zRn AL V ST ex_km d kt_111) (zP [zf b 0]) [] (zM n (zWf b f g)) = some r := by
  unfold k111_29
  refine (zr_aload (v := zf b 0) rfl (zf_tA h _)).trans ?_
  refine (zr_gfr h (tr_hall_past rfl)).trans ?_
  refine zr_invV h [] rfl (tk_past rfl) (zA_nil) (zA_nil) (by decide) ?_
  exact k
theorem zs_111_18 (h : zOk b n f)   (k : zTh (zCl AL V ST ex_km d 37 [zf b 159, zf b 1] (zM n (zWf b f g))) (zM n (zWf b f g)) [] (fun S M => k111_29 V ST d (zCl AL V ST ex_km d) (zRn AL V ST ex_km d kt_111) (zP [zf b 0]) S M) = some r) : k111_18 V ST d (zCl AL V ST ex_km d) (zRn AL V ST ex_km d kt_111) (zP [zf b 0]) [] (zM n (zWf b f g)) = some r := by
  unfold k111_18
  refine (zr_aload (v := zf b 0) rfl (zf_tA h _)).trans ?_
  refine (zr_gfr h (tr_hall_past rfl)).trans ?_
  refine (zr_aload (v := zf b 0) rfl (zf_tA h _)).trans ?_
  refine (zr_gfr h (tr_hall_dancers rfl)).trans ?_
  refine zr_invV h [zf b 1] rfl (tk_past rfl) (zA_cons (zf_l h _) zA_nil) (zA_nil) (by decide) ?_
  exact k
theorem zs_111_0 (h : zOk b n f)   (k : (if nz (g 159 3) = 0 then (if 14 ≤ d then some (549755813892, zM n (zWf b (zbump f) g)) else none) else zRn AL V ST ex_km d kt_111 18 (zP [zf b 0]) [] (zM n (zWf b f g))) = some r) : k111_0 V ST d (zCl AL V ST ex_km d) (zRn AL V ST ex_km d kt_111) (zP [zf b 0]) [] (zM n (zWf b f g)) = some r := by
  unfold k111_0
  refine (zr_aload (v := zf b 0) rfl (zf_tA h _)).trans ?_
  refine (zr_gfr h (tr_hall_past rfl)).trans ?_
  refine (zr_gfi h (ti_past_size rfl)).trans ?_
  by_cases c1 : nz (g 159 3) = 0
  · rw [if_pos c1] at k
    refine (zr_if_ne_n (nz_R _) c1).trans ?_
    by_cases c2 : 14 ≤ d
    · rw [if_pos c2] at k
      exact (zr_newx h c2 (zA_nil) (by decide)).trans k
    · rw [if_neg c2] at k; cases k
  · rw [if_neg c1] at k
    exact (zr_if_ne_t (nz_R _) c1).trans k
theorem zs_112_0 (h : zOk b n f)   (k : some (enc (nz (g 159 3)), (zM n (zWf b f g))) = some r) : k112_0 V ST d (zCl AL V ST ex_km d) (zRn AL V ST ex_km d kt_112) (zP [zf b 0]) [] (zM n (zWf b f g)) = some r := by
  unfold k112_0
  refine (zr_aload (v := zf b 0) rfl (zf_tA h _)).trans ?_
  refine (zr_gfr h (tr_hall_past rfl)).trans ?_
  refine (zr_gfi h (ti_past_size rfl)).trans ?_
  exact zr_ireturn.trans k
theorem zs_113_31 (h : zOk b n f) {l1 : Int} {s0 : Int} (zl1 : zR l1) (zs0 : zR s0) (k : (if 0 ≤ s0 ∧ s0 < 65536 then some (enc s0, (zM n (zWf b f g))) else none) = some r) : k113_31 V ST d (zCl AL V ST ex_km d) (zRn AL V ST ex_km d kt_113) (zP [zf b 0, enc l1]) [enc s0] (zM n (zWf b f g)) = some r := by
  unfold k113_31
  by_cases c1 : 0 ≤ s0 ∧ s0 < 65536
  · rw [if_pos c1] at k
    exact (zr_creturn c1).trans k
  · rw [if_neg c1] at k; cases k
theorem zs_113_23 (h : zOk b n f) {l1 : Int} (zl1 : zR l1) (k : zTh (zCl AL V ST ex_km d 39 [zf b 159, enc l1] (zM n (zWf b f g))) (zM n (zWf b f g)) [] (fun S M => k113_31 V ST d (zCl AL V ST ex_km d) (zRn AL V ST ex_km d kt_113) (zP [zf b 0, enc l1]) S M) = some r) : k113_23 V ST d (zCl AL V ST ex_km d) (zRn AL V ST ex_km d kt_113) (zP [zf b 0, enc l1]) [] (zM n (zWf b f g)) = some r := by
  unfold k113_23
  refine (zr_aload (v := zf b 0) rfl (zf_tA h _)).trans ?_
  refine (zr_gfr h (tr_hall_past rfl)).trans ?_
  refine (zr_iload (v := enc l1) rfl (enc_lt _)).trans ?_
  refine zr_invV h [enc l1] rfl (tk_past rfl) (zA_cons (enc_l _) zA_nil) (zA_nil) (by decide) ?_
  exact k
theorem zs_113_15 (h : zOk b n f) {l1 : Int} (zl1 : zR l1) (k : (if 14 ≤ d then some (549755813889, zM n (zWf b (zbump f) g)) else none) = some r) : k113_15 V ST d (zCl AL V ST ex_km d) (zRn AL V ST ex_km d kt_113) (zP [zf b 0, enc l1]) [] (zM n (zWf b f g)) = some r := by
  unfold k113_15
  by_cases c1 : 14 ≤ d
  · rw [if_pos c1] at k
    exact (zr_newx h c1 (zA_nil) (by decide)).trans k
  · rw [if_neg c1] at k; cases k
theorem zs_113_0 (h : zOk b n f) {l1 : Int} (zl1 : zR l1) (k : (if l1 < 0 then zRn AL V ST ex_km d kt_113 15 (zP [zf b 0, enc l1]) [] (zM n (zWf b f g)) else (if l1 < nz (g 159 3) then zRn AL V ST ex_km d kt_113 23 (zP [zf b 0, enc l1]) [] (zM n (zWf b f g)) else k113_15 V ST d (zCl AL V ST ex_km d) (zRn AL V ST ex_km d kt_113) (zP [zf b 0, enc l1]) [] (zM n (zWf b f g)))) = some r) : k113_0 V ST d (zCl AL V ST ex_km d) (zRn AL V ST ex_km d kt_113) (zP [zf b 0, enc l1]) [] (zM n (zWf b f g)) = some r := by
  unfold k113_0
  refine (zr_iload (v := enc l1) rfl (enc_lt _)).trans ?_
  by_cases c1 : l1 < 0
  · rw [if_pos c1] at k
    exact (zr_if_lt_t (zl1) c1).trans k
  · rw [if_neg c1] at k
    refine (zr_if_lt_n (zl1) (Int.not_lt.mp c1)).trans ?_
    refine (zr_iload (v := enc l1) rfl (enc_lt _)).trans ?_
    refine (zr_aload (v := zf b 0) rfl (zf_tA h _)).trans ?_
    refine (zr_gfr h (tr_hall_past rfl)).trans ?_
    refine (zr_gfi h (ti_past_size rfl)).trans ?_
    by_cases c2 : l1 < nz (g 159 3)
    · rw [if_pos c2] at k
      exact (zr_icmp_lt_t (zl1) (nz_R _) c2).trans k
    · rw [if_neg c2] at k
      refine (zr_icmp_lt_n (zl1) (nz_R _) (Int.not_lt.mp c2)).trans ?_
      exact k
theorem zs_114_65 (h : zOk b n f) {l1 : Int} {l2 : Int} {l3 : Int} {l4 : Int} (zl1 : zR l1) (zl2 : zR l2) (zl3 : zR l3) (zl4 : zR l4) (k : some (enc l4, (zM n (zWf b f g))) = some r) : k114_65 V ST d (zCl AL V ST ex_km d) (zRn AL V ST ex_km d kt_114) (zP [zf b 0, enc l1, enc l2, enc l3, enc l4]) [] (zM n (zWf b f g)) = some r := by
  unfold k114_65
  refine (zr_iload (v := enc l4) rfl (enc_lt _)).trans ?_
  exact zr_ireturn.trans k
theorem zs_114_38 (h : zOk b n f) {l1 : Int} {l2 : Int} {l3 : Int} (zl1 : zR l1) (zl2 : zR l2) (zl3 : zR l3) (k : (if 0 ≤ l1 ∧ l1 < 16 then (if nz (g 66 l1) < 0 then (if 14 ≤ d then some (549755813892, zM n (zWf b (zbump f) g)) else none) else zRn AL V ST ex_km d kt_114 65 (zP [zf b 0, enc l1, enc l2, enc l3, enc (nz (g 66 l1))]) [] (zM n (zWf b f g))) else none) = some r) : k114_38 V ST d (zCl AL V ST ex_km d) (zRn AL V ST ex_km d kt_114) (zP [zf b 0, enc l1, enc l2, enc l3, 137438953472]) [] (zM n (zWf b f g)) = some r := by
  unfold k114_38
  refine (zr_aload (v := zf b 0) rfl (zf_tA h _)).trans ?_
  refine (zr_gfr h (tr_hall_stage rfl)).trans ?_
  refine (zr_gfr h (tr_stage_steps rfl)).trans ?_
  refine (zr_gfr h (tr_st_mate rfl)).trans ?_
  refine (zr_iload (v := enc l1) rfl (enc_lt _)).trans ?_
  by_cases c1 : 0 ≤ l1 ∧ l1 < 16
  · rw [if_pos c1] at k
    refine (zr_iald h (ta_st_mate rfl) c1.1 (by have := c1.2; omega)).trans ?_
    refine (zr_istore (w := enc l3) (vs' := [zf b 0, enc l1, enc l2, enc l3, enc (nz (g 66 l1))]) rfl (enc_c2 _) (Nat.lt_trans (enc_lt _) (by decide)) (by decide) rfl (enc_lt _)).trans ?_
    refine (zr_iload (v := enc (nz (g 66 l1))) rfl (enc_lt _)).trans ?_
    by_cases c2 : nz (g 66 l1) < 0
    · rw [if_pos c2] at k
      refine (zr_if_ge_n (nz_R _) c2).trans ?_
      by_cases c3 : 14 ≤ d
      · rw [if_pos c3] at k
        exact (zr_newx h c3 (zA_nil) (by decide)).trans k
      · rw [if_neg c3] at k; cases k
    · rw [if_neg c2] at k
      exact (zr_if_ge_t (nz_R _) (Int.not_lt.mp c2)).trans k
  · rw [if_neg c1] at k; cases k
theorem zs_114_34 (h : zOk b n f) {l1 : Int} {l2 : Int} {l3 : Int} {s0 : Int} (zl1 : zR l1) (zl2 : zR l2) (zl3 : zR l3) (zs0 : zR s0) (k : zTh (zCl AL V ST ex_km d 145 [zf b 0, enc s0, enc l3] (zM n (zWf b f g))) (zM n (zWf b f g)) [] (fun S M => k114_38 V ST d (zCl AL V ST ex_km d) (zRn AL V ST ex_km d kt_114) (zP [zf b 0, enc l1, enc l2, enc l3, 137438953472]) S M) = some r) : k114_34 V ST d (zCl AL V ST ex_km d) (zRn AL V ST ex_km d kt_114) (zP [zf b 0, enc l1, enc l2, enc l3, 137438953472]) [enc s0, zf b 0] (zM n (zWf b f g)) = some r := by
  unfold k114_34
  refine (zr_iload (v := enc l3) rfl (enc_lt _)).trans ?_
  refine zr_invV h [enc l3, enc s0] rfl (tk_hall rfl) (zA_cons (enc_l _) (zA_cons (enc_l _) zA_nil)) (zA_nil) (by decide) ?_
  exact k
theorem zs_114_32 (h : zOk b n f) {l1 : Int} {l2 : Int} {l3 : Int} (zl1 : zR l1) (zl2 : zR l2) (zl3 : zR l3) (k : k114_34 V ST d (zCl AL V ST ex_km d) (zRn AL V ST ex_km d kt_114) (zP [zf b 0, enc l1, enc l2, enc l3, 137438953472]) [enc 8, zf b 0] (zM n (zWf b f g)) = some r) : k114_32 V ST d (zCl AL V ST ex_km d) (zRn AL V ST ex_km d kt_114) (zP [zf b 0, enc l1, enc l2, enc l3, 137438953472]) [zf b 0] (zM n (zWf b f g)) = some r := by
  unfold k114_32
  refine (zr_pshi 8 rfl).trans ?_
  exact k
theorem zs_114_23 (h : zOk b n f) {l1 : Int} {l2 : Int} {l3 : Int} (zl1 : zR l1) (zl2 : zR l2) (zl3 : zR l3) (k : (if l2 = 0 then zRn AL V ST ex_km d kt_114 32 (zP [zf b 0, enc l1, enc l2, enc l3, 137438953472]) [zf b 0] (zM n (zWf b f g)) else zRn AL V ST ex_km d kt_114 34 (zP [zf b 0, enc l1, enc l2, enc l3, 137438953472]) [enc 4, zf b 0] (zM n (zWf b f g))) = some r) : k114_23 V ST d (zCl AL V ST ex_km d) (zRn AL V ST ex_km d kt_114) (zP [zf b 0, enc l1, enc l2, enc l3, 137438953472]) [] (zM n (zWf b f g)) = some r := by
  unfold k114_23
  refine (zr_aload (v := zf b 0) rfl (zf_tA h _)).trans ?_
  refine (zr_iload (v := enc l2) rfl (enc_lt _)).trans ?_
  by_cases c1 : l2 = 0
  · rw [if_pos c1] at k
    exact (zr_if_eq_t (zl2) c1).trans k
  · rw [if_neg c1] at k
    refine (zr_if_eq_n (zl2) c1).trans ?_
    refine (zr_pshi 4 rfl).trans ?_
    exact (zr_goto).trans k
theorem zs_114_5 (h : zOk b n f) {l1 : Int} {l2 : Int} {l3 : Int} (zl1 : zR l1) (zl2 : zR l2) (zl3 : zR l3) (k : (if l3 = 2 then zRn AL V ST ex_km d kt_114 23 (zP [zf b 0, enc l1, enc l2, enc l3, 137438953472]) [] (zM n (zWf b f g)) else (if l3 = 4 then zRn AL V ST ex_km d kt_114 23 (zP [zf b 0, enc l1, enc l2, enc l3, 137438953472]) [] (zM n (zWf b f g)) else (if 14 ≤ d then some (549755813890, zM n (zWf b (zbump f) g)) else none))) = some r) : k114_5 V ST d (zCl AL V ST ex_km d) (zRn AL V ST ex_km d kt_114) (zP [zf b 0, enc l1, enc l2, enc l3, 137438953472]) [] (zM n (zWf b f g)) = some r := by
  unfold k114_5
  refine (zr_iload (v := enc l3) rfl (enc_lt _)).trans ?_
  refine (zr_pshi 2 rfl).trans ?_
  by_cases c1 : l3 = 2
  · rw [if_pos c1] at k
    exact (zr_icmp_eq_t (zl3) ((by unfold zR; omega)) c1).trans k
  · rw [if_neg c1] at k
    refine (zr_icmp_eq_n (zl3) ((by unfold zR; omega)) c1).trans ?_
    refine (zr_iload (v := enc l3) rfl (enc_lt _)).trans ?_
    refine (zr_pshi 4 rfl).trans ?_
    by_cases c2 : l3 = 4
    · rw [if_pos c2] at k
      exact (zr_icmp_eq_t (zl3) ((by unfold zR; omega)) c2).trans k
    · rw [if_neg c2] at k
      refine (zr_icmp_eq_n (zl3) ((by unfold zR; omega)) c2).trans ?_
      by_cases c3 : 14 ≤ d
      · rw [if_pos c3] at k
        exact (zr_newx h c3 (zA_nil) (by decide)).trans k
      · rw [if_neg c3] at k; cases k
theorem zs_114_0 (h : zOk b n f) {l1 : Int} {l2 : Int} {l3 : Int} (zl1 : zR l1) (zl2 : zR l2) (zl3 : zR l3) (k : zTh (zCl AL V ST ex_km d 133 [zf b 0, enc l1] (zM n (zWf b f g))) (zM n (zWf b f g)) [] (fun S M => k114_5 V ST d (zCl AL V ST ex_km d) (zRn AL V ST ex_km d kt_114) (zP [zf b 0, enc l1, enc l2, enc l3, 137438953472]) S M) = some r) : k114_0 V ST d (zCl AL V ST ex_km d) (zRn AL V ST ex_km d kt_114) (zP [zf b 0, enc l1, enc l2, enc l3, 137438953472]) [] (zM n (zWf b f g)) = some r := by
  unfold k114_0
  refine (zr_aload (v := zf b 0) rfl (zf_tA h _)).trans ?_
  refine (zr_iload (v := enc l1) rfl (enc_lt _)).trans ?_
  refine zr_invV h [enc l1] rfl (tk_hall rfl) (zA_cons (enc_l _) zA_nil) (zA_nil) (by decide) ?_
  exact k
theorem zs_115_59 (h : zOk b n f) {l1 : Int} {l2 : Int} {s0 : Int} (zl1 : zR l1) (zl2 : zR l2) (zs0 : zR s0) (k : (if 0 ≤ s0 ∧ s0 < 65536 then some (enc s0, (zM n (zWf b f g))) else none) = some r) : k115_59 V ST d (zCl AL V ST ex_km d) (zRn AL V ST ex_km d kt_115) (zP [zf b 0, enc l1, enc l2]) [enc s0] (zM n (zWf b f g)) = some r := by
  unfold k115_59
  by_cases c1 : 0 ≤ s0 ∧ s0 < 65536
  · rw [if_pos c1] at k
    exact (zr_creturn c1).trans k
  · rw [if_neg c1] at k; cases k
theorem zs_115_57 (h : zOk b n f) {l1 : Int} {l2 : Int} (zl1 : zR l1) (zl2 : zR l2) (k : k115_59 V ST d (zCl AL V ST ex_km d) (zRn AL V ST ex_km d kt_115) (zP [zf b 0, enc l1, enc l2]) [enc 108] (zM n (zWf b f g)) = some r) : k115_57 V ST d (zCl AL V ST ex_km d) (zRn AL V ST ex_km d kt_115) (zP [zf b 0, enc l1, enc l2]) [] (zM n (zWf b f g)) = some r := by
  unfold k115_57
  refine (zr_pshi 108 rfl).trans ?_
  exact k
theorem zs_115_47 (h : zOk b n f) {l1 : Int} {l2 : Int} (zl1 : zR l1) (zl2 : zR l2) (k : (if l2 = 2 then zRn AL V ST ex_km d kt_115 59 (zP [zf b 0, enc l1, enc l2]) [enc 114] (zM n (zWf b f g)) else zRn AL V ST ex_km d kt_115 57 (zP [zf b 0, enc l1, enc l2]) [] (zM n (zWf b f g))) = some r) : k115_47 V ST d (zCl AL V ST ex_km d) (zRn AL V ST ex_km d kt_115) (zP [zf b 0, enc l1, enc l2]) [] (zM n (zWf b f g)) = some r := by
  unfold k115_47
  refine (zr_iload (v := enc l2) rfl (enc_lt _)).trans ?_
  refine (zr_pshi 2 rfl).trans ?_
  by_cases c1 : l2 = 2
  · rw [if_pos c1] at k
    refine (zr_icmp_ne_n (zl2) ((by unfold zR; omega)) c1).trans ?_
    refine (zr_pshi 114 rfl).trans ?_
    exact (zr_goto).trans k
  · rw [if_neg c1] at k
    exact (zr_icmp_ne_t (zl2) ((by unfold zR; omega)) c1).trans k
theorem zs_115_37 (h : zOk b n f) {l1 : Int} {l2 : Int} (zl1 : zR l1) (zl2 : zR l2) (k : (if l2 = 1 then zRn AL V ST ex_km d kt_115 59 (zP [zf b 0, enc l1, enc l2]) [enc 99] (zM n (zWf b f g)) else zRn AL V ST ex_km d kt_115 47 (zP [zf b 0, enc l1, enc l2]) [] (zM n (zWf b f g))) = some r) : k115_37 V ST d (zCl AL V ST ex_km d) (zRn AL V ST ex_km d kt_115) (zP [zf b 0, enc l1, enc l2]) [] (zM n (zWf b f g)) = some r := by
  unfold k115_37
  refine (zr_iload (v := enc l2) rfl (enc_lt _)).trans ?_
  refine (zr_pshi 1 rfl).trans ?_
  by_cases c1 : l2 = 1
  · rw [if_pos c1] at k
    refine (zr_icmp_ne_n (zl2) ((by unfold zR; omega)) c1).trans ?_
    refine (zr_pshi 99 rfl).trans ?_
    exact (zr_goto).trans k
  · rw [if_neg c1] at k
    exact (zr_icmp_ne_t (zl2) ((by unfold zR; omega)) c1).trans k
theorem zs_115_12 (h : zOk b n f) {l1 : Int} (zl1 : zR l1) (k : (if 0 ≤ l1 ∧ l1 < 16 then (if nz (g 67 l1) = 0 then (if 14 ≤ d then some (549755813892, zM n (zWf b (zbump f) g)) else none) else zRn AL V ST ex_km d kt_115 37 (zP [zf b 0, enc l1, enc (nz (g 67 l1))]) [] (zM n (zWf b f g))) else none) = some r) : k115_12 V ST d (zCl AL V ST ex_km d) (zRn AL V ST ex_km d kt_115) (zP [zf b 0, enc l1, 137438953472]) [] (zM n (zWf b f g)) = some r := by
  unfold k115_12
  refine (zr_aload (v := zf b 0) rfl (zf_tA h _)).trans ?_
  refine (zr_gfr h (tr_hall_stage rfl)).trans ?_
  refine (zr_gfr h (tr_stage_steps rfl)).trans ?_
  refine (zr_gfr h (tr_st_kind rfl)).trans ?_
  refine (zr_iload (v := enc l1) rfl (enc_lt _)).trans ?_
  by_cases c1 : 0 ≤ l1 ∧ l1 < 16
  · rw [if_pos c1] at k
    refine (zr_iald h (ta_st_kind rfl) c1.1 (by have := c1.2; omega)).trans ?_
    refine (zr_istore (w := enc l1) (vs' := [zf b 0, enc l1, enc (nz (g 67 l1))]) rfl (enc_c2 _) (Nat.lt_trans (enc_lt _) (by decide)) (by decide) rfl (enc_lt _)).trans ?_
    refine (zr_iload (v := enc (nz (g 67 l1))) rfl (enc_lt _)).trans ?_
    by_cases c2 : nz (g 67 l1) = 0
    · rw [if_pos c2] at k
      refine (zr_if_ne_n (nz_R _) c2).trans ?_
      by_cases c3 : 14 ≤ d
      · rw [if_pos c3] at k
        exact (zr_newx h c3 (zA_nil) (by decide)).trans k
      · rw [if_neg c3] at k; cases k
    · rw [if_neg c2] at k
      exact (zr_if_ne_t (nz_R _) c2).trans k
  · rw [if_neg c1] at k; cases k
theorem zs_115_5 (h : zOk b n f) {l1 : Int} (zl1 : zR l1) (k : zTh (zCl AL V ST ex_km d 145 [zf b 0, enc 8, enc 2] (zM n (zWf b f g))) (zM n (zWf b f g)) [] (fun S M => k115_12 V ST d (zCl AL V ST ex_km d) (zRn AL V ST ex_km d kt_115) (zP [zf b 0, enc l1, 137438953472]) S M) = some r) : k115_5 V ST d (zCl AL V ST ex_km d) (zRn AL V ST ex_km d kt_115) (zP [zf b 0, enc l1, 137438953472]) [] (zM n (zWf b f g)) = some r := by
  unfold k115_5
  refine (zr_aload (v := zf b 0) rfl (zf_tA h _)).trans ?_
  refine (zr_pshi 8 rfl).trans ?_
  refine (zr_pshi 2 rfl).trans ?_
  refine zr_invV h [enc 2, enc 8] rfl (tk_hall rfl) (zA_cons (enc_l _) (zA_cons (enc_l _) zA_nil)) (zA_nil) (by decide) ?_
  exact k
theorem zs_115_0 (h : zOk b n f) {l1 : Int} (zl1 : zR l1) (k : zTh (zCl AL V ST ex_km d 133 [zf b 0, enc l1] (zM n (zWf b f g))) (zM n (zWf b f g)) [] (fun S M => k115_5 V ST d (zCl AL V ST ex_km d) (zRn AL V ST ex_km d kt_115) (zP [zf b 0, enc l1, 137438953472]) S M) = some r) : k115_0 V ST d (zCl AL V ST ex_km d) (zRn AL V ST ex_km d kt_115) (zP [zf b 0, enc l1, 137438953472]) [] (zM n (zWf b f g)) = some r := by
  unfold k115_0
  refine (zr_aload (v := zf b 0) rfl (zf_tA h _)).trans ?_
  refine (zr_iload (v := enc l1) rfl (enc_lt _)).trans ?_
  refine zr_invV h [enc l1] rfl (tk_hall rfl) (zA_cons (enc_l _) zA_nil) (zA_nil) (by decide) ?_
  exact k
theorem zs_116_0 (h : zOk b n f)   (k : k116_2 V ST d (zCl AL V ST ex_km d) (zRn AL V ST ex_km d kt_116) (zP [zf b 0, enc 0]) [] (zM n (zWf b f g)) = some r) : k116_0 V ST d (zCl AL V ST ex_km d) (zRn AL V ST ex_km d kt_116) (zP [zf b 0, 137438953472]) [] (zM n (zWf b f g)) = some r := by
  unfold k116_0
  refine (zr_pshi 0 rfl).trans ?_
  refine (zr_istore (w := zf b 0) (vs' := [zf b 0, enc 0]) rfl (zf_c2 h _) (Nat.lt_trans (zf_l h _) (by decide)) (by decide) rfl (enc_lt _)).trans ?_
  exact k
theorem zs_118_25 (h : zOk b n f) {s0 : Int} (zs0 : zR s0) (k : (if s0 = 0 ∨ s0 = 1 then some (enc s0, (zM n (zWf b f g))) else none) = some r) : k118_25 V ST d (zCl AL V ST ex_km d) (zRn AL V ST ex_km d kt_118) (zP [zf b 0]) [enc s0] (zM n (zWf b f g)) = some r := by
  unfold k118_25
  by_cases c1 : s0 = 0 ∨ s0 = 1
  · rw [if_pos c1] at k
    exact (zr_breturn c1).trans k
  · rw [if_neg c1] at k; cases k
theorem zs_118_0 (h : zOk b n f)   (k : zTh (zCl AL V ST ex_km d 152 [zf b 0, zf b (1 + 1), zf b (1 + 2), zf b (1 + 3)] (zM n (zWf b f g))) (zM n (zWf b f g)) [] (fun S M => k118_25 V ST d (zCl AL V ST ex_km d) (zRn AL V ST ex_km d kt_118) (zP [zf b 0]) S M) = some r) : k118_0 V ST d (zCl AL V ST ex_km d) (zRn AL V ST ex_km d kt_118) (zP [zf b 0]) [] (zM n (zWf b f g)) = some r := by
  unfold k118_0
  refine (zr_aload (v := zf b 0) rfl (zf_tA h _)).trans ?_
  refine (zr_aload (v := zf b 0) rfl (zf_tA h _)).trans ?_
  refine (zr_gfr h (tr_hall_dancers rfl)).trans ?_
  refine (zr_gfr h (tr_pl_x (Or.inl rfl))).trans ?_
  refine (zr_aload (v := zf b 0) rfl (zf_tA h _)).trans ?_
  refine (zr_gfr h (tr_hall_dancers rfl)).trans ?_
  refine (zr_gfr h (tr_pl_y (Or.inl rfl))).trans ?_
  refine (zr_aload (v := zf b 0) rfl (zf_tA h _)).trans ?_
  refine (zr_gfr h (tr_hall_dancers rfl)).trans ?_
  refine (zr_gfr h (tr_pl_f (Or.inl rfl))).trans ?_
  refine zr_invV h [zf b (1 + 3), zf b (1 + 2), zf b (1 + 1)] rfl (tk_hall rfl) (zA_cons (zf_l h _) (zA_cons (zf_l h _) (zA_cons (zf_l h _) zA_nil))) (zA_nil) (by decide) ?_
  exact k
theorem zs_119_92 (h : zOk b n f) {l1 : Int} {l2 : Nat} (zl1 : zR l1) (zl2 : ex_c2 l2 = false ∧ l2 < 1099511627776) (k : some (enc 1, (zM n (zWf b f g))) = some r) : k119_92 V ST d (zCl AL V ST ex_km d) (zRn AL V ST ex_km d kt_119) (zP [zf b 0, enc l1, l2]) [] (zM n (zWf b f g)) = some r := by
  unfold k119_92
  refine (zr_pshi 1 rfl).trans ?_
  exact (zr_breturn (by decide)).trans k
theorem zs_119_86 (h : zOk b n f) {l1 : Int} {l2 : Int} (zl1 : zR l1) (zl2 : zR l2) (k : zRn AL V ST ex_km d kt_119 2 (zP [zf b 0, enc (nz (l1 + 1)), enc l2]) [] (zM n (zWf b f g)) = some r) : k119_86 V ST d (zCl AL V ST ex_km d) (zRn AL V ST ex_km d kt_119) (zP [zf b 0, enc l1, enc l2]) [] (zM n (zWf b f g)) = some r := by
  unfold k119_86
  refine (zr_iinc (w := zf b 0) (x := l1) (i' := 1) (vs' := [zf b 0, enc (nz (l1 + 1)), enc l2]) rfl (zf_c2 h _) (Nat.lt_trans (zf_l h _) (by decide)) rfl rfl (by decide) rfl).trans ?_
  exact (zr_goto).trans k
theorem zs_119_84 (h : zOk b n f) {l1 : Int} {l2 : Int} (zl1 : zR l1) (zl2 : zR l2) (k : some (enc 0, (zM n (zWf b f g))) = some r) : k119_84 V ST d (zCl AL V ST ex_km d) (zRn AL V ST ex_km d kt_119) (zP [zf b 0, enc l1, enc l2]) [] (zM n (zWf b f g)) = some r := by
  unfold k119_84
  refine (zr_pshi 0 rfl).trans ?_
  exact (zr_breturn (by decide)).trans k
theorem zs_119_2 (h : zOk b n f) {l1 : Int} {l2 : Nat} (zl1 : zR l1) (zl2 : ex_c2 l2 = false ∧ l2 < 1099511627776) (k : (if l1 < 8 then (if 0 ≤ l1 ∧ l1 < 8 then (if 0 ≤ nz (Int.tmod (nz (l1 + 4)) 8) ∧ nz (Int.tmod (nz (l1 + 4)) 8) < 8 then (if nz (g (1 + 1) l1) = nz (-(nz (g (1 + 1) (nz (Int.tmod (nz (l1 + 4)) 8))))) then (if 0 ≤ l1 ∧ l1 < 8 then (if 0 ≤ nz (Int.tmod (nz (l1 + 4)) 8) ∧ nz (Int.tmod (nz (l1 + 4)) 8) < 8 then (if nz (g (1 + 2) l1) = nz (-(nz (g (1 + 2) (nz (Int.tmod (nz (l1 + 4)) 8))))) then (if 0 ≤ l1 ∧ l1 < 8 then (if 0 ≤ nz (Int.tmod (nz (l1 + 4)) 8) ∧ nz (Int.tmod (nz (l1 + 4)) 8) < 8 then (if nz (g (1 + 3) l1) = zand (nz ((nz (g (1 + 3) (nz (Int.tmod (nz (l1 + 4)) 8)))) + 2)) 3 then zRn AL V ST ex_km d kt_119 86 (zP [zf b 0, enc l1, enc (nz (Int.tmod (nz (l1 + 4)) 8))]) [] (zM n (zWf b f g)) else k119_84 V ST d (zCl AL V ST ex_km d) (zRn AL V ST ex_km d kt_119) (zP [zf b 0, enc l1, enc (nz (Int.tmod (nz (l1 + 4)) 8))]) [] (zM n (zWf b f g))) else none) else none) else zRn AL V ST ex_km d kt_119 84 (zP [zf b 0, enc l1, enc (nz (Int.tmod (nz (l1 + 4)) 8))]) [] (zM n (zWf b f g))) else none) else none) else zRn AL V ST ex_km d kt_119 84 (zP [zf b 0, enc l1, enc (nz (Int.tmod (nz (l1 + 4)) 8))]) [] (zM n (zWf b f g))) else none) else none) else zRn AL V ST ex_km d kt_119 92 (zP [zf b 0, enc l1, l2]) [] (zM n (zWf b f g))) = some r) : k119_2 V ST d (zCl AL V ST ex_km d) (zRn AL V ST ex_km d kt_119) (zP [zf b 0, enc l1, l2]) [] (zM n (zWf b f g)) = some r := by
  unfold k119_2
  refine (zr_iload (v := enc l1) rfl (enc_lt _)).trans ?_
  refine (zr_pshi 8 rfl).trans ?_
  by_cases c1 : l1 < 8
  · rw [if_pos c1] at k
    refine (zr_icmp_ge_n (zl1) ((by unfold zR; omega)) c1).trans ?_
    refine (zr_iload (v := enc l1) rfl (enc_lt _)).trans ?_
    refine (zr_pshi 4 rfl).trans ?_
    refine (zr_iadd).trans ?_
    refine (zr_pshi 8 rfl).trans ?_
    refine (zr_rem (nz_R _) ((by unfold zR; omega)) (by decide)).trans ?_
    refine (zr_istore (w := enc l1) (vs' := [zf b 0, enc l1, enc (nz (Int.tmod (nz (l1 + 4)) 8))]) rfl (enc_c2 _) (Nat.lt_trans (enc_lt _) (by decide)) (by decide) rfl (enc_lt _)).trans ?_
    refine (zr_aload (v := zf b 0) rfl (zf_tA h _)).trans ?_
    refine (zr_gfr h (tr_hall_dancers rfl)).trans ?_
    refine (zr_gfr h (tr_pl_x (Or.inl rfl))).trans ?_
    refine (zr_iload (v := enc l1) rfl (enc_lt _)).trans ?_
    by_cases c2 : 0 ≤ l1 ∧ l1 < 8
    · rw [if_pos c2] at k
      refine (zr_iald h (ta_pl_x (Or.inl rfl)) c2.1 (by have := c2.2; omega)).trans ?_
      refine (zr_aload (v := zf b 0) rfl (zf_tA h _)).trans ?_
      refine (zr_gfr h (tr_hall_dancers rfl)).trans ?_
      refine (zr_gfr h (tr_pl_x (Or.inl rfl))).trans ?_
      refine (zr_iload (v := enc (nz (Int.tmod (nz (l1 + 4)) 8))) rfl (enc_lt _)).trans ?_
      by_cases c3 : 0 ≤ nz (Int.tmod (nz (l1 + 4)) 8) ∧ nz (Int.tmod (nz (l1 + 4)) 8) < 8
      · rw [if_pos c3] at k
        refine (zr_iald h (ta_pl_x (Or.inl rfl)) c3.1 (by have := c3.2; omega)).trans ?_
        refine (zr_ineg).trans ?_
        by_cases c4 : nz (g (1 + 1) l1) = nz (-(nz (g (1 + 1) (nz (Int.tmod (nz (l1 + 4)) 8)))))
        · rw [if_pos c4] at k
          refine (zr_icmp_ne_n (nz_R _) (nz_R _) c4).trans ?_
          refine (zr_aload (v := zf b 0) rfl (zf_tA h _)).trans ?_
          refine (zr_gfr h (tr_hall_dancers rfl)).trans ?_
          refine (zr_gfr h (tr_pl_y (Or.inl rfl))).trans ?_
          refine (zr_iload (v := enc l1) rfl (enc_lt _)).trans ?_
          by_cases c5 : 0 ≤ l1 ∧ l1 < 8
          · rw [if_pos c5] at k
            refine (zr_iald h (ta_pl_y (Or.inl rfl)) c5.1 (by have := c5.2; omega)).trans ?_
            refine (zr_aload (v := zf b 0) rfl (zf_tA h _)).trans ?_
            refine (zr_gfr h (tr_hall_dancers rfl)).trans ?_
            refine (zr_gfr h (tr_pl_y (Or.inl rfl))).trans ?_
            refine (zr_iload (v := enc (nz (Int.tmod (nz (l1 + 4)) 8))) rfl (enc_lt _)).trans ?_
            by_cases c6 : 0 ≤ nz (Int.tmod (nz (l1 + 4)) 8) ∧ nz (Int.tmod (nz (l1 + 4)) 8) < 8
            · rw [if_pos c6] at k
              refine (zr_iald h (ta_pl_y (Or.inl rfl)) c6.1 (by have := c6.2; omega)).trans ?_
              refine (zr_ineg).trans ?_
              by_cases c7 : nz (g (1 + 2) l1) = nz (-(nz (g (1 + 2) (nz (Int.tmod (nz (l1 + 4)) 8)))))
              · rw [if_pos c7] at k
                refine (zr_icmp_ne_n (nz_R _) (nz_R _) c7).trans ?_
                refine (zr_aload (v := zf b 0) rfl (zf_tA h _)).trans ?_
                refine (zr_gfr h (tr_hall_dancers rfl)).trans ?_
                refine (zr_gfr h (tr_pl_f (Or.inl rfl))).trans ?_
                refine (zr_iload (v := enc l1) rfl (enc_lt _)).trans ?_
                by_cases c8 : 0 ≤ l1 ∧ l1 < 8
                · rw [if_pos c8] at k
                  refine (zr_iald h (ta_pl_f (Or.inl rfl)) c8.1 (by have := c8.2; omega)).trans ?_
                  refine (zr_aload (v := zf b 0) rfl (zf_tA h _)).trans ?_
                  refine (zr_gfr h (tr_hall_dancers rfl)).trans ?_
                  refine (zr_gfr h (tr_pl_f (Or.inl rfl))).trans ?_
                  refine (zr_iload (v := enc (nz (Int.tmod (nz (l1 + 4)) 8))) rfl (enc_lt _)).trans ?_
                  by_cases c9 : 0 ≤ nz (Int.tmod (nz (l1 + 4)) 8) ∧ nz (Int.tmod (nz (l1 + 4)) 8) < 8
                  · rw [if_pos c9] at k
                    refine (zr_iald h (ta_pl_f (Or.inl rfl)) c9.1 (by have := c9.2; omega)).trans ?_
                    refine (zr_pshi 2 rfl).trans ?_
                    refine (zr_iadd).trans ?_
                    refine (zr_pshi 3 rfl).trans ?_
                    refine (zr_iand).trans ?_
                    by_cases c10 : nz (g (1 + 3) l1) = zand (nz ((nz (g (1 + 3) (nz (Int.tmod (nz (l1 + 4)) 8)))) + 2)) 3
                    · rw [if_pos c10] at k
                      exact (zr_icmp_eq_t (nz_R _) (nz_R _) c10).trans k
                    · rw [if_neg c10] at k
                      refine (zr_icmp_eq_n (nz_R _) (nz_R _) c10).trans ?_
                      exact k
                  · rw [if_neg c9] at k; cases k
                · rw [if_neg c8] at k; cases k
              · rw [if_neg c7] at k
                exact (zr_icmp_ne_t (nz_R _) (nz_R _) c7).trans k
            · rw [if_neg c6] at k; cases k
          · rw [if_neg c5] at k; cases k
        · rw [if_neg c4] at k
          exact (zr_icmp_ne_t (nz_R _) (nz_R _) c4).trans k
      · rw [if_neg c3] at k; cases k
    · rw [if_neg c2] at k; cases k
  · rw [if_neg c1] at k
    exact (zr_icmp_ge_t (zl1) ((by unfold zR; omega)) (Int.not_lt.mp c1)).trans k
theorem zs_119_0 (h : zOk b n f)   (k : k119_2 V ST d (zCl AL V ST ex_km d) (zRn AL V ST ex_km d kt_119) (zP [zf b 0, enc 0, 137438953472]) [] (zM n (zWf b f g)) = some r) : k119_0 V ST d (zCl AL V ST ex_km d) (zRn AL V ST ex_km d kt_119) (zP [zf b 0, 137438953472, 137438953472]) [] (zM n (zWf b f g)) = some r := by
  unfold k119_0
  refine (zr_pshi 0 rfl).trans ?_
  refine (zr_istore (w := zf b 0) (vs' := [zf b 0, enc 0, 137438953472]) rfl (zf_c2 h _) (Nat.lt_trans (zf_l h _) (by decide)) (by decide) rfl (enc_lt _)).trans ?_
  exact k
theorem zs_120_0 (h : zOk b n f)   (k : some (enc (nz (g 182 3)), (zM n (zWf b f g))) = some r) : k120_0 V ST d (zCl AL V ST ex_km d) (zRn AL V ST ex_km d kt_120) (zP [zf b 0]) [] (zM n (zWf b f g)) = some r := by
  unfold k120_0
  refine (zr_aload (v := zf b 0) rfl (zf_tA h _)).trans ?_
  refine (zr_gfr h (tr_hall_flow rfl)).trans ?_
  refine (zr_gfi h (ti_flow_breaks rfl)).trans ?_
  exact zr_ireturn.trans k
theorem zs_121_0 (h : zOk b n f)   (k : some (enc (nz (g 182 4)), (zM n (zWf b f g))) = some r) : k121_0 V ST d (zCl AL V ST ex_km d) (zRn AL V ST ex_km d kt_121) (zP [zf b 0]) [] (zM n (zWf b f g)) = some r := by
  unfold k121_0
  refine (zr_aload (v := zf b 0) rfl (zf_tA h _)).trans ?_
  refine (zr_gfr h (tr_hall_flow rfl)).trans ?_
  refine (zr_gfi h (ti_flow_clashCount rfl)).trans ?_
  exact zr_ireturn.trans k
theorem zs_122_160 (h : zOk b n f) {l1 : Int} {l2 : Int} (zl1 : zR l1) (zl2 : zR l2) (k : (if 14 ≤ d then some (549755813892, zM n (zWf b (zbump f) g)) else none) = some r) : k122_160 V ST d (zCl AL V ST ex_km d) (zRn AL V ST ex_km d kt_122) (zP [zf b 0, enc l1, enc l2]) [] (zM n (zWf b f g)) = some r := by
  unfold k122_160
  by_cases c1 : 14 ≤ d
  · rw [if_pos c1] at k
    exact (zr_newx h c1 (zA_nil) (by decide)).trans k
  · rw [if_neg c1] at k; cases k
theorem zs_122_154 (h : zOk b n f) {l1 : Int} {l2 : Int} (zl1 : zR l1) (zl2 : zR l2) (k : zRn AL V ST ex_km d kt_122 56 (zP [zf b 0, enc l1, enc (nz (l2 + 1))]) [] (zM n (zWf b f g)) = some r) : k122_154 V ST d (zCl AL V ST ex_km d) (zRn AL V ST ex_km d kt_122) (zP [zf b 0, enc l1, enc l2]) [] (zM n (zWf b f g)) = some r := by
  unfold k122_154
  refine (zr_iinc (w := enc l1) (x := l2) (i' := 1) (vs' := [zf b 0, enc l1, enc (nz (l2 + 1))]) rfl (enc_c2 _) (Nat.lt_trans (enc_lt _) (by decide)) rfl rfl (by decide) rfl).trans ?_
  exact (zr_goto).trans k
theorem zs_122_137 (h : zOk b n f) {l1 : Int} {l2 : Int} {s0 : Int} (zl1 : zR l1) (zl2 : zR l2) (zs0 : zR s0) (k : (if s0 = 0 then zRn AL V ST ex_km d kt_122 154 (zP [zf b 0, enc l1, enc l2]) [] (zM n (zWf b f g)) else some (enc 2, (zM n (zWf b f (upd (upd g 239 0 l2) 0 16 2))))) = some r) : k122_137 V ST d (zCl AL V ST ex_km d) (zRn AL V ST ex_km d kt_122) (zP [zf b 0, enc l1, enc l2]) [enc s0] (zM n (zWf b f g)) = some r := by
  unfold k122_137
  by_cases c1 : s0 = 0
  · rw [if_pos c1] at k
    exact (zr_if_eq_t (zs0) c1).trans k
  · rw [if_neg c1] at k
    refine (zr_if_eq_n (zs0) c1).trans ?_
    refine (zr_aload (v := zf b 0) rfl (zf_tA h _)).trans ?_
    refine (zr_gfr h (tr_hall_way rfl)).trans ?_
    refine (zr_pshi 0 rfl).trans ?_
    refine (zr_iload (v := enc l2) rfl (enc_lt _)).trans ?_
    refine (zr_iast h (ta_hall_way rfl) (by decide) (by decide)).trans ?_
    refine (zr_aload (v := zf b 0) rfl (zf_tA h _)).trans ?_
    refine (zr_pshi 2 rfl).trans ?_
    refine (zr_pfi h (ti_hall_wayLength rfl)).trans ?_
    refine (zr_pshi 2 rfl).trans ?_
    exact zr_ireturn.trans k
theorem zs_122_128 (h : zOk b n f) {l1 : Int} {l2 : Int} (zl1 : zR l1) (zl2 : zR l2) (k : zTh (zCl AL V ST ex_km d 146 [zf b 0, zf b 9, enc 1] (zM n (zWf b f g))) (zM n (zWf b f g)) [] (fun S M => k122_137 V ST d (zCl AL V ST ex_km d) (zRn AL V ST ex_km d kt_122) (zP [zf b 0, enc l1, enc l2]) S M) = some r) : k122_128 V ST d (zCl AL V ST ex_km d) (zRn AL V ST ex_km d kt_122) (zP [zf b 0, enc l1, enc l2]) [] (zM n (zWf b f g)) = some r := by
  unfold k122_128
  refine (zr_aload (v := zf b 0) rfl (zf_tA h _)).trans ?_
  refine (zr_aload (v := zf b 0) rfl (zf_tA h _)).trans ?_
  refine (zr_gfr h (tr_hall_trial rfl)).trans ?_
  refine (zr_pshi 1 rfl).trans ?_
  refine zr_invV h [enc 1, zf b 9] rfl (tk_hall rfl) (zA_cons (enc_l _) (zA_cons (zf_l h _) zA_nil)) (zA_nil) (by decide) ?_
  exact k
theorem zs_122_109 (h : zOk b n f) {l1 : Int} {l2 : Int} {s0 : Int} (zl1 : zR l1) (zl2 : zR l2) (zs0 : zR s0) (k : (if s0 = 45 then zTh (zCl AL V ST ex_km d 43 [zf b 9, zf b 16] (zM n (zWf b f g))) (zM n (zWf b f g)) [] (fun S M => k122_128 V ST d (zCl AL V ST ex_km d) (zRn AL V ST ex_km d kt_122) (zP [zf b 0, enc l1, enc l2]) S M) else zRn AL V ST ex_km d kt_122 154 (zP [zf b 0, enc l1, enc l2]) [] (zM n (zWf b f g))) = some r) : k122_109 V ST d (zCl AL V ST ex_km d) (zRn AL V ST ex_km d kt_122) (zP [zf b 0, enc l1, enc l2]) [enc s0] (zM n (zWf b f g)) = some r := by
  unfold k122_109
  refine (zr_pshi 45 rfl).trans ?_
  by_cases c1 : s0 = 45
  · rw [if_pos c1] at k
    refine (zr_icmp_ne_n (zs0) ((by unfold zR; omega)) c1).trans ?_
    refine (zr_aload (v := zf b 0) rfl (zf_tA h _)).trans ?_
    refine (zr_gfr h (tr_hall_trial rfl)).trans ?_
    refine (zr_aload (v := zf b 0) rfl (zf_tA h _)).trans ?_
    refine (zr_gfr h (tr_hall_stage rfl)).trans ?_
    refine (zr_gfr h (tr_stage_ground rfl)).trans ?_
    refine zr_invV h [zf b 16] rfl (tk_pl (Or.inr (Or.inr rfl))) (zA_cons (zf_l h _) zA_nil) (zA_nil) (by decide) ?_
    exact k
  · rw [if_neg c1] at k
    exact (zr_icmp_ne_t (zs0) ((by unfold zR; omega)) c1).trans k
theorem zs_122_90 (h : zOk b n f) {l1 : Int} {l2 : Int} (zl1 : zR l1) (zl2 : zR l2) (k : zTh (zCl AL V ST ex_km d 59 [zf b 15, zf b 151, enc (nz (g 151 5)), enc 0] (zM n (zWf b f g))) (zM n (zWf b f g)) [] (fun S M => k122_109 V ST d (zCl AL V ST ex_km d) (zRn AL V ST ex_km d kt_122) (zP [zf b 0, enc l1, enc l2]) S M) = some r) : k122_90 V ST d (zCl AL V ST ex_km d) (zRn AL V ST ex_km d kt_122) (zP [zf b 0, enc l1, enc l2]) [] (zM n (zWf b f g)) = some r := by
  unfold k122_90
  refine (zr_aload (v := zf b 0) rfl (zf_tA h _)).trans ?_
  refine (zr_gfr h (tr_hall_stage rfl)).trans ?_
  refine (zr_aload (v := zf b 0) rfl (zf_tA h _)).trans ?_
  refine (zr_gfr h (tr_hall_plan rfl)).trans ?_
  refine (zr_aload (v := zf b 0) rfl (zf_tA h _)).trans ?_
  refine (zr_gfr h (tr_hall_plan rfl)).trans ?_
  refine (zr_gfi h (ti_plan_partCount (Or.inl rfl))).trans ?_
  refine (zr_pshi 0 rfl).trans ?_
  refine zr_invV h [enc 0, enc (nz (g 151 5)), zf b 151] rfl (tk_stage rfl) (zA_cons (enc_l _) (zA_cons (enc_l _) (zA_cons (zf_l h _) zA_nil))) (zA_nil) (by decide) ?_
  exact k
theorem zs_122_75 (h : zOk b n f) {l1 : Int} {l2 : Int} (zl1 : zR l1) (zl2 : zR l2) (k : zTh (zCl AL V ST ex_km d 58 [zf b 15, zf b 1, zf b 14] (zM n (zWf b f g))) (zM n (zWf b f g)) [] (fun S M => k122_90 V ST d (zCl AL V ST ex_km d) (zRn AL V ST ex_km d kt_122) (zP [zf b 0, enc l1, enc l2]) S M) = some r) : k122_75 V ST d (zCl AL V ST ex_km d) (zRn AL V ST ex_km d kt_122) (zP [zf b 0, enc l1, enc l2]) [] (zM n (zWf b f g)) = some r := by
  unfold k122_75
  refine (zr_aload (v := zf b 0) rfl (zf_tA h _)).trans ?_
  refine (zr_gfr h (tr_hall_stage rfl)).trans ?_
  refine (zr_aload (v := zf b 0) rfl (zf_tA h _)).trans ?_
  refine (zr_gfr h (tr_hall_dancers rfl)).trans ?_
  refine (zr_aload (v := zf b 0) rfl (zf_tA h _)).trans ?_
  refine (zr_gfr h (tr_hall_experts rfl)).trans ?_
  refine zr_invV h [zf b 14, zf b 1] rfl (tk_stage rfl) (zA_cons (zf_l h _) (zA_cons (zf_l h _) zA_nil)) (zA_nil) (by decide) ?_
  exact k
theorem zs_122_56 (h : zOk b n f) {l1 : Int} {l2 : Int} (zl1 : zR l1) (zl2 : zR l2) (k : (if l2 < 12 then (if 1 < l1 then zTh (zCl AL V ST ex_km d 48 [zf b 151, enc l2] (zM n (zWf b f g))) (zM n (zWf b f g)) [] (fun S M => k122_75 V ST d (zCl AL V ST ex_km d) (zRn AL V ST ex_km d kt_122) (zP [zf b 0, enc l1, enc l2]) S M) else zRn AL V ST ex_km d kt_122 160 (zP [zf b 0, enc l1, enc l2]) [] (zM n (zWf b f g))) else zRn AL V ST ex_km d kt_122 160 (zP [zf b 0, enc l1, enc l2]) [] (zM n (zWf b f g))) = some r) : k122_56 V ST d (zCl AL V ST ex_km d) (zRn AL V ST ex_km d kt_122) (zP [zf b 0, enc l1, enc l2]) [] (zM n (zWf b f g)) = some r := by
  unfold k122_56
  refine (zr_iload (v := enc l2) rfl (enc_lt _)).trans ?_
  refine (zr_pshi 12 rfl).trans ?_
  by_cases c1 : l2 < 12
  · rw [if_pos c1] at k
    refine (zr_icmp_ge_n (zl2) ((by unfold zR; omega)) c1).trans ?_
    refine (zr_iload (v := enc l1) rfl (enc_lt _)).trans ?_
    refine (zr_pshi 1 rfl).trans ?_
    by_cases c2 : 1 < l1
    · rw [if_pos c2] at k
      refine (zr_icmp_le_n (zl1) ((by unfold zR; omega)) c2).trans ?_
      refine (zr_aload (v := zf b 0) rfl (zf_tA h _)).trans ?_
      refine (zr_gfr h (tr_hall_plan rfl)).trans ?_
      refine (zr_iload (v := enc l2) rfl (enc_lt _)).trans ?_
      refine zr_invV h [enc l2] rfl (tk_plan (Or.inl rfl)) (zA_cons (enc_l _) zA_nil) (zA_nil) (by decide) ?_
      exact k
    · rw [if_neg c2] at k
      exact (zr_icmp_le_t (zl1) ((by unfold zR; omega)) (Int.not_lt.mp c2)).trans k
  · rw [if_neg c1] at k
    exact (zr_icmp_ge_t (zl2) ((by unfold zR; omega)) (Int.not_lt.mp c1)).trans k
theorem zs_122_54 (h : zOk b n f) {l1 : Int} (zl1 : zR l1) (k : k122_56 V ST d (zCl AL V ST ex_km d) (zRn AL V ST ex_km d kt_122) (zP [zf b 0, enc l1, enc 0]) [] (zM n (zWf b f g)) = some r) : k122_54 V ST d (zCl AL V ST ex_km d) (zRn AL V ST ex_km d kt_122) (zP [zf b 0, enc l1, 137438953472]) [] (zM n (zWf b f g)) = some r := by
  unfold k122_54
  refine (zr_pshi 0 rfl).trans ?_
  refine (zr_istore (w := enc l1) (vs' := [zf b 0, enc l1, enc 0]) rfl (enc_c2 _) (Nat.lt_trans (enc_lt _) (by decide)) (by decide) rfl (enc_lt _)).trans ?_
  exact k
theorem zs_122_44 (h : zOk b n f) {l1 : Int} {s0 : Int} (zl1 : zR l1) (zs0 : zR s0) (k : (if s0 = 0 then zRn AL V ST ex_km d kt_122 54 (zP [zf b 0, enc l1, 137438953472]) [] (zM n (zWf b f g)) else some (enc 1, (zM n (zWf b f (upd g 0 16 1))))) = some r) : k122_44 V ST d (zCl AL V ST ex_km d) (zRn AL V ST ex_km d kt_122) (zP [zf b 0, enc l1, 137438953472]) [enc s0] (zM n (zWf b f g)) = some r := by
  unfold k122_44
  by_cases c1 : s0 = 0
  · rw [if_pos c1] at k
    exact (zr_if_eq_t (zs0) c1).trans k
  · rw [if_neg c1] at k
    refine (zr_if_eq_n (zs0) c1).trans ?_
    refine (zr_aload (v := zf b 0) rfl (zf_tA h _)).trans ?_
    refine (zr_pshi 1 rfl).trans ?_
    refine (zr_pfi h (ti_hall_wayLength rfl)).trans ?_
    refine (zr_pshi 1 rfl).trans ?_
    exact zr_ireturn.trans k
theorem zs_122_31 (h : zOk b n f) {l1 : Int} (zl1 : zR l1) (k : (if 0 < l1 then zTh (zCl AL V ST ex_km d 146 [zf b 0, zf b 1, enc 0] (zM n (zWf b f g))) (zM n (zWf b f g)) [] (fun S M => k122_44 V ST d (zCl AL V ST ex_km d) (zRn AL V ST ex_km d kt_122) (zP [zf b 0, enc l1, 137438953472]) S M) else zRn AL V ST ex_km d kt_122 54 (zP [zf b 0, enc l1, 137438953472]) [] (zM n (zWf b f g))) = some r) : k122_31 V ST d (zCl AL V ST ex_km d) (zRn AL V ST ex_km d kt_122) (zP [zf b 0, enc l1, 137438953472]) [] (zM n (zWf b f g)) = some r := by
  unfold k122_31
  refine (zr_iload (v := enc l1) rfl (enc_lt _)).trans ?_
  by_cases c1 : 0 < l1
  · rw [if_pos c1] at k
    refine (zr_if_le_n (zl1) c1).trans ?_
    refine (zr_aload (v := zf b 0) rfl (zf_tA h _)).trans ?_
    refine (zr_aload (v := zf b 0) rfl (zf_tA h _)).trans ?_
    refine (zr_gfr h (tr_hall_dancers rfl)).trans ?_
    refine (zr_pshi 0 rfl).trans ?_
    refine zr_invV h [enc 0, zf b 1] rfl (tk_hall rfl) (zA_cons (enc_l _) (zA_cons (zf_l h _) zA_nil)) (zA_nil) (by decide) ?_
    exact k
  · rw [if_neg c1] at k
    exact (zr_if_le_t (zl1) (Int.not_lt.mp c1)).trans k
theorem zs_122_21 (h : zOk b n f) {l1 : Int} {s0 : Int} (zl1 : zR l1) (zs0 : zR s0) (k : (if s0 = 0 then zRn AL V ST ex_km d kt_122 31 (zP [zf b 0, enc l1, 137438953472]) [] (zM n (zWf b f g)) else some (enc 0, (zM n (zWf b f (upd g 0 16 0))))) = some r) : k122_21 V ST d (zCl AL V ST ex_km d) (zRn AL V ST ex_km d kt_122) (zP [zf b 0, enc l1, 137438953472]) [enc s0] (zM n (zWf b f g)) = some r := by
  unfold k122_21
  by_cases c1 : s0 = 0
  · rw [if_pos c1] at k
    exact (zr_if_eq_t (zs0) c1).trans k
  · rw [if_neg c1] at k
    refine (zr_if_eq_n (zs0) c1).trans ?_
    refine (zr_aload (v := zf b 0) rfl (zf_tA h _)).trans ?_
    refine (zr_pshi 0 rfl).trans ?_
    refine (zr_pfi h (ti_hall_wayLength rfl)).trans ?_
    refine (zr_pshi 0 rfl).trans ?_
    exact zr_ireturn.trans k
theorem zs_122_17 (h : zOk b n f) {l1 : Int} (zl1 : zR l1) (k : zTh (zCl AL V ST ex_km d 118 [zf b 0] (zM n (zWf b f g))) (zM n (zWf b f g)) [] (fun S M => k122_21 V ST d (zCl AL V ST ex_km d) (zRn AL V ST ex_km d kt_122) (zP [zf b 0, enc l1, 137438953472]) S M) = some r) : k122_17 V ST d (zCl AL V ST ex_km d) (zRn AL V ST ex_km d kt_122) (zP [zf b 0, enc l1, 137438953472]) [] (zM n (zWf b f g)) = some r := by
  unfold k122_17
  refine (zr_aload (v := zf b 0) rfl (zf_tA h _)).trans ?_
  refine zr_invV h [] rfl (tk_hall rfl) (zA_nil) (zA_nil) (by decide) ?_
  exact k
theorem zs_122_9 (h : zOk b n f) {l1 : Int} (zl1 : zR l1) (k : (if 14 ≤ d then some (549755813890, zM n (zWf b (zbump f) g)) else none) = some r) : k122_9 V ST d (zCl AL V ST ex_km d) (zRn AL V ST ex_km d kt_122) (zP [zf b 0, enc l1, 137438953472]) [] (zM n (zWf b f g)) = some r := by
  unfold k122_9
  by_cases c1 : 14 ≤ d
  · rw [if_pos c1] at k
    exact (zr_newx h c1 (zA_nil) (by decide)).trans k
  · rw [if_neg c1] at k; cases k
theorem zs_122_0 (h : zOk b n f) {l1 : Int} (zl1 : zR l1) (k : (if l1 < 0 then zRn AL V ST ex_km d kt_122 9 (zP [zf b 0, enc l1, 137438953472]) [] (zM n (zWf b f g)) else (if 2 < l1 then k122_9 V ST d (zCl AL V ST ex_km d) (zRn AL V ST ex_km d kt_122) (zP [zf b 0, enc l1, 137438953472]) [] (zM n (zWf b f g)) else zRn AL V ST ex_km d kt_122 17 (zP [zf b 0, enc l1, 137438953472]) [] (zM n (zWf b f g)))) = some r) : k122_0 V ST d (zCl AL V ST ex_km d) (zRn AL V ST ex_km d kt_122) (zP [zf b 0, enc l1, 137438953472]) [] (zM n (zWf b f g)) = some r := by
  unfold k122_0
  refine (zr_iload (v := enc l1) rfl (enc_lt _)).trans ?_
  by_cases c1 : l1 < 0
  · rw [if_pos c1] at k
    exact (zr_if_lt_t (zl1) c1).trans k
  · rw [if_neg c1] at k
    refine (zr_if_lt_n (zl1) (Int.not_lt.mp c1)).trans ?_
    refine (zr_iload (v := enc l1) rfl (enc_lt _)).trans ?_
    refine (zr_pshi 2 rfl).trans ?_
    by_cases c2 : 2 < l1
    · rw [if_pos c2] at k
      refine (zr_icmp_le_n (zl1) ((by unfold zR; omega)) c2).trans ?_
      exact k
    · rw [if_neg c2] at k
      exact (zr_icmp_le_t (zl1) ((by unfold zR; omega)) (Int.not_lt.mp c2)).trans k
theorem zs_123_0 (h : zOk b n f)   (k : some (enc (nz (g 186 1)), (zM n (zWf b f g))) = some r) : k123_0 V ST d (zCl AL V ST ex_km d) (zRn AL V ST ex_km d kt_123) (zP [zf b 0]) [] (zM n (zWf b f g)) = some r := by
  unfold k123_0
  refine (zr_aload (v := zf b 0) rfl (zf_tA h _)).trans ?_
  refine (zr_gfr h (tr_hall_song rfl)).trans ?_
  refine (zr_gfi h (ti_song_done rfl)).trans ?_
  exact zr_ireturn.trans k
theorem zs_124_85 (h : zOk b n f) {l1 : Int} (zl1 : zR l1) (k : some (enc l1, (zM n (zWf b f g))) = some r) : k124_85 V ST d (zCl AL V ST ex_km d) (zRn AL V ST ex_km d kt_124) (zP [zf b 0, enc l1]) [] (zM n (zWf b f g)) = some r := by
  unfold k124_85
  refine (zr_iload (v := enc l1) rfl (enc_lt _)).trans ?_
  exact zr_ireturn.trans k
theorem zs_124_81 (h : zOk b n f) {l1 : Int} (zl1 : zR l1) (k : zTh (zCl AL V ST ex_km d 148 [zf b 0] (zM n (zWf b f g))) (zM n (zWf b f g)) [] (fun S M => k124_85 V ST d (zCl AL V ST ex_km d) (zRn AL V ST ex_km d kt_124) (zP [zf b 0, enc l1]) S M) = some r) : k124_81 V ST d (zCl AL V ST ex_km d) (zRn AL V ST ex_km d kt_124) (zP [zf b 0, enc l1]) [] (zM n (zWf b f g)) = some r := by
  unfold k124_81
  refine (zr_aload (v := zf b 0) rfl (zf_tA h _)).trans ?_
  refine zr_invV h [] rfl (tk_hall rfl) (zA_nil) (zA_nil) (by decide) ?_
  exact k
theorem zs_124_33 (h : zOk b n f)   (k : zTh (zCl AL V ST ex_km d 55 [zf b 186, enc (nz ((upd g 186 2 (zand (nz ((nz (g 186 2)) + 1)) 3)) 186 0))] (zM n (zWf b f (upd g 186 2 (zand (nz ((nz (g 186 2)) + 1)) 3))))) (zM n (zWf b f (upd g 186 2 (zand (nz ((nz (g 186 2)) + 1)) 3)))) [] (fun S M => k124_81 V ST d (zCl AL V ST ex_km d) (zRn AL V ST ex_km d kt_124) (zP [zf b 0, enc (nz ((nz (g 186 0)) - (nz (g 186 1))))]) S M) = some r) : k124_33 V ST d (zCl AL V ST ex_km d) (zRn AL V ST ex_km d kt_124) (zP [zf b 0, 137438953472]) [] (zM n (zWf b f g)) = some r := by
  unfold k124_33
  refine (zr_aload (v := zf b 0) rfl (zf_tA h _)).trans ?_
  refine (zr_gfr h (tr_hall_song rfl)).trans ?_
  refine (zr_gfi h (ti_song_figure rfl)).trans ?_
  refine (zr_aload (v := zf b 0) rfl (zf_tA h _)).trans ?_
  refine (zr_gfr h (tr_hall_song rfl)).trans ?_
  refine (zr_gfi h (ti_song_done rfl)).trans ?_
  refine (zr_isub).trans ?_
  refine (zr_istore (w := zf b 0) (vs' := [zf b 0, enc (nz ((nz (g 186 0)) - (nz (g 186 1))))]) rfl (zf_c2 h _) (Nat.lt_trans (zf_l h _) (by decide)) (by decide) rfl (enc_lt _)).trans ?_
  refine (zr_aload (v := zf b 0) rfl (zf_tA h _)).trans ?_
  refine (zr_gfr h (tr_hall_song rfl)).trans ?_
  refine (zr_aload (v := zf b 0) rfl (zf_tA h _)).trans ?_
  refine (zr_gfr h (tr_hall_song rfl)).trans ?_
  refine (zr_gfi h (ti_song_rightsGone rfl)).trans ?_
  refine (zr_pshi 1 rfl).trans ?_
  refine (zr_iadd).trans ?_
  refine (zr_pshi 3 rfl).trans ?_
  refine (zr_iand).trans ?_
  refine (zr_pfi h (ti_song_rightsGone rfl)).trans ?_
  refine (zr_aload (v := zf b 0) rfl (zf_tA h _)).trans ?_
  refine (zr_gfr h (tr_hall_song rfl)).trans ?_
  refine (zr_aload (v := zf b 0) rfl (zf_tA h _)).trans ?_
  refine (zr_gfr h (tr_hall_song rfl)).trans ?_
  refine (zr_gfi h (ti_song_figure rfl)).trans ?_
  refine zr_invV h [enc (nz ((upd g 186 2 (zand (nz ((nz (g 186 2)) + 1)) 3)) 186 0))] rfl (tk_song rfl) (zA_cons (enc_l _) zA_nil) (zA_nil) (by decide) ?_
  exact k
theorem zs_124_15 (h : zOk b n f)   (k : (if nz (g 186 0) = 0 then (if 14 ≤ d then some (549755813893, zM n (zWf b (zbump f) g)) else none) else zRn AL V ST ex_km d kt_124 33 (zP [zf b 0, 137438953472]) [] (zM n (zWf b f g))) = some r) : k124_15 V ST d (zCl AL V ST ex_km d) (zRn AL V ST ex_km d kt_124) (zP [zf b 0, 137438953472]) [] (zM n (zWf b f g)) = some r := by
  unfold k124_15
  refine (zr_aload (v := zf b 0) rfl (zf_tA h _)).trans ?_
  refine (zr_gfr h (tr_hall_song rfl)).trans ?_
  refine (zr_gfi h (ti_song_figure rfl)).trans ?_
  by_cases c1 : nz (g 186 0) = 0
  · rw [if_pos c1] at k
    refine (zr_if_ne_n (nz_R _) c1).trans ?_
    by_cases c2 : 14 ≤ d
    · rw [if_pos c2] at k
      exact (zr_newx h c2 (zA_nil) (by decide)).trans k
    · rw [if_neg c2] at k; cases k
  · rw [if_neg c1] at k
    exact (zr_if_ne_t (nz_R _) c1).trans k
theorem zs_124_4 (h : zOk b n f) {s0 : Int} (zs0 : zR s0) (k : (if 0 < s0 then (if 14 ≤ d then some (549755813891, zM n (zWf b (zbump f) g)) else none) else zRn AL V ST ex_km d kt_124 15 (zP [zf b 0, 137438953472]) [] (zM n (zWf b f g))) = some r) : k124_4 V ST d (zCl AL V ST ex_km d) (zRn AL V ST ex_km d kt_124) (zP [zf b 0, 137438953472]) [enc s0] (zM n (zWf b f g)) = some r := by
  unfold k124_4
  by_cases c1 : 0 < s0
  · rw [if_pos c1] at k
    refine (zr_if_le_n (zs0) c1).trans ?_
    by_cases c2 : 14 ≤ d
    · rw [if_pos c2] at k
      exact (zr_newx h c2 (zA_nil) (by decide)).trans k
    · rw [if_neg c2] at k; cases k
  · rw [if_neg c1] at k
    exact (zr_if_le_t (zs0) (Int.not_lt.mp c1)).trans k
theorem zs_124_0 (h : zOk b n f)   (k : zTh (zCl AL V ST ex_km d 151 [zf b 0] (zM n (zWf b f g))) (zM n (zWf b f g)) [] (fun S M => k124_4 V ST d (zCl AL V ST ex_km d) (zRn AL V ST ex_km d kt_124) (zP [zf b 0, 137438953472]) S M) = some r) : k124_0 V ST d (zCl AL V ST ex_km d) (zRn AL V ST ex_km d kt_124) (zP [zf b 0, 137438953472]) [] (zM n (zWf b f g)) = some r := by
  unfold k124_0
  refine (zr_aload (v := zf b 0) rfl (zf_tA h _)).trans ?_
  refine zr_invV h [] rfl (tk_hall rfl) (zA_nil) (zA_nil) (by decide) ?_
  exact k
theorem zs_125_0 (h : zOk b n f)   (k : some (enc (nz (g 186 2)), (zM n (zWf b f g))) = some r) : k125_0 V ST d (zCl AL V ST ex_km d) (zRn AL V ST ex_km d kt_125) (zP [zf b 0]) [] (zM n (zWf b f g)) = some r := by
  unfold k125_0
  refine (zr_aload (v := zf b 0) rfl (zf_tA h _)).trans ?_
  refine (zr_gfr h (tr_hall_song rfl)).trans ?_
  refine (zr_gfi h (ti_song_rightsGone rfl)).trans ?_
  exact zr_ireturn.trans k
theorem zs_126_35 (h : zOk b n f) {l1 : Int} {l2 : Int} (zl1 : zR l1) (zl2 : zR l2) (k : some (enc l2, (zM n (zWf b f g))) = some r) : k126_35 V ST d (zCl AL V ST ex_km d) (zRn AL V ST ex_km d kt_126) (zP [zf b 0, enc l1, enc l2]) [] (zM n (zWf b f g)) = some r := by
  unfold k126_35
  refine (zr_iload (v := enc l2) rfl (enc_lt _)).trans ?_
  exact zr_ireturn.trans k
theorem zs_126_19 (h : zOk b n f) {l1 : Int} (zl1 : zR l1) (k : zTh (zCl AL V ST ex_km d 29 [zf b 187, enc l1] (zM n (zWf b f g))) (zM n (zWf b f g)) [] (fun S M => k126_35 V ST d (zCl AL V ST ex_km d) (zRn AL V ST ex_km d kt_126) (zP [zf b 0, enc l1, enc (nz (g 187 4))]) S M) = some r) : k126_19 V ST d (zCl AL V ST ex_km d) (zRn AL V ST ex_km d kt_126) (zP [zf b 0, enc l1, 137438953472]) [] (zM n (zWf b f g)) = some r := by
  unfold k126_19
  refine (zr_aload (v := zf b 0) rfl (zf_tA h _)).trans ?_
  refine (zr_gfr h (tr_hall_party rfl)).trans ?_
  refine (zr_gfi h (ti_party_tips rfl)).trans ?_
  refine (zr_istore (w := enc l1) (vs' := [zf b 0, enc l1, enc (nz (g 187 4))]) rfl (enc_c2 _) (Nat.lt_trans (enc_lt _) (by decide)) (by decide) rfl (enc_lt _)).trans ?_
  refine (zr_aload (v := zf b 0) rfl (zf_tA h _)).trans ?_
  refine (zr_gfr h (tr_hall_party rfl)).trans ?_
  refine (zr_iload (v := enc l1) rfl (enc_lt _)).trans ?_
  refine zr_invV h [enc l1] rfl (tk_party rfl) (zA_cons (enc_l _) zA_nil) (zA_nil) (by decide) ?_
  exact k
theorem zs_126_11 (h : zOk b n f) {l1 : Int} (zl1 : zR l1) (k : (if 14 ≤ d then some (549755813890, zM n (zWf b (zbump f) g)) else none) = some r) : k126_11 V ST d (zCl AL V ST ex_km d) (zRn AL V ST ex_km d kt_126) (zP [zf b 0, enc l1, 137438953472]) [] (zM n (zWf b f g)) = some r := by
  unfold k126_11
  by_cases c1 : 14 ≤ d
  · rw [if_pos c1] at k
    exact (zr_newx h c1 (zA_nil) (by decide)).trans k
  · rw [if_neg c1] at k; cases k
theorem zs_126_0 (h : zOk b n f) {l1 : Int} (zl1 : zR l1) (k : (if l1 < 4 then zRn AL V ST ex_km d kt_126 11 (zP [zf b 0, enc l1, 137438953472]) [] (zM n (zWf b f g)) else (if 16 < l1 then k126_11 V ST d (zCl AL V ST ex_km d) (zRn AL V ST ex_km d kt_126) (zP [zf b 0, enc l1, 137438953472]) [] (zM n (zWf b f g)) else zRn AL V ST ex_km d kt_126 19 (zP [zf b 0, enc l1, 137438953472]) [] (zM n (zWf b f g)))) = some r) : k126_0 V ST d (zCl AL V ST ex_km d) (zRn AL V ST ex_km d kt_126) (zP [zf b 0, enc l1, 137438953472]) [] (zM n (zWf b f g)) = some r := by
  unfold k126_0
  refine (zr_iload (v := enc l1) rfl (enc_lt _)).trans ?_
  refine (zr_pshi 4 rfl).trans ?_
  by_cases c1 : l1 < 4
  · rw [if_pos c1] at k
    exact (zr_icmp_lt_t (zl1) ((by unfold zR; omega)) c1).trans k
  · rw [if_neg c1] at k
    refine (zr_icmp_lt_n (zl1) ((by unfold zR; omega)) (Int.not_lt.mp c1)).trans ?_
    refine (zr_iload (v := enc l1) rfl (enc_lt _)).trans ?_
    refine (zr_pshi 16 rfl).trans ?_
    by_cases c2 : 16 < l1
    · rw [if_pos c2] at k
      refine (zr_icmp_le_n (zl1) ((by unfold zR; omega)) c2).trans ?_
      exact k
    · rw [if_neg c2] at k
      exact (zr_icmp_le_t (zl1) ((by unfold zR; omega)) (Int.not_lt.mp c2)).trans k
theorem zs_127_37 (h : zOk b n f) {s0 : Int} (zs0 : zR s0) (k : some (enc s0, (zM n (zWf b f g))) = some r) : k127_37 V ST d (zCl AL V ST ex_km d) (zRn AL V ST ex_km d kt_127) (zP [zf b 0]) [enc s0] (zM n (zWf b f g)) = some r := by
  unfold k127_37
  exact zr_ireturn.trans k
theorem zs_127_30 (h : zOk b n f)   (k : zTh (zCl AL V ST ex_km d 30 [zf b 187] (zM n (zWf b f g))) (zM n (zWf b f g)) [] (fun S M => k127_37 V ST d (zCl AL V ST ex_km d) (zRn AL V ST ex_km d kt_127) (zP [zf b 0]) S M) = some r) : k127_30 V ST d (zCl AL V ST ex_km d) (zRn AL V ST ex_km d kt_127) (zP [zf b 0]) [] (zM n (zWf b f g)) = some r := by
  unfold k127_30
  refine (zr_aload (v := zf b 0) rfl (zf_tA h _)).trans ?_
  refine (zr_gfr h (tr_hall_party rfl)).trans ?_
  refine zr_invV h [] rfl (tk_party rfl) (zA_nil) (zA_nil) (by decide) ?_
  exact k
theorem zs_127_22 (h : zOk b n f)   (k : (if 14 ≤ d then some (549755813893, zM n (zWf b (zbump f) g)) else none) = some r) : k127_22 V ST d (zCl AL V ST ex_km d) (zRn AL V ST ex_km d kt_127) (zP [zf b 0]) [] (zM n (zWf b f g)) = some r := by
  unfold k127_22
  by_cases c1 : 14 ≤ d
  · rw [if_pos c1] at k
    exact (zr_newx h c1 (zA_nil) (by decide)).trans k
  · rw [if_neg c1] at k; cases k
theorem zs_127_0 (h : zOk b n f)   (k : (if nz (g 187 3) = 0 then zRn AL V ST ex_km d kt_127 22 (zP [zf b 0]) [] (zM n (zWf b f g)) else (if nz (g 187 4) < 30 then zRn AL V ST ex_km d kt_127 30 (zP [zf b 0]) [] (zM n (zWf b f g)) else k127_22 V ST d (zCl AL V ST ex_km d) (zRn AL V ST ex_km d kt_127) (zP [zf b 0]) [] (zM n (zWf b f g)))) = some r) : k127_0 V ST d (zCl AL V ST ex_km d) (zRn AL V ST ex_km d kt_127) (zP [zf b 0]) [] (zM n (zWf b f g)) = some r := by
  unfold k127_0
  refine (zr_aload (v := zf b 0) rfl (zf_tA h _)).trans ?_
  refine (zr_gfr h (tr_hall_party rfl)).trans ?_
  refine (zr_gfi h (ti_party_couples rfl)).trans ?_
  by_cases c1 : nz (g 187 3) = 0
  · rw [if_pos c1] at k
    exact (zr_if_eq_t (nz_R _) c1).trans k
  · rw [if_neg c1] at k
    refine (zr_if_eq_n (nz_R _) c1).trans ?_
    refine (zr_aload (v := zf b 0) rfl (zf_tA h _)).trans ?_
    refine (zr_gfr h (tr_hall_party rfl)).trans ?_
    refine (zr_gfi h (ti_party_tips rfl)).trans ?_
    refine (zr_pshi 30 rfl).trans ?_
    by_cases c2 : nz (g 187 4) < 30
    · rw [if_pos c2] at k
      exact (zr_icmp_lt_t (nz_R _) ((by unfold zR; omega)) c2).trans k
    · rw [if_neg c2] at k
      refine (zr_icmp_lt_n (nz_R _) ((by unfold zR; omega)) (Int.not_lt.mp c2)).trans ?_
      exact k
theorem zs_128_23 (h : zOk b n f) {l1 : Int} {l2 : Int} (zl1 : zR l1) (zl2 : zR l2) (k : (if 0 ≤ l1 ∧ l1 < 16 then (if 0 ≤ l2 ∧ l2 < 16 then some (enc (nz (g (219 + 1 + Int.toNat l1) l2)), (zM n (zWf b f g))) else none) else none) = some r) : k128_23 V ST d (zCl AL V ST ex_km d) (zRn AL V ST ex_km d kt_128) (zP [zf b 0, enc l1, enc l2]) [] (zM n (zWf b f g)) = some r := by
  unfold k128_23
  refine (zr_aload (v := zf b 0) rfl (zf_tA h _)).trans ?_
  refine (zr_gfr h (tr_hall_party rfl)).trans ?_
  refine (zr_gfr h (tr_party_meetings rfl)).trans ?_
  refine (zr_iload (v := enc l1) rfl (enc_lt _)).trans ?_
  by_cases c1 : 0 ≤ l1 ∧ l1 < 16
  · rw [if_pos c1] at k
    refine (zr_aald h (taa_party_meetings) c1.1 (by have := c1.2; omega)).trans ?_
    have a2 : zAr (219 + 1 + Int.toNat l1) 64 16 := ((taa_party_meetings).2.2.2.2 _ (by have := c1.1; have := c1.2; omega)).2.2
    refine (zr_iload (v := enc l2) rfl (enc_lt _)).trans ?_
    by_cases c3 : 0 ≤ l2 ∧ l2 < 16
    · rw [if_pos c3] at k
      refine (zr_iald h a2 c3.1 (by have := c3.2; omega)).trans ?_
      exact zr_ireturn.trans k
    · rw [if_neg c3] at k; cases k
  · rw [if_neg c1] at k; cases k
theorem zs_128_10 (h : zOk b n f) {l1 : Int} {l2 : Int} (zl1 : zR l1) (zl2 : zR l2) (k : (if l1 = l2 then (if 14 ≤ d then some (549755813890, zM n (zWf b (zbump f) g)) else none) else zRn AL V ST ex_km d kt_128 23 (zP [zf b 0, enc l1, enc l2]) [] (zM n (zWf b f g))) = some r) : k128_10 V ST d (zCl AL V ST ex_km d) (zRn AL V ST ex_km d kt_128) (zP [zf b 0, enc l1, enc l2]) [] (zM n (zWf b f g)) = some r := by
  unfold k128_10
  refine (zr_iload (v := enc l1) rfl (enc_lt _)).trans ?_
  refine (zr_iload (v := enc l2) rfl (enc_lt _)).trans ?_
  by_cases c1 : l1 = l2
  · rw [if_pos c1] at k
    refine (zr_icmp_ne_n (zl1) (zl2) c1).trans ?_
    by_cases c2 : 14 ≤ d
    · rw [if_pos c2] at k
      exact (zr_newx h c2 (zA_nil) (by decide)).trans k
    · rw [if_neg c2] at k; cases k
  · rw [if_neg c1] at k
    exact (zr_icmp_ne_t (zl1) (zl2) c1).trans k
theorem zs_128_5 (h : zOk b n f) {l1 : Int} {l2 : Int} (zl1 : zR l1) (zl2 : zR l2) (k : zTh (zCl AL V ST ex_km d 136 [zf b 0, enc l2] (zM n (zWf b f g))) (zM n (zWf b f g)) [] (fun S M => k128_10 V ST d (zCl AL V ST ex_km d) (zRn AL V ST ex_km d kt_128) (zP [zf b 0, enc l1, enc l2]) S M) = some r) : k128_5 V ST d (zCl AL V ST ex_km d) (zRn AL V ST ex_km d kt_128) (zP [zf b 0, enc l1, enc l2]) [] (zM n (zWf b f g)) = some r := by
  unfold k128_5
  refine (zr_aload (v := zf b 0) rfl (zf_tA h _)).trans ?_
  refine (zr_iload (v := enc l2) rfl (enc_lt _)).trans ?_
  refine zr_invV h [enc l2] rfl (tk_hall rfl) (zA_cons (enc_l _) zA_nil) (zA_nil) (by decide) ?_
  exact k
theorem zs_128_0 (h : zOk b n f) {l1 : Int} {l2 : Int} (zl1 : zR l1) (zl2 : zR l2) (k : zTh (zCl AL V ST ex_km d 136 [zf b 0, enc l1] (zM n (zWf b f g))) (zM n (zWf b f g)) [] (fun S M => k128_5 V ST d (zCl AL V ST ex_km d) (zRn AL V ST ex_km d kt_128) (zP [zf b 0, enc l1, enc l2]) S M) = some r) : k128_0 V ST d (zCl AL V ST ex_km d) (zRn AL V ST ex_km d kt_128) (zP [zf b 0, enc l1, enc l2]) [] (zM n (zWf b f g)) = some r := by
  unfold k128_0
  refine (zr_aload (v := zf b 0) rfl (zf_tA h _)).trans ?_
  refine (zr_iload (v := enc l1) rfl (enc_lt _)).trans ?_
  refine zr_invV h [enc l1] rfl (tk_hall rfl) (zA_cons (enc_l _) zA_nil) (zA_nil) (by decide) ?_
  exact k
theorem zs_130_0 (h : zOk b n f)   (k : (if nz (g 237 0) = 0 then (if 14 ≤ d then some (549755813894, zM n (zWf b (zbump f) g)) else none) else zRn AL V ST ex_km d kt_130 18 (zP [zf b 0]) [] (zM n (zWf b f g))) = some r) : k130_0 V ST d (zCl AL V ST ex_km d) (zRn AL V ST ex_km d kt_130) (zP [zf b 0]) [] (zM n (zWf b f g)) = some r := by
  unfold k130_0
  refine (zr_aload (v := zf b 0) rfl (zf_tA h _)).trans ?_
  refine (zr_gfr h (tr_hall_tally rfl)).trans ?_
  refine (zr_gfi h (ti_tally_tried rfl)).trans ?_
  by_cases c1 : nz (g 237 0) = 0
  · rw [if_pos c1] at k
    refine (zr_if_ne_n (nz_R _) c1).trans ?_
    by_cases c2 : 14 ≤ d
    · rw [if_pos c2] at k
      exact (zr_newx h c2 (zA_nil) (by decide)).trans k
    · rw [if_neg c2] at k; cases k
  · rw [if_neg c1] at k
    exact (zr_if_ne_t (nz_R _) c1).trans k
theorem zs_132_45 (h : zOk b n f) {l1 : Int} (zl1 : zR l1) (k : k132_47 V ST d (zCl AL V ST ex_km d) (zRn AL V ST ex_km d kt_132) (zP [zf b 0, enc 0]) [] (zM n (zWf b f g)) = some r) : k132_45 V ST d (zCl AL V ST ex_km d) (zRn AL V ST ex_km d kt_132) (zP [zf b 0, enc l1]) [] (zM n (zWf b f g)) = some r := by
  unfold k132_45
  refine (zr_pshi 0 rfl).trans ?_
  refine (zr_istore (w := zf b 0) (vs' := [zf b 0, enc 0]) rfl (zf_c2 h _) (Nat.lt_trans (zf_l h _) (by decide)) (by decide) rfl (enc_lt _)).trans ?_
  exact k
theorem zs_132_39 (h : zOk b n f) {l1 : Int} (zl1 : zR l1) (k : zRn AL V ST ex_km d kt_132 2 (zP [zf b 0, enc (nz (l1 + 1))]) [] (zM n (zWf b f g)) = some r) : k132_39 V ST d (zCl AL V ST ex_km d) (zRn AL V ST ex_km d kt_132) (zP [zf b 0, enc l1]) [] (zM n (zWf b f g)) = some r := by
  unfold k132_39
  refine (zr_iinc (w := zf b 0) (x := l1) (i' := 1) (vs' := [zf b 0, enc (nz (l1 + 1))]) rfl (zf_c2 h _) (Nat.lt_trans (zf_l h _) (by decide)) rfl rfl (by decide) rfl).trans ?_
  exact (zr_goto).trans k
theorem zs_132_33 (h : zOk b n f) {l1 : Int} {s0 : Int} (zl1 : zR l1) (zs0 : zR s0) (k : (if s0 = l1 then zRn AL V ST ex_km d kt_132 39 (zP [zf b 0, enc l1]) [] (zM n (zWf b f g)) else some (enc 0, (zM n (zWf b f g)))) = some r) : k132_33 V ST d (zCl AL V ST ex_km d) (zRn AL V ST ex_km d kt_132) (zP [zf b 0, enc l1]) [enc s0] (zM n (zWf b f g)) = some r := by
  unfold k132_33
  refine (zr_iload (v := enc l1) rfl (enc_lt _)).trans ?_
  by_cases c1 : s0 = l1
  · rw [if_pos c1] at k
    exact (zr_icmp_eq_t (zs0) (zl1) c1).trans k
  · rw [if_neg c1] at k
    refine (zr_icmp_eq_n (zs0) (zl1) c1).trans ?_
    refine (zr_pshi 0 rfl).trans ?_
    exact (zr_breturn (by decide)).trans k
theorem zs_132_2 (h : zOk b n f) {l1 : Int} (zl1 : zR l1) (k : (if l1 < 8 then (if 0 ≤ l1 ∧ l1 < 8 then (if 0 ≤ l1 ∧ l1 < 8 then zTh (zCl AL V ST ex_km d 42 [zf b 1, enc (nz (g (1 + 1) l1)), enc (nz (g (1 + 2) l1))] (zM n (zWf b f g))) (zM n (zWf b f g)) [] (fun S M => k132_33 V ST d (zCl AL V ST ex_km d) (zRn AL V ST ex_km d kt_132) (zP [zf b 0, enc l1]) S M) else none) else none) else zRn AL V ST ex_km d kt_132 45 (zP [zf b 0, enc l1]) [] (zM n (zWf b f g))) = some r) : k132_2 V ST d (zCl AL V ST ex_km d) (zRn AL V ST ex_km d kt_132) (zP [zf b 0, enc l1]) [] (zM n (zWf b f g)) = some r := by
  unfold k132_2
  refine (zr_iload (v := enc l1) rfl (enc_lt _)).trans ?_
  refine (zr_pshi 8 rfl).trans ?_
  by_cases c1 : l1 < 8
  · rw [if_pos c1] at k
    refine (zr_icmp_ge_n (zl1) ((by unfold zR; omega)) c1).trans ?_
    refine (zr_aload (v := zf b 0) rfl (zf_tA h _)).trans ?_
    refine (zr_gfr h (tr_hall_dancers rfl)).trans ?_
    refine (zr_aload (v := zf b 0) rfl (zf_tA h _)).trans ?_
    refine (zr_gfr h (tr_hall_dancers rfl)).trans ?_
    refine (zr_gfr h (tr_pl_x (Or.inl rfl))).trans ?_
    refine (zr_iload (v := enc l1) rfl (enc_lt _)).trans ?_
    by_cases c2 : 0 ≤ l1 ∧ l1 < 8
    · rw [if_pos c2] at k
      refine (zr_iald h (ta_pl_x (Or.inl rfl)) c2.1 (by have := c2.2; omega)).trans ?_
      refine (zr_aload (v := zf b 0) rfl (zf_tA h _)).trans ?_
      refine (zr_gfr h (tr_hall_dancers rfl)).trans ?_
      refine (zr_gfr h (tr_pl_y (Or.inl rfl))).trans ?_
      refine (zr_iload (v := enc l1) rfl (enc_lt _)).trans ?_
      by_cases c3 : 0 ≤ l1 ∧ l1 < 8
      · rw [if_pos c3] at k
        refine (zr_iald h (ta_pl_y (Or.inl rfl)) c3.1 (by have := c3.2; omega)).trans ?_
        refine zr_invV h [enc (nz (g (1 + 2) l1)), enc (nz (g (1 + 1) l1))] rfl (tk_pl (Or.inl rfl)) (zA_cons (enc_l _) (zA_cons (enc_l _) zA_nil)) (zA_nil) (by decide) ?_
        exact k
      · rw [if_neg c3] at k; cases k
    · rw [if_neg c2] at k; cases k
  · rw [if_neg c1] at k
    exact (zr_icmp_ge_t (zl1) ((by unfold zR; omega)) (Int.not_lt.mp c1)).trans k
theorem zs_132_0 (h : zOk b n f)   (k : k132_2 V ST d (zCl AL V ST ex_km d) (zRn AL V ST ex_km d kt_132) (zP [zf b 0, enc 0]) [] (zM n (zWf b f g)) = some r) : k132_0 V ST d (zCl AL V ST ex_km d) (zRn AL V ST ex_km d kt_132) (zP [zf b 0, 137438953472]) [] (zM n (zWf b f g)) = some r := by
  unfold k132_0
  refine (zr_pshi 0 rfl).trans ?_
  refine (zr_istore (w := zf b 0) (vs' := [zf b 0, enc 0]) rfl (zf_c2 h _) (Nat.lt_trans (zf_l h _) (by decide)) (by decide) rfl (enc_lt _)).trans ?_
  exact k
theorem zs_133_18 (h : zOk b n f) {l1 : Int} (zl1 : zR l1) (k : some (137438953473, (zM n (zWf b f g))) = some r) : k133_18 V ST d (zCl AL V ST ex_km d) (zRn AL V ST ex_km d kt_133) (zP [zf b 0, enc l1]) [] (zM n (zWf b f g)) = some r := by
  unfold k133_18
  exact zr_return.trans k
theorem zs_133_10 (h : zOk b n f) {l1 : Int} (zl1 : zR l1) (k : (if 14 ≤ d then some (549755813889, zM n (zWf b (zbump f) g)) else none) = some r) : k133_10 V ST d (zCl AL V ST ex_km d) (zRn AL V ST ex_km d kt_133) (zP [zf b 0, enc l1]) [] (zM n (zWf b f g)) = some r := by
  unfold k133_10
  by_cases c1 : 14 ≤ d
  · rw [if_pos c1] at k
    exact (zr_newx h c1 (zA_nil) (by decide)).trans k
  · rw [if_neg c1] at k; cases k
theorem zs_133_0 (h : zOk b n f) {l1 : Int} (zl1 : zR l1) (k : (if l1 < 0 then zRn AL V ST ex_km d kt_133 10 (zP [zf b 0, enc l1]) [] (zM n (zWf b f g)) else (if l1 < 8 then zRn AL V ST ex_km d kt_133 18 (zP [zf b 0, enc l1]) [] (zM n (zWf b f g)) else k133_10 V ST d (zCl AL V ST ex_km d) (zRn AL V ST ex_km d kt_133) (zP [zf b 0, enc l1]) [] (zM n (zWf b f g)))) = some r) : k133_0 V ST d (zCl AL V ST ex_km d) (zRn AL V ST ex_km d kt_133) (zP [zf b 0, enc l1]) [] (zM n (zWf b f g)) = some r := by
  unfold k133_0
  refine (zr_iload (v := enc l1) rfl (enc_lt _)).trans ?_
  by_cases c1 : l1 < 0
  · rw [if_pos c1] at k
    exact (zr_if_lt_t (zl1) c1).trans k
  · rw [if_neg c1] at k
    refine (zr_if_lt_n (zl1) (Int.not_lt.mp c1)).trans ?_
    refine (zr_iload (v := enc l1) rfl (enc_lt _)).trans ?_
    refine (zr_pshi 8 rfl).trans ?_
    by_cases c2 : l1 < 8
    · rw [if_pos c2] at k
      exact (zr_icmp_lt_t (zl1) ((by unfold zR; omega)) c2).trans k
    · rw [if_neg c2] at k
      refine (zr_icmp_lt_n (zl1) ((by unfold zR; omega)) (Int.not_lt.mp c2)).trans ?_
      exact k
theorem zs_134_41 (h : zOk b n f) {l1 : Int} {l2 : Int} {l3 : Int} (zl1 : zR l1) (zl2 : zR l2) (zl3 : zR l3) (k : some (137438953473, (zM n (zWf b f g))) = some r) : k134_41 V ST d (zCl AL V ST ex_km d) (zRn AL V ST ex_km d kt_134) (zP [zf b 0, enc l1, enc l2, enc l3]) [] (zM n (zWf b f g)) = some r := by
  unfold k134_41
  exact zr_return.trans k
theorem zs_134_33 (h : zOk b n f) {l1 : Int} {l2 : Int} {l3 : Int} (zl1 : zR l1) (zl2 : zR l2) (zl3 : zR l3) (k : (if 14 ≤ d then some (549755813890, zM n (zWf b (zbump f) g)) else none) = some r) : k134_33 V ST d (zCl AL V ST ex_km d) (zRn AL V ST ex_km d kt_134) (zP [zf b 0, enc l1, enc l2, enc l3]) [] (zM n (zWf b f g)) = some r := by
  unfold k134_33
  by_cases c1 : 14 ≤ d
  · rw [if_pos c1] at k
    exact (zr_newx h c1 (zA_nil) (by decide)).trans k
  · rw [if_neg c1] at k; cases k
theorem zs_134_0 (h : zOk b n f) {l1 : Int} {l2 : Int} {l3 : Int} (zl1 : zR l1) (zl2 : zR l2) (zl3 : zR l3) (k : (if l1 < (-9) then zRn AL V ST ex_km d kt_134 33 (zP [zf b 0, enc l1, enc l2, enc l3]) [] (zM n (zWf b f g)) else (if 9 < l1 then zRn AL V ST ex_km d kt_134 33 (zP [zf b 0, enc l1, enc l2, enc l3]) [] (zM n (zWf b f g)) else (if l2 < (-9) then zRn AL V ST ex_km d kt_134 33 (zP [zf b 0, enc l1, enc l2, enc l3]) [] (zM n (zWf b f g)) else (if 9 < l2 then zRn AL V ST ex_km d kt_134 33 (zP [zf b 0, enc l1, enc l2, enc l3]) [] (zM n (zWf b f g)) else (if l3 < 0 then zRn AL V ST ex_km d kt_134 33 (zP [zf b 0, enc l1, enc l2, enc l3]) [] (zM n (zWf b f g)) else (if 3 < l3 then k134_33 V ST d (zCl AL V ST ex_km d) (zRn AL V ST ex_km d kt_134) (zP [zf b 0, enc l1, enc l2, enc l3]) [] (zM n (zWf b f g)) else zRn AL V ST ex_km d kt_134 41 (zP [zf b 0, enc l1, enc l2, enc l3]) [] (zM n (zWf b f g)))))))) = some r) : k134_0 V ST d (zCl AL V ST ex_km d) (zRn AL V ST ex_km d kt_134) (zP [zf b 0, enc l1, enc l2, enc l3]) [] (zM n (zWf b f g)) = some r := by
  unfold k134_0
  refine (zr_iload (v := enc l1) rfl (enc_lt _)).trans ?_
  refine (zr_pshi (-9) rfl).trans ?_
  by_cases c1 : l1 < (-9)
  · rw [if_pos c1] at k
    exact (zr_icmp_lt_t (zl1) ((by unfold zR; omega)) c1).trans k
  · rw [if_neg c1] at k
    refine (zr_icmp_lt_n (zl1) ((by unfold zR; omega)) (Int.not_lt.mp c1)).trans ?_
    refine (zr_iload (v := enc l1) rfl (enc_lt _)).trans ?_
    refine (zr_pshi 9 rfl).trans ?_
    by_cases c2 : 9 < l1
    · rw [if_pos c2] at k
      exact (zr_icmp_gt_t (zl1) ((by unfold zR; omega)) c2).trans k
    · rw [if_neg c2] at k
      refine (zr_icmp_gt_n (zl1) ((by unfold zR; omega)) (Int.not_lt.mp c2)).trans ?_
      refine (zr_iload (v := enc l2) rfl (enc_lt _)).trans ?_
      refine (zr_pshi (-9) rfl).trans ?_
      by_cases c3 : l2 < (-9)
      · rw [if_pos c3] at k
        exact (zr_icmp_lt_t (zl2) ((by unfold zR; omega)) c3).trans k
      · rw [if_neg c3] at k
        refine (zr_icmp_lt_n (zl2) ((by unfold zR; omega)) (Int.not_lt.mp c3)).trans ?_
        refine (zr_iload (v := enc l2) rfl (enc_lt _)).trans ?_
        refine (zr_pshi 9 rfl).trans ?_
        by_cases c4 : 9 < l2
        · rw [if_pos c4] at k
          exact (zr_icmp_gt_t (zl2) ((by unfold zR; omega)) c4).trans k
        · rw [if_neg c4] at k
          refine (zr_icmp_gt_n (zl2) ((by unfold zR; omega)) (Int.not_lt.mp c4)).trans ?_
          refine (zr_iload (v := enc l3) rfl (enc_lt _)).trans ?_
          by_cases c5 : l3 < 0
          · rw [if_pos c5] at k
            exact (zr_if_lt_t (zl3) c5).trans k
          · rw [if_neg c5] at k
            refine (zr_if_lt_n (zl3) (Int.not_lt.mp c5)).trans ?_
            refine (zr_iload (v := enc l3) rfl (enc_lt _)).trans ?_
            refine (zr_pshi 3 rfl).trans ?_
            by_cases c6 : 3 < l3
            · rw [if_pos c6] at k
              refine (zr_icmp_le_n (zl3) ((by unfold zR; omega)) c6).trans ?_
              exact k
            · rw [if_neg c6] at k
              exact (zr_icmp_le_t (zl3) ((by unfold zR; omega)) (Int.not_lt.mp c6)).trans k
theorem zs_135_22 (h : zOk b n f) {l1 : Int} (zl1 : zR l1) (k : some (137438953473, (zM n (zWf b f g))) = some r) : k135_22 V ST d (zCl AL V ST ex_km d) (zRn AL V ST ex_km d kt_135) (zP [zf b 0, enc l1]) [] (zM n (zWf b f g)) = some r := by
  unfold k135_22
  exact zr_return.trans k
theorem zs_135_14 (h : zOk b n f) {l1 : Int} (zl1 : zR l1) (k : (if 14 ≤ d then some (549755813890, zM n (zWf b (zbump f) g)) else none) = some r) : k135_14 V ST d (zCl AL V ST ex_km d) (zRn AL V ST ex_km d kt_135) (zP [zf b 0, enc l1]) [] (zM n (zWf b f g)) = some r := by
  unfold k135_14
  by_cases c1 : 14 ≤ d
  · rw [if_pos c1] at k
    exact (zr_newx h c1 (zA_nil) (by decide)).trans k
  · rw [if_neg c1] at k; cases k
theorem zs_135_0 (h : zOk b n f) {l1 : Int} (zl1 : zR l1) (k : (if l1 < 1900 then zRn AL V ST ex_km d kt_135 14 (zP [zf b 0, enc l1]) [] (zM n (zWf b f g)) else (if 2100 < l1 then k135_14 V ST d (zCl AL V ST ex_km d) (zRn AL V ST ex_km d kt_135) (zP [zf b 0, enc l1]) [] (zM n (zWf b f g)) else zRn AL V ST ex_km d kt_135 22 (zP [zf b 0, enc l1]) [] (zM n (zWf b f g)))) = some r) : k135_0 V ST d (zCl AL V ST ex_km d) (zRn AL V ST ex_km d kt_135) (zP [zf b 0, enc l1]) [] (zM n (zWf b f g)) = some r := by
  unfold k135_0
  refine (zr_iload (v := enc l1) rfl (enc_lt _)).trans ?_
  refine (zr_pshi 1900 rfl).trans ?_
  by_cases c1 : l1 < 1900
  · rw [if_pos c1] at k
    exact (zr_icmp_lt_t (zl1) ((by unfold zR; omega)) c1).trans k
  · rw [if_neg c1] at k
    refine (zr_icmp_lt_n (zl1) ((by unfold zR; omega)) (Int.not_lt.mp c1)).trans ?_
    refine (zr_iload (v := enc l1) rfl (enc_lt _)).trans ?_
    refine (zr_pshi 2100 rfl).trans ?_
    by_cases c2 : 2100 < l1
    · rw [if_pos c2] at k
      refine (zr_icmp_le_n (zl1) ((by unfold zR; omega)) c2).trans ?_
      exact k
    · rw [if_neg c2] at k
      exact (zr_icmp_le_t (zl1) ((by unfold zR; omega)) (Int.not_lt.mp c2)).trans k
theorem zs_136_29 (h : zOk b n f) {l1 : Int} (zl1 : zR l1) (k : some (137438953473, (zM n (zWf b f g))) = some r) : k136_29 V ST d (zCl AL V ST ex_km d) (zRn AL V ST ex_km d kt_136) (zP [zf b 0, enc l1]) [] (zM n (zWf b f g)) = some r := by
  unfold k136_29
  exact zr_return.trans k
theorem zs_136_21 (h : zOk b n f) {l1 : Int} (zl1 : zR l1) (k : (if 14 ≤ d then some (549755813889, zM n (zWf b (zbump f) g)) else none) = some r) : k136_21 V ST d (zCl AL V ST ex_km d) (zRn AL V ST ex_km d kt_136) (zP [zf b 0, enc l1]) [] (zM n (zWf b f g)) = some r := by
  unfold k136_21
  by_cases c1 : 14 ≤ d
  · rw [if_pos c1] at k
    exact (zr_newx h c1 (zA_nil) (by decide)).trans k
  · rw [if_neg c1] at k; cases k
theorem zs_136_0 (h : zOk b n f) {l1 : Int} (zl1 : zR l1) (k : (if l1 < 0 then zRn AL V ST ex_km d kt_136 21 (zP [zf b 0, enc l1]) [] (zM n (zWf b f g)) else (if l1 < nz (g 187 3) then (if l1 < 16 then zRn AL V ST ex_km d kt_136 29 (zP [zf b 0, enc l1]) [] (zM n (zWf b f g)) else k136_21 V ST d (zCl AL V ST ex_km d) (zRn AL V ST ex_km d kt_136) (zP [zf b 0, enc l1]) [] (zM n (zWf b f g))) else zRn AL V ST ex_km d kt_136 21 (zP [zf b 0, enc l1]) [] (zM n (zWf b f g)))) = some r) : k136_0 V ST d (zCl AL V ST ex_km d) (zRn AL V ST ex_km d kt_136) (zP [zf b 0, enc l1]) [] (zM n (zWf b f g)) = some r := by
  unfold k136_0
  refine (zr_iload (v := enc l1) rfl (enc_lt _)).trans ?_
  by_cases c1 : l1 < 0
  · rw [if_pos c1] at k
    exact (zr_if_lt_t (zl1) c1).trans k
  · rw [if_neg c1] at k
    refine (zr_if_lt_n (zl1) (Int.not_lt.mp c1)).trans ?_
    refine (zr_iload (v := enc l1) rfl (enc_lt _)).trans ?_
    refine (zr_aload (v := zf b 0) rfl (zf_tA h _)).trans ?_
    refine (zr_gfr h (tr_hall_party rfl)).trans ?_
    refine (zr_gfi h (ti_party_couples rfl)).trans ?_
    by_cases c2 : l1 < nz (g 187 3)
    · rw [if_pos c2] at k
      refine (zr_icmp_ge_n (zl1) (nz_R _) c2).trans ?_
      refine (zr_iload (v := enc l1) rfl (enc_lt _)).trans ?_
      refine (zr_pshi 16 rfl).trans ?_
      by_cases c3 : l1 < 16
      · rw [if_pos c3] at k
        exact (zr_icmp_lt_t (zl1) ((by unfold zR; omega)) c3).trans k
      · rw [if_neg c3] at k
        refine (zr_icmp_lt_n (zl1) ((by unfold zR; omega)) (Int.not_lt.mp c3)).trans ?_
        exact k
    · rw [if_neg c2] at k
      exact (zr_icmp_ge_t (zl1) (nz_R _) (Int.not_lt.mp c2)).trans k
theorem zs_137_8 (h : zOk b n f) {l1 : Int} {s0 : Int} (zl1 : zR l1) (zs0 : zR s0) (k : some (enc s0, (zM n (zWf b f g))) = some r) : k137_8 V ST d (zCl AL V ST ex_km d) (zRn AL V ST ex_km d kt_137) (zP [zf b 0, enc l1]) [enc s0] (zM n (zWf b f g)) = some r := by
  unfold k137_8
  exact zr_ireturn.trans k
theorem zs_137_0 (h : zOk b n f) {l1 : Int} (zl1 : zR l1) (k : zTh (zCl AL V ST ex_km d 141 [zf b 0, (17179869184 + 20), enc l1] (zM n (zWf b f g))) (zM n (zWf b f g)) [] (fun S M => k137_8 V ST d (zCl AL V ST ex_km d) (zRn AL V ST ex_km d kt_137) (zP [zf b 0, enc l1]) S M) = some r) : k137_0 V ST d (zCl AL V ST ex_km d) (zRn AL V ST ex_km d kt_137) (zP [zf b 0, enc l1]) [] (zM n (zWf b f g)) = some r := by
  unfold k137_0
  refine (zr_aload (v := zf b 0) rfl (zf_tA h _)).trans ?_
  refine (zr_psh).trans ?_
  refine (zr_iload (v := enc l1) rfl (enc_lt _)).trans ?_
  refine zr_invV h [enc l1, (17179869184 + 20)] rfl (tk_hall rfl) (zA_cons (enc_l _) (zA_cons ((by decide)) zA_nil)) (zA_nil) (by decide) ?_
  exact k
theorem zs_138_7 (h : zOk b n f) {l1 : Int} {s0 : Int} (zl1 : zR l1) (zs0 : zR s0) (k : some (enc s0, (zM n (zWf b f g))) = some r) : k138_7 V ST d (zCl AL V ST ex_km d) (zRn AL V ST ex_km d kt_138) (zP [zf b 0, enc l1]) [enc s0] (zM n (zWf b f g)) = some r := by
  unfold k138_7
  exact zr_ireturn.trans k
theorem zs_138_0 (h : zOk b n f) {l1 : Int} (zl1 : zR l1) (k : zTh (zCl AL V ST ex_km d 141 [zf b 0, (17179869184 + 18), enc l1] (zM n (zWf b f g))) (zM n (zWf b f g)) [] (fun S M => k138_7 V ST d (zCl AL V ST ex_km d) (zRn AL V ST ex_km d kt_138) (zP [zf b 0, enc l1]) S M) = some r) : k138_0 V ST d (zCl AL V ST ex_km d) (zRn AL V ST ex_km d kt_138) (zP [zf b 0, enc l1]) [] (zM n (zWf b f g)) = some r := by
  unfold k138_0
  refine (zr_aload (v := zf b 0) rfl (zf_tA h _)).trans ?_
  refine (zr_psh).trans ?_
  refine (zr_iload (v := enc l1) rfl (enc_lt _)).trans ?_
  refine zr_invV h [enc l1, (17179869184 + 18)] rfl (tk_hall rfl) (zA_cons (enc_l _) (zA_cons ((by decide)) zA_nil)) (zA_nil) (by decide) ?_
  exact k
theorem zs_139_8 (h : zOk b n f) {l1 : Int} {s0 : Int} (zl1 : zR l1) (zs0 : zR s0) (k : some (enc s0, (zM n (zWf b f g))) = some r) : k139_8 V ST d (zCl AL V ST ex_km d) (zRn AL V ST ex_km d kt_139) (zP [zf b 0, enc l1]) [enc s0] (zM n (zWf b f g)) = some r := by
  unfold k139_8
  exact zr_ireturn.trans k
theorem zs_139_0 (h : zOk b n f) {l1 : Int} (zl1 : zR l1) (k : zTh (zCl AL V ST ex_km d 141 [zf b 0, (17179869184 + 14), enc l1] (zM n (zWf b f g))) (zM n (zWf b f g)) [] (fun S M => k139_8 V ST d (zCl AL V ST ex_km d) (zRn AL V ST ex_km d kt_139) (zP [zf b 0, enc l1]) S M) = some r) : k139_0 V ST d (zCl AL V ST ex_km d) (zRn AL V ST ex_km d kt_139) (zP [zf b 0, enc l1]) [] (zM n (zWf b f g)) = some r := by
  unfold k139_0
  refine (zr_aload (v := zf b 0) rfl (zf_tA h _)).trans ?_
  refine (zr_psh).trans ?_
  refine (zr_iload (v := enc l1) rfl (enc_lt _)).trans ?_
  refine zr_invV h [enc l1, (17179869184 + 14)] rfl (tk_hall rfl) (zA_cons (enc_l _) (zA_cons ((by decide)) zA_nil)) (zA_nil) (by decide) ?_
  exact k
theorem zs_140_8 (h : zOk b n f) {l1 : Int} {s0 : Int} (zl1 : zR l1) (zs0 : zR s0) (k : some (enc s0, (zM n (zWf b f g))) = some r) : k140_8 V ST d (zCl AL V ST ex_km d) (zRn AL V ST ex_km d kt_140) (zP [zf b 0, enc l1]) [enc s0] (zM n (zWf b f g)) = some r := by
  unfold k140_8
  exact zr_ireturn.trans k
theorem zs_140_0 (h : zOk b n f) {l1 : Int} (zl1 : zR l1) (k : zTh (zCl AL V ST ex_km d 141 [zf b 0, (17179869184 + 16), enc l1] (zM n (zWf b f g))) (zM n (zWf b f g)) [] (fun S M => k140_8 V ST d (zCl AL V ST ex_km d) (zRn AL V ST ex_km d kt_140) (zP [zf b 0, enc l1]) S M) = some r) : k140_0 V ST d (zCl AL V ST ex_km d) (zRn AL V ST ex_km d kt_140) (zP [zf b 0, enc l1]) [] (zM n (zWf b f g)) = some r := by
  unfold k140_0
  refine (zr_aload (v := zf b 0) rfl (zf_tA h _)).trans ?_
  refine (zr_psh).trans ?_
  refine (zr_iload (v := enc l1) rfl (enc_lt _)).trans ?_
  refine zr_invV h [enc l1, (17179869184 + 16)] rfl (tk_hall rfl) (zA_cons (enc_l _) (zA_cons ((by decide)) zA_nil)) (zA_nil) (by decide) ?_
  exact k
theorem zs_143_112 (h : zOk b n f) {l1 : Nat} {l2 : Int} {l3 : Int} {l4 : Int} (zl1 : zI_plan l1) (zl2 : zR l2) (zl3 : zR l3) (zl4 : zR l4) (k : some (137438953473, (zM n (zWf b f g))) = some r) : k143_112 V ST d (zCl AL V ST ex_km d) (zRn AL V ST ex_km d kt_143) (zP [zf b 0, zf b l1, enc l2, enc l3, enc l4]) [] (zM n (zWf b f g)) = some r := by
  unfold k143_112
  exact zr_return.trans k
theorem zs_143_92 (h : zOk b n f) {l1 : Nat} {l2 : Int} {l3 : Int} {l4 : Int} (zl1 : zI_plan l1) (zl2 : zR l2) (zl3 : zR l3) (zl4 : zR l4) (k : (if nz (g 237 2) = 45 then zRn AL V ST ex_km d kt_143 112 (zP [zf b 0, zf b l1, enc l2, enc l3, enc l4]) [] (zM n (zWf b f g)) else (if 14 ≤ d then some (549755813891, zM n (zWf b (zbump f) g)) else none)) = some r) : k143_92 V ST d (zCl AL V ST ex_km d) (zRn AL V ST ex_km d kt_143) (zP [zf b 0, zf b l1, enc l2, enc l3, enc l4]) [] (zM n (zWf b f g)) = some r := by
  unfold k143_92
  refine (zr_aload (v := zf b 0) rfl (zf_tA h _)).trans ?_
  refine (zr_gfr h (tr_hall_tally rfl)).trans ?_
  refine (zr_gfi h (ti_tally_reason rfl)).trans ?_
  refine (zr_pshi 45 rfl).trans ?_
  by_cases c1 : nz (g 237 2) = 45
  · rw [if_pos c1] at k
    exact (zr_icmp_eq_t (nz_R _) ((by unfold zR; omega)) c1).trans k
  · rw [if_neg c1] at k
    refine (zr_icmp_eq_n (nz_R _) ((by unfold zR; omega)) c1).trans ?_
    by_cases c2 : 14 ≤ d
    · rw [if_pos c2] at k
      exact (zr_newx h c2 (zA_nil) (by decide)).trans k
    · rw [if_neg c2] at k; cases k
theorem zs_143_75 (h : zOk b n f) {l1 : Nat} {l2 : Int} {l3 : Int} {l4 : Int} {s0 : Int} (zl1 : zI_plan l1) (zl2 : zR l2) (zl3 : zR l3) (zl4 : zR l4) (zs0 : zR s0) (k : (if 0 ≤ s0 ∧ s0 < 65536 then k143_92 V ST d (zCl AL V ST ex_km d) (zRn AL V ST ex_km d kt_143) (zP [zf b 0, zf b l1, enc l2, enc l3, enc l4]) [] (zM n (zWf b f (upd (upd g 237 2 s0) 237 3 (nz ((upd g 237 2 s0) 15 7))))) else none) = some r) : k143_75 V ST d (zCl AL V ST ex_km d) (zRn AL V ST ex_km d kt_143) (zP [zf b 0, zf b l1, enc l2, enc l3, enc l4]) [enc s0, zf b 237] (zM n (zWf b f g)) = some r := by
  unfold k143_75
  by_cases c1 : 0 ≤ s0 ∧ s0 < 65536
  · rw [if_pos c1] at k
    refine (zr_pfc h (ti_tally_reason rfl) c1).trans ?_
    refine (zr_aload (v := zf b 0) rfl (zf_tA h _)).trans ?_
    refine (zr_gfr h (tr_hall_tally rfl)).trans ?_
    refine (zr_aload (v := zf b 0) rfl (zf_tA h _)).trans ?_
    refine (zr_gfr h (tr_hall_stage rfl)).trans ?_
    refine (zr_gfi h (ti_stage_culprit rfl)).trans ?_
    refine (zr_pfi h (ti_tally_culprit rfl)).trans ?_
    exact k
  · rw [if_neg c1] at k; cases k
theorem zs_143_60 (h : zOk b n f) {l1 : Nat} {l2 : Int} {l3 : Int} {l4 : Int} (zl1 : zI_plan l1) (zl2 : zR l2) (zl3 : zR l3) (zl4 : zR l4) (k : zTh (zCl AL V ST ex_km d 59 [zf b 15, zf b l1, enc l3, enc l4] (zM n (zWf b f g))) (zM n (zWf b f g)) [zf b 237] (fun S M => k143_75 V ST d (zCl AL V ST ex_km d) (zRn AL V ST ex_km d kt_143) (zP [zf b 0, zf b l1, enc l2, enc l3, enc l4]) S M) = some r) : k143_60 V ST d (zCl AL V ST ex_km d) (zRn AL V ST ex_km d kt_143) (zP [zf b 0, zf b l1, enc l2, enc l3, enc l4]) [] (zM n (zWf b f g)) = some r := by
  unfold k143_60
  refine (zr_aload (v := zf b 0) rfl (zf_tA h _)).trans ?_
  refine (zr_gfr h (tr_hall_tally rfl)).trans ?_
  refine (zr_aload (v := zf b 0) rfl (zf_tA h _)).trans ?_
  refine (zr_gfr h (tr_hall_stage rfl)).trans ?_
  refine (zr_aload (v := zf b l1) rfl (zf_tA h _)).trans ?_
  refine (zr_iload (v := enc l3) rfl (enc_lt _)).trans ?_
  refine (zr_iload (v := enc l4) rfl (enc_lt _)).trans ?_
  refine zr_invV h [enc l4, enc l3, zf b l1] rfl (tk_stage rfl) (zA_cons (enc_l _) (zA_cons (enc_l _) (zA_cons (zf_l h _) zA_nil))) (zA_cons (zf_l h _) zA_nil) (by decide) ?_
  exact k
theorem zs_143_44 (h : zOk b n f) {l1 : Nat} {l2 : Int} {l3 : Int} {l4 : Int} (zl1 : zI_plan l1) (zl2 : zR l2) (zl3 : zR l3) (zl4 : zR l4) (k : (if l2 = 0 then zRn AL V ST ex_km d kt_143 92 (zP [zf b 0, zf b l1, enc l2, enc l3, enc l4]) [] (zM n (zWf b f (upd g 237 2 102))) else zRn AL V ST ex_km d kt_143 60 (zP [zf b 0, zf b l1, enc l2, enc l3, enc l4]) [] (zM n (zWf b f g))) = some r) : k143_44 V ST d (zCl AL V ST ex_km d) (zRn AL V ST ex_km d kt_143) (zP [zf b 0, zf b l1, enc l2, enc l3, enc l4]) [] (zM n (zWf b f g)) = some r := by
  unfold k143_44
  refine (zr_iload (v := enc l2) rfl (enc_lt _)).trans ?_
  by_cases c1 : l2 = 0
  · rw [if_pos c1] at k
    refine (zr_if_ne_n (zl2) c1).trans ?_
    refine (zr_aload (v := zf b 0) rfl (zf_tA h _)).trans ?_
    refine (zr_gfr h (tr_hall_tally rfl)).trans ?_
    refine (zr_pshi 102 rfl).trans ?_
    refine (zr_pfc h (ti_tally_reason rfl) (by decide)).trans ?_
    exact (zr_goto).trans k
  · rw [if_neg c1] at k
    exact (zr_if_ne_t (zl2) c1).trans k
theorem zs_143_0 (h : zOk b n f) {l1 : Nat} {l2 : Int} {l3 : Int} {l4 : Int} (zl1 : zI_plan l1) (zl2 : zR l2) (zl3 : zR l3) (zl4 : zR l4) (k : (if nz ((upd (upd g 237 0 (nz ((nz (g 237 0)) + 1))) 237 3 (-1)) 0 17) < nz ((upd (upd g 237 0 (nz ((nz (g 237 0)) + 1))) 237 3 (-1)) l1 7) then zRn AL V ST ex_km d kt_143 92 (zP [zf b 0, zf b l1, enc l2, enc l3, enc l4]) [] (zM n (zWf b f (upd (upd (upd g 237 0 (nz ((nz (g 237 0)) + 1))) 237 3 (-1)) 237 2 110))) else zRn AL V ST ex_km d kt_143 44 (zP [zf b 0, zf b l1, enc l2, enc l3, enc l4]) [] (zM n (zWf b f (upd (upd g 237 0 (nz ((nz (g 237 0)) + 1))) 237 3 (-1))))) = some r) : k143_0 V ST d (zCl AL V ST ex_km d) (zRn AL V ST ex_km d kt_143) (zP [zf b 0, zf b l1, enc l2, enc l3, enc l4]) [] (zM n (zWf b f g)) = some r := by
  unfold k143_0
  refine (zr_aload (v := zf b 0) rfl (zf_tA h _)).trans ?_
  refine (zr_gfr h (tr_hall_tally rfl)).trans ?_
  refine (zr_dup (zf_c2 h _)).trans ?_
  refine (zr_gfi h (ti_tally_tried rfl)).trans ?_
  refine (zr_pshi 1 rfl).trans ?_
  refine (zr_iadd).trans ?_
  refine (zr_pfi h (ti_tally_tried rfl)).trans ?_
  refine (zr_aload (v := zf b 0) rfl (zf_tA h _)).trans ?_
  refine (zr_gfr h (tr_hall_tally rfl)).trans ?_
  refine (zr_pshi (-1) rfl).trans ?_
  refine (zr_pfi h (ti_tally_culprit rfl)).trans ?_
  refine (zr_aload (v := zf b l1) rfl (zf_tA h _)).trans ?_
  refine (zr_gfi h (ti_plan_highest zl1)).trans ?_
  refine (zr_aload (v := zf b 0) rfl (zf_tA h _)).trans ?_
  refine (zr_gfi h (ti_hall_levelTold rfl)).trans ?_
  by_cases c1 : nz ((upd (upd g 237 0 (nz ((nz (g 237 0)) + 1))) 237 3 (-1)) 0 17) < nz ((upd (upd g 237 0 (nz ((nz (g 237 0)) + 1))) 237 3 (-1)) l1 7)
  · rw [if_pos c1] at k
    refine (zr_icmp_le_n (nz_R _) (nz_R _) c1).trans ?_
    refine (zr_aload (v := zf b 0) rfl (zf_tA h _)).trans ?_
    refine (zr_gfr h (tr_hall_tally rfl)).trans ?_
    refine (zr_pshi 110 rfl).trans ?_
    refine (zr_pfc h (ti_tally_reason rfl) (by decide)).trans ?_
    exact (zr_goto).trans k
  · rw [if_neg c1] at k
    exact (zr_icmp_le_t (nz_R _) (nz_R _) (Int.not_lt.mp c1)).trans k
theorem zs_144_49 (h : zOk b n f) {l1 : Int} (zl1 : zR l1) (k : some (137438953473, (zM n (zWf b f g))) = some r) : k144_49 V ST d (zCl AL V ST ex_km d) (zRn AL V ST ex_km d kt_144) (zP [zf b 0, enc l1]) [] (zM n (zWf b f g)) = some r := by
  unfold k144_49
  exact zr_return.trans k
theorem zs_144_41 (h : zOk b n f) {l1 : Int} (zl1 : zR l1) (k : zTh (zCl AL V ST ex_km d 56 [zf b 186, enc l1] (zM n (zWf b f g))) (zM n (zWf b f g)) [] (fun S M => k144_49 V ST d (zCl AL V ST ex_km d) (zRn AL V ST ex_km d kt_144) (zP [zf b 0, enc l1]) S M) = some r) : k144_41 V ST d (zCl AL V ST ex_km d) (zRn AL V ST ex_km d kt_144) (zP [zf b 0, enc l1]) [] (zM n (zWf b f g)) = some r := by
  unfold k144_41
  refine (zr_aload (v := zf b 0) rfl (zf_tA h _)).trans ?_
  refine (zr_gfr h (tr_hall_song rfl)).trans ?_
  refine (zr_iload (v := enc l1) rfl (enc_lt _)).trans ?_
  refine zr_invV h [enc l1] rfl (tk_song rfl) (zA_cons (enc_l _) zA_nil) (zA_nil) (by decide) ?_
  exact k
theorem zs_144_27 (h : zOk b n f) {l1 : Int} (zl1 : zR l1) (k : zTh (zCl AL V ST ex_km d 27 [zf b 182, zf b 16] (zM n (zWf b f g))) (zM n (zWf b f g)) [] (fun S M => k144_41 V ST d (zCl AL V ST ex_km d) (zRn AL V ST ex_km d kt_144) (zP [zf b 0, enc l1]) S M) = some r) : k144_27 V ST d (zCl AL V ST ex_km d) (zRn AL V ST ex_km d kt_144) (zP [zf b 0, enc l1]) [] (zM n (zWf b f g)) = some r := by
  unfold k144_27
  refine (zr_aload (v := zf b 0) rfl (zf_tA h _)).trans ?_
  refine (zr_gfr h (tr_hall_flow rfl)).trans ?_
  refine (zr_aload (v := zf b 0) rfl (zf_tA h _)).trans ?_
  refine (zr_gfr h (tr_hall_stage rfl)).trans ?_
  refine (zr_gfr h (tr_stage_ground rfl)).trans ?_
  refine zr_invV h [zf b 16] rfl (tk_flow rfl) (zA_cons (zf_l h _) zA_nil) (zA_nil) (by decide) ?_
  exact k
theorem zs_144_0 (h : zOk b n f) {l1 : Int} (zl1 : zR l1) (k : zTh (zCl AL V ST ex_km d 43 [zf b 1, zf b 16] (zM n (zWf b f (upd g 237 1 (nz ((nz (g 237 1)) + 1)))))) (zM n (zWf b f (upd g 237 1 (nz ((nz (g 237 1)) + 1))))) [] (fun S M => k144_27 V ST d (zCl AL V ST ex_km d) (zRn AL V ST ex_km d kt_144) (zP [zf b 0, enc l1]) S M) = some r) : k144_0 V ST d (zCl AL V ST ex_km d) (zRn AL V ST ex_km d kt_144) (zP [zf b 0, enc l1]) [] (zM n (zWf b f g)) = some r := by
  unfold k144_0
  refine (zr_aload (v := zf b 0) rfl (zf_tA h _)).trans ?_
  refine (zr_gfr h (tr_hall_tally rfl)).trans ?_
  refine (zr_dup (zf_c2 h _)).trans ?_
  refine (zr_gfi h (ti_tally_danced rfl)).trans ?_
  refine (zr_pshi 1 rfl).trans ?_
  refine (zr_iadd).trans ?_
  refine (zr_pfi h (ti_tally_danced rfl)).trans ?_
  refine (zr_aload (v := zf b 0) rfl (zf_tA h _)).trans ?_
  refine (zr_gfr h (tr_hall_dancers rfl)).trans ?_
  refine (zr_aload (v := zf b 0) rfl (zf_tA h _)).trans ?_
  refine (zr_gfr h (tr_hall_stage rfl)).trans ?_
  refine (zr_gfr h (tr_stage_ground rfl)).trans ?_
  refine zr_invV h [zf b 16] rfl (tk_pl (Or.inl rfl)) (zA_cons (zf_l h _) zA_nil) (zA_nil) (by decide) ?_
  exact k
theorem zs_145_65 (h : zOk b n f) {l1 : Int} {l2 : Int} (zl1 : zR l1) (zl2 : zR l2) (k : some (137438953473, (zM n (zWf b f g))) = some r) : k145_65 V ST d (zCl AL V ST ex_km d) (zRn AL V ST ex_km d kt_145) (zP [zf b 0, enc l1, enc l2]) [] (zM n (zWf b f g)) = some r := by
  unfold k145_65
  exact zr_return.trans k
theorem zs_145_46 (h : zOk b n f) {l1 : Int} {l2 : Int} {s0 : Int} (zl1 : zR l1) (zl2 : zR l2) (zs0 : zR s0) (k : zTh (zCl AL V ST ex_km d 71 [zf b 61, zf b 16, enc l1] (zM n (zWf b f g))) (zM n (zWf b f g)) [] (fun S M => k145_65 V ST d (zCl AL V ST ex_km d) (zRn AL V ST ex_km d kt_145) (zP [zf b 0, enc l1, enc l2]) S M) = some r) : k145_46 V ST d (zCl AL V ST ex_km d) (zRn AL V ST ex_km d kt_145) (zP [zf b 0, enc l1, enc l2]) [enc s0] (zM n (zWf b f g)) = some r := by
  unfold k145_46
  refine (zr_pop (enc_c2 _)).trans ?_
  refine (zr_aload (v := zf b 0) rfl (zf_tA h _)).trans ?_
  refine (zr_gfr h (tr_hall_stage rfl)).trans ?_
  refine (zr_gfr h (tr_stage_steps rfl)).trans ?_
  refine (zr_aload (v := zf b 0) rfl (zf_tA h _)).trans ?_
  refine (zr_gfr h (tr_hall_stage rfl)).trans ?_
  refine (zr_gfr h (tr_stage_ground rfl)).trans ?_
  refine (zr_iload (v := enc l1) rfl (enc_lt _)).trans ?_
  refine zr_invV h [enc l1, zf b 16] rfl (tk_st rfl) (zA_cons (enc_l _) (zA_cons (zf_l h _) zA_nil)) (zA_nil) (by decide) ?_
  exact k
theorem zs_145_28 (h : zOk b n f) {l1 : Int} {l2 : Int} (zl1 : zR l1) (zl2 : zR l2) (k : zTh (zCl AL V ST ex_km d 69 [zf b 61, zf b 16, enc 0] (zM n (zWf b f g))) (zM n (zWf b f g)) [] (fun S M => k145_46 V ST d (zCl AL V ST ex_km d) (zRn AL V ST ex_km d kt_145) (zP [zf b 0, enc l1, enc l2]) S M) = some r) : k145_28 V ST d (zCl AL V ST ex_km d) (zRn AL V ST ex_km d kt_145) (zP [zf b 0, enc l1, enc l2]) [] (zM n (zWf b f g)) = some r := by
  unfold k145_28
  refine (zr_aload (v := zf b 0) rfl (zf_tA h _)).trans ?_
  refine (zr_gfr h (tr_hall_stage rfl)).trans ?_
  refine (zr_gfr h (tr_stage_steps rfl)).trans ?_
  refine (zr_aload (v := zf b 0) rfl (zf_tA h _)).trans ?_
  refine (zr_gfr h (tr_hall_stage rfl)).trans ?_
  refine (zr_gfr h (tr_stage_ground rfl)).trans ?_
  refine (zr_pshi 0 rfl).trans ?_
  refine zr_invV h [enc 0, zf b 16] rfl (tk_st rfl) (zA_cons (enc_l _) (zA_cons (zf_l h _) zA_nil)) (zA_nil) (by decide) ?_
  exact k
theorem zs_145_15 (h : zOk b n f) {l1 : Int} {l2 : Int} (zl1 : zR l1) (zl2 : zR l2) (k : zTh (zCl AL V ST ex_km d 68 [zf b 61, enc l2, enc 0, enc 0] (zM n (zWf b f g))) (zM n (zWf b f g)) [] (fun S M => k145_28 V ST d (zCl AL V ST ex_km d) (zRn AL V ST ex_km d kt_145) (zP [zf b 0, enc l1, enc l2]) S M) = some r) : k145_15 V ST d (zCl AL V ST ex_km d) (zRn AL V ST ex_km d kt_145) (zP [zf b 0, enc l1, enc l2]) [] (zM n (zWf b f g)) = some r := by
  unfold k145_15
  refine (zr_aload (v := zf b 0) rfl (zf_tA h _)).trans ?_
  refine (zr_gfr h (tr_hall_stage rfl)).trans ?_
  refine (zr_gfr h (tr_stage_steps rfl)).trans ?_
  refine (zr_iload (v := enc l2) rfl (enc_lt _)).trans ?_
  refine (zr_pshi 0 rfl).trans ?_
  refine (zr_pshi 0 rfl).trans ?_
  refine zr_invV h [enc 0, enc 0, enc l2] rfl (tk_st rfl) (zA_cons (enc_l _) (zA_cons (enc_l _) (zA_cons (enc_l _) zA_nil))) (zA_nil) (by decide) ?_
  exact k
theorem zs_145_0 (h : zOk b n f) {l1 : Int} {l2 : Int} (zl1 : zR l1) (zl2 : zR l2) (k : zTh (zCl AL V ST ex_km d 58 [zf b 15, zf b 1, zf b 14] (zM n (zWf b f g))) (zM n (zWf b f g)) [] (fun S M => k145_15 V ST d (zCl AL V ST ex_km d) (zRn AL V ST ex_km d kt_145) (zP [zf b 0, enc l1, enc l2]) S M) = some r) : k145_0 V ST d (zCl AL V ST ex_km d) (zRn AL V ST ex_km d kt_145) (zP [zf b 0, enc l1, enc l2]) [] (zM n (zWf b f g)) = some r := by
  unfold k145_0
  refine (zr_aload (v := zf b 0) rfl (zf_tA h _)).trans ?_
  refine (zr_gfr h (tr_hall_stage rfl)).trans ?_
  refine (zr_aload (v := zf b 0) rfl (zf_tA h _)).trans ?_
  refine (zr_gfr h (tr_hall_dancers rfl)).trans ?_
  refine (zr_aload (v := zf b 0) rfl (zf_tA h _)).trans ?_
  refine (zr_gfr h (tr_hall_experts rfl)).trans ?_
  refine zr_invV h [zf b 14, zf b 1] rfl (tk_stage rfl) (zA_cons (zf_l h _) (zA_cons (zf_l h _) zA_nil)) (zA_nil) (by decide) ?_
  exact k
theorem zs_146_104 (h : zOk b n f) {l1 : Nat} {l2 : Int} {l3 : Int} (zl1 : zI_pl l1) (zl2 : zR l2) (zl3 : zR l3) (k : some (enc 0, (zM n (zWf b f g))) = some r) : k146_104 V ST d (zCl AL V ST ex_km d) (zRn AL V ST ex_km d kt_146) (zP [zf b 0, zf b l1, enc l2, enc l3]) [] (zM n (zWf b f g)) = some r := by
  unfold k146_104
  refine (zr_pshi 0 rfl).trans ?_
  exact (zr_breturn (by decide)).trans k
theorem zs_146_98 (h : zOk b n f) {l1 : Nat} {l2 : Int} {l3 : Int} (zl1 : zI_pl l1) (zl2 : zR l2) (zl3 : zR l3) (k : zRn AL V ST ex_km d kt_146 2 (zP [zf b 0, zf b l1, enc l2, enc (nz (l3 + 1))]) [] (zM n (zWf b f g)) = some r) : k146_98 V ST d (zCl AL V ST ex_km d) (zRn AL V ST ex_km d kt_146) (zP [zf b 0, zf b l1, enc l2, enc l3]) [] (zM n (zWf b f g)) = some r := by
  unfold k146_98
  refine (zr_iinc (w := enc l2) (x := l3) (i' := 1) (vs' := [zf b 0, zf b l1, enc l2, enc (nz (l3 + 1))]) rfl (enc_c2 _) (Nat.lt_trans (enc_lt _) (by decide)) rfl rfl (by decide) rfl).trans ?_
  exact (zr_goto).trans k
theorem zs_146_86 (h : zOk b n f) {l1 : Nat} {l2 : Int} {l3 : Int} {s0 : Int} (zl1 : zI_pl l1) (zl2 : zR l2) (zl3 : zR l3) (zs0 : zR s0) (k : (if s0 = 0 then zRn AL V ST ex_km d kt_146 98 (zP [zf b 0, zf b l1, enc l2, enc l3]) [] (zM n (zWf b f g)) else (if 0 ≤ l2 ∧ l2 < 2 then some (enc 1, (zM n (zWf b f (upd g 239 l2 l3)))) else none)) = some r) : k146_86 V ST d (zCl AL V ST ex_km d) (zRn AL V ST ex_km d kt_146) (zP [zf b 0, zf b l1, enc l2, enc l3]) [enc s0] (zM n (zWf b f g)) = some r := by
  unfold k146_86
  by_cases c1 : s0 = 0
  · rw [if_pos c1] at k
    exact (zr_if_eq_t (zs0) c1).trans k
  · rw [if_neg c1] at k
    refine (zr_if_eq_n (zs0) c1).trans ?_
    refine (zr_aload (v := zf b 0) rfl (zf_tA h _)).trans ?_
    refine (zr_gfr h (tr_hall_way rfl)).trans ?_
    refine (zr_iload (v := enc l2) rfl (enc_lt _)).trans ?_
    refine (zr_iload (v := enc l3) rfl (enc_lt _)).trans ?_
    by_cases c2 : 0 ≤ l2 ∧ l2 < 2
    · rw [if_pos c2] at k
      refine (zr_iast h (ta_hall_way rfl) c2.1 (by have := c2.2; omega)).trans ?_
      refine (zr_pshi 1 rfl).trans ?_
      exact (zr_breturn (by decide)).trans k
    · rw [if_neg c2] at k; cases k
theorem zs_146_47 (h : zOk b n f) {l1 : Nat} {l2 : Int} {l3 : Int} {s0 : Int} (zl1 : zI_pl l1) (zl2 : zR l2) (zl3 : zR l3) (zs0 : zR s0) (k : (if s0 = 45 then zTh (zCl AL V ST ex_km d 152 [zf b 0, zf b (16 + 1), zf b (16 + 2), zf b (16 + 3)] (zM n (zWf b f g))) (zM n (zWf b f g)) [] (fun S M => k146_86 V ST d (zCl AL V ST ex_km d) (zRn AL V ST ex_km d kt_146) (zP [zf b 0, zf b l1, enc l2, enc l3]) S M) else zRn AL V ST ex_km d kt_146 98 (zP [zf b 0, zf b l1, enc l2, enc l3]) [] (zM n (zWf b f g))) = some r) : k146_47 V ST d (zCl AL V ST ex_km d) (zRn AL V ST ex_km d kt_146) (zP [zf b 0, zf b l1, enc l2, enc l3]) [enc s0] (zM n (zWf b f g)) = some r := by
  unfold k146_47
  refine (zr_pshi 45 rfl).trans ?_
  by_cases c1 : s0 = 45
  · rw [if_pos c1] at k
    refine (zr_icmp_ne_n (zs0) ((by unfold zR; omega)) c1).trans ?_
    refine (zr_aload (v := zf b 0) rfl (zf_tA h _)).trans ?_
    refine (zr_aload (v := zf b 0) rfl (zf_tA h _)).trans ?_
    refine (zr_gfr h (tr_hall_stage rfl)).trans ?_
    refine (zr_gfr h (tr_stage_ground rfl)).trans ?_
    refine (zr_gfr h (tr_fl_x (Or.inl rfl))).trans ?_
    refine (zr_aload (v := zf b 0) rfl (zf_tA h _)).trans ?_
    refine (zr_gfr h (tr_hall_stage rfl)).trans ?_
    refine (zr_gfr h (tr_stage_ground rfl)).trans ?_
    refine (zr_gfr h (tr_fl_y (Or.inl rfl))).trans ?_
    refine (zr_aload (v := zf b 0) rfl (zf_tA h _)).trans ?_
    refine (zr_gfr h (tr_hall_stage rfl)).trans ?_
    refine (zr_gfr h (tr_stage_ground rfl)).trans ?_
    refine (zr_gfr h (tr_fl_f (Or.inl rfl))).trans ?_
    refine zr_invV h [zf b (16 + 3), zf b (16 + 2), zf b (16 + 1)] rfl (tk_hall rfl) (zA_cons (zf_l h _) (zA_cons (zf_l h _) (zA_cons (zf_l h _) zA_nil))) (zA_nil) (by decide) ?_
    exact k
  · rw [if_neg c1] at k
    exact (zr_icmp_ne_t (zs0) ((by unfold zR; omega)) c1).trans k
theorem zs_146_28 (h : zOk b n f) {l1 : Nat} {l2 : Int} {l3 : Int} (zl1 : zI_pl l1) (zl2 : zR l2) (zl3 : zR l3) (k : zTh (zCl AL V ST ex_km d 59 [zf b 15, zf b 151, enc (nz (g 151 5)), enc 0] (zM n (zWf b f g))) (zM n (zWf b f g)) [] (fun S M => k146_47 V ST d (zCl AL V ST ex_km d) (zRn AL V ST ex_km d kt_146) (zP [zf b 0, zf b l1, enc l2, enc l3]) S M) = some r) : k146_28 V ST d (zCl AL V ST ex_km d) (zRn AL V ST ex_km d kt_146) (zP [zf b 0, zf b l1, enc l2, enc l3]) [] (zM n (zWf b f g)) = some r := by
  unfold k146_28
  refine (zr_aload (v := zf b 0) rfl (zf_tA h _)).trans ?_
  refine (zr_gfr h (tr_hall_stage rfl)).trans ?_
  refine (zr_aload (v := zf b 0) rfl (zf_tA h _)).trans ?_
  refine (zr_gfr h (tr_hall_plan rfl)).trans ?_
  refine (zr_aload (v := zf b 0) rfl (zf_tA h _)).trans ?_
  refine (zr_gfr h (tr_hall_plan rfl)).trans ?_
  refine (zr_gfi h (ti_plan_partCount (Or.inl rfl))).trans ?_
  refine (zr_pshi 0 rfl).trans ?_
  refine zr_invV h [enc 0, enc (nz (g 151 5)), zf b 151] rfl (tk_stage rfl) (zA_cons (enc_l _) (zA_cons (enc_l _) (zA_cons (zf_l h _) zA_nil))) (zA_nil) (by decide) ?_
  exact k
theorem zs_146_16 (h : zOk b n f) {l1 : Nat} {l2 : Int} {l3 : Int} (zl1 : zI_pl l1) (zl2 : zR l2) (zl3 : zR l3) (k : zTh (zCl AL V ST ex_km d 58 [zf b 15, zf b l1, zf b 14] (zM n (zWf b f g))) (zM n (zWf b f g)) [] (fun S M => k146_28 V ST d (zCl AL V ST ex_km d) (zRn AL V ST ex_km d kt_146) (zP [zf b 0, zf b l1, enc l2, enc l3]) S M) = some r) : k146_16 V ST d (zCl AL V ST ex_km d) (zRn AL V ST ex_km d kt_146) (zP [zf b 0, zf b l1, enc l2, enc l3]) [] (zM n (zWf b f g)) = some r := by
  unfold k146_16
  refine (zr_aload (v := zf b 0) rfl (zf_tA h _)).trans ?_
  refine (zr_gfr h (tr_hall_stage rfl)).trans ?_
  refine (zr_aload (v := zf b l1) rfl (zf_tA h _)).trans ?_
  refine (zr_aload (v := zf b 0) rfl (zf_tA h _)).trans ?_
  refine (zr_gfr h (tr_hall_experts rfl)).trans ?_
  refine zr_invV h [zf b 14, zf b l1] rfl (tk_stage rfl) (zA_cons (zf_l h _) (zA_cons (zf_l h _) zA_nil)) (zA_nil) (by decide) ?_
  exact k
theorem zs_146_2 (h : zOk b n f) {l1 : Nat} {l2 : Int} {l3 : Int} (zl1 : zI_pl l1) (zl2 : zR l2) (zl3 : zR l3) (k : (if l3 < 12 then zTh (zCl AL V ST ex_km d 48 [zf b 151, enc l3] (zM n (zWf b f g))) (zM n (zWf b f g)) [] (fun S M => k146_16 V ST d (zCl AL V ST ex_km d) (zRn AL V ST ex_km d kt_146) (zP [zf b 0, zf b l1, enc l2, enc l3]) S M) else zRn AL V ST ex_km d kt_146 104 (zP [zf b 0, zf b l1, enc l2, enc l3]) [] (zM n (zWf b f g))) = some r) : k146_2 V ST d (zCl AL V ST ex_km d) (zRn AL V ST ex_km d kt_146) (zP [zf b 0, zf b l1, enc l2, enc l3]) [] (zM n (zWf b f g)) = some r := by
  unfold k146_2
  refine (zr_iload (v := enc l3) rfl (enc_lt _)).trans ?_
  refine (zr_pshi 12 rfl).trans ?_
  by_cases c1 : l3 < 12
  · rw [if_pos c1] at k
    refine (zr_icmp_ge_n (zl3) ((by unfold zR; omega)) c1).trans ?_
    refine (zr_aload (v := zf b 0) rfl (zf_tA h _)).trans ?_
    refine (zr_gfr h (tr_hall_plan rfl)).trans ?_
    refine (zr_iload (v := enc l3) rfl (enc_lt _)).trans ?_
    refine zr_invV h [enc l3] rfl (tk_plan (Or.inl rfl)) (zA_cons (enc_l _) zA_nil) (zA_nil) (by decide) ?_
    exact k
  · rw [if_neg c1] at k
    exact (zr_icmp_ge_t (zl3) ((by unfold zR; omega)) (Int.not_lt.mp c1)).trans k
theorem zs_146_0 (h : zOk b n f) {l1 : Nat} {l2 : Int} (zl1 : zI_pl l1) (zl2 : zR l2) (k : k146_2 V ST d (zCl AL V ST ex_km d) (zRn AL V ST ex_km d kt_146) (zP [zf b 0, zf b l1, enc l2, enc 0]) [] (zM n (zWf b f g)) = some r) : k146_0 V ST d (zCl AL V ST ex_km d) (zRn AL V ST ex_km d kt_146) (zP [zf b 0, zf b l1, enc l2, 137438953472]) [] (zM n (zWf b f g)) = some r := by
  unfold k146_0
  refine (zr_pshi 0 rfl).trans ?_
  refine (zr_istore (w := enc l2) (vs' := [zf b 0, zf b l1, enc l2, enc 0]) rfl (enc_c2 _) (Nat.lt_trans (enc_lt _) (by decide)) (by decide) rfl (enc_lt _)).trans ?_
  exact k
theorem zs_147_287 (h : zOk b n f) {l1 : Int} {l2 : Int} {l3 : Int} {l4 : Int} {s0 : Int} (zl1 : zR l1) (zl2 : zR l2) (zl3 : zR l3) (zl4 : zR l4) (zs0 : zR s0) (k : (if s0 = 0 ∨ s0 = 1 then some (enc s0, (zM n (zWf b f g))) else none) = some r) : k147_287 V ST d (zCl AL V ST ex_km d) (zRn AL V ST ex_km d kt_147) (zP [zf b 0, enc l1, enc l2, enc l3, enc l4]) [enc s0] (zM n (zWf b f g)) = some r := by
  unfold k147_287
  by_cases c1 : s0 = 0 ∨ s0 = 1
  · rw [if_pos c1] at k
    exact (zr_breturn c1).trans k
  · rw [if_neg c1] at k; cases k
theorem zs_147_286 (h : zOk b n f) {l1 : Int} {l2 : Int} {l3 : Int} {l4 : Int} (zl1 : zR l1) (zl2 : zR l2) (zl3 : zR l3) (zl4 : zR l4) (k : k147_287 V ST d (zCl AL V ST ex_km d) (zRn AL V ST ex_km d kt_147) (zP [zf b 0, enc l1, enc l2, enc l3, enc l4]) [enc 0] (zM n (zWf b f g)) = some r) : k147_286 V ST d (zCl AL V ST ex_km d) (zRn AL V ST ex_km d kt_147) (zP [zf b 0, enc l1, enc l2, enc l3, enc l4]) [] (zM n (zWf b f g)) = some r := by
  unfold k147_286
  refine (zr_pshi 0 rfl).trans ?_
  exact k
theorem zs_147_274 (h : zOk b n f) {l1 : Int} {l2 : Int} {l3 : Int} {l4 : Int} (zl1 : zR l1) (zl2 : zR l2) (zl3 : zR l3) (zl4 : zR l4) (k : (if l2 = 0 then zRn AL V ST ex_km d kt_147 286 (zP [zf b 0, enc l1, enc l2, enc l3, enc l4]) [] (zM n (zWf b f g)) else (if l3 = 0 then zRn AL V ST ex_km d kt_147 286 (zP [zf b 0, enc l1, enc l2, enc l3, enc l4]) [] (zM n (zWf b f g)) else zRn AL V ST ex_km d kt_147 287 (zP [zf b 0, enc l1, enc l2, enc l3, enc l4]) [enc 1] (zM n (zWf b f g)))) = some r) : k147_274 V ST d (zCl AL V ST ex_km d) (zRn AL V ST ex_km d kt_147) (zP [zf b 0, enc l1, enc l2, enc l3, enc l4]) [] (zM n (zWf b f g)) = some r := by
  unfold k147_274
  refine (zr_iload (v := enc l2) rfl (enc_lt _)).trans ?_
  by_cases c1 : l2 = 0
  · rw [if_pos c1] at k
    exact (zr_if_eq_t (zl2) c1).trans k
  · rw [if_neg c1] at k
    refine (zr_if_eq_n (zl2) c1).trans ?_
    refine (zr_iload (v := enc l3) rfl (enc_lt _)).trans ?_
    by_cases c2 : l3 = 0
    · rw [if_pos c2] at k
      exact (zr_if_eq_t (zl3) c2).trans k
    · rw [if_neg c2] at k
      refine (zr_if_eq_n (zl3) c2).trans ?_
      refine (zr_pshi 1 rfl).trans ?_
      exact (zr_goto).trans k
theorem zs_147_268 (h : zOk b n f) {l1 : Int} {l2 : Int} {l3 : Int} {l4 : Int} (zl1 : zR l1) (zl2 : zR l2) (zl3 : zR l3) (zl4 : zR l4) (k : zRn AL V ST ex_km d kt_147 217 (zP [zf b 0, enc l1, enc l2, enc l3, enc (nz (l4 + 1))]) [] (zM n (zWf b f g)) = some r) : k147_268 V ST d (zCl AL V ST ex_km d) (zRn AL V ST ex_km d kt_147) (zP [zf b 0, enc l1, enc l2, enc l3, enc l4]) [] (zM n (zWf b f g)) = some r := by
  unfold k147_268
  refine (zr_iinc (w := enc l3) (x := l4) (i' := 1) (vs' := [zf b 0, enc l1, enc l2, enc l3, enc (nz (l4 + 1))]) rfl (enc_c2 _) (Nat.lt_trans (enc_lt _) (by decide)) rfl rfl (by decide) rfl).trans ?_
  exact (zr_goto).trans k
theorem zs_147_266 (h : zOk b n f) {l1 : Int} {l2 : Int} {l3 : Int} {l4 : Int} (zl1 : zR l1) (zl2 : zR l2) (zl3 : zR l3) (zl4 : zR l4) (k : some (enc 0, (zM n (zWf b f g))) = some r) : k147_266 V ST d (zCl AL V ST ex_km d) (zRn AL V ST ex_km d kt_147) (zP [zf b 0, enc l1, enc l2, enc l3, enc l4]) [] (zM n (zWf b f g)) = some r := by
  unfold k147_266
  refine (zr_pshi 0 rfl).trans ?_
  exact (zr_breturn (by decide)).trans k
theorem zs_147_263 (h : zOk b n f) {l1 : Int} {l2 : Int} {l3 : Int} {l4 : Int} {s0 : Int} (zl1 : zR l1) (zl2 : zR l2) (zl3 : zR l3) (zl4 : zR l4) (zs0 : zR s0) (k : (if s0 = 0 then k147_266 V ST d (zCl AL V ST ex_km d) (zRn AL V ST ex_km d kt_147) (zP [zf b 0, enc l1, enc l2, enc l3, enc l4]) [] (zM n (zWf b f g)) else zRn AL V ST ex_km d kt_147 268 (zP [zf b 0, enc l1, enc l2, enc l3, enc l4]) [] (zM n (zWf b f g))) = some r) : k147_263 V ST d (zCl AL V ST ex_km d) (zRn AL V ST ex_km d kt_147) (zP [zf b 0, enc l1, enc l2, enc l3, enc l4]) [enc s0] (zM n (zWf b f g)) = some r := by
  unfold k147_263
  by_cases c1 : s0 = 0
  · rw [if_pos c1] at k
    refine (zr_if_ne_n (zs0) c1).trans ?_
    exact k
  · rw [if_neg c1] at k
    exact (zr_if_ne_t (zs0) c1).trans k
theorem zs_147_217 (h : zOk b n f) {l1 : Int} {l2 : Int} {l3 : Int} {l4 : Int} (zl1 : zR l1) (zl2 : zR l2) (zl3 : zR l3) (zl4 : zR l4) (k : (if l4 < 8 then (if 0 ≤ l4 ∧ l4 < 8 then (if 0 ≤ l4 ∧ l4 < 16 then (if nz (g 238 l4) = nz (g (16 + 9) l4) then zTh (zCl AL V ST ex_km d 44 [zf b 9, enc l4, zf b 16] (zM n (zWf b f g))) (zM n (zWf b f g)) [] (fun S M => k147_263 V ST d (zCl AL V ST ex_km d) (zRn AL V ST ex_km d kt_147) (zP [zf b 0, enc l1, enc l2, enc l3, enc l4]) S M) else zRn AL V ST ex_km d kt_147 266 (zP [zf b 0, enc l1, enc l2, enc l3, enc l4]) [] (zM n (zWf b f g))) else none) else none) else zRn AL V ST ex_km d kt_147 274 (zP [zf b 0, enc l1, enc l2, enc l3, enc l4]) [] (zM n (zWf b f g))) = some r) : k147_217 V ST d (zCl AL V ST ex_km d) (zRn AL V ST ex_km d kt_147) (zP [zf b 0, enc l1, enc l2, enc l3, enc l4]) [] (zM n (zWf b f g)) = some r := by
  unfold k147_217
  refine (zr_iload (v := enc l4) rfl (enc_lt _)).trans ?_
  refine (zr_pshi 8 rfl).trans ?_
  by_cases c1 : l4 < 8
  · rw [if_pos c1] at k
    refine (zr_icmp_ge_n (zl4) ((by unfold zR; omega)) c1).trans ?_
    refine (zr_aload (v := zf b 0) rfl (zf_tA h _)).trans ?_
    refine (zr_gfr h (tr_hall_turnsAhead rfl)).trans ?_
    refine (zr_iload (v := enc l4) rfl (enc_lt _)).trans ?_
    by_cases c2 : 0 ≤ l4 ∧ l4 < 8
    · rw [if_pos c2] at k
      refine (zr_iald h (ta_hall_turnsAhead rfl) c2.1 (by have := c2.2; omega)).trans ?_
      refine (zr_aload (v := zf b 0) rfl (zf_tA h _)).trans ?_
      refine (zr_gfr h (tr_hall_stage rfl)).trans ?_
      refine (zr_gfr h (tr_stage_ground rfl)).trans ?_
      refine (zr_gfr h (tr_fl_turns (Or.inl rfl))).trans ?_
      refine (zr_iload (v := enc l4) rfl (enc_lt _)).trans ?_
      by_cases c3 : 0 ≤ l4 ∧ l4 < 16
      · rw [if_pos c3] at k
        refine (zr_iald h (ta_fl_turns (Or.inl rfl)) c3.1 (by have := c3.2; omega)).trans ?_
        by_cases c4 : nz (g 238 l4) = nz (g (16 + 9) l4)
        · rw [if_pos c4] at k
          refine (zr_icmp_ne_n (nz_R _) (nz_R _) c4).trans ?_
          refine (zr_aload (v := zf b 0) rfl (zf_tA h _)).trans ?_
          refine (zr_gfr h (tr_hall_trial rfl)).trans ?_
          refine (zr_iload (v := enc l4) rfl (enc_lt _)).trans ?_
          refine (zr_aload (v := zf b 0) rfl (zf_tA h _)).trans ?_
          refine (zr_gfr h (tr_hall_stage rfl)).trans ?_
          refine (zr_gfr h (tr_stage_ground rfl)).trans ?_
          refine zr_invV h [zf b 16, enc l4] rfl (tk_pl (Or.inr (Or.inr rfl))) (zA_cons (zf_l h _) (zA_cons (enc_l _) zA_nil)) (zA_nil) (by decide) ?_
          exact k
        · rw [if_neg c4] at k
          exact (zr_icmp_ne_t (nz_R _) (nz_R _) c4).trans k
      · rw [if_neg c3] at k; cases k
    · rw [if_neg c2] at k; cases k
  · rw [if_neg c1] at k
    exact (zr_icmp_ge_t (zl4) ((by unfold zR; omega)) (Int.not_lt.mp c1)).trans k
theorem zs_147_213 (h : zOk b n f) {l1 : Int} {l2 : Int} {l3 : Int} {s0 : Int} (zl1 : zR l1) (zl2 : zR l2) (zl3 : zR l3) (zs0 : zR s0) (k : k147_217 V ST d (zCl AL V ST ex_km d) (zRn AL V ST ex_km d kt_147) (zP [zf b 0, enc l1, enc l2, enc s0, enc 0]) [] (zM n (zWf b f g)) = some r) : k147_213 V ST d (zCl AL V ST ex_km d) (zRn AL V ST ex_km d kt_147) (zP [zf b 0, enc l1, enc l2, enc l3, 137438953472]) [enc s0] (zM n (zWf b f g)) = some r := by
  unfold k147_213
  refine (zr_istore (w := enc l2) (vs' := [zf b 0, enc l1, enc l2, enc s0, 137438953472]) rfl (enc_c2 _) (Nat.lt_trans (enc_lt _) (by decide)) (by decide) rfl (enc_lt _)).trans ?_
  refine (zr_pshi 0 rfl).trans ?_
  refine (zr_istore (w := enc s0) (vs' := [zf b 0, enc l1, enc l2, enc s0, enc 0]) rfl (enc_c2 _) (Nat.lt_trans (enc_lt _) (by decide)) (by decide) rfl (enc_lt _)).trans ?_
  exact k
theorem zs_147_212 (h : zOk b n f) {l1 : Int} {l2 : Int} {l3 : Int} (zl1 : zR l1) (zl2 : zR l2) (zl3 : zR l3) (k : k147_213 V ST d (zCl AL V ST ex_km d) (zRn AL V ST ex_km d kt_147) (zP [zf b 0, enc l1, enc l2, enc l3, 137438953472]) [enc 0] (zM n (zWf b f g)) = some r) : k147_212 V ST d (zCl AL V ST ex_km d) (zRn AL V ST ex_km d kt_147) (zP [zf b 0, enc l1, enc l2, enc l3, 137438953472]) [] (zM n (zWf b f g)) = some r := by
  unfold k147_212
  refine (zr_pshi 0 rfl).trans ?_
  exact k
theorem zs_147_203 (h : zOk b n f) {l1 : Int} {l2 : Int} {l3 : Int} {s0 : Int} (zl1 : zR l1) (zl2 : zR l2) (zl3 : zR l3) (zs0 : zR s0) (k : (if s0 = 45 then zRn AL V ST ex_km d kt_147 213 (zP [zf b 0, enc l1, enc l2, enc l3, 137438953472]) [enc 1] (zM n (zWf b f g)) else zRn AL V ST ex_km d kt_147 212 (zP [zf b 0, enc l1, enc l2, enc l3, 137438953472]) [] (zM n (zWf b f g))) = some r) : k147_203 V ST d (zCl AL V ST ex_km d) (zRn AL V ST ex_km d kt_147) (zP [zf b 0, enc l1, enc l2, enc l3, 137438953472]) [enc s0] (zM n (zWf b f g)) = some r := by
  unfold k147_203
  refine (zr_pshi 45 rfl).trans ?_
  by_cases c1 : s0 = 45
  · rw [if_pos c1] at k
    refine (zr_icmp_ne_n (zs0) ((by unfold zR; omega)) c1).trans ?_
    refine (zr_pshi 1 rfl).trans ?_
    exact (zr_goto).trans k
  · rw [if_neg c1] at k
    exact (zr_icmp_ne_t (zs0) ((by unfold zR; omega)) c1).trans k
theorem zs_147_184 (h : zOk b n f) {l1 : Int} {l2 : Int} {l3 : Int} (zl1 : zR l1) (zl2 : zR l2) (zl3 : zR l3) (k : zTh (zCl AL V ST ex_km d 59 [zf b 15, zf b 151, enc (nz (g 151 5)), enc 1] (zM n (zWf b f g))) (zM n (zWf b f g)) [] (fun S M => k147_203 V ST d (zCl AL V ST ex_km d) (zRn AL V ST ex_km d kt_147) (zP [zf b 0, enc l1, enc l2, enc l3, 137438953472]) S M) = some r) : k147_184 V ST d (zCl AL V ST ex_km d) (zRn AL V ST ex_km d kt_147) (zP [zf b 0, enc l1, enc l2, enc l3, 137438953472]) [] (zM n (zWf b f g)) = some r := by
  unfold k147_184
  refine (zr_aload (v := zf b 0) rfl (zf_tA h _)).trans ?_
  refine (zr_gfr h (tr_hall_stage rfl)).trans ?_
  refine (zr_aload (v := zf b 0) rfl (zf_tA h _)).trans ?_
  refine (zr_gfr h (tr_hall_plan rfl)).trans ?_
  refine (zr_aload (v := zf b 0) rfl (zf_tA h _)).trans ?_
  refine (zr_gfr h (tr_hall_plan rfl)).trans ?_
  refine (zr_gfi h (ti_plan_partCount (Or.inl rfl))).trans ?_
  refine (zr_pshi 1 rfl).trans ?_
  refine zr_invV h [enc 1, enc (nz (g 151 5)), zf b 151] rfl (tk_stage rfl) (zA_cons (enc_l _) (zA_cons (enc_l _) (zA_cons (zf_l h _) zA_nil))) (zA_nil) (by decide) ?_
  exact k
theorem zs_147_169 (h : zOk b n f) {l1 : Int} {l2 : Int} {l3 : Int} (zl1 : zR l1) (zl2 : zR l2) (zl3 : zR l3) (k : zTh (zCl AL V ST ex_km d 58 [zf b 15, zf b 1, zf b 13] (zM n (zWf b f g))) (zM n (zWf b f g)) [] (fun S M => k147_184 V ST d (zCl AL V ST ex_km d) (zRn AL V ST ex_km d kt_147) (zP [zf b 0, enc l1, enc l2, enc l3, 137438953472]) S M) = some r) : k147_169 V ST d (zCl AL V ST ex_km d) (zRn AL V ST ex_km d kt_147) (zP [zf b 0, enc l1, enc l2, enc l3, 137438953472]) [] (zM n (zWf b f g)) = some r := by
  unfold k147_169
  refine (zr_aload (v := zf b 0) rfl (zf_tA h _)).trans ?_
  refine (zr_gfr h (tr_hall_stage rfl)).trans ?_
  refine (zr_aload (v := zf b 0) rfl (zf_tA h _)).trans ?_
  refine (zr_gfr h (tr_hall_dancers rfl)).trans ?_
  refine (zr_aload (v := zf b 0) rfl (zf_tA h _)).trans ?_
  refine (zr_gfr h (tr_hall_skills rfl)).trans ?_
  refine zr_invV h [zf b 13, zf b 1] rfl (tk_stage rfl) (zA_cons (zf_l h _) (zA_cons (zf_l h _) zA_nil)) (zA_nil) (by decide) ?_
  exact k
theorem zs_147_136 (h : zOk b n f) {l1 : Int} {l2 : Int} {l3 : Int} (zl1 : zR l1) (zl2 : zR l2) (zl3 : zR l3) (k : (if l3 < 8 then (if 0 ≤ l3 ∧ l3 < 8 then (if 0 ≤ l3 ∧ l3 < 16 then (if 0 ≤ l3 ∧ l3 < 8 then zRn AL V ST ex_km d kt_147 136 (zP [zf b 0, enc l1, enc l2, enc (nz (l3 + 1)), 137438953472]) [] (zM n (zWf b f (upd g 238 l3 (nz ((nz (g 238 l3)) - (nz (g (16 + 9) l3))))))) else none) else none) else none) else zRn AL V ST ex_km d kt_147 169 (zP [zf b 0, enc l1, enc l2, enc l3, 137438953472]) [] (zM n (zWf b f g))) = some r) : k147_136 V ST d (zCl AL V ST ex_km d) (zRn AL V ST ex_km d kt_147) (zP [zf b 0, enc l1, enc l2, enc l3, 137438953472]) [] (zM n (zWf b f g)) = some r := by
  unfold k147_136
  refine (zr_iload (v := enc l3) rfl (enc_lt _)).trans ?_
  refine (zr_pshi 8 rfl).trans ?_
  by_cases c1 : l3 < 8
  · rw [if_pos c1] at k
    refine (zr_icmp_ge_n (zl3) ((by unfold zR; omega)) c1).trans ?_
    refine (zr_aload (v := zf b 0) rfl (zf_tA h _)).trans ?_
    refine (zr_gfr h (tr_hall_turnsAhead rfl)).trans ?_
    refine (zr_iload (v := enc l3) rfl (enc_lt _)).trans ?_
    refine (zr_dup2 (enc_c2 _) (zf_c2 h _)).trans ?_
    by_cases c2 : 0 ≤ l3 ∧ l3 < 8
    · rw [if_pos c2] at k
      refine (zr_iald h (ta_hall_turnsAhead rfl) c2.1 (by have := c2.2; omega)).trans ?_
      refine (zr_aload (v := zf b 0) rfl (zf_tA h _)).trans ?_
      refine (zr_gfr h (tr_hall_stage rfl)).trans ?_
      refine (zr_gfr h (tr_stage_ground rfl)).trans ?_
      refine (zr_gfr h (tr_fl_turns (Or.inl rfl))).trans ?_
      refine (zr_iload (v := enc l3) rfl (enc_lt _)).trans ?_
      by_cases c3 : 0 ≤ l3 ∧ l3 < 16
      · rw [if_pos c3] at k
        refine (zr_iald h (ta_fl_turns (Or.inl rfl)) c3.1 (by have := c3.2; omega)).trans ?_
        refine (zr_isub).trans ?_
        by_cases c4 : 0 ≤ l3 ∧ l3 < 8
        · rw [if_pos c4] at k
          refine (zr_iast h (ta_hall_turnsAhead rfl) c4.1 (by have := c4.2; omega)).trans ?_
          refine (zr_iinc (w := enc l2) (x := l3) (i' := 1) (vs' := [zf b 0, enc l1, enc l2, enc (nz (l3 + 1)), 137438953472]) rfl (enc_c2 _) (Nat.lt_trans (enc_lt _) (by decide)) rfl rfl (by decide) rfl).trans ?_
          exact (zr_goto).trans k
        · rw [if_neg c4] at k; cases k
      · rw [if_neg c3] at k; cases k
    · rw [if_neg c2] at k; cases k
  · rw [if_neg c1] at k
    exact (zr_icmp_ge_t (zl3) ((by unfold zR; omega)) (Int.not_lt.mp c1)).trans k
theorem zs_147_133 (h : zOk b n f) {l1 : Int} {l2 : Int} {s0 : Int} (zl1 : zR l1) (zl2 : zR l2) (zs0 : zR s0) (k : k147_136 V ST d (zCl AL V ST ex_km d) (zRn AL V ST ex_km d kt_147) (zP [zf b 0, enc l1, enc s0, enc 0, 137438953472]) [] (zM n (zWf b f g)) = some r) : k147_133 V ST d (zCl AL V ST ex_km d) (zRn AL V ST ex_km d kt_147) (zP [zf b 0, enc l1, enc l2, 137438953472, 137438953472]) [enc s0] (zM n (zWf b f g)) = some r := by
  unfold k147_133
  refine (zr_istore (w := enc l1) (vs' := [zf b 0, enc l1, enc s0, 137438953472, 137438953472]) rfl (enc_c2 _) (Nat.lt_trans (enc_lt _) (by decide)) (by decide) rfl (enc_lt _)).trans ?_
  refine (zr_pshi 0 rfl).trans ?_
  refine (zr_istore (w := enc s0) (vs' := [zf b 0, enc l1, enc s0, enc 0, 137438953472]) rfl (enc_c2 _) (Nat.lt_trans (enc_lt _) (by decide)) (by decide) rfl (enc_lt _)).trans ?_
  exact k
theorem zs_147_132 (h : zOk b n f) {l1 : Int} {l2 : Int} (zl1 : zR l1) (zl2 : zR l2) (k : k147_133 V ST d (zCl AL V ST ex_km d) (zRn AL V ST ex_km d kt_147) (zP [zf b 0, enc l1, enc l2, 137438953472, 137438953472]) [enc 0] (zM n (zWf b f g)) = some r) : k147_132 V ST d (zCl AL V ST ex_km d) (zRn AL V ST ex_km d kt_147) (zP [zf b 0, enc l1, enc l2, 137438953472, 137438953472]) [] (zM n (zWf b f g)) = some r := by
  unfold k147_132
  refine (zr_pshi 0 rfl).trans ?_
  exact k
theorem zs_147_123 (h : zOk b n f) {l1 : Int} {l2 : Int} {s0 : Int} (zl1 : zR l1) (zl2 : zR l2) (zs0 : zR s0) (k : (if s0 = 45 then zRn AL V ST ex_km d kt_147 133 (zP [zf b 0, enc l1, enc l2, 137438953472, 137438953472]) [enc 1] (zM n (zWf b f g)) else zRn AL V ST ex_km d kt_147 132 (zP [zf b 0, enc l1, enc l2, 137438953472, 137438953472]) [] (zM n (zWf b f g))) = some r) : k147_123 V ST d (zCl AL V ST ex_km d) (zRn AL V ST ex_km d kt_147) (zP [zf b 0, enc l1, enc l2, 137438953472, 137438953472]) [enc s0] (zM n (zWf b f g)) = some r := by
  unfold k147_123
  refine (zr_pshi 45 rfl).trans ?_
  by_cases c1 : s0 = 45
  · rw [if_pos c1] at k
    refine (zr_icmp_ne_n (zs0) ((by unfold zR; omega)) c1).trans ?_
    refine (zr_pshi 1 rfl).trans ?_
    exact (zr_goto).trans k
  · rw [if_neg c1] at k
    exact (zr_icmp_ne_t (zs0) ((by unfold zR; omega)) c1).trans k
theorem zs_147_110 (h : zOk b n f) {l1 : Int} {l2 : Int} (zl1 : zR l1) (zl2 : zR l2) (k : zTh (zCl AL V ST ex_km d 59 [zf b 15, zf b 151, enc 1, enc 0] (zM n (zWf b f g))) (zM n (zWf b f g)) [] (fun S M => k147_123 V ST d (zCl AL V ST ex_km d) (zRn AL V ST ex_km d kt_147) (zP [zf b 0, enc l1, enc l2, 137438953472, 137438953472]) S M) = some r) : k147_110 V ST d (zCl AL V ST ex_km d) (zRn AL V ST ex_km d kt_147) (zP [zf b 0, enc l1, enc l2, 137438953472, 137438953472]) [] (zM n (zWf b f g)) = some r := by
  unfold k147_110
  refine (zr_aload (v := zf b 0) rfl (zf_tA h _)).trans ?_
  refine (zr_gfr h (tr_hall_stage rfl)).trans ?_
  refine (zr_aload (v := zf b 0) rfl (zf_tA h _)).trans ?_
  refine (zr_gfr h (tr_hall_plan rfl)).trans ?_
  refine (zr_pshi 1 rfl).trans ?_
  refine (zr_pshi 0 rfl).trans ?_
  refine zr_invV h [enc 0, enc 1, zf b 151] rfl (tk_stage rfl) (zA_cons (enc_l _) (zA_cons (enc_l _) (zA_cons (zf_l h _) zA_nil))) (zA_nil) (by decide) ?_
  exact k
theorem zs_147_95 (h : zOk b n f) {l1 : Int} {l2 : Int} (zl1 : zR l1) (zl2 : zR l2) (k : zTh (zCl AL V ST ex_km d 58 [zf b 15, zf b 1, zf b 13] (zM n (zWf b f g))) (zM n (zWf b f g)) [] (fun S M => k147_110 V ST d (zCl AL V ST ex_km d) (zRn AL V ST ex_km d kt_147) (zP [zf b 0, enc l1, enc l2, 137438953472, 137438953472]) S M) = some r) : k147_95 V ST d (zCl AL V ST ex_km d) (zRn AL V ST ex_km d kt_147) (zP [zf b 0, enc l1, enc l2, 137438953472, 137438953472]) [] (zM n (zWf b f g)) = some r := by
  unfold k147_95
  refine (zr_aload (v := zf b 0) rfl (zf_tA h _)).trans ?_
  refine (zr_gfr h (tr_hall_stage rfl)).trans ?_
  refine (zr_aload (v := zf b 0) rfl (zf_tA h _)).trans ?_
  refine (zr_gfr h (tr_hall_dancers rfl)).trans ?_
  refine (zr_aload (v := zf b 0) rfl (zf_tA h _)).trans ?_
  refine (zr_gfr h (tr_hall_skills rfl)).trans ?_
  refine zr_invV h [zf b 13, zf b 1] rfl (tk_stage rfl) (zA_cons (zf_l h _) (zA_cons (zf_l h _) zA_nil)) (zA_nil) (by decide) ?_
  exact k
theorem zs_147_65 (h : zOk b n f) {l1 : Int} {l2 : Int} (zl1 : zR l1) (zl2 : zR l2) (k : (if l2 < 8 then (if 0 ≤ l2 ∧ l2 < 16 then (if 0 ≤ l2 ∧ l2 < 8 then zRn AL V ST ex_km d kt_147 65 (zP [zf b 0, enc l1, enc (nz (l2 + 1)), 137438953472, 137438953472]) [] (zM n (zWf b f (upd g 238 l2 (nz (g (16 + 9) l2))))) else none) else none) else zRn AL V ST ex_km d kt_147 95 (zP [zf b 0, enc l1, enc l2, 137438953472, 137438953472]) [] (zM n (zWf b f g))) = some r) : k147_65 V ST d (zCl AL V ST ex_km d) (zRn AL V ST ex_km d kt_147) (zP [zf b 0, enc l1, enc l2, 137438953472, 137438953472]) [] (zM n (zWf b f g)) = some r := by
  unfold k147_65
  refine (zr_iload (v := enc l2) rfl (enc_lt _)).trans ?_
  refine (zr_pshi 8 rfl).trans ?_
  by_cases c1 : l2 < 8
  · rw [if_pos c1] at k
    refine (zr_icmp_ge_n (zl2) ((by unfold zR; omega)) c1).trans ?_
    refine (zr_aload (v := zf b 0) rfl (zf_tA h _)).trans ?_
    refine (zr_gfr h (tr_hall_turnsAhead rfl)).trans ?_
    refine (zr_iload (v := enc l2) rfl (enc_lt _)).trans ?_
    refine (zr_aload (v := zf b 0) rfl (zf_tA h _)).trans ?_
    refine (zr_gfr h (tr_hall_stage rfl)).trans ?_
    refine (zr_gfr h (tr_stage_ground rfl)).trans ?_
    refine (zr_gfr h (tr_fl_turns (Or.inl rfl))).trans ?_
    refine (zr_iload (v := enc l2) rfl (enc_lt _)).trans ?_
    by_cases c2 : 0 ≤ l2 ∧ l2 < 16
    · rw [if_pos c2] at k
      refine (zr_iald h (ta_fl_turns (Or.inl rfl)) c2.1 (by have := c2.2; omega)).trans ?_
      by_cases c3 : 0 ≤ l2 ∧ l2 < 8
      · rw [if_pos c3] at k
        refine (zr_iast h (ta_hall_turnsAhead rfl) c3.1 (by have := c3.2; omega)).trans ?_
        refine (zr_iinc (w := enc l1) (x := l2) (i' := 1) (vs' := [zf b 0, enc l1, enc (nz (l2 + 1)), 137438953472, 137438953472]) rfl (enc_c2 _) (Nat.lt_trans (enc_lt _) (by decide)) rfl rfl (by decide) rfl).trans ?_
        exact (zr_goto).trans k
      · rw [if_neg c3] at k; cases k
    · rw [if_neg c2] at k; cases k
  · rw [if_neg c1] at k
    exact (zr_icmp_ge_t (zl2) ((by unfold zR; omega)) (Int.not_lt.mp c1)).trans k
theorem zs_147_63 (h : zOk b n f) {l1 : Int} (zl1 : zR l1) (k : k147_65 V ST d (zCl AL V ST ex_km d) (zRn AL V ST ex_km d kt_147) (zP [zf b 0, enc l1, enc 0, 137438953472, 137438953472]) [] (zM n (zWf b f g)) = some r) : k147_63 V ST d (zCl AL V ST ex_km d) (zRn AL V ST ex_km d kt_147) (zP [zf b 0, enc l1, 137438953472, 137438953472, 137438953472]) [] (zM n (zWf b f g)) = some r := by
  unfold k147_63
  refine (zr_pshi 0 rfl).trans ?_
  refine (zr_istore (w := enc l1) (vs' := [zf b 0, enc l1, enc 0, 137438953472, 137438953472]) rfl (enc_c2 _) (Nat.lt_trans (enc_lt _) (by decide)) (by decide) rfl (enc_lt _)).trans ?_
  exact k
theorem zs_147_49 (h : zOk b n f) {l1 : Int} (zl1 : zR l1) (k : zTh (zCl AL V ST ex_km d 43 [zf b 9, zf b 16] (zM n (zWf b f g))) (zM n (zWf b f g)) [] (fun S M => k147_63 V ST d (zCl AL V ST ex_km d) (zRn AL V ST ex_km d kt_147) (zP [zf b 0, enc l1, 137438953472, 137438953472, 137438953472]) S M) = some r) : k147_49 V ST d (zCl AL V ST ex_km d) (zRn AL V ST ex_km d kt_147) (zP [zf b 0, enc l1, 137438953472, 137438953472, 137438953472]) [] (zM n (zWf b f g)) = some r := by
  unfold k147_49
  refine (zr_aload (v := zf b 0) rfl (zf_tA h _)).trans ?_
  refine (zr_gfr h (tr_hall_trial rfl)).trans ?_
  refine (zr_aload (v := zf b 0) rfl (zf_tA h _)).trans ?_
  refine (zr_gfr h (tr_hall_stage rfl)).trans ?_
  refine (zr_gfr h (tr_stage_ground rfl)).trans ?_
  refine zr_invV h [zf b 16] rfl (tk_pl (Or.inr (Or.inr rfl))) (zA_cons (zf_l h _) zA_nil) (zA_nil) (by decide) ?_
  exact k
theorem zs_147_42 (h : zOk b n f) {l1 : Int} {s0 : Int} (zl1 : zR l1) (zs0 : zR s0) (k : (if s0 = 45 then zRn AL V ST ex_km d kt_147 49 (zP [zf b 0, enc l1, 137438953472, 137438953472, 137438953472]) [] (zM n (zWf b f g)) else some (enc 1, (zM n (zWf b f g)))) = some r) : k147_42 V ST d (zCl AL V ST ex_km d) (zRn AL V ST ex_km d kt_147) (zP [zf b 0, enc l1, 137438953472, 137438953472, 137438953472]) [enc s0] (zM n (zWf b f g)) = some r := by
  unfold k147_42
  refine (zr_pshi 45 rfl).trans ?_
  by_cases c1 : s0 = 45
  · rw [if_pos c1] at k
    exact (zr_icmp_eq_t (zs0) ((by unfold zR; omega)) c1).trans k
  · rw [if_neg c1] at k
    refine (zr_icmp_eq_n (zs0) ((by unfold zR; omega)) c1).trans ?_
    refine (zr_pshi 1 rfl).trans ?_
    exact (zr_breturn (by decide)).trans k
theorem zs_147_23 (h : zOk b n f) {l1 : Int} (zl1 : zR l1) (k : zTh (zCl AL V ST ex_km d 59 [zf b 15, zf b 151, enc (nz (g 151 5)), enc 0] (zM n (zWf b f g))) (zM n (zWf b f g)) [] (fun S M => k147_42 V ST d (zCl AL V ST ex_km d) (zRn AL V ST ex_km d kt_147) (zP [zf b 0, enc l1, 137438953472, 137438953472, 137438953472]) S M) = some r) : k147_23 V ST d (zCl AL V ST ex_km d) (zRn AL V ST ex_km d kt_147) (zP [zf b 0, enc l1, 137438953472, 137438953472, 137438953472]) [] (zM n (zWf b f g)) = some r := by
  unfold k147_23
  refine (zr_aload (v := zf b 0) rfl (zf_tA h _)).trans ?_
  refine (zr_gfr h (tr_hall_stage rfl)).trans ?_
  refine (zr_aload (v := zf b 0) rfl (zf_tA h _)).trans ?_
  refine (zr_gfr h (tr_hall_plan rfl)).trans ?_
  refine (zr_aload (v := zf b 0) rfl (zf_tA h _)).trans ?_
  refine (zr_gfr h (tr_hall_plan rfl)).trans ?_
  refine (zr_gfi h (ti_plan_partCount (Or.inl rfl))).trans ?_
  refine (zr_pshi 0 rfl).trans ?_
  refine zr_invV h [enc 0, enc (nz (g 151 5)), zf b 151] rfl (tk_stage rfl) (zA_cons (enc_l _) (zA_cons (enc_l _) (zA_cons (zf_l h _) zA_nil))) (zA_nil) (by decide) ?_
  exact k
theorem zs_147_8 (h : zOk b n f) {l1 : Int} (zl1 : zR l1) (k : zTh (zCl AL V ST ex_km d 58 [zf b 15, zf b 1, zf b 13] (zM n (zWf b f g))) (zM n (zWf b f g)) [] (fun S M => k147_23 V ST d (zCl AL V ST ex_km d) (zRn AL V ST ex_km d kt_147) (zP [zf b 0, enc l1, 137438953472, 137438953472, 137438953472]) S M) = some r) : k147_8 V ST d (zCl AL V ST ex_km d) (zRn AL V ST ex_km d kt_147) (zP [zf b 0, enc l1, 137438953472, 137438953472, 137438953472]) [] (zM n (zWf b f g)) = some r := by
  unfold k147_8
  refine (zr_aload (v := zf b 0) rfl (zf_tA h _)).trans ?_
  refine (zr_gfr h (tr_hall_stage rfl)).trans ?_
  refine (zr_aload (v := zf b 0) rfl (zf_tA h _)).trans ?_
  refine (zr_gfr h (tr_hall_dancers rfl)).trans ?_
  refine (zr_aload (v := zf b 0) rfl (zf_tA h _)).trans ?_
  refine (zr_gfr h (tr_hall_skills rfl)).trans ?_
  refine zr_invV h [zf b 13, zf b 1] rfl (tk_stage rfl) (zA_cons (zf_l h _) (zA_cons (zf_l h _) zA_nil)) (zA_nil) (by decide) ?_
  exact k
theorem zs_147_0 (h : zOk b n f) {l1 : Int} (zl1 : zR l1) (k : zTh (zCl AL V ST ex_km d 48 [zf b 151, enc l1] (zM n (zWf b f g))) (zM n (zWf b f g)) [] (fun S M => k147_8 V ST d (zCl AL V ST ex_km d) (zRn AL V ST ex_km d kt_147) (zP [zf b 0, enc l1, 137438953472, 137438953472, 137438953472]) S M) = some r) : k147_0 V ST d (zCl AL V ST ex_km d) (zRn AL V ST ex_km d kt_147) (zP [zf b 0, enc l1, 137438953472, 137438953472, 137438953472]) [] (zM n (zWf b f g)) = some r := by
  unfold k147_0
  refine (zr_aload (v := zf b 0) rfl (zf_tA h _)).trans ?_
  refine (zr_gfr h (tr_hall_plan rfl)).trans ?_
  refine (zr_iload (v := enc l1) rfl (enc_lt _)).trans ?_
  refine zr_invV h [enc l1] rfl (tk_plan (Or.inl rfl)) (zA_cons (enc_l _) zA_nil) (zA_nil) (by decide) ?_
  exact k
theorem zs_148_54 (h : zOk b n f) {l1 : Int} {l2 : Nat} (zl1 : zR l1) (zl2 : ex_c2 l2 = false ∧ l2 < 1099511627776) (k : some (137438953473, (zM n (zWf b f g))) = some r) : k148_54 V ST d (zCl AL V ST ex_km d) (zRn AL V ST ex_km d kt_148) (zP [zf b 0, enc l1, l2]) [] (zM n (zWf b f g)) = some r := by
  unfold k148_54
  exact zr_return.trans k
theorem zs_148_50 (h : zOk b n f) {l1 : Int} {l2 : Nat} (zl1 : zR l1) (zl2 : ex_c2 l2 = false ∧ l2 < 1099511627776) (k : zTh (zCl AL V ST ex_km d 149 [zf b 0] (zM n (zWf b f g))) (zM n (zWf b f g)) [] (fun S M => k148_54 V ST d (zCl AL V ST ex_km d) (zRn AL V ST ex_km d kt_148) (zP [zf b 0, enc l1, l2]) S M) = some r) : k148_50 V ST d (zCl AL V ST ex_km d) (zRn AL V ST ex_km d kt_148) (zP [zf b 0, enc l1, l2]) [] (zM n (zWf b f g)) = some r := by
  unfold k148_50
  refine (zr_aload (v := zf b 0) rfl (zf_tA h _)).trans ?_
  refine zr_invV h [] rfl (tk_hall rfl) (zA_nil) (zA_nil) (by decide) ?_
  exact k
theorem zs_148_43 (h : zOk b n f) {l1 : Int} {l2 : Nat} (zl1 : zR l1) (zl2 : ex_c2 l2 = false ∧ l2 < 1099511627776) (k : zTh (zCl AL V ST ex_km d 26 [zf b 182] (zM n (zWf b f g))) (zM n (zWf b f g)) [] (fun S M => k148_50 V ST d (zCl AL V ST ex_km d) (zRn AL V ST ex_km d kt_148) (zP [zf b 0, enc l1, l2]) S M) = some r) : k148_43 V ST d (zCl AL V ST ex_km d) (zRn AL V ST ex_km d kt_148) (zP [zf b 0, enc l1, l2]) [] (zM n (zWf b f g)) = some r := by
  unfold k148_43
  refine (zr_aload (v := zf b 0) rfl (zf_tA h _)).trans ?_
  refine (zr_gfr h (tr_hall_flow rfl)).trans ?_
  refine zr_invV h [] rfl (tk_flow rfl) (zA_nil) (zA_nil) (by decide) ?_
  exact k
theorem zs_148_37 (h : zOk b n f) {l1 : Int} {l2 : Int} (zl1 : zR l1) (zl2 : zR l2) (k : zRn AL V ST ex_km d kt_148 2 (zP [zf b 0, enc (nz (l1 + 1)), enc l2]) [] (zM n (zWf b f g)) = some r) : k148_37 V ST d (zCl AL V ST ex_km d) (zRn AL V ST ex_km d kt_148) (zP [zf b 0, enc l1, enc l2]) [] (zM n (zWf b f g)) = some r := by
  unfold k148_37
  refine (zr_iinc (w := zf b 0) (x := l1) (i' := 1) (vs' := [zf b 0, enc (nz (l1 + 1)), enc l2]) rfl (zf_c2 h _) (Nat.lt_trans (zf_l h _) (by decide)) rfl rfl (by decide) rfl).trans ?_
  exact (zr_goto).trans k
theorem zs_148_13 (h : zOk b n f) (hST : ∀ s, 1 ≤ s → s < 169 → ST s = ex_st s) {l1 : Int} {l2 : Nat} {s0 : Int} (zl1 : zR l1) (zl2 : ex_c2 l2 = false ∧ l2 < 1099511627776) (zs0 : zR s0) (k : (if 0 ≤ s0 ∧ s0 < 8 then (if 0 ≤ s0 ∧ s0 < 8 then (if 0 ≤ s0 ∧ s0 < 8 then zTh (zCl AL V ST ex_km d 41 [zf b 1, enc l1, enc (sa_SPOT_X s0), enc (sa_SPOT_Y s0), enc (sa_SPOT_F s0)] (zM n (zWf b f g))) (zM n (zWf b f g)) [] (fun S M => k148_37 V ST d (zCl AL V ST ex_km d) (zRn AL V ST ex_km d kt_148) (zP [zf b 0, enc l1, enc s0]) S M) else none) else none) else none) = some r) : k148_13 V ST d (zCl AL V ST ex_km d) (zRn AL V ST ex_km d kt_148) (zP [zf b 0, enc l1, l2]) [enc s0] (zM n (zWf b f g)) = some r := by
  unfold k148_13
  refine (zr_istore (w := enc l1) (vs' := [zf b 0, enc l1, enc s0]) rfl (enc_c2 _) (Nat.lt_trans (enc_lt _) (by decide)) (by decide) rfl (enc_lt _)).trans ?_
  refine (zr_aload (v := zf b 0) rfl (zf_tA h _)).trans ?_
  refine (zr_gfr h (tr_hall_dancers rfl)).trans ?_
  refine (zr_iload (v := enc l1) rfl (enc_lt _)).trans ?_
  refine (zr_psh).trans ?_
  refine (zr_iload (v := enc s0) rfl (enc_lt _)).trans ?_
  by_cases c1 : 0 ≤ s0 ∧ s0 < 8
  · rw [if_pos c1] at k
    refine (zr_iaS (s := 7) (m := 8) ((hST 7 (by decide) (by decide)).symm ▸ (by decide +kernel : ex_get (ex_st 7) 0 = 64 + 256 * 8)) (by decide) c1.1 (by have := c1.2; omega) (by rw [hST 7 (by decide) (by decide)]; exact sa_SPOT_X_E c1.1 c1.2) (by decide)).trans ?_
    refine (zr_psh).trans ?_
    refine (zr_iload (v := enc s0) rfl (enc_lt _)).trans ?_
    by_cases c2 : 0 ≤ s0 ∧ s0 < 8
    · rw [if_pos c2] at k
      refine (zr_iaS (s := 8) (m := 8) ((hST 8 (by decide) (by decide)).symm ▸ (by decide +kernel : ex_get (ex_st 8) 0 = 64 + 256 * 8)) (by decide) c2.1 (by have := c2.2; omega) (by rw [hST 8 (by decide) (by decide)]; exact sa_SPOT_Y_E c2.1 c2.2) (by decide)).trans ?_
      refine (zr_psh).trans ?_
      refine (zr_iload (v := enc s0) rfl (enc_lt _)).trans ?_
      by_cases c3 : 0 ≤ s0 ∧ s0 < 8
      · rw [if_pos c3] at k
        refine (zr_iaS (s := 6) (m := 8) ((hST 6 (by decide) (by decide)).symm ▸ (by decide +kernel : ex_get (ex_st 6) 0 = 64 + 256 * 8)) (by decide) c3.1 (by have := c3.2; omega) (by rw [hST 6 (by decide) (by decide)]; exact sa_SPOT_F_E c3.1 c3.2) (by decide)).trans ?_
        refine zr_invV h [enc (sa_SPOT_F s0), enc (sa_SPOT_Y s0), enc (sa_SPOT_X s0), enc l1] rfl (tk_pl (Or.inl rfl)) (zA_cons (enc_l _) (zA_cons (enc_l _) (zA_cons (enc_l _) (zA_cons (enc_l _) zA_nil)))) (zA_nil) (by decide) ?_
        exact k
      · rw [if_neg c3] at k; cases k
    · rw [if_neg c2] at k; cases k
  · rw [if_neg c1] at k; cases k
theorem zs_148_2 (h : zOk b n f) {l1 : Int} {l2 : Nat} (zl1 : zR l1) (zl2 : ex_c2 l2 = false ∧ l2 < 1099511627776) (k : (if l1 < 8 then zTh (zCl AL V ST ex_km d 150 [zf b 0, enc l1] (zM n (zWf b f g))) (zM n (zWf b f g)) [] (fun S M => k148_13 V ST d (zCl AL V ST ex_km d) (zRn AL V ST ex_km d kt_148) (zP [zf b 0, enc l1, l2]) S M) else zRn AL V ST ex_km d kt_148 43 (zP [zf b 0, enc l1, l2]) [] (zM n (zWf b f g))) = some r) : k148_2 V ST d (zCl AL V ST ex_km d) (zRn AL V ST ex_km d kt_148) (zP [zf b 0, enc l1, l2]) [] (zM n (zWf b f g)) = some r := by
  unfold k148_2
  refine (zr_iload (v := enc l1) rfl (enc_lt _)).trans ?_
  refine (zr_pshi 8 rfl).trans ?_
  by_cases c1 : l1 < 8
  · rw [if_pos c1] at k
    refine (zr_icmp_ge_n (zl1) ((by unfold zR; omega)) c1).trans ?_
    refine (zr_aload (v := zf b 0) rfl (zf_tA h _)).trans ?_
    refine (zr_iload (v := enc l1) rfl (enc_lt _)).trans ?_
    refine zr_invV h [enc l1] rfl (tk_hall rfl) (zA_cons (enc_l _) zA_nil) (zA_nil) (by decide) ?_
    exact k
  · rw [if_neg c1] at k
    exact (zr_icmp_ge_t (zl1) ((by unfold zR; omega)) (Int.not_lt.mp c1)).trans k
theorem zs_148_0 (h : zOk b n f)   (k : k148_2 V ST d (zCl AL V ST ex_km d) (zRn AL V ST ex_km d kt_148) (zP [zf b 0, enc 0, 137438953472]) [] (zM n (zWf b f g)) = some r) : k148_0 V ST d (zCl AL V ST ex_km d) (zRn AL V ST ex_km d kt_148) (zP [zf b 0, 137438953472, 137438953472]) [] (zM n (zWf b f g)) = some r := by
  unfold k148_0
  refine (zr_pshi 0 rfl).trans ?_
  refine (zr_istore (w := zf b 0) (vs' := [zf b 0, enc 0, 137438953472]) rfl (zf_c2 h _) (Nat.lt_trans (zf_l h _) (by decide)) (by decide) rfl (enc_lt _)).trans ?_
  exact k
theorem zs_149_15 (h : zOk b n f)   (k : some (137438953473, (zM n (zWf b f g))) = some r) : k149_15 V ST d (zCl AL V ST ex_km d) (zRn AL V ST ex_km d kt_149) (zP [zf b 0]) [] (zM n (zWf b f g)) = some r := by
  unfold k149_15
  exact zr_return.trans k
theorem zs_149_0 (h : zOk b n f)   (k : zTh (zCl AL V ST ex_km d 46 [zf b 155] (zM n (zWf b f (upd g 159 3 0)))) (zM n (zWf b f (upd g 159 3 0))) [] (fun S M => k149_15 V ST d (zCl AL V ST ex_km d) (zRn AL V ST ex_km d kt_149) (zP [zf b 0]) S M) = some r) : k149_0 V ST d (zCl AL V ST ex_km d) (zRn AL V ST ex_km d kt_149) (zP [zf b 0]) [] (zM n (zWf b f g)) = some r := by
  unfold k149_0
  refine (zr_aload (v := zf b 0) rfl (zf_tA h _)).trans ?_
  refine (zr_gfr h (tr_hall_past rfl)).trans ?_
  refine (zr_pshi 0 rfl).trans ?_
  refine (zr_pfi h (ti_past_size rfl)).trans ?_
  refine (zr_aload (v := zf b 0) rfl (zf_tA h _)).trans ?_
  refine (zr_gfr h (tr_hall_rest rfl)).trans ?_
  refine zr_invV h [] rfl (tk_plan (Or.inr rfl)) (zA_nil) (zA_nil) (by decide) ?_
  exact k
theorem zs_150_21 (h : zOk b n f) {l1 : Int} {s0 : Int} (zl1 : zR l1) (zs0 : zR s0) (k : some (enc (zand s0 7), (zM n (zWf b f g))) = some r) : k150_21 V ST d (zCl AL V ST ex_km d) (zRn AL V ST ex_km d kt_150) (zP [zf b 0, enc l1, 137438953472]) [enc s0] (zM n (zWf b f g)) = some r := by
  unfold k150_21
  refine (zr_istore (w := enc l1) (vs' := [zf b 0, enc l1, enc s0]) rfl (enc_c2 _) (Nat.lt_trans (enc_lt _) (by decide)) (by decide) rfl (enc_lt _)).trans ?_
  refine (zr_iload (v := enc s0) rfl (enc_lt _)).trans ?_
  refine (zr_pshi 7 rfl).trans ?_
  refine (zr_iand).trans ?_
  exact zr_ireturn.trans k
theorem zs_150_10 (h : zOk b n f) {l1 : Int} (zl1 : zR l1) (k : k150_21 V ST d (zCl AL V ST ex_km d) (zRn AL V ST ex_km d kt_150) (zP [zf b 0, enc l1, 137438953472]) [enc (nz (l1 + (nz (2 * (nz (g 186 2))))))] (zM n (zWf b f g)) = some r) : k150_10 V ST d (zCl AL V ST ex_km d) (zRn AL V ST ex_km d kt_150) (zP [zf b 0, enc l1, 137438953472]) [] (zM n (zWf b f g)) = some r := by
  unfold k150_10
  refine (zr_iload (v := enc l1) rfl (enc_lt _)).trans ?_
  refine (zr_pshi 2 rfl).trans ?_
  refine (zr_aload (v := zf b 0) rfl (zf_tA h _)).trans ?_
  refine (zr_gfr h (tr_hall_song rfl)).trans ?_
  refine (zr_gfi h (ti_song_rightsGone rfl)).trans ?_
  refine (zr_imul).trans ?_
  refine (zr_iadd).trans ?_
  exact k
theorem zs_150_0 (h : zOk b n f) {l1 : Int} (zl1 : zR l1) (k : (if nz (Int.tmod l1 2) = 0 then zRn AL V ST ex_km d kt_150 21 (zP [zf b 0, enc l1, 137438953472]) [enc l1] (zM n (zWf b f g)) else zRn AL V ST ex_km d kt_150 10 (zP [zf b 0, enc l1, 137438953472]) [] (zM n (zWf b f g))) = some r) : k150_0 V ST d (zCl AL V ST ex_km d) (zRn AL V ST ex_km d kt_150) (zP [zf b 0, enc l1, 137438953472]) [] (zM n (zWf b f g)) = some r := by
  unfold k150_0
  refine (zr_iload (v := enc l1) rfl (enc_lt _)).trans ?_
  refine (zr_pshi 2 rfl).trans ?_
  refine (zr_rem (zl1) ((by unfold zR; omega)) (by decide)).trans ?_
  by_cases c1 : nz (Int.tmod l1 2) = 0
  · rw [if_pos c1] at k
    refine (zr_if_ne_n (nz_R _) c1).trans ?_
    refine (zr_iload (v := enc l1) rfl (enc_lt _)).trans ?_
    exact (zr_goto).trans k
  · rw [if_neg c1] at k
    exact (zr_if_ne_t (nz_R _) c1).trans k
theorem zs_151_76 (h : zOk b n f) {l1 : Int} {l2 : Int} {l3 : Nat} (zl1 : zR l1) (zl2 : zR l2) (zl3 : ex_c2 l3 = false ∧ l3 < 1099511627776) (k : some (enc l1, (zM n (zWf b f g))) = some r) : k151_76 V ST d (zCl AL V ST ex_km d) (zRn AL V ST ex_km d kt_151) (zP [zf b 0, enc l1, enc l2, l3]) [] (zM n (zWf b f g)) = some r := by
  unfold k151_76
  refine (zr_iload (v := enc l1) rfl (enc_lt _)).trans ?_
  exact zr_ireturn.trans k
theorem zs_151_70 (h : zOk b n f) {l1 : Int} {l2 : Int} {l3 : Int} (zl1 : zR l1) (zl2 : zR l2) (zl3 : zR l3) (k : zRn AL V ST ex_km d kt_151 4 (zP [zf b 0, enc l1, enc (nz (l2 + 1)), enc l3]) [] (zM n (zWf b f g)) = some r) : k151_70 V ST d (zCl AL V ST ex_km d) (zRn AL V ST ex_km d kt_151) (zP [zf b 0, enc l1, enc l2, enc l3]) [] (zM n (zWf b f g)) = some r := by
  unfold k151_70
  refine (zr_iinc (w := enc l1) (x := l2) (i' := 1) (vs' := [zf b 0, enc l1, enc (nz (l2 + 1)), enc l3]) rfl (enc_c2 _) (Nat.lt_trans (enc_lt _) (by decide)) rfl rfl (by decide) rfl).trans ?_
  exact (zr_goto).trans k
theorem zs_151_67 (h : zOk b n f) {l1 : Int} {l2 : Int} {l3 : Int} (zl1 : zR l1) (zl2 : zR l2) (zl3 : zR l3) (k : k151_70 V ST d (zCl AL V ST ex_km d) (zRn AL V ST ex_km d kt_151) (zP [zf b 0, enc (nz (l1 + 1)), enc l2, enc l3]) [] (zM n (zWf b f g)) = some r) : k151_67 V ST d (zCl AL V ST ex_km d) (zRn AL V ST ex_km d kt_151) (zP [zf b 0, enc l1, enc l2, enc l3]) [] (zM n (zWf b f g)) = some r := by
  unfold k151_67
  refine (zr_iinc (w := zf b 0) (x := l1) (i' := 1) (vs' := [zf b 0, enc (nz (l1 + 1)), enc l2, enc l3]) rfl (zf_c2 h _) (Nat.lt_trans (zf_l h _) (by decide)) rfl rfl (by decide) rfl).trans ?_
  exact k
theorem zs_151_15 (h : zOk b n f) (hST : ∀ s, 1 ≤ s → s < 169 → ST s = ex_st s) {l1 : Int} {l2 : Int} {l3 : Nat} {s0 : Int} (zl1 : zR l1) (zl2 : zR l2) (zl3 : ex_c2 l3 = false ∧ l3 < 1099511627776) (zs0 : zR s0) (k : (if 0 ≤ l2 ∧ l2 < 8 then (if 0 ≤ s0 ∧ s0 < 8 then (if nz (g (1 + 1) l2) = sa_SPOT_X s0 then (if 0 ≤ l2 ∧ l2 < 8 then (if 0 ≤ s0 ∧ s0 < 8 then (if nz (g (1 + 2) l2) = sa_SPOT_Y s0 then (if 0 ≤ l2 ∧ l2 < 8 then (if 0 ≤ s0 ∧ s0 < 8 then (if nz (g (1 + 3) l2) = sa_SPOT_F s0 then zRn AL V ST ex_km d kt_151 70 (zP [zf b 0, enc l1, enc l2, enc s0]) [] (zM n (zWf b f g)) else k151_67 V ST d (zCl AL V ST ex_km d) (zRn AL V ST ex_km d kt_151) (zP [zf b 0, enc l1, enc l2, enc s0]) [] (zM n (zWf b f g))) else none) else none) else zRn AL V ST ex_km d kt_151 67 (zP [zf b 0, enc l1, enc l2, enc s0]) [] (zM n (zWf b f g))) else none) else none) else zRn AL V ST ex_km d kt_151 67 (zP [zf b 0, enc l1, enc l2, enc s0]) [] (zM n (zWf b f g))) else none) else none) = some r) : k151_15 V ST d (zCl AL V ST ex_km d) (zRn AL V ST ex_km d kt_151) (zP [zf b 0, enc l1, enc l2, l3]) [enc s0] (zM n (zWf b f g)) = some r := by
  unfold k151_15
  refine (zr_istore (w := enc l2) (vs' := [zf b 0, enc l1, enc l2, enc s0]) rfl (enc_c2 _) (Nat.lt_trans (enc_lt _) (by decide)) (by decide) rfl (enc_lt _)).trans ?_
  refine (zr_aload (v := zf b 0) rfl (zf_tA h _)).trans ?_
  refine (zr_gfr h (tr_hall_dancers rfl)).trans ?_
  refine (zr_gfr h (tr_pl_x (Or.inl rfl))).trans ?_
  refine (zr_iload (v := enc l2) rfl (enc_lt _)).trans ?_
  by_cases c1 : 0 ≤ l2 ∧ l2 < 8
  · rw [if_pos c1] at k
    refine (zr_iald h (ta_pl_x (Or.inl rfl)) c1.1 (by have := c1.2; omega)).trans ?_
    refine (zr_psh).trans ?_
    refine (zr_iload (v := enc s0) rfl (enc_lt _)).trans ?_
    by_cases c2 : 0 ≤ s0 ∧ s0 < 8
    · rw [if_pos c2] at k
      refine (zr_iaS (s := 7) (m := 8) ((hST 7 (by decide) (by decide)).symm ▸ (by decide +kernel : ex_get (ex_st 7) 0 = 64 + 256 * 8)) (by decide) c2.1 (by have := c2.2; omega) (by rw [hST 7 (by decide) (by decide)]; exact sa_SPOT_X_E c2.1 c2.2) (by decide)).trans ?_
      by_cases c3 : nz (g (1 + 1) l2) = sa_SPOT_X s0
      · rw [if_pos c3] at k
        refine (zr_icmp_ne_n (nz_R _) (sa_SPOT_X_R _) c3).trans ?_
        refine (zr_aload (v := zf b 0) rfl (zf_tA h _)).trans ?_
        refine (zr_gfr h (tr_hall_dancers rfl)).trans ?_
        refine (zr_gfr h (tr_pl_y (Or.inl rfl))).trans ?_
        refine (zr_iload (v := enc l2) rfl (enc_lt _)).trans ?_
        by_cases c4 : 0 ≤ l2 ∧ l2 < 8
        · rw [if_pos c4] at k
          refine (zr_iald h (ta_pl_y (Or.inl rfl)) c4.1 (by have := c4.2; omega)).trans ?_
          refine (zr_psh).trans ?_
          refine (zr_iload (v := enc s0) rfl (enc_lt _)).trans ?_
          by_cases c5 : 0 ≤ s0 ∧ s0 < 8
          · rw [if_pos c5] at k
            refine (zr_iaS (s := 8) (m := 8) ((hST 8 (by decide) (by decide)).symm ▸ (by decide +kernel : ex_get (ex_st 8) 0 = 64 + 256 * 8)) (by decide) c5.1 (by have := c5.2; omega) (by rw [hST 8 (by decide) (by decide)]; exact sa_SPOT_Y_E c5.1 c5.2) (by decide)).trans ?_
            by_cases c6 : nz (g (1 + 2) l2) = sa_SPOT_Y s0
            · rw [if_pos c6] at k
              refine (zr_icmp_ne_n (nz_R _) (sa_SPOT_Y_R _) c6).trans ?_
              refine (zr_aload (v := zf b 0) rfl (zf_tA h _)).trans ?_
              refine (zr_gfr h (tr_hall_dancers rfl)).trans ?_
              refine (zr_gfr h (tr_pl_f (Or.inl rfl))).trans ?_
              refine (zr_iload (v := enc l2) rfl (enc_lt _)).trans ?_
              by_cases c7 : 0 ≤ l2 ∧ l2 < 8
              · rw [if_pos c7] at k
                refine (zr_iald h (ta_pl_f (Or.inl rfl)) c7.1 (by have := c7.2; omega)).trans ?_
                refine (zr_psh).trans ?_
                refine (zr_iload (v := enc s0) rfl (enc_lt _)).trans ?_
                by_cases c8 : 0 ≤ s0 ∧ s0 < 8
                · rw [if_pos c8] at k
                  refine (zr_iaS (s := 6) (m := 8) ((hST 6 (by decide) (by decide)).symm ▸ (by decide +kernel : ex_get (ex_st 6) 0 = 64 + 256 * 8)) (by decide) c8.1 (by have := c8.2; omega) (by rw [hST 6 (by decide) (by decide)]; exact sa_SPOT_F_E c8.1 c8.2) (by decide)).trans ?_
                  by_cases c9 : nz (g (1 + 3) l2) = sa_SPOT_F s0
                  · rw [if_pos c9] at k
                    exact (zr_icmp_eq_t (nz_R _) (sa_SPOT_F_R _) c9).trans k
                  · rw [if_neg c9] at k
                    refine (zr_icmp_eq_n (nz_R _) (sa_SPOT_F_R _) c9).trans ?_
                    exact k
                · rw [if_neg c8] at k; cases k
              · rw [if_neg c7] at k; cases k
            · rw [if_neg c6] at k
              exact (zr_icmp_ne_t (nz_R _) (sa_SPOT_Y_R _) c6).trans k
          · rw [if_neg c5] at k; cases k
        · rw [if_neg c4] at k; cases k
      · rw [if_neg c3] at k
        exact (zr_icmp_ne_t (nz_R _) (sa_SPOT_X_R _) c3).trans k
    · rw [if_neg c2] at k; cases k
  · rw [if_neg c1] at k; cases k
theorem zs_151_4 (h : zOk b n f) {l1 : Int} {l2 : Int} {l3 : Nat} (zl1 : zR l1) (zl2 : zR l2) (zl3 : ex_c2 l3 = false ∧ l3 < 1099511627776) (k : (if l2 < 8 then zTh (zCl AL V ST ex_km d 150 [zf b 0, enc l2] (zM n (zWf b f g))) (zM n (zWf b f g)) [] (fun S M => k151_15 V ST d (zCl AL V ST ex_km d) (zRn AL V ST ex_km d kt_151) (zP [zf b 0, enc l1, enc l2, l3]) S M) else zRn AL V ST ex_km d kt_151 76 (zP [zf b 0, enc l1, enc l2, l3]) [] (zM n (zWf b f g))) = some r) : k151_4 V ST d (zCl AL V ST ex_km d) (zRn AL V ST ex_km d kt_151) (zP [zf b 0, enc l1, enc l2, l3]) [] (zM n (zWf b f g)) = some r := by
  unfold k151_4
  refine (zr_iload (v := enc l2) rfl (enc_lt _)).trans ?_
  refine (zr_pshi 8 rfl).trans ?_
  by_cases c1 : l2 < 8
  · rw [if_pos c1] at k
    refine (zr_icmp_ge_n (zl2) ((by unfold zR; omega)) c1).trans ?_
    refine (zr_aload (v := zf b 0) rfl (zf_tA h _)).trans ?_
    refine (zr_iload (v := enc l2) rfl (enc_lt _)).trans ?_
    refine zr_invV h [enc l2] rfl (tk_hall rfl) (zA_cons (enc_l _) zA_nil) (zA_nil) (by decide) ?_
    exact k
  · rw [if_neg c1] at k
    exact (zr_icmp_ge_t (zl2) ((by unfold zR; omega)) (Int.not_lt.mp c1)).trans k
theorem zs_151_0 (h : zOk b n f)   (k : k151_4 V ST d (zCl AL V ST ex_km d) (zRn AL V ST ex_km d kt_151) (zP [zf b 0, enc 0, enc 0, 137438953472]) [] (zM n (zWf b f g)) = some r) : k151_0 V ST d (zCl AL V ST ex_km d) (zRn AL V ST ex_km d kt_151) (zP [zf b 0, 137438953472, 137438953472, 137438953472]) [] (zM n (zWf b f g)) = some r := by
  unfold k151_0
  refine (zr_pshi 0 rfl).trans ?_
  refine (zr_istore (w := zf b 0) (vs' := [zf b 0, enc 0, 137438953472, 137438953472]) rfl (zf_c2 h _) (Nat.lt_trans (zf_l h _) (by decide)) (by decide) rfl (enc_lt _)).trans ?_
  refine (zr_pshi 0 rfl).trans ?_
  refine (zr_istore (w := enc 0) (vs' := [zf b 0, enc 0, enc 0, 137438953472]) rfl (enc_c2 _) (Nat.lt_trans (enc_lt _) (by decide)) (by decide) rfl (enc_lt _)).trans ?_
  exact k
theorem zs_152_122 (h : zOk b n f) {l1 : Nat} {ml1 : Nat} {l2 : Nat} {ml2 : Nat} {l3 : Nat} {ml3 : Nat} {l4 : Int} {l5 : Nat} {l6 : Nat} {l7 : Nat} (zl1 : zAr l1 64 ml1) (zl2 : zAr l2 64 ml2) (zl3 : zAr l3 64 ml3) (zl4 : zR l4) (zl5 : ex_c2 l5 = false ∧ l5 < 1099511627776) (zl6 : ex_c2 l6 = false ∧ l6 < 1099511627776) (zl7 : ex_c2 l7 = false ∧ l7 < 1099511627776) (k : some (enc 0, (zM n (zWf b f g))) = some r) : k152_122 V ST d (zCl AL V ST ex_km d) (zRn AL V ST ex_km d kt_152) (zP [zf b 0, zf b l1, zf b l2, zf b l3, enc l4, l5, l6, l7]) [] (zM n (zWf b f g)) = some r := by
  unfold k152_122
  refine (zr_pshi 0 rfl).trans ?_
  exact (zr_breturn (by decide)).trans k
theorem zs_152_116 (h : zOk b n f) {l1 : Nat} {ml1 : Nat} {l2 : Nat} {ml2 : Nat} {l3 : Nat} {ml3 : Nat} {l4 : Int} {l5 : Int} {l6 : Int} {l7 : Nat} (zl1 : zAr l1 64 ml1) (zl2 : zAr l2 64 ml2) (zl3 : zAr l3 64 ml3) (zl4 : zR l4) (zl5 : zR l5) (zl6 : zR l6) (zl7 : ex_c2 l7 = false ∧ l7 < 1099511627776) (k : zRn AL V ST ex_km d kt_152 3 (zP [zf b 0, zf b l1, zf b l2, zf b l3, enc (nz (l4 + 1)), enc l5, enc l6, l7]) [] (zM n (zWf b f g)) = some r) : k152_116 V ST d (zCl AL V ST ex_km d) (zRn AL V ST ex_km d kt_152) (zP [zf b 0, zf b l1, zf b l2, zf b l3, enc l4, enc l5, enc l6, l7]) [] (zM n (zWf b f g)) = some r := by
  unfold k152_116
  refine (zr_iinc (w := zf b l3) (x := l4) (i' := 1) (vs' := [zf b 0, zf b l1, zf b l2, zf b l3, enc (nz (l4 + 1)), enc l5, enc l6, l7]) rfl (zf_c2 h _) (Nat.lt_trans (zf_l h _) (by decide)) rfl rfl (by decide) rfl).trans ?_
  exact (zr_goto).trans k
theorem zs_152_107 (h : zOk b n f) {l1 : Nat} {ml1 : Nat} {l2 : Nat} {ml2 : Nat} {l3 : Nat} {ml3 : Nat} {l4 : Int} {l5 : Int} {l6 : Int} {l7 : Nat} (zl1 : zAr l1 64 ml1) (zl2 : zAr l2 64 ml2) (zl3 : zAr l3 64 ml3) (zl4 : zR l4) (zl5 : zR l5) (zl6 : zR l6) (zl7 : ex_c2 l7 = false ∧ l7 < 1099511627776) (k : (if l5 = 8 then some (enc 1, (zM n (zWf b f g))) else zRn AL V ST ex_km d kt_152 116 (zP [zf b 0, zf b l1, zf b l2, zf b l3, enc l4, enc l5, enc l6, l7]) [] (zM n (zWf b f g))) = some r) : k152_107 V ST d (zCl AL V ST ex_km d) (zRn AL V ST ex_km d kt_152) (zP [zf b 0, zf b l1, zf b l2, zf b l3, enc l4, enc l5, enc l6, l7]) [] (zM n (zWf b f g)) = some r := by
  unfold k152_107
  refine (zr_iload (v := enc l5) rfl (enc_lt _)).trans ?_
  refine (zr_pshi 8 rfl).trans ?_
  by_cases c1 : l5 = 8
  · rw [if_pos c1] at k
    refine (zr_icmp_ne_n (zl5) ((by unfold zR; omega)) c1).trans ?_
    refine (zr_pshi 1 rfl).trans ?_
    exact (zr_breturn (by decide)).trans k
  · rw [if_neg c1] at k
    exact (zr_icmp_ne_t (zl5) ((by unfold zR; omega)) c1).trans k
theorem zs_152_101 (h : zOk b n f) {l1 : Nat} {ml1 : Nat} {l2 : Nat} {ml2 : Nat} {l3 : Nat} {ml3 : Nat} {l4 : Int} {l5 : Int} {l6 : Int} {l7 : Int} (zl1 : zAr l1 64 ml1) (zl2 : zAr l2 64 ml2) (zl3 : zAr l3 64 ml3) (zl4 : zR l4) (zl5 : zR l5) (zl6 : zR l6) (zl7 : zR l7) (k : zRn AL V ST ex_km d kt_152 15 (zP [zf b 0, zf b l1, zf b l2, zf b l3, enc l4, enc l5, enc (nz (l6 + 1)), enc l7]) [] (zM n (zWf b f g)) = some r) : k152_101 V ST d (zCl AL V ST ex_km d) (zRn AL V ST ex_km d kt_152) (zP [zf b 0, zf b l1, zf b l2, zf b l3, enc l4, enc l5, enc l6, enc l7]) [] (zM n (zWf b f g)) = some r := by
  unfold k152_101
  refine (zr_iinc (w := enc l5) (x := l6) (i' := 1) (vs' := [zf b 0, zf b l1, zf b l2, zf b l3, enc l4, enc l5, enc (nz (l6 + 1)), enc l7]) rfl (enc_c2 _) (Nat.lt_trans (enc_lt _) (by decide)) rfl rfl (by decide) rfl).trans ?_
  exact (zr_goto).trans k
theorem zs_152_49 (h : zOk b n f) (hST : ∀ s, 1 ≤ s → s < 169 → ST s = ex_st s) {l1 : Nat} {ml1 : Nat} {l2 : Nat} {ml2 : Nat} {l3 : Nat} {ml3 : Nat} {l4 : Int} {l5 : Int} {l6 : Int} {l7 : Nat} {s0 : Int} (zl1 : zAr l1 64 ml1) (zl2 : zAr l2 64 ml2) (zl3 : zAr l3 64 ml3) (zl4 : zR l4) (zl5 : zR l5) (zl6 : zR l6) (zl7 : ex_c2 l7 = false ∧ l7 < 1099511627776) (zs0 : zR s0) (k : (if 0 ≤ l6 ∧ l6 < ml1 then (if 0 ≤ zand (nz (s0 + (nz (2 * l4)))) 7 ∧ zand (nz (s0 + (nz (2 * l4)))) 7 < 8 then (if nz (g l1 l6) = sa_SPOT_X (zand (nz (s0 + (nz (2 * l4)))) 7) then (if 0 ≤ l6 ∧ l6 < ml2 then (if 0 ≤ zand (nz (s0 + (nz (2 * l4)))) 7 ∧ zand (nz (s0 + (nz (2 * l4)))) 7 < 8 then (if nz (g l2 l6) = sa_SPOT_Y (zand (nz (s0 + (nz (2 * l4)))) 7) then (if 0 ≤ l6 ∧ l6 < ml3 then (if 0 ≤ zand (nz (s0 + (nz (2 * l4)))) 7 ∧ zand (nz (s0 + (nz (2 * l4)))) 7 < 8 then (if nz (g l3 l6) = sa_SPOT_F (zand (nz (s0 + (nz (2 * l4)))) 7) then k152_101 V ST d (zCl AL V ST ex_km d) (zRn AL V ST ex_km d kt_152) (zP [zf b 0, zf b l1, zf b l2, zf b l3, enc l4, enc (nz (l5 + 1)), enc l6, enc (zand (nz (s0 + (nz (2 * l4)))) 7)]) [] (zM n (zWf b f g)) else zRn AL V ST ex_km d kt_152 101 (zP [zf b 0, zf b l1, zf b l2, zf b l3, enc l4, enc l5, enc l6, enc (zand (nz (s0 + (nz (2 * l4)))) 7)]) [] (zM n (zWf b f g))) else none) else none) else zRn AL V ST ex_km d kt_152 101 (zP [zf b 0, zf b l1, zf b l2, zf b l3, enc l4, enc l5, enc l6, enc (zand (nz (s0 + (nz (2 * l4)))) 7)]) [] (zM n (zWf b f g))) else none) else none) else zRn AL V ST ex_km d kt_152 101 (zP [zf b 0, zf b l1, zf b l2, zf b l3, enc l4, enc l5, enc l6, enc (zand (nz (s0 + (nz (2 * l4)))) 7)]) [] (zM n (zWf b f g))) else none) else none) = some r) : k152_49 V ST d (zCl AL V ST ex_km d) (zRn AL V ST ex_km d kt_152) (zP [zf b 0, zf b l1, zf b l2, zf b l3, enc l4, enc l5, enc l6, l7]) [enc s0] (zM n (zWf b f g)) = some r := by
  unfold k152_49
  refine (zr_pshi 2 rfl).trans ?_
  refine (zr_iload (v := enc l4) rfl (enc_lt _)).trans ?_
  refine (zr_imul).trans ?_
  refine (zr_iadd).trans ?_
  refine (zr_pshi 7 rfl).trans ?_
  refine (zr_iand).trans ?_
  refine (zr_istore (w := enc l6) (vs' := [zf b 0, zf b l1, zf b l2, zf b l3, enc l4, enc l5, enc l6, enc (zand (nz (s0 + (nz (2 * l4)))) 7)]) rfl (enc_c2 _) (Nat.lt_trans (enc_lt _) (by decide)) (by decide) rfl (enc_lt _)).trans ?_
  refine (zr_aload (v := zf b l1) rfl (zf_tA h _)).trans ?_
  refine (zr_iload (v := enc l6) rfl (enc_lt _)).trans ?_
  by_cases c1 : 0 ≤ l6 ∧ l6 < ml1
  · rw [if_pos c1] at k
    refine (zr_iald h zl1 c1.1 (by have := c1.2; omega)).trans ?_
    refine (zr_psh).trans ?_
    refine (zr_iload (v := enc (zand (nz (s0 + (nz (2 * l4)))) 7)) rfl (enc_lt _)).trans ?_
    by_cases c2 : 0 ≤ zand (nz (s0 + (nz (2 * l4)))) 7 ∧ zand (nz (s0 + (nz (2 * l4)))) 7 < 8
    · rw [if_pos c2] at k
      refine (zr_iaS (s := 7) (m := 8) ((hST 7 (by decide) (by decide)).symm ▸ (by decide +kernel : ex_get (ex_st 7) 0 = 64 + 256 * 8)) (by decide) c2.1 (by have := c2.2; omega) (by rw [hST 7 (by decide) (by decide)]; exact sa_SPOT_X_E c2.1 c2.2) (by decide)).trans ?_
      by_cases c3 : nz (g l1 l6) = sa_SPOT_X (zand (nz (s0 + (nz (2 * l4)))) 7)
      · rw [if_pos c3] at k
        refine (zr_icmp_ne_n (nz_R _) (sa_SPOT_X_R _) c3).trans ?_
        refine (zr_aload (v := zf b l2) rfl (zf_tA h _)).trans ?_
        refine (zr_iload (v := enc l6) rfl (enc_lt _)).trans ?_
        by_cases c4 : 0 ≤ l6 ∧ l6 < ml2
        · rw [if_pos c4] at k
          refine (zr_iald h zl2 c4.1 (by have := c4.2; omega)).trans ?_
          refine (zr_psh).trans ?_
          refine (zr_iload (v := enc (zand (nz (s0 + (nz (2 * l4)))) 7)) rfl (enc_lt _)).trans ?_
          by_cases c5 : 0 ≤ zand (nz (s0 + (nz (2 * l4)))) 7 ∧ zand (nz (s0 + (nz (2 * l4)))) 7 < 8
          · rw [if_pos c5] at k
            refine (zr_iaS (s := 8) (m := 8) ((hST 8 (by decide) (by decide)).symm ▸ (by decide +kernel : ex_get (ex_st 8) 0 = 64 + 256 * 8)) (by decide) c5.1 (by have := c5.2; omega) (by rw [hST 8 (by decide) (by decide)]; exact sa_SPOT_Y_E c5.1 c5.2) (by decide)).trans ?_
            by_cases c6 : nz (g l2 l6) = sa_SPOT_Y (zand (nz (s0 + (nz (2 * l4)))) 7)
            · rw [if_pos c6] at k
              refine (zr_icmp_ne_n (nz_R _) (sa_SPOT_Y_R _) c6).trans ?_
              refine (zr_aload (v := zf b l3) rfl (zf_tA h _)).trans ?_
              refine (zr_iload (v := enc l6) rfl (enc_lt _)).trans ?_
              by_cases c7 : 0 ≤ l6 ∧ l6 < ml3
              · rw [if_pos c7] at k
                refine (zr_iald h zl3 c7.1 (by have := c7.2; omega)).trans ?_
                refine (zr_psh).trans ?_
                refine (zr_iload (v := enc (zand (nz (s0 + (nz (2 * l4)))) 7)) rfl (enc_lt _)).trans ?_
                by_cases c8 : 0 ≤ zand (nz (s0 + (nz (2 * l4)))) 7 ∧ zand (nz (s0 + (nz (2 * l4)))) 7 < 8
                · rw [if_pos c8] at k
                  refine (zr_iaS (s := 6) (m := 8) ((hST 6 (by decide) (by decide)).symm ▸ (by decide +kernel : ex_get (ex_st 6) 0 = 64 + 256 * 8)) (by decide) c8.1 (by have := c8.2; omega) (by rw [hST 6 (by decide) (by decide)]; exact sa_SPOT_F_E c8.1 c8.2) (by decide)).trans ?_
                  by_cases c9 : nz (g l3 l6) = sa_SPOT_F (zand (nz (s0 + (nz (2 * l4)))) 7)
                  · rw [if_pos c9] at k
                    refine (zr_icmp_ne_n (nz_R _) (sa_SPOT_F_R _) c9).trans ?_
                    refine (zr_iinc (w := enc l4) (x := l5) (i' := 1) (vs' := [zf b 0, zf b l1, zf b l2, zf b l3, enc l4, enc (nz (l5 + 1)), enc l6, enc (zand (nz (s0 + (nz (2 * l4)))) 7)]) rfl (enc_c2 _) (Nat.lt_trans (enc_lt _) (by decide)) rfl rfl (by decide) rfl).trans ?_
                    exact k
                  · rw [if_neg c9] at k
                    exact (zr_icmp_ne_t (nz_R _) (sa_SPOT_F_R _) c9).trans k
                · rw [if_neg c8] at k; cases k
              · rw [if_neg c7] at k; cases k
            · rw [if_neg c6] at k
              exact (zr_icmp_ne_t (nz_R _) (sa_SPOT_Y_R _) c6).trans k
          · rw [if_neg c5] at k; cases k
        · rw [if_neg c4] at k; cases k
      · rw [if_neg c3] at k
        exact (zr_icmp_ne_t (nz_R _) (sa_SPOT_X_R _) c3).trans k
    · rw [if_neg c2] at k; cases k
  · rw [if_neg c1] at k; cases k
theorem zs_152_15 (h : zOk b n f) {l1 : Nat} {ml1 : Nat} {l2 : Nat} {ml2 : Nat} {l3 : Nat} {ml3 : Nat} {l4 : Int} {l5 : Int} {l6 : Int} {l7 : Nat} (zl1 : zAr l1 64 ml1) (zl2 : zAr l2 64 ml2) (zl3 : zAr l3 64 ml3) (zl4 : zR l4) (zl5 : zR l5) (zl6 : zR l6) (zl7 : ex_c2 l7 = false ∧ l7 < 1099511627776) (k : (if l6 < 8 then (if l6 < (ml1 : Int) then (if l6 < (ml2 : Int) then (if l6 < (ml3 : Int) then zTh (zCl AL V ST ex_km d 150 [zf b 0, enc l6] (zM n (zWf b f g))) (zM n (zWf b f g)) [] (fun S M => k152_49 V ST d (zCl AL V ST ex_km d) (zRn AL V ST ex_km d kt_152) (zP [zf b 0, zf b l1, zf b l2, zf b l3, enc l4, enc l5, enc l6, l7]) S M) else zRn AL V ST ex_km d kt_152 107 (zP [zf b 0, zf b l1, zf b l2, zf b l3, enc l4, enc l5, enc l6, l7]) [] (zM n (zWf b f g))) else zRn AL V ST ex_km d kt_152 107 (zP [zf b 0, zf b l1, zf b l2, zf b l3, enc l4, enc l5, enc l6, l7]) [] (zM n (zWf b f g))) else zRn AL V ST ex_km d kt_152 107 (zP [zf b 0, zf b l1, zf b l2, zf b l3, enc l4, enc l5, enc l6, l7]) [] (zM n (zWf b f g))) else zRn AL V ST ex_km d kt_152 107 (zP [zf b 0, zf b l1, zf b l2, zf b l3, enc l4, enc l5, enc l6, l7]) [] (zM n (zWf b f g))) = some r) : k152_15 V ST d (zCl AL V ST ex_km d) (zRn AL V ST ex_km d kt_152) (zP [zf b 0, zf b l1, zf b l2, zf b l3, enc l4, enc l5, enc l6, l7]) [] (zM n (zWf b f g)) = some r := by
  unfold k152_15
  refine (zr_iload (v := enc l6) rfl (enc_lt _)).trans ?_
  refine (zr_pshi 8 rfl).trans ?_
  by_cases c1 : l6 < 8
  · rw [if_pos c1] at k
    refine (zr_icmp_ge_n (zl6) ((by unfold zR; omega)) c1).trans ?_
    refine (zr_iload (v := enc l6) rfl (enc_lt _)).trans ?_
    refine (zr_aload (v := zf b l1) rfl (zf_tA h _)).trans ?_
    refine (zr_alen h zl1 (by decide)).trans ?_
    by_cases c2 : l6 < (ml1 : Int)
    · rw [if_pos c2] at k
      refine (zr_icmp_ge_n (zl6) ((zAr_R zl1)) c2).trans ?_
      refine (zr_iload (v := enc l6) rfl (enc_lt _)).trans ?_
      refine (zr_aload (v := zf b l2) rfl (zf_tA h _)).trans ?_
      refine (zr_alen h zl2 (by decide)).trans ?_
      by_cases c3 : l6 < (ml2 : Int)
      · rw [if_pos c3] at k
        refine (zr_icmp_ge_n (zl6) ((zAr_R zl2)) c3).trans ?_
        refine (zr_iload (v := enc l6) rfl (enc_lt _)).trans ?_
        refine (zr_aload (v := zf b l3) rfl (zf_tA h _)).trans ?_
        refine (zr_alen h zl3 (by decide)).trans ?_
        by_cases c4 : l6 < (ml3 : Int)
        · rw [if_pos c4] at k
          refine (zr_icmp_ge_n (zl6) ((zAr_R zl3)) c4).trans ?_
          refine (zr_aload (v := zf b 0) rfl (zf_tA h _)).trans ?_
          refine (zr_iload (v := enc l6) rfl (enc_lt _)).trans ?_
          refine zr_invV h [enc l6] rfl (tk_hall rfl) (zA_cons (enc_l _) zA_nil) (zA_nil) (by decide) ?_
          exact k
        · rw [if_neg c4] at k
          exact (zr_icmp_ge_t (zl6) ((zAr_R zl3)) (Int.not_lt.mp c4)).trans k
      · rw [if_neg c3] at k
        exact (zr_icmp_ge_t (zl6) ((zAr_R zl2)) (Int.not_lt.mp c3)).trans k
    · rw [if_neg c2] at k
      exact (zr_icmp_ge_t (zl6) ((zAr_R zl1)) (Int.not_lt.mp c2)).trans k
  · rw [if_neg c1] at k
    exact (zr_icmp_ge_t (zl6) ((by unfold zR; omega)) (Int.not_lt.mp c1)).trans k
theorem zs_152_3 (h : zOk b n f) {l1 : Nat} {ml1 : Nat} {l2 : Nat} {ml2 : Nat} {l3 : Nat} {ml3 : Nat} {l4 : Int} {l5 : Nat} {l6 : Nat} {l7 : Nat} (zl1 : zAr l1 64 ml1) (zl2 : zAr l2 64 ml2) (zl3 : zAr l3 64 ml3) (zl4 : zR l4) (zl5 : ex_c2 l5 = false ∧ l5 < 1099511627776) (zl6 : ex_c2 l6 = false ∧ l6 < 1099511627776) (zl7 : ex_c2 l7 = false ∧ l7 < 1099511627776) (k : (if l4 < 4 then k152_15 V ST d (zCl AL V ST ex_km d) (zRn AL V ST ex_km d kt_152) (zP [zf b 0, zf b l1, zf b l2, zf b l3, enc l4, enc 0, enc 0, l7]) [] (zM n (zWf b f g)) else zRn AL V ST ex_km d kt_152 122 (zP [zf b 0, zf b l1, zf b l2, zf b l3, enc l4, l5, l6, l7]) [] (zM n (zWf b f g))) = some r) : k152_3 V ST d (zCl AL V ST ex_km d) (zRn AL V ST ex_km d kt_152) (zP [zf b 0, zf b l1, zf b l2, zf b l3, enc l4, l5, l6, l7]) [] (zM n (zWf b f g)) = some r := by
  unfold k152_3
  refine (zr_iload (v := enc l4) rfl (enc_lt _)).trans ?_
  refine (zr_pshi 4 rfl).trans ?_
  by_cases c1 : l4 < 4
  · rw [if_pos c1] at k
    refine (zr_icmp_ge_n (zl4) ((by unfold zR; omega)) c1).trans ?_
    refine (zr_pshi 0 rfl).trans ?_
    refine (zr_istore (w := enc l4) (vs' := [zf b 0, zf b l1, zf b l2, zf b l3, enc l4, enc 0, l6, l7]) rfl (enc_c2 _) (Nat.lt_trans (enc_lt _) (by decide)) (by decide) rfl (enc_lt _)).trans ?_
    refine (zr_pshi 0 rfl).trans ?_
    refine (zr_istore (w := enc 0) (vs' := [zf b 0, zf b l1, zf b l2, zf b l3, enc l4, enc 0, enc 0, l7]) rfl (enc_c2 _) (Nat.lt_trans (enc_lt _) (by decide)) (by decide) rfl (enc_lt _)).trans ?_
    exact k
  · rw [if_neg c1] at k
    exact (zr_icmp_ge_t (zl4) ((by unfold zR; omega)) (Int.not_lt.mp c1)).trans k
theorem zs_152_0 (h : zOk b n f) {l1 : Nat} {ml1 : Nat} {l2 : Nat} {ml2 : Nat} {l3 : Nat} {ml3 : Nat} (zl1 : zAr l1 64 ml1) (zl2 : zAr l2 64 ml2) (zl3 : zAr l3 64 ml3) (k : k152_3 V ST d (zCl AL V ST ex_km d) (zRn AL V ST ex_km d kt_152) (zP [zf b 0, zf b l1, zf b l2, zf b l3, enc 0, 137438953472, 137438953472, 137438953472]) [] (zM n (zWf b f g)) = some r) : k152_0 V ST d (zCl AL V ST ex_km d) (zRn AL V ST ex_km d kt_152) (zP [zf b 0, zf b l1, zf b l2, zf b l3, 137438953472, 137438953472, 137438953472, 137438953472]) [] (zM n (zWf b f g)) = some r := by
  unfold k152_0
  refine (zr_pshi 0 rfl).trans ?_
  refine (zr_istore (w := zf b l3) (vs' := [zf b 0, zf b l1, zf b l2, zf b l3, enc 0, 137438953472, 137438953472, 137438953472]) rfl (zf_c2 h _) (Nat.lt_trans (zf_l h _) (by decide)) (by decide) rfl (enc_lt _)).trans ?_
  exact k
theorem zs_153_56 (h : zOk b n f) {l1 : Int} {l2 : Int} {l3 : Int} {l4 : Nat} {l5 : Nat} (zl1 : zR l1) (zl2 : zR l2) (zl3 : zR l3) (zl4 : ex_c2 l4 = false ∧ l4 < 1099511627776) (zl5 : ex_c2 l5 = false ∧ l5 < 1099511627776) (k : some (enc l2, (zM n (zWf b f g))) = some r) : k153_56 V ST d (zCl AL V ST ex_km d) (zRn AL V ST ex_km d kt_153) (zP [zf b 0, enc l1, enc l2, enc l3, l4, l5]) [] (zM n (zWf b f g)) = some r := by
  unfold k153_56
  refine (zr_iload (v := enc l2) rfl (enc_lt _)).trans ?_
  exact zr_ireturn.trans k
theorem zs_153_49 (h : zOk b n f) {l1 : Int} {l2 : Int} {l3 : Int} {l4 : Int} {l5 : Int} {s0 : Int} (zl1 : zR l1) (zl2 : zR l2) (zl3 : zR l3) (zl4 : zR l4) (zl5 : zR l5) (zs0 : zR s0) (k : zRn AL V ST ex_km d kt_153 5 (zP [zf b 0, enc l1, enc s0, enc (nz (l3 + 1)), enc l4, enc l5]) [] (zM n (zWf b f g)) = some r) : k153_49 V ST d (zCl AL V ST ex_km d) (zRn AL V ST ex_km d kt_153) (zP [zf b 0, enc l1, enc l2, enc l3, enc l4, enc l5]) [enc s0] (zM n (zWf b f g)) = some r := by
  unfold k153_49
  refine (zr_istore (w := enc l1) (vs' := [zf b 0, enc l1, enc s0, enc l3, enc l4, enc l5]) rfl (enc_c2 _) (Nat.lt_trans (enc_lt _) (by decide)) (by decide) rfl (enc_lt _)).trans ?_
  refine (zr_iinc (w := enc s0) (x := l3) (i' := 1) (vs' := [zf b 0, enc l1, enc s0, enc (nz (l3 + 1)), enc l4, enc l5]) rfl (enc_c2 _) (Nat.lt_trans (enc_lt _) (by decide)) rfl rfl (by decide) rfl).trans ?_
  exact (zr_goto).trans k
theorem zs_153_43 (h : zOk b n f) {l1 : Int} {l2 : Int} {l3 : Int} {l4 : Int} {l5 : Int} (zl1 : zR l1) (zl2 : zR l2) (zl3 : zR l3) (zl4 : zR l4) (zl5 : zR l5) (k : zTh (zCl AL V ST ex_km d 163 [enc l2, enc l4] (zM n (zWf b f g))) (zM n (zWf b f g)) [] (fun S M => k153_49 V ST d (zCl AL V ST ex_km d) (zRn AL V ST ex_km d kt_153) (zP [zf b 0, enc l1, enc l2, enc l3, enc l4, enc l5]) S M) = some r) : k153_43 V ST d (zCl AL V ST ex_km d) (zRn AL V ST ex_km d kt_153) (zP [zf b 0, enc l1, enc l2, enc l3, enc l4, enc l5]) [] (zM n (zWf b f g)) = some r := by
  unfold k153_43
  refine (zr_iload (v := enc l2) rfl (enc_lt _)).trans ?_
  refine (zr_iload (v := enc l4) rfl (enc_lt _)).trans ?_
  refine zr_invS [enc l4, enc l2] rfl (zA_cons (enc_l _) (zA_cons (enc_l _) zA_nil)) (zA_nil) (by decide) ?_
  exact k
theorem zs_153_37 (h : zOk b n f) {l1 : Int} {l2 : Int} {l3 : Int} {l4 : Int} {l5 : Int} (zl1 : zR l1) (zl2 : zR l2) (zl3 : zR l3) (zl4 : zR l4) (zl5 : zR l5) (k : zRn AL V ST ex_km d kt_153 16 (zP [zf b 0, enc l1, enc l2, enc l3, enc l4, enc (nz (l5 + 1))]) [] (zM n (zWf b f g)) = some r) : k153_37 V ST d (zCl AL V ST ex_km d) (zRn AL V ST ex_km d kt_153) (zP [zf b 0, enc l1, enc l2, enc l3, enc l4, enc l5]) [] (zM n (zWf b f g)) = some r := by
  unfold k153_37
  refine (zr_iinc (w := enc l4) (x := l5) (i' := 1) (vs' := [zf b 0, enc l1, enc l2, enc l3, enc l4, enc (nz (l5 + 1))]) rfl (enc_c2 _) (Nat.lt_trans (enc_lt _) (by decide)) rfl rfl (by decide) rfl).trans ?_
  exact (zr_goto).trans k
theorem zs_153_31 (h : zOk b n f) {l1 : Int} {l2 : Int} {l3 : Int} {l4 : Int} {l5 : Int} {s0 : Int} (zl1 : zR l1) (zl2 : zR l2) (zl3 : zR l3) (zl4 : zR l4) (zl5 : zR l5) (zs0 : zR s0) (k : (if s0 = 0 then k153_37 V ST d (zCl AL V ST ex_km d) (zRn AL V ST ex_km d kt_153) (zP [zf b 0, enc l1, enc l2, enc l3, enc (nz (l4 + 1)), enc l5]) [] (zM n (zWf b f g)) else zRn AL V ST ex_km d kt_153 37 (zP [zf b 0, enc l1, enc l2, enc l3, enc l4, enc l5]) [] (zM n (zWf b f g))) = some r) : k153_31 V ST d (zCl AL V ST ex_km d) (zRn AL V ST ex_km d kt_153) (zP [zf b 0, enc l1, enc l2, enc l3, enc l4, enc l5]) [enc s0] (zM n (zWf b f g)) = some r := by
  unfold k153_31
  by_cases c1 : s0 = 0
  · rw [if_pos c1] at k
    refine (zr_if_ne_n (zs0) c1).trans ?_
    refine (zr_iinc (w := enc l3) (x := l4) (i' := 1) (vs' := [zf b 0, enc l1, enc l2, enc l3, enc (nz (l4 + 1)), enc l5]) rfl (enc_c2 _) (Nat.lt_trans (enc_lt _) (by decide)) rfl rfl (by decide) rfl).trans ?_
    exact k
  · rw [if_neg c1] at k
    exact (zr_if_ne_t (zs0) c1).trans k
theorem zs_153_16 (h : zOk b n f) {l1 : Int} {l2 : Int} {l3 : Int} {l4 : Int} {l5 : Int} (zl1 : zR l1) (zl2 : zR l2) (zl3 : zR l3) (zl4 : zR l4) (zl5 : zR l5) (k : (if l5 < 8 then zTh (zCl AL V ST ex_km d 154 [zf b 0, enc l1, enc l5, enc l3] (zM n (zWf b f g))) (zM n (zWf b f g)) [] (fun S M => k153_31 V ST d (zCl AL V ST ex_km d) (zRn AL V ST ex_km d kt_153) (zP [zf b 0, enc l1, enc l2, enc l3, enc l4, enc l5]) S M) else zRn AL V ST ex_km d kt_153 43 (zP [zf b 0, enc l1, enc l2, enc l3, enc l4, enc l5]) [] (zM n (zWf b f g))) = some r) : k153_16 V ST d (zCl AL V ST ex_km d) (zRn AL V ST ex_km d kt_153) (zP [zf b 0, enc l1, enc l2, enc l3, enc l4, enc l5]) [] (zM n (zWf b f g)) = some r := by
  unfold k153_16
  refine (zr_iload (v := enc l5) rfl (enc_lt _)).trans ?_
  refine (zr_pshi 8 rfl).trans ?_
  by_cases c1 : l5 < 8
  · rw [if_pos c1] at k
    refine (zr_icmp_ge_n (zl5) ((by unfold zR; omega)) c1).trans ?_
    refine (zr_aload (v := zf b 0) rfl (zf_tA h _)).trans ?_
    refine (zr_iload (v := enc l1) rfl (enc_lt _)).trans ?_
    refine (zr_iload (v := enc l5) rfl (enc_lt _)).trans ?_
    refine (zr_iload (v := enc l3) rfl (enc_lt _)).trans ?_
    refine zr_invV h [enc l3, enc l5, enc l1] rfl (tk_hall rfl) (zA_cons (enc_l _) (zA_cons (enc_l _) (zA_cons (enc_l _) zA_nil))) (zA_nil) (by decide) ?_
    exact k
  · rw [if_neg c1] at k
    exact (zr_icmp_ge_t (zl5) ((by unfold zR; omega)) (Int.not_lt.mp c1)).trans k
theorem zs_153_5 (h : zOk b n f) {l1 : Int} {l2 : Int} {l3 : Int} {l4 : Nat} {l5 : Nat} (zl1 : zR l1) (zl2 : zR l2) (zl3 : zR l3) (zl4 : ex_c2 l4 = false ∧ l4 < 1099511627776) (zl5 : ex_c2 l5 = false ∧ l5 < 1099511627776) (k : (if l3 < 4 then k153_16 V ST d (zCl AL V ST ex_km d) (zRn AL V ST ex_km d kt_153) (zP [zf b 0, enc l1, enc l2, enc l3, enc 0, enc 0]) [] (zM n (zWf b f g)) else zRn AL V ST ex_km d kt_153 56 (zP [zf b 0, enc l1, enc l2, enc l3, l4, l5]) [] (zM n (zWf b f g))) = some r) : k153_5 V ST d (zCl AL V ST ex_km d) (zRn AL V ST ex_km d kt_153) (zP [zf b 0, enc l1, enc l2, enc l3, l4, l5]) [] (zM n (zWf b f g)) = some r := by
  unfold k153_5
  refine (zr_iload (v := enc l3) rfl (enc_lt _)).trans ?_
  refine (zr_pshi 4 rfl).trans ?_
  by_cases c1 : l3 < 4
  · rw [if_pos c1] at k
    refine (zr_icmp_ge_n (zl3) ((by unfold zR; omega)) c1).trans ?_
    refine (zr_pshi 0 rfl).trans ?_
    refine (zr_istore (w := enc l3) (vs' := [zf b 0, enc l1, enc l2, enc l3, enc 0, l5]) rfl (enc_c2 _) (Nat.lt_trans (enc_lt _) (by decide)) (by decide) rfl (enc_lt _)).trans ?_
    refine (zr_pshi 0 rfl).trans ?_
    refine (zr_istore (w := enc 0) (vs' := [zf b 0, enc l1, enc l2, enc l3, enc 0, enc 0]) rfl (enc_c2 _) (Nat.lt_trans (enc_lt _) (by decide)) (by decide) rfl (enc_lt _)).trans ?_
    exact k
  · rw [if_neg c1] at k
    exact (zr_icmp_ge_t (zl3) ((by unfold zR; omega)) (Int.not_lt.mp c1)).trans k
theorem zs_153_0 (h : zOk b n f) {l1 : Int} (zl1 : zR l1) (k : k153_5 V ST d (zCl AL V ST ex_km d) (zRn AL V ST ex_km d kt_153) (zP [zf b 0, enc l1, enc 8, enc 0, 137438953472, 137438953472]) [] (zM n (zWf b f g)) = some r) : k153_0 V ST d (zCl AL V ST ex_km d) (zRn AL V ST ex_km d kt_153) (zP [zf b 0, enc l1, 137438953472, 137438953472, 137438953472, 137438953472]) [] (zM n (zWf b f g)) = some r := by
  unfold k153_0
  refine (zr_pshi 8 rfl).trans ?_
  refine (zr_istore (w := enc l1) (vs' := [zf b 0, enc l1, enc 8, 137438953472, 137438953472, 137438953472]) rfl (enc_c2 _) (Nat.lt_trans (enc_lt _) (by decide)) (by decide) rfl (enc_lt _)).trans ?_
  refine (zr_pshi 0 rfl).trans ?_
  refine (zr_istore (w := enc 8) (vs' := [zf b 0, enc l1, enc 8, enc 0, 137438953472, 137438953472]) rfl (enc_c2 _) (Nat.lt_trans (enc_lt _) (by decide)) (by decide) rfl (enc_lt _)).trans ?_
  exact k
theorem zs_154_137 (h : zOk b n f) {l1 : Int} {l2 : Int} {l3 : Int} {l4 : Int} {l5 : Int} {l6 : Int} {l7 : Int} {l8 : Int} (zl1 : zR l1) (zl2 : zR l2) (zl3 : zR l3) (zl4 : zR l4) (zl5 : zR l5) (zl6 : zR l6) (zl7 : zR l7) (zl8 : zR l8) (k : some (enc 0, (zM n (zWf b f g))) = some r) : k154_137 V ST d (zCl AL V ST ex_km d) (zRn AL V ST ex_km d kt_154) (zP [zf b 0, enc l1, enc l2, enc l3, enc l4, enc l5, enc l6, enc l7, enc l8]) [] (zM n (zWf b f g)) = some r := by
  unfold k154_137
  refine (zr_pshi 0 rfl).trans ?_
  exact (zr_breturn (by decide)).trans k
theorem zs_154_131 (h : zOk b n f) {l1 : Int} {l2 : Int} {l3 : Int} {l4 : Int} {l5 : Int} {l6 : Int} {l7 : Int} {l8 : Int} (zl1 : zR l1) (zl2 : zR l2) (zl3 : zR l3) (zl4 : zR l4) (zl5 : zR l5) (zl6 : zR l6) (zl7 : zR l7) (zl8 : zR l8) (k : zRn AL V ST ex_km d kt_154 77 (zP [zf b 0, enc l1, enc l2, enc l3, enc l4, enc l5, enc l6, enc l7, enc (nz (l8 + 1))]) [] (zM n (zWf b f g)) = some r) : k154_131 V ST d (zCl AL V ST ex_km d) (zRn AL V ST ex_km d kt_154) (zP [zf b 0, enc l1, enc l2, enc l3, enc l4, enc l5, enc l6, enc l7, enc l8]) [] (zM n (zWf b f g)) = some r := by
  unfold k154_131
  refine (zr_iinc (w := enc l7) (x := l8) (i' := 1) (vs' := [zf b 0, enc l1, enc l2, enc l3, enc l4, enc l5, enc l6, enc l7, enc (nz (l8 + 1))]) rfl (enc_c2 _) (Nat.lt_trans (enc_lt _) (by decide)) rfl rfl (by decide) rfl).trans ?_
  exact (zr_goto).trans k
theorem zs_154_77 (h : zOk b n f) (hST : ∀ s, 1 ≤ s → s < 169 → ST s = ex_st s) {l1 : Int} {l2 : Int} {l3 : Int} {l4 : Int} {l5 : Int} {l6 : Int} {l7 : Int} {l8 : Int} (zl1 : zR l1) (zl2 : zR l2) (zl3 : zR l3) (zl4 : zR l4) (zl5 : zR l5) (zl6 : zR l6) (zl7 : zR l7) (zl8 : zR l8) (k : (if l8 < nz (l7 + 8) then (if l8 < 56 then (if 0 ≤ l8 ∧ l8 < 56 then (if sa_SHAPE_X l8 = l4 then (if 0 ≤ l8 ∧ l8 < 56 then (if sa_SHAPE_Y l8 = l5 then (if 0 ≤ l8 ∧ l8 < 56 then (if sa_SHAPE_F l8 = l6 then some (enc 1, (zM n (zWf b f g))) else zRn AL V ST ex_km d kt_154 131 (zP [zf b 0, enc l1, enc l2, enc l3, enc l4, enc l5, enc l6, enc l7, enc l8]) [] (zM n (zWf b f g))) else none) else zRn AL V ST ex_km d kt_154 131 (zP [zf b 0, enc l1, enc l2, enc l3, enc l4, enc l5, enc l6, enc l7, enc l8]) [] (zM n (zWf b f g))) else none) else zRn AL V ST ex_km d kt_154 131 (zP [zf b 0, enc l1, enc l2, enc l3, enc l4, enc l5, enc l6, enc l7, enc l8]) [] (zM n (zWf b f g))) else none) else zRn AL V ST ex_km d kt_154 137 (zP [zf b 0, enc l1, enc l2, enc l3, enc l4, enc l5, enc l6, enc l7, enc l8]) [] (zM n (zWf b f g))) else zRn AL V ST ex_km d kt_154 137 (zP [zf b 0, enc l1, enc l2, enc l3, enc l4, enc l5, enc l6, enc l7, enc l8]) [] (zM n (zWf b f g))) = some r) : k154_77 V ST d (zCl AL V ST ex_km d) (zRn AL V ST ex_km d kt_154) (zP [zf b 0, enc l1, enc l2, enc l3, enc l4, enc l5, enc l6, enc l7, enc l8]) [] (zM n (zWf b f g)) = some r := by
  unfold k154_77
  refine (zr_iload (v := enc l8) rfl (enc_lt _)).trans ?_
  refine (zr_iload (v := enc l7) rfl (enc_lt _)).trans ?_
  refine (zr_pshi 8 rfl).trans ?_
  refine (zr_iadd).trans ?_
  by_cases c1 : l8 < nz (l7 + 8)
  · rw [if_pos c1] at k
    refine (zr_icmp_ge_n (zl8) (nz_R _) c1).trans ?_
    refine (zr_iload (v := enc l8) rfl (enc_lt _)).trans ?_
    refine (zr_psh).trans ?_
    refine (zr_alenS (s := 4) (m := 56) ((hST 4 (by decide) (by decide)).symm ▸ (by decide +kernel : ex_get (ex_st 4) 0 = 64 + 256 * 56)) (by decide) (by decide)).trans ?_
    by_cases c2 : l8 < 56
    · rw [if_pos c2] at k
      refine (zr_icmp_ge_n (zl8) ((by unfold zR; omega)) c2).trans ?_
      refine (zr_psh).trans ?_
      refine (zr_iload (v := enc l8) rfl (enc_lt _)).trans ?_
      by_cases c3 : 0 ≤ l8 ∧ l8 < 56
      · rw [if_pos c3] at k
        refine (zr_iaS (s := 4) (m := 56) ((hST 4 (by decide) (by decide)).symm ▸ (by decide +kernel : ex_get (ex_st 4) 0 = 64 + 256 * 56)) (by decide) c3.1 (by have := c3.2; omega) (by rw [hST 4 (by decide) (by decide)]; exact sa_SHAPE_X_E c3.1 c3.2) (by decide)).trans ?_
        refine (zr_iload (v := enc l4) rfl (enc_lt _)).trans ?_
        by_cases c4 : sa_SHAPE_X l8 = l4
        · rw [if_pos c4] at k
          refine (zr_icmp_ne_n (sa_SHAPE_X_R _) (zl4) c4).trans ?_
          refine (zr_psh).trans ?_
          refine (zr_iload (v := enc l8) rfl (enc_lt _)).trans ?_
          by_cases c5 : 0 ≤ l8 ∧ l8 < 56
          · rw [if_pos c5] at k
            refine (zr_iaS (s := 5) (m := 56) ((hST 5 (by decide) (by decide)).symm ▸ (by decide +kernel : ex_get (ex_st 5) 0 = 64 + 256 * 56)) (by decide) c5.1 (by have := c5.2; omega) (by rw [hST 5 (by decide) (by decide)]; exact sa_SHAPE_Y_E c5.1 c5.2) (by decide)).trans ?_
            refine (zr_iload (v := enc l5) rfl (enc_lt _)).trans ?_
            by_cases c6 : sa_SHAPE_Y l8 = l5
            · rw [if_pos c6] at k
              refine (zr_icmp_ne_n (sa_SHAPE_Y_R _) (zl5) c6).trans ?_
              refine (zr_psh).trans ?_
              refine (zr_iload (v := enc l8) rfl (enc_lt _)).trans ?_
              by_cases c7 : 0 ≤ l8 ∧ l8 < 56
              · rw [if_pos c7] at k
                refine (zr_iaS (s := 3) (m := 56) ((hST 3 (by decide) (by decide)).symm ▸ (by decide +kernel : ex_get (ex_st 3) 0 = 64 + 256 * 56)) (by decide) c7.1 (by have := c7.2; omega) (by rw [hST 3 (by decide) (by decide)]; exact sa_SHAPE_F_E c7.1 c7.2) (by decide)).trans ?_
                refine (zr_iload (v := enc l6) rfl (enc_lt _)).trans ?_
                by_cases c8 : sa_SHAPE_F l8 = l6
                · rw [if_pos c8] at k
                  refine (zr_icmp_ne_n (sa_SHAPE_F_R _) (zl6) c8).trans ?_
                  refine (zr_pshi 1 rfl).trans ?_
                  exact (zr_breturn (by decide)).trans k
                · rw [if_neg c8] at k
                  exact (zr_icmp_ne_t (sa_SHAPE_F_R _) (zl6) c8).trans k
              · rw [if_neg c7] at k; cases k
            · rw [if_neg c6] at k
              exact (zr_icmp_ne_t (sa_SHAPE_Y_R _) (zl5) c6).trans k
          · rw [if_neg c5] at k; cases k
        · rw [if_neg c4] at k
          exact (zr_icmp_ne_t (sa_SHAPE_X_R _) (zl4) c4).trans k
      · rw [if_neg c3] at k; cases k
    · rw [if_neg c2] at k
      exact (zr_icmp_ge_t (zl8) ((by unfold zR; omega)) (Int.not_lt.mp c2)).trans k
  · rw [if_neg c1] at k
    exact (zr_icmp_ge_t (zl8) (nz_R _) (Int.not_lt.mp c1)).trans k
theorem zs_154_75 (h : zOk b n f) {l1 : Int} {l2 : Int} {l3 : Int} {l4 : Int} {l5 : Int} {l6 : Int} {l7 : Int} {s0 : Int} (zl1 : zR l1) (zl2 : zR l2) (zl3 : zR l3) (zl4 : zR l4) (zl5 : zR l5) (zl6 : zR l6) (zl7 : zR l7) (zs0 : zR s0) (k : k154_77 V ST d (zCl AL V ST ex_km d) (zRn AL V ST ex_km d kt_154) (zP [zf b 0, enc l1, enc l2, enc l3, enc l4, enc l5, enc l6, enc l7, enc s0]) [] (zM n (zWf b f g)) = some r) : k154_75 V ST d (zCl AL V ST ex_km d) (zRn AL V ST ex_km d kt_154) (zP [zf b 0, enc l1, enc l2, enc l3, enc l4, enc l5, enc l6, enc l7, 137438953472]) [enc s0] (zM n (zWf b f g)) = some r := by
  unfold k154_75
  refine (zr_istore (w := enc l7) (vs' := [zf b 0, enc l1, enc l2, enc l3, enc l4, enc l5, enc l6, enc l7, enc s0]) rfl (enc_c2 _) (Nat.lt_trans (enc_lt _) (by decide)) (by decide) rfl (enc_lt _)).trans ?_
  exact k
theorem zs_154_46 (h : zOk b n f) {l1 : Int} {l2 : Int} {l3 : Int} {l4 : Int} {s0 : Int} (zl1 : zR l1) (zl2 : zR l2) (zl3 : zR l3) (zl4 : zR l4) (zs0 : zR s0) (k : (if 0 ≤ l2 ∧ l2 < 8 then zTh (zCl AL V ST ex_km d 162 [enc 0, enc (nz (l1 * 8))] (zM n (zWf b f g))) (zM n (zWf b f g)) [] (fun S M => k154_75 V ST d (zCl AL V ST ex_km d) (zRn AL V ST ex_km d kt_154) (zP [zf b 0, enc l1, enc l2, enc l3, enc l4, enc s0, enc (zand (nz ((nz (g (1 + 3) l2)) - l3)) 3), enc (nz (l1 * 8)), 137438953472]) S M) else none) = some r) : k154_46 V ST d (zCl AL V ST ex_km d) (zRn AL V ST ex_km d kt_154) (zP [zf b 0, enc l1, enc l2, enc l3, enc l4, 137438953472, 137438953472, 137438953472, 137438953472]) [enc s0] (zM n (zWf b f g)) = some r := by
  unfold k154_46
  refine (zr_istore (w := enc l4) (vs' := [zf b 0, enc l1, enc l2, enc l3, enc l4, enc s0, 137438953472, 137438953472, 137438953472]) rfl (enc_c2 _) (Nat.lt_trans (enc_lt _) (by decide)) (by decide) rfl (enc_lt _)).trans ?_
  refine (zr_aload (v := zf b 0) rfl (zf_tA h _)).trans ?_
  refine (zr_gfr h (tr_hall_dancers rfl)).trans ?_
  refine (zr_gfr h (tr_pl_f (Or.inl rfl))).trans ?_
  refine (zr_iload (v := enc l2) rfl (enc_lt _)).trans ?_
  by_cases c1 : 0 ≤ l2 ∧ l2 < 8
  · rw [if_pos c1] at k
    refine (zr_iald h (ta_pl_f (Or.inl rfl)) c1.1 (by have := c1.2; omega)).trans ?_
    refine (zr_iload (v := enc l3) rfl (enc_lt _)).trans ?_
    refine (zr_isub).trans ?_
    refine (zr_pshi 3 rfl).trans ?_
    refine (zr_iand).trans ?_
    refine (zr_istore (w := enc s0) (vs' := [zf b 0, enc l1, enc l2, enc l3, enc l4, enc s0, enc (zand (nz ((nz (g (1 + 3) l2)) - l3)) 3), 137438953472, 137438953472]) rfl (enc_c2 _) (Nat.lt_trans (enc_lt _) (by decide)) (by decide) rfl (enc_lt _)).trans ?_
    refine (zr_iload (v := enc l1) rfl (enc_lt _)).trans ?_
    refine (zr_pshi 8 rfl).trans ?_
    refine (zr_imul).trans ?_
    refine (zr_istore (w := enc (zand (nz ((nz (g (1 + 3) l2)) - l3)) 3)) (vs' := [zf b 0, enc l1, enc l2, enc l3, enc l4, enc s0, enc (zand (nz ((nz (g (1 + 3) l2)) - l3)) 3), enc (nz (l1 * 8)), 137438953472]) rfl (enc_c2 _) (Nat.lt_trans (enc_lt _) (by decide)) (by decide) rfl (enc_lt _)).trans ?_
    refine (zr_pshi 0 rfl).trans ?_
    refine (zr_iload (v := enc (nz (l1 * 8))) rfl (enc_lt _)).trans ?_
    refine zr_invS [enc (nz (l1 * 8)), enc 0] rfl (zA_cons (enc_l _) (zA_cons (enc_l _) zA_nil)) (zA_nil) (by decide) ?_
    exact k
  · rw [if_neg c1] at k; cases k
theorem zs_154_22 (h : zOk b n f) {l1 : Int} {l2 : Int} {l3 : Int} {s0 : Int} (zl1 : zR l1) (zl2 : zR l2) (zl3 : zR l3) (zs0 : zR s0) (k : (if 0 ≤ l2 ∧ l2 < 8 then (if 0 ≤ l2 ∧ l2 < 8 then zTh (zCl AL V ST ex_km d 156 [enc (nz (g (1 + 1) l2)), enc (nz (g (1 + 2) l2)), enc l3] (zM n (zWf b f g))) (zM n (zWf b f g)) [] (fun S M => k154_46 V ST d (zCl AL V ST ex_km d) (zRn AL V ST ex_km d kt_154) (zP [zf b 0, enc l1, enc l2, enc l3, enc s0, 137438953472, 137438953472, 137438953472, 137438953472]) S M) else none) else none) = some r) : k154_22 V ST d (zCl AL V ST ex_km d) (zRn AL V ST ex_km d kt_154) (zP [zf b 0, enc l1, enc l2, enc l3, 137438953472, 137438953472, 137438953472, 137438953472, 137438953472]) [enc s0] (zM n (zWf b f g)) = some r := by
  unfold k154_22
  refine (zr_istore (w := enc l3) (vs' := [zf b 0, enc l1, enc l2, enc l3, enc s0, 137438953472, 137438953472, 137438953472, 137438953472]) rfl (enc_c2 _) (Nat.lt_trans (enc_lt _) (by decide)) (by decide) rfl (enc_lt _)).trans ?_
  refine (zr_aload (v := zf b 0) rfl (zf_tA h _)).trans ?_
  refine (zr_gfr h (tr_hall_dancers rfl)).trans ?_
  refine (zr_gfr h (tr_pl_x (Or.inl rfl))).trans ?_
  refine (zr_iload (v := enc l2) rfl (enc_lt _)).trans ?_
  by_cases c1 : 0 ≤ l2 ∧ l2 < 8
  · rw [if_pos c1] at k
    refine (zr_iald h (ta_pl_x (Or.inl rfl)) c1.1 (by have := c1.2; omega)).trans ?_
    refine (zr_aload (v := zf b 0) rfl (zf_tA h _)).trans ?_
    refine (zr_gfr h (tr_hall_dancers rfl)).trans ?_
    refine (zr_gfr h (tr_pl_y (Or.inl rfl))).trans ?_
    refine (zr_iload (v := enc l2) rfl (enc_lt _)).trans ?_
    by_cases c2 : 0 ≤ l2 ∧ l2 < 8
    · rw [if_pos c2] at k
      refine (zr_iald h (ta_pl_y (Or.inl rfl)) c2.1 (by have := c2.2; omega)).trans ?_
      refine (zr_iload (v := enc l3) rfl (enc_lt _)).trans ?_
      refine zr_invS [enc l3, enc (nz (g (1 + 2) l2)), enc (nz (g (1 + 1) l2))] rfl (zA_cons (enc_l _) (zA_cons (enc_l _) (zA_cons (enc_l _) zA_nil))) (zA_nil) (by decide) ?_
      exact k
    · rw [if_neg c2] at k; cases k
  · rw [if_neg c1] at k; cases k
theorem zs_154_0 (h : zOk b n f) {l1 : Int} {l2 : Int} {l3 : Int} (zl1 : zR l1) (zl2 : zR l2) (zl3 : zR l3) (k : (if 0 ≤ l2 ∧ l2 < 8 then (if 0 ≤ l2 ∧ l2 < 8 then zTh (zCl AL V ST ex_km d 155 [enc (nz (g (1 + 1) l2)), enc (nz (g (1 + 2) l2)), enc l3] (zM n (zWf b f g))) (zM n (zWf b f g)) [] (fun S M => k154_22 V ST d (zCl AL V ST ex_km d) (zRn AL V ST ex_km d kt_154) (zP [zf b 0, enc l1, enc l2, enc l3, 137438953472, 137438953472, 137438953472, 137438953472, 137438953472]) S M) else none) else none) = some r) : k154_0 V ST d (zCl AL V ST ex_km d) (zRn AL V ST ex_km d kt_154) (zP [zf b 0, enc l1, enc l2, enc l3, 137438953472, 137438953472, 137438953472, 137438953472, 137438953472]) [] (zM n (zWf b f g)) = some r := by
  unfold k154_0
  refine (zr_aload (v := zf b 0) rfl (zf_tA h _)).trans ?_
  refine (zr_gfr h (tr_hall_dancers rfl)).trans ?_
  refine (zr_gfr h (tr_pl_x (Or.inl rfl))).trans ?_
  refine (zr_iload (v := enc l2) rfl (enc_lt _)).trans ?_
  by_cases c1 : 0 ≤ l2 ∧ l2 < 8
  · rw [if_pos c1] at k
    refine (zr_iald h (ta_pl_x (Or.inl rfl)) c1.1 (by have := c1.2; omega)).trans ?_
    refine (zr_aload (v := zf b 0) rfl (zf_tA h _)).trans ?_
    refine (zr_gfr h (tr_hall_dancers rfl)).trans ?_
    refine (zr_gfr h (tr_pl_y (Or.inl rfl))).trans ?_
    refine (zr_iload (v := enc l2) rfl (enc_lt _)).trans ?_
    by_cases c2 : 0 ≤ l2 ∧ l2 < 8
    · rw [if_pos c2] at k
      refine (zr_iald h (ta_pl_y (Or.inl rfl)) c2.1 (by have := c2.2; omega)).trans ?_
      refine (zr_iload (v := enc l3) rfl (enc_lt _)).trans ?_
      refine zr_invS [enc l3, enc (nz (g (1 + 2) l2)), enc (nz (g (1 + 1) l2))] rfl (zA_cons (enc_l _) (zA_cons (enc_l _) (zA_cons (enc_l _) zA_nil))) (zA_nil) (by decide) ?_
      exact k
    · rw [if_neg c2] at k; cases k
  · rw [if_neg c1] at k; cases k
theorem zs_155_30 (h : zOk b n f) {l0 : Int} {l1 : Int} {l2 : Int} {s0 : Int} (zl0 : zR l0) (zl1 : zR l1) (zl2 : zR l2) (zs0 : zR s0) (k : some (enc s0, (zM n (zWf b f g))) = some r) : k155_30 V ST d (zCl AL V ST ex_km d) (zRn AL V ST ex_km d kt_155) (zP [enc l0, enc l1, enc l2]) [enc s0] (zM n (zWf b f g)) = some r := by
  unfold k155_30
  exact zr_ireturn.trans k
theorem zs_155_29 (h : zOk b n f) {l0 : Int} {l1 : Int} {l2 : Int} (zl0 : zR l0) (zl1 : zR l1) (zl2 : zR l2) (k : k155_30 V ST d (zCl AL V ST ex_km d) (zRn AL V ST ex_km d kt_155) (zP [enc l0, enc l1, enc l2]) [enc l0] (zM n (zWf b f g)) = some r) : k155_29 V ST d (zCl AL V ST ex_km d) (zRn AL V ST ex_km d kt_155) (zP [enc l0, enc l1, enc l2]) [] (zM n (zWf b f g)) = some r := by
  unfold k155_29
  refine (zr_iload (v := enc l0) rfl (enc_lt _)).trans ?_
  exact k
theorem zs_155_20 (h : zOk b n f) {l0 : Int} {l1 : Int} {l2 : Int} (zl0 : zR l0) (zl1 : zR l1) (zl2 : zR l2) (k : (if l2 = 3 then zRn AL V ST ex_km d kt_155 30 (zP [enc l0, enc l1, enc l2]) [enc l1] (zM n (zWf b f g)) else zRn AL V ST ex_km d kt_155 29 (zP [enc l0, enc l1, enc l2]) [] (zM n (zWf b f g))) = some r) : k155_20 V ST d (zCl AL V ST ex_km d) (zRn AL V ST ex_km d kt_155) (zP [enc l0, enc l1, enc l2]) [] (zM n (zWf b f g)) = some r := by
  unfold k155_20
  refine (zr_iload (v := enc l2) rfl (enc_lt _)).trans ?_
  refine (zr_pshi 3 rfl).trans ?_
  by_cases c1 : l2 = 3
  · rw [if_pos c1] at k
    refine (zr_icmp_ne_n (zl2) ((by unfold zR; omega)) c1).trans ?_
    refine (zr_iload (v := enc l1) rfl (enc_lt _)).trans ?_
    exact (zr_goto).trans k
  · rw [if_neg c1] at k
    exact (zr_icmp_ne_t (zl2) ((by unfold zR; omega)) c1).trans k
theorem zs_155_10 (h : zOk b n f) {l0 : Int} {l1 : Int} {l2 : Int} (zl0 : zR l0) (zl1 : zR l1) (zl2 : zR l2) (k : (if l2 = 2 then zRn AL V ST ex_km d kt_155 30 (zP [enc l0, enc l1, enc l2]) [enc (nz (-l0))] (zM n (zWf b f g)) else zRn AL V ST ex_km d kt_155 20 (zP [enc l0, enc l1, enc l2]) [] (zM n (zWf b f g))) = some r) : k155_10 V ST d (zCl AL V ST ex_km d) (zRn AL V ST ex_km d kt_155) (zP [enc l0, enc l1, enc l2]) [] (zM n (zWf b f g)) = some r := by
  unfold k155_10
  refine (zr_iload (v := enc l2) rfl (enc_lt _)).trans ?_
  refine (zr_pshi 2 rfl).trans ?_
  by_cases c1 : l2 = 2
  · rw [if_pos c1] at k
    refine (zr_icmp_ne_n (zl2) ((by unfold zR; omega)) c1).trans ?_
    refine (zr_iload (v := enc l0) rfl (enc_lt _)).trans ?_
    refine (zr_ineg).trans ?_
    exact (zr_goto).trans k
  · rw [if_neg c1] at k
    exact (zr_icmp_ne_t (zl2) ((by unfold zR; omega)) c1).trans k
theorem zs_155_0 (h : zOk b n f) {l0 : Int} {l1 : Int} {l2 : Int} (zl0 : zR l0) (zl1 : zR l1) (zl2 : zR l2) (k : (if l2 = 1 then zRn AL V ST ex_km d kt_155 30 (zP [enc l0, enc l1, enc l2]) [enc (nz (-l1))] (zM n (zWf b f g)) else zRn AL V ST ex_km d kt_155 10 (zP [enc l0, enc l1, enc l2]) [] (zM n (zWf b f g))) = some r) : k155_0 V ST d (zCl AL V ST ex_km d) (zRn AL V ST ex_km d kt_155) (zP [enc l0, enc l1, enc l2]) [] (zM n (zWf b f g)) = some r := by
  unfold k155_0
  refine (zr_iload (v := enc l2) rfl (enc_lt _)).trans ?_
  refine (zr_pshi 1 rfl).trans ?_
  by_cases c1 : l2 = 1
  · rw [if_pos c1] at k
    refine (zr_icmp_ne_n (zl2) ((by unfold zR; omega)) c1).trans ?_
    refine (zr_iload (v := enc l1) rfl (enc_lt _)).trans ?_
    refine (zr_ineg).trans ?_
    exact (zr_goto).trans k
  · rw [if_neg c1] at k
    exact (zr_icmp_ne_t (zl2) ((by unfold zR; omega)) c1).trans k
theorem zs_156_30 (h : zOk b n f) {l0 : Int} {l1 : Int} {l2 : Int} {s0 : Int} (zl0 : zR l0) (zl1 : zR l1) (zl2 : zR l2) (zs0 : zR s0) (k : some (enc s0, (zM n (zWf b f g))) = some r) : k156_30 V ST d (zCl AL V ST ex_km d) (zRn AL V ST ex_km d kt_156) (zP [enc l0, enc l1, enc l2]) [enc s0] (zM n (zWf b f g)) = some r := by
  unfold k156_30
  exact zr_ireturn.trans k
theorem zs_156_29 (h : zOk b n f) {l0 : Int} {l1 : Int} {l2 : Int} (zl0 : zR l0) (zl1 : zR l1) (zl2 : zR l2) (k : k156_30 V ST d (zCl AL V ST ex_km d) (zRn AL V ST ex_km d kt_156) (zP [enc l0, enc l1, enc l2]) [enc l1] (zM n (zWf b f g)) = some r) : k156_29 V ST d (zCl AL V ST ex_km d) (zRn AL V ST ex_km d kt_156) (zP [enc l0, enc l1, enc l2]) [] (zM n (zWf b f g)) = some r := by
  unfold k156_29
  refine (zr_iload (v := enc l1) rfl (enc_lt _)).trans ?_
  exact k
theorem zs_156_19 (h : zOk b n f) {l0 : Int} {l1 : Int} {l2 : Int} (zl0 : zR l0) (zl1 : zR l1) (zl2 : zR l2) (k : (if l2 = 3 then zRn AL V ST ex_km d kt_156 30 (zP [enc l0, enc l1, enc l2]) [enc (nz (-l0))] (zM n (zWf b f g)) else zRn AL V ST ex_km d kt_156 29 (zP [enc l0, enc l1, enc l2]) [] (zM n (zWf b f g))) = some r) : k156_19 V ST d (zCl AL V ST ex_km d) (zRn AL V ST ex_km d kt_156) (zP [enc l0, enc l1, enc l2]) [] (zM n (zWf b f g)) = some r := by
  unfold k156_19
  refine (zr_iload (v := enc l2) rfl (enc_lt _)).trans ?_
  refine (zr_pshi 3 rfl).trans ?_
  by_cases c1 : l2 = 3
  · rw [if_pos c1] at k
    refine (zr_icmp_ne_n (zl2) ((by unfold zR; omega)) c1).trans ?_
    refine (zr_iload (v := enc l0) rfl (enc_lt _)).trans ?_
    refine (zr_ineg).trans ?_
    exact (zr_goto).trans k
  · rw [if_neg c1] at k
    exact (zr_icmp_ne_t (zl2) ((by unfold zR; omega)) c1).trans k
theorem zs_156_9 (h : zOk b n f) {l0 : Int} {l1 : Int} {l2 : Int} (zl0 : zR l0) (zl1 : zR l1) (zl2 : zR l2) (k : (if l2 = 2 then zRn AL V ST ex_km d kt_156 30 (zP [enc l0, enc l1, enc l2]) [enc (nz (-l1))] (zM n (zWf b f g)) else zRn AL V ST ex_km d kt_156 19 (zP [enc l0, enc l1, enc l2]) [] (zM n (zWf b f g))) = some r) : k156_9 V ST d (zCl AL V ST ex_km d) (zRn AL V ST ex_km d kt_156) (zP [enc l0, enc l1, enc l2]) [] (zM n (zWf b f g)) = some r := by
  unfold k156_9
  refine (zr_iload (v := enc l2) rfl (enc_lt _)).trans ?_
  refine (zr_pshi 2 rfl).trans ?_
  by_cases c1 : l2 = 2
  · rw [if_pos c1] at k
    refine (zr_icmp_ne_n (zl2) ((by unfold zR; omega)) c1).trans ?_
    refine (zr_iload (v := enc l1) rfl (enc_lt _)).trans ?_
    refine (zr_ineg).trans ?_
    exact (zr_goto).trans k
  · rw [if_neg c1] at k
    exact (zr_icmp_ne_t (zl2) ((by unfold zR; omega)) c1).trans k
theorem zs_156_0 (h : zOk b n f) {l0 : Int} {l1 : Int} {l2 : Int} (zl0 : zR l0) (zl1 : zR l1) (zl2 : zR l2) (k : (if l2 = 1 then zRn AL V ST ex_km d kt_156 30 (zP [enc l0, enc l1, enc l2]) [enc l0] (zM n (zWf b f g)) else zRn AL V ST ex_km d kt_156 9 (zP [enc l0, enc l1, enc l2]) [] (zM n (zWf b f g))) = some r) : k156_0 V ST d (zCl AL V ST ex_km d) (zRn AL V ST ex_km d kt_156) (zP [enc l0, enc l1, enc l2]) [] (zM n (zWf b f g)) = some r := by
  unfold k156_0
  refine (zr_iload (v := enc l2) rfl (enc_lt _)).trans ?_
  refine (zr_pshi 1 rfl).trans ?_
  by_cases c1 : l2 = 1
  · rw [if_pos c1] at k
    refine (zr_icmp_ne_n (zl2) ((by unfold zR; omega)) c1).trans ?_
    refine (zr_iload (v := enc l0) rfl (enc_lt _)).trans ?_
    exact (zr_goto).trans k
  · rw [if_neg c1] at k
    exact (zr_icmp_ne_t (zl2) ((by unfold zR; omega)) c1).trans k
theorem zs_160_10 (h : zOk b n f) {l0 : Int} {s0 : Int} (zl0 : zR l0) (zs0 : zR s0) (k : some (enc s0, (zM n (zWf b f g))) = some r) : k160_10 V ST d (zCl AL V ST ex_km d) (zRn AL V ST ex_km d kt_160) (zP [enc l0]) [enc s0] (zM n (zWf b f g)) = some r := by
  unfold k160_10
  exact zr_ireturn.trans k
theorem zs_160_9 (h : zOk b n f) {l0 : Int} (zl0 : zR l0) (k : k160_10 V ST d (zCl AL V ST ex_km d) (zRn AL V ST ex_km d kt_160) (zP [enc l0]) [enc l0] (zM n (zWf b f g)) = some r) : k160_9 V ST d (zCl AL V ST ex_km d) (zRn AL V ST ex_km d kt_160) (zP [enc l0]) [] (zM n (zWf b f g)) = some r := by
  unfold k160_9
  refine (zr_iload (v := enc l0) rfl (enc_lt _)).trans ?_
  exact k
theorem zs_160_0 (h : zOk b n f) {l0 : Int} (zl0 : zR l0) (k : (if l0 < 0 then zRn AL V ST ex_km d kt_160 10 (zP [enc l0]) [enc (nz (-l0))] (zM n (zWf b f g)) else zRn AL V ST ex_km d kt_160 9 (zP [enc l0]) [] (zM n (zWf b f g))) = some r) : k160_0 V ST d (zCl AL V ST ex_km d) (zRn AL V ST ex_km d kt_160) (zP [enc l0]) [] (zM n (zWf b f g)) = some r := by
  unfold k160_0
  refine (zr_iload (v := enc l0) rfl (enc_lt _)).trans ?_
  by_cases c1 : l0 < 0
  · rw [if_pos c1] at k
    refine (zr_if_ge_n (zl0) c1).trans ?_
    refine (zr_iload (v := enc l0) rfl (enc_lt _)).trans ?_
    refine (zr_ineg).trans ?_
    exact (zr_goto).trans k
  · rw [if_neg c1] at k
    exact (zr_if_ge_t (zl0) (Int.not_lt.mp c1)).trans k
theorem zs_162_10 (h : zOk b n f) {l0 : Int} {l1 : Int} {s0 : Int} (zl0 : zR l0) (zl1 : zR l1) (zs0 : zR s0) (k : some (enc s0, (zM n (zWf b f g))) = some r) : k162_10 V ST d (zCl AL V ST ex_km d) (zRn AL V ST ex_km d kt_162) (zP [enc l0, enc l1]) [enc s0] (zM n (zWf b f g)) = some r := by
  unfold k162_10
  exact zr_ireturn.trans k
theorem zs_162_9 (h : zOk b n f) {l0 : Int} {l1 : Int} (zl0 : zR l0) (zl1 : zR l1) (k : k162_10 V ST d (zCl AL V ST ex_km d) (zRn AL V ST ex_km d kt_162) (zP [enc l0, enc l1]) [enc l1] (zM n (zWf b f g)) = some r) : k162_9 V ST d (zCl AL V ST ex_km d) (zRn AL V ST ex_km d kt_162) (zP [enc l0, enc l1]) [] (zM n (zWf b f g)) = some r := by
  unfold k162_9
  refine (zr_iload (v := enc l1) rfl (enc_lt _)).trans ?_
  exact k
theorem zs_162_0 (h : zOk b n f) {l0 : Int} {l1 : Int} (zl0 : zR l0) (zl1 : zR l1) (k : (if l0 < l1 then zRn AL V ST ex_km d kt_162 9 (zP [enc l0, enc l1]) [] (zM n (zWf b f g)) else zRn AL V ST ex_km d kt_162 10 (zP [enc l0, enc l1]) [enc l0] (zM n (zWf b f g))) = some r) : k162_0 V ST d (zCl AL V ST ex_km d) (zRn AL V ST ex_km d kt_162) (zP [enc l0, enc l1]) [] (zM n (zWf b f g)) = some r := by
  unfold k162_0
  refine (zr_iload (v := enc l0) rfl (enc_lt _)).trans ?_
  refine (zr_iload (v := enc l1) rfl (enc_lt _)).trans ?_
  by_cases c1 : l0 < l1
  · rw [if_pos c1] at k
    exact (zr_icmp_lt_t (zl0) (zl1) c1).trans k
  · rw [if_neg c1] at k
    refine (zr_icmp_lt_n (zl0) (zl1) (Int.not_lt.mp c1)).trans ?_
    refine (zr_iload (v := enc l0) rfl (enc_lt _)).trans ?_
    exact (zr_goto).trans k
theorem zs_163_10 (h : zOk b n f) {l0 : Int} {l1 : Int} {s0 : Int} (zl0 : zR l0) (zl1 : zR l1) (zs0 : zR s0) (k : some (enc s0, (zM n (zWf b f g))) = some r) : k163_10 V ST d (zCl AL V ST ex_km d) (zRn AL V ST ex_km d kt_163) (zP [enc l0, enc l1]) [enc s0] (zM n (zWf b f g)) = some r := by
  unfold k163_10
  exact zr_ireturn.trans k
theorem zs_163_9 (h : zOk b n f) {l0 : Int} {l1 : Int} (zl0 : zR l0) (zl1 : zR l1) (k : k163_10 V ST d (zCl AL V ST ex_km d) (zRn AL V ST ex_km d kt_163) (zP [enc l0, enc l1]) [enc l1] (zM n (zWf b f g)) = some r) : k163_9 V ST d (zCl AL V ST ex_km d) (zRn AL V ST ex_km d kt_163) (zP [enc l0, enc l1]) [] (zM n (zWf b f g)) = some r := by
  unfold k163_9
  refine (zr_iload (v := enc l1) rfl (enc_lt _)).trans ?_
  exact k
theorem zs_163_0 (h : zOk b n f) {l0 : Int} {l1 : Int} (zl0 : zR l0) (zl1 : zR l1) (k : (if l1 < l0 then zRn AL V ST ex_km d kt_163 9 (zP [enc l0, enc l1]) [] (zM n (zWf b f g)) else zRn AL V ST ex_km d kt_163 10 (zP [enc l0, enc l1]) [enc l0] (zM n (zWf b f g))) = some r) : k163_0 V ST d (zCl AL V ST ex_km d) (zRn AL V ST ex_km d kt_163) (zP [enc l0, enc l1]) [] (zM n (zWf b f g)) = some r := by
  unfold k163_0
  refine (zr_iload (v := enc l0) rfl (enc_lt _)).trans ?_
  refine (zr_iload (v := enc l1) rfl (enc_lt _)).trans ?_
  by_cases c1 : l1 < l0
  · rw [if_pos c1] at k
    exact (zr_icmp_gt_t (zl0) (zl1) c1).trans k
  · rw [if_neg c1] at k
    refine (zr_icmp_gt_n (zl0) (zl1) (Int.not_lt.mp c1)).trans ?_
    refine (zr_iload (v := enc l0) rfl (enc_lt _)).trans ?_
    exact (zr_goto).trans k
end
end
