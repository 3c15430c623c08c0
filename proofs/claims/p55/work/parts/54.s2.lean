noncomputable section

section
variable {AL : ex_AL} {V : ex_V} {ST : Nat → Nat} {d b n : Nat} {f : Nat → Nat} {g : Nat → Int → Int} {r : Nat × Nat}
theorem zs_69_67 (h : zOk b n f) {l1 : Nat} {l2 : Int} {l3 : Int} {l4 : Int} {l5 : Int} {l6 : Int} {l7 : Nat} {s0 : Int} {s1 : Int} (zl1 : zI_fl l1) (zl2 : zR l2) (zl3 : zR l3) (zl4 : zR l4) (zl5 : zR l5) (zl6 : zR l6) (zl7 : ex_c2 l7 = false ∧ l7 < 1099511627776) (zs0 : zR s0) (zs1 : zR s1) (k : (if zand s1 s0 = 0 then zRn AL V ST ex_km d kt_69 75 (zP [zf b 61, zf b l1, enc l2, enc l3, enc l4, enc l5, enc l6, l7]) [] (zM n (zWf b f g)) else k69_71 V ST d (zCl AL V ST ex_km d) (zRn AL V ST ex_km d kt_69) (zP [zf b 61, zf b l1, enc l2, enc l3, enc l4, enc l5, enc l6, l7]) [] (zM n (zWf b f g))) = some r) : k69_67 V ST d (zCl AL V ST ex_km d) (zRn AL V ST ex_km d kt_69) (zP [zf b 61, zf b l1, enc l2, enc l3, enc l4, enc l5, enc l6, l7]) [enc s0, enc s1] (zM n (zWf b f g)) = some r := by
  unfold k69_67
  refine (zr_iand).trans ?_
  by_cases c1 : zand s1 s0 = 0
  · rw [if_pos c1] at k
    exact (zr_if_eq_t (nz_R _) c1).trans k
  · rw [if_neg c1] at k
    refine (zr_if_eq_n (nz_R _) c1).trans ?_
    exact k
theorem zs_69_50 (h : zOk b n f) {l1 : Nat} {l2 : Int} {l3 : Int} {l4 : Int} {l5 : Int} {l6 : Int} {l7 : Nat} {s0 : Int} (zl1 : zI_fl l1) (zl2 : zR l2) (zl3 : zR l3) (zl4 : zR l4) (zl5 : zR l5) (zl6 : zR l6) (zl7 : ex_c2 l7 = false ∧ l7 < 1099511627776) (zs0 : zR s0) (k : (if l2 = 0 then zRn AL V ST ex_km d kt_69 71 (zP [zf b 61, zf b l1, enc l2, enc l3, enc s0, enc l5, enc l6, l7]) [] (zM n (zWf b f g)) else (if 0 ≤ l5 ∧ l5 < 16 then zTh (zCl AL V ST ex_km d 11 [enc l2] (zM n (zWf b f g))) (zM n (zWf b f g)) [enc (nz (g (l1 + 6) l5))] (fun S M => k69_67 V ST d (zCl AL V ST ex_km d) (zRn AL V ST ex_km d kt_69) (zP [zf b 61, zf b l1, enc l2, enc l3, enc s0, enc l5, enc l6, l7]) S M) else none)) = some r) : k69_50 V ST d (zCl AL V ST ex_km d) (zRn AL V ST ex_km d kt_69) (zP [zf b 61, zf b l1, enc l2, enc l3, enc l4, enc l5, enc l6, l7]) [enc s0] (zM n (zWf b f g)) = some r := by
  unfold k69_50
  refine (zr_istore (w := enc l3) (vs' := [zf b 61, zf b l1, enc l2, enc l3, enc s0, enc l5, enc l6, l7]) rfl (enc_c2 _) (Nat.lt_trans (enc_lt _) (by decide)) (by decide) rfl (enc_lt _)).trans ?_
  refine (zr_iload (v := enc l2) rfl (enc_lt _)).trans ?_
  by_cases c1 : l2 = 0
  · rw [if_pos c1] at k
    exact (zr_if_eq_t (zl2) c1).trans k
  · rw [if_neg c1] at k
    refine (zr_if_eq_n (zl2) c1).trans ?_
    refine (zr_aload (v := zf b l1) rfl (zf_tA h _)).trans ?_
    refine (zr_gfr h (tr_fl_groups zl1)).trans ?_
    refine (zr_iload (v := enc l5) rfl (enc_lt _)).trans ?_
    by_cases c2 : 0 ≤ l5 ∧ l5 < 16
    · rw [if_pos c2] at k
      refine (zr_iald h (ta_fl_groups zl1) c2.1 (by have := c2.2; omega)).trans ?_
      refine (zr_iload (v := enc l2) rfl (enc_lt _)).trans ?_
      refine zr_invS [enc l2] rfl (zA_cons (enc_l _) zA_nil) (zA_cons (enc_l _) zA_nil) (by decide) ?_
      exact k
    · rw [if_neg c2] at k; cases k
theorem zs_69_49 (h : zOk b n f) {l1 : Nat} {l2 : Int} {l3 : Int} {l4 : Int} {l5 : Int} {l6 : Int} {l7 : Nat} (zl1 : zI_fl l1) (zl2 : zR l2) (zl3 : zR l3) (zl4 : zR l4) (zl5 : zR l5) (zl6 : zR l6) (zl7 : ex_c2 l7 = false ∧ l7 < 1099511627776) (k : k69_50 V ST d (zCl AL V ST ex_km d) (zRn AL V ST ex_km d kt_69) (zP [zf b 61, zf b l1, enc l2, enc l3, enc l4, enc l5, enc l6, l7]) [enc 0] (zM n (zWf b f g)) = some r) : k69_49 V ST d (zCl AL V ST ex_km d) (zRn AL V ST ex_km d kt_69) (zP [zf b 61, zf b l1, enc l2, enc l3, enc l4, enc l5, enc l6, l7]) [] (zM n (zWf b f g)) = some r := by
  unfold k69_49
  refine (zr_pshi 0 rfl).trans ?_
  exact k
theorem zs_69_45 (h : zOk b n f) {l1 : Nat} {l2 : Int} {l3 : Int} {l4 : Int} {l5 : Int} {l6 : Int} {l7 : Nat} (zl1 : zI_fl l1) (zl2 : zR l2) (zl3 : zR l3) (zl4 : zR l4) (zl5 : zR l5) (zl6 : zR l6) (zl7 : ex_c2 l7 = false ∧ l7 < 1099511627776) (k : zRn AL V ST ex_km d kt_69 50 (zP [zf b 61, zf b l1, enc l2, enc l3, enc l4, enc l5, enc l6, l7]) [enc 1] (zM n (zWf b f g)) = some r) : k69_45 V ST d (zCl AL V ST ex_km d) (zRn AL V ST ex_km d kt_69) (zP [zf b 61, zf b l1, enc l2, enc l3, enc l4, enc l5, enc l6, l7]) [] (zM n (zWf b f g)) = some r := by
  unfold k69_45
  refine (zr_pshi 1 rfl).trans ?_
  exact (zr_goto).trans k
theorem zs_69_33 (h : zOk b n f) {l1 : Nat} {l2 : Int} {l3 : Int} {l4 : Int} {l5 : Int} {l6 : Nat} {l7 : Nat} {s0 : Int} (zl1 : zI_fl l1) (zl2 : zR l2) (zl3 : zR l3) (zl4 : zR l4) (zl5 : zR l5) (zl6 : ex_c2 l6 = false ∧ l6 < 1099511627776) (zl7 : ex_c2 l7 = false ∧ l7 < 1099511627776) (zs0 : zR s0) (k : (if l4 = 0 then (if s0 = 0 then k69_45 V ST d (zCl AL V ST ex_km d) (zRn AL V ST ex_km d kt_69) (zP [zf b 61, zf b l1, enc l2, enc l3, enc l4, enc l5, enc s0, l7]) [] (zM n (zWf b f g)) else zRn AL V ST ex_km d kt_69 49 (zP [zf b 61, zf b l1, enc l2, enc l3, enc l4, enc l5, enc s0, l7]) [] (zM n (zWf b f g))) else zRn AL V ST ex_km d kt_69 45 (zP [zf b 61, zf b l1, enc l2, enc l3, enc l4, enc l5, enc s0, l7]) [] (zM n (zWf b f g))) = some r) : k69_33 V ST d (zCl AL V ST ex_km d) (zRn AL V ST ex_km d kt_69) (zP [zf b 61, zf b l1, enc l2, enc l3, enc l4, enc l5, l6, l7]) [enc s0] (zM n (zWf b f g)) = some r := by
  unfold k69_33
  refine (zr_istore (w := enc l5) (vs' := [zf b 61, zf b l1, enc l2, enc l3, enc l4, enc l5, enc s0, l7]) rfl (enc_c2 _) (Nat.lt_trans (enc_lt _) (by decide)) (by decide) rfl (enc_lt _)).trans ?_
  refine (zr_iload (v := enc l4) rfl (enc_lt _)).trans ?_
  by_cases c1 : l4 = 0
  · rw [if_pos c1] at k
    refine (zr_if_ne_n (zl4) c1).trans ?_
    refine (zr_iload (v := enc s0) rfl (enc_lt _)).trans ?_
    by_cases c2 : s0 = 0
    · rw [if_pos c2] at k
      refine (zr_if_ne_n (zs0) c2).trans ?_
      exact k
    · rw [if_neg c2] at k
      exact (zr_if_ne_t (zs0) c2).trans k
  · rw [if_neg c1] at k
    exact (zr_if_ne_t (zl4) c1).trans k
theorem zs_69_26 (h : zOk b n f) {l1 : Nat} {l2 : Int} {l3 : Int} {l4 : Int} {l5 : Int} {l6 : Nat} {l7 : Nat} (zl1 : zI_fl l1) (zl2 : zR l2) (zl3 : zR l3) (zl4 : zR l4) (zl5 : zR l5) (zl6 : ex_c2 l6 = false ∧ l6 < 1099511627776) (zl7 : ex_c2 l7 = false ∧ l7 < 1099511627776) (k : zTh (zCl AL V ST ex_km d 70 [zf b 61, zf b l1, enc l5] (zM n (zWf b f g))) (zM n (zWf b f g)) [] (fun S M => k69_33 V ST d (zCl AL V ST ex_km d) (zRn AL V ST ex_km d kt_69) (zP [zf b 61, zf b l1, enc l2, enc l3, enc l4, enc l5, l6, l7]) S M) = some r) : k69_26 V ST d (zCl AL V ST ex_km d) (zRn AL V ST ex_km d kt_69) (zP [zf b 61, zf b l1, enc l2, enc l3, enc l4, enc l5, l6, l7]) [] (zM n (zWf b f g)) = some r := by
  unfold k69_26
  refine (zr_aload (v := zf b 61) rfl (zf_tA h _)).trans ?_
  refine (zr_aload (v := zf b l1) rfl (zf_tA h _)).trans ?_
  refine (zr_iload (v := enc l5) rfl (enc_lt _)).trans ?_
  refine zr_invV h [enc l5, zf b l1] rfl (tk_st rfl) (zA_cons (enc_l _) (zA_cons (zf_l h _) zA_nil)) (zA_nil) (by decide) ?_
  exact k
theorem zs_69_8 (h : zOk b n f) {l1 : Nat} {l2 : Int} {l3 : Int} {l4 : Int} {l5 : Int} {l6 : Nat} {l7 : Nat} (zl1 : zI_fl l1) (zl2 : zR l2) (zl3 : zR l3) (zl4 : zR l4) (zl5 : zR l5) (zl6 : ex_c2 l6 = false ∧ l6 < 1099511627776) (zl7 : ex_c2 l7 = false ∧ l7 < 1099511627776) (k : (if l5 < nz (g l1 14) then (if l2 < 5 then zRn AL V ST ex_km d kt_69 33 (zP [zf b 61, zf b l1, enc l2, enc l3, enc l4, enc l5, l6, l7]) [enc 1] (zM n (zWf b f g)) else zRn AL V ST ex_km d kt_69 26 (zP [zf b 61, zf b l1, enc l2, enc l3, enc l4, enc l5, l6, l7]) [] (zM n (zWf b f g))) else zRn AL V ST ex_km d kt_69 149 (zP [zf b 61, zf b l1, enc l2, enc l3, enc l4, enc l5, l6, l7]) [] (zM n (zWf b f g))) = some r) : k69_8 V ST d (zCl AL V ST ex_km d) (zRn AL V ST ex_km d kt_69) (zP [zf b 61, zf b l1, enc l2, enc l3, enc l4, enc l5, l6, l7]) [] (zM n (zWf b f g)) = some r := by
  unfold k69_8
  refine (zr_iload (v := enc l5) rfl (enc_lt _)).trans ?_
  refine (zr_aload (v := zf b l1) rfl (zf_tA h _)).trans ?_
  refine (zr_gfi h (ti_fl_count zl1)).trans ?_
  by_cases c1 : l5 < nz (g l1 14)
  · rw [if_pos c1] at k
    refine (zr_icmp_ge_n (zl5) (nz_R _) c1).trans ?_
    refine (zr_iload (v := enc l2) rfl (enc_lt _)).trans ?_
    refine (zr_pshi 5 rfl).trans ?_
    by_cases c2 : l2 < 5
    · rw [if_pos c2] at k
      refine (zr_icmp_ge_n (zl2) ((by unfold zR; omega)) c2).trans ?_
      refine (zr_pshi 1 rfl).trans ?_
      exact (zr_goto).trans k
    · rw [if_neg c2] at k
      exact (zr_icmp_ge_t (zl2) ((by unfold zR; omega)) (Int.not_lt.mp c2)).trans k
  · rw [if_neg c1] at k
    exact (zr_icmp_ge_t (zl5) (nz_R _) (Int.not_lt.mp c1)).trans k
theorem zs_69_0 (h : zOk b n f) {l1 : Nat} {l2 : Int} (zl1 : zI_fl l1) (zl2 : zR l2) (k : k69_8 V ST d (zCl AL V ST ex_km d) (zRn AL V ST ex_km d kt_69) (zP [zf b 61, zf b l1, enc l2, enc 0, enc 0, enc 0, 137438953472, 137438953472]) [] (zM n (zWf b f g)) = some r) : k69_0 V ST d (zCl AL V ST ex_km d) (zRn AL V ST ex_km d kt_69) (zP [zf b 61, zf b l1, enc l2, 137438953472, 137438953472, 137438953472, 137438953472, 137438953472]) [] (zM n (zWf b f g)) = some r := by
  unfold k69_0
  refine (zr_pshi 0 rfl).trans ?_
  refine (zr_istore (w := enc l2) (vs' := [zf b 61, zf b l1, enc l2, enc 0, 137438953472, 137438953472, 137438953472, 137438953472]) rfl (enc_c2 _) (Nat.lt_trans (enc_lt _) (by decide)) (by decide) rfl (enc_lt _)).trans ?_
  refine (zr_pshi 0 rfl).trans ?_
  refine (zr_istore (w := enc 0) (vs' := [zf b 61, zf b l1, enc l2, enc 0, enc 0, 137438953472, 137438953472, 137438953472]) rfl (enc_c2 _) (Nat.lt_trans (enc_lt _) (by decide)) (by decide) rfl (enc_lt _)).trans ?_
  refine (zr_pshi 0 rfl).trans ?_
  refine (zr_istore (w := enc 0) (vs' := [zf b 61, zf b l1, enc l2, enc 0, enc 0, enc 0, 137438953472, 137438953472]) rfl (enc_c2 _) (Nat.lt_trans (enc_lt _) (by decide)) (by decide) rfl (enc_lt _)).trans ?_
  exact k
theorem zs_70_130 (h : zOk b n f) {l1 : Nat} {l2 : Int} {l3 : Int} {l4 : Int} {l5 : Int} {l6 : Int} {l7 : Int} {l8 : Nat} {s0 : Int} (zl1 : zI_fl l1) (zl2 : zR l2) (zl3 : zR l3) (zl4 : zR l4) (zl5 : zR l5) (zl6 : zR l6) (zl7 : zR l7) (zl8 : ex_c2 l8 = false ∧ l8 < 1099511627776) (zs0 : zR s0) (k : some (enc s0, (zM n (zWf b f g))) = some r) : k70_130 V ST d (zCl AL V ST ex_km d) (zRn AL V ST ex_km d kt_70) (zP [zf b 61, zf b l1, enc l2, enc l3, enc l4, enc l5, enc l6, enc l7, l8]) [enc s0] (zM n (zWf b f g)) = some r := by
  unfold k70_130
  exact zr_ireturn.trans k
theorem zs_70_129 (h : zOk b n f) {l1 : Nat} {l2 : Int} {l3 : Int} {l4 : Int} {l5 : Int} {l6 : Int} {l7 : Int} {l8 : Nat} (zl1 : zI_fl l1) (zl2 : zR l2) (zl3 : zR l3) (zl4 : zR l4) (zl5 : zR l5) (zl6 : zR l6) (zl7 : zR l7) (zl8 : ex_c2 l8 = false ∧ l8 < 1099511627776) (k : k70_130 V ST d (zCl AL V ST ex_km d) (zRn AL V ST ex_km d kt_70) (zP [zf b 61, zf b l1, enc l2, enc l3, enc l4, enc l5, enc l6, enc l7, l8]) [enc 0] (zM n (zWf b f g)) = some r) : k70_129 V ST d (zCl AL V ST ex_km d) (zRn AL V ST ex_km d kt_70) (zP [zf b 61, zf b l1, enc l2, enc l3, enc l4, enc l5, enc l6, enc l7, l8]) [] (zM n (zWf b f g)) = some r := by
  unfold k70_129
  refine (zr_pshi 0 rfl).trans ?_
  exact k
theorem zs_70_119 (h : zOk b n f) {l1 : Nat} {l2 : Int} {l3 : Int} {l4 : Int} {l5 : Int} {l6 : Int} {l7 : Int} {l8 : Nat} (zl1 : zI_fl l1) (zl2 : zR l2) (zl3 : zR l3) (zl4 : zR l4) (zl5 : zR l5) (zl6 : zR l6) (zl7 : zR l7) (zl8 : ex_c2 l8 = false ∧ l8 < 1099511627776) (k : (if l5 < l3 then zRn AL V ST ex_km d kt_70 129 (zP [zf b 61, zf b l1, enc l2, enc l3, enc l4, enc l5, enc l6, enc l7, l8]) [] (zM n (zWf b f g)) else zRn AL V ST ex_km d kt_70 130 (zP [zf b 61, zf b l1, enc l2, enc l3, enc l4, enc l5, enc l6, enc l7, l8]) [enc (-1)] (zM n (zWf b f g))) = some r) : k70_119 V ST d (zCl AL V ST ex_km d) (zRn AL V ST ex_km d kt_70) (zP [zf b 61, zf b l1, enc l2, enc l3, enc l4, enc l5, enc l6, enc l7, l8]) [] (zM n (zWf b f g)) = some r := by
  unfold k70_119
  refine (zr_iload (v := enc l5) rfl (enc_lt _)).trans ?_
  refine (zr_iload (v := enc l3) rfl (enc_lt _)).trans ?_
  by_cases c1 : l5 < l3
  · rw [if_pos c1] at k
    exact (zr_icmp_lt_t (zl5) (zl3) c1).trans k
  · rw [if_neg c1] at k
    refine (zr_icmp_lt_n (zl5) (zl3) (Int.not_lt.mp c1)).trans ?_
    refine (zr_pshi (-1) rfl).trans ?_
    exact (zr_goto).trans k
theorem zs_70_109 (h : zOk b n f) {l1 : Nat} {l2 : Int} {l3 : Int} {l4 : Int} {l5 : Int} {l6 : Int} {l7 : Int} {l8 : Nat} (zl1 : zI_fl l1) (zl2 : zR l2) (zl3 : zR l3) (zl4 : zR l4) (zl5 : zR l5) (zl6 : zR l6) (zl7 : zR l7) (zl8 : ex_c2 l8 = false ∧ l8 < 1099511627776) (k : (if l3 < l6 then zRn AL V ST ex_km d kt_70 119 (zP [zf b 61, zf b l1, enc l2, enc l3, enc l4, enc l5, enc l6, enc l7, l8]) [] (zM n (zWf b f g)) else zRn AL V ST ex_km d kt_70 130 (zP [zf b 61, zf b l1, enc l2, enc l3, enc l4, enc l5, enc l6, enc l7, l8]) [enc 1] (zM n (zWf b f g))) = some r) : k70_109 V ST d (zCl AL V ST ex_km d) (zRn AL V ST ex_km d kt_70) (zP [zf b 61, zf b l1, enc l2, enc l3, enc l4, enc l5, enc l6, enc l7, l8]) [] (zM n (zWf b f g)) = some r := by
  unfold k70_109
  refine (zr_iload (v := enc l6) rfl (enc_lt _)).trans ?_
  refine (zr_iload (v := enc l3) rfl (enc_lt _)).trans ?_
  by_cases c1 : l3 < l6
  · rw [if_pos c1] at k
    exact (zr_icmp_gt_t (zl6) (zl3) c1).trans k
  · rw [if_neg c1] at k
    refine (zr_icmp_gt_n (zl6) (zl3) (Int.not_lt.mp c1)).trans ?_
    refine (zr_pshi 1 rfl).trans ?_
    exact (zr_goto).trans k
theorem zs_70_100 (h : zOk b n f) {l1 : Nat} {l2 : Int} {l3 : Int} {l4 : Int} {l5 : Int} {l6 : Int} {l7 : Int} {l8 : Int} {s0 : Int} {s1 : Int} (zl1 : zI_fl l1) (zl2 : zR l2) (zl3 : zR l3) (zl4 : zR l4) (zl5 : zR l5) (zl6 : zR l6) (zl7 : zR l7) (zl8 : zR l8) (zs0 : zR s0) (zs1 : zR s1) (k : zRn AL V ST ex_km d kt_70 37 (zP [zf b 61, zf b l1, enc l2, enc l3, enc l4, enc l5, enc (nz (s1 + s0)), enc (nz (l7 + 1)), enc l8]) [] (zM n (zWf b f g)) = some r) : k70_100 V ST d (zCl AL V ST ex_km d) (zRn AL V ST ex_km d kt_70) (zP [zf b 61, zf b l1, enc l2, enc l3, enc l4, enc l5, enc l6, enc l7, enc l8]) [enc s0, enc s1] (zM n (zWf b f g)) = some r := by
  unfold k70_100
  refine (zr_iadd).trans ?_
  refine (zr_istore (w := enc l5) (vs' := [zf b 61, zf b l1, enc l2, enc l3, enc l4, enc l5, enc (nz (s1 + s0)), enc l7, enc l8]) rfl (enc_c2 _) (Nat.lt_trans (enc_lt _) (by decide)) (by decide) rfl (enc_lt _)).trans ?_
  refine (zr_iinc (w := enc (nz (s1 + s0))) (x := l7) (i' := 1) (vs' := [zf b 61, zf b l1, enc l2, enc l3, enc l4, enc l5, enc (nz (s1 + s0)), enc (nz (l7 + 1)), enc l8]) rfl (enc_c2 _) (Nat.lt_trans (enc_lt _) (by decide)) rfl rfl (by decide) rfl).trans ?_
  exact (zr_goto).trans k
theorem zs_70_99 (h : zOk b n f) {l1 : Nat} {l2 : Int} {l3 : Int} {l4 : Int} {l5 : Int} {l6 : Int} {l7 : Int} {l8 : Int} {s0 : Int} (zl1 : zI_fl l1) (zl2 : zR l2) (zl3 : zR l3) (zl4 : zR l4) (zl5 : zR l5) (zl6 : zR l6) (zl7 : zR l7) (zl8 : zR l8) (zs0 : zR s0) (k : k70_100 V ST d (zCl AL V ST ex_km d) (zRn AL V ST ex_km d kt_70) (zP [zf b 61, zf b l1, enc l2, enc l3, enc l4, enc l5, enc l6, enc l7, enc l8]) [enc 0, enc s0] (zM n (zWf b f g)) = some r) : k70_99 V ST d (zCl AL V ST ex_km d) (zRn AL V ST ex_km d kt_70) (zP [zf b 61, zf b l1, enc l2, enc l3, enc l4, enc l5, enc l6, enc l7, enc l8]) [enc s0] (zM n (zWf b f g)) = some r := by
  unfold k70_99
  refine (zr_pshi 0 rfl).trans ?_
  exact k
theorem zs_70_83 (h : zOk b n f) {l1 : Nat} {l2 : Int} {l3 : Int} {l4 : Int} {l5 : Int} {l6 : Int} {l7 : Int} {l8 : Int} {s0 : Int} {s1 : Int} (zl1 : zI_fl l1) (zl2 : zR l2) (zl3 : zR l3) (zl4 : zR l4) (zl5 : zR l5) (zl6 : zR l6) (zl7 : zR l7) (zl8 : zR l8) (zs0 : zR s0) (zs1 : zR s1) (k : (if l4 < l8 then zRn AL V ST ex_km d kt_70 99 (zP [zf b 61, zf b l1, enc l2, enc l3, enc l4, enc (nz (s1 + s0)), enc l6, enc l7, enc l8]) [enc l6] (zM n (zWf b f g)) else zRn AL V ST ex_km d kt_70 100 (zP [zf b 61, zf b l1, enc l2, enc l3, enc l4, enc (nz (s1 + s0)), enc l6, enc l7, enc l8]) [enc 1, enc l6] (zM n (zWf b f g))) = some r) : k70_83 V ST d (zCl AL V ST ex_km d) (zRn AL V ST ex_km d kt_70) (zP [zf b 61, zf b l1, enc l2, enc l3, enc l4, enc l5, enc l6, enc l7, enc l8]) [enc s0, enc s1] (zM n (zWf b f g)) = some r := by
  unfold k70_83
  refine (zr_iadd).trans ?_
  refine (zr_istore (w := enc l4) (vs' := [zf b 61, zf b l1, enc l2, enc l3, enc l4, enc (nz (s1 + s0)), enc l6, enc l7, enc l8]) rfl (enc_c2 _) (Nat.lt_trans (enc_lt _) (by decide)) (by decide) rfl (enc_lt _)).trans ?_
  refine (zr_iload (v := enc l6) rfl (enc_lt _)).trans ?_
  refine (zr_iload (v := enc l8) rfl (enc_lt _)).trans ?_
  refine (zr_iload (v := enc l4) rfl (enc_lt _)).trans ?_
  by_cases c1 : l4 < l8
  · rw [if_pos c1] at k
    exact (zr_icmp_gt_t (zl8) (zl4) c1).trans k
  · rw [if_neg c1] at k
    refine (zr_icmp_gt_n (zl8) (zl4) (Int.not_lt.mp c1)).trans ?_
    refine (zr_pshi 1 rfl).trans ?_
    exact (zr_goto).trans k
theorem zs_70_82 (h : zOk b n f) {l1 : Nat} {l2 : Int} {l3 : Int} {l4 : Int} {l5 : Int} {l6 : Int} {l7 : Int} {l8 : Int} {s0 : Int} (zl1 : zI_fl l1) (zl2 : zR l2) (zl3 : zR l3) (zl4 : zR l4) (zl5 : zR l5) (zl6 : zR l6) (zl7 : zR l7) (zl8 : zR l8) (zs0 : zR s0) (k : k70_83 V ST d (zCl AL V ST ex_km d) (zRn AL V ST ex_km d kt_70) (zP [zf b 61, zf b l1, enc l2, enc l3, enc l4, enc l5, enc l6, enc l7, enc l8]) [enc 0, enc s0] (zM n (zWf b f g)) = some r) : k70_82 V ST d (zCl AL V ST ex_km d) (zRn AL V ST ex_km d kt_70) (zP [zf b 61, zf b l1, enc l2, enc l3, enc l4, enc l5, enc l6, enc l7, enc l8]) [enc s0] (zM n (zWf b f g)) = some r := by
  unfold k70_82
  refine (zr_pshi 0 rfl).trans ?_
  exact k
theorem zs_70_66 (h : zOk b n f) {l1 : Nat} {l2 : Int} {l3 : Int} {l4 : Int} {l5 : Int} {l6 : Int} {l7 : Int} {l8 : Nat} {s0 : Int} {s1 : Int} (zl1 : zI_fl l1) (zl2 : zR l2) (zl3 : zR l3) (zl4 : zR l4) (zl5 : zR l5) (zl6 : zR l6) (zl7 : zR l7) (zl8 : ex_c2 l8 = false ∧ l8 < 1099511627776) (zs0 : zR s0) (zs1 : zR s1) (k : (if nz (s1 + s0) < l4 then zRn AL V ST ex_km d kt_70 83 (zP [zf b 61, zf b l1, enc l2, enc l3, enc l4, enc l5, enc l6, enc l7, enc (nz (s1 + s0))]) [enc 1, enc l5] (zM n (zWf b f g)) else zRn AL V ST ex_km d kt_70 82 (zP [zf b 61, zf b l1, enc l2, enc l3, enc l4, enc l5, enc l6, enc l7, enc (nz (s1 + s0))]) [enc l5] (zM n (zWf b f g))) = some r) : k70_66 V ST d (zCl AL V ST ex_km d) (zRn AL V ST ex_km d kt_70) (zP [zf b 61, zf b l1, enc l2, enc l3, enc l4, enc l5, enc l6, enc l7, l8]) [enc s0, enc s1] (zM n (zWf b f g)) = some r := by
  unfold k70_66
  refine (zr_iadd).trans ?_
  refine (zr_istore (w := enc l7) (vs' := [zf b 61, zf b l1, enc l2, enc l3, enc l4, enc l5, enc l6, enc l7, enc (nz (s1 + s0))]) rfl (enc_c2 _) (Nat.lt_trans (enc_lt _) (by decide)) (by decide) rfl (enc_lt _)).trans ?_
  refine (zr_iload (v := enc l5) rfl (enc_lt _)).trans ?_
  refine (zr_iload (v := enc (nz (s1 + s0))) rfl (enc_lt _)).trans ?_
  refine (zr_iload (v := enc l4) rfl (enc_lt _)).trans ?_
  by_cases c1 : nz (s1 + s0) < l4
  · rw [if_pos c1] at k
    refine (zr_icmp_ge_n (nz_R _) (zl4) c1).trans ?_
    refine (zr_pshi 1 rfl).trans ?_
    exact (zr_goto).trans k
  · rw [if_neg c1] at k
    exact (zr_icmp_ge_t (nz_R _) (zl4) (Int.not_lt.mp c1)).trans k
theorem zs_70_56 (h : zOk b n f) {l1 : Nat} {l2 : Int} {l3 : Int} {l4 : Int} {l5 : Int} {l6 : Int} {l7 : Int} {l8 : Nat} {s0 : Int} (zl1 : zI_fl l1) (zl2 : zR l2) (zl3 : zR l3) (zl4 : zR l4) (zl5 : zR l5) (zl6 : zR l6) (zl7 : zR l7) (zl8 : ex_c2 l8 = false ∧ l8 < 1099511627776) (zs0 : zR s0) (k : (if 0 ≤ l7 ∧ l7 < 16 then zTh (zCl AL V ST ex_km d 160 [enc (nz (g (l1 + 2) l7))] (zM n (zWf b f g))) (zM n (zWf b f g)) [enc s0] (fun S M => k70_66 V ST d (zCl AL V ST ex_km d) (zRn AL V ST ex_km d kt_70) (zP [zf b 61, zf b l1, enc l2, enc l3, enc l4, enc l5, enc l6, enc l7, l8]) S M) else none) = some r) : k70_56 V ST d (zCl AL V ST ex_km d) (zRn AL V ST ex_km d kt_70) (zP [zf b 61, zf b l1, enc l2, enc l3, enc l4, enc l5, enc l6, enc l7, l8]) [enc s0] (zM n (zWf b f g)) = some r := by
  unfold k70_56
  refine (zr_aload (v := zf b l1) rfl (zf_tA h _)).trans ?_
  refine (zr_gfr h (tr_fl_y zl1)).trans ?_
  refine (zr_iload (v := enc l7) rfl (enc_lt _)).trans ?_
  by_cases c1 : 0 ≤ l7 ∧ l7 < 16
  · rw [if_pos c1] at k
    refine (zr_iald h (ta_fl_y zl1) c1.1 (by have := c1.2; omega)).trans ?_
    refine zr_invS [enc (nz (g (l1 + 2) l7))] rfl (zA_cons (enc_l _) zA_nil) (zA_cons (enc_l _) zA_nil) (by decide) ?_
    exact k
  · rw [if_neg c1] at k; cases k
theorem zs_70_37 (h : zOk b n f) {l1 : Nat} {l2 : Int} {l3 : Int} {l4 : Int} {l5 : Int} {l6 : Int} {l7 : Int} {l8 : Nat} (zl1 : zI_fl l1) (zl2 : zR l2) (zl3 : zR l3) (zl4 : zR l4) (zl5 : zR l5) (zl6 : zR l6) (zl7 : zR l7) (zl8 : ex_c2 l8 = false ∧ l8 < 1099511627776) (k : (if l7 < nz (g l1 14) then (if 0 ≤ l7 ∧ l7 < 16 then zTh (zCl AL V ST ex_km d 160 [enc (nz (g (l1 + 1) l7))] (zM n (zWf b f g))) (zM n (zWf b f g)) [] (fun S M => k70_56 V ST d (zCl AL V ST ex_km d) (zRn AL V ST ex_km d kt_70) (zP [zf b 61, zf b l1, enc l2, enc l3, enc l4, enc l5, enc l6, enc l7, l8]) S M) else none) else zRn AL V ST ex_km d kt_70 109 (zP [zf b 61, zf b l1, enc l2, enc l3, enc l4, enc l5, enc l6, enc l7, l8]) [] (zM n (zWf b f g))) = some r) : k70_37 V ST d (zCl AL V ST ex_km d) (zRn AL V ST ex_km d kt_70) (zP [zf b 61, zf b l1, enc l2, enc l3, enc l4, enc l5, enc l6, enc l7, l8]) [] (zM n (zWf b f g)) = some r := by
  unfold k70_37
  refine (zr_iload (v := enc l7) rfl (enc_lt _)).trans ?_
  refine (zr_aload (v := zf b l1) rfl (zf_tA h _)).trans ?_
  refine (zr_gfi h (ti_fl_count zl1)).trans ?_
  by_cases c1 : l7 < nz (g l1 14)
  · rw [if_pos c1] at k
    refine (zr_icmp_ge_n (zl7) (nz_R _) c1).trans ?_
    refine (zr_aload (v := zf b l1) rfl (zf_tA h _)).trans ?_
    refine (zr_gfr h (tr_fl_x zl1)).trans ?_
    refine (zr_iload (v := enc l7) rfl (enc_lt _)).trans ?_
    by_cases c2 : 0 ≤ l7 ∧ l7 < 16
    · rw [if_pos c2] at k
      refine (zr_iald h (ta_fl_x zl1) c2.1 (by have := c2.2; omega)).trans ?_
      refine zr_invS [enc (nz (g (l1 + 1) l7))] rfl (zA_cons (enc_l _) zA_nil) (zA_nil) (by decide) ?_
      exact k
    · rw [if_neg c2] at k; cases k
  · rw [if_neg c1] at k
    exact (zr_icmp_ge_t (zl7) (nz_R _) (Int.not_lt.mp c1)).trans k
theorem zs_70_25 (h : zOk b n f) {l1 : Nat} {l2 : Int} {l3 : Int} {s0 : Int} {s1 : Int} (zl1 : zI_fl l1) (zl2 : zR l2) (zl3 : zR l3) (zs0 : zR s0) (zs1 : zR s1) (k : k70_37 V ST d (zCl AL V ST ex_km d) (zRn AL V ST ex_km d kt_70) (zP [zf b 61, zf b l1, enc l2, enc l3, enc (nz (s1 + s0)), enc 0, enc 0, enc 0, 137438953472]) [] (zM n (zWf b f g)) = some r) : k70_25 V ST d (zCl AL V ST ex_km d) (zRn AL V ST ex_km d kt_70) (zP [zf b 61, zf b l1, enc l2, enc l3, 137438953472, 137438953472, 137438953472, 137438953472, 137438953472]) [enc s0, enc s1] (zM n (zWf b f g)) = some r := by
  unfold k70_25
  refine (zr_iadd).trans ?_
  refine (zr_istore (w := enc l3) (vs' := [zf b 61, zf b l1, enc l2, enc l3, enc (nz (s1 + s0)), 137438953472, 137438953472, 137438953472, 137438953472]) rfl (enc_c2 _) (Nat.lt_trans (enc_lt _) (by decide)) (by decide) rfl (enc_lt _)).trans ?_
  refine (zr_pshi 0 rfl).trans ?_
  refine (zr_istore (w := enc (nz (s1 + s0))) (vs' := [zf b 61, zf b l1, enc l2, enc l3, enc (nz (s1 + s0)), enc 0, 137438953472, 137438953472, 137438953472]) rfl (enc_c2 _) (Nat.lt_trans (enc_lt _) (by decide)) (by decide) rfl (enc_lt _)).trans ?_
  refine (zr_pshi 0 rfl).trans ?_
  refine (zr_istore (w := enc 0) (vs' := [zf b 61, zf b l1, enc l2, enc l3, enc (nz (s1 + s0)), enc 0, enc 0, 137438953472, 137438953472]) rfl (enc_c2 _) (Nat.lt_trans (enc_lt _) (by decide)) (by decide) rfl (enc_lt _)).trans ?_
  refine (zr_pshi 0 rfl).trans ?_
  refine (zr_istore (w := enc 0) (vs' := [zf b 61, zf b l1, enc l2, enc l3, enc (nz (s1 + s0)), enc 0, enc 0, enc 0, 137438953472]) rfl (enc_c2 _) (Nat.lt_trans (enc_lt _) (by decide)) (by decide) rfl (enc_lt _)).trans ?_
  exact k
theorem zs_70_16 (h : zOk b n f) {l1 : Nat} {l2 : Int} {l3 : Int} {s0 : Int} (zl1 : zI_fl l1) (zl2 : zR l2) (zl3 : zR l3) (zs0 : zR s0) (k : (if 0 ≤ l2 ∧ l2 < 16 then zTh (zCl AL V ST ex_km d 160 [enc (nz (g (l1 + 2) l2))] (zM n (zWf b f g))) (zM n (zWf b f g)) [enc s0] (fun S M => k70_25 V ST d (zCl AL V ST ex_km d) (zRn AL V ST ex_km d kt_70) (zP [zf b 61, zf b l1, enc l2, enc l3, 137438953472, 137438953472, 137438953472, 137438953472, 137438953472]) S M) else none) = some r) : k70_16 V ST d (zCl AL V ST ex_km d) (zRn AL V ST ex_km d kt_70) (zP [zf b 61, zf b l1, enc l2, enc l3, 137438953472, 137438953472, 137438953472, 137438953472, 137438953472]) [enc s0] (zM n (zWf b f g)) = some r := by
  unfold k70_16
  refine (zr_aload (v := zf b l1) rfl (zf_tA h _)).trans ?_
  refine (zr_gfr h (tr_fl_y zl1)).trans ?_
  refine (zr_iload (v := enc l2) rfl (enc_lt _)).trans ?_
  by_cases c1 : 0 ≤ l2 ∧ l2 < 16
  · rw [if_pos c1] at k
    refine (zr_iald h (ta_fl_y zl1) c1.1 (by have := c1.2; omega)).trans ?_
    refine zr_invS [enc (nz (g (l1 + 2) l2))] rfl (zA_cons (enc_l _) zA_nil) (zA_cons (enc_l _) zA_nil) (by decide) ?_
    exact k
  · rw [if_neg c1] at k; cases k
theorem zs_70_0 (h : zOk b n f) {l1 : Nat} {l2 : Int} (zl1 : zI_fl l1) (zl2 : zR l2) (k : (if 0 ≤ l2 ∧ l2 < 16 then zTh (zCl AL V ST ex_km d 160 [enc (nz (g (l1 + 1) l2))] (zM n (zWf b f g))) (zM n (zWf b f g)) [] (fun S M => k70_16 V ST d (zCl AL V ST ex_km d) (zRn AL V ST ex_km d kt_70) (zP [zf b 61, zf b l1, enc l2, enc (nz (Int.tdiv (nz (g l1 14)) 2)), 137438953472, 137438953472, 137438953472, 137438953472, 137438953472]) S M) else none) = some r) : k70_0 V ST d (zCl AL V ST ex_km d) (zRn AL V ST ex_km d kt_70) (zP [zf b 61, zf b l1, enc l2, 137438953472, 137438953472, 137438953472, 137438953472, 137438953472, 137438953472]) [] (zM n (zWf b f g)) = some r := by
  unfold k70_0
  refine (zr_aload (v := zf b l1) rfl (zf_tA h _)).trans ?_
  refine (zr_gfi h (ti_fl_count zl1)).trans ?_
  refine (zr_pshi 2 rfl).trans ?_
  refine (zr_div (nz_R _) ((by unfold zR; omega)) (by decide)).trans ?_
  refine (zr_istore (w := enc l2) (vs' := [zf b 61, zf b l1, enc l2, enc (nz (Int.tdiv (nz (g l1 14)) 2)), 137438953472, 137438953472, 137438953472, 137438953472, 137438953472]) rfl (enc_c2 _) (Nat.lt_trans (enc_lt _) (by decide)) (by decide) rfl (enc_lt _)).trans ?_
  refine (zr_aload (v := zf b l1) rfl (zf_tA h _)).trans ?_
  refine (zr_gfr h (tr_fl_x zl1)).trans ?_
  refine (zr_iload (v := enc l2) rfl (enc_lt _)).trans ?_
  by_cases c1 : 0 ≤ l2 ∧ l2 < 16
  · rw [if_pos c1] at k
    refine (zr_iald h (ta_fl_x zl1) c1.1 (by have := c1.2; omega)).trans ?_
    refine zr_invS [enc (nz (g (l1 + 1) l2))] rfl (zA_cons (enc_l _) zA_nil) (zA_nil) (by decide) ?_
    exact k
  · rw [if_neg c1] at k; cases k
theorem zs_71_109 (h : zOk b n f) {l1 : Nat} {l2 : Int} {l3 : Int} (zl1 : zI_fl l1) (zl2 : zR l2) (zl3 : zR l3) (k : some (137438953473, (zM n (zWf b f g))) = some r) : k71_109 V ST d (zCl AL V ST ex_km d) (zRn AL V ST ex_km d kt_71) (zP [zf b 61, zf b l1, enc l2, enc l3]) [] (zM n (zWf b f g)) = some r := by
  unfold k71_109
  exact zr_return.trans k
theorem zs_71_106 (h : zOk b n f) {l1 : Nat} {l2 : Int} {l3 : Int} {s0 : Int} {s1 : Nat} (zl1 : zI_fl l1) (zl2 : zR l2) (zl3 : zR l3) (zs0 : zR s0) (zs1 : zI_fl s1) (k : zTh (zCl AL V ST ex_km d 75 [zf b 61, zf b s1, enc s0] (zM n (zWf b f g))) (zM n (zWf b f g)) [] (fun S M => k71_109 V ST d (zCl AL V ST ex_km d) (zRn AL V ST ex_km d kt_71) (zP [zf b 61, zf b l1, enc l2, enc l3]) S M) = some r) : k71_106 V ST d (zCl AL V ST ex_km d) (zRn AL V ST ex_km d kt_71) (zP [zf b 61, zf b l1, enc l2, enc l3]) [enc s0, zf b s1, zf b 61] (zM n (zWf b f g)) = some r := by
  unfold k71_106
  refine zr_invV h [enc s0, zf b s1] rfl (tk_st rfl) (zA_cons (enc_l _) (zA_cons (zf_l h _) zA_nil)) (zA_nil) (by decide) ?_
  exact k
theorem zs_71_105 (h : zOk b n f) {l1 : Nat} {l2 : Int} {l3 : Int} {s0 : Nat} (zl1 : zI_fl l1) (zl2 : zR l2) (zl3 : zR l3) (zs0 : zI_fl s0) (k : k71_106 V ST d (zCl AL V ST ex_km d) (zRn AL V ST ex_km d kt_71) (zP [zf b 61, zf b l1, enc l2, enc l3]) [enc 0, zf b s0, zf b 61] (zM n (zWf b f g)) = some r) : k71_105 V ST d (zCl AL V ST ex_km d) (zRn AL V ST ex_km d kt_71) (zP [zf b 61, zf b l1, enc l2, enc l3]) [zf b s0, zf b 61] (zM n (zWf b f g)) = some r := by
  unfold k71_105
  refine (zr_pshi 0 rfl).trans ?_
  exact k
theorem zs_71_87 (h : zOk b n f) {l1 : Nat} {l2 : Int} {l3 : Int} (zl1 : zI_fl l1) (zl2 : zR l2) (zl3 : zR l3) (k : (if l2 < 6 then zRn AL V ST ex_km d kt_71 109 (zP [zf b 61, zf b l1, enc l2, enc l3]) [] (zM n (zWf b f g)) else (if l2 = 12 then zRn AL V ST ex_km d kt_71 106 (zP [zf b 61, zf b l1, enc l2, enc l3]) [enc 1, zf b l1, zf b 61] (zM n (zWf b f g)) else zRn AL V ST ex_km d kt_71 105 (zP [zf b 61, zf b l1, enc l2, enc l3]) [zf b l1, zf b 61] (zM n (zWf b f g)))) = some r) : k71_87 V ST d (zCl AL V ST ex_km d) (zRn AL V ST ex_km d kt_71) (zP [zf b 61, zf b l1, enc l2, enc l3]) [] (zM n (zWf b f g)) = some r := by
  unfold k71_87
  refine (zr_iload (v := enc l2) rfl (enc_lt _)).trans ?_
  refine (zr_pshi 6 rfl).trans ?_
  by_cases c1 : l2 < 6
  · rw [if_pos c1] at k
    exact (zr_icmp_lt_t (zl2) ((by unfold zR; omega)) c1).trans k
  · rw [if_neg c1] at k
    refine (zr_icmp_lt_n (zl2) ((by unfold zR; omega)) (Int.not_lt.mp c1)).trans ?_
    refine (zr_aload (v := zf b 61) rfl (zf_tA h _)).trans ?_
    refine (zr_aload (v := zf b l1) rfl (zf_tA h _)).trans ?_
    refine (zr_iload (v := enc l2) rfl (enc_lt _)).trans ?_
    refine (zr_pshi 12 rfl).trans ?_
    by_cases c2 : l2 = 12
    · rw [if_pos c2] at k
      refine (zr_icmp_ne_n (zl2) ((by unfold zR; omega)) c2).trans ?_
      refine (zr_pshi 1 rfl).trans ?_
      exact (zr_goto).trans k
    · rw [if_neg c2] at k
      exact (zr_icmp_ne_t (zl2) ((by unfold zR; omega)) c2).trans k
theorem zs_71_84 (h : zOk b n f) {l1 : Nat} {l2 : Int} {l3 : Int} (zl1 : zI_fl l1) (zl2 : zR l2) (zl3 : zR l3) (k : zRn AL V ST ex_km d kt_71 109 (zP [zf b 61, zf b l1, enc l2, enc l3]) [] (zM n (zWf b f g)) = some r) : k71_84 V ST d (zCl AL V ST ex_km d) (zRn AL V ST ex_km d kt_71) (zP [zf b 61, zf b l1, enc l2, enc l3]) [] (zM n (zWf b f g)) = some r := by
  unfold k71_84
  exact (zr_goto).trans k
theorem zs_71_73 (h : zOk b n f) {l1 : Nat} {l2 : Int} {l3 : Int} (zl1 : zI_fl l1) (zl2 : zR l2) (zl3 : zR l3) (k : (if l2 = 11 then zTh (zCl AL V ST ex_km d 79 [zf b 61, zf b l1] (zM n (zWf b f g))) (zM n (zWf b f g)) [] (fun S M => k71_84 V ST d (zCl AL V ST ex_km d) (zRn AL V ST ex_km d kt_71) (zP [zf b 61, zf b l1, enc l2, enc l3]) S M) else zRn AL V ST ex_km d kt_71 87 (zP [zf b 61, zf b l1, enc l2, enc l3]) [] (zM n (zWf b f g))) = some r) : k71_73 V ST d (zCl AL V ST ex_km d) (zRn AL V ST ex_km d kt_71) (zP [zf b 61, zf b l1, enc l2, enc l3]) [] (zM n (zWf b f g)) = some r := by
  unfold k71_73
  refine (zr_iload (v := enc l2) rfl (enc_lt _)).trans ?_
  refine (zr_pshi 11 rfl).trans ?_
  by_cases c1 : l2 = 11
  · rw [if_pos c1] at k
    refine (zr_icmp_ne_n (zl2) ((by unfold zR; omega)) c1).trans ?_
    refine (zr_aload (v := zf b 61) rfl (zf_tA h _)).trans ?_
    refine (zr_aload (v := zf b l1) rfl (zf_tA h _)).trans ?_
    refine zr_invV h [zf b l1] rfl (tk_st rfl) (zA_cons (zf_l h _) zA_nil) (zA_nil) (by decide) ?_
    exact k
  · rw [if_neg c1] at k
    exact (zr_icmp_ne_t (zl2) ((by unfold zR; omega)) c1).trans k
theorem zs_71_70 (h : zOk b n f) {l1 : Nat} {l2 : Int} {l3 : Int} (zl1 : zI_fl l1) (zl2 : zR l2) (zl3 : zR l3) (k : zRn AL V ST ex_km d kt_71 109 (zP [zf b 61, zf b l1, enc l2, enc l3]) [] (zM n (zWf b f g)) = some r) : k71_70 V ST d (zCl AL V ST ex_km d) (zRn AL V ST ex_km d kt_71) (zP [zf b 61, zf b l1, enc l2, enc l3]) [] (zM n (zWf b f g)) = some r := by
  unfold k71_70
  exact (zr_goto).trans k
theorem zs_71_65 (h : zOk b n f) {l1 : Nat} {l2 : Int} {l3 : Int} (zl1 : zI_fl l1) (zl2 : zR l2) (zl3 : zR l3) (k : zTh (zCl AL V ST ex_km d 74 [zf b 61, zf b l1] (zM n (zWf b f g))) (zM n (zWf b f g)) [] (fun S M => k71_70 V ST d (zCl AL V ST ex_km d) (zRn AL V ST ex_km d kt_71) (zP [zf b 61, zf b l1, enc l2, enc l3]) S M) = some r) : k71_65 V ST d (zCl AL V ST ex_km d) (zRn AL V ST ex_km d kt_71) (zP [zf b 61, zf b l1, enc l2, enc l3]) [] (zM n (zWf b f g)) = some r := by
  unfold k71_65
  refine (zr_aload (v := zf b 61) rfl (zf_tA h _)).trans ?_
  refine (zr_aload (v := zf b l1) rfl (zf_tA h _)).trans ?_
  refine zr_invV h [zf b l1] rfl (tk_st rfl) (zA_cons (zf_l h _) zA_nil) (zA_nil) (by decide) ?_
  exact k
theorem zs_71_55 (h : zOk b n f) {l1 : Nat} {l2 : Int} {l3 : Int} (zl1 : zI_fl l1) (zl2 : zR l2) (zl3 : zR l3) (k : (if l2 = 4 then zRn AL V ST ex_km d kt_71 65 (zP [zf b 61, zf b l1, enc l2, enc l3]) [] (zM n (zWf b f g)) else (if l2 = 5 then k71_65 V ST d (zCl AL V ST ex_km d) (zRn AL V ST ex_km d kt_71) (zP [zf b 61, zf b l1, enc l2, enc l3]) [] (zM n (zWf b f g)) else zRn AL V ST ex_km d kt_71 73 (zP [zf b 61, zf b l1, enc l2, enc l3]) [] (zM n (zWf b f g)))) = some r) : k71_55 V ST d (zCl AL V ST ex_km d) (zRn AL V ST ex_km d kt_71) (zP [zf b 61, zf b l1, enc l2, enc l3]) [] (zM n (zWf b f g)) = some r := by
  unfold k71_55
  refine (zr_iload (v := enc l2) rfl (enc_lt _)).trans ?_
  refine (zr_pshi 4 rfl).trans ?_
  by_cases c1 : l2 = 4
  · rw [if_pos c1] at k
    exact (zr_icmp_eq_t (zl2) ((by unfold zR; omega)) c1).trans k
  · rw [if_neg c1] at k
    refine (zr_icmp_eq_n (zl2) ((by unfold zR; omega)) c1).trans ?_
    refine (zr_iload (v := enc l2) rfl (enc_lt _)).trans ?_
    refine (zr_pshi 5 rfl).trans ?_
    by_cases c2 : l2 = 5
    · rw [if_pos c2] at k
      refine (zr_icmp_ne_n (zl2) ((by unfold zR; omega)) c2).trans ?_
      exact k
    · rw [if_neg c2] at k
      exact (zr_icmp_ne_t (zl2) ((by unfold zR; omega)) c2).trans k
theorem zs_71_50 (h : zOk b n f) {l1 : Nat} {l2 : Int} {l3 : Int} (zl1 : zI_fl l1) (zl2 : zR l2) (zl3 : zR l3) (k : zTh (zCl AL V ST ex_km d 72 [zf b 61, zf b l1] (zM n (zWf b f g))) (zM n (zWf b f g)) [] (fun S M => k71_55 V ST d (zCl AL V ST ex_km d) (zRn AL V ST ex_km d kt_71) (zP [zf b 61, zf b l1, enc l2, enc l3]) S M) = some r) : k71_50 V ST d (zCl AL V ST ex_km d) (zRn AL V ST ex_km d kt_71) (zP [zf b 61, zf b l1, enc l2, enc l3]) [] (zM n (zWf b f g)) = some r := by
  unfold k71_50
  refine (zr_aload (v := zf b 61) rfl (zf_tA h _)).trans ?_
  refine (zr_aload (v := zf b l1) rfl (zf_tA h _)).trans ?_
  refine zr_invV h [zf b l1] rfl (tk_st rfl) (zA_cons (zf_l h _) zA_nil) (zA_nil) (by decide) ?_
  exact k
theorem zs_71_43 (h : zOk b n f) {l1 : Nat} {l2 : Int} {l3 : Int} {s0 : Int} {s1 : Int} {s2 : Nat} (zl1 : zI_fl l1) (zl2 : zR l2) (zl3 : zR l3) (zs0 : zR s0) (zs1 : zR s1) (zs2 : zAr s2 65 16) (k : (if 0 ≤ s1 ∧ s1 < 16 then (if s0 = 0 ∨ s0 = 1 then zRn AL V ST ex_km d kt_71 2 (zP [zf b 61, zf b l1, enc l2, enc (nz (l3 + 1))]) [] (zM n (zWf b f (upd g s2 s1 s0))) else none) else none) = some r) : k71_43 V ST d (zCl AL V ST ex_km d) (zRn AL V ST ex_km d kt_71) (zP [zf b 61, zf b l1, enc l2, enc l3]) [enc s0, enc s1, zf b s2] (zM n (zWf b f g)) = some r := by
  unfold k71_43
  by_cases c1 : 0 ≤ s1 ∧ s1 < 16
  · rw [if_pos c1] at k
    by_cases c2 : s0 = 0 ∨ s0 = 1
    · rw [if_pos c2] at k
      refine (zr_bast h zs2 c1.1 (by have := c1.2; omega) c2).trans ?_
      refine (zr_iinc (w := enc l2) (x := l3) (i' := 1) (vs' := [zf b 61, zf b l1, enc l2, enc (nz (l3 + 1))]) rfl (enc_c2 _) (Nat.lt_trans (enc_lt _) (by decide)) rfl rfl (by decide) rfl).trans ?_
      exact (zr_goto).trans k
    · rw [if_neg c2] at k; cases k
  · rw [if_neg c1] at k; cases k
theorem zs_71_42 (h : zOk b n f) {l1 : Nat} {l2 : Int} {l3 : Int} {s0 : Int} {s1 : Nat} (zl1 : zI_fl l1) (zl2 : zR l2) (zl3 : zR l3) (zs0 : zR s0) (zs1 : zAr s1 65 16) (k : k71_43 V ST d (zCl AL V ST ex_km d) (zRn AL V ST ex_km d kt_71) (zP [zf b 61, zf b l1, enc l2, enc l3]) [enc 0, enc s0, zf b s1] (zM n (zWf b f g)) = some r) : k71_42 V ST d (zCl AL V ST ex_km d) (zRn AL V ST ex_km d kt_71) (zP [zf b 61, zf b l1, enc l2, enc l3]) [enc s0, zf b s1] (zM n (zWf b f g)) = some r := by
  unfold k71_42
  refine (zr_pshi 0 rfl).trans ?_
  exact k
theorem zs_71_2 (h : zOk b n f) (hST : ∀ s, 1 ≤ s → s < 169 → ST s = ex_st s) {l1 : Nat} {l2 : Int} {l3 : Int} (zl1 : zI_fl l1) (zl2 : zR l2) (zl3 : zR l3) (k : (if l3 < nz (g l1 14) then (if 0 ≤ l3 ∧ l3 < 16 then (if nz (g 62 l3) = 0 then zRn AL V ST ex_km d kt_71 42 (zP [zf b 61, zf b l1, enc l2, enc l3]) [enc l3, zf b 63] (zM n (zWf b f g)) else (if 0 ≤ l3 ∧ l3 < 16 then (if 0 ≤ l2 ∧ l2 < 13 then (if nz (g (l1 + 5) l3) < sa_ACT_LEVELS l2 then zRn AL V ST ex_km d kt_71 42 (zP [zf b 61, zf b l1, enc l2, enc l3]) [enc l3, zf b 63] (zM n (zWf b f g)) else zRn AL V ST ex_km d kt_71 43 (zP [zf b 61, zf b l1, enc l2, enc l3]) [enc 1, enc l3, zf b 63] (zM n (zWf b f g))) else none) else none)) else none) else zRn AL V ST ex_km d kt_71 50 (zP [zf b 61, zf b l1, enc l2, enc l3]) [] (zM n (zWf b f g))) = some r) : k71_2 V ST d (zCl AL V ST ex_km d) (zRn AL V ST ex_km d kt_71) (zP [zf b 61, zf b l1, enc l2, enc l3]) [] (zM n (zWf b f g)) = some r := by
  unfold k71_2
  refine (zr_iload (v := enc l3) rfl (enc_lt _)).trans ?_
  refine (zr_aload (v := zf b l1) rfl (zf_tA h _)).trans ?_
  refine (zr_gfi h (ti_fl_count zl1)).trans ?_
  by_cases c1 : l3 < nz (g l1 14)
  · rw [if_pos c1] at k
    refine (zr_icmp_ge_n (zl3) (nz_R _) c1).trans ?_
    refine (zr_aload (v := zf b 61) rfl (zf_tA h _)).trans ?_
    refine (zr_gfr h (tr_st_isDancing rfl)).trans ?_
    refine (zr_iload (v := enc l3) rfl (enc_lt _)).trans ?_
    refine (zr_aload (v := zf b 61) rfl (zf_tA h _)).trans ?_
    refine (zr_gfr h (tr_st_told rfl)).trans ?_
    refine (zr_iload (v := enc l3) rfl (enc_lt _)).trans ?_
    by_cases c2 : 0 ≤ l3 ∧ l3 < 16
    · rw [if_pos c2] at k
      refine (zr_bald h (ta_st_told rfl) c2.1 (by have := c2.2; omega)).trans ?_
      by_cases c3 : nz (g 62 l3) = 0
      · rw [if_pos c3] at k
        exact (zr_if_eq_t (nz_R _) c3).trans k
      · rw [if_neg c3] at k
        refine (zr_if_eq_n (nz_R _) c3).trans ?_
        refine (zr_aload (v := zf b l1) rfl (zf_tA h _)).trans ?_
        refine (zr_gfr h (tr_fl_ability zl1)).trans ?_
        refine (zr_iload (v := enc l3) rfl (enc_lt _)).trans ?_
        by_cases c4 : 0 ≤ l3 ∧ l3 < 16
        · rw [if_pos c4] at k
          refine (zr_iald h (ta_fl_ability zl1) c4.1 (by have := c4.2; omega)).trans ?_
          refine (zr_psh).trans ?_
          refine (zr_iload (v := enc l2) rfl (enc_lt _)).trans ?_
          by_cases c5 : 0 ≤ l2 ∧ l2 < 13
          · rw [if_pos c5] at k
            refine (zr_iaS (s := 1) (m := 13) ((hST 1 (by decide) (by decide)).symm ▸ (by decide +kernel : ex_get (ex_st 1) 0 = 64 + 256 * 13)) (by decide) c5.1 (by have := c5.2; omega) (by rw [hST 1 (by decide) (by decide)]; exact sa_ACT_LEVELS_E c5.1 c5.2) (by decide)).trans ?_
            by_cases c6 : nz (g (l1 + 5) l3) < sa_ACT_LEVELS l2
            · rw [if_pos c6] at k
              exact (zr_icmp_lt_t (nz_R _) (sa_ACT_LEVELS_R _) c6).trans k
            · rw [if_neg c6] at k
              refine (zr_icmp_lt_n (nz_R _) (sa_ACT_LEVELS_R _) (Int.not_lt.mp c6)).trans ?_
              refine (zr_pshi 1 rfl).trans ?_
              exact (zr_goto).trans k
          · rw [if_neg c5] at k; cases k
        · rw [if_neg c4] at k; cases k
    · rw [if_neg c2] at k; cases k
  · rw [if_neg c1] at k
    exact (zr_icmp_ge_t (zl3) (nz_R _) (Int.not_lt.mp c1)).trans k
theorem zs_71_0 (h : zOk b n f) {l1 : Nat} {l2 : Int} (zl1 : zI_fl l1) (zl2 : zR l2) (k : k71_2 V ST d (zCl AL V ST ex_km d) (zRn AL V ST ex_km d kt_71) (zP [zf b 61, zf b l1, enc l2, enc 0]) [] (zM n (zWf b f g)) = some r) : k71_0 V ST d (zCl AL V ST ex_km d) (zRn AL V ST ex_km d kt_71) (zP [zf b 61, zf b l1, enc l2, 137438953472]) [] (zM n (zWf b f g)) = some r := by
  unfold k71_0
  refine (zr_pshi 0 rfl).trans ?_
  refine (zr_istore (w := enc l2) (vs' := [zf b 61, zf b l1, enc l2, enc 0]) rfl (enc_c2 _) (Nat.lt_trans (enc_lt _) (by decide)) (by decide) rfl (enc_lt _)).trans ?_
  exact k
theorem zs_72_192 (h : zOk b n f) {l1 : Nat} {l2 : Int} {l3 : Nat} {l4 : Nat} {l5 : Nat} (zl1 : zI_fl l1) (zl2 : zR l2) (zl3 : ex_c2 l3 = false ∧ l3 < 1099511627776) (zl4 : ex_c2 l4 = false ∧ l4 < 1099511627776) (zl5 : ex_c2 l5 = false ∧ l5 < 1099511627776) (k : some (137438953473, (zM n (zWf b f g))) = some r) : k72_192 V ST d (zCl AL V ST ex_km d) (zRn AL V ST ex_km d kt_72) (zP [zf b 61, zf b l1, enc l2, l3, l4, l5]) [] (zM n (zWf b f g)) = some r := by
  unfold k72_192
  exact zr_return.trans k
theorem zs_72_178 (h : zOk b n f) {l1 : Nat} {l2 : Int} {l3 : Int} {l4 : Int} {l5 : Int} (zl1 : zI_fl l1) (zl2 : zR l2) (zl3 : zR l3) (zl4 : zR l4) (zl5 : zR l5) (k : (if 0 ≤ l5 ∧ l5 < 16 then zRn AL V ST ex_km d kt_72 2 (zP [zf b 61, zf b l1, enc (nz (l2 + 1)), enc l3, enc l4, enc l5]) [] (zM n (zWf b f (upd g 64 l5 l2))) else none) = some r) : k72_178 V ST d (zCl AL V ST ex_km d) (zRn AL V ST ex_km d kt_72) (zP [zf b 61, zf b l1, enc l2, enc l3, enc l4, enc l5]) [] (zM n (zWf b f g)) = some r := by
  unfold k72_178
  refine (zr_aload (v := zf b 61) rfl (zf_tA h _)).trans ?_
  refine (zr_gfr h (tr_st_order rfl)).trans ?_
  refine (zr_iload (v := enc l5) rfl (enc_lt _)).trans ?_
  refine (zr_iload (v := enc l2) rfl (enc_lt _)).trans ?_
  by_cases c1 : 0 ≤ l5 ∧ l5 < 16
  · rw [if_pos c1] at k
    refine (zr_iast h (ta_st_order rfl) c1.1 (by have := c1.2; omega)).trans ?_
    refine (zr_iinc (w := zf b l1) (x := l2) (i' := 1) (vs' := [zf b 61, zf b l1, enc (nz (l2 + 1)), enc l3, enc l4, enc l5]) rfl (zf_c2 h _) (Nat.lt_trans (zf_l h _) (by decide)) rfl rfl (by decide) rfl).trans ?_
    exact (zr_goto).trans k
  · rw [if_neg c1] at k; cases k
theorem zs_72_153 (h : zOk b n f) {l1 : Nat} {l2 : Int} {l3 : Int} {l4 : Int} {l5 : Int} {s0 : Int} (zl1 : zI_fl l1) (zl2 : zR l2) (zl3 : zR l3) (zl4 : zR l4) (zl5 : zR l5) (zs0 : zR s0) (k : (if s0 = 0 then zRn AL V ST ex_km d kt_72 178 (zP [zf b 61, zf b l1, enc l2, enc l3, enc l4, enc l5]) [] (zM n (zWf b f g)) else (if 0 ≤ nz (l5 - 1) ∧ nz (l5 - 1) < 16 then (if 0 ≤ l5 ∧ l5 < 16 then zRn AL V ST ex_km d kt_72 133 (zP [zf b 61, zf b l1, enc l2, enc l3, enc l4, enc (nz (l5 + (-1)))]) [] (zM n (zWf b f (upd g 64 l5 (nz (g 64 (nz (l5 - 1))))))) else none) else none)) = some r) : k72_153 V ST d (zCl AL V ST ex_km d) (zRn AL V ST ex_km d kt_72) (zP [zf b 61, zf b l1, enc l2, enc l3, enc l4, enc l5]) [enc s0] (zM n (zWf b f g)) = some r := by
  unfold k72_153
  by_cases c1 : s0 = 0
  · rw [if_pos c1] at k
    exact (zr_if_eq_t (zs0) c1).trans k
  · rw [if_neg c1] at k
    refine (zr_if_eq_n (zs0) c1).trans ?_
    refine (zr_aload (v := zf b 61) rfl (zf_tA h _)).trans ?_
    refine (zr_gfr h (tr_st_order rfl)).trans ?_
    refine (zr_iload (v := enc l5) rfl (enc_lt _)).trans ?_
    refine (zr_aload (v := zf b 61) rfl (zf_tA h _)).trans ?_
    refine (zr_gfr h (tr_st_order rfl)).trans ?_
    refine (zr_iload (v := enc l5) rfl (enc_lt _)).trans ?_
    refine (zr_pshi 1 rfl).trans ?_
    refine (zr_isub).trans ?_
    by_cases c2 : 0 ≤ nz (l5 - 1) ∧ nz (l5 - 1) < 16
    · rw [if_pos c2] at k
      refine (zr_iald h (ta_st_order rfl) c2.1 (by have := c2.2; omega)).trans ?_
      by_cases c3 : 0 ≤ l5 ∧ l5 < 16
      · rw [if_pos c3] at k
        refine (zr_iast h (ta_st_order rfl) c3.1 (by have := c3.2; omega)).trans ?_
        refine (zr_iinc (w := enc l4) (x := l5) (i' := (-1)) (vs' := [zf b 61, zf b l1, enc l2, enc l3, enc l4, enc (nz (l5 + (-1)))]) rfl (enc_c2 _) (Nat.lt_trans (enc_lt _) (by decide)) rfl rfl (by decide) rfl).trans ?_
        exact (zr_goto).trans k
      · rw [if_neg c3] at k; cases k
    · rw [if_neg c2] at k; cases k
theorem zs_72_133 (h : zOk b n f) {l1 : Nat} {l2 : Int} {l3 : Int} {l4 : Int} {l5 : Int} (zl1 : zI_fl l1) (zl2 : zR l2) (zl3 : zR l3) (zl4 : zR l4) (zl5 : zR l5) (k : (if 0 < l5 then (if 0 ≤ nz (l5 - 1) ∧ nz (l5 - 1) < 16 then zTh (zCl AL V ST ex_km d 73 [zf b 61, zf b l1, enc l2, enc (nz (g 64 (nz (l5 - 1))))] (zM n (zWf b f g))) (zM n (zWf b f g)) [] (fun S M => k72_153 V ST d (zCl AL V ST ex_km d) (zRn AL V ST ex_km d kt_72) (zP [zf b 61, zf b l1, enc l2, enc l3, enc l4, enc l5]) S M) else none) else zRn AL V ST ex_km d kt_72 178 (zP [zf b 61, zf b l1, enc l2, enc l3, enc l4, enc l5]) [] (zM n (zWf b f g))) = some r) : k72_133 V ST d (zCl AL V ST ex_km d) (zRn AL V ST ex_km d kt_72) (zP [zf b 61, zf b l1, enc l2, enc l3, enc l4, enc l5]) [] (zM n (zWf b f g)) = some r := by
  unfold k72_133
  refine (zr_iload (v := enc l5) rfl (enc_lt _)).trans ?_
  by_cases c1 : 0 < l5
  · rw [if_pos c1] at k
    refine (zr_if_le_n (zl5) c1).trans ?_
    refine (zr_aload (v := zf b 61) rfl (zf_tA h _)).trans ?_
    refine (zr_aload (v := zf b l1) rfl (zf_tA h _)).trans ?_
    refine (zr_iload (v := enc l2) rfl (enc_lt _)).trans ?_
    refine (zr_aload (v := zf b 61) rfl (zf_tA h _)).trans ?_
    refine (zr_gfr h (tr_st_order rfl)).trans ?_
    refine (zr_iload (v := enc l5) rfl (enc_lt _)).trans ?_
    refine (zr_pshi 1 rfl).trans ?_
    refine (zr_isub).trans ?_
    by_cases c2 : 0 ≤ nz (l5 - 1) ∧ nz (l5 - 1) < 16
    · rw [if_pos c2] at k
      refine (zr_iald h (ta_st_order rfl) c2.1 (by have := c2.2; omega)).trans ?_
      refine zr_invV h [enc (nz (g 64 (nz (l5 - 1)))), enc l2, zf b l1] rfl (tk_st rfl) (zA_cons (enc_l _) (zA_cons (enc_l _) (zA_cons (zf_l h _) zA_nil))) (zA_nil) (by decide) ?_
      exact k
    · rw [if_neg c2] at k; cases k
  · rw [if_neg c1] at k
    exact (zr_if_le_t (zl5) (Int.not_lt.mp c1)).trans k
theorem zs_72_129 (h : zOk b n f) {l1 : Nat} {l2 : Int} {l3 : Int} {l4 : Int} {l5 : Nat} {s0 : Int} {s1 : Int} {s2 : Nat} (zl1 : zI_fl l1) (zl2 : zR l2) (zl3 : zR l3) (zl4 : zR l4) (zl5 : ex_c2 l5 = false ∧ l5 < 1099511627776) (zs0 : zR s0) (zs1 : zR s1) (zs2 : zAr s2 64 16) (k : (if 0 ≤ s1 ∧ s1 < 16 then k72_133 V ST d (zCl AL V ST ex_km d) (zRn AL V ST ex_km d kt_72) (zP [zf b 61, zf b l1, enc l2, enc l3, enc l4, enc l2]) [] (zM n (zWf b f (upd g s2 s1 s0))) else none) = some r) : k72_129 V ST d (zCl AL V ST ex_km d) (zRn AL V ST ex_km d kt_72) (zP [zf b 61, zf b l1, enc l2, enc l3, enc l4, l5]) [enc s0, enc s1, zf b s2] (zM n (zWf b f g)) = some r := by
  unfold k72_129
  by_cases c1 : 0 ≤ s1 ∧ s1 < 16
  · rw [if_pos c1] at k
    refine (zr_iast h zs2 c1.1 (by have := c1.2; omega)).trans ?_
    refine (zr_iload (v := enc l2) rfl (enc_lt _)).trans ?_
    refine (zr_istore (w := enc l4) (vs' := [zf b 61, zf b l1, enc l2, enc l3, enc l4, enc l2]) rfl (enc_c2 _) (Nat.lt_trans (enc_lt _) (by decide)) (by decide) rfl (enc_lt _)).trans ?_
    exact k
  · rw [if_neg c1] at k; cases k
theorem zs_72_127 (h : zOk b n f) {l1 : Nat} {l2 : Int} {l3 : Int} {l4 : Int} {l5 : Nat} {s0 : Int} {s1 : Nat} (zl1 : zI_fl l1) (zl2 : zR l2) (zl3 : zR l3) (zl4 : zR l4) (zl5 : ex_c2 l5 = false ∧ l5 < 1099511627776) (zs0 : zR s0) (zs1 : zAr s1 64 16) (k : k72_129 V ST d (zCl AL V ST ex_km d) (zRn AL V ST ex_km d kt_72) (zP [zf b 61, zf b l1, enc l2, enc l3, enc l4, l5]) [enc l4, enc s0, zf b s1] (zM n (zWf b f g)) = some r) : k72_127 V ST d (zCl AL V ST ex_km d) (zRn AL V ST ex_km d kt_72) (zP [zf b 61, zf b l1, enc l2, enc l3, enc l4, l5]) [enc s0, zf b s1] (zM n (zWf b f g)) = some r := by
  unfold k72_127
  refine (zr_iload (v := enc l4) rfl (enc_lt _)).trans ?_
  exact k
theorem zs_72_111 (h : zOk b n f) {l1 : Nat} {l2 : Int} {l3 : Int} {l4 : Nat} {l5 : Nat} {s0 : Int} {s1 : Int} (zl1 : zI_fl l1) (zl2 : zR l2) (zl3 : zR l3) (zl4 : ex_c2 l4 = false ∧ l4 < 1099511627776) (zl5 : ex_c2 l5 = false ∧ l5 < 1099511627776) (zs0 : zR s0) (zs1 : zR s1) (k : (if l3 = 0 then zRn AL V ST ex_km d kt_72 127 (zP [zf b 61, zf b l1, enc l2, enc l3, enc (nz (s1 + s0)), l5]) [enc l2, zf b 65] (zM n (zWf b f g)) else zRn AL V ST ex_km d kt_72 129 (zP [zf b 61, zf b l1, enc l2, enc l3, enc (nz (s1 + s0)), l5]) [enc (-1), enc l2, zf b 65] (zM n (zWf b f g))) = some r) : k72_111 V ST d (zCl AL V ST ex_km d) (zRn AL V ST ex_km d kt_72) (zP [zf b 61, zf b l1, enc l2, enc l3, l4, l5]) [enc s0, enc s1] (zM n (zWf b f g)) = some r := by
  unfold k72_111
  refine (zr_iadd).trans ?_
  refine (zr_istore (w := enc l3) (vs' := [zf b 61, zf b l1, enc l2, enc l3, enc (nz (s1 + s0)), l5]) rfl (enc_c2 _) (Nat.lt_trans (enc_lt _) (by decide)) (by decide) rfl (enc_lt _)).trans ?_
  refine (zr_aload (v := zf b 61) rfl (zf_tA h _)).trans ?_
  refine (zr_gfr h (tr_st_zone rfl)).trans ?_
  refine (zr_iload (v := enc l2) rfl (enc_lt _)).trans ?_
  refine (zr_iload (v := enc l3) rfl (enc_lt _)).trans ?_
  by_cases c1 : l3 = 0
  · rw [if_pos c1] at k
    exact (zr_if_eq_t (zl3) c1).trans k
  · rw [if_neg c1] at k
    refine (zr_if_eq_n (zl3) c1).trans ?_
    refine (zr_pshi (-1) rfl).trans ?_
    exact (zr_goto).trans k
theorem zs_72_110 (h : zOk b n f) {l1 : Nat} {l2 : Int} {l3 : Int} {l4 : Nat} {l5 : Nat} {s0 : Int} (zl1 : zI_fl l1) (zl2 : zR l2) (zl3 : zR l3) (zl4 : ex_c2 l4 = false ∧ l4 < 1099511627776) (zl5 : ex_c2 l5 = false ∧ l5 < 1099511627776) (zs0 : zR s0) (k : k72_111 V ST d (zCl AL V ST ex_km d) (zRn AL V ST ex_km d kt_72) (zP [zf b 61, zf b l1, enc l2, enc l3, l4, l5]) [enc 0, enc s0] (zM n (zWf b f g)) = some r) : k72_110 V ST d (zCl AL V ST ex_km d) (zRn AL V ST ex_km d kt_72) (zP [zf b 61, zf b l1, enc l2, enc l3, l4, l5]) [enc s0] (zM n (zWf b f g)) = some r := by
  unfold k72_110
  refine (zr_pshi 0 rfl).trans ?_
  exact k
theorem zs_72_90 (h : zOk b n f) {l1 : Nat} {l2 : Int} {l3 : Int} {l4 : Nat} {l5 : Nat} {s0 : Int} (zl1 : zI_fl l1) (zl2 : zR l2) (zl3 : zR l3) (zl4 : ex_c2 l4 = false ∧ l4 < 1099511627776) (zl5 : ex_c2 l5 = false ∧ l5 < 1099511627776) (zs0 : zR s0) (k : (if nz (g 61 11) = 0 then zRn AL V ST ex_km d kt_72 110 (zP [zf b 61, zf b l1, enc l2, enc l3, l4, l5]) [enc s0] (zM n (zWf b f g)) else (if 0 ≤ l2 ∧ l2 < 16 then (if 0 < nz (g (l1 + 2) l2) then zRn AL V ST ex_km d kt_72 111 (zP [zf b 61, zf b l1, enc l2, enc l3, l4, l5]) [enc 2, enc s0] (zM n (zWf b f g)) else zRn AL V ST ex_km d kt_72 110 (zP [zf b 61, zf b l1, enc l2, enc l3, l4, l5]) [enc s0] (zM n (zWf b f g))) else none)) = some r) : k72_90 V ST d (zCl AL V ST ex_km d) (zRn AL V ST ex_km d kt_72) (zP [zf b 61, zf b l1, enc l2, enc l3, l4, l5]) [enc s0] (zM n (zWf b f g)) = some r := by
  unfold k72_90
  refine (zr_aload (v := zf b 61) rfl (zf_tA h _)).trans ?_
  refine (zr_gfi h (ti_st_isPartedByY rfl)).trans ?_
  by_cases c1 : nz (g 61 11) = 0
  · rw [if_pos c1] at k
    exact (zr_if_eq_t (nz_R _) c1).trans k
  · rw [if_neg c1] at k
    refine (zr_if_eq_n (nz_R _) c1).trans ?_
    refine (zr_aload (v := zf b l1) rfl (zf_tA h _)).trans ?_
    refine (zr_gfr h (tr_fl_y zl1)).trans ?_
    refine (zr_iload (v := enc l2) rfl (enc_lt _)).trans ?_
    by_cases c2 : 0 ≤ l2 ∧ l2 < 16
    · rw [if_pos c2] at k
      refine (zr_iald h (ta_fl_y zl1) c2.1 (by have := c2.2; omega)).trans ?_
      by_cases c3 : 0 < nz (g (l1 + 2) l2)
      · rw [if_pos c3] at k
        refine (zr_if_le_n (nz_R _) c3).trans ?_
        refine (zr_pshi 2 rfl).trans ?_
        exact (zr_goto).trans k
      · rw [if_neg c3] at k
        exact (zr_if_le_t (nz_R _) (Int.not_lt.mp c3)).trans k
    · rw [if_neg c2] at k; cases k
theorem zs_72_89 (h : zOk b n f) {l1 : Nat} {l2 : Int} {l3 : Int} {l4 : Nat} {l5 : Nat} (zl1 : zI_fl l1) (zl2 : zR l2) (zl3 : zR l3) (zl4 : ex_c2 l4 = false ∧ l4 < 1099511627776) (zl5 : ex_c2 l5 = false ∧ l5 < 1099511627776) (k : k72_90 V ST d (zCl AL V ST ex_km d) (zRn AL V ST ex_km d kt_72) (zP [zf b 61, zf b l1, enc l2, enc l3, l4, l5]) [enc 0] (zM n (zWf b f g)) = some r) : k72_89 V ST d (zCl AL V ST ex_km d) (zRn AL V ST ex_km d kt_72) (zP [zf b 61, zf b l1, enc l2, enc l3, l4, l5]) [] (zM n (zWf b f g)) = some r := by
  unfold k72_89
  refine (zr_pshi 0 rfl).trans ?_
  exact k
theorem zs_72_68 (h : zOk b n f) {l1 : Nat} {l2 : Int} {l3 : Nat} {l4 : Nat} {l5 : Nat} {s0 : Int} (zl1 : zI_fl l1) (zl2 : zR l2) (zl3 : ex_c2 l3 = false ∧ l3 < 1099511627776) (zl4 : ex_c2 l4 = false ∧ l4 < 1099511627776) (zl5 : ex_c2 l5 = false ∧ l5 < 1099511627776) (zs0 : zR s0) (k : (if nz (g 61 10) = 0 then zRn AL V ST ex_km d kt_72 89 (zP [zf b 61, zf b l1, enc l2, enc s0, l4, l5]) [] (zM n (zWf b f g)) else (if 0 ≤ l2 ∧ l2 < 16 then (if 0 < nz (g (l1 + 1) l2) then zRn AL V ST ex_km d kt_72 90 (zP [zf b 61, zf b l1, enc l2, enc s0, l4, l5]) [enc 1] (zM n (zWf b f g)) else zRn AL V ST ex_km d kt_72 89 (zP [zf b 61, zf b l1, enc l2, enc s0, l4, l5]) [] (zM n (zWf b f g))) else none)) = some r) : k72_68 V ST d (zCl AL V ST ex_km d) (zRn AL V ST ex_km d kt_72) (zP [zf b 61, zf b l1, enc l2, l3, l4, l5]) [enc s0] (zM n (zWf b f g)) = some r := by
  unfold k72_68
  refine (zr_istore (w := enc l2) (vs' := [zf b 61, zf b l1, enc l2, enc s0, l4, l5]) rfl (enc_c2 _) (Nat.lt_trans (enc_lt _) (by decide)) (by decide) rfl (enc_lt _)).trans ?_
  refine (zr_aload (v := zf b 61) rfl (zf_tA h _)).trans ?_
  refine (zr_gfi h (ti_st_isPartedByX rfl)).trans ?_
  by_cases c1 : nz (g 61 10) = 0
  · rw [if_pos c1] at k
    exact (zr_if_eq_t (nz_R _) c1).trans k
  · rw [if_neg c1] at k
    refine (zr_if_eq_n (nz_R _) c1).trans ?_
    refine (zr_aload (v := zf b l1) rfl (zf_tA h _)).trans ?_
    refine (zr_gfr h (tr_fl_x zl1)).trans ?_
    refine (zr_iload (v := enc l2) rfl (enc_lt _)).trans ?_
    by_cases c2 : 0 ≤ l2 ∧ l2 < 16
    · rw [if_pos c2] at k
      refine (zr_iald h (ta_fl_x zl1) c2.1 (by have := c2.2; omega)).trans ?_
      by_cases c3 : 0 < nz (g (l1 + 1) l2)
      · rw [if_pos c3] at k
        refine (zr_if_le_n (nz_R _) c3).trans ?_
        refine (zr_pshi 1 rfl).trans ?_
        exact (zr_goto).trans k
      · rw [if_neg c3] at k
        exact (zr_if_le_t (nz_R _) (Int.not_lt.mp c3)).trans k
    · rw [if_neg c2] at k; cases k
theorem zs_72_67 (h : zOk b n f) {l1 : Nat} {l2 : Int} {l3 : Nat} {l4 : Nat} {l5 : Nat} (zl1 : zI_fl l1) (zl2 : zR l2) (zl3 : ex_c2 l3 = false ∧ l3 < 1099511627776) (zl4 : ex_c2 l4 = false ∧ l4 < 1099511627776) (zl5 : ex_c2 l5 = false ∧ l5 < 1099511627776) (k : k72_68 V ST d (zCl AL V ST ex_km d) (zRn AL V ST ex_km d kt_72) (zP [zf b 61, zf b l1, enc l2, l3, l4, l5]) [enc 0] (zM n (zWf b f g)) = some r) : k72_67 V ST d (zCl AL V ST ex_km d) (zRn AL V ST ex_km d kt_72) (zP [zf b 61, zf b l1, enc l2, l3, l4, l5]) [] (zM n (zWf b f g)) = some r := by
  unfold k72_67
  refine (zr_pshi 0 rfl).trans ?_
  exact k
theorem zs_72_63 (h : zOk b n f) {l1 : Nat} {l2 : Int} {l3 : Nat} {l4 : Nat} {l5 : Nat} (zl1 : zI_fl l1) (zl2 : zR l2) (zl3 : ex_c2 l3 = false ∧ l3 < 1099511627776) (zl4 : ex_c2 l4 = false ∧ l4 < 1099511627776) (zl5 : ex_c2 l5 = false ∧ l5 < 1099511627776) (k : zRn AL V ST ex_km d kt_72 68 (zP [zf b 61, zf b l1, enc l2, l3, l4, l5]) [enc 1] (zM n (zWf b f g)) = some r) : k72_63 V ST d (zCl AL V ST ex_km d) (zRn AL V ST ex_km d kt_72) (zP [zf b 61, zf b l1, enc l2, l3, l4, l5]) [] (zM n (zWf b f g)) = some r := by
  unfold k72_63
  refine (zr_pshi 1 rfl).trans ?_
  exact (zr_goto).trans k
theorem zs_72_47 (h : zOk b n f) {l1 : Nat} {l2 : Int} {l3 : Nat} {l4 : Nat} {l5 : Nat} (zl1 : zI_fl l1) (zl2 : zR l2) (zl3 : ex_c2 l3 = false ∧ l3 < 1099511627776) (zl4 : ex_c2 l4 = false ∧ l4 < 1099511627776) (zl5 : ex_c2 l5 = false ∧ l5 < 1099511627776) (k : (if nz (g 61 11) = 0 then zRn AL V ST ex_km d kt_72 67 (zP [zf b 61, zf b l1, enc l2, l3, l4, l5]) [] (zM n (zWf b f g)) else (if 0 ≤ l2 ∧ l2 < 16 then (if nz (g (l1 + 2) l2) = 0 then k72_63 V ST d (zCl AL V ST ex_km d) (zRn AL V ST ex_km d kt_72) (zP [zf b 61, zf b l1, enc l2, l3, l4, l5]) [] (zM n (zWf b f g)) else zRn AL V ST ex_km d kt_72 67 (zP [zf b 61, zf b l1, enc l2, l3, l4, l5]) [] (zM n (zWf b f g))) else none)) = some r) : k72_47 V ST d (zCl AL V ST ex_km d) (zRn AL V ST ex_km d kt_72) (zP [zf b 61, zf b l1, enc l2, l3, l4, l5]) [] (zM n (zWf b f g)) = some r := by
  unfold k72_47
  refine (zr_aload (v := zf b 61) rfl (zf_tA h _)).trans ?_
  refine (zr_gfi h (ti_st_isPartedByY rfl)).trans ?_
  by_cases c1 : nz (g 61 11) = 0
  · rw [if_pos c1] at k
    exact (zr_if_eq_t (nz_R _) c1).trans k
  · rw [if_neg c1] at k
    refine (zr_if_eq_n (nz_R _) c1).trans ?_
    refine (zr_aload (v := zf b l1) rfl (zf_tA h _)).trans ?_
    refine (zr_gfr h (tr_fl_y zl1)).trans ?_
    refine (zr_iload (v := enc l2) rfl (enc_lt _)).trans ?_
    by_cases c2 : 0 ≤ l2 ∧ l2 < 16
    · rw [if_pos c2] at k
      refine (zr_iald h (ta_fl_y zl1) c2.1 (by have := c2.2; omega)).trans ?_
      by_cases c3 : nz (g (l1 + 2) l2) = 0
      · rw [if_pos c3] at k
        refine (zr_if_ne_n (nz_R _) c3).trans ?_
        exact k
      · rw [if_neg c3] at k
        exact (zr_if_ne_t (nz_R _) c3).trans k
    · rw [if_neg c2] at k; cases k
theorem zs_72_2 (h : zOk b n f) {l1 : Nat} {l2 : Int} {l3 : Nat} {l4 : Nat} {l5 : Nat} (zl1 : zI_fl l1) (zl2 : zR l2) (zl3 : ex_c2 l3 = false ∧ l3 < 1099511627776) (zl4 : ex_c2 l4 = false ∧ l4 < 1099511627776) (zl5 : ex_c2 l5 = false ∧ l5 < 1099511627776) (k : (if l2 < nz (g l1 14) then (if 0 ≤ l2 ∧ l2 < 16 then (if 0 ≤ l2 ∧ l2 < 16 then (if 0 ≤ l2 ∧ l2 < 16 then (if nz ((upd (upd (upd g 66 l2 (-1)) 67 l2 0) 68 l2 0) 61 10) = 0 then zRn AL V ST ex_km d kt_72 47 (zP [zf b 61, zf b l1, enc l2, l3, l4, l5]) [] (zM n (zWf b f (upd (upd (upd g 66 l2 (-1)) 67 l2 0) 68 l2 0))) else (if 0 ≤ l2 ∧ l2 < 16 then (if nz ((upd (upd (upd g 66 l2 (-1)) 67 l2 0) 68 l2 0) (l1 + 1) l2) = 0 then zRn AL V ST ex_km d kt_72 63 (zP [zf b 61, zf b l1, enc l2, l3, l4, l5]) [] (zM n (zWf b f (upd (upd (upd g 66 l2 (-1)) 67 l2 0) 68 l2 0))) else k72_47 V ST d (zCl AL V ST ex_km d) (zRn AL V ST ex_km d kt_72) (zP [zf b 61, zf b l1, enc l2, l3, l4, l5]) [] (zM n (zWf b f (upd (upd (upd g 66 l2 (-1)) 67 l2 0) 68 l2 0)))) else none)) else none) else none) else none) else zRn AL V ST ex_km d kt_72 192 (zP [zf b 61, zf b l1, enc l2, l3, l4, l5]) [] (zM n (zWf b f g))) = some r) : k72_2 V ST d (zCl AL V ST ex_km d) (zRn AL V ST ex_km d kt_72) (zP [zf b 61, zf b l1, enc l2, l3, l4, l5]) [] (zM n (zWf b f g)) = some r := by
  unfold k72_2
  refine (zr_iload (v := enc l2) rfl (enc_lt _)).trans ?_
  refine (zr_aload (v := zf b l1) rfl (zf_tA h _)).trans ?_
  refine (zr_gfi h (ti_fl_count zl1)).trans ?_
  by_cases c1 : l2 < nz (g l1 14)
  · rw [if_pos c1] at k
    refine (zr_icmp_ge_n (zl2) (nz_R _) c1).trans ?_
    refine (zr_aload (v := zf b 61) rfl (zf_tA h _)).trans ?_
    refine (zr_gfr h (tr_st_mate rfl)).trans ?_
    refine (zr_iload (v := enc l2) rfl (enc_lt _)).trans ?_
    refine (zr_pshi (-1) rfl).trans ?_
    by_cases c2 : 0 ≤ l2 ∧ l2 < 16
    · rw [if_pos c2] at k
      refine (zr_iast h (ta_st_mate rfl) c2.1 (by have := c2.2; omega)).trans ?_
      refine (zr_aload (v := zf b 61) rfl (zf_tA h _)).trans ?_
      refine (zr_gfr h (tr_st_kind rfl)).trans ?_
      refine (zr_iload (v := enc l2) rfl (enc_lt _)).trans ?_
      refine (zr_pshi 0 rfl).trans ?_
      by_cases c3 : 0 ≤ l2 ∧ l2 < 16
      · rw [if_pos c3] at k
        refine (zr_iast h (ta_st_kind rfl) c3.1 (by have := c3.2; omega)).trans ?_
        refine (zr_aload (v := zf b 61) rfl (zf_tA h _)).trans ?_
        refine (zr_gfr h (tr_st_isBoxed rfl)).trans ?_
        refine (zr_iload (v := enc l2) rfl (enc_lt _)).trans ?_
        refine (zr_pshi 0 rfl).trans ?_
        by_cases c4 : 0 ≤ l2 ∧ l2 < 16
        · rw [if_pos c4] at k
          refine (zr_bast h (ta_st_isBoxed rfl) c4.1 (by have := c4.2; omega) (by decide)).trans ?_
          refine (zr_aload (v := zf b 61) rfl (zf_tA h _)).trans ?_
          refine (zr_gfi h (ti_st_isPartedByX rfl)).trans ?_
          by_cases c5 : nz ((upd (upd (upd g 66 l2 (-1)) 67 l2 0) 68 l2 0) 61 10) = 0
          · rw [if_pos c5] at k
            exact (zr_if_eq_t (nz_R _) c5).trans k
          · rw [if_neg c5] at k
            refine (zr_if_eq_n (nz_R _) c5).trans ?_
            refine (zr_aload (v := zf b l1) rfl (zf_tA h _)).trans ?_
            refine (zr_gfr h (tr_fl_x zl1)).trans ?_
            refine (zr_iload (v := enc l2) rfl (enc_lt _)).trans ?_
            by_cases c6 : 0 ≤ l2 ∧ l2 < 16
            · rw [if_pos c6] at k
              refine (zr_iald h (ta_fl_x zl1) c6.1 (by have := c6.2; omega)).trans ?_
              by_cases c7 : nz ((upd (upd (upd g 66 l2 (-1)) 67 l2 0) 68 l2 0) (l1 + 1) l2) = 0
              · rw [if_pos c7] at k
                exact (zr_if_eq_t (nz_R _) c7).trans k
              · rw [if_neg c7] at k
                refine (zr_if_eq_n (nz_R _) c7).trans ?_
                exact k
            · rw [if_neg c6] at k; cases k
        · rw [if_neg c4] at k; cases k
      · rw [if_neg c3] at k; cases k
    · rw [if_neg c2] at k; cases k
  · rw [if_neg c1] at k
    exact (zr_icmp_ge_t (zl2) (nz_R _) (Int.not_lt.mp c1)).trans k
theorem zs_72_0 (h : zOk b n f) {l1 : Nat} (zl1 : zI_fl l1) (k : k72_2 V ST d (zCl AL V ST ex_km d) (zRn AL V ST ex_km d kt_72) (zP [zf b 61, zf b l1, enc 0, 137438953472, 137438953472, 137438953472]) [] (zM n (zWf b f g)) = some r) : k72_0 V ST d (zCl AL V ST ex_km d) (zRn AL V ST ex_km d kt_72) (zP [zf b 61, zf b l1, 137438953472, 137438953472, 137438953472, 137438953472]) [] (zM n (zWf b f g)) = some r := by
  unfold k72_0
  refine (zr_pshi 0 rfl).trans ?_
  refine (zr_istore (w := zf b l1) (vs' := [zf b 61, zf b l1, enc 0, 137438953472, 137438953472, 137438953472]) rfl (zf_c2 h _) (Nat.lt_trans (zf_l h _) (by decide)) (by decide) rfl (enc_lt _)).trans ?_
  exact k
theorem zs_73_92 (h : zOk b n f) {l1 : Nat} {l2 : Int} {l3 : Int} {s0 : Int} (zl1 : zI_fl l1) (zl2 : zR l2) (zl3 : zR l3) (zs0 : zR s0) (k : (if s0 = 0 ∨ s0 = 1 then some (enc s0, (zM n (zWf b f g))) else none) = some r) : k73_92 V ST d (zCl AL V ST ex_km d) (zRn AL V ST ex_km d kt_73) (zP [zf b 61, zf b l1, enc l2, enc l3]) [enc s0] (zM n (zWf b f g)) = some r := by
  unfold k73_92
  by_cases c1 : s0 = 0 ∨ s0 = 1
  · rw [if_pos c1] at k
    exact (zr_breturn c1).trans k
  · rw [if_neg c1] at k; cases k
theorem zs_73_91 (h : zOk b n f) {l1 : Nat} {l2 : Int} {l3 : Int} (zl1 : zI_fl l1) (zl2 : zR l2) (zl3 : zR l3) (k : k73_92 V ST d (zCl AL V ST ex_km d) (zRn AL V ST ex_km d kt_73) (zP [zf b 61, zf b l1, enc l2, enc l3]) [enc 0] (zM n (zWf b f g)) = some r) : k73_91 V ST d (zCl AL V ST ex_km d) (zRn AL V ST ex_km d kt_73) (zP [zf b 61, zf b l1, enc l2, enc l3]) [] (zM n (zWf b f g)) = some r := by
  unfold k73_91
  refine (zr_pshi 0 rfl).trans ?_
  exact k
theorem zs_73_72 (h : zOk b n f) {l1 : Nat} {l2 : Int} {l3 : Int} (zl1 : zI_fl l1) (zl2 : zR l2) (zl3 : zR l3) (k : (if 0 ≤ l2 ∧ l2 < 16 then (if 0 ≤ l3 ∧ l3 < 16 then (if nz (g (l1 + 4) l2) < nz (g (l1 + 4) l3) then zRn AL V ST ex_km d kt_73 92 (zP [zf b 61, zf b l1, enc l2, enc l3]) [enc 1] (zM n (zWf b f g)) else zRn AL V ST ex_km d kt_73 91 (zP [zf b 61, zf b l1, enc l2, enc l3]) [] (zM n (zWf b f g))) else none) else none) = some r) : k73_72 V ST d (zCl AL V ST ex_km d) (zRn AL V ST ex_km d kt_73) (zP [zf b 61, zf b l1, enc l2, enc l3]) [] (zM n (zWf b f g)) = some r := by
  unfold k73_72
  refine (zr_aload (v := zf b l1) rfl (zf_tA h _)).trans ?_
  refine (zr_gfr h (tr_fl_number zl1)).trans ?_
  refine (zr_iload (v := enc l2) rfl (enc_lt _)).trans ?_
  by_cases c1 : 0 ≤ l2 ∧ l2 < 16
  · rw [if_pos c1] at k
    refine (zr_iald h (ta_fl_number zl1) c1.1 (by have := c1.2; omega)).trans ?_
    refine (zr_aload (v := zf b l1) rfl (zf_tA h _)).trans ?_
    refine (zr_gfr h (tr_fl_number zl1)).trans ?_
    refine (zr_iload (v := enc l3) rfl (enc_lt _)).trans ?_
    by_cases c2 : 0 ≤ l3 ∧ l3 < 16
    · rw [if_pos c2] at k
      refine (zr_iald h (ta_fl_number zl1) c2.1 (by have := c2.2; omega)).trans ?_
      by_cases c3 : nz (g (l1 + 4) l2) < nz (g (l1 + 4) l3)
      · rw [if_pos c3] at k
        refine (zr_icmp_ge_n (nz_R _) (nz_R _) c3).trans ?_
        refine (zr_pshi 1 rfl).trans ?_
        exact (zr_goto).trans k
      · rw [if_neg c3] at k
        exact (zr_icmp_ge_t (nz_R _) (nz_R _) (Int.not_lt.mp c3)).trans k
    · rw [if_neg c2] at k; cases k
  · rw [if_neg c1] at k; cases k
theorem zs_73_71 (h : zOk b n f) {l1 : Nat} {l2 : Int} {l3 : Int} {s0 : Int} (zl1 : zI_fl l1) (zl2 : zR l2) (zl3 : zR l3) (zs0 : zR s0) (k : (if s0 = 0 ∨ s0 = 1 then some (enc s0, (zM n (zWf b f g))) else none) = some r) : k73_71 V ST d (zCl AL V ST ex_km d) (zRn AL V ST ex_km d kt_73) (zP [zf b 61, zf b l1, enc l2, enc l3]) [enc s0] (zM n (zWf b f g)) = some r := by
  unfold k73_71
  by_cases c1 : s0 = 0 ∨ s0 = 1
  · rw [if_pos c1] at k
    exact (zr_breturn c1).trans k
  · rw [if_neg c1] at k; cases k
theorem zs_73_70 (h : zOk b n f) {l1 : Nat} {l2 : Int} {l3 : Int} (zl1 : zI_fl l1) (zl2 : zR l2) (zl3 : zR l3) (k : k73_71 V ST d (zCl AL V ST ex_km d) (zRn AL V ST ex_km d kt_73) (zP [zf b 61, zf b l1, enc l2, enc l3]) [enc 0] (zM n (zWf b f g)) = some r) : k73_70 V ST d (zCl AL V ST ex_km d) (zRn AL V ST ex_km d kt_73) (zP [zf b 61, zf b l1, enc l2, enc l3]) [] (zM n (zWf b f g)) = some r := by
  unfold k73_70
  refine (zr_pshi 0 rfl).trans ?_
  exact k
theorem zs_73_36 (h : zOk b n f) {l1 : Nat} {l2 : Int} {l3 : Int} (zl1 : zI_fl l1) (zl2 : zR l2) (zl3 : zR l3) (k : (if 0 ≤ l2 ∧ l2 < 16 then (if 0 ≤ l3 ∧ l3 < 16 then (if nz (g (l1 + 2) l2) = nz (g (l1 + 2) l3) then zRn AL V ST ex_km d kt_73 72 (zP [zf b 61, zf b l1, enc l2, enc l3]) [] (zM n (zWf b f g)) else (if 0 ≤ l2 ∧ l2 < 16 then (if 0 ≤ l3 ∧ l3 < 16 then (if nz (g (l1 + 2) l2) < nz (g (l1 + 2) l3) then zRn AL V ST ex_km d kt_73 71 (zP [zf b 61, zf b l1, enc l2, enc l3]) [enc 1] (zM n (zWf b f g)) else zRn AL V ST ex_km d kt_73 70 (zP [zf b 61, zf b l1, enc l2, enc l3]) [] (zM n (zWf b f g))) else none) else none)) else none) else none) = some r) : k73_36 V ST d (zCl AL V ST ex_km d) (zRn AL V ST ex_km d kt_73) (zP [zf b 61, zf b l1, enc l2, enc l3]) [] (zM n (zWf b f g)) = some r := by
  unfold k73_36
  refine (zr_aload (v := zf b l1) rfl (zf_tA h _)).trans ?_
  refine (zr_gfr h (tr_fl_y zl1)).trans ?_
  refine (zr_iload (v := enc l2) rfl (enc_lt _)).trans ?_
  by_cases c1 : 0 ≤ l2 ∧ l2 < 16
  · rw [if_pos c1] at k
    refine (zr_iald h (ta_fl_y zl1) c1.1 (by have := c1.2; omega)).trans ?_
    refine (zr_aload (v := zf b l1) rfl (zf_tA h _)).trans ?_
    refine (zr_gfr h (tr_fl_y zl1)).trans ?_
    refine (zr_iload (v := enc l3) rfl (enc_lt _)).trans ?_
    by_cases c2 : 0 ≤ l3 ∧ l3 < 16
    · rw [if_pos c2] at k
      refine (zr_iald h (ta_fl_y zl1) c2.1 (by have := c2.2; omega)).trans ?_
      by_cases c3 : nz (g (l1 + 2) l2) = nz (g (l1 + 2) l3)
      · rw [if_pos c3] at k
        exact (zr_icmp_eq_t (nz_R _) (nz_R _) c3).trans k
      · rw [if_neg c3] at k
        refine (zr_icmp_eq_n (nz_R _) (nz_R _) c3).trans ?_
        refine (zr_aload (v := zf b l1) rfl (zf_tA h _)).trans ?_
        refine (zr_gfr h (tr_fl_y zl1)).trans ?_
        refine (zr_iload (v := enc l2) rfl (enc_lt _)).trans ?_
        by_cases c4 : 0 ≤ l2 ∧ l2 < 16
        · rw [if_pos c4] at k
          refine (zr_iald h (ta_fl_y zl1) c4.1 (by have := c4.2; omega)).trans ?_
          refine (zr_aload (v := zf b l1) rfl (zf_tA h _)).trans ?_
          refine (zr_gfr h (tr_fl_y zl1)).trans ?_
          refine (zr_iload (v := enc l3) rfl (enc_lt _)).trans ?_
          by_cases c5 : 0 ≤ l3 ∧ l3 < 16
          · rw [if_pos c5] at k
            refine (zr_iald h (ta_fl_y zl1) c5.1 (by have := c5.2; omega)).trans ?_
            by_cases c6 : nz (g (l1 + 2) l2) < nz (g (l1 + 2) l3)
            · rw [if_pos c6] at k
              refine (zr_icmp_ge_n (nz_R _) (nz_R _) c6).trans ?_
              refine (zr_pshi 1 rfl).trans ?_
              exact (zr_goto).trans k
            · rw [if_neg c6] at k
              exact (zr_icmp_ge_t (nz_R _) (nz_R _) (Int.not_lt.mp c6)).trans k
          · rw [if_neg c5] at k; cases k
        · rw [if_neg c4] at k; cases k
    · rw [if_neg c2] at k; cases k
  · rw [if_neg c1] at k; cases k
theorem zs_73_35 (h : zOk b n f) {l1 : Nat} {l2 : Int} {l3 : Int} {s0 : Int} (zl1 : zI_fl l1) (zl2 : zR l2) (zl3 : zR l3) (zs0 : zR s0) (k : (if s0 = 0 ∨ s0 = 1 then some (enc s0, (zM n (zWf b f g))) else none) = some r) : k73_35 V ST d (zCl AL V ST ex_km d) (zRn AL V ST ex_km d kt_73) (zP [zf b 61, zf b l1, enc l2, enc l3]) [enc s0] (zM n (zWf b f g)) = some r := by
  unfold k73_35
  by_cases c1 : s0 = 0 ∨ s0 = 1
  · rw [if_pos c1] at k
    exact (zr_breturn c1).trans k
  · rw [if_neg c1] at k; cases k
theorem zs_73_34 (h : zOk b n f) {l1 : Nat} {l2 : Int} {l3 : Int} (zl1 : zI_fl l1) (zl2 : zR l2) (zl3 : zR l3) (k : k73_35 V ST d (zCl AL V ST ex_km d) (zRn AL V ST ex_km d kt_73) (zP [zf b 61, zf b l1, enc l2, enc l3]) [enc 0] (zM n (zWf b f g)) = some r) : k73_34 V ST d (zCl AL V ST ex_km d) (zRn AL V ST ex_km d kt_73) (zP [zf b 61, zf b l1, enc l2, enc l3]) [] (zM n (zWf b f g)) = some r := by
  unfold k73_34
  refine (zr_pshi 0 rfl).trans ?_
  exact k
theorem zs_73_0 (h : zOk b n f) {l1 : Nat} {l2 : Int} {l3 : Int} (zl1 : zI_fl l1) (zl2 : zR l2) (zl3 : zR l3) (k : (if 0 ≤ l2 ∧ l2 < 16 then (if 0 ≤ l3 ∧ l3 < 16 then (if nz (g (l1 + 1) l2) = nz (g (l1 + 1) l3) then zRn AL V ST ex_km d kt_73 36 (zP [zf b 61, zf b l1, enc l2, enc l3]) [] (zM n (zWf b f g)) else (if 0 ≤ l2 ∧ l2 < 16 then (if 0 ≤ l3 ∧ l3 < 16 then (if nz (g (l1 + 1) l2) < nz (g (l1 + 1) l3) then zRn AL V ST ex_km d kt_73 35 (zP [zf b 61, zf b l1, enc l2, enc l3]) [enc 1] (zM n (zWf b f g)) else zRn AL V ST ex_km d kt_73 34 (zP [zf b 61, zf b l1, enc l2, enc l3]) [] (zM n (zWf b f g))) else none) else none)) else none) else none) = some r) : k73_0 V ST d (zCl AL V ST ex_km d) (zRn AL V ST ex_km d kt_73) (zP [zf b 61, zf b l1, enc l2, enc l3]) [] (zM n (zWf b f g)) = some r := by
  unfold k73_0
  refine (zr_aload (v := zf b l1) rfl (zf_tA h _)).trans ?_
  refine (zr_gfr h (tr_fl_x zl1)).trans ?_
  refine (zr_iload (v := enc l2) rfl (enc_lt _)).trans ?_
  by_cases c1 : 0 ≤ l2 ∧ l2 < 16
  · rw [if_pos c1] at k
    refine (zr_iald h (ta_fl_x zl1) c1.1 (by have := c1.2; omega)).trans ?_
    refine (zr_aload (v := zf b l1) rfl (zf_tA h _)).trans ?_
    refine (zr_gfr h (tr_fl_x zl1)).trans ?_
    refine (zr_iload (v := enc l3) rfl (enc_lt _)).trans ?_
    by_cases c2 : 0 ≤ l3 ∧ l3 < 16
    · rw [if_pos c2] at k
      refine (zr_iald h (ta_fl_x zl1) c2.1 (by have := c2.2; omega)).trans ?_
      by_cases c3 : nz (g (l1 + 1) l2) = nz (g (l1 + 1) l3)
      · rw [if_pos c3] at k
        exact (zr_icmp_eq_t (nz_R _) (nz_R _) c3).trans k
      · rw [if_neg c3] at k
        refine (zr_icmp_eq_n (nz_R _) (nz_R _) c3).trans ?_
        refine (zr_aload (v := zf b l1) rfl (zf_tA h _)).trans ?_
        refine (zr_gfr h (tr_fl_x zl1)).trans ?_
        refine (zr_iload (v := enc l2) rfl (enc_lt _)).trans ?_
        by_cases c4 : 0 ≤ l2 ∧ l2 < 16
        · rw [if_pos c4] at k
          refine (zr_iald h (ta_fl_x zl1) c4.1 (by have := c4.2; omega)).trans ?_
          refine (zr_aload (v := zf b l1) rfl (zf_tA h _)).trans ?_
          refine (zr_gfr h (tr_fl_x zl1)).trans ?_
          refine (zr_iload (v := enc l3) rfl (enc_lt _)).trans ?_
          by_cases c5 : 0 ≤ l3 ∧ l3 < 16
          · rw [if_pos c5] at k
            refine (zr_iald h (ta_fl_x zl1) c5.1 (by have := c5.2; omega)).trans ?_
            by_cases c6 : nz (g (l1 + 1) l2) < nz (g (l1 + 1) l3)
            · rw [if_pos c6] at k
              refine (zr_icmp_ge_n (nz_R _) (nz_R _) c6).trans ?_
              refine (zr_pshi 1 rfl).trans ?_
              exact (zr_goto).trans k
            · rw [if_neg c6] at k
              exact (zr_icmp_ge_t (nz_R _) (nz_R _) (Int.not_lt.mp c6)).trans k
          · rw [if_neg c5] at k; cases k
        · rw [if_neg c4] at k; cases k
    · rw [if_neg c2] at k; cases k
  · rw [if_neg c1] at k; cases k
theorem zs_74_190 (h : zOk b n f) {l1 : Nat} {l2 : Int} {l3 : Nat} {l4 : Nat} {l5 : Nat} {l6 : Nat} {l7 : Nat} (zl1 : zI_fl l1) (zl2 : zR l2) (zl3 : ex_c2 l3 = false ∧ l3 < 1099511627776) (zl4 : ex_c2 l4 = false ∧ l4 < 1099511627776) (zl5 : ex_c2 l5 = false ∧ l5 < 1099511627776) (zl6 : ex_c2 l6 = false ∧ l6 < 1099511627776) (zl7 : ex_c2 l7 = false ∧ l7 < 1099511627776) (k : some (137438953473, (zM n (zWf b f g))) = some r) : k74_190 V ST d (zCl AL V ST ex_km d) (zRn AL V ST ex_km d kt_74) (zP [zf b 61, zf b l1, enc l2, l3, l4, l5, l6, l7]) [] (zM n (zWf b f g)) = some r := by
  unfold k74_190
  exact zr_return.trans k
theorem zs_74_184 (h : zOk b n f) {l1 : Nat} {l2 : Int} {l3 : Nat} {l4 : Nat} {l5 : Nat} {l6 : Nat} {l7 : Nat} (zl1 : zI_fl l1) (zl2 : zR l2) (zl3 : ex_c2 l3 = false ∧ l3 < 1099511627776) (zl4 : ex_c2 l4 = false ∧ l4 < 1099511627776) (zl5 : ex_c2 l5 = false ∧ l5 < 1099511627776) (zl6 : ex_c2 l6 = false ∧ l6 < 1099511627776) (zl7 : ex_c2 l7 = false ∧ l7 < 1099511627776) (k : zRn AL V ST ex_km d kt_74 2 (zP [zf b 61, zf b l1, enc (nz (l2 + 1)), l3, l4, l5, l6, l7]) [] (zM n (zWf b f g)) = some r) : k74_184 V ST d (zCl AL V ST ex_km d) (zRn AL V ST ex_km d kt_74) (zP [zf b 61, zf b l1, enc l2, l3, l4, l5, l6, l7]) [] (zM n (zWf b f g)) = some r := by
  unfold k74_184
  refine (zr_iinc (w := zf b l1) (x := l2) (i' := 1) (vs' := [zf b 61, zf b l1, enc (nz (l2 + 1)), l3, l4, l5, l6, l7]) rfl (zf_c2 h _) (Nat.lt_trans (zf_l h _) (by decide)) rfl rfl (by decide) rfl).trans ?_
  exact (zr_goto).trans k
theorem zs_74_178 (h : zOk b n f) {l1 : Nat} {l2 : Int} {l3 : Int} {l4 : Int} {l5 : Int} {l6 : Int} {l7 : Int} (zl1 : zI_fl l1) (zl2 : zR l2) (zl3 : zR l3) (zl4 : zR l4) (zl5 : zR l5) (zl6 : zR l6) (zl7 : zR l7) (k : zRn AL V ST ex_km d kt_74 78 (zP [zf b 61, zf b l1, enc l2, enc l3, enc l4, enc l5, enc (nz (l6 + 1)), enc l7]) [] (zM n (zWf b f g)) = some r) : k74_178 V ST d (zCl AL V ST ex_km d) (zRn AL V ST ex_km d kt_74) (zP [zf b 61, zf b l1, enc l2, enc l3, enc l4, enc l5, enc l6, enc l7]) [] (zM n (zWf b f g)) = some r := by
  unfold k74_178
  refine (zr_iinc (w := enc l5) (x := l6) (i' := 1) (vs' := [zf b 61, zf b l1, enc l2, enc l3, enc l4, enc l5, enc (nz (l6 + 1)), enc l7]) rfl (enc_c2 _) (Nat.lt_trans (enc_lt _) (by decide)) rfl rfl (by decide) rfl).trans ?_
  exact (zr_goto).trans k
theorem zs_74_78 (h : zOk b n f) {l1 : Nat} {l2 : Int} {l3 : Int} {l4 : Int} {l5 : Int} {l6 : Int} {l7 : Nat} (zl1 : zI_fl l1) (zl2 : zR l2) (zl3 : zR l3) (zl4 : zR l4) (zl5 : zR l5) (zl6 : zR l6) (zl7 : ex_c2 l7 = false ∧ l7 < 1099511627776) (k : (if l6 < nz (g l1 14) then (if 0 ≤ l2 ∧ l2 < 16 then (if nz (g 66 l2) < 0 then (if 0 ≤ l6 ∧ l6 < 16 then (if 0 ≤ nz (g 64 l6) ∧ nz (g 64 l6) < 16 then (if nz (g 63 (nz (g 64 l6))) = 0 then zRn AL V ST ex_km d kt_74 178 (zP [zf b 61, zf b l1, enc l2, enc l3, enc l4, enc l5, enc l6, enc (nz (g 64 l6))]) [] (zM n (zWf b f g)) else (if 0 ≤ nz (g 64 l6) ∧ nz (g 64 l6) < 16 then (if 0 ≤ l2 ∧ l2 < 16 then (if nz (g 65 (nz (g 64 l6))) = nz (g 65 l2) then (if 0 ≤ nz (g 64 l6) ∧ nz (g 64 l6) < 16 then (if nz (g (l1 + 1) (nz (g 64 l6))) = l4 then (if 0 ≤ nz (g 64 l6) ∧ nz (g 64 l6) < 16 then (if nz (g (l1 + 2) (nz (g 64 l6))) = l5 then (if 0 ≤ nz (g 64 l6) ∧ nz (g 64 l6) < 16 then (if nz (g (l1 + 3) (nz (g 64 l6))) = zand (nz (l3 + 2)) 3 then (if 0 ≤ l2 ∧ l2 < 16 then k74_178 V ST d (zCl AL V ST ex_km d) (zRn AL V ST ex_km d kt_74) (zP [zf b 61, zf b l1, enc l2, enc l3, enc l4, enc l5, enc l6, enc (nz (g 64 l6))]) [] (zM n (zWf b f (upd g 66 l2 (nz (g 64 l6))))) else none) else zRn AL V ST ex_km d kt_74 178 (zP [zf b 61, zf b l1, enc l2, enc l3, enc l4, enc l5, enc l6, enc (nz (g 64 l6))]) [] (zM n (zWf b f g))) else none) else zRn AL V ST ex_km d kt_74 178 (zP [zf b 61, zf b l1, enc l2, enc l3, enc l4, enc l5, enc l6, enc (nz (g 64 l6))]) [] (zM n (zWf b f g))) else none) else zRn AL V ST ex_km d kt_74 178 (zP [zf b 61, zf b l1, enc l2, enc l3, enc l4, enc l5, enc l6, enc (nz (g 64 l6))]) [] (zM n (zWf b f g))) else none) else zRn AL V ST ex_km d kt_74 178 (zP [zf b 61, zf b l1, enc l2, enc l3, enc l4, enc l5, enc l6, enc (nz (g 64 l6))]) [] (zM n (zWf b f g))) else none) else none)) else none) else none) else zRn AL V ST ex_km d kt_74 184 (zP [zf b 61, zf b l1, enc l2, enc l3, enc l4, enc l5, enc l6, l7]) [] (zM n (zWf b f g))) else none) else zRn AL V ST ex_km d kt_74 184 (zP [zf b 61, zf b l1, enc l2, enc l3, enc l4, enc l5, enc l6, l7]) [] (zM n (zWf b f g))) = some r) : k74_78 V ST d (zCl AL V ST ex_km d) (zRn AL V ST ex_km d kt_74) (zP [zf b 61, zf b l1, enc l2, enc l3, enc l4, enc l5, enc l6, l7]) [] (zM n (zWf b f g)) = some r := by
  unfold k74_78
  refine (zr_iload (v := enc l6) rfl (enc_lt _)).trans ?_
  refine (zr_aload (v := zf b l1) rfl (zf_tA h _)).trans ?_
  refine (zr_gfi h (ti_fl_count zl1)).trans ?_
  by_cases c1 : l6 < nz (g l1 14)
  · rw [if_pos c1] at k
    refine (zr_icmp_ge_n (zl6) (nz_R _) c1).trans ?_
    refine (zr_aload (v := zf b 61) rfl (zf_tA h _)).trans ?_
    refine (zr_gfr h (tr_st_mate rfl)).trans ?_
    refine (zr_iload (v := enc l2) rfl (enc_lt _)).trans ?_
    by_cases c2 : 0 ≤ l2 ∧ l2 < 16
    · rw [if_pos c2] at k
      refine (zr_iald h (ta_st_mate rfl) c2.1 (by have := c2.2; omega)).trans ?_
      by_cases c3 : nz (g 66 l2) < 0
      · rw [if_pos c3] at k
        refine (zr_if_ge_n (nz_R _) c3).trans ?_
        refine (zr_aload (v := zf b 61) rfl (zf_tA h _)).trans ?_
        refine (zr_gfr h (tr_st_order rfl)).trans ?_
        refine (zr_iload (v := enc l6) rfl (enc_lt _)).trans ?_
        by_cases c4 : 0 ≤ l6 ∧ l6 < 16
        · rw [if_pos c4] at k
          refine (zr_iald h (ta_st_order rfl) c4.1 (by have := c4.2; omega)).trans ?_
          refine (zr_istore (w := enc l6) (vs' := [zf b 61, zf b l1, enc l2, enc l3, enc l4, enc l5, enc l6, enc (nz (g 64 l6))]) rfl (enc_c2 _) (Nat.lt_trans (enc_lt _) (by decide)) (by decide) rfl (enc_lt _)).trans ?_
          refine (zr_aload (v := zf b 61) rfl (zf_tA h _)).trans ?_
          refine (zr_gfr h (tr_st_isDancing rfl)).trans ?_
          refine (zr_iload (v := enc (nz (g 64 l6))) rfl (enc_lt _)).trans ?_
          by_cases c5 : 0 ≤ nz (g 64 l6) ∧ nz (g 64 l6) < 16
          · rw [if_pos c5] at k
            refine (zr_bald h (ta_st_isDancing rfl) c5.1 (by have := c5.2; omega)).trans ?_
            by_cases c6 : nz (g 63 (nz (g 64 l6))) = 0
            · rw [if_pos c6] at k
              exact (zr_if_eq_t (nz_R _) c6).trans k
            · rw [if_neg c6] at k
              refine (zr_if_eq_n (nz_R _) c6).trans ?_
              refine (zr_aload (v := zf b 61) rfl (zf_tA h _)).trans ?_
              refine (zr_gfr h (tr_st_zone rfl)).trans ?_
              refine (zr_iload (v := enc (nz (g 64 l6))) rfl (enc_lt _)).trans ?_
              by_cases c7 : 0 ≤ nz (g 64 l6) ∧ nz (g 64 l6) < 16
              · rw [if_pos c7] at k
                refine (zr_iald h (ta_st_zone rfl) c7.1 (by have := c7.2; omega)).trans ?_
                refine (zr_aload (v := zf b 61) rfl (zf_tA h _)).trans ?_
                refine (zr_gfr h (tr_st_zone rfl)).trans ?_
                refine (zr_iload (v := enc l2) rfl (enc_lt _)).trans ?_
                by_cases c8 : 0 ≤ l2 ∧ l2 < 16
                · rw [if_pos c8] at k
                  refine (zr_iald h (ta_st_zone rfl) c8.1 (by have := c8.2; omega)).trans ?_
                  by_cases c9 : nz (g 65 (nz (g 64 l6))) = nz (g 65 l2)
                  · rw [if_pos c9] at k
                    refine (zr_icmp_ne_n (nz_R _) (nz_R _) c9).trans ?_
                    refine (zr_aload (v := zf b l1) rfl (zf_tA h _)).trans ?_
                    refine (zr_gfr h (tr_fl_x zl1)).trans ?_
                    refine (zr_iload (v := enc (nz (g 64 l6))) rfl (enc_lt _)).trans ?_
                    by_cases c10 : 0 ≤ nz (g 64 l6) ∧ nz (g 64 l6) < 16
                    · rw [if_pos c10] at k
                      refine (zr_iald h (ta_fl_x zl1) c10.1 (by have := c10.2; omega)).trans ?_
                      refine (zr_iload (v := enc l4) rfl (enc_lt _)).trans ?_
                      by_cases c11 : nz (g (l1 + 1) (nz (g 64 l6))) = l4
                      · rw [if_pos c11] at k
                        refine (zr_icmp_ne_n (nz_R _) (zl4) c11).trans ?_
                        refine (zr_aload (v := zf b l1) rfl (zf_tA h _)).trans ?_
                        refine (zr_gfr h (tr_fl_y zl1)).trans ?_
                        refine (zr_iload (v := enc (nz (g 64 l6))) rfl (enc_lt _)).trans ?_
                        by_cases c12 : 0 ≤ nz (g 64 l6) ∧ nz (g 64 l6) < 16
                        · rw [if_pos c12] at k
                          refine (zr_iald h (ta_fl_y zl1) c12.1 (by have := c12.2; omega)).trans ?_
                          refine (zr_iload (v := enc l5) rfl (enc_lt _)).trans ?_
                          by_cases c13 : nz (g (l1 + 2) (nz (g 64 l6))) = l5
                          · rw [if_pos c13] at k
                            refine (zr_icmp_ne_n (nz_R _) (zl5) c13).trans ?_
                            refine (zr_aload (v := zf b l1) rfl (zf_tA h _)).trans ?_
                            refine (zr_gfr h (tr_fl_f zl1)).trans ?_
                            refine (zr_iload (v := enc (nz (g 64 l6))) rfl (enc_lt _)).trans ?_
                            by_cases c14 : 0 ≤ nz (g 64 l6) ∧ nz (g 64 l6) < 16
                            · rw [if_pos c14] at k
                              refine (zr_iald h (ta_fl_f zl1) c14.1 (by have := c14.2; omega)).trans ?_
                              refine (zr_iload (v := enc l3) rfl (enc_lt _)).trans ?_
                              refine (zr_pshi 2 rfl).trans ?_
                              refine (zr_iadd).trans ?_
                              refine (zr_pshi 3 rfl).trans ?_
                              refine (zr_iand).trans ?_
                              by_cases c15 : nz (g (l1 + 3) (nz (g 64 l6))) = zand (nz (l3 + 2)) 3
                              · rw [if_pos c15] at k
                                refine (zr_icmp_ne_n (nz_R _) (nz_R _) c15).trans ?_
                                refine (zr_aload (v := zf b 61) rfl (zf_tA h _)).trans ?_
                                refine (zr_gfr h (tr_st_mate rfl)).trans ?_
                                refine (zr_iload (v := enc l2) rfl (enc_lt _)).trans ?_
                                refine (zr_iload (v := enc (nz (g 64 l6))) rfl (enc_lt _)).trans ?_
                                by_cases c16 : 0 ≤ l2 ∧ l2 < 16
                                · rw [if_pos c16] at k
                                  refine (zr_iast h (ta_st_mate rfl) c16.1 (by have := c16.2; omega)).trans ?_
                                  exact k
                                · rw [if_neg c16] at k; cases k
                              · rw [if_neg c15] at k
                                exact (zr_icmp_ne_t (nz_R _) (nz_R _) c15).trans k
                            · rw [if_neg c14] at k; cases k
                          · rw [if_neg c13] at k
                            exact (zr_icmp_ne_t (nz_R _) (zl5) c13).trans k
                        · rw [if_neg c12] at k; cases k
                      · rw [if_neg c11] at k
                        exact (zr_icmp_ne_t (nz_R _) (zl4) c11).trans k
                    · rw [if_neg c10] at k; cases k
                  · rw [if_neg c9] at k
                    exact (zr_icmp_ne_t (nz_R _) (nz_R _) c9).trans k
                · rw [if_neg c8] at k; cases k
              · rw [if_neg c7] at k; cases k
          · rw [if_neg c5] at k; cases k
        · rw [if_neg c4] at k; cases k
      · rw [if_neg c3] at k
        exact (zr_if_ge_t (nz_R _) (Int.not_lt.mp c3)).trans k
    · rw [if_neg c2] at k; cases k
  · rw [if_neg c1] at k
    exact (zr_icmp_ge_t (zl6) (nz_R _) (Int.not_lt.mp c1)).trans k
theorem zs_74_2 (h : zOk b n f) (hST : ∀ s, 1 ≤ s → s < 169 → ST s = ex_st s) {l1 : Nat} {l2 : Int} {l3 : Nat} {l4 : Nat} {l5 : Nat} {l6 : Nat} {l7 : Nat} (zl1 : zI_fl l1) (zl2 : zR l2) (zl3 : ex_c2 l3 = false ∧ l3 < 1099511627776) (zl4 : ex_c2 l4 = false ∧ l4 < 1099511627776) (zl5 : ex_c2 l5 = false ∧ l5 < 1099511627776) (zl6 : ex_c2 l6 = false ∧ l6 < 1099511627776) (zl7 : ex_c2 l7 = false ∧ l7 < 1099511627776) (k : (if l2 < nz (g l1 14) then (if 0 ≤ l2 ∧ l2 < 16 then (if nz (g 63 l2) = 0 then zRn AL V ST ex_km d kt_74 184 (zP [zf b 61, zf b l1, enc l2, l3, l4, l5, l6, l7]) [] (zM n (zWf b f g)) else (if 0 ≤ l2 ∧ l2 < 16 then (if nz (g 65 l2) < 0 then zRn AL V ST ex_km d kt_74 184 (zP [zf b 61, zf b l1, enc l2, l3, l4, l5, l6, l7]) [] (zM n (zWf b f g)) else (if 0 ≤ l2 ∧ l2 < 16 then (if 0 ≤ l2 ∧ l2 < 16 then (if 0 ≤ zand (nz (g (l1 + 3) l2)) 3 ∧ zand (nz (g (l1 + 3) l2)) 3 < 4 then (if 0 ≤ l2 ∧ l2 < 16 then (if 0 ≤ zand (nz (g (l1 + 3) l2)) 3 ∧ zand (nz (g (l1 + 3) l2)) 3 < 4 then k74_78 V ST d (zCl AL V ST ex_km d) (zRn AL V ST ex_km d kt_74) (zP [zf b 61, zf b l1, enc l2, enc (zand (nz (g (l1 + 3) l2)) 3), enc (nz ((nz (g (l1 + 1) l2)) + (nz ((nz (g 61 9)) * (sa_STEP_X (zand (nz (g (l1 + 3) l2)) 3)))))), enc (nz ((nz (g (l1 + 2) l2)) + (nz ((nz (g 61 9)) * (sa_STEP_Y (zand (nz (g (l1 + 3) l2)) 3)))))), enc 0, l7]) [] (zM n (zWf b f g)) else none) else none) else none) else none) else none)) else none)) else none) else zRn AL V ST ex_km d kt_74 190 (zP [zf b 61, zf b l1, enc l2, l3, l4, l5, l6, l7]) [] (zM n (zWf b f g))) = some r) : k74_2 V ST d (zCl AL V ST ex_km d) (zRn AL V ST ex_km d kt_74) (zP [zf b 61, zf b l1, enc l2, l3, l4, l5, l6, l7]) [] (zM n (zWf b f g)) = some r := by
  unfold k74_2
  refine (zr_iload (v := enc l2) rfl (enc_lt _)).trans ?_
  refine (zr_aload (v := zf b l1) rfl (zf_tA h _)).trans ?_
  refine (zr_gfi h (ti_fl_count zl1)).trans ?_
  by_cases c1 : l2 < nz (g l1 14)
  · rw [if_pos c1] at k
    refine (zr_icmp_ge_n (zl2) (nz_R _) c1).trans ?_
    refine (zr_aload (v := zf b 61) rfl (zf_tA h _)).trans ?_
    refine (zr_gfr h (tr_st_isDancing rfl)).trans ?_
    refine (zr_iload (v := enc l2) rfl (enc_lt _)).trans ?_
    by_cases c2 : 0 ≤ l2 ∧ l2 < 16
    · rw [if_pos c2] at k
      refine (zr_bald h (ta_st_isDancing rfl) c2.1 (by have := c2.2; omega)).trans ?_
      by_cases c3 : nz (g 63 l2) = 0
      · rw [if_pos c3] at k
        exact (zr_if_eq_t (nz_R _) c3).trans k
      · rw [if_neg c3] at k
        refine (zr_if_eq_n (nz_R _) c3).trans ?_
        refine (zr_aload (v := zf b 61) rfl (zf_tA h _)).trans ?_
        refine (zr_gfr h (tr_st_zone rfl)).trans ?_
        refine (zr_iload (v := enc l2) rfl (enc_lt _)).trans ?_
        by_cases c4 : 0 ≤ l2 ∧ l2 < 16
        · rw [if_pos c4] at k
          refine (zr_iald h (ta_st_zone rfl) c4.1 (by have := c4.2; omega)).trans ?_
          by_cases c5 : nz (g 65 l2) < 0
          · rw [if_pos c5] at k
            exact (zr_if_lt_t (nz_R _) c5).trans k
          · rw [if_neg c5] at k
            refine (zr_if_lt_n (nz_R _) (Int.not_lt.mp c5)).trans ?_
            refine (zr_aload (v := zf b l1) rfl (zf_tA h _)).trans ?_
            refine (zr_gfr h (tr_fl_f zl1)).trans ?_
            refine (zr_iload (v := enc l2) rfl (enc_lt _)).trans ?_
            by_cases c6 : 0 ≤ l2 ∧ l2 < 16
            · rw [if_pos c6] at k
              refine (zr_iald h (ta_fl_f zl1) c6.1 (by have := c6.2; omega)).trans ?_
              refine (zr_pshi 3 rfl).trans ?_
              refine (zr_iand).trans ?_
              refine (zr_istore (w := enc l2) (vs' := [zf b 61, zf b l1, enc l2, enc (zand (nz (g (l1 + 3) l2)) 3), l4, l5, l6, l7]) rfl (enc_c2 _) (Nat.lt_trans (enc_lt _) (by decide)) (by decide) rfl (enc_lt _)).trans ?_
              refine (zr_aload (v := zf b l1) rfl (zf_tA h _)).trans ?_
              refine (zr_gfr h (tr_fl_x zl1)).trans ?_
              refine (zr_iload (v := enc l2) rfl (enc_lt _)).trans ?_
              by_cases c7 : 0 ≤ l2 ∧ l2 < 16
              · rw [if_pos c7] at k
                refine (zr_iald h (ta_fl_x zl1) c7.1 (by have := c7.2; omega)).trans ?_
                refine (zr_aload (v := zf b 61) rfl (zf_tA h _)).trans ?_
                refine (zr_gfi h (ti_st_spacing rfl)).trans ?_
                refine (zr_psh).trans ?_
                refine (zr_iload (v := enc (zand (nz (g (l1 + 3) l2)) 3)) rfl (enc_lt _)).trans ?_
                by_cases c8 : 0 ≤ zand (nz (g (l1 + 3) l2)) 3 ∧ zand (nz (g (l1 + 3) l2)) 3 < 4
                · rw [if_pos c8] at k
                  refine (zr_iaS (s := 9) (m := 4) ((hST 9 (by decide) (by decide)).symm ▸ (by decide +kernel : ex_get (ex_st 9) 0 = 64 + 256 * 4)) (by decide) c8.1 (by have := c8.2; omega) (by rw [hST 9 (by decide) (by decide)]; exact sa_STEP_X_E c8.1 c8.2) (by decide)).trans ?_
                  refine (zr_imul).trans ?_
                  refine (zr_iadd).trans ?_
                  refine (zr_istore (w := enc (zand (nz (g (l1 + 3) l2)) 3)) (vs' := [zf b 61, zf b l1, enc l2, enc (zand (nz (g (l1 + 3) l2)) 3), enc (nz ((nz (g (l1 + 1) l2)) + (nz ((nz (g 61 9)) * (sa_STEP_X (zand (nz (g (l1 + 3) l2)) 3)))))), l5, l6, l7]) rfl (enc_c2 _) (Nat.lt_trans (enc_lt _) (by decide)) (by decide) rfl (enc_lt _)).trans ?_
                  refine (zr_aload (v := zf b l1) rfl (zf_tA h _)).trans ?_
                  refine (zr_gfr h (tr_fl_y zl1)).trans ?_
                  refine (zr_iload (v := enc l2) rfl (enc_lt _)).trans ?_
                  by_cases c9 : 0 ≤ l2 ∧ l2 < 16
                  · rw [if_pos c9] at k
                    refine (zr_iald h (ta_fl_y zl1) c9.1 (by have := c9.2; omega)).trans ?_
                    refine (zr_aload (v := zf b 61) rfl (zf_tA h _)).trans ?_
                    refine (zr_gfi h (ti_st_spacing rfl)).trans ?_
                    refine (zr_psh).trans ?_
                    refine (zr_iload (v := enc (zand (nz (g (l1 + 3) l2)) 3)) rfl (enc_lt _)).trans ?_
                    by_cases c10 : 0 ≤ zand (nz (g (l1 + 3) l2)) 3 ∧ zand (nz (g (l1 + 3) l2)) 3 < 4
                    · rw [if_pos c10] at k
                      refine (zr_iaS (s := 10) (m := 4) ((hST 10 (by decide) (by decide)).symm ▸ (by decide +kernel : ex_get (ex_st 10) 0 = 64 + 256 * 4)) (by decide) c10.1 (by have := c10.2; omega) (by rw [hST 10 (by decide) (by decide)]; exact sa_STEP_Y_E c10.1 c10.2) (by decide)).trans ?_
                      refine (zr_imul).trans ?_
                      refine (zr_iadd).trans ?_
                      refine (zr_istore (w := enc (nz ((nz (g (l1 + 1) l2)) + (nz ((nz (g 61 9)) * (sa_STEP_X (zand (nz (g (l1 + 3) l2)) 3))))))) (vs' := [zf b 61, zf b l1, enc l2, enc (zand (nz (g (l1 + 3) l2)) 3), enc (nz ((nz (g (l1 + 1) l2)) + (nz ((nz (g 61 9)) * (sa_STEP_X (zand (nz (g (l1 + 3) l2)) 3)))))), enc (nz ((nz (g (l1 + 2) l2)) + (nz ((nz (g 61 9)) * (sa_STEP_Y (zand (nz (g (l1 + 3) l2)) 3)))))), l6, l7]) rfl (enc_c2 _) (Nat.lt_trans (enc_lt _) (by decide)) (by decide) rfl (enc_lt _)).trans ?_
                      refine (zr_pshi 0 rfl).trans ?_
                      refine (zr_istore (w := enc (nz ((nz (g (l1 + 2) l2)) + (nz ((nz (g 61 9)) * (sa_STEP_Y (zand (nz (g (l1 + 3) l2)) 3))))))) (vs' := [zf b 61, zf b l1, enc l2, enc (zand (nz (g (l1 + 3) l2)) 3), enc (nz ((nz (g (l1 + 1) l2)) + (nz ((nz (g 61 9)) * (sa_STEP_X (zand (nz (g (l1 + 3) l2)) 3)))))), enc (nz ((nz (g (l1 + 2) l2)) + (nz ((nz (g 61 9)) * (sa_STEP_Y (zand (nz (g (l1 + 3) l2)) 3)))))), enc 0, l7]) rfl (enc_c2 _) (Nat.lt_trans (enc_lt _) (by decide)) (by decide) rfl (enc_lt _)).trans ?_
                      exact k
                    · rw [if_neg c10] at k; cases k
                  · rw [if_neg c9] at k; cases k
                · rw [if_neg c8] at k; cases k
              · rw [if_neg c7] at k; cases k
            · rw [if_neg c6] at k; cases k
        · rw [if_neg c4] at k; cases k
    · rw [if_neg c2] at k; cases k
  · rw [if_neg c1] at k
    exact (zr_icmp_ge_t (zl2) (nz_R _) (Int.not_lt.mp c1)).trans k
theorem zs_74_0 (h : zOk b n f) {l1 : Nat} (zl1 : zI_fl l1) (k : k74_2 V ST d (zCl AL V ST ex_km d) (zRn AL V ST ex_km d kt_74) (zP [zf b 61, zf b l1, enc 0, 137438953472, 137438953472, 137438953472, 137438953472, 137438953472]) [] (zM n (zWf b f g)) = some r) : k74_0 V ST d (zCl AL V ST ex_km d) (zRn AL V ST ex_km d kt_74) (zP [zf b 61, zf b l1, 137438953472, 137438953472, 137438953472, 137438953472, 137438953472, 137438953472]) [] (zM n (zWf b f g)) = some r := by
  unfold k74_0
  refine (zr_pshi 0 rfl).trans ?_
  refine (zr_istore (w := zf b l1) (vs' := [zf b 61, zf b l1, enc 0, 137438953472, 137438953472, 137438953472, 137438953472, 137438953472]) rfl (zf_c2 h _) (Nat.lt_trans (zf_l h _) (by decide)) (by decide) rfl (enc_lt _)).trans ?_
  exact k
theorem zs_75_158 (h : zOk b n f) {l1 : Nat} {l2 : Int} {l3 : Int} {l4 : Nat} {l5 : Nat} (zl1 : zI_fl l1) (zl2 : zR l2) (zl3 : zR l3) (zl4 : ex_c2 l4 = false ∧ l4 < 1099511627776) (zl5 : ex_c2 l5 = false ∧ l5 < 1099511627776) (k : some (137438953473, (zM n (zWf b f g))) = some r) : k75_158 V ST d (zCl AL V ST ex_km d) (zRn AL V ST ex_km d kt_75) (zP [zf b 61, zf b l1, enc l2, enc l3, l4, l5]) [] (zM n (zWf b f g)) = some r := by
  unfold k75_158
  exact zr_return.trans k
theorem zs_75_152 (h : zOk b n f) {l1 : Nat} {l2 : Int} {l3 : Int} {l4 : Int} {l5 : Nat} (zl1 : zI_fl l1) (zl2 : zR l2) (zl3 : zR l3) (zl4 : zR l4) (zl5 : ex_c2 l5 = false ∧ l5 < 1099511627776) (k : zRn AL V ST ex_km d kt_75 2 (zP [zf b 61, zf b l1, enc l2, enc (nz (l3 + 1)), enc l4, l5]) [] (zM n (zWf b f g)) = some r) : k75_152 V ST d (zCl AL V ST ex_km d) (zRn AL V ST ex_km d kt_75) (zP [zf b 61, zf b l1, enc l2, enc l3, enc l4, l5]) [] (zM n (zWf b f g)) = some r := by
  unfold k75_152
  refine (zr_iinc (w := enc l2) (x := l3) (i' := 1) (vs' := [zf b 61, zf b l1, enc l2, enc (nz (l3 + 1)), enc l4, l5]) rfl (enc_c2 _) (Nat.lt_trans (enc_lt _) (by decide)) rfl rfl (by decide) rfl).trans ?_
  exact (zr_goto).trans k
theorem zs_75_137 (h : zOk b n f) {l1 : Nat} {l2 : Int} {l3 : Int} {l4 : Int} {l5 : Int} {s0 : Int} {s1 : Int} {s2 : Nat} (zl1 : zI_fl l1) (zl2 : zR l2) (zl3 : zR l3) (zl4 : zR l4) (zl5 : zR l5) (zs0 : zR s0) (zs1 : zR s1) (zs2 : zAr s2 64 16) (k : (if 0 ≤ s1 ∧ s1 < 16 then (if 0 ≤ l4 ∧ l4 < 16 then (if 0 ≤ l5 ∧ l5 < 16 then k75_152 V ST d (zCl AL V ST ex_km d) (zRn AL V ST ex_km d kt_75) (zP [zf b 61, zf b l1, enc l2, enc l3, enc l4, enc l5]) [] (zM n (zWf b f (upd (upd g s2 s1 s0) 67 l5 (nz ((upd g s2 s1 s0) 67 l4))))) else none) else none) else none) = some r) : k75_137 V ST d (zCl AL V ST ex_km d) (zRn AL V ST ex_km d kt_75) (zP [zf b 61, zf b l1, enc l2, enc l3, enc l4, enc l5]) [enc s0, enc s1, zf b s2] (zM n (zWf b f g)) = some r := by
  unfold k75_137
  by_cases c1 : 0 ≤ s1 ∧ s1 < 16
  · rw [if_pos c1] at k
    refine (zr_iast h zs2 c1.1 (by have := c1.2; omega)).trans ?_
    refine (zr_aload (v := zf b 61) rfl (zf_tA h _)).trans ?_
    refine (zr_gfr h (tr_st_kind rfl)).trans ?_
    refine (zr_iload (v := enc l5) rfl (enc_lt _)).trans ?_
    refine (zr_aload (v := zf b 61) rfl (zf_tA h _)).trans ?_
    refine (zr_gfr h (tr_st_kind rfl)).trans ?_
    refine (zr_iload (v := enc l4) rfl (enc_lt _)).trans ?_
    by_cases c2 : 0 ≤ l4 ∧ l4 < 16
    · rw [if_pos c2] at k
      refine (zr_iald h (ta_st_kind rfl) c2.1 (by have := c2.2; omega)).trans ?_
      by_cases c3 : 0 ≤ l5 ∧ l5 < 16
      · rw [if_pos c3] at k
        refine (zr_iast h (ta_st_kind rfl) c3.1 (by have := c3.2; omega)).trans ?_
        exact k
      · rw [if_neg c3] at k; cases k
    · rw [if_neg c2] at k; cases k
  · rw [if_neg c1] at k; cases k
theorem zs_75_136 (h : zOk b n f) {l1 : Nat} {l2 : Int} {l3 : Int} {l4 : Int} {l5 : Int} {s0 : Int} {s1 : Nat} (zl1 : zI_fl l1) (zl2 : zR l2) (zl3 : zR l3) (zl4 : zR l4) (zl5 : zR l5) (zs0 : zR s0) (zs1 : zAr s1 64 16) (k : k75_137 V ST d (zCl AL V ST ex_km d) (zRn AL V ST ex_km d kt_75) (zP [zf b 61, zf b l1, enc l2, enc l3, enc l4, enc l5]) [enc 3, enc s0, zf b s1] (zM n (zWf b f g)) = some r) : k75_136 V ST d (zCl AL V ST ex_km d) (zRn AL V ST ex_km d kt_75) (zP [zf b 61, zf b l1, enc l2, enc l3, enc l4, enc l5]) [enc s0, zf b s1] (zM n (zWf b f g)) = some r := by
  unfold k75_136
  refine (zr_pshi 3 rfl).trans ?_
  exact k
theorem zs_75_129 (h : zOk b n f) {l1 : Nat} {l2 : Int} {l3 : Int} {l4 : Int} {l5 : Int} {s0 : Int} {s1 : Int} {s2 : Nat} (zl1 : zI_fl l1) (zl2 : zR l2) (zl3 : zR l3) (zl4 : zR l4) (zl5 : zR l5) (zs0 : zR s0) (zs1 : zR s1) (zs2 : zAr s2 64 16) (k : (if s0 = 0 then zRn AL V ST ex_km d kt_75 136 (zP [zf b 61, zf b l1, enc l2, enc l3, enc l4, enc l5]) [enc s1, zf b s2] (zM n (zWf b f g)) else zRn AL V ST ex_km d kt_75 137 (zP [zf b 61, zf b l1, enc l2, enc l3, enc l4, enc l5]) [enc 2, enc s1, zf b s2] (zM n (zWf b f g))) = some r) : k75_129 V ST d (zCl AL V ST ex_km d) (zRn AL V ST ex_km d kt_75) (zP [zf b 61, zf b l1, enc l2, enc l3, enc l4, enc l5]) [enc s0, enc s1, zf b s2] (zM n (zWf b f g)) = some r := by
  unfold k75_129
  by_cases c1 : s0 = 0
  · rw [if_pos c1] at k
    exact (zr_if_eq_t (zs0) c1).trans k
  · rw [if_neg c1] at k
    refine (zr_if_eq_n (zs0) c1).trans ?_
    refine (zr_pshi 2 rfl).trans ?_
    exact (zr_goto).trans k
theorem zs_75_112 (h : zOk b n f) {l1 : Nat} {l2 : Int} {l3 : Int} {l4 : Int} {l5 : Int} {s0 : Int} {s1 : Nat} (zl1 : zI_fl l1) (zl2 : zR l2) (zl3 : zR l3) (zl4 : zR l4) (zl5 : zR l5) (zs0 : zR s0) (zs1 : zAr s1 64 16) (k : (if 0 ≤ l4 ∧ l4 < 16 then zTh (zCl AL V ST ex_km d 12 [zf b l1, enc l5, enc l4, enc (nz ((nz (g (l1 + 3) l4)) + 1))] (zM n (zWf b f g))) (zM n (zWf b f g)) [enc s0, zf b s1] (fun S M => k75_129 V ST d (zCl AL V ST ex_km d) (zRn AL V ST ex_km d kt_75) (zP [zf b 61, zf b l1, enc l2, enc l3, enc l4, enc l5]) S M) else none) = some r) : k75_112 V ST d (zCl AL V ST ex_km d) (zRn AL V ST ex_km d kt_75) (zP [zf b 61, zf b l1, enc l2, enc l3, enc l4, enc l5]) [enc s0, zf b s1] (zM n (zWf b f g)) = some r := by
  unfold k75_112
  refine (zr_aload (v := zf b l1) rfl (zf_tA h _)).trans ?_
  refine (zr_iload (v := enc l5) rfl (enc_lt _)).trans ?_
  refine (zr_iload (v := enc l4) rfl (enc_lt _)).trans ?_
  refine (zr_aload (v := zf b l1) rfl (zf_tA h _)).trans ?_
  refine (zr_gfr h (tr_fl_f zl1)).trans ?_
  refine (zr_iload (v := enc l4) rfl (enc_lt _)).trans ?_
  by_cases c1 : 0 ≤ l4 ∧ l4 < 16
  · rw [if_pos c1] at k
    refine (zr_iald h (ta_fl_f zl1) c1.1 (by have := c1.2; omega)).trans ?_
    refine (zr_pshi 1 rfl).trans ?_
    refine (zr_iadd).trans ?_
    refine zr_invV h [enc (nz ((nz (g (l1 + 3) l4)) + 1)), enc l4, enc l5] rfl (tk_fl zl1) (zA_cons (enc_l _) (zA_cons (enc_l _) (zA_cons (enc_l _) zA_nil))) (zA_cons (enc_l _) (zA_cons (zf_l h _) zA_nil)) (by decide) ?_
    exact k
  · rw [if_neg c1] at k; cases k
theorem zs_75_60 (h : zOk b n f) {l1 : Nat} {l2 : Int} {l3 : Int} {l4 : Int} {l5 : Nat} {s0 : Int} (zl1 : zI_fl l1) (zl2 : zR l2) (zl3 : zR l3) (zl4 : zR l4) (zl5 : ex_c2 l5 = false ∧ l5 < 1099511627776) (zs0 : zR s0) (k : (if s0 < 0 then zRn AL V ST ex_km d kt_75 152 (zP [zf b 61, zf b l1, enc l2, enc l3, enc l4, enc s0]) [] (zM n (zWf b f g)) else (if 0 ≤ l4 ∧ l4 < 16 then (if 0 ≤ s0 ∧ s0 < 16 then (if 0 ≤ l4 ∧ l4 < 16 then (if 0 ≤ s0 ∧ s0 < 16 then (if nz ((upd (upd g 66 l4 s0) 66 s0 l4) (l1 + 3) l4) = nz ((upd (upd g 66 l4 s0) 66 s0 l4) (l1 + 3) s0) then zRn AL V ST ex_km d kt_75 137 (zP [zf b 61, zf b l1, enc l2, enc l3, enc l4, enc s0]) [enc 1, enc l4, zf b 67] (zM n (zWf b f (upd (upd g 66 l4 s0) 66 s0 l4))) else zRn AL V ST ex_km d kt_75 112 (zP [zf b 61, zf b l1, enc l2, enc l3, enc l4, enc s0]) [enc l4, zf b 67] (zM n (zWf b f (upd (upd g 66 l4 s0) 66 s0 l4)))) else none) else none) else none) else none)) = some r) : k75_60 V ST d (zCl AL V ST ex_km d) (zRn AL V ST ex_km d kt_75) (zP [zf b 61, zf b l1, enc l2, enc l3, enc l4, l5]) [enc s0] (zM n (zWf b f g)) = some r := by
  unfold k75_60
  refine (zr_istore (w := enc l4) (vs' := [zf b 61, zf b l1, enc l2, enc l3, enc l4, enc s0]) rfl (enc_c2 _) (Nat.lt_trans (enc_lt _) (by decide)) (by decide) rfl (enc_lt _)).trans ?_
  refine (zr_iload (v := enc s0) rfl (enc_lt _)).trans ?_
  by_cases c1 : s0 < 0
  · rw [if_pos c1] at k
    exact (zr_if_lt_t (zs0) c1).trans k
  · rw [if_neg c1] at k
    refine (zr_if_lt_n (zs0) (Int.not_lt.mp c1)).trans ?_
    refine (zr_aload (v := zf b 61) rfl (zf_tA h _)).trans ?_
    refine (zr_gfr h (tr_st_mate rfl)).trans ?_
    refine (zr_iload (v := enc l4) rfl (enc_lt _)).trans ?_
    refine (zr_iload (v := enc s0) rfl (enc_lt _)).trans ?_
    by_cases c2 : 0 ≤ l4 ∧ l4 < 16
    · rw [if_pos c2] at k
      refine (zr_iast h (ta_st_mate rfl) c2.1 (by have := c2.2; omega)).trans ?_
      refine (zr_aload (v := zf b 61) rfl (zf_tA h _)).trans ?_
      refine (zr_gfr h (tr_st_mate rfl)).trans ?_
      refine (zr_iload (v := enc s0) rfl (enc_lt _)).trans ?_
      refine (zr_iload (v := enc l4) rfl (enc_lt _)).trans ?_
      by_cases c3 : 0 ≤ s0 ∧ s0 < 16
      · rw [if_pos c3] at k
        refine (zr_iast h (ta_st_mate rfl) c3.1 (by have := c3.2; omega)).trans ?_
        refine (zr_aload (v := zf b 61) rfl (zf_tA h _)).trans ?_
        refine (zr_gfr h (tr_st_kind rfl)).trans ?_
        refine (zr_iload (v := enc l4) rfl (enc_lt _)).trans ?_
        refine (zr_aload (v := zf b l1) rfl (zf_tA h _)).trans ?_
        refine (zr_gfr h (tr_fl_f zl1)).trans ?_
        refine (zr_iload (v := enc l4) rfl (enc_lt _)).trans ?_
        by_cases c4 : 0 ≤ l4 ∧ l4 < 16
        · rw [if_pos c4] at k
          refine (zr_iald h (ta_fl_f zl1) c4.1 (by have := c4.2; omega)).trans ?_
          refine (zr_aload (v := zf b l1) rfl (zf_tA h _)).trans ?_
          refine (zr_gfr h (tr_fl_f zl1)).trans ?_
          refine (zr_iload (v := enc s0) rfl (enc_lt _)).trans ?_
          by_cases c5 : 0 ≤ s0 ∧ s0 < 16
          · rw [if_pos c5] at k
            refine (zr_iald h (ta_fl_f zl1) c5.1 (by have := c5.2; omega)).trans ?_
            by_cases c6 : nz ((upd (upd g 66 l4 s0) 66 s0 l4) (l1 + 3) l4) = nz ((upd (upd g 66 l4 s0) 66 s0 l4) (l1 + 3) s0)
            · rw [if_pos c6] at k
              refine (zr_icmp_ne_n (nz_R _) (nz_R _) c6).trans ?_
              refine (zr_pshi 1 rfl).trans ?_
              exact (zr_goto).trans k
            · rw [if_neg c6] at k
              exact (zr_icmp_ne_t (nz_R _) (nz_R _) c6).trans k
          · rw [if_neg c5] at k; cases k
        · rw [if_neg c4] at k; cases k
      · rw [if_neg c3] at k; cases k
    · rw [if_neg c2] at k; cases k
theorem zs_75_52 (h : zOk b n f) {l1 : Nat} {l2 : Int} {l3 : Int} {l4 : Int} {l5 : Nat} (zl1 : zI_fl l1) (zl2 : zR l2) (zl3 : zR l3) (zl4 : zR l4) (zl5 : ex_c2 l5 = false ∧ l5 < 1099511627776) (k : zTh (zCl AL V ST ex_km d 76 [zf b 61, zf b l1, enc l4, enc l2] (zM n (zWf b f g))) (zM n (zWf b f g)) [] (fun S M => k75_60 V ST d (zCl AL V ST ex_km d) (zRn AL V ST ex_km d kt_75) (zP [zf b 61, zf b l1, enc l2, enc l3, enc l4, l5]) S M) = some r) : k75_52 V ST d (zCl AL V ST ex_km d) (zRn AL V ST ex_km d kt_75) (zP [zf b 61, zf b l1, enc l2, enc l3, enc l4, l5]) [] (zM n (zWf b f g)) = some r := by
  unfold k75_52
  refine (zr_aload (v := zf b 61) rfl (zf_tA h _)).trans ?_
  refine (zr_aload (v := zf b l1) rfl (zf_tA h _)).trans ?_
  refine (zr_iload (v := enc l4) rfl (enc_lt _)).trans ?_
  refine (zr_iload (v := enc l2) rfl (enc_lt _)).trans ?_
  refine zr_invV h [enc l2, enc l4, zf b l1] rfl (tk_st rfl) (zA_cons (enc_l _) (zA_cons (enc_l _) (zA_cons (zf_l h _) zA_nil))) (zA_nil) (by decide) ?_
  exact k
theorem zs_75_2 (h : zOk b n f) {l1 : Nat} {l2 : Int} {l3 : Int} {l4 : Nat} {l5 : Nat} (zl1 : zI_fl l1) (zl2 : zR l2) (zl3 : zR l3) (zl4 : ex_c2 l4 = false ∧ l4 < 1099511627776) (zl5 : ex_c2 l5 = false ∧ l5 < 1099511627776) (k : (if l3 < nz (g l1 14) then (if 0 ≤ l3 ∧ l3 < 16 then (if 0 ≤ nz (g 64 l3) ∧ nz (g 64 l3) < 16 then (if nz (g 66 (nz (g 64 l3))) < 0 then (if 0 ≤ nz (g 64 l3) ∧ nz (g 64 l3) < 16 then (if nz (g 65 (nz (g 64 l3))) < 0 then zRn AL V ST ex_km d kt_75 152 (zP [zf b 61, zf b l1, enc l2, enc l3, enc (nz (g 64 l3)), l5]) [] (zM n (zWf b f g)) else (if l2 = 0 then (if 0 ≤ nz (g 64 l3) ∧ nz (g 64 l3) < 16 then (if nz (g 63 (nz (g 64 l3))) = 0 then zRn AL V ST ex_km d kt_75 152 (zP [zf b 61, zf b l1, enc l2, enc l3, enc (nz (g 64 l3)), l5]) [] (zM n (zWf b f g)) else k75_52 V ST d (zCl AL V ST ex_km d) (zRn AL V ST ex_km d kt_75) (zP [zf b 61, zf b l1, enc l2, enc l3, enc (nz (g 64 l3)), l5]) [] (zM n (zWf b f g))) else none) else zRn AL V ST ex_km d kt_75 52 (zP [zf b 61, zf b l1, enc l2, enc l3, enc (nz (g 64 l3)), l5]) [] (zM n (zWf b f g)))) else none) else zRn AL V ST ex_km d kt_75 152 (zP [zf b 61, zf b l1, enc l2, enc l3, enc (nz (g 64 l3)), l5]) [] (zM n (zWf b f g))) else none) else none) else zRn AL V ST ex_km d kt_75 158 (zP [zf b 61, zf b l1, enc l2, enc l3, l4, l5]) [] (zM n (zWf b f g))) = some r) : k75_2 V ST d (zCl AL V ST ex_km d) (zRn AL V ST ex_km d kt_75) (zP [zf b 61, zf b l1, enc l2, enc l3, l4, l5]) [] (zM n (zWf b f g)) = some r := by
  unfold k75_2
  refine (zr_iload (v := enc l3) rfl (enc_lt _)).trans ?_
  refine (zr_aload (v := zf b l1) rfl (zf_tA h _)).trans ?_
  refine (zr_gfi h (ti_fl_count zl1)).trans ?_
  by_cases c1 : l3 < nz (g l1 14)
  · rw [if_pos c1] at k
    refine (zr_icmp_ge_n (zl3) (nz_R _) c1).trans ?_
    refine (zr_aload (v := zf b 61) rfl (zf_tA h _)).trans ?_
    refine (zr_gfr h (tr_st_order rfl)).trans ?_
    refine (zr_iload (v := enc l3) rfl (enc_lt _)).trans ?_
    by_cases c2 : 0 ≤ l3 ∧ l3 < 16
    · rw [if_pos c2] at k
      refine (zr_iald h (ta_st_order rfl) c2.1 (by have := c2.2; omega)).trans ?_
      refine (zr_istore (w := enc l3) (vs' := [zf b 61, zf b l1, enc l2, enc l3, enc (nz (g 64 l3)), l5]) rfl (enc_c2 _) (Nat.lt_trans (enc_lt _) (by decide)) (by decide) rfl (enc_lt _)).trans ?_
      refine (zr_aload (v := zf b 61) rfl (zf_tA h _)).trans ?_
      refine (zr_gfr h (tr_st_mate rfl)).trans ?_
      refine (zr_iload (v := enc (nz (g 64 l3))) rfl (enc_lt _)).trans ?_
      by_cases c3 : 0 ≤ nz (g 64 l3) ∧ nz (g 64 l3) < 16
      · rw [if_pos c3] at k
        refine (zr_iald h (ta_st_mate rfl) c3.1 (by have := c3.2; omega)).trans ?_
        by_cases c4 : nz (g 66 (nz (g 64 l3))) < 0
        · rw [if_pos c4] at k
          refine (zr_if_ge_n (nz_R _) c4).trans ?_
          refine (zr_aload (v := zf b 61) rfl (zf_tA h _)).trans ?_
          refine (zr_gfr h (tr_st_zone rfl)).trans ?_
          refine (zr_iload (v := enc (nz (g 64 l3))) rfl (enc_lt _)).trans ?_
          by_cases c5 : 0 ≤ nz (g 64 l3) ∧ nz (g 64 l3) < 16
          · rw [if_pos c5] at k
            refine (zr_iald h (ta_st_zone rfl) c5.1 (by have := c5.2; omega)).trans ?_
            by_cases c6 : nz (g 65 (nz (g 64 l3))) < 0
            · rw [if_pos c6] at k
              exact (zr_if_lt_t (nz_R _) c6).trans k
            · rw [if_neg c6] at k
              refine (zr_if_lt_n (nz_R _) (Int.not_lt.mp c6)).trans ?_
              refine (zr_iload (v := enc l2) rfl (enc_lt _)).trans ?_
              by_cases c7 : l2 = 0
              · rw [if_pos c7] at k
                refine (zr_if_ne_n (zl2) c7).trans ?_
                refine (zr_aload (v := zf b 61) rfl (zf_tA h _)).trans ?_
                refine (zr_gfr h (tr_st_isDancing rfl)).trans ?_
                refine (zr_iload (v := enc (nz (g 64 l3))) rfl (enc_lt _)).trans ?_
                by_cases c8 : 0 ≤ nz (g 64 l3) ∧ nz (g 64 l3) < 16
                · rw [if_pos c8] at k
                  refine (zr_bald h (ta_st_isDancing rfl) c8.1 (by have := c8.2; omega)).trans ?_
                  by_cases c9 : nz (g 63 (nz (g 64 l3))) = 0
                  · rw [if_pos c9] at k
                    exact (zr_if_eq_t (nz_R _) c9).trans k
                  · rw [if_neg c9] at k
                    refine (zr_if_eq_n (nz_R _) c9).trans ?_
                    exact k
                · rw [if_neg c8] at k; cases k
              · rw [if_neg c7] at k
                exact (zr_if_ne_t (zl2) c7).trans k
          · rw [if_neg c5] at k; cases k
        · rw [if_neg c4] at k
          exact (zr_if_ge_t (nz_R _) (Int.not_lt.mp c4)).trans k
      · rw [if_neg c3] at k; cases k
    · rw [if_neg c2] at k; cases k
  · rw [if_neg c1] at k
    exact (zr_icmp_ge_t (zl3) (nz_R _) (Int.not_lt.mp c1)).trans k
theorem zs_75_0 (h : zOk b n f) {l1 : Nat} {l2 : Int} (zl1 : zI_fl l1) (zl2 : zR l2) (k : k75_2 V ST d (zCl AL V ST ex_km d) (zRn AL V ST ex_km d kt_75) (zP [zf b 61, zf b l1, enc l2, enc 0, 137438953472, 137438953472]) [] (zM n (zWf b f g)) = some r) : k75_0 V ST d (zCl AL V ST ex_km d) (zRn AL V ST ex_km d kt_75) (zP [zf b 61, zf b l1, enc l2, 137438953472, 137438953472, 137438953472]) [] (zM n (zWf b f g)) = some r := by
  unfold k75_0
  refine (zr_pshi 0 rfl).trans ?_
  refine (zr_istore (w := enc l2) (vs' := [zf b 61, zf b l1, enc l2, enc 0, 137438953472, 137438953472]) rfl (enc_c2 _) (Nat.lt_trans (enc_lt _) (by decide)) (by decide) rfl (enc_lt _)).trans ?_
  exact k
theorem zs_76_186 (h : zOk b n f) {l1 : Nat} {l2 : Int} {l3 : Int} {l4 : Int} {l5 : Int} {l6 : Int} {l7 : Int} {l8 : Nat} (zl1 : zI_fl l1) (zl2 : zR l2) (zl3 : zR l3) (zl4 : zR l4) (zl5 : zR l5) (zl6 : zR l6) (zl7 : zR l7) (zl8 : ex_c2 l8 = false ∧ l8 < 1099511627776) (k : some (enc (-1), (zM n (zWf b f g))) = some r) : k76_186 V ST d (zCl AL V ST ex_km d) (zRn AL V ST ex_km d kt_76) (zP [zf b 61, zf b l1, enc l2, enc l3, enc l4, enc l5, enc l6, enc l7, l8]) [] (zM n (zWf b f g)) = some r := by
  unfold k76_186
  refine (zr_pshi (-1) rfl).trans ?_
  exact zr_ireturn.trans k
theorem zs_76_180 (h : zOk b n f) {l1 : Nat} {l2 : Int} {l3 : Int} {l4 : Int} {l5 : Int} {l6 : Int} {l7 : Int} {l8 : Int} (zl1 : zI_fl l1) (zl2 : zR l2) (zl3 : zR l3) (zl4 : zR l4) (zl5 : zR l5) (zl6 : zR l6) (zl7 : zR l7) (zl8 : zR l8) (k : zRn AL V ST ex_km d kt_76 75 (zP [zf b 61, zf b l1, enc l2, enc l3, enc l4, enc l5, enc l6, enc (nz (l7 + 1)), enc l8]) [] (zM n (zWf b f g)) = some r) : k76_180 V ST d (zCl AL V ST ex_km d) (zRn AL V ST ex_km d kt_76) (zP [zf b 61, zf b l1, enc l2, enc l3, enc l4, enc l5, enc l6, enc l7, enc l8]) [] (zM n (zWf b f g)) = some r := by
  unfold k76_180
  refine (zr_iinc (w := enc l6) (x := l7) (i' := 1) (vs' := [zf b 61, zf b l1, enc l2, enc l3, enc l4, enc l5, enc l6, enc (nz (l7 + 1)), enc l8]) rfl (enc_c2 _) (Nat.lt_trans (enc_lt _) (by decide)) rfl rfl (by decide) rfl).trans ?_
  exact (zr_goto).trans k
theorem zs_76_133 (h : zOk b n f) {l1 : Nat} {l2 : Int} {l3 : Int} {l4 : Int} {l5 : Int} {l6 : Int} {l7 : Int} {l8 : Int} (zl1 : zI_fl l1) (zl2 : zR l2) (zl3 : zR l3) (zl4 : zR l4) (zl5 : zR l5) (zl6 : zR l6) (zl7 : zR l7) (zl8 : zR l8) (k : (if 0 ≤ l8 ∧ l8 < 16 then (if nz (g (l1 + 1) l8) = l5 then (if 0 ≤ l8 ∧ l8 < 16 then (if nz (g (l1 + 2) l8) = l6 then (if 0 ≤ l8 ∧ l8 < 16 then (if 0 ≤ l2 ∧ l2 < 16 then (if nz (Int.tmod (nz (g (l1 + 3) l8)) 2) = nz (Int.tmod (nz (g (l1 + 3) l2)) 2) then some (enc l8, (zM n (zWf b f g))) else zRn AL V ST ex_km d kt_76 180 (zP [zf b 61, zf b l1, enc l2, enc l3, enc l4, enc l5, enc l6, enc l7, enc l8]) [] (zM n (zWf b f g))) else none) else none) else zRn AL V ST ex_km d kt_76 180 (zP [zf b 61, zf b l1, enc l2, enc l3, enc l4, enc l5, enc l6, enc l7, enc l8]) [] (zM n (zWf b f g))) else none) else zRn AL V ST ex_km d kt_76 180 (zP [zf b 61, zf b l1, enc l2, enc l3, enc l4, enc l5, enc l6, enc l7, enc l8]) [] (zM n (zWf b f g))) else none) = some r) : k76_133 V ST d (zCl AL V ST ex_km d) (zRn AL V ST ex_km d kt_76) (zP [zf b 61, zf b l1, enc l2, enc l3, enc l4, enc l5, enc l6, enc l7, enc l8]) [] (zM n (zWf b f g)) = some r := by
  unfold k76_133
  refine (zr_aload (v := zf b l1) rfl (zf_tA h _)).trans ?_
  refine (zr_gfr h (tr_fl_x zl1)).trans ?_
  refine (zr_iload (v := enc l8) rfl (enc_lt _)).trans ?_
  by_cases c1 : 0 ≤ l8 ∧ l8 < 16
  · rw [if_pos c1] at k
    refine (zr_iald h (ta_fl_x zl1) c1.1 (by have := c1.2; omega)).trans ?_
    refine (zr_iload (v := enc l5) rfl (enc_lt _)).trans ?_
    by_cases c2 : nz (g (l1 + 1) l8) = l5
    · rw [if_pos c2] at k
      refine (zr_icmp_ne_n (nz_R _) (zl5) c2).trans ?_
      refine (zr_aload (v := zf b l1) rfl (zf_tA h _)).trans ?_
      refine (zr_gfr h (tr_fl_y zl1)).trans ?_
      refine (zr_iload (v := enc l8) rfl (enc_lt _)).trans ?_
      by_cases c3 : 0 ≤ l8 ∧ l8 < 16
      · rw [if_pos c3] at k
        refine (zr_iald h (ta_fl_y zl1) c3.1 (by have := c3.2; omega)).trans ?_
        refine (zr_iload (v := enc l6) rfl (enc_lt _)).trans ?_
        by_cases c4 : nz (g (l1 + 2) l8) = l6
        · rw [if_pos c4] at k
          refine (zr_icmp_ne_n (nz_R _) (zl6) c4).trans ?_
          refine (zr_aload (v := zf b l1) rfl (zf_tA h _)).trans ?_
          refine (zr_gfr h (tr_fl_f zl1)).trans ?_
          refine (zr_iload (v := enc l8) rfl (enc_lt _)).trans ?_
          by_cases c5 : 0 ≤ l8 ∧ l8 < 16
          · rw [if_pos c5] at k
            refine (zr_iald h (ta_fl_f zl1) c5.1 (by have := c5.2; omega)).trans ?_
            refine (zr_pshi 2 rfl).trans ?_
            refine (zr_rem (nz_R _) ((by unfold zR; omega)) (by decide)).trans ?_
            refine (zr_aload (v := zf b l1) rfl (zf_tA h _)).trans ?_
            refine (zr_gfr h (tr_fl_f zl1)).trans ?_
            refine (zr_iload (v := enc l2) rfl (enc_lt _)).trans ?_
            by_cases c6 : 0 ≤ l2 ∧ l2 < 16
            · rw [if_pos c6] at k
              refine (zr_iald h (ta_fl_f zl1) c6.1 (by have := c6.2; omega)).trans ?_
              refine (zr_pshi 2 rfl).trans ?_
              refine (zr_rem (nz_R _) ((by unfold zR; omega)) (by decide)).trans ?_
              by_cases c7 : nz (Int.tmod (nz (g (l1 + 3) l8)) 2) = nz (Int.tmod (nz (g (l1 + 3) l2)) 2)
              · rw [if_pos c7] at k
                refine (zr_icmp_ne_n (nz_R _) (nz_R _) c7).trans ?_
                refine (zr_iload (v := enc l8) rfl (enc_lt _)).trans ?_
                exact zr_ireturn.trans k
              · rw [if_neg c7] at k
                exact (zr_icmp_ne_t (nz_R _) (nz_R _) c7).trans k
            · rw [if_neg c6] at k; cases k
          · rw [if_neg c5] at k; cases k
        · rw [if_neg c4] at k
          exact (zr_icmp_ne_t (nz_R _) (zl6) c4).trans k
      · rw [if_neg c3] at k; cases k
    · rw [if_neg c2] at k
      exact (zr_icmp_ne_t (nz_R _) (zl5) c2).trans k
  · rw [if_neg c1] at k; cases k
theorem zs_76_75 (h : zOk b n f) {l1 : Nat} {l2 : Int} {l3 : Int} {l4 : Int} {l5 : Int} {l6 : Int} {l7 : Int} {l8 : Nat} (zl1 : zI_fl l1) (zl2 : zR l2) (zl3 : zR l3) (zl4 : zR l4) (zl5 : zR l5) (zl6 : zR l6) (zl7 : zR l7) (zl8 : ex_c2 l8 = false ∧ l8 < 1099511627776) (k : (if l7 < nz (g l1 14) then (if 0 ≤ l7 ∧ l7 < 16 then (if 0 ≤ nz (g 64 l7) ∧ nz (g 64 l7) < 16 then (if nz (g 66 (nz (g 64 l7))) < 0 then (if 0 ≤ nz (g 64 l7) ∧ nz (g 64 l7) < 16 then (if 0 ≤ l2 ∧ l2 < 16 then (if nz (g 65 (nz (g 64 l7))) = nz (g 65 l2) then (if l3 = 0 then (if 0 ≤ nz (g 64 l7) ∧ nz (g 64 l7) < 16 then (if nz (g 63 (nz (g 64 l7))) = 0 then zRn AL V ST ex_km d kt_76 180 (zP [zf b 61, zf b l1, enc l2, enc l3, enc l4, enc l5, enc l6, enc l7, enc (nz (g 64 l7))]) [] (zM n (zWf b f g)) else k76_133 V ST d (zCl AL V ST ex_km d) (zRn AL V ST ex_km d kt_76) (zP [zf b 61, zf b l1, enc l2, enc l3, enc l4, enc l5, enc l6, enc l7, enc (nz (g 64 l7))]) [] (zM n (zWf b f g))) else none) else zRn AL V ST ex_km d kt_76 133 (zP [zf b 61, zf b l1, enc l2, enc l3, enc l4, enc l5, enc l6, enc l7, enc (nz (g 64 l7))]) [] (zM n (zWf b f g))) else zRn AL V ST ex_km d kt_76 180 (zP [zf b 61, zf b l1, enc l2, enc l3, enc l4, enc l5, enc l6, enc l7, enc (nz (g 64 l7))]) [] (zM n (zWf b f g))) else none) else none) else zRn AL V ST ex_km d kt_76 180 (zP [zf b 61, zf b l1, enc l2, enc l3, enc l4, enc l5, enc l6, enc l7, enc (nz (g 64 l7))]) [] (zM n (zWf b f g))) else none) else none) else zRn AL V ST ex_km d kt_76 186 (zP [zf b 61, zf b l1, enc l2, enc l3, enc l4, enc l5, enc l6, enc l7, l8]) [] (zM n (zWf b f g))) = some r) : k76_75 V ST d (zCl AL V ST ex_km d) (zRn AL V ST ex_km d kt_76) (zP [zf b 61, zf b l1, enc l2, enc l3, enc l4, enc l5, enc l6, enc l7, l8]) [] (zM n (zWf b f g)) = some r := by
  unfold k76_75
  refine (zr_iload (v := enc l7) rfl (enc_lt _)).trans ?_
  refine (zr_aload (v := zf b l1) rfl (zf_tA h _)).trans ?_
  refine (zr_gfi h (ti_fl_count zl1)).trans ?_
  by_cases c1 : l7 < nz (g l1 14)
  · rw [if_pos c1] at k
    refine (zr_icmp_ge_n (zl7) (nz_R _) c1).trans ?_
    refine (zr_aload (v := zf b 61) rfl (zf_tA h _)).trans ?_
    refine (zr_gfr h (tr_st_order rfl)).trans ?_
    refine (zr_iload (v := enc l7) rfl (enc_lt _)).trans ?_
    by_cases c2 : 0 ≤ l7 ∧ l7 < 16
    · rw [if_pos c2] at k
      refine (zr_iald h (ta_st_order rfl) c2.1 (by have := c2.2; omega)).trans ?_
      refine (zr_istore (w := enc l7) (vs' := [zf b 61, zf b l1, enc l2, enc l3, enc l4, enc l5, enc l6, enc l7, enc (nz (g 64 l7))]) rfl (enc_c2 _) (Nat.lt_trans (enc_lt _) (by decide)) (by decide) rfl (enc_lt _)).trans ?_
      refine (zr_aload (v := zf b 61) rfl (zf_tA h _)).trans ?_
      refine (zr_gfr h (tr_st_mate rfl)).trans ?_
      refine (zr_iload (v := enc (nz (g 64 l7))) rfl (enc_lt _)).trans ?_
      by_cases c3 : 0 ≤ nz (g 64 l7) ∧ nz (g 64 l7) < 16
      · rw [if_pos c3] at k
        refine (zr_iald h (ta_st_mate rfl) c3.1 (by have := c3.2; omega)).trans ?_
        by_cases c4 : nz (g 66 (nz (g 64 l7))) < 0
        · rw [if_pos c4] at k
          refine (zr_if_ge_n (nz_R _) c4).trans ?_
          refine (zr_aload (v := zf b 61) rfl (zf_tA h _)).trans ?_
          refine (zr_gfr h (tr_st_zone rfl)).trans ?_
          refine (zr_iload (v := enc (nz (g 64 l7))) rfl (enc_lt _)).trans ?_
          by_cases c5 : 0 ≤ nz (g 64 l7) ∧ nz (g 64 l7) < 16
          · rw [if_pos c5] at k
            refine (zr_iald h (ta_st_zone rfl) c5.1 (by have := c5.2; omega)).trans ?_
            refine (zr_aload (v := zf b 61) rfl (zf_tA h _)).trans ?_
            refine (zr_gfr h (tr_st_zone rfl)).trans ?_
            refine (zr_iload (v := enc l2) rfl (enc_lt _)).trans ?_
            by_cases c6 : 0 ≤ l2 ∧ l2 < 16
            · rw [if_pos c6] at k
              refine (zr_iald h (ta_st_zone rfl) c6.1 (by have := c6.2; omega)).trans ?_
              by_cases c7 : nz (g 65 (nz (g 64 l7))) = nz (g 65 l2)
              · rw [if_pos c7] at k
                refine (zr_icmp_ne_n (nz_R _) (nz_R _) c7).trans ?_
                refine (zr_iload (v := enc l3) rfl (enc_lt _)).trans ?_
                by_cases c8 : l3 = 0
                · rw [if_pos c8] at k
                  refine (zr_if_ne_n (zl3) c8).trans ?_
                  refine (zr_aload (v := zf b 61) rfl (zf_tA h _)).trans ?_
                  refine (zr_gfr h (tr_st_isDancing rfl)).trans ?_
                  refine (zr_iload (v := enc (nz (g 64 l7))) rfl (enc_lt _)).trans ?_
                  by_cases c9 : 0 ≤ nz (g 64 l7) ∧ nz (g 64 l7) < 16
                  · rw [if_pos c9] at k
                    refine (zr_bald h (ta_st_isDancing rfl) c9.1 (by have := c9.2; omega)).trans ?_
                    by_cases c10 : nz (g 63 (nz (g 64 l7))) = 0
                    · rw [if_pos c10] at k
                      exact (zr_if_eq_t (nz_R _) c10).trans k
                    · rw [if_neg c10] at k
                      refine (zr_if_eq_n (nz_R _) c10).trans ?_
                      exact k
                  · rw [if_neg c9] at k; cases k
                · rw [if_neg c8] at k
                  exact (zr_if_ne_t (zl3) c8).trans k
              · rw [if_neg c7] at k
                exact (zr_icmp_ne_t (nz_R _) (nz_R _) c7).trans k
            · rw [if_neg c6] at k; cases k
          · rw [if_neg c5] at k; cases k
        · rw [if_neg c4] at k
          exact (zr_if_ge_t (nz_R _) (Int.not_lt.mp c4)).trans k
      · rw [if_neg c3] at k; cases k
    · rw [if_neg c2] at k; cases k
  · rw [if_neg c1] at k
    exact (zr_icmp_ge_t (zl7) (nz_R _) (Int.not_lt.mp c1)).trans k
theorem zs_76_70 (h : zOk b n f) {l1 : Nat} {l2 : Int} {l3 : Int} {l4 : Int} {l5 : Int} {s0 : Int} (zl1 : zI_fl l1) (zl2 : zR l2) (zl3 : zR l3) (zl4 : zR l4) (zl5 : zR l5) (zs0 : zR s0) (k : k76_75 V ST d (zCl AL V ST ex_km d) (zRn AL V ST ex_km d kt_76) (zP [zf b 61, zf b l1, enc l2, enc l3, enc l4, enc l5, enc s0, enc 0, 137438953472]) [] (zM n (zWf b f g)) = some r) : k76_70 V ST d (zCl AL V ST ex_km d) (zRn AL V ST ex_km d kt_76) (zP [zf b 61, zf b l1, enc l2, enc l3, enc l4, enc l5, 137438953472, 137438953472, 137438953472]) [enc s0] (zM n (zWf b f g)) = some r := by
  unfold k76_70
  refine (zr_istore (w := enc l5) (vs' := [zf b 61, zf b l1, enc l2, enc l3, enc l4, enc l5, enc s0, 137438953472, 137438953472]) rfl (enc_c2 _) (Nat.lt_trans (enc_lt _) (by decide)) (by decide) rfl (enc_lt _)).trans ?_
  refine (zr_pshi 0 rfl).trans ?_
  refine (zr_istore (w := enc s0) (vs' := [zf b 61, zf b l1, enc l2, enc l3, enc l4, enc l5, enc s0, enc 0, 137438953472]) rfl (enc_c2 _) (Nat.lt_trans (enc_lt _) (by decide)) (by decide) rfl (enc_lt _)).trans ?_
  exact k
theorem zs_76_59 (h : zOk b n f) {l1 : Nat} {l2 : Int} {l3 : Int} {l4 : Int} {l5 : Int} (zl1 : zI_fl l1) (zl2 : zR l2) (zl3 : zR l3) (zl4 : zR l4) (zl5 : zR l5) (k : (if 0 ≤ l2 ∧ l2 < 16 then k76_70 V ST d (zCl AL V ST ex_km d) (zRn AL V ST ex_km d kt_76) (zP [zf b 61, zf b l1, enc l2, enc l3, enc l4, enc l5, 137438953472, 137438953472, 137438953472]) [enc (nz ((nz (g (l1 + 2) l2)) + (nz (g 61 9))))] (zM n (zWf b f g)) else none) = some r) : k76_59 V ST d (zCl AL V ST ex_km d) (zRn AL V ST ex_km d kt_76) (zP [zf b 61, zf b l1, enc l2, enc l3, enc l4, enc l5, 137438953472, 137438953472, 137438953472]) [] (zM n (zWf b f g)) = some r := by
  unfold k76_59
  refine (zr_aload (v := zf b l1) rfl (zf_tA h _)).trans ?_
  refine (zr_gfr h (tr_fl_y zl1)).trans ?_
  refine (zr_iload (v := enc l2) rfl (enc_lt _)).trans ?_
  by_cases c1 : 0 ≤ l2 ∧ l2 < 16
  · rw [if_pos c1] at k
    refine (zr_iald h (ta_fl_y zl1) c1.1 (by have := c1.2; omega)).trans ?_
    refine (zr_aload (v := zf b 61) rfl (zf_tA h _)).trans ?_
    refine (zr_gfi h (ti_st_spacing rfl)).trans ?_
    refine (zr_iadd).trans ?_
    exact k
  · rw [if_neg c1] at k; cases k
theorem zs_76_43 (h : zOk b n f) {l1 : Nat} {l2 : Int} {l3 : Int} {l4 : Int} {s0 : Int} (zl1 : zI_fl l1) (zl2 : zR l2) (zl3 : zR l3) (zl4 : zR l4) (zs0 : zR s0) (k : (if l4 = 0 then zRn AL V ST ex_km d kt_76 59 (zP [zf b 61, zf b l1, enc l2, enc l3, enc l4, enc s0, 137438953472, 137438953472, 137438953472]) [] (zM n (zWf b f g)) else (if 0 ≤ l2 ∧ l2 < 16 then zRn AL V ST ex_km d kt_76 70 (zP [zf b 61, zf b l1, enc l2, enc l3, enc l4, enc s0, 137438953472, 137438953472, 137438953472]) [enc (nz (g (l1 + 2) l2))] (zM n (zWf b f g)) else none)) = some r) : k76_43 V ST d (zCl AL V ST ex_km d) (zRn AL V ST ex_km d kt_76) (zP [zf b 61, zf b l1, enc l2, enc l3, enc l4, 137438953472, 137438953472, 137438953472, 137438953472]) [enc s0] (zM n (zWf b f g)) = some r := by
  unfold k76_43
  refine (zr_istore (w := enc l4) (vs' := [zf b 61, zf b l1, enc l2, enc l3, enc l4, enc s0, 137438953472, 137438953472, 137438953472]) rfl (enc_c2 _) (Nat.lt_trans (enc_lt _) (by decide)) (by decide) rfl (enc_lt _)).trans ?_
  refine (zr_iload (v := enc l4) rfl (enc_lt _)).trans ?_
  by_cases c1 : l4 = 0
  · rw [if_pos c1] at k
    exact (zr_if_eq_t (zl4) c1).trans k
  · rw [if_neg c1] at k
    refine (zr_if_eq_n (zl4) c1).trans ?_
    refine (zr_aload (v := zf b l1) rfl (zf_tA h _)).trans ?_
    refine (zr_gfr h (tr_fl_y zl1)).trans ?_
    refine (zr_iload (v := enc l2) rfl (enc_lt _)).trans ?_
    by_cases c2 : 0 ≤ l2 ∧ l2 < 16
    · rw [if_pos c2] at k
      refine (zr_iald h (ta_fl_y zl1) c2.1 (by have := c2.2; omega)).trans ?_
      exact (zr_goto).trans k
    · rw [if_neg c2] at k; cases k
theorem zs_76_37 (h : zOk b n f) {l1 : Nat} {l2 : Int} {l3 : Int} {l4 : Int} (zl1 : zI_fl l1) (zl2 : zR l2) (zl3 : zR l3) (zl4 : zR l4) (k : (if 0 ≤ l2 ∧ l2 < 16 then k76_43 V ST d (zCl AL V ST ex_km d) (zRn AL V ST ex_km d kt_76) (zP [zf b 61, zf b l1, enc l2, enc l3, enc l4, 137438953472, 137438953472, 137438953472, 137438953472]) [enc (nz (g (l1 + 1) l2))] (zM n (zWf b f g)) else none) = some r) : k76_37 V ST d (zCl AL V ST ex_km d) (zRn AL V ST ex_km d kt_76) (zP [zf b 61, zf b l1, enc l2, enc l3, enc l4, 137438953472, 137438953472, 137438953472, 137438953472]) [] (zM n (zWf b f g)) = some r := by
  unfold k76_37
  refine (zr_aload (v := zf b l1) rfl (zf_tA h _)).trans ?_
  refine (zr_gfr h (tr_fl_x zl1)).trans ?_
  refine (zr_iload (v := enc l2) rfl (enc_lt _)).trans ?_
  by_cases c1 : 0 ≤ l2 ∧ l2 < 16
  · rw [if_pos c1] at k
    refine (zr_iald h (ta_fl_x zl1) c1.1 (by have := c1.2; omega)).trans ?_
    exact k
  · rw [if_neg c1] at k; cases k
theorem zs_76_16 (h : zOk b n f) {l1 : Nat} {l2 : Int} {l3 : Int} {s0 : Int} (zl1 : zI_fl l1) (zl2 : zR l2) (zl3 : zR l3) (zs0 : zR s0) (k : (if s0 = 0 then zRn AL V ST ex_km d kt_76 37 (zP [zf b 61, zf b l1, enc l2, enc l3, enc s0, 137438953472, 137438953472, 137438953472, 137438953472]) [] (zM n (zWf b f g)) else (if 0 ≤ l2 ∧ l2 < 16 then zRn AL V ST ex_km d kt_76 43 (zP [zf b 61, zf b l1, enc l2, enc l3, enc s0, 137438953472, 137438953472, 137438953472, 137438953472]) [enc (nz ((nz (g (l1 + 1) l2)) + (nz (g 61 9))))] (zM n (zWf b f g)) else none)) = some r) : k76_16 V ST d (zCl AL V ST ex_km d) (zRn AL V ST ex_km d kt_76) (zP [zf b 61, zf b l1, enc l2, enc l3, 137438953472, 137438953472, 137438953472, 137438953472, 137438953472]) [enc s0] (zM n (zWf b f g)) = some r := by
  unfold k76_16
  refine (zr_istore (w := enc l3) (vs' := [zf b 61, zf b l1, enc l2, enc l3, enc s0, 137438953472, 137438953472, 137438953472, 137438953472]) rfl (enc_c2 _) (Nat.lt_trans (enc_lt _) (by decide)) (by decide) rfl (enc_lt _)).trans ?_
  refine (zr_iload (v := enc s0) rfl (enc_lt _)).trans ?_
  by_cases c1 : s0 = 0
  · rw [if_pos c1] at k
    exact (zr_if_eq_t (zs0) c1).trans k
  · rw [if_neg c1] at k
    refine (zr_if_eq_n (zs0) c1).trans ?_
    refine (zr_aload (v := zf b l1) rfl (zf_tA h _)).trans ?_
    refine (zr_gfr h (tr_fl_x zl1)).trans ?_
    refine (zr_iload (v := enc l2) rfl (enc_lt _)).trans ?_
    by_cases c2 : 0 ≤ l2 ∧ l2 < 16
    · rw [if_pos c2] at k
      refine (zr_iald h (ta_fl_x zl1) c2.1 (by have := c2.2; omega)).trans ?_
      refine (zr_aload (v := zf b 61) rfl (zf_tA h _)).trans ?_
      refine (zr_gfi h (ti_st_spacing rfl)).trans ?_
      refine (zr_iadd).trans ?_
      exact (zr_goto).trans k
    · rw [if_neg c2] at k; cases k
theorem zs_76_15 (h : zOk b n f) {l1 : Nat} {l2 : Int} {l3 : Int} (zl1 : zI_fl l1) (zl2 : zR l2) (zl3 : zR l3) (k : k76_16 V ST d (zCl AL V ST ex_km d) (zRn AL V ST ex_km d kt_76) (zP [zf b 61, zf b l1, enc l2, enc l3, 137438953472, 137438953472, 137438953472, 137438953472, 137438953472]) [enc 0] (zM n (zWf b f g)) = some r) : k76_15 V ST d (zCl AL V ST ex_km d) (zRn AL V ST ex_km d kt_76) (zP [zf b 61, zf b l1, enc l2, enc l3, 137438953472, 137438953472, 137438953472, 137438953472, 137438953472]) [] (zM n (zWf b f g)) = some r := by
  unfold k76_15
  refine (zr_pshi 0 rfl).trans ?_
  exact k
theorem zs_76_0 (h : zOk b n f) {l1 : Nat} {l2 : Int} {l3 : Int} (zl1 : zI_fl l1) (zl2 : zR l2) (zl3 : zR l3) (k : (if 0 ≤ l2 ∧ l2 < 16 then (if nz (Int.tmod (nz (g (l1 + 3) l2)) 2) = 0 then zRn AL V ST ex_km d kt_76 16 (zP [zf b 61, zf b l1, enc l2, enc l3, 137438953472, 137438953472, 137438953472, 137438953472, 137438953472]) [enc 1] (zM n (zWf b f g)) else zRn AL V ST ex_km d kt_76 15 (zP [zf b 61, zf b l1, enc l2, enc l3, 137438953472, 137438953472, 137438953472, 137438953472, 137438953472]) [] (zM n (zWf b f g))) else none) = some r) : k76_0 V ST d (zCl AL V ST ex_km d) (zRn AL V ST ex_km d kt_76) (zP [zf b 61, zf b l1, enc l2, enc l3, 137438953472, 137438953472, 137438953472, 137438953472, 137438953472]) [] (zM n (zWf b f g)) = some r := by
  unfold k76_0
  refine (zr_aload (v := zf b l1) rfl (zf_tA h _)).trans ?_
  refine (zr_gfr h (tr_fl_f zl1)).trans ?_
  refine (zr_iload (v := enc l2) rfl (enc_lt _)).trans ?_
  by_cases c1 : 0 ≤ l2 ∧ l2 < 16
  · rw [if_pos c1] at k
    refine (zr_iald h (ta_fl_f zl1) c1.1 (by have := c1.2; omega)).trans ?_
    refine (zr_pshi 2 rfl).trans ?_
    refine (zr_rem (nz_R _) ((by unfold zR; omega)) (by decide)).trans ?_
    by_cases c2 : nz (Int.tmod (nz (g (l1 + 3) l2)) 2) = 0
    · rw [if_pos c2] at k
      refine (zr_if_ne_n (nz_R _) c2).trans ?_
      refine (zr_pshi 1 rfl).trans ?_
      exact (zr_goto).trans k
    · rw [if_neg c2] at k
      exact (zr_if_ne_t (nz_R _) c2).trans k
  · rw [if_neg c1] at k; cases k
theorem zs_77_30 (h : zOk b n f) {l1 : Nat} {l2 : Int} (zl1 : zI_fl l1) (zl2 : zR l2) (k : some (137438953473, (zM n (zWf b f g))) = some r) : k77_30 V ST d (zCl AL V ST ex_km d) (zRn AL V ST ex_km d kt_77) (zP [zf b 61, zf b l1, enc l2]) [] (zM n (zWf b f g)) = some r := by
  unfold k77_30
  exact zr_return.trans k
theorem zs_77_24 (h : zOk b n f) {l1 : Nat} {l2 : Int} (zl1 : zI_fl l1) (zl2 : zR l2) (k : zTh (zCl AL V ST ex_km d 75 [zf b 61, zf b l1, enc 1] (zM n (zWf b f g))) (zM n (zWf b f g)) [] (fun S M => k77_30 V ST d (zCl AL V ST ex_km d) (zRn AL V ST ex_km d kt_77) (zP [zf b 61, zf b l1, enc l2]) S M) = some r) : k77_24 V ST d (zCl AL V ST ex_km d) (zRn AL V ST ex_km d kt_77) (zP [zf b 61, zf b l1, enc l2]) [] (zM n (zWf b f g)) = some r := by
  unfold k77_24
  refine (zr_aload (v := zf b 61) rfl (zf_tA h _)).trans ?_
  refine (zr_aload (v := zf b l1) rfl (zf_tA h _)).trans ?_
  refine (zr_pshi 1 rfl).trans ?_
  refine zr_invV h [enc 1, zf b l1] rfl (tk_st rfl) (zA_cons (enc_l _) (zA_cons (zf_l h _) zA_nil)) (zA_nil) (by decide) ?_
  exact k
theorem zs_77_21 (h : zOk b n f) {l1 : Nat} {l2 : Int} (zl1 : zI_fl l1) (zl2 : zR l2) (k : zRn AL V ST ex_km d kt_77 30 (zP [zf b 61, zf b l1, enc l2]) [] (zM n (zWf b f g)) = some r) : k77_21 V ST d (zCl AL V ST ex_km d) (zRn AL V ST ex_km d kt_77) (zP [zf b 61, zf b l1, enc l2]) [] (zM n (zWf b f g)) = some r := by
  unfold k77_21
  exact (zr_goto).trans k
theorem zs_77_12 (h : zOk b n f) {l1 : Nat} {l2 : Int} (zl1 : zI_fl l1) (zl2 : zR l2) (k : (if l2 = 0 then zRn AL V ST ex_km d kt_77 24 (zP [zf b 61, zf b l1, enc l2]) [] (zM n (zWf b f g)) else zTh (zCl AL V ST ex_km d 78 [zf b 61, zf b l1] (zM n (zWf b f g))) (zM n (zWf b f g)) [] (fun S M => k77_21 V ST d (zCl AL V ST ex_km d) (zRn AL V ST ex_km d kt_77) (zP [zf b 61, zf b l1, enc l2]) S M)) = some r) : k77_12 V ST d (zCl AL V ST ex_km d) (zRn AL V ST ex_km d kt_77) (zP [zf b 61, zf b l1, enc l2]) [] (zM n (zWf b f g)) = some r := by
  unfold k77_12
  refine (zr_iload (v := enc l2) rfl (enc_lt _)).trans ?_
  by_cases c1 : l2 = 0
  · rw [if_pos c1] at k
    exact (zr_if_eq_t (zl2) c1).trans k
  · rw [if_neg c1] at k
    refine (zr_if_eq_n (zl2) c1).trans ?_
    refine (zr_aload (v := zf b 61) rfl (zf_tA h _)).trans ?_
    refine (zr_aload (v := zf b l1) rfl (zf_tA h _)).trans ?_
    refine zr_invV h [zf b l1] rfl (tk_st rfl) (zA_cons (zf_l h _) zA_nil) (zA_nil) (by decide) ?_
    exact k
theorem zs_77_7 (h : zOk b n f) {l1 : Nat} {l2 : Int} (zl1 : zI_fl l1) (zl2 : zR l2) (k : zTh (zCl AL V ST ex_km d 72 [zf b 61, zf b l1] (zM n (zWf b f g))) (zM n (zWf b f g)) [] (fun S M => k77_12 V ST d (zCl AL V ST ex_km d) (zRn AL V ST ex_km d kt_77) (zP [zf b 61, zf b l1, enc l2]) S M) = some r) : k77_7 V ST d (zCl AL V ST ex_km d) (zRn AL V ST ex_km d kt_77) (zP [zf b 61, zf b l1, enc l2]) [] (zM n (zWf b f g)) = some r := by
  unfold k77_7
  refine (zr_aload (v := zf b 61) rfl (zf_tA h _)).trans ?_
  refine (zr_aload (v := zf b l1) rfl (zf_tA h _)).trans ?_
  refine zr_invV h [zf b l1] rfl (tk_st rfl) (zA_cons (zf_l h _) zA_nil) (zA_nil) (by decide) ?_
  exact k
theorem zs_77_0 (h : zOk b n f) {l1 : Nat} {l2 : Int} (zl1 : zI_fl l1) (zl2 : zR l2) (k : zTh (zCl AL V ST ex_km d 68 [zf b 61, enc 2, enc 0, enc 0] (zM n (zWf b f g))) (zM n (zWf b f g)) [] (fun S M => k77_7 V ST d (zCl AL V ST ex_km d) (zRn AL V ST ex_km d kt_77) (zP [zf b 61, zf b l1, enc l2]) S M) = some r) : k77_0 V ST d (zCl AL V ST ex_km d) (zRn AL V ST ex_km d kt_77) (zP [zf b 61, zf b l1, enc l2]) [] (zM n (zWf b f g)) = some r := by
  unfold k77_0
  refine (zr_aload (v := zf b 61) rfl (zf_tA h _)).trans ?_
  refine (zr_pshi 2 rfl).trans ?_
  refine (zr_pshi 0 rfl).trans ?_
  refine (zr_pshi 0 rfl).trans ?_
  refine zr_invV h [enc 0, enc 0, enc 2] rfl (tk_st rfl) (zA_cons (enc_l _) (zA_cons (enc_l _) (zA_cons (enc_l _) zA_nil))) (zA_nil) (by decide) ?_
  exact k
theorem zs_78_206 (h : zOk b n f) {l1 : Nat} {l2 : Int} {l3 : Nat} {l4 : Nat} {l5 : Nat} {l6 : Nat} {l7 : Nat} {l8 : Nat} (zl1 : zI_fl l1) (zl2 : zR l2) (zl3 : ex_c2 l3 = false ∧ l3 < 1099511627776) (zl4 : ex_c2 l4 = false ∧ l4 < 1099511627776) (zl5 : ex_c2 l5 = false ∧ l5 < 1099511627776) (zl6 : ex_c2 l6 = false ∧ l6 < 1099511627776) (zl7 : ex_c2 l7 = false ∧ l7 < 1099511627776) (zl8 : ex_c2 l8 = false ∧ l8 < 1099511627776) (k : some (137438953473, (zM n (zWf b f g))) = some r) : k78_206 V ST d (zCl AL V ST ex_km d) (zRn AL V ST ex_km d kt_78) (zP [zf b 61, zf b l1, enc l2, l3, l4, l5, l6, l7, l8]) [] (zM n (zWf b f g)) = some r := by
  unfold k78_206
  exact zr_return.trans k
theorem zs_78_200 (h : zOk b n f) {l1 : Nat} {l2 : Int} {l3 : Int} {l4 : Int} {l5 : Int} {l6 : Int} {l7 : Int} {l8 : Nat} (zl1 : zI_fl l1) (zl2 : zR l2) (zl3 : zR l3) (zl4 : zR l4) (zl5 : zR l5) (zl6 : zR l6) (zl7 : zR l7) (zl8 : ex_c2 l8 = false ∧ l8 < 1099511627776) (k : zRn AL V ST ex_km d kt_78 2 (zP [zf b 61, zf b l1, enc (nz (l2 + 1)), enc l3, enc l4, enc l5, enc l6, enc l7, l8]) [] (zM n (zWf b f g)) = some r) : k78_200 V ST d (zCl AL V ST ex_km d) (zRn AL V ST ex_km d kt_78) (zP [zf b 61, zf b l1, enc l2, enc l3, enc l4, enc l5, enc l6, enc l7, l8]) [] (zM n (zWf b f g)) = some r := by
  unfold k78_200
  refine (zr_iinc (w := zf b l1) (x := l2) (i' := 1) (vs' := [zf b 61, zf b l1, enc (nz (l2 + 1)), enc l3, enc l4, enc l5, enc l6, enc l7, l8]) rfl (zf_c2 h _) (Nat.lt_trans (zf_l h _) (by decide)) rfl rfl (by decide) rfl).trans ?_
  exact (zr_goto).trans k
theorem zs_78_194 (h : zOk b n f) {l1 : Nat} {l2 : Int} {l3 : Int} {l4 : Int} {l5 : Int} {l6 : Int} {l7 : Int} {l8 : Int} (zl1 : zI_fl l1) (zl2 : zR l2) (zl3 : zR l3) (zl4 : zR l4) (zl5 : zR l5) (zl6 : zR l6) (zl7 : zR l7) (zl8 : zR l8) (k : zRn AL V ST ex_km d kt_78 86 (zP [zf b 61, zf b l1, enc l2, enc l3, enc l4, enc l5, enc l6, enc (nz (l7 + 1)), enc l8]) [] (zM n (zWf b f g)) = some r) : k78_194 V ST d (zCl AL V ST ex_km d) (zRn AL V ST ex_km d kt_78) (zP [zf b 61, zf b l1, enc l2, enc l3, enc l4, enc l5, enc l6, enc l7, enc l8]) [] (zM n (zWf b f g)) = some r := by
  unfold k78_194
  refine (zr_iinc (w := enc l6) (x := l7) (i' := 1) (vs' := [zf b 61, zf b l1, enc l2, enc l3, enc l4, enc l5, enc l6, enc (nz (l7 + 1)), enc l8]) rfl (enc_c2 _) (Nat.lt_trans (enc_lt _) (by decide)) rfl rfl (by decide) rfl).trans ?_
  exact (zr_goto).trans k
theorem zs_78_86 (h : zOk b n f) {l1 : Nat} {l2 : Int} {l3 : Int} {l4 : Int} {l5 : Int} {l6 : Int} {l7 : Int} {l8 : Nat} (zl1 : zI_fl l1) (zl2 : zR l2) (zl3 : zR l3) (zl4 : zR l4) (zl5 : zR l5) (zl6 : zR l6) (zl7 : zR l7) (zl8 : ex_c2 l8 = false ∧ l8 < 1099511627776) (k : (if l7 < nz (g l1 14) then (if 0 ≤ l3 ∧ l3 < 16 then (if nz (g 66 l3) < 0 then (if 0 ≤ l7 ∧ l7 < 16 then (if 0 ≤ nz (g 64 l7) ∧ nz (g 64 l7) < 16 then (if nz (g 66 (nz (g 64 l7))) < 0 then (if 0 ≤ nz (g 64 l7) ∧ nz (g 64 l7) < 16 then (if nz (g (l1 + 1) (nz (g 64 l7))) = l5 then (if 0 ≤ nz (g 64 l7) ∧ nz (g 64 l7) < 16 then (if nz (g (l1 + 2) (nz (g 64 l7))) = l6 then (if 0 ≤ nz (g 64 l7) ∧ nz (g 64 l7) < 16 then (if 0 ≤ l3 ∧ l3 < 16 then (if nz (g (l1 + 3) (nz (g 64 l7))) = nz (g (l1 + 3) l3) then (if 0 ≤ l3 ∧ l3 < 16 then (if 0 ≤ nz (g 64 l7) ∧ nz (g 64 l7) < 16 then (if 0 ≤ l3 ∧ l3 < 16 then (if 0 ≤ nz (g 64 l7) ∧ nz (g 64 l7) < 16 then k78_194 V ST d (zCl AL V ST ex_km d) (zRn AL V ST ex_km d kt_78) (zP [zf b 61, zf b l1, enc l2, enc l3, enc l4, enc l5, enc l6, enc l7, enc (nz (g 64 l7))]) [] (zM n (zWf b f (upd (upd (upd (upd g 66 l3 (nz (g 64 l7))) 66 (nz (g 64 l7)) l3) 67 l3 1) 67 (nz (g 64 l7)) 1))) else none) else none) else none) else none) else zRn AL V ST ex_km d kt_78 194 (zP [zf b 61, zf b l1, enc l2, enc l3, enc l4, enc l5, enc l6, enc l7, enc (nz (g 64 l7))]) [] (zM n (zWf b f g))) else none) else none) else zRn AL V ST ex_km d kt_78 194 (zP [zf b 61, zf b l1, enc l2, enc l3, enc l4, enc l5, enc l6, enc l7, enc (nz (g 64 l7))]) [] (zM n (zWf b f g))) else none) else zRn AL V ST ex_km d kt_78 194 (zP [zf b 61, zf b l1, enc l2, enc l3, enc l4, enc l5, enc l6, enc l7, enc (nz (g 64 l7))]) [] (zM n (zWf b f g))) else none) else zRn AL V ST ex_km d kt_78 194 (zP [zf b 61, zf b l1, enc l2, enc l3, enc l4, enc l5, enc l6, enc l7, enc (nz (g 64 l7))]) [] (zM n (zWf b f g))) else none) else none) else zRn AL V ST ex_km d kt_78 200 (zP [zf b 61, zf b l1, enc l2, enc l3, enc l4, enc l5, enc l6, enc l7, l8]) [] (zM n (zWf b f g))) else none) else zRn AL V ST ex_km d kt_78 200 (zP [zf b 61, zf b l1, enc l2, enc l3, enc l4, enc l5, enc l6, enc l7, l8]) [] (zM n (zWf b f g))) = some r) : k78_86 V ST d (zCl AL V ST ex_km d) (zRn AL V ST ex_km d kt_78) (zP [zf b 61, zf b l1, enc l2, enc l3, enc l4, enc l5, enc l6, enc l7, l8]) [] (zM n (zWf b f g)) = some r := by
  unfold k78_86
  refine (zr_iload (v := enc l7) rfl (enc_lt _)).trans ?_
  refine (zr_aload (v := zf b l1) rfl (zf_tA h _)).trans ?_
  refine (zr_gfi h (ti_fl_count zl1)).trans ?_
  by_cases c1 : l7 < nz (g l1 14)
  · rw [if_pos c1] at k
    refine (zr_icmp_ge_n (zl7) (nz_R _) c1).trans ?_
    refine (zr_aload (v := zf b 61) rfl (zf_tA h _)).trans ?_
    refine (zr_gfr h (tr_st_mate rfl)).trans ?_
    refine (zr_iload (v := enc l3) rfl (enc_lt _)).trans ?_
    by_cases c2 : 0 ≤ l3 ∧ l3 < 16
    · rw [if_pos c2] at k
      refine (zr_iald h (ta_st_mate rfl) c2.1 (by have := c2.2; omega)).trans ?_
      by_cases c3 : nz (g 66 l3) < 0
      · rw [if_pos c3] at k
        refine (zr_if_ge_n (nz_R _) c3).trans ?_
        refine (zr_aload (v := zf b 61) rfl (zf_tA h _)).trans ?_
        refine (zr_gfr h (tr_st_order rfl)).trans ?_
        refine (zr_iload (v := enc l7) rfl (enc_lt _)).trans ?_
        by_cases c4 : 0 ≤ l7 ∧ l7 < 16
        · rw [if_pos c4] at k
          refine (zr_iald h (ta_st_order rfl) c4.1 (by have := c4.2; omega)).trans ?_
          refine (zr_istore (w := enc l7) (vs' := [zf b 61, zf b l1, enc l2, enc l3, enc l4, enc l5, enc l6, enc l7, enc (nz (g 64 l7))]) rfl (enc_c2 _) (Nat.lt_trans (enc_lt _) (by decide)) (by decide) rfl (enc_lt _)).trans ?_
          refine (zr_aload (v := zf b 61) rfl (zf_tA h _)).trans ?_
          refine (zr_gfr h (tr_st_mate rfl)).trans ?_
          refine (zr_iload (v := enc (nz (g 64 l7))) rfl (enc_lt _)).trans ?_
          by_cases c5 : 0 ≤ nz (g 64 l7) ∧ nz (g 64 l7) < 16
          · rw [if_pos c5] at k
            refine (zr_iald h (ta_st_mate rfl) c5.1 (by have := c5.2; omega)).trans ?_
            by_cases c6 : nz (g 66 (nz (g 64 l7))) < 0
            · rw [if_pos c6] at k
              refine (zr_if_ge_n (nz_R _) c6).trans ?_
              refine (zr_aload (v := zf b l1) rfl (zf_tA h _)).trans ?_
              refine (zr_gfr h (tr_fl_x zl1)).trans ?_
              refine (zr_iload (v := enc (nz (g 64 l7))) rfl (enc_lt _)).trans ?_
              by_cases c7 : 0 ≤ nz (g 64 l7) ∧ nz (g 64 l7) < 16
              · rw [if_pos c7] at k
                refine (zr_iald h (ta_fl_x zl1) c7.1 (by have := c7.2; omega)).trans ?_
                refine (zr_iload (v := enc l5) rfl (enc_lt _)).trans ?_
                by_cases c8 : nz (g (l1 + 1) (nz (g 64 l7))) = l5
                · rw [if_pos c8] at k
                  refine (zr_icmp_ne_n (nz_R _) (zl5) c8).trans ?_
                  refine (zr_aload (v := zf b l1) rfl (zf_tA h _)).trans ?_
                  refine (zr_gfr h (tr_fl_y zl1)).trans ?_
                  refine (zr_iload (v := enc (nz (g 64 l7))) rfl (enc_lt _)).trans ?_
                  by_cases c9 : 0 ≤ nz (g 64 l7) ∧ nz (g 64 l7) < 16
                  · rw [if_pos c9] at k
                    refine (zr_iald h (ta_fl_y zl1) c9.1 (by have := c9.2; omega)).trans ?_
                    refine (zr_iload (v := enc l6) rfl (enc_lt _)).trans ?_
                    by_cases c10 : nz (g (l1 + 2) (nz (g 64 l7))) = l6
                    · rw [if_pos c10] at k
                      refine (zr_icmp_ne_n (nz_R _) (zl6) c10).trans ?_
                      refine (zr_aload (v := zf b l1) rfl (zf_tA h _)).trans ?_
                      refine (zr_gfr h (tr_fl_f zl1)).trans ?_
                      refine (zr_iload (v := enc (nz (g 64 l7))) rfl (enc_lt _)).trans ?_
                      by_cases c11 : 0 ≤ nz (g 64 l7) ∧ nz (g 64 l7) < 16
                      · rw [if_pos c11] at k
                        refine (zr_iald h (ta_fl_f zl1) c11.1 (by have := c11.2; omega)).trans ?_
                        refine (zr_aload (v := zf b l1) rfl (zf_tA h _)).trans ?_
                        refine (zr_gfr h (tr_fl_f zl1)).trans ?_
                        refine (zr_iload (v := enc l3) rfl (enc_lt _)).trans ?_
                        by_cases c12 : 0 ≤ l3 ∧ l3 < 16
                        · rw [if_pos c12] at k
                          refine (zr_iald h (ta_fl_f zl1) c12.1 (by have := c12.2; omega)).trans ?_
                          by_cases c13 : nz (g (l1 + 3) (nz (g 64 l7))) = nz (g (l1 + 3) l3)
                          · rw [if_pos c13] at k
                            refine (zr_icmp_ne_n (nz_R _) (nz_R _) c13).trans ?_
                            refine (zr_aload (v := zf b 61) rfl (zf_tA h _)).trans ?_
                            refine (zr_gfr h (tr_st_mate rfl)).trans ?_
                            refine (zr_iload (v := enc l3) rfl (enc_lt _)).trans ?_
                            refine (zr_iload (v := enc (nz (g 64 l7))) rfl (enc_lt _)).trans ?_
                            by_cases c14 : 0 ≤ l3 ∧ l3 < 16
                            · rw [if_pos c14] at k
                              refine (zr_iast h (ta_st_mate rfl) c14.1 (by have := c14.2; omega)).trans ?_
                              refine (zr_aload (v := zf b 61) rfl (zf_tA h _)).trans ?_
                              refine (zr_gfr h (tr_st_mate rfl)).trans ?_
                              refine (zr_iload (v := enc (nz (g 64 l7))) rfl (enc_lt _)).trans ?_
                              refine (zr_iload (v := enc l3) rfl (enc_lt _)).trans ?_
                              by_cases c15 : 0 ≤ nz (g 64 l7) ∧ nz (g 64 l7) < 16
                              · rw [if_pos c15] at k
                                refine (zr_iast h (ta_st_mate rfl) c15.1 (by have := c15.2; omega)).trans ?_
                                refine (zr_aload (v := zf b 61) rfl (zf_tA h _)).trans ?_
                                refine (zr_gfr h (tr_st_kind rfl)).trans ?_
                                refine (zr_iload (v := enc l3) rfl (enc_lt _)).trans ?_
                                refine (zr_pshi 1 rfl).trans ?_
                                by_cases c16 : 0 ≤ l3 ∧ l3 < 16
                                · rw [if_pos c16] at k
                                  refine (zr_iast h (ta_st_kind rfl) c16.1 (by have := c16.2; omega)).trans ?_
                                  refine (zr_aload (v := zf b 61) rfl (zf_tA h _)).trans ?_
                                  refine (zr_gfr h (tr_st_kind rfl)).trans ?_
                                  refine (zr_iload (v := enc (nz (g 64 l7))) rfl (enc_lt _)).trans ?_
                                  refine (zr_pshi 1 rfl).trans ?_
                                  by_cases c17 : 0 ≤ nz (g 64 l7) ∧ nz (g 64 l7) < 16
                                  · rw [if_pos c17] at k
                                    refine (zr_iast h (ta_st_kind rfl) c17.1 (by have := c17.2; omega)).trans ?_
                                    exact k
                                  · rw [if_neg c17] at k; cases k
                                · rw [if_neg c16] at k; cases k
                              · rw [if_neg c15] at k; cases k
                            · rw [if_neg c14] at k; cases k
                          · rw [if_neg c13] at k
                            exact (zr_icmp_ne_t (nz_R _) (nz_R _) c13).trans k
                        · rw [if_neg c12] at k; cases k
                      · rw [if_neg c11] at k; cases k
                    · rw [if_neg c10] at k
                      exact (zr_icmp_ne_t (nz_R _) (zl6) c10).trans k
                  · rw [if_neg c9] at k; cases k
                · rw [if_neg c8] at k
                  exact (zr_icmp_ne_t (nz_R _) (zl5) c8).trans k
              · rw [if_neg c7] at k; cases k
            · rw [if_neg c6] at k
              exact (zr_if_ge_t (nz_R _) (Int.not_lt.mp c6)).trans k
          · rw [if_neg c5] at k; cases k
        · rw [if_neg c4] at k; cases k
      · rw [if_neg c3] at k
        exact (zr_if_ge_t (nz_R _) (Int.not_lt.mp c3)).trans k
    · rw [if_neg c2] at k; cases k
  · rw [if_neg c1] at k
    exact (zr_icmp_ge_t (zl7) (nz_R _) (Int.not_lt.mp c1)).trans k
theorem zs_78_81 (h : zOk b n f) {l1 : Nat} {l2 : Int} {l3 : Int} {l4 : Int} {l5 : Int} {l6 : Nat} {l7 : Nat} {l8 : Nat} {s0 : Int} (zl1 : zI_fl l1) (zl2 : zR l2) (zl3 : zR l3) (zl4 : zR l4) (zl5 : zR l5) (zl6 : ex_c2 l6 = false ∧ l6 < 1099511627776) (zl7 : ex_c2 l7 = false ∧ l7 < 1099511627776) (zl8 : ex_c2 l8 = false ∧ l8 < 1099511627776) (zs0 : zR s0) (k : k78_86 V ST d (zCl AL V ST ex_km d) (zRn AL V ST ex_km d kt_78) (zP [zf b 61, zf b l1, enc l2, enc l3, enc l4, enc l5, enc s0, enc 0, l8]) [] (zM n (zWf b f g)) = some r) : k78_81 V ST d (zCl AL V ST ex_km d) (zRn AL V ST ex_km d kt_78) (zP [zf b 61, zf b l1, enc l2, enc l3, enc l4, enc l5, l6, l7, l8]) [enc s0] (zM n (zWf b f g)) = some r := by
  unfold k78_81
  refine (zr_istore (w := enc l5) (vs' := [zf b 61, zf b l1, enc l2, enc l3, enc l4, enc l5, enc s0, l7, l8]) rfl (enc_c2 _) (Nat.lt_trans (enc_lt _) (by decide)) (by decide) rfl (enc_lt _)).trans ?_
  refine (zr_pshi 0 rfl).trans ?_
  refine (zr_istore (w := enc s0) (vs' := [zf b 61, zf b l1, enc l2, enc l3, enc l4, enc l5, enc s0, enc 0, l8]) rfl (enc_c2 _) (Nat.lt_trans (enc_lt _) (by decide)) (by decide) rfl (enc_lt _)).trans ?_
  exact k
theorem zs_78_73 (h : zOk b n f) {l1 : Nat} {l2 : Int} {l3 : Int} {l4 : Int} {l5 : Int} {l6 : Nat} {l7 : Nat} {l8 : Nat} (zl1 : zI_fl l1) (zl2 : zR l2) (zl3 : zR l3) (zl4 : zR l4) (zl5 : zR l5) (zl6 : ex_c2 l6 = false ∧ l6 < 1099511627776) (zl7 : ex_c2 l7 = false ∧ l7 < 1099511627776) (zl8 : ex_c2 l8 = false ∧ l8 < 1099511627776) (k : (if 0 ≤ l3 ∧ l3 < 16 then k78_81 V ST d (zCl AL V ST ex_km d) (zRn AL V ST ex_km d kt_78) (zP [zf b 61, zf b l1, enc l2, enc l3, enc l4, enc l5, l6, l7, l8]) [enc (nz ((nz (g (l1 + 2) l3)) + 2))] (zM n (zWf b f g)) else none) = some r) : k78_73 V ST d (zCl AL V ST ex_km d) (zRn AL V ST ex_km d kt_78) (zP [zf b 61, zf b l1, enc l2, enc l3, enc l4, enc l5, l6, l7, l8]) [] (zM n (zWf b f g)) = some r := by
  unfold k78_73
  refine (zr_aload (v := zf b l1) rfl (zf_tA h _)).trans ?_
  refine (zr_gfr h (tr_fl_y zl1)).trans ?_
  refine (zr_iload (v := enc l3) rfl (enc_lt _)).trans ?_
  by_cases c1 : 0 ≤ l3 ∧ l3 < 16
  · rw [if_pos c1] at k
    refine (zr_iald h (ta_fl_y zl1) c1.1 (by have := c1.2; omega)).trans ?_
    refine (zr_pshi 2 rfl).trans ?_
    refine (zr_iadd).trans ?_
    exact k
  · rw [if_neg c1] at k; cases k
theorem zs_78_57 (h : zOk b n f) {l1 : Nat} {l2 : Int} {l3 : Int} {l4 : Int} {l5 : Nat} {l6 : Nat} {l7 : Nat} {l8 : Nat} {s0 : Int} (zl1 : zI_fl l1) (zl2 : zR l2) (zl3 : zR l3) (zl4 : zR l4) (zl5 : ex_c2 l5 = false ∧ l5 < 1099511627776) (zl6 : ex_c2 l6 = false ∧ l6 < 1099511627776) (zl7 : ex_c2 l7 = false ∧ l7 < 1099511627776) (zl8 : ex_c2 l8 = false ∧ l8 < 1099511627776) (zs0 : zR s0) (k : (if l4 = 0 then zRn AL V ST ex_km d kt_78 73 (zP [zf b 61, zf b l1, enc l2, enc l3, enc l4, enc s0, l6, l7, l8]) [] (zM n (zWf b f g)) else (if 0 ≤ l3 ∧ l3 < 16 then zRn AL V ST ex_km d kt_78 81 (zP [zf b 61, zf b l1, enc l2, enc l3, enc l4, enc s0, l6, l7, l8]) [enc (nz (g (l1 + 2) l3))] (zM n (zWf b f g)) else none)) = some r) : k78_57 V ST d (zCl AL V ST ex_km d) (zRn AL V ST ex_km d kt_78) (zP [zf b 61, zf b l1, enc l2, enc l3, enc l4, l5, l6, l7, l8]) [enc s0] (zM n (zWf b f g)) = some r := by
  unfold k78_57
  refine (zr_istore (w := enc l4) (vs' := [zf b 61, zf b l1, enc l2, enc l3, enc l4, enc s0, l6, l7, l8]) rfl (enc_c2 _) (Nat.lt_trans (enc_lt _) (by decide)) (by decide) rfl (enc_lt _)).trans ?_
  refine (zr_iload (v := enc l4) rfl (enc_lt _)).trans ?_
  by_cases c1 : l4 = 0
  · rw [if_pos c1] at k
    exact (zr_if_eq_t (zl4) c1).trans k
  · rw [if_neg c1] at k
    refine (zr_if_eq_n (zl4) c1).trans ?_
    refine (zr_aload (v := zf b l1) rfl (zf_tA h _)).trans ?_
    refine (zr_gfr h (tr_fl_y zl1)).trans ?_
    refine (zr_iload (v := enc l3) rfl (enc_lt _)).trans ?_
    by_cases c2 : 0 ≤ l3 ∧ l3 < 16
    · rw [if_pos c2] at k
      refine (zr_iald h (ta_fl_y zl1) c2.1 (by have := c2.2; omega)).trans ?_
      exact (zr_goto).trans k
    · rw [if_neg c2] at k; cases k
theorem zs_78_51 (h : zOk b n f) {l1 : Nat} {l2 : Int} {l3 : Int} {l4 : Int} {l5 : Nat} {l6 : Nat} {l7 : Nat} {l8 : Nat} (zl1 : zI_fl l1) (zl2 : zR l2) (zl3 : zR l3) (zl4 : zR l4) (zl5 : ex_c2 l5 = false ∧ l5 < 1099511627776) (zl6 : ex_c2 l6 = false ∧ l6 < 1099511627776) (zl7 : ex_c2 l7 = false ∧ l7 < 1099511627776) (zl8 : ex_c2 l8 = false ∧ l8 < 1099511627776) (k : (if 0 ≤ l3 ∧ l3 < 16 then k78_57 V ST d (zCl AL V ST ex_km d) (zRn AL V ST ex_km d kt_78) (zP [zf b 61, zf b l1, enc l2, enc l3, enc l4, l5, l6, l7, l8]) [enc (nz (g (l1 + 1) l3))] (zM n (zWf b f g)) else none) = some r) : k78_51 V ST d (zCl AL V ST ex_km d) (zRn AL V ST ex_km d kt_78) (zP [zf b 61, zf b l1, enc l2, enc l3, enc l4, l5, l6, l7, l8]) [] (zM n (zWf b f g)) = some r := by
  unfold k78_51
  refine (zr_aload (v := zf b l1) rfl (zf_tA h _)).trans ?_
  refine (zr_gfr h (tr_fl_x zl1)).trans ?_
  refine (zr_iload (v := enc l3) rfl (enc_lt _)).trans ?_
  by_cases c1 : 0 ≤ l3 ∧ l3 < 16
  · rw [if_pos c1] at k
    refine (zr_iald h (ta_fl_x zl1) c1.1 (by have := c1.2; omega)).trans ?_
    exact k
  · rw [if_neg c1] at k; cases k
theorem zs_78_33 (h : zOk b n f) {l1 : Nat} {l2 : Int} {l3 : Int} {l4 : Nat} {l5 : Nat} {l6 : Nat} {l7 : Nat} {l8 : Nat} {s0 : Int} (zl1 : zI_fl l1) (zl2 : zR l2) (zl3 : zR l3) (zl4 : ex_c2 l4 = false ∧ l4 < 1099511627776) (zl5 : ex_c2 l5 = false ∧ l5 < 1099511627776) (zl6 : ex_c2 l6 = false ∧ l6 < 1099511627776) (zl7 : ex_c2 l7 = false ∧ l7 < 1099511627776) (zl8 : ex_c2 l8 = false ∧ l8 < 1099511627776) (zs0 : zR s0) (k : (if s0 = 0 then zRn AL V ST ex_km d kt_78 51 (zP [zf b 61, zf b l1, enc l2, enc l3, enc s0, l5, l6, l7, l8]) [] (zM n (zWf b f g)) else (if 0 ≤ l3 ∧ l3 < 16 then zRn AL V ST ex_km d kt_78 57 (zP [zf b 61, zf b l1, enc l2, enc l3, enc s0, l5, l6, l7, l8]) [enc (nz ((nz (g (l1 + 1) l3)) + 2))] (zM n (zWf b f g)) else none)) = some r) : k78_33 V ST d (zCl AL V ST ex_km d) (zRn AL V ST ex_km d kt_78) (zP [zf b 61, zf b l1, enc l2, enc l3, l4, l5, l6, l7, l8]) [enc s0] (zM n (zWf b f g)) = some r := by
  unfold k78_33
  refine (zr_istore (w := enc l3) (vs' := [zf b 61, zf b l1, enc l2, enc l3, enc s0, l5, l6, l7, l8]) rfl (enc_c2 _) (Nat.lt_trans (enc_lt _) (by decide)) (by decide) rfl (enc_lt _)).trans ?_
  refine (zr_iload (v := enc s0) rfl (enc_lt _)).trans ?_
  by_cases c1 : s0 = 0
  · rw [if_pos c1] at k
    exact (zr_if_eq_t (zs0) c1).trans k
  · rw [if_neg c1] at k
    refine (zr_if_eq_n (zs0) c1).trans ?_
    refine (zr_aload (v := zf b l1) rfl (zf_tA h _)).trans ?_
    refine (zr_gfr h (tr_fl_x zl1)).trans ?_
    refine (zr_iload (v := enc l3) rfl (enc_lt _)).trans ?_
    by_cases c2 : 0 ≤ l3 ∧ l3 < 16
    · rw [if_pos c2] at k
      refine (zr_iald h (ta_fl_x zl1) c2.1 (by have := c2.2; omega)).trans ?_
      refine (zr_pshi 2 rfl).trans ?_
      refine (zr_iadd).trans ?_
      exact (zr_goto).trans k
    · rw [if_neg c2] at k; cases k
theorem zs_78_32 (h : zOk b n f) {l1 : Nat} {l2 : Int} {l3 : Int} {l4 : Nat} {l5 : Nat} {l6 : Nat} {l7 : Nat} {l8 : Nat} (zl1 : zI_fl l1) (zl2 : zR l2) (zl3 : zR l3) (zl4 : ex_c2 l4 = false ∧ l4 < 1099511627776) (zl5 : ex_c2 l5 = false ∧ l5 < 1099511627776) (zl6 : ex_c2 l6 = false ∧ l6 < 1099511627776) (zl7 : ex_c2 l7 = false ∧ l7 < 1099511627776) (zl8 : ex_c2 l8 = false ∧ l8 < 1099511627776) (k : k78_33 V ST d (zCl AL V ST ex_km d) (zRn AL V ST ex_km d kt_78) (zP [zf b 61, zf b l1, enc l2, enc l3, l4, l5, l6, l7, l8]) [enc 0] (zM n (zWf b f g)) = some r) : k78_32 V ST d (zCl AL V ST ex_km d) (zRn AL V ST ex_km d kt_78) (zP [zf b 61, zf b l1, enc l2, enc l3, l4, l5, l6, l7, l8]) [] (zM n (zWf b f g)) = some r := by
  unfold k78_32
  refine (zr_pshi 0 rfl).trans ?_
  exact k
theorem zs_78_2 (h : zOk b n f) {l1 : Nat} {l2 : Int} {l3 : Nat} {l4 : Nat} {l5 : Nat} {l6 : Nat} {l7 : Nat} {l8 : Nat} (zl1 : zI_fl l1) (zl2 : zR l2) (zl3 : ex_c2 l3 = false ∧ l3 < 1099511627776) (zl4 : ex_c2 l4 = false ∧ l4 < 1099511627776) (zl5 : ex_c2 l5 = false ∧ l5 < 1099511627776) (zl6 : ex_c2 l6 = false ∧ l6 < 1099511627776) (zl7 : ex_c2 l7 = false ∧ l7 < 1099511627776) (zl8 : ex_c2 l8 = false ∧ l8 < 1099511627776) (k : (if l2 < nz (g l1 14) then (if 0 ≤ l2 ∧ l2 < 16 then (if 0 ≤ nz (g 64 l2) ∧ nz (g 64 l2) < 16 then (if nz (Int.tmod (nz (g (l1 + 3) (nz (g 64 l2)))) 2) = 0 then zRn AL V ST ex_km d kt_78 32 (zP [zf b 61, zf b l1, enc l2, enc (nz (g 64 l2)), l4, l5, l6, l7, l8]) [] (zM n (zWf b f g)) else zRn AL V ST ex_km d kt_78 33 (zP [zf b 61, zf b l1, enc l2, enc (nz (g 64 l2)), l4, l5, l6, l7, l8]) [enc 1] (zM n (zWf b f g))) else none) else none) else zRn AL V ST ex_km d kt_78 206 (zP [zf b 61, zf b l1, enc l2, l3, l4, l5, l6, l7, l8]) [] (zM n (zWf b f g))) = some r) : k78_2 V ST d (zCl AL V ST ex_km d) (zRn AL V ST ex_km d kt_78) (zP [zf b 61, zf b l1, enc l2, l3, l4, l5, l6, l7, l8]) [] (zM n (zWf b f g)) = some r := by
  unfold k78_2
  refine (zr_iload (v := enc l2) rfl (enc_lt _)).trans ?_
  refine (zr_aload (v := zf b l1) rfl (zf_tA h _)).trans ?_
  refine (zr_gfi h (ti_fl_count zl1)).trans ?_
  by_cases c1 : l2 < nz (g l1 14)
  · rw [if_pos c1] at k
    refine (zr_icmp_ge_n (zl2) (nz_R _) c1).trans ?_
    refine (zr_aload (v := zf b 61) rfl (zf_tA h _)).trans ?_
    refine (zr_gfr h (tr_st_order rfl)).trans ?_
    refine (zr_iload (v := enc l2) rfl (enc_lt _)).trans ?_
    by_cases c2 : 0 ≤ l2 ∧ l2 < 16
    · rw [if_pos c2] at k
      refine (zr_iald h (ta_st_order rfl) c2.1 (by have := c2.2; omega)).trans ?_
      refine (zr_istore (w := enc l2) (vs' := [zf b 61, zf b l1, enc l2, enc (nz (g 64 l2)), l4, l5, l6, l7, l8]) rfl (enc_c2 _) (Nat.lt_trans (enc_lt _) (by decide)) (by decide) rfl (enc_lt _)).trans ?_
      refine (zr_aload (v := zf b l1) rfl (zf_tA h _)).trans ?_
      refine (zr_gfr h (tr_fl_f zl1)).trans ?_
      refine (zr_iload (v := enc (nz (g 64 l2))) rfl (enc_lt _)).trans ?_
      by_cases c3 : 0 ≤ nz (g 64 l2) ∧ nz (g 64 l2) < 16
      · rw [if_pos c3] at k
        refine (zr_iald h (ta_fl_f zl1) c3.1 (by have := c3.2; omega)).trans ?_
        refine (zr_pshi 2 rfl).trans ?_
        refine (zr_rem (nz_R _) ((by unfold zR; omega)) (by decide)).trans ?_
        by_cases c4 : nz (Int.tmod (nz (g (l1 + 3) (nz (g 64 l2)))) 2) = 0
        · rw [if_pos c4] at k
          exact (zr_if_eq_t (nz_R _) c4).trans k
        · rw [if_neg c4] at k
          refine (zr_if_eq_n (nz_R _) c4).trans ?_
          refine (zr_pshi 1 rfl).trans ?_
          exact (zr_goto).trans k
      · rw [if_neg c3] at k; cases k
    · rw [if_neg c2] at k; cases k
  · rw [if_neg c1] at k
    exact (zr_icmp_ge_t (zl2) (nz_R _) (Int.not_lt.mp c1)).trans k
theorem zs_78_0 (h : zOk b n f) {l1 : Nat} (zl1 : zI_fl l1) (k : k78_2 V ST d (zCl AL V ST ex_km d) (zRn AL V ST ex_km d kt_78) (zP [zf b 61, zf b l1, enc 0, 137438953472, 137438953472, 137438953472, 137438953472, 137438953472, 137438953472]) [] (zM n (zWf b f g)) = some r) : k78_0 V ST d (zCl AL V ST ex_km d) (zRn AL V ST ex_km d kt_78) (zP [zf b 61, zf b l1, 137438953472, 137438953472, 137438953472, 137438953472, 137438953472, 137438953472, 137438953472]) [] (zM n (zWf b f g)) = some r := by
  unfold k78_0
  refine (zr_pshi 0 rfl).trans ?_
  refine (zr_istore (w := zf b l1) (vs' := [zf b 61, zf b l1, enc 0, 137438953472, 137438953472, 137438953472, 137438953472, 137438953472, 137438953472]) rfl (zf_c2 h _) (Nat.lt_trans (zf_l h _) (by decide)) (by decide) rfl (enc_lt _)).trans ?_
  exact k
theorem zs_79_119 (h : zOk b n f) {l1 : Nat} {l2 : Int} {l3 : Nat} {l4 : Nat} {l5 : Nat} {l6 : Nat} (zl1 : zI_fl l1) (zl2 : zR l2) (zl3 : ex_c2 l3 = false ∧ l3 < 1099511627776) (zl4 : ex_c2 l4 = false ∧ l4 < 1099511627776) (zl5 : ex_c2 l5 = false ∧ l5 < 1099511627776) (zl6 : ex_c2 l6 = false ∧ l6 < 1099511627776) (k : some (137438953473, (zM n (zWf b f g))) = some r) : k79_119 V ST d (zCl AL V ST ex_km d) (zRn AL V ST ex_km d kt_79) (zP [zf b 61, zf b l1, enc l2, l3, l4, l5, l6]) [] (zM n (zWf b f g)) = some r := by
  unfold k79_119
  exact zr_return.trans k
theorem zs_79_113 (h : zOk b n f) {l1 : Nat} {l2 : Int} {l3 : Int} {l4 : Int} {l5 : Int} {l6 : Int} (zl1 : zI_fl l1) (zl2 : zR l2) (zl3 : zR l3) (zl4 : zR l4) (zl5 : zR l5) (zl6 : zR l6) (k : zRn AL V ST ex_km d kt_79 2 (zP [zf b 61, zf b l1, enc (nz (l2 + 1)), enc l3, enc l4, enc l5, enc l6]) [] (zM n (zWf b f g)) = some r) : k79_113 V ST d (zCl AL V ST ex_km d) (zRn AL V ST ex_km d kt_79) (zP [zf b 61, zf b l1, enc l2, enc l3, enc l4, enc l5, enc l6]) [] (zM n (zWf b f g)) = some r := by
  unfold k79_113
  refine (zr_iinc (w := zf b l1) (x := l2) (i' := 1) (vs' := [zf b 61, zf b l1, enc (nz (l2 + 1)), enc l3, enc l4, enc l5, enc l6]) rfl (zf_c2 h _) (Nat.lt_trans (zf_l h _) (by decide)) rfl rfl (by decide) rfl).trans ?_
  exact (zr_goto).trans k
theorem zs_79_105 (h : zOk b n f) {l1 : Nat} {l2 : Int} {l3 : Int} {l4 : Int} {l5 : Int} {l6 : Int} (zl1 : zI_fl l1) (zl2 : zR l2) (zl3 : zR l3) (zl4 : zR l4) (zl5 : zR l5) (zl6 : zR l6) (k : zTh (zCl AL V ST ex_km d 82 [zf b 61, zf b l1, enc l6, enc l3] (zM n (zWf b f g))) (zM n (zWf b f g)) [] (fun S M => k79_113 V ST d (zCl AL V ST ex_km d) (zRn AL V ST ex_km d kt_79) (zP [zf b 61, zf b l1, enc l2, enc l3, enc l4, enc l5, enc l6]) S M) = some r) : k79_105 V ST d (zCl AL V ST ex_km d) (zRn AL V ST ex_km d kt_79) (zP [zf b 61, zf b l1, enc l2, enc l3, enc l4, enc l5, enc l6]) [] (zM n (zWf b f g)) = some r := by
  unfold k79_105
  refine (zr_aload (v := zf b 61) rfl (zf_tA h _)).trans ?_
  refine (zr_aload (v := zf b l1) rfl (zf_tA h _)).trans ?_
  refine (zr_iload (v := enc l6) rfl (enc_lt _)).trans ?_
  refine (zr_iload (v := enc l3) rfl (enc_lt _)).trans ?_
  refine zr_invV h [enc l3, enc l6, zf b l1] rfl (tk_st rfl) (zA_cons (enc_l _) (zA_cons (enc_l _) (zA_cons (zf_l h _) zA_nil))) (zA_nil) (by decide) ?_
  exact k
theorem zs_79_97 (h : zOk b n f) {l1 : Nat} {l2 : Int} {l3 : Int} {l4 : Int} {l5 : Int} {l6 : Int} (zl1 : zI_fl l1) (zl2 : zR l2) (zl3 : zR l3) (zl4 : zR l4) (zl5 : zR l5) (zl6 : zR l6) (k : zTh (zCl AL V ST ex_km d 82 [zf b 61, zf b l1, enc l5, enc l3] (zM n (zWf b f g))) (zM n (zWf b f g)) [] (fun S M => k79_105 V ST d (zCl AL V ST ex_km d) (zRn AL V ST ex_km d kt_79) (zP [zf b 61, zf b l1, enc l2, enc l3, enc l4, enc l5, enc l6]) S M) = some r) : k79_97 V ST d (zCl AL V ST ex_km d) (zRn AL V ST ex_km d kt_79) (zP [zf b 61, zf b l1, enc l2, enc l3, enc l4, enc l5, enc l6]) [] (zM n (zWf b f g)) = some r := by
  unfold k79_97
  refine (zr_aload (v := zf b 61) rfl (zf_tA h _)).trans ?_
  refine (zr_aload (v := zf b l1) rfl (zf_tA h _)).trans ?_
  refine (zr_iload (v := enc l5) rfl (enc_lt _)).trans ?_
  refine (zr_iload (v := enc l3) rfl (enc_lt _)).trans ?_
  refine zr_invV h [enc l3, enc l5, zf b l1] rfl (tk_st rfl) (zA_cons (enc_l _) (zA_cons (enc_l _) (zA_cons (zf_l h _) zA_nil))) (zA_nil) (by decide) ?_
  exact k
theorem zs_79_89 (h : zOk b n f) {l1 : Nat} {l2 : Int} {l3 : Int} {l4 : Int} {l5 : Int} {l6 : Int} (zl1 : zI_fl l1) (zl2 : zR l2) (zl3 : zR l3) (zl4 : zR l4) (zl5 : zR l5) (zl6 : zR l6) (k : zTh (zCl AL V ST ex_km d 82 [zf b 61, zf b l1, enc l4, enc l3] (zM n (zWf b f g))) (zM n (zWf b f g)) [] (fun S M => k79_97 V ST d (zCl AL V ST ex_km d) (zRn AL V ST ex_km d kt_79) (zP [zf b 61, zf b l1, enc l2, enc l3, enc l4, enc l5, enc l6]) S M) = some r) : k79_89 V ST d (zCl AL V ST ex_km d) (zRn AL V ST ex_km d kt_79) (zP [zf b 61, zf b l1, enc l2, enc l3, enc l4, enc l5, enc l6]) [] (zM n (zWf b f g)) = some r := by
  unfold k79_89
  refine (zr_aload (v := zf b 61) rfl (zf_tA h _)).trans ?_
  refine (zr_aload (v := zf b l1) rfl (zf_tA h _)).trans ?_
  refine (zr_iload (v := enc l4) rfl (enc_lt _)).trans ?_
  refine (zr_iload (v := enc l3) rfl (enc_lt _)).trans ?_
  refine zr_invV h [enc l3, enc l4, zf b l1] rfl (tk_st rfl) (zA_cons (enc_l _) (zA_cons (enc_l _) (zA_cons (zf_l h _) zA_nil))) (zA_nil) (by decide) ?_
  exact k
theorem zs_79_64 (h : zOk b n f) {l1 : Nat} {l2 : Int} {l3 : Int} {l4 : Int} {l5 : Int} {l6 : Int} {s0 : Int} (zl1 : zI_fl l1) (zl2 : zR l2) (zl3 : zR l3) (zl4 : zR l4) (zl5 : zR l5) (zl6 : zR l6) (zs0 : zR s0) (k : (if s0 = 0 then zRn AL V ST ex_km d kt_79 113 (zP [zf b 61, zf b l1, enc l2, enc l3, enc l4, enc l5, enc l6]) [] (zM n (zWf b f g)) else (if l4 < 0 then zRn AL V ST ex_km d kt_79 113 (zP [zf b 61, zf b l1, enc l2, enc l3, enc l4, enc l5, enc l6]) [] (zM n (zWf b f g)) else (if l5 < 0 then zRn AL V ST ex_km d kt_79 113 (zP [zf b 61, zf b l1, enc l2, enc l3, enc l4, enc l5, enc l6]) [] (zM n (zWf b f g)) else (if l6 < 0 then zRn AL V ST ex_km d kt_79 113 (zP [zf b 61, zf b l1, enc l2, enc l3, enc l4, enc l5, enc l6]) [] (zM n (zWf b f g)) else zTh (zCl AL V ST ex_km d 82 [zf b 61, zf b l1, enc l3, enc l3] (zM n (zWf b f g))) (zM n (zWf b f g)) [] (fun S M => k79_89 V ST d (zCl AL V ST ex_km d) (zRn AL V ST ex_km d kt_79) (zP [zf b 61, zf b l1, enc l2, enc l3, enc l4, enc l5, enc l6]) S M))))) = some r) : k79_64 V ST d (zCl AL V ST ex_km d) (zRn AL V ST ex_km d kt_79) (zP [zf b 61, zf b l1, enc l2, enc l3, enc l4, enc l5, enc l6]) [enc s0] (zM n (zWf b f g)) = some r := by
  unfold k79_64
  by_cases c1 : s0 = 0
  · rw [if_pos c1] at k
    exact (zr_if_eq_t (zs0) c1).trans k
  · rw [if_neg c1] at k
    refine (zr_if_eq_n (zs0) c1).trans ?_
    refine (zr_iload (v := enc l4) rfl (enc_lt _)).trans ?_
    by_cases c2 : l4 < 0
    · rw [if_pos c2] at k
      exact (zr_if_lt_t (zl4) c2).trans k
    · rw [if_neg c2] at k
      refine (zr_if_lt_n (zl4) (Int.not_lt.mp c2)).trans ?_
      refine (zr_iload (v := enc l5) rfl (enc_lt _)).trans ?_
      by_cases c3 : l5 < 0
      · rw [if_pos c3] at k
        exact (zr_if_lt_t (zl5) c3).trans k
      · rw [if_neg c3] at k
        refine (zr_if_lt_n (zl5) (Int.not_lt.mp c3)).trans ?_
        refine (zr_iload (v := enc l6) rfl (enc_lt _)).trans ?_
        by_cases c4 : l6 < 0
        · rw [if_pos c4] at k
          exact (zr_if_lt_t (zl6) c4).trans k
        · rw [if_neg c4] at k
          refine (zr_if_lt_n (zl6) (Int.not_lt.mp c4)).trans ?_
          refine (zr_aload (v := zf b 61) rfl (zf_tA h _)).trans ?_
          refine (zr_aload (v := zf b l1) rfl (zf_tA h _)).trans ?_
          refine (zr_iload (v := enc l3) rfl (enc_lt _)).trans ?_
          refine (zr_iload (v := enc l3) rfl (enc_lt _)).trans ?_
          refine zr_invV h [enc l3, enc l3, zf b l1] rfl (tk_st rfl) (zA_cons (enc_l _) (zA_cons (enc_l _) (zA_cons (zf_l h _) zA_nil))) (zA_nil) (by decide) ?_
          exact k
theorem zs_79_57 (h : zOk b n f) {l1 : Nat} {l2 : Int} {l3 : Int} {l4 : Int} {l5 : Int} {l6 : Nat} {s0 : Int} (zl1 : zI_fl l1) (zl2 : zR l2) (zl3 : zR l3) (zl4 : zR l4) (zl5 : zR l5) (zl6 : ex_c2 l6 = false ∧ l6 < 1099511627776) (zs0 : zR s0) (k : zTh (zCl AL V ST ex_km d 80 [zf b 61, enc l3] (zM n (zWf b f g))) (zM n (zWf b f g)) [] (fun S M => k79_64 V ST d (zCl AL V ST ex_km d) (zRn AL V ST ex_km d kt_79) (zP [zf b 61, zf b l1, enc l2, enc l3, enc l4, enc l5, enc s0]) S M) = some r) : k79_57 V ST d (zCl AL V ST ex_km d) (zRn AL V ST ex_km d kt_79) (zP [zf b 61, zf b l1, enc l2, enc l3, enc l4, enc l5, l6]) [enc s0] (zM n (zWf b f g)) = some r := by
  unfold k79_57
  refine (zr_istore (w := enc l5) (vs' := [zf b 61, zf b l1, enc l2, enc l3, enc l4, enc l5, enc s0]) rfl (enc_c2 _) (Nat.lt_trans (enc_lt _) (by decide)) (by decide) rfl (enc_lt _)).trans ?_
  refine (zr_aload (v := zf b 61) rfl (zf_tA h _)).trans ?_
  refine (zr_iload (v := enc l3) rfl (enc_lt _)).trans ?_
  refine zr_invV h [enc l3] rfl (tk_st rfl) (zA_cons (enc_l _) zA_nil) (zA_nil) (by decide) ?_
  exact k
theorem zs_79_41 (h : zOk b n f) {l1 : Nat} {l2 : Int} {l3 : Int} {l4 : Int} {l5 : Nat} {l6 : Nat} {s0 : Int} (zl1 : zI_fl l1) (zl2 : zR l2) (zl3 : zR l3) (zl4 : zR l4) (zl5 : ex_c2 l5 = false ∧ l5 < 1099511627776) (zl6 : ex_c2 l6 = false ∧ l6 < 1099511627776) (zs0 : zR s0) (k : zTh (zCl AL V ST ex_km d 81 [zf b 61, zf b l1, enc l3, enc (nz (g 61 9)), enc (nz (g 61 9))] (zM n (zWf b f g))) (zM n (zWf b f g)) [] (fun S M => k79_57 V ST d (zCl AL V ST ex_km d) (zRn AL V ST ex_km d kt_79) (zP [zf b 61, zf b l1, enc l2, enc l3, enc l4, enc s0, l6]) S M) = some r) : k79_41 V ST d (zCl AL V ST ex_km d) (zRn AL V ST ex_km d kt_79) (zP [zf b 61, zf b l1, enc l2, enc l3, enc l4, l5, l6]) [enc s0] (zM n (zWf b f g)) = some r := by
  unfold k79_41
  refine (zr_istore (w := enc l4) (vs' := [zf b 61, zf b l1, enc l2, enc l3, enc l4, enc s0, l6]) rfl (enc_c2 _) (Nat.lt_trans (enc_lt _) (by decide)) (by decide) rfl (enc_lt _)).trans ?_
  refine (zr_aload (v := zf b 61) rfl (zf_tA h _)).trans ?_
  refine (zr_aload (v := zf b l1) rfl (zf_tA h _)).trans ?_
  refine (zr_iload (v := enc l3) rfl (enc_lt _)).trans ?_
  refine (zr_aload (v := zf b 61) rfl (zf_tA h _)).trans ?_
  refine (zr_gfi h (ti_st_spacing rfl)).trans ?_
  refine (zr_aload (v := zf b 61) rfl (zf_tA h _)).trans ?_
  refine (zr_gfi h (ti_st_spacing rfl)).trans ?_
  refine zr_invV h [enc (nz (g 61 9)), enc (nz (g 61 9)), enc l3, zf b l1] rfl (tk_st rfl) (zA_cons (enc_l _) (zA_cons (enc_l _) (zA_cons (enc_l _) (zA_cons (zf_l h _) zA_nil)))) (zA_nil) (by decide) ?_
  exact k
theorem zs_79_28 (h : zOk b n f) {l1 : Nat} {l2 : Int} {l3 : Int} {l4 : Nat} {l5 : Nat} {l6 : Nat} {s0 : Int} (zl1 : zI_fl l1) (zl2 : zR l2) (zl3 : zR l3) (zl4 : ex_c2 l4 = false ∧ l4 < 1099511627776) (zl5 : ex_c2 l5 = false ∧ l5 < 1099511627776) (zl6 : ex_c2 l6 = false ∧ l6 < 1099511627776) (zs0 : zR s0) (k : zTh (zCl AL V ST ex_km d 81 [zf b 61, zf b l1, enc l3, enc (nz (g 61 9)), enc 0] (zM n (zWf b f g))) (zM n (zWf b f g)) [] (fun S M => k79_41 V ST d (zCl AL V ST ex_km d) (zRn AL V ST ex_km d kt_79) (zP [zf b 61, zf b l1, enc l2, enc l3, enc s0, l5, l6]) S M) = some r) : k79_28 V ST d (zCl AL V ST ex_km d) (zRn AL V ST ex_km d kt_79) (zP [zf b 61, zf b l1, enc l2, enc l3, l4, l5, l6]) [enc s0] (zM n (zWf b f g)) = some r := by
  unfold k79_28
  refine (zr_istore (w := enc l3) (vs' := [zf b 61, zf b l1, enc l2, enc l3, enc s0, l5, l6]) rfl (enc_c2 _) (Nat.lt_trans (enc_lt _) (by decide)) (by decide) rfl (enc_lt _)).trans ?_
  refine (zr_aload (v := zf b 61) rfl (zf_tA h _)).trans ?_
  refine (zr_aload (v := zf b l1) rfl (zf_tA h _)).trans ?_
  refine (zr_iload (v := enc l3) rfl (enc_lt _)).trans ?_
  refine (zr_aload (v := zf b 61) rfl (zf_tA h _)).trans ?_
  refine (zr_gfi h (ti_st_spacing rfl)).trans ?_
  refine (zr_pshi 0 rfl).trans ?_
  refine zr_invV h [enc 0, enc (nz (g 61 9)), enc l3, zf b l1] rfl (tk_st rfl) (zA_cons (enc_l _) (zA_cons (enc_l _) (zA_cons (enc_l _) (zA_cons (zf_l h _) zA_nil)))) (zA_nil) (by decide) ?_
  exact k
theorem zs_79_2 (h : zOk b n f) {l1 : Nat} {l2 : Int} {l3 : Nat} {l4 : Nat} {l5 : Nat} {l6 : Nat} (zl1 : zI_fl l1) (zl2 : zR l2) (zl3 : ex_c2 l3 = false ∧ l3 < 1099511627776) (zl4 : ex_c2 l4 = false ∧ l4 < 1099511627776) (zl5 : ex_c2 l5 = false ∧ l5 < 1099511627776) (zl6 : ex_c2 l6 = false ∧ l6 < 1099511627776) (k : (if l2 < nz (g l1 14) then (if 0 ≤ l2 ∧ l2 < 16 then zTh (zCl AL V ST ex_km d 81 [zf b 61, zf b l1, enc (nz (g 64 l2)), enc 0, enc (nz (g 61 9))] (zM n (zWf b f g))) (zM n (zWf b f g)) [] (fun S M => k79_28 V ST d (zCl AL V ST ex_km d) (zRn AL V ST ex_km d kt_79) (zP [zf b 61, zf b l1, enc l2, enc (nz (g 64 l2)), l4, l5, l6]) S M) else none) else zRn AL V ST ex_km d kt_79 119 (zP [zf b 61, zf b l1, enc l2, l3, l4, l5, l6]) [] (zM n (zWf b f g))) = some r) : k79_2 V ST d (zCl AL V ST ex_km d) (zRn AL V ST ex_km d kt_79) (zP [zf b 61, zf b l1, enc l2, l3, l4, l5, l6]) [] (zM n (zWf b f g)) = some r := by
  unfold k79_2
  refine (zr_iload (v := enc l2) rfl (enc_lt _)).trans ?_
  refine (zr_aload (v := zf b l1) rfl (zf_tA h _)).trans ?_
  refine (zr_gfi h (ti_fl_count zl1)).trans ?_
  by_cases c1 : l2 < nz (g l1 14)
  · rw [if_pos c1] at k
    refine (zr_icmp_ge_n (zl2) (nz_R _) c1).trans ?_
    refine (zr_aload (v := zf b 61) rfl (zf_tA h _)).trans ?_
    refine (zr_gfr h (tr_st_order rfl)).trans ?_
    refine (zr_iload (v := enc l2) rfl (enc_lt _)).trans ?_
    by_cases c2 : 0 ≤ l2 ∧ l2 < 16
    · rw [if_pos c2] at k
      refine (zr_iald h (ta_st_order rfl) c2.1 (by have := c2.2; omega)).trans ?_
      refine (zr_istore (w := enc l2) (vs' := [zf b 61, zf b l1, enc l2, enc (nz (g 64 l2)), l4, l5, l6]) rfl (enc_c2 _) (Nat.lt_trans (enc_lt _) (by decide)) (by decide) rfl (enc_lt _)).trans ?_
      refine (zr_aload (v := zf b 61) rfl (zf_tA h _)).trans ?_
      refine (zr_aload (v := zf b l1) rfl (zf_tA h _)).trans ?_
      refine (zr_iload (v := enc (nz (g 64 l2))) rfl (enc_lt _)).trans ?_
      refine (zr_pshi 0 rfl).trans ?_
      refine (zr_aload (v := zf b 61) rfl (zf_tA h _)).trans ?_
      refine (zr_gfi h (ti_st_spacing rfl)).trans ?_
      refine zr_invV h [enc (nz (g 61 9)), enc 0, enc (nz (g 64 l2)), zf b l1] rfl (tk_st rfl) (zA_cons (enc_l _) (zA_cons (enc_l _) (zA_cons (enc_l _) (zA_cons (zf_l h _) zA_nil)))) (zA_nil) (by decide) ?_
      exact k
    · rw [if_neg c2] at k; cases k
  · rw [if_neg c1] at k
    exact (zr_icmp_ge_t (zl2) (nz_R _) (Int.not_lt.mp c1)).trans k
theorem zs_79_0 (h : zOk b n f) {l1 : Nat} (zl1 : zI_fl l1) (k : k79_2 V ST d (zCl AL V ST ex_km d) (zRn AL V ST ex_km d kt_79) (zP [zf b 61, zf b l1, enc 0, 137438953472, 137438953472, 137438953472, 137438953472]) [] (zM n (zWf b f g)) = some r) : k79_0 V ST d (zCl AL V ST ex_km d) (zRn AL V ST ex_km d kt_79) (zP [zf b 61, zf b l1, 137438953472, 137438953472, 137438953472, 137438953472, 137438953472]) [] (zM n (zWf b f g)) = some r := by
  unfold k79_0
  refine (zr_pshi 0 rfl).trans ?_
  refine (zr_istore (w := zf b l1) (vs' := [zf b 61, zf b l1, enc 0, 137438953472, 137438953472, 137438953472, 137438953472]) rfl (zf_c2 h _) (Nat.lt_trans (zf_l h _) (by decide)) (by decide) rfl (enc_lt _)).trans ?_
  exact k
theorem zs_80_32 (h : zOk b n f) {l1 : Int} {s0 : Int} (zl1 : zR l1) (zs0 : zR s0) (k : (if s0 = 0 ∨ s0 = 1 then some (enc s0, (zM n (zWf b f g))) else none) = some r) : k80_32 V ST d (zCl AL V ST ex_km d) (zRn AL V ST ex_km d kt_80) (zP [zf b 61, enc l1]) [enc s0] (zM n (zWf b f g)) = some r := by
  unfold k80_32
  by_cases c1 : s0 = 0 ∨ s0 = 1
  · rw [if_pos c1] at k
    exact (zr_breturn c1).trans k
  · rw [if_neg c1] at k; cases k
theorem zs_80_31 (h : zOk b n f) {l1 : Int} (zl1 : zR l1) (k : k80_32 V ST d (zCl AL V ST ex_km d) (zRn AL V ST ex_km d kt_80) (zP [zf b 61, enc l1]) [enc 0] (zM n (zWf b f g)) = some r) : k80_31 V ST d (zCl AL V ST ex_km d) (zRn AL V ST ex_km d kt_80) (zP [zf b 61, enc l1]) [] (zM n (zWf b f g)) = some r := by
  unfold k80_31
  refine (zr_pshi 0 rfl).trans ?_
  exact k
theorem zs_80_0 (h : zOk b n f) {l1 : Int} (zl1 : zR l1) (k : (if 0 ≤ l1 ∧ l1 < 16 then (if nz (g 63 l1) = 0 then zRn AL V ST ex_km d kt_80 31 (zP [zf b 61, enc l1]) [] (zM n (zWf b f g)) else (if 0 ≤ l1 ∧ l1 < 16 then (if nz (g 68 l1) = 0 then (if 0 ≤ l1 ∧ l1 < 16 then (if nz (g 65 l1) < 0 then zRn AL V ST ex_km d kt_80 31 (zP [zf b 61, enc l1]) [] (zM n (zWf b f g)) else zRn AL V ST ex_km d kt_80 32 (zP [zf b 61, enc l1]) [enc 1] (zM n (zWf b f g))) else none) else zRn AL V ST ex_km d kt_80 31 (zP [zf b 61, enc l1]) [] (zM n (zWf b f g))) else none)) else none) = some r) : k80_0 V ST d (zCl AL V ST ex_km d) (zRn AL V ST ex_km d kt_80) (zP [zf b 61, enc l1]) [] (zM n (zWf b f g)) = some r := by
  unfold k80_0
  refine (zr_aload (v := zf b 61) rfl (zf_tA h _)).trans ?_
  refine (zr_gfr h (tr_st_isDancing rfl)).trans ?_
  refine (zr_iload (v := enc l1) rfl (enc_lt _)).trans ?_
  by_cases c1 : 0 ≤ l1 ∧ l1 < 16
  · rw [if_pos c1] at k
    refine (zr_bald h (ta_st_isDancing rfl) c1.1 (by have := c1.2; omega)).trans ?_
    by_cases c2 : nz (g 63 l1) = 0
    · rw [if_pos c2] at k
      exact (zr_if_eq_t (nz_R _) c2).trans k
    · rw [if_neg c2] at k
      refine (zr_if_eq_n (nz_R _) c2).trans ?_
      refine (zr_aload (v := zf b 61) rfl (zf_tA h _)).trans ?_
      refine (zr_gfr h (tr_st_isBoxed rfl)).trans ?_
      refine (zr_iload (v := enc l1) rfl (enc_lt _)).trans ?_
      by_cases c3 : 0 ≤ l1 ∧ l1 < 16
      · rw [if_pos c3] at k
        refine (zr_bald h (ta_st_isBoxed rfl) c3.1 (by have := c3.2; omega)).trans ?_
        by_cases c4 : nz (g 68 l1) = 0
        · rw [if_pos c4] at k
          refine (zr_if_ne_n (nz_R _) c4).trans ?_
          refine (zr_aload (v := zf b 61) rfl (zf_tA h _)).trans ?_
          refine (zr_gfr h (tr_st_zone rfl)).trans ?_
          refine (zr_iload (v := enc l1) rfl (enc_lt _)).trans ?_
          by_cases c5 : 0 ≤ l1 ∧ l1 < 16
          · rw [if_pos c5] at k
            refine (zr_iald h (ta_st_zone rfl) c5.1 (by have := c5.2; omega)).trans ?_
            by_cases c6 : nz (g 65 l1) < 0
            · rw [if_pos c6] at k
              exact (zr_if_lt_t (nz_R _) c6).trans k
            · rw [if_neg c6] at k
              refine (zr_if_lt_n (nz_R _) (Int.not_lt.mp c6)).trans ?_
              refine (zr_pshi 1 rfl).trans ?_
              exact (zr_goto).trans k
          · rw [if_neg c5] at k; cases k
        · rw [if_neg c4] at k
          exact (zr_if_ne_t (nz_R _) c4).trans k
      · rw [if_neg c3] at k; cases k
  · rw [if_neg c1] at k; cases k
theorem zs_81_92 (h : zOk b n f) {l1 : Nat} {l2 : Int} {l3 : Int} {l4 : Int} {l5 : Int} {l6 : Nat} (zl1 : zI_fl l1) (zl2 : zR l2) (zl3 : zR l3) (zl4 : zR l4) (zl5 : zR l5) (zl6 : ex_c2 l6 = false ∧ l6 < 1099511627776) (k : some (enc (-1), (zM n (zWf b f g))) = some r) : k81_92 V ST d (zCl AL V ST ex_km d) (zRn AL V ST ex_km d kt_81) (zP [zf b 61, zf b l1, enc l2, enc l3, enc l4, enc l5, l6]) [] (zM n (zWf b f g)) = some r := by
  unfold k81_92
  refine (zr_pshi (-1) rfl).trans ?_
  exact zr_ireturn.trans k
theorem zs_81_86 (h : zOk b n f) {l1 : Nat} {l2 : Int} {l3 : Int} {l4 : Int} {l5 : Int} {l6 : Int} (zl1 : zI_fl l1) (zl2 : zR l2) (zl3 : zR l3) (zl4 : zR l4) (zl5 : zR l5) (zl6 : zR l6) (k : zRn AL V ST ex_km d kt_81 3 (zP [zf b 61, zf b l1, enc l2, enc l3, enc l4, enc (nz (l5 + 1)), enc l6]) [] (zM n (zWf b f g)) = some r) : k81_86 V ST d (zCl AL V ST ex_km d) (zRn AL V ST ex_km d kt_81) (zP [zf b 61, zf b l1, enc l2, enc l3, enc l4, enc l5, enc l6]) [] (zM n (zWf b f g)) = some r := by
  unfold k81_86
  refine (zr_iinc (w := enc l4) (x := l5) (i' := 1) (vs' := [zf b 61, zf b l1, enc l2, enc l3, enc l4, enc (nz (l5 + 1)), enc l6]) rfl (enc_c2 _) (Nat.lt_trans (enc_lt _) (by decide)) rfl rfl (by decide) rfl).trans ?_
  exact (zr_goto).trans k
theorem zs_81_27 (h : zOk b n f) {l1 : Nat} {l2 : Int} {l3 : Int} {l4 : Int} {l5 : Int} {l6 : Int} {s0 : Int} (zl1 : zI_fl l1) (zl2 : zR l2) (zl3 : zR l3) (zl4 : zR l4) (zl5 : zR l5) (zl6 : zR l6) (zs0 : zR s0) (k : (if s0 = 0 then zRn AL V ST ex_km d kt_81 86 (zP [zf b 61, zf b l1, enc l2, enc l3, enc l4, enc l5, enc l6]) [] (zM n (zWf b f g)) else (if 0 ≤ l6 ∧ l6 < 16 then (if 0 ≤ l2 ∧ l2 < 16 then (if nz (g 65 l6) = nz (g 65 l2) then (if 0 ≤ l6 ∧ l6 < 16 then (if 0 ≤ l2 ∧ l2 < 16 then (if nz (g (l1 + 1) l6) = nz ((nz (g (l1 + 1) l2)) + l3) then (if 0 ≤ l6 ∧ l6 < 16 then (if 0 ≤ l2 ∧ l2 < 16 then (if nz (g (l1 + 2) l6) = nz ((nz (g (l1 + 2) l2)) + l4) then some (enc l6, (zM n (zWf b f g))) else zRn AL V ST ex_km d kt_81 86 (zP [zf b 61, zf b l1, enc l2, enc l3, enc l4, enc l5, enc l6]) [] (zM n (zWf b f g))) else none) else none) else zRn AL V ST ex_km d kt_81 86 (zP [zf b 61, zf b l1, enc l2, enc l3, enc l4, enc l5, enc l6]) [] (zM n (zWf b f g))) else none) else none) else zRn AL V ST ex_km d kt_81 86 (zP [zf b 61, zf b l1, enc l2, enc l3, enc l4, enc l5, enc l6]) [] (zM n (zWf b f g))) else none) else none)) = some r) : k81_27 V ST d (zCl AL V ST ex_km d) (zRn AL V ST ex_km d kt_81) (zP [zf b 61, zf b l1, enc l2, enc l3, enc l4, enc l5, enc l6]) [enc s0] (zM n (zWf b f g)) = some r := by
  unfold k81_27
  by_cases c1 : s0 = 0
  · rw [if_pos c1] at k
    exact (zr_if_eq_t (zs0) c1).trans k
  · rw [if_neg c1] at k
    refine (zr_if_eq_n (zs0) c1).trans ?_
    refine (zr_aload (v := zf b 61) rfl (zf_tA h _)).trans ?_
    refine (zr_gfr h (tr_st_zone rfl)).trans ?_
    refine (zr_iload (v := enc l6) rfl (enc_lt _)).trans ?_
    by_cases c2 : 0 ≤ l6 ∧ l6 < 16
    · rw [if_pos c2] at k
      refine (zr_iald h (ta_st_zone rfl) c2.1 (by have := c2.2; omega)).trans ?_
      refine (zr_aload (v := zf b 61) rfl (zf_tA h _)).trans ?_
      refine (zr_gfr h (tr_st_zone rfl)).trans ?_
      refine (zr_iload (v := enc l2) rfl (enc_lt _)).trans ?_
      by_cases c3 : 0 ≤ l2 ∧ l2 < 16
      · rw [if_pos c3] at k
        refine (zr_iald h (ta_st_zone rfl) c3.1 (by have := c3.2; omega)).trans ?_
        by_cases c4 : nz (g 65 l6) = nz (g 65 l2)
        · rw [if_pos c4] at k
          refine (zr_icmp_ne_n (nz_R _) (nz_R _) c4).trans ?_
          refine (zr_aload (v := zf b l1) rfl (zf_tA h _)).trans ?_
          refine (zr_gfr h (tr_fl_x zl1)).trans ?_
          refine (zr_iload (v := enc l6) rfl (enc_lt _)).trans ?_
          by_cases c5 : 0 ≤ l6 ∧ l6 < 16
          · rw [if_pos c5] at k
            refine (zr_iald h (ta_fl_x zl1) c5.1 (by have := c5.2; omega)).trans ?_
            refine (zr_aload (v := zf b l1) rfl (zf_tA h _)).trans ?_
            refine (zr_gfr h (tr_fl_x zl1)).trans ?_
            refine (zr_iload (v := enc l2) rfl (enc_lt _)).trans ?_
            by_cases c6 : 0 ≤ l2 ∧ l2 < 16
            · rw [if_pos c6] at k
              refine (zr_iald h (ta_fl_x zl1) c6.1 (by have := c6.2; omega)).trans ?_
              refine (zr_iload (v := enc l3) rfl (enc_lt _)).trans ?_
              refine (zr_iadd).trans ?_
              by_cases c7 : nz (g (l1 + 1) l6) = nz ((nz (g (l1 + 1) l2)) + l3)
              · rw [if_pos c7] at k
                refine (zr_icmp_ne_n (nz_R _) (nz_R _) c7).trans ?_
                refine (zr_aload (v := zf b l1) rfl (zf_tA h _)).trans ?_
                refine (zr_gfr h (tr_fl_y zl1)).trans ?_
                refine (zr_iload (v := enc l6) rfl (enc_lt _)).trans ?_
                by_cases c8 : 0 ≤ l6 ∧ l6 < 16
                · rw [if_pos c8] at k
                  refine (zr_iald h (ta_fl_y zl1) c8.1 (by have := c8.2; omega)).trans ?_
                  refine (zr_aload (v := zf b l1) rfl (zf_tA h _)).trans ?_
                  refine (zr_gfr h (tr_fl_y zl1)).trans ?_
                  refine (zr_iload (v := enc l2) rfl (enc_lt _)).trans ?_
                  by_cases c9 : 0 ≤ l2 ∧ l2 < 16
                  · rw [if_pos c9] at k
                    refine (zr_iald h (ta_fl_y zl1) c9.1 (by have := c9.2; omega)).trans ?_
                    refine (zr_iload (v := enc l4) rfl (enc_lt _)).trans ?_
                    refine (zr_iadd).trans ?_
                    by_cases c10 : nz (g (l1 + 2) l6) = nz ((nz (g (l1 + 2) l2)) + l4)
                    · rw [if_pos c10] at k
                      refine (zr_icmp_ne_n (nz_R _) (nz_R _) c10).trans ?_
                      refine (zr_iload (v := enc l6) rfl (enc_lt _)).trans ?_
                      exact zr_ireturn.trans k
                    · rw [if_neg c10] at k
                      exact (zr_icmp_ne_t (nz_R _) (nz_R _) c10).trans k
                  · rw [if_neg c9] at k; cases k
                · rw [if_neg c8] at k; cases k
              · rw [if_neg c7] at k
                exact (zr_icmp_ne_t (nz_R _) (nz_R _) c7).trans k
            · rw [if_neg c6] at k; cases k
          · rw [if_neg c5] at k; cases k
        · rw [if_neg c4] at k
          exact (zr_icmp_ne_t (nz_R _) (nz_R _) c4).trans k
      · rw [if_neg c3] at k; cases k
    · rw [if_neg c2] at k; cases k
theorem zs_81_3 (h : zOk b n f) {l1 : Nat} {l2 : Int} {l3 : Int} {l4 : Int} {l5 : Int} {l6 : Nat} (zl1 : zI_fl l1) (zl2 : zR l2) (zl3 : zR l3) (zl4 : zR l4) (zl5 : zR l5) (zl6 : ex_c2 l6 = false ∧ l6 < 1099511627776) (k : (if l5 < nz (g l1 14) then (if 0 ≤ l5 ∧ l5 < 16 then zTh (zCl AL V ST ex_km d 80 [zf b 61, enc (nz (g 64 l5))] (zM n (zWf b f g))) (zM n (zWf b f g)) [] (fun S M => k81_27 V ST d (zCl AL V ST ex_km d) (zRn AL V ST ex_km d kt_81) (zP [zf b 61, zf b l1, enc l2, enc l3, enc l4, enc l5, enc (nz (g 64 l5))]) S M) else none) else zRn AL V ST ex_km d kt_81 92 (zP [zf b 61, zf b l1, enc l2, enc l3, enc l4, enc l5, l6]) [] (zM n (zWf b f g))) = some r) : k81_3 V ST d (zCl AL V ST ex_km d) (zRn AL V ST ex_km d kt_81) (zP [zf b 61, zf b l1, enc l2, enc l3, enc l4, enc l5, l6]) [] (zM n (zWf b f g)) = some r := by
  unfold k81_3
  refine (zr_iload (v := enc l5) rfl (enc_lt _)).trans ?_
  refine (zr_aload (v := zf b l1) rfl (zf_tA h _)).trans ?_
  refine (zr_gfi h (ti_fl_count zl1)).trans ?_
  by_cases c1 : l5 < nz (g l1 14)
  · rw [if_pos c1] at k
    refine (zr_icmp_ge_n (zl5) (nz_R _) c1).trans ?_
    refine (zr_aload (v := zf b 61) rfl (zf_tA h _)).trans ?_
    refine (zr_gfr h (tr_st_order rfl)).trans ?_
    refine (zr_iload (v := enc l5) rfl (enc_lt _)).trans ?_
    by_cases c2 : 0 ≤ l5 ∧ l5 < 16
    · rw [if_pos c2] at k
      refine (zr_iald h (ta_st_order rfl) c2.1 (by have := c2.2; omega)).trans ?_
      refine (zr_istore (w := enc l5) (vs' := [zf b 61, zf b l1, enc l2, enc l3, enc l4, enc l5, enc (nz (g 64 l5))]) rfl (enc_c2 _) (Nat.lt_trans (enc_lt _) (by decide)) (by decide) rfl (enc_lt _)).trans ?_
      refine (zr_aload (v := zf b 61) rfl (zf_tA h _)).trans ?_
      refine (zr_iload (v := enc (nz (g 64 l5))) rfl (enc_lt _)).trans ?_
      refine zr_invV h [enc (nz (g 64 l5))] rfl (tk_st rfl) (zA_cons (enc_l _) zA_nil) (zA_nil) (by decide) ?_
      exact k
    · rw [if_neg c2] at k; cases k
  · rw [if_neg c1] at k
    exact (zr_icmp_ge_t (zl5) (nz_R _) (Int.not_lt.mp c1)).trans k
theorem zs_81_0 (h : zOk b n f) {l1 : Nat} {l2 : Int} {l3 : Int} {l4 : Int} (zl1 : zI_fl l1) (zl2 : zR l2) (zl3 : zR l3) (zl4 : zR l4) (k : k81_3 V ST d (zCl AL V ST ex_km d) (zRn AL V ST ex_km d kt_81) (zP [zf b 61, zf b l1, enc l2, enc l3, enc l4, enc 0, 137438953472]) [] (zM n (zWf b f g)) = some r) : k81_0 V ST d (zCl AL V ST ex_km d) (zRn AL V ST ex_km d kt_81) (zP [zf b 61, zf b l1, enc l2, enc l3, enc l4, 137438953472, 137438953472]) [] (zM n (zWf b f g)) = some r := by
  unfold k81_0
  refine (zr_pshi 0 rfl).trans ?_
  refine (zr_istore (w := enc l4) (vs' := [zf b 61, zf b l1, enc l2, enc l3, enc l4, enc 0, 137438953472]) rfl (enc_c2 _) (Nat.lt_trans (enc_lt _) (by decide)) (by decide) rfl (enc_lt _)).trans ?_
  exact k
theorem zs_82_0 (h : zOk b n f) {l1 : Nat} {l2 : Int} {l3 : Int} (zl1 : zI_fl l1) (zl2 : zR l2) (zl3 : zR l3) (k : (if 0 ≤ l2 ∧ l2 < 16 then (if 0 ≤ l3 ∧ l3 < 16 then (if 0 ≤ l2 ∧ l2 < 16 then (if 0 ≤ l3 ∧ l3 < 16 then (if 0 ≤ l2 ∧ l2 < 16 then some (137438953473, (zM n (zWf b f (upd (upd (upd g 68 l2 1) 69 l2 (nz ((upd g 68 l2 1) (l1 + 1) l3))) 70 l2 (nz ((upd (upd g 68 l2 1) 69 l2 (nz ((upd g 68 l2 1) (l1 + 1) l3))) (l1 + 2) l3)))))) else none) else none) else none) else none) else none) = some r) : k82_0 V ST d (zCl AL V ST ex_km d) (zRn AL V ST ex_km d kt_82) (zP [zf b 61, zf b l1, enc l2, enc l3]) [] (zM n (zWf b f g)) = some r := by
  unfold k82_0
  refine (zr_aload (v := zf b 61) rfl (zf_tA h _)).trans ?_
  refine (zr_gfr h (tr_st_isBoxed rfl)).trans ?_
  refine (zr_iload (v := enc l2) rfl (enc_lt _)).trans ?_
  refine (zr_pshi 1 rfl).trans ?_
  by_cases c1 : 0 ≤ l2 ∧ l2 < 16
  · rw [if_pos c1] at k
    refine (zr_bast h (ta_st_isBoxed rfl) c1.1 (by have := c1.2; omega) (by decide)).trans ?_
    refine (zr_aload (v := zf b 61) rfl (zf_tA h _)).trans ?_
    refine (zr_gfr h (tr_st_boxX rfl)).trans ?_
    refine (zr_iload (v := enc l2) rfl (enc_lt _)).trans ?_
    refine (zr_aload (v := zf b l1) rfl (zf_tA h _)).trans ?_
    refine (zr_gfr h (tr_fl_x zl1)).trans ?_
    refine (zr_iload (v := enc l3) rfl (enc_lt _)).trans ?_
    by_cases c2 : 0 ≤ l3 ∧ l3 < 16
    · rw [if_pos c2] at k
      refine (zr_iald h (ta_fl_x zl1) c2.1 (by have := c2.2; omega)).trans ?_
      by_cases c3 : 0 ≤ l2 ∧ l2 < 16
      · rw [if_pos c3] at k
        refine (zr_iast h (ta_st_boxX rfl) c3.1 (by have := c3.2; omega)).trans ?_
        refine (zr_aload (v := zf b 61) rfl (zf_tA h _)).trans ?_
        refine (zr_gfr h (tr_st_boxY rfl)).trans ?_
        refine (zr_iload (v := enc l2) rfl (enc_lt _)).trans ?_
        refine (zr_aload (v := zf b l1) rfl (zf_tA h _)).trans ?_
        refine (zr_gfr h (tr_fl_y zl1)).trans ?_
        refine (zr_iload (v := enc l3) rfl (enc_lt _)).trans ?_
        by_cases c4 : 0 ≤ l3 ∧ l3 < 16
        · rw [if_pos c4] at k
          refine (zr_iald h (ta_fl_y zl1) c4.1 (by have := c4.2; omega)).trans ?_
          by_cases c5 : 0 ≤ l2 ∧ l2 < 16
          · rw [if_pos c5] at k
            refine (zr_iast h (ta_st_boxY rfl) c5.1 (by have := c5.2; omega)).trans ?_
            exact zr_return.trans k
          · rw [if_neg c5] at k; cases k
        · rw [if_neg c4] at k; cases k
      · rw [if_neg c3] at k; cases k
    · rw [if_neg c2] at k; cases k
  · rw [if_neg c1] at k; cases k
theorem zs_83_63 (h : zOk b n f) {l1 : Nat} {l2 : Int} {l3 : Int} {l4 : Int} (zl1 : zI_fl l1) (zl2 : zR l2) (zl3 : zR l3) (zl4 : zR l4) (k : some (enc l3, (zM n (zWf b f g))) = some r) : k83_63 V ST d (zCl AL V ST ex_km d) (zRn AL V ST ex_km d kt_83) (zP [zf b 61, zf b l1, enc l2, enc l3, enc l4]) [] (zM n (zWf b f g)) = some r := by
  unfold k83_63
  refine (zr_iload (v := enc l3) rfl (enc_lt _)).trans ?_
  exact zr_ireturn.trans k
theorem zs_83_57 (h : zOk b n f) {l1 : Nat} {l2 : Int} {l3 : Int} {l4 : Int} (zl1 : zI_fl l1) (zl2 : zR l2) (zl3 : zR l3) (zl4 : zR l4) (k : zRn AL V ST ex_km d kt_83 5 (zP [zf b 61, zf b l1, enc l2, enc l3, enc (nz (l4 + 1))]) [] (zM n (zWf b f g)) = some r) : k83_57 V ST d (zCl AL V ST ex_km d) (zRn AL V ST ex_km d kt_83) (zP [zf b 61, zf b l1, enc l2, enc l3, enc l4]) [] (zM n (zWf b f g)) = some r := by
  unfold k83_57
  refine (zr_iinc (w := enc l3) (x := l4) (i' := 1) (vs' := [zf b 61, zf b l1, enc l2, enc l3, enc (nz (l4 + 1))]) rfl (enc_c2 _) (Nat.lt_trans (enc_lt _) (by decide)) rfl rfl (by decide) rfl).trans ?_
  exact (zr_goto).trans k
theorem zs_83_49 (h : zOk b n f) {l1 : Nat} {l2 : Int} {l3 : Int} {l4 : Int} (zl1 : zI_fl l1) (zl2 : zR l2) (zl3 : zR l3) (zl4 : zR l4) (k : (if 0 ≤ l4 ∧ l4 < 16 then k83_57 V ST d (zCl AL V ST ex_km d) (zRn AL V ST ex_km d kt_83) (zP [zf b 61, zf b l1, enc l2, enc (nz (g (l1 + 4) l4)), enc l4]) [] (zM n (zWf b f g)) else none) = some r) : k83_49 V ST d (zCl AL V ST ex_km d) (zRn AL V ST ex_km d kt_83) (zP [zf b 61, zf b l1, enc l2, enc l3, enc l4]) [] (zM n (zWf b f g)) = some r := by
  unfold k83_49
  refine (zr_aload (v := zf b l1) rfl (zf_tA h _)).trans ?_
  refine (zr_gfr h (tr_fl_number zl1)).trans ?_
  refine (zr_iload (v := enc l4) rfl (enc_lt _)).trans ?_
  by_cases c1 : 0 ≤ l4 ∧ l4 < 16
  · rw [if_pos c1] at k
    refine (zr_iald h (ta_fl_number zl1) c1.1 (by have := c1.2; omega)).trans ?_
    refine (zr_istore (w := enc l2) (vs' := [zf b 61, zf b l1, enc l2, enc (nz (g (l1 + 4) l4)), enc l4]) rfl (enc_c2 _) (Nat.lt_trans (enc_lt _) (by decide)) (by decide) rfl (enc_lt _)).trans ?_
    exact k
  · rw [if_neg c1] at k; cases k
theorem zs_83_31 (h : zOk b n f) {l1 : Nat} {l2 : Int} {l3 : Int} {l4 : Int} {s0 : Int} (zl1 : zI_fl l1) (zl2 : zR l2) (zl3 : zR l3) (zl4 : zR l4) (zs0 : zR s0) (k : (if s0 = 0 then (if l3 < 0 then zRn AL V ST ex_km d kt_83 49 (zP [zf b 61, zf b l1, enc l2, enc l3, enc l4]) [] (zM n (zWf b f g)) else (if 0 ≤ l4 ∧ l4 < 16 then (if nz (g (l1 + 4) l4) < l3 then k83_49 V ST d (zCl AL V ST ex_km d) (zRn AL V ST ex_km d kt_83) (zP [zf b 61, zf b l1, enc l2, enc l3, enc l4]) [] (zM n (zWf b f g)) else zRn AL V ST ex_km d kt_83 57 (zP [zf b 61, zf b l1, enc l2, enc l3, enc l4]) [] (zM n (zWf b f g))) else none)) else zRn AL V ST ex_km d kt_83 57 (zP [zf b 61, zf b l1, enc l2, enc l3, enc l4]) [] (zM n (zWf b f g))) = some r) : k83_31 V ST d (zCl AL V ST ex_km d) (zRn AL V ST ex_km d kt_83) (zP [zf b 61, zf b l1, enc l2, enc l3, enc l4]) [enc s0] (zM n (zWf b f g)) = some r := by
  unfold k83_31
  by_cases c1 : s0 = 0
  · rw [if_pos c1] at k
    refine (zr_if_ne_n (zs0) c1).trans ?_
    refine (zr_iload (v := enc l3) rfl (enc_lt _)).trans ?_
    by_cases c2 : l3 < 0
    · rw [if_pos c2] at k
      exact (zr_if_lt_t (zl3) c2).trans k
    · rw [if_neg c2] at k
      refine (zr_if_lt_n (zl3) (Int.not_lt.mp c2)).trans ?_
      refine (zr_aload (v := zf b l1) rfl (zf_tA h _)).trans ?_
      refine (zr_gfr h (tr_fl_number zl1)).trans ?_
      refine (zr_iload (v := enc l4) rfl (enc_lt _)).trans ?_
      by_cases c3 : 0 ≤ l4 ∧ l4 < 16
      · rw [if_pos c3] at k
        refine (zr_iald h (ta_fl_number zl1) c3.1 (by have := c3.2; omega)).trans ?_
        refine (zr_iload (v := enc l3) rfl (enc_lt _)).trans ?_
        by_cases c4 : nz (g (l1 + 4) l4) < l3
        · rw [if_pos c4] at k
          refine (zr_icmp_ge_n (nz_R _) (zl3) c4).trans ?_
          exact k
        · rw [if_neg c4] at k
          exact (zr_icmp_ge_t (nz_R _) (zl3) (Int.not_lt.mp c4)).trans k
      · rw [if_neg c3] at k; cases k
  · rw [if_neg c1] at k
    exact (zr_if_ne_t (zs0) c1).trans k
theorem zs_83_5 (h : zOk b n f) {l1 : Nat} {l2 : Int} {l3 : Int} {l4 : Int} (zl1 : zI_fl l1) (zl2 : zR l2) (zl3 : zR l3) (zl4 : zR l4) (k : (if l4 < nz (g l1 14) then (if 0 ≤ l4 ∧ l4 < 16 then (if nz (g 63 l4) = 0 then zRn AL V ST ex_km d kt_83 57 (zP [zf b 61, zf b l1, enc l2, enc l3, enc l4]) [] (zM n (zWf b f g)) else zTh (zCl AL V ST ex_km d 84 [zf b 61, enc l4, enc l2] (zM n (zWf b f g))) (zM n (zWf b f g)) [] (fun S M => k83_31 V ST d (zCl AL V ST ex_km d) (zRn AL V ST ex_km d kt_83) (zP [zf b 61, zf b l1, enc l2, enc l3, enc l4]) S M)) else none) else zRn AL V ST ex_km d kt_83 63 (zP [zf b 61, zf b l1, enc l2, enc l3, enc l4]) [] (zM n (zWf b f g))) = some r) : k83_5 V ST d (zCl AL V ST ex_km d) (zRn AL V ST ex_km d kt_83) (zP [zf b 61, zf b l1, enc l2, enc l3, enc l4]) [] (zM n (zWf b f g)) = some r := by
  unfold k83_5
  refine (zr_iload (v := enc l4) rfl (enc_lt _)).trans ?_
  refine (zr_aload (v := zf b l1) rfl (zf_tA h _)).trans ?_
  refine (zr_gfi h (ti_fl_count zl1)).trans ?_
  by_cases c1 : l4 < nz (g l1 14)
  · rw [if_pos c1] at k
    refine (zr_icmp_ge_n (zl4) (nz_R _) c1).trans ?_
    refine (zr_aload (v := zf b 61) rfl (zf_tA h _)).trans ?_
    refine (zr_gfr h (tr_st_isDancing rfl)).trans ?_
    refine (zr_iload (v := enc l4) rfl (enc_lt _)).trans ?_
    by_cases c2 : 0 ≤ l4 ∧ l4 < 16
    · rw [if_pos c2] at k
      refine (zr_bald h (ta_st_isDancing rfl) c2.1 (by have := c2.2; omega)).trans ?_
      by_cases c3 : nz (g 63 l4) = 0
      · rw [if_pos c3] at k
        exact (zr_if_eq_t (nz_R _) c3).trans k
      · rw [if_neg c3] at k
        refine (zr_if_eq_n (nz_R _) c3).trans ?_
        refine (zr_aload (v := zf b 61) rfl (zf_tA h _)).trans ?_
        refine (zr_iload (v := enc l4) rfl (enc_lt _)).trans ?_
        refine (zr_iload (v := enc l2) rfl (enc_lt _)).trans ?_
        refine zr_invV h [enc l2, enc l4] rfl (tk_st rfl) (zA_cons (enc_l _) (zA_cons (enc_l _) zA_nil)) (zA_nil) (by decide) ?_
        exact k
    · rw [if_neg c2] at k; cases k
  · rw [if_neg c1] at k
    exact (zr_icmp_ge_t (zl4) (nz_R _) (Int.not_lt.mp c1)).trans k
theorem zs_83_0 (h : zOk b n f) {l1 : Nat} {l2 : Int} (zl1 : zI_fl l1) (zl2 : zR l2) (k : k83_5 V ST d (zCl AL V ST ex_km d) (zRn AL V ST ex_km d kt_83) (zP [zf b 61, zf b l1, enc l2, enc (-1), enc 0]) [] (zM n (zWf b f g)) = some r) : k83_0 V ST d (zCl AL V ST ex_km d) (zRn AL V ST ex_km d kt_83) (zP [zf b 61, zf b l1, enc l2, 137438953472, 137438953472]) [] (zM n (zWf b f g)) = some r := by
  unfold k83_0
  refine (zr_pshi (-1) rfl).trans ?_
  refine (zr_istore (w := enc l2) (vs' := [zf b 61, zf b l1, enc l2, enc (-1), 137438953472]) rfl (enc_c2 _) (Nat.lt_trans (enc_lt _) (by decide)) (by decide) rfl (enc_lt _)).trans ?_
  refine (zr_pshi 0 rfl).trans ?_
  refine (zr_istore (w := enc (-1)) (vs' := [zf b 61, zf b l1, enc l2, enc (-1), enc 0]) rfl (enc_c2 _) (Nat.lt_trans (enc_lt _) (by decide)) (by decide) rfl (enc_lt _)).trans ?_
  exact k
theorem zs_84_105 (h : zOk b n f) {l1 : Int} {l2 : Int} {l3 : Int} {s0 : Int} (zl1 : zR l1) (zl2 : zR l2) (zl3 : zR l3) (zs0 : zR s0) (k : (if s0 = 0 ∨ s0 = 1 then some (enc s0, (zM n (zWf b f g))) else none) = some r) : k84_105 V ST d (zCl AL V ST ex_km d) (zRn AL V ST ex_km d kt_84) (zP [zf b 61, enc l1, enc l2, enc l3]) [enc s0] (zM n (zWf b f g)) = some r := by
  unfold k84_105
  by_cases c1 : s0 = 0 ∨ s0 = 1
  · rw [if_pos c1] at k
    exact (zr_breturn c1).trans k
  · rw [if_neg c1] at k; cases k
theorem zs_84_104 (h : zOk b n f) {l1 : Int} {l2 : Int} {l3 : Int} (zl1 : zR l1) (zl2 : zR l2) (zl3 : zR l3) (k : k84_105 V ST d (zCl AL V ST ex_km d) (zRn AL V ST ex_km d kt_84) (zP [zf b 61, enc l1, enc l2, enc l3]) [enc 0] (zM n (zWf b f g)) = some r) : k84_104 V ST d (zCl AL V ST ex_km d) (zRn AL V ST ex_km d kt_84) (zP [zf b 61, enc l1, enc l2, enc l3]) [] (zM n (zWf b f g)) = some r := by
  unfold k84_104
  refine (zr_pshi 0 rfl).trans ?_
  exact k
theorem zs_84_100 (h : zOk b n f) {l1 : Int} {l2 : Int} {l3 : Int} (zl1 : zR l1) (zl2 : zR l2) (zl3 : zR l3) (k : zRn AL V ST ex_km d kt_84 105 (zP [zf b 61, enc l1, enc l2, enc l3]) [enc 1] (zM n (zWf b f g)) = some r) : k84_100 V ST d (zCl AL V ST ex_km d) (zRn AL V ST ex_km d kt_84) (zP [zf b 61, enc l1, enc l2, enc l3]) [] (zM n (zWf b f g)) = some r := by
  unfold k84_100
  refine (zr_pshi 1 rfl).trans ?_
  exact (zr_goto).trans k
theorem zs_84_85 (h : zOk b n f) {l1 : Int} {l2 : Int} {l3 : Int} (zl1 : zR l1) (zl2 : zR l2) (zl3 : zR l3) (k : (if l2 = 12 then (if 0 ≤ l3 ∧ l3 < 16 then (if nz (g 63 l3) = 0 then k84_100 V ST d (zCl AL V ST ex_km d) (zRn AL V ST ex_km d kt_84) (zP [zf b 61, enc l1, enc l2, enc l3]) [] (zM n (zWf b f g)) else zRn AL V ST ex_km d kt_84 104 (zP [zf b 61, enc l1, enc l2, enc l3]) [] (zM n (zWf b f g))) else none) else zRn AL V ST ex_km d kt_84 100 (zP [zf b 61, enc l1, enc l2, enc l3]) [] (zM n (zWf b f g))) = some r) : k84_85 V ST d (zCl AL V ST ex_km d) (zRn AL V ST ex_km d kt_84) (zP [zf b 61, enc l1, enc l2, enc l3]) [] (zM n (zWf b f g)) = some r := by
  unfold k84_85
  refine (zr_iload (v := enc l2) rfl (enc_lt _)).trans ?_
  refine (zr_pshi 12 rfl).trans ?_
  by_cases c1 : l2 = 12
  · rw [if_pos c1] at k
    refine (zr_icmp_ne_n (zl2) ((by unfold zR; omega)) c1).trans ?_
    refine (zr_aload (v := zf b 61) rfl (zf_tA h _)).trans ?_
    refine (zr_gfr h (tr_st_isDancing rfl)).trans ?_
    refine (zr_iload (v := enc l3) rfl (enc_lt _)).trans ?_
    by_cases c2 : 0 ≤ l3 ∧ l3 < 16
    · rw [if_pos c2] at k
      refine (zr_bald h (ta_st_isDancing rfl) c2.1 (by have := c2.2; omega)).trans ?_
      by_cases c3 : nz (g 63 l3) = 0
      · rw [if_pos c3] at k
        refine (zr_if_ne_n (nz_R _) c3).trans ?_
        exact k
      · rw [if_neg c3] at k
        exact (zr_if_ne_t (nz_R _) c3).trans k
    · rw [if_neg c2] at k; cases k
  · rw [if_neg c1] at k
    exact (zr_icmp_ne_t (zl2) ((by unfold zR; omega)) c1).trans k
theorem zs_84_81 (h : zOk b n f) {l1 : Int} {l2 : Int} {l3 : Int} (zl1 : zR l1) (zl2 : zR l2) (zl3 : zR l3) (k : zRn AL V ST ex_km d kt_84 105 (zP [zf b 61, enc l1, enc l2, enc l3]) [enc 0] (zM n (zWf b f g)) = some r) : k84_81 V ST d (zCl AL V ST ex_km d) (zRn AL V ST ex_km d kt_84) (zP [zf b 61, enc l1, enc l2, enc l3]) [] (zM n (zWf b f g)) = some r := by
  unfold k84_81
  refine (zr_pshi 0 rfl).trans ?_
  exact (zr_goto).trans k
theorem zs_84_61 (h : zOk b n f) {l1 : Int} {l2 : Int} {l3 : Int} (zl1 : zR l1) (zl2 : zR l2) (zl3 : zR l3) (k : (if l2 = 9 then (if 0 ≤ l1 ∧ l1 < 16 then (if nz (g 67 l1) = 1 then zRn AL V ST ex_km d kt_84 105 (zP [zf b 61, enc l1, enc l2, enc l3]) [enc 1] (zM n (zWf b f g)) else zRn AL V ST ex_km d kt_84 81 (zP [zf b 61, enc l1, enc l2, enc l3]) [] (zM n (zWf b f g))) else none) else zRn AL V ST ex_km d kt_84 85 (zP [zf b 61, enc l1, enc l2, enc l3]) [] (zM n (zWf b f g))) = some r) : k84_61 V ST d (zCl AL V ST ex_km d) (zRn AL V ST ex_km d kt_84) (zP [zf b 61, enc l1, enc l2, enc l3]) [] (zM n (zWf b f g)) = some r := by
  unfold k84_61
  refine (zr_iload (v := enc l2) rfl (enc_lt _)).trans ?_
  refine (zr_pshi 9 rfl).trans ?_
  by_cases c1 : l2 = 9
  · rw [if_pos c1] at k
    refine (zr_icmp_ne_n (zl2) ((by unfold zR; omega)) c1).trans ?_
    refine (zr_aload (v := zf b 61) rfl (zf_tA h _)).trans ?_
    refine (zr_gfr h (tr_st_kind rfl)).trans ?_
    refine (zr_iload (v := enc l1) rfl (enc_lt _)).trans ?_
    by_cases c2 : 0 ≤ l1 ∧ l1 < 16
    · rw [if_pos c2] at k
      refine (zr_iald h (ta_st_kind rfl) c2.1 (by have := c2.2; omega)).trans ?_
      refine (zr_pshi 1 rfl).trans ?_
      by_cases c3 : nz (g 67 l1) = 1
      · rw [if_pos c3] at k
        refine (zr_icmp_ne_n (nz_R _) ((by unfold zR; omega)) c3).trans ?_
        refine (zr_pshi 1 rfl).trans ?_
        exact (zr_goto).trans k
      · rw [if_neg c3] at k
        exact (zr_icmp_ne_t (nz_R _) ((by unfold zR; omega)) c3).trans k
    · rw [if_neg c2] at k; cases k
  · rw [if_neg c1] at k
    exact (zr_icmp_ne_t (zl2) ((by unfold zR; omega)) c1).trans k
theorem zs_84_60 (h : zOk b n f) {l1 : Int} {l2 : Int} {l3 : Int} {s0 : Int} (zl1 : zR l1) (zl2 : zR l2) (zl3 : zR l3) (zs0 : zR s0) (k : (if s0 = 0 ∨ s0 = 1 then some (enc s0, (zM n (zWf b f g))) else none) = some r) : k84_60 V ST d (zCl AL V ST ex_km d) (zRn AL V ST ex_km d kt_84) (zP [zf b 61, enc l1, enc l2, enc l3]) [enc s0] (zM n (zWf b f g)) = some r := by
  unfold k84_60
  by_cases c1 : s0 = 0 ∨ s0 = 1
  · rw [if_pos c1] at k
    exact (zr_breturn c1).trans k
  · rw [if_neg c1] at k; cases k
theorem zs_84_59 (h : zOk b n f) {l1 : Int} {l2 : Int} {l3 : Int} (zl1 : zR l1) (zl2 : zR l2) (zl3 : zR l3) (k : k84_60 V ST d (zCl AL V ST ex_km d) (zRn AL V ST ex_km d kt_84) (zP [zf b 61, enc l1, enc l2, enc l3]) [enc 0] (zM n (zWf b f g)) = some r) : k84_59 V ST d (zCl AL V ST ex_km d) (zRn AL V ST ex_km d kt_84) (zP [zf b 61, enc l1, enc l2, enc l3]) [] (zM n (zWf b f g)) = some r := by
  unfold k84_59
  refine (zr_pshi 0 rfl).trans ?_
  exact k
theorem zs_84_45 (h : zOk b n f) {l1 : Int} {l2 : Int} {l3 : Int} (zl1 : zR l1) (zl2 : zR l2) (zl3 : zR l3) (k : (if 0 ≤ l1 ∧ l1 < 16 then (if nz (g 67 l1) = 1 then zRn AL V ST ex_km d kt_84 59 (zP [zf b 61, enc l1, enc l2, enc l3]) [] (zM n (zWf b f g)) else zRn AL V ST ex_km d kt_84 60 (zP [zf b 61, enc l1, enc l2, enc l3]) [enc 1] (zM n (zWf b f g))) else none) = some r) : k84_45 V ST d (zCl AL V ST ex_km d) (zRn AL V ST ex_km d kt_84) (zP [zf b 61, enc l1, enc l2, enc l3]) [] (zM n (zWf b f g)) = some r := by
  unfold k84_45
  refine (zr_aload (v := zf b 61) rfl (zf_tA h _)).trans ?_
  refine (zr_gfr h (tr_st_kind rfl)).trans ?_
  refine (zr_iload (v := enc l1) rfl (enc_lt _)).trans ?_
  by_cases c1 : 0 ≤ l1 ∧ l1 < 16
  · rw [if_pos c1] at k
    refine (zr_iald h (ta_st_kind rfl) c1.1 (by have := c1.2; omega)).trans ?_
    refine (zr_pshi 1 rfl).trans ?_
    by_cases c2 : nz (g 67 l1) = 1
    · rw [if_pos c2] at k
      exact (zr_icmp_eq_t (nz_R _) ((by unfold zR; omega)) c2).trans k
    · rw [if_neg c2] at k
      refine (zr_icmp_eq_n (nz_R _) ((by unfold zR; omega)) c2).trans ?_
      refine (zr_pshi 1 rfl).trans ?_
      exact (zr_goto).trans k
  · rw [if_neg c1] at k; cases k
theorem zs_84_33 (h : zOk b n f) {l1 : Int} {l2 : Int} {l3 : Int} (zl1 : zR l1) (zl2 : zR l2) (zl3 : zR l3) (k : (if l2 = 6 then zRn AL V ST ex_km d kt_84 45 (zP [zf b 61, enc l1, enc l2, enc l3]) [] (zM n (zWf b f g)) else (if l2 = 7 then k84_45 V ST d (zCl AL V ST ex_km d) (zRn AL V ST ex_km d kt_84) (zP [zf b 61, enc l1, enc l2, enc l3]) [] (zM n (zWf b f g)) else zRn AL V ST ex_km d kt_84 61 (zP [zf b 61, enc l1, enc l2, enc l3]) [] (zM n (zWf b f g)))) = some r) : k84_33 V ST d (zCl AL V ST ex_km d) (zRn AL V ST ex_km d kt_84) (zP [zf b 61, enc l1, enc l2, enc l3]) [] (zM n (zWf b f g)) = some r := by
  unfold k84_33
  refine (zr_iload (v := enc l2) rfl (enc_lt _)).trans ?_
  refine (zr_pshi 6 rfl).trans ?_
  by_cases c1 : l2 = 6
  · rw [if_pos c1] at k
    exact (zr_icmp_eq_t (zl2) ((by unfold zR; omega)) c1).trans k
  · rw [if_neg c1] at k
    refine (zr_icmp_eq_n (zl2) ((by unfold zR; omega)) c1).trans ?_
    refine (zr_iload (v := enc l2) rfl (enc_lt _)).trans ?_
    refine (zr_pshi 7 rfl).trans ?_
    by_cases c2 : l2 = 7
    · rw [if_pos c2] at k
      refine (zr_icmp_ne_n (zl2) ((by unfold zR; omega)) c2).trans ?_
      exact k
    · rw [if_neg c2] at k
      exact (zr_icmp_ne_t (zl2) ((by unfold zR; omega)) c2).trans k
theorem zs_84_20 (h : zOk b n f) {l1 : Int} {l2 : Int} (zl1 : zR l1) (zl2 : zR l2) (k : (if 0 ≤ l1 ∧ l1 < 16 then (if nz (g 66 l1) < 0 then some (enc 0, (zM n (zWf b f g))) else zRn AL V ST ex_km d kt_84 33 (zP [zf b 61, enc l1, enc l2, enc (nz (g 66 l1))]) [] (zM n (zWf b f g))) else none) = some r) : k84_20 V ST d (zCl AL V ST ex_km d) (zRn AL V ST ex_km d kt_84) (zP [zf b 61, enc l1, enc l2, 137438953472]) [] (zM n (zWf b f g)) = some r := by
  unfold k84_20
  refine (zr_aload (v := zf b 61) rfl (zf_tA h _)).trans ?_
  refine (zr_gfr h (tr_st_mate rfl)).trans ?_
  refine (zr_iload (v := enc l1) rfl (enc_lt _)).trans ?_
  by_cases c1 : 0 ≤ l1 ∧ l1 < 16
  · rw [if_pos c1] at k
    refine (zr_iald h (ta_st_mate rfl) c1.1 (by have := c1.2; omega)).trans ?_
    refine (zr_istore (w := enc l2) (vs' := [zf b 61, enc l1, enc l2, enc (nz (g 66 l1))]) rfl (enc_c2 _) (Nat.lt_trans (enc_lt _) (by decide)) (by decide) rfl (enc_lt _)).trans ?_
    refine (zr_iload (v := enc (nz (g 66 l1))) rfl (enc_lt _)).trans ?_
    by_cases c2 : nz (g 66 l1) < 0
    · rw [if_pos c2] at k
      refine (zr_if_ge_n (nz_R _) c2).trans ?_
      refine (zr_pshi 0 rfl).trans ?_
      exact (zr_breturn (by decide)).trans k
    · rw [if_neg c2] at k
      exact (zr_if_ge_t (nz_R _) (Int.not_lt.mp c2)).trans k
  · rw [if_neg c1] at k; cases k
theorem zs_84_7 (h : zOk b n f) {l1 : Int} {l2 : Int} (zl1 : zR l1) (zl2 : zR l2) (k : (if l2 = 11 then (if 0 ≤ l1 ∧ l1 < 16 then (if nz (g 68 l1) = 0 ∨ nz (g 68 l1) = 1 then some (enc (nz (g 68 l1)), (zM n (zWf b f g))) else none) else none) else zRn AL V ST ex_km d kt_84 20 (zP [zf b 61, enc l1, enc l2, 137438953472]) [] (zM n (zWf b f g))) = some r) : k84_7 V ST d (zCl AL V ST ex_km d) (zRn AL V ST ex_km d kt_84) (zP [zf b 61, enc l1, enc l2, 137438953472]) [] (zM n (zWf b f g)) = some r := by
  unfold k84_7
  refine (zr_iload (v := enc l2) rfl (enc_lt _)).trans ?_
  refine (zr_pshi 11 rfl).trans ?_
  by_cases c1 : l2 = 11
  · rw [if_pos c1] at k
    refine (zr_icmp_ne_n (zl2) ((by unfold zR; omega)) c1).trans ?_
    refine (zr_aload (v := zf b 61) rfl (zf_tA h _)).trans ?_
    refine (zr_gfr h (tr_st_isBoxed rfl)).trans ?_
    refine (zr_iload (v := enc l1) rfl (enc_lt _)).trans ?_
    by_cases c2 : 0 ≤ l1 ∧ l1 < 16
    · rw [if_pos c2] at k
      refine (zr_bald h (ta_st_isBoxed rfl) c2.1 (by have := c2.2; omega)).trans ?_
      by_cases c3 : nz (g 68 l1) = 0 ∨ nz (g 68 l1) = 1
      · rw [if_pos c3] at k
        exact (zr_breturn c3).trans k
      · rw [if_neg c3] at k; cases k
    · rw [if_neg c2] at k; cases k
  · rw [if_neg c1] at k
    exact (zr_icmp_ne_t (zl2) ((by unfold zR; omega)) c1).trans k
theorem zs_84_0 (h : zOk b n f) {l1 : Int} {l2 : Int} (zl1 : zR l1) (zl2 : zR l2) (k : (if l2 < 4 then some (enc 1, (zM n (zWf b f g))) else zRn AL V ST ex_km d kt_84 7 (zP [zf b 61, enc l1, enc l2, 137438953472]) [] (zM n (zWf b f g))) = some r) : k84_0 V ST d (zCl AL V ST ex_km d) (zRn AL V ST ex_km d kt_84) (zP [zf b 61, enc l1, enc l2, 137438953472]) [] (zM n (zWf b f g)) = some r := by
  unfold k84_0
  refine (zr_iload (v := enc l2) rfl (enc_lt _)).trans ?_
  refine (zr_pshi 4 rfl).trans ?_
  by_cases c1 : l2 < 4
  · rw [if_pos c1] at k
    refine (zr_icmp_ge_n (zl2) ((by unfold zR; omega)) c1).trans ?_
    refine (zr_pshi 1 rfl).trans ?_
    exact (zr_breturn (by decide)).trans k
  · rw [if_neg c1] at k
    exact (zr_icmp_ge_t (zl2) ((by unfold zR; omega)) (Int.not_lt.mp c1)).trans k
theorem zs_85_74 (h : zOk b n f) {l1 : Nat} {l2 : Int} {l3 : Nat} (zl1 : zI_fl l1) (zl2 : zR l2) (zl3 : ex_c2 l3 = false ∧ l3 < 1099511627776) (k : some (137438953473, (zM n (zWf b f g))) = some r) : k85_74 V ST d (zCl AL V ST ex_km d) (zRn AL V ST ex_km d kt_85) (zP [zf b 61, zf b l1, enc l2, l3]) [] (zM n (zWf b f g)) = some r := by
  unfold k85_74
  exact zr_return.trans k
theorem zs_85_68 (h : zOk b n f) {l1 : Nat} {l2 : Int} {l3 : Int} (zl1 : zI_fl l1) (zl2 : zR l2) (zl3 : zR l3) (k : zRn AL V ST ex_km d kt_85 20 (zP [zf b 61, zf b l1, enc l2, enc (nz (l3 + 1))]) [] (zM n (zWf b f g)) = some r) : k85_68 V ST d (zCl AL V ST ex_km d) (zRn AL V ST ex_km d kt_85) (zP [zf b 61, zf b l1, enc l2, enc l3]) [] (zM n (zWf b f g)) = some r := by
  unfold k85_68
  refine (zr_iinc (w := enc l2) (x := l3) (i' := 1) (vs' := [zf b 61, zf b l1, enc l2, enc (nz (l3 + 1))]) rfl (enc_c2 _) (Nat.lt_trans (enc_lt _) (by decide)) rfl rfl (by decide) rfl).trans ?_
  exact (zr_goto).trans k
theorem zs_85_57 (h : zOk b n f) {l1 : Nat} {l2 : Int} {l3 : Int} (zl1 : zI_fl l1) (zl2 : zR l2) (zl3 : zR l3) (k : (if 0 ≤ l3 ∧ l3 < 16 then zTh (zCl AL V ST ex_km d 18 [zf b l1, enc l3, enc (nz (g 67 l3))] (zM n (zWf b f g))) (zM n (zWf b f g)) [] (fun S M => k85_68 V ST d (zCl AL V ST ex_km d) (zRn AL V ST ex_km d kt_85) (zP [zf b 61, zf b l1, enc l2, enc l3]) S M) else none) = some r) : k85_57 V ST d (zCl AL V ST ex_km d) (zRn AL V ST ex_km d kt_85) (zP [zf b 61, zf b l1, enc l2, enc l3]) [] (zM n (zWf b f g)) = some r := by
  unfold k85_57
  refine (zr_aload (v := zf b l1) rfl (zf_tA h _)).trans ?_
  refine (zr_iload (v := enc l3) rfl (enc_lt _)).trans ?_
  refine (zr_aload (v := zf b 61) rfl (zf_tA h _)).trans ?_
  refine (zr_gfr h (tr_st_kind rfl)).trans ?_
  refine (zr_iload (v := enc l3) rfl (enc_lt _)).trans ?_
  by_cases c1 : 0 ≤ l3 ∧ l3 < 16
  · rw [if_pos c1] at k
    refine (zr_iald h (ta_st_kind rfl) c1.1 (by have := c1.2; omega)).trans ?_
    refine zr_invV h [enc (nz (g 67 l3)), enc l3] rfl (tk_fl zl1) (zA_cons (enc_l _) (zA_cons (enc_l _) zA_nil)) (zA_nil) (by decide) ?_
    exact k
  · rw [if_neg c1] at k; cases k
theorem zs_85_20 (h : zOk b n f) {l1 : Nat} {l2 : Int} {l3 : Int} (zl1 : zI_fl l1) (zl2 : zR l2) (zl3 : zR l3) (k : (if l3 < nz (g l1 14) then (if 0 ≤ l3 ∧ l3 < 16 then (if nz (g 63 l3) = 0 then zRn AL V ST ex_km d kt_85 68 (zP [zf b 61, zf b l1, enc l2, enc l3]) [] (zM n (zWf b f g)) else (if 0 ≤ l3 ∧ l3 < 16 then (if nz (g 67 l3) = 2 then zRn AL V ST ex_km d kt_85 57 (zP [zf b 61, zf b l1, enc l2, enc l3]) [] (zM n (zWf b f g)) else (if 0 ≤ l3 ∧ l3 < 16 then (if nz (g 67 l3) = 3 then k85_57 V ST d (zCl AL V ST ex_km d) (zRn AL V ST ex_km d kt_85) (zP [zf b 61, zf b l1, enc l2, enc l3]) [] (zM n (zWf b f g)) else zRn AL V ST ex_km d kt_85 68 (zP [zf b 61, zf b l1, enc l2, enc l3]) [] (zM n (zWf b f g))) else none)) else none)) else none) else zRn AL V ST ex_km d kt_85 74 (zP [zf b 61, zf b l1, enc l2, enc l3]) [] (zM n (zWf b f g))) = some r) : k85_20 V ST d (zCl AL V ST ex_km d) (zRn AL V ST ex_km d kt_85) (zP [zf b 61, zf b l1, enc l2, enc l3]) [] (zM n (zWf b f g)) = some r := by
  unfold k85_20
  refine (zr_iload (v := enc l3) rfl (enc_lt _)).trans ?_
  refine (zr_aload (v := zf b l1) rfl (zf_tA h _)).trans ?_
  refine (zr_gfi h (ti_fl_count zl1)).trans ?_
  by_cases c1 : l3 < nz (g l1 14)
  · rw [if_pos c1] at k
    refine (zr_icmp_ge_n (zl3) (nz_R _) c1).trans ?_
    refine (zr_aload (v := zf b 61) rfl (zf_tA h _)).trans ?_
    refine (zr_gfr h (tr_st_isDancing rfl)).trans ?_
    refine (zr_iload (v := enc l3) rfl (enc_lt _)).trans ?_
    by_cases c2 : 0 ≤ l3 ∧ l3 < 16
    · rw [if_pos c2] at k
      refine (zr_bald h (ta_st_isDancing rfl) c2.1 (by have := c2.2; omega)).trans ?_
      by_cases c3 : nz (g 63 l3) = 0
      · rw [if_pos c3] at k
        exact (zr_if_eq_t (nz_R _) c3).trans k
      · rw [if_neg c3] at k
        refine (zr_if_eq_n (nz_R _) c3).trans ?_
        refine (zr_aload (v := zf b 61) rfl (zf_tA h _)).trans ?_
        refine (zr_gfr h (tr_st_kind rfl)).trans ?_
        refine (zr_iload (v := enc l3) rfl (enc_lt _)).trans ?_
        by_cases c4 : 0 ≤ l3 ∧ l3 < 16
        · rw [if_pos c4] at k
          refine (zr_iald h (ta_st_kind rfl) c4.1 (by have := c4.2; omega)).trans ?_
          refine (zr_pshi 2 rfl).trans ?_
          by_cases c5 : nz (g 67 l3) = 2
          · rw [if_pos c5] at k
            exact (zr_icmp_eq_t (nz_R _) ((by unfold zR; omega)) c5).trans k
          · rw [if_neg c5] at k
            refine (zr_icmp_eq_n (nz_R _) ((by unfold zR; omega)) c5).trans ?_
            refine (zr_aload (v := zf b 61) rfl (zf_tA h _)).trans ?_
            refine (zr_gfr h (tr_st_kind rfl)).trans ?_
            refine (zr_iload (v := enc l3) rfl (enc_lt _)).trans ?_
            by_cases c6 : 0 ≤ l3 ∧ l3 < 16
            · rw [if_pos c6] at k
              refine (zr_iald h (ta_st_kind rfl) c6.1 (by have := c6.2; omega)).trans ?_
              refine (zr_pshi 3 rfl).trans ?_
              by_cases c7 : nz (g 67 l3) = 3
              · rw [if_pos c7] at k
                refine (zr_icmp_ne_n (nz_R _) ((by unfold zR; omega)) c7).trans ?_
                exact k
              · rw [if_neg c7] at k
                exact (zr_icmp_ne_t (nz_R _) ((by unfold zR; omega)) c7).trans k
            · rw [if_neg c6] at k; cases k
        · rw [if_neg c4] at k; cases k
    · rw [if_neg c2] at k; cases k
  · rw [if_neg c1] at k
    exact (zr_icmp_ge_t (zl3) (nz_R _) (Int.not_lt.mp c1)).trans k
theorem zs_85_18 (h : zOk b n f) {l1 : Nat} {l2 : Int} (zl1 : zI_fl l1) (zl2 : zR l2) (k : k85_20 V ST d (zCl AL V ST ex_km d) (zRn AL V ST ex_km d kt_85) (zP [zf b 61, zf b l1, enc l2, enc 0]) [] (zM n (zWf b f g)) = some r) : k85_18 V ST d (zCl AL V ST ex_km d) (zRn AL V ST ex_km d kt_85) (zP [zf b 61, zf b l1, enc l2, 137438953472]) [] (zM n (zWf b f g)) = some r := by
  unfold k85_18
  refine (zr_pshi 0 rfl).trans ?_
  refine (zr_istore (w := enc l2) (vs' := [zf b 61, zf b l1, enc l2, enc 0]) rfl (enc_c2 _) (Nat.lt_trans (enc_lt _) (by decide)) (by decide) rfl (enc_lt _)).trans ?_
  exact k
theorem zs_85_0 (h : zOk b n f) {l1 : Nat} {l2 : Int} (zl1 : zI_fl l1) (zl2 : zR l2) (k : (if l2 = 6 then zRn AL V ST ex_km d kt_85 18 (zP [zf b 61, zf b l1, enc l2, 137438953472]) [] (zM n (zWf b f g)) else (if l2 = 7 then zRn AL V ST ex_km d kt_85 18 (zP [zf b 61, zf b l1, enc l2, 137438953472]) [] (zM n (zWf b f g)) else (if l2 = 8 then k85_18 V ST d (zCl AL V ST ex_km d) (zRn AL V ST ex_km d kt_85) (zP [zf b 61, zf b l1, enc l2, 137438953472]) [] (zM n (zWf b f g)) else zRn AL V ST ex_km d kt_85 74 (zP [zf b 61, zf b l1, enc l2, 137438953472]) [] (zM n (zWf b f g))))) = some r) : k85_0 V ST d (zCl AL V ST ex_km d) (zRn AL V ST ex_km d kt_85) (zP [zf b 61, zf b l1, enc l2, 137438953472]) [] (zM n (zWf b f g)) = some r := by
  unfold k85_0
  refine (zr_iload (v := enc l2) rfl (enc_lt _)).trans ?_
  refine (zr_pshi 6 rfl).trans ?_
  by_cases c1 : l2 = 6
  · rw [if_pos c1] at k
    exact (zr_icmp_eq_t (zl2) ((by unfold zR; omega)) c1).trans k
  · rw [if_neg c1] at k
    refine (zr_icmp_eq_n (zl2) ((by unfold zR; omega)) c1).trans ?_
    refine (zr_iload (v := enc l2) rfl (enc_lt _)).trans ?_
    refine (zr_pshi 7 rfl).trans ?_
    by_cases c2 : l2 = 7
    · rw [if_pos c2] at k
      exact (zr_icmp_eq_t (zl2) ((by unfold zR; omega)) c2).trans k
    · rw [if_neg c2] at k
      refine (zr_icmp_eq_n (zl2) ((by unfold zR; omega)) c2).trans ?_
      refine (zr_iload (v := enc l2) rfl (enc_lt _)).trans ?_
      refine (zr_pshi 8 rfl).trans ?_
      by_cases c3 : l2 = 8
      · rw [if_pos c3] at k
        refine (zr_icmp_ne_n (zl2) ((by unfold zR; omega)) c3).trans ?_
        exact k
      · rw [if_neg c3] at k
        exact (zr_icmp_ne_t (zl2) ((by unfold zR; omega)) c3).trans k
theorem zs_86_85 (h : zOk b n f) {l1 : Nat} {l2 : Int} {l3 : Int} {l4 : Int} (zl1 : zI_fl l1) (zl2 : zR l2) (zl3 : zR l3) (zl4 : zR l4) (k : some (137438953473, (zM n (zWf b f g))) = some r) : k86_85 V ST d (zCl AL V ST ex_km d) (zRn AL V ST ex_km d kt_86) (zP [zf b 61, zf b l1, enc l2, enc l3, enc l4]) [] (zM n (zWf b f g)) = some r := by
  unfold k86_85
  exact zr_return.trans k
theorem zs_86_79 (h : zOk b n f) {l1 : Nat} {l2 : Int} {l3 : Int} {l4 : Int} (zl1 : zI_fl l1) (zl2 : zR l2) (zl3 : zR l3) (zl4 : zR l4) (k : zRn AL V ST ex_km d kt_86 3 (zP [zf b 61, zf b l1, enc l2, enc l3, enc (nz (l4 + 1))]) [] (zM n (zWf b f g)) = some r) : k86_79 V ST d (zCl AL V ST ex_km d) (zRn AL V ST ex_km d kt_86) (zP [zf b 61, zf b l1, enc l2, enc l3, enc l4]) [] (zM n (zWf b f g)) = some r := by
  unfold k86_79
  refine (zr_iinc (w := enc l3) (x := l4) (i' := 1) (vs' := [zf b 61, zf b l1, enc l2, enc l3, enc (nz (l4 + 1))]) rfl (enc_c2 _) (Nat.lt_trans (enc_lt _) (by decide)) rfl rfl (by decide) rfl).trans ?_
  exact (zr_goto).trans k
theorem zs_86_71 (h : zOk b n f) {l1 : Nat} {l2 : Int} {l3 : Int} {l4 : Int} (zl1 : zI_fl l1) (zl2 : zR l2) (zl3 : zR l3) (zl4 : zR l4) (k : zTh (zCl AL V ST ex_km d 91 [zf b 61, zf b l1, enc l4, enc l2] (zM n (zWf b f g))) (zM n (zWf b f g)) [] (fun S M => k86_79 V ST d (zCl AL V ST ex_km d) (zRn AL V ST ex_km d kt_86) (zP [zf b 61, zf b l1, enc l2, enc l3, enc l4]) S M) = some r) : k86_71 V ST d (zCl AL V ST ex_km d) (zRn AL V ST ex_km d kt_86) (zP [zf b 61, zf b l1, enc l2, enc l3, enc l4]) [] (zM n (zWf b f g)) = some r := by
  unfold k86_71
  refine (zr_aload (v := zf b 61) rfl (zf_tA h _)).trans ?_
  refine (zr_aload (v := zf b l1) rfl (zf_tA h _)).trans ?_
  refine (zr_iload (v := enc l4) rfl (enc_lt _)).trans ?_
  refine (zr_iload (v := enc l2) rfl (enc_lt _)).trans ?_
  refine zr_invV h [enc l2, enc l4, zf b l1] rfl (tk_st rfl) (zA_cons (enc_l _) (zA_cons (enc_l _) (zA_cons (zf_l h _) zA_nil))) (zA_nil) (by decide) ?_
  exact k
theorem zs_86_68 (h : zOk b n f) {l1 : Nat} {l2 : Int} {l3 : Int} {l4 : Int} (zl1 : zI_fl l1) (zl2 : zR l2) (zl3 : zR l3) (zl4 : zR l4) (k : zRn AL V ST ex_km d kt_86 79 (zP [zf b 61, zf b l1, enc l2, enc l3, enc l4]) [] (zM n (zWf b f g)) = some r) : k86_68 V ST d (zCl AL V ST ex_km d) (zRn AL V ST ex_km d kt_86) (zP [zf b 61, zf b l1, enc l2, enc l3, enc l4]) [] (zM n (zWf b f g)) = some r := by
  unfold k86_68
  exact (zr_goto).trans k
theorem zs_86_55 (h : zOk b n f) {l1 : Nat} {l2 : Int} {l3 : Int} {l4 : Int} (zl1 : zI_fl l1) (zl2 : zR l2) (zl3 : zR l3) (zl4 : zR l4) (k : (if l2 = 11 then zTh (zCl AL V ST ex_km d 89 [zf b 61, zf b l1, enc l4] (zM n (zWf b f g))) (zM n (zWf b f g)) [] (fun S M => k86_68 V ST d (zCl AL V ST ex_km d) (zRn AL V ST ex_km d kt_86) (zP [zf b 61, zf b l1, enc l2, enc l3, enc l4]) S M) else zRn AL V ST ex_km d kt_86 71 (zP [zf b 61, zf b l1, enc l2, enc l3, enc l4]) [] (zM n (zWf b f g))) = some r) : k86_55 V ST d (zCl AL V ST ex_km d) (zRn AL V ST ex_km d kt_86) (zP [zf b 61, zf b l1, enc l2, enc l3, enc l4]) [] (zM n (zWf b f g)) = some r := by
  unfold k86_55
  refine (zr_iload (v := enc l2) rfl (enc_lt _)).trans ?_
  refine (zr_pshi 11 rfl).trans ?_
  by_cases c1 : l2 = 11
  · rw [if_pos c1] at k
    refine (zr_icmp_ne_n (zl2) ((by unfold zR; omega)) c1).trans ?_
    refine (zr_aload (v := zf b 61) rfl (zf_tA h _)).trans ?_
    refine (zr_aload (v := zf b l1) rfl (zf_tA h _)).trans ?_
    refine (zr_iload (v := enc l4) rfl (enc_lt _)).trans ?_
    refine zr_invV h [enc l4, zf b l1] rfl (tk_st rfl) (zA_cons (enc_l _) (zA_cons (zf_l h _) zA_nil)) (zA_nil) (by decide) ?_
    exact k
  · rw [if_neg c1] at k
    exact (zr_icmp_ne_t (zl2) ((by unfold zR; omega)) c1).trans k
theorem zs_86_52 (h : zOk b n f) {l1 : Nat} {l2 : Int} {l3 : Int} {l4 : Int} (zl1 : zI_fl l1) (zl2 : zR l2) (zl3 : zR l3) (zl4 : zR l4) (k : zRn AL V ST ex_km d kt_86 79 (zP [zf b 61, zf b l1, enc l2, enc l3, enc l4]) [] (zM n (zWf b f g)) = some r) : k86_52 V ST d (zCl AL V ST ex_km d) (zRn AL V ST ex_km d kt_86) (zP [zf b 61, zf b l1, enc l2, enc l3, enc l4]) [] (zM n (zWf b f g)) = some r := by
  unfold k86_52
  exact (zr_goto).trans k
theorem zs_86_38 (h : zOk b n f) {l1 : Nat} {l2 : Int} {l3 : Int} {l4 : Int} (zl1 : zI_fl l1) (zl2 : zR l2) (zl3 : zR l3) (zl4 : zR l4) (k : (if l2 < 6 then zTh (zCl AL V ST ex_km d 88 [zf b 61, zf b l1, enc l4, enc l3] (zM n (zWf b f g))) (zM n (zWf b f g)) [] (fun S M => k86_52 V ST d (zCl AL V ST ex_km d) (zRn AL V ST ex_km d kt_86) (zP [zf b 61, zf b l1, enc l2, enc l3, enc l4]) S M) else zRn AL V ST ex_km d kt_86 55 (zP [zf b 61, zf b l1, enc l2, enc l3, enc l4]) [] (zM n (zWf b f g))) = some r) : k86_38 V ST d (zCl AL V ST ex_km d) (zRn AL V ST ex_km d kt_86) (zP [zf b 61, zf b l1, enc l2, enc l3, enc l4]) [] (zM n (zWf b f g)) = some r := by
  unfold k86_38
  refine (zr_iload (v := enc l2) rfl (enc_lt _)).trans ?_
  refine (zr_pshi 6 rfl).trans ?_
  by_cases c1 : l2 < 6
  · rw [if_pos c1] at k
    refine (zr_icmp_ge_n (zl2) ((by unfold zR; omega)) c1).trans ?_
    refine (zr_aload (v := zf b 61) rfl (zf_tA h _)).trans ?_
    refine (zr_aload (v := zf b l1) rfl (zf_tA h _)).trans ?_
    refine (zr_iload (v := enc l4) rfl (enc_lt _)).trans ?_
    refine (zr_iload (v := enc l3) rfl (enc_lt _)).trans ?_
    refine zr_invV h [enc l3, enc l4, zf b l1] rfl (tk_st rfl) (zA_cons (enc_l _) (zA_cons (enc_l _) (zA_cons (zf_l h _) zA_nil))) (zA_nil) (by decide) ?_
    exact k
  · rw [if_neg c1] at k
    exact (zr_icmp_ge_t (zl2) ((by unfold zR; omega)) (Int.not_lt.mp c1)).trans k
theorem zs_86_35 (h : zOk b n f) {l1 : Nat} {l2 : Int} {l3 : Int} {l4 : Int} (zl1 : zI_fl l1) (zl2 : zR l2) (zl3 : zR l3) (zl4 : zR l4) (k : zRn AL V ST ex_km d kt_86 79 (zP [zf b 61, zf b l1, enc l2, enc l3, enc l4]) [] (zM n (zWf b f g)) = some r) : k86_35 V ST d (zCl AL V ST ex_km d) (zRn AL V ST ex_km d kt_86) (zP [zf b 61, zf b l1, enc l2, enc l3, enc l4]) [] (zM n (zWf b f g)) = some r := by
  unfold k86_35
  exact (zr_goto).trans k
theorem zs_86_3 (h : zOk b n f) {l1 : Nat} {l2 : Int} {l3 : Int} {l4 : Int} (zl1 : zI_fl l1) (zl2 : zR l2) (zl3 : zR l3) (zl4 : zR l4) (k : (if l4 < nz (g l1 14) then (if 0 ≤ l4 ∧ l4 < 16 then (if nz (g 63 l4) = 0 then zRn AL V ST ex_km d kt_86 79 (zP [zf b 61, zf b l1, enc l2, enc l3, enc l4]) [] (zM n (zWf b f g)) else (if l2 < 4 then zTh (zCl AL V ST ex_km d 87 [zf b 61, zf b l1, enc l4, enc l2] (zM n (zWf b f g))) (zM n (zWf b f g)) [] (fun S M => k86_35 V ST d (zCl AL V ST ex_km d) (zRn AL V ST ex_km d kt_86) (zP [zf b 61, zf b l1, enc l2, enc l3, enc l4]) S M) else zRn AL V ST ex_km d kt_86 38 (zP [zf b 61, zf b l1, enc l2, enc l3, enc l4]) [] (zM n (zWf b f g)))) else none) else zRn AL V ST ex_km d kt_86 85 (zP [zf b 61, zf b l1, enc l2, enc l3, enc l4]) [] (zM n (zWf b f g))) = some r) : k86_3 V ST d (zCl AL V ST ex_km d) (zRn AL V ST ex_km d kt_86) (zP [zf b 61, zf b l1, enc l2, enc l3, enc l4]) [] (zM n (zWf b f g)) = some r := by
  unfold k86_3
  refine (zr_iload (v := enc l4) rfl (enc_lt _)).trans ?_
  refine (zr_aload (v := zf b l1) rfl (zf_tA h _)).trans ?_
  refine (zr_gfi h (ti_fl_count zl1)).trans ?_
  by_cases c1 : l4 < nz (g l1 14)
  · rw [if_pos c1] at k
    refine (zr_icmp_ge_n (zl4) (nz_R _) c1).trans ?_
    refine (zr_aload (v := zf b 61) rfl (zf_tA h _)).trans ?_
    refine (zr_gfr h (tr_st_isDancing rfl)).trans ?_
    refine (zr_iload (v := enc l4) rfl (enc_lt _)).trans ?_
    by_cases c2 : 0 ≤ l4 ∧ l4 < 16
    · rw [if_pos c2] at k
      refine (zr_bald h (ta_st_isDancing rfl) c2.1 (by have := c2.2; omega)).trans ?_
      by_cases c3 : nz (g 63 l4) = 0
      · rw [if_pos c3] at k
        exact (zr_if_eq_t (nz_R _) c3).trans k
      · rw [if_neg c3] at k
        refine (zr_if_eq_n (nz_R _) c3).trans ?_
        refine (zr_iload (v := enc l2) rfl (enc_lt _)).trans ?_
        refine (zr_pshi 4 rfl).trans ?_
        by_cases c4 : l2 < 4
        · rw [if_pos c4] at k
          refine (zr_icmp_ge_n (zl2) ((by unfold zR; omega)) c4).trans ?_
          refine (zr_aload (v := zf b 61) rfl (zf_tA h _)).trans ?_
          refine (zr_aload (v := zf b l1) rfl (zf_tA h _)).trans ?_
          refine (zr_iload (v := enc l4) rfl (enc_lt _)).trans ?_
          refine (zr_iload (v := enc l2) rfl (enc_lt _)).trans ?_
          refine zr_invV h [enc l2, enc l4, zf b l1] rfl (tk_st rfl) (zA_cons (enc_l _) (zA_cons (enc_l _) (zA_cons (zf_l h _) zA_nil))) (zA_nil) (by decide) ?_
          exact k
        · rw [if_neg c4] at k
          exact (zr_icmp_ge_t (zl2) ((by unfold zR; omega)) (Int.not_lt.mp c4)).trans k
    · rw [if_neg c2] at k; cases k
  · rw [if_neg c1] at k
    exact (zr_icmp_ge_t (zl4) (nz_R _) (Int.not_lt.mp c1)).trans k
theorem zs_86_0 (h : zOk b n f) {l1 : Nat} {l2 : Int} {l3 : Int} (zl1 : zI_fl l1) (zl2 : zR l2) (zl3 : zR l3) (k : k86_3 V ST d (zCl AL V ST ex_km d) (zRn AL V ST ex_km d kt_86) (zP [zf b 61, zf b l1, enc l2, enc l3, enc 0]) [] (zM n (zWf b f g)) = some r) : k86_0 V ST d (zCl AL V ST ex_km d) (zRn AL V ST ex_km d kt_86) (zP [zf b 61, zf b l1, enc l2, enc l3, 137438953472]) [] (zM n (zWf b f g)) = some r := by
  unfold k86_0
  refine (zr_pshi 0 rfl).trans ?_
  refine (zr_istore (w := enc l3) (vs' := [zf b 61, zf b l1, enc l2, enc l3, enc 0]) rfl (enc_c2 _) (Nat.lt_trans (enc_lt _) (by decide)) (by decide) rfl (enc_lt _)).trans ?_
  exact k
theorem zs_87_34 (h : zOk b n f) {l1 : Nat} {l2 : Int} {l3 : Int} (zl1 : zI_fl l1) (zl2 : zR l2) (zl3 : zR l3) (k : some (137438953473, (zM n (zWf b f g))) = some r) : k87_34 V ST d (zCl AL V ST ex_km d) (zRn AL V ST ex_km d kt_87) (zP [zf b 61, zf b l1, enc l2, enc l3]) [] (zM n (zWf b f g)) = some r := by
  unfold k87_34
  exact zr_return.trans k
theorem zs_87_31 (h : zOk b n f) {l1 : Nat} {l2 : Int} {l3 : Int} {s0 : Int} {s1 : Int} {s2 : Nat} (zl1 : zI_fl l1) (zl2 : zR l2) (zl3 : zR l3) (zs0 : zR s0) (zs1 : zR s1) (zs2 : zI_fl s2) (k : zTh (zCl AL V ST ex_km d 15 [zf b s2, enc s1, enc s0] (zM n (zWf b f g))) (zM n (zWf b f g)) [] (fun S M => k87_34 V ST d (zCl AL V ST ex_km d) (zRn AL V ST ex_km d kt_87) (zP [zf b 61, zf b l1, enc l2, enc l3]) S M) = some r) : k87_31 V ST d (zCl AL V ST ex_km d) (zRn AL V ST ex_km d kt_87) (zP [zf b 61, zf b l1, enc l2, enc l3]) [enc s0, enc s1, zf b s2] (zM n (zWf b f g)) = some r := by
  unfold k87_31
  refine zr_invV h [enc s0, enc s1] rfl (tk_fl zs2) (zA_cons (enc_l _) (zA_cons (enc_l _) zA_nil)) (zA_nil) (by decide) ?_
  exact k
theorem zs_87_30 (h : zOk b n f) {l1 : Nat} {l2 : Int} {l3 : Int} {s0 : Int} {s1 : Nat} (zl1 : zI_fl l1) (zl2 : zR l2) (zl3 : zR l3) (zs0 : zR s0) (zs1 : zI_fl s1) (k : k87_31 V ST d (zCl AL V ST ex_km d) (zRn AL V ST ex_km d kt_87) (zP [zf b 61, zf b l1, enc l2, enc l3]) [enc 1, enc s0, zf b s1] (zM n (zWf b f g)) = some r) : k87_30 V ST d (zCl AL V ST ex_km d) (zRn AL V ST ex_km d kt_87) (zP [zf b 61, zf b l1, enc l2, enc l3]) [enc s0, zf b s1] (zM n (zWf b f g)) = some r := by
  unfold k87_30
  refine (zr_pshi 1 rfl).trans ?_
  exact k
theorem zs_87_19 (h : zOk b n f) {l1 : Nat} {l2 : Int} {l3 : Int} (zl1 : zI_fl l1) (zl2 : zR l2) (zl3 : zR l3) (k : (if l3 = 2 then zRn AL V ST ex_km d kt_87 31 (zP [zf b 61, zf b l1, enc l2, enc l3]) [enc (-1), enc l2, zf b l1] (zM n (zWf b f g)) else zRn AL V ST ex_km d kt_87 30 (zP [zf b 61, zf b l1, enc l2, enc l3]) [enc l2, zf b l1] (zM n (zWf b f g))) = some r) : k87_19 V ST d (zCl AL V ST ex_km d) (zRn AL V ST ex_km d kt_87) (zP [zf b 61, zf b l1, enc l2, enc l3]) [] (zM n (zWf b f g)) = some r := by
  unfold k87_19
  refine (zr_aload (v := zf b l1) rfl (zf_tA h _)).trans ?_
  refine (zr_iload (v := enc l2) rfl (enc_lt _)).trans ?_
  refine (zr_iload (v := enc l3) rfl (enc_lt _)).trans ?_
  refine (zr_pshi 2 rfl).trans ?_
  by_cases c1 : l3 = 2
  · rw [if_pos c1] at k
    refine (zr_icmp_ne_n (zl3) ((by unfold zR; omega)) c1).trans ?_
    refine (zr_pshi (-1) rfl).trans ?_
    exact (zr_goto).trans k
  · rw [if_neg c1] at k
    exact (zr_icmp_ne_t (zl3) ((by unfold zR; omega)) c1).trans k
theorem zs_87_16 (h : zOk b n f) {l1 : Nat} {l2 : Int} {l3 : Int} (zl1 : zI_fl l1) (zl2 : zR l2) (zl3 : zR l3) (k : zRn AL V ST ex_km d kt_87 34 (zP [zf b 61, zf b l1, enc l2, enc l3]) [] (zM n (zWf b f g)) = some r) : k87_16 V ST d (zCl AL V ST ex_km d) (zRn AL V ST ex_km d kt_87) (zP [zf b 61, zf b l1, enc l2, enc l3]) [] (zM n (zWf b f g)) = some r := by
  unfold k87_16
  exact (zr_goto).trans k
theorem zs_87_0 (h : zOk b n f) {l1 : Nat} {l2 : Int} {l3 : Int} (zl1 : zI_fl l1) (zl2 : zR l2) (zl3 : zR l3) (k : (if l3 = 0 then (if 0 ≤ l2 ∧ l2 < 16 then zTh (zCl AL V ST ex_km d 14 [zf b l1, enc l2, enc (nz (g (l1 + 3) l2)), enc 1] (zM n (zWf b f g))) (zM n (zWf b f g)) [] (fun S M => k87_16 V ST d (zCl AL V ST ex_km d) (zRn AL V ST ex_km d kt_87) (zP [zf b 61, zf b l1, enc l2, enc l3]) S M) else none) else zRn AL V ST ex_km d kt_87 19 (zP [zf b 61, zf b l1, enc l2, enc l3]) [] (zM n (zWf b f g))) = some r) : k87_0 V ST d (zCl AL V ST ex_km d) (zRn AL V ST ex_km d kt_87) (zP [zf b 61, zf b l1, enc l2, enc l3]) [] (zM n (zWf b f g)) = some r := by
  unfold k87_0
  refine (zr_iload (v := enc l3) rfl (enc_lt _)).trans ?_
  by_cases c1 : l3 = 0
  · rw [if_pos c1] at k
    refine (zr_if_ne_n (zl3) c1).trans ?_
    refine (zr_aload (v := zf b l1) rfl (zf_tA h _)).trans ?_
    refine (zr_iload (v := enc l2) rfl (enc_lt _)).trans ?_
    refine (zr_aload (v := zf b l1) rfl (zf_tA h _)).trans ?_
    refine (zr_gfr h (tr_fl_f zl1)).trans ?_
    refine (zr_iload (v := enc l2) rfl (enc_lt _)).trans ?_
    by_cases c2 : 0 ≤ l2 ∧ l2 < 16
    · rw [if_pos c2] at k
      refine (zr_iald h (ta_fl_f zl1) c2.1 (by have := c2.2; omega)).trans ?_
      refine (zr_pshi 1 rfl).trans ?_
      refine zr_invV h [enc 1, enc (nz (g (l1 + 3) l2)), enc l2] rfl (tk_fl zl1) (zA_cons (enc_l _) (zA_cons (enc_l _) (zA_cons (enc_l _) zA_nil))) (zA_nil) (by decide) ?_
      exact k
    · rw [if_neg c2] at k; cases k
  · rw [if_neg c1] at k
    exact (zr_if_ne_t (zl3) c1).trans k
theorem zs_88_68 (h : zOk b n f) {l1 : Nat} {l2 : Int} {l3 : Int} (zl1 : zI_fl l1) (zl2 : zR l2) (zl3 : zR l3) (k : some (137438953473, (zM n (zWf b f g))) = some r) : k88_68 V ST d (zCl AL V ST ex_km d) (zRn AL V ST ex_km d kt_88) (zP [zf b 61, zf b l1, enc l2, enc l3]) [] (zM n (zWf b f g)) = some r := by
  unfold k88_68
  exact zr_return.trans k
theorem zs_88_63 (h : zOk b n f) {l1 : Nat} {l2 : Int} {l3 : Int} {s0 : Int} {s1 : Int} {s2 : Int} {s3 : Nat} (zl1 : zI_fl l1) (zl2 : zR l2) (zl3 : zR l3) (zs0 : zR s0) (zs1 : zR s1) (zs2 : zR s2) (zs3 : zI_fl s3) (k : zTh (zCl AL V ST ex_km d 14 [zf b s3, enc s2, enc (nz (s1 + s0)), enc 1] (zM n (zWf b f g))) (zM n (zWf b f g)) [] (fun S M => k88_68 V ST d (zCl AL V ST ex_km d) (zRn AL V ST ex_km d kt_88) (zP [zf b 61, zf b l1, enc l2, enc l3]) S M) = some r) : k88_63 V ST d (zCl AL V ST ex_km d) (zRn AL V ST ex_km d kt_88) (zP [zf b 61, zf b l1, enc l2, enc l3]) [enc s0, enc s1, enc s2, zf b s3] (zM n (zWf b f g)) = some r := by
  unfold k88_63
  refine (zr_iadd).trans ?_
  refine (zr_pshi 1 rfl).trans ?_
  refine zr_invV h [enc 1, enc (nz (s1 + s0)), enc s2] rfl (tk_fl zs3) (zA_cons (enc_l _) (zA_cons (enc_l _) (zA_cons (enc_l _) zA_nil))) (zA_nil) (by decide) ?_
  exact k
theorem zs_88_62 (h : zOk b n f) {l1 : Nat} {l2 : Int} {l3 : Int} {s0 : Int} {s1 : Int} {s2 : Nat} (zl1 : zI_fl l1) (zl2 : zR l2) (zl3 : zR l3) (zs0 : zR s0) (zs1 : zR s1) (zs2 : zI_fl s2) (k : k88_63 V ST d (zCl AL V ST ex_km d) (zRn AL V ST ex_km d kt_88) (zP [zf b 61, zf b l1, enc l2, enc l3]) [enc 1, enc s0, enc s1, zf b s2] (zM n (zWf b f g)) = some r) : k88_62 V ST d (zCl AL V ST ex_km d) (zRn AL V ST ex_km d kt_88) (zP [zf b 61, zf b l1, enc l2, enc l3]) [enc s0, enc s1, zf b s2] (zM n (zWf b f g)) = some r := by
  unfold k88_62
  refine (zr_pshi 1 rfl).trans ?_
  exact k
theorem zs_88_46 (h : zOk b n f) {l1 : Nat} {l2 : Int} {l3 : Int} (zl1 : zI_fl l1) (zl2 : zR l2) (zl3 : zR l3) (k : (if 0 ≤ l2 ∧ l2 < 16 then (if l3 = 0 then zRn AL V ST ex_km d kt_88 63 (zP [zf b 61, zf b l1, enc l2, enc l3]) [enc 3, enc (nz (g (l1 + 3) l2)), enc l2, zf b l1] (zM n (zWf b f g)) else zRn AL V ST ex_km d kt_88 62 (zP [zf b 61, zf b l1, enc l2, enc l3]) [enc (nz (g (l1 + 3) l2)), enc l2, zf b l1] (zM n (zWf b f g))) else none) = some r) : k88_46 V ST d (zCl AL V ST ex_km d) (zRn AL V ST ex_km d kt_88) (zP [zf b 61, zf b l1, enc l2, enc l3]) [] (zM n (zWf b f g)) = some r := by
  unfold k88_46
  refine (zr_aload (v := zf b l1) rfl (zf_tA h _)).trans ?_
  refine (zr_iload (v := enc l2) rfl (enc_lt _)).trans ?_
  refine (zr_aload (v := zf b l1) rfl (zf_tA h _)).trans ?_
  refine (zr_gfr h (tr_fl_f zl1)).trans ?_
  refine (zr_iload (v := enc l2) rfl (enc_lt _)).trans ?_
  by_cases c1 : 0 ≤ l2 ∧ l2 < 16
  · rw [if_pos c1] at k
    refine (zr_iald h (ta_fl_f zl1) c1.1 (by have := c1.2; omega)).trans ?_
    refine (zr_iload (v := enc l3) rfl (enc_lt _)).trans ?_
    by_cases c2 : l3 = 0
    · rw [if_pos c2] at k
      refine (zr_if_ne_n (zl3) c2).trans ?_
      refine (zr_pshi 3 rfl).trans ?_
      exact (zr_goto).trans k
    · rw [if_neg c2] at k
      exact (zr_if_ne_t (zl3) c2).trans k
  · rw [if_neg c1] at k; cases k
theorem zs_88_29 (h : zOk b n f) {l1 : Nat} {l2 : Int} {l3 : Int} (zl1 : zI_fl l1) (zl2 : zR l2) (zl3 : zR l3) (k : (if 0 ≤ l2 ∧ l2 < 16 then zTh (zCl AL V ST ex_km d 14 [zf b l1, enc l2, enc (nz (g (l1 + 3) l2)), enc (nz (Int.tdiv (nz (g 61 9)) 2))] (zM n (zWf b f g))) (zM n (zWf b f g)) [] (fun S M => k88_46 V ST d (zCl AL V ST ex_km d) (zRn AL V ST ex_km d kt_88) (zP [zf b 61, zf b l1, enc l2, enc l3]) S M) else none) = some r) : k88_29 V ST d (zCl AL V ST ex_km d) (zRn AL V ST ex_km d kt_88) (zP [zf b 61, zf b l1, enc l2, enc l3]) [] (zM n (zWf b f g)) = some r := by
  unfold k88_29
  refine (zr_aload (v := zf b l1) rfl (zf_tA h _)).trans ?_
  refine (zr_iload (v := enc l2) rfl (enc_lt _)).trans ?_
  refine (zr_aload (v := zf b l1) rfl (zf_tA h _)).trans ?_
  refine (zr_gfr h (tr_fl_f zl1)).trans ?_
  refine (zr_iload (v := enc l2) rfl (enc_lt _)).trans ?_
  by_cases c1 : 0 ≤ l2 ∧ l2 < 16
  · rw [if_pos c1] at k
    refine (zr_iald h (ta_fl_f zl1) c1.1 (by have := c1.2; omega)).trans ?_
    refine (zr_aload (v := zf b 61) rfl (zf_tA h _)).trans ?_
    refine (zr_gfi h (ti_st_spacing rfl)).trans ?_
    refine (zr_pshi 2 rfl).trans ?_
    refine (zr_div (nz_R _) ((by unfold zR; omega)) (by decide)).trans ?_
    refine zr_invV h [enc (nz (Int.tdiv (nz (g 61 9)) 2)), enc (nz (g (l1 + 3) l2)), enc l2] rfl (tk_fl zl1) (zA_cons (enc_l _) (zA_cons (enc_l _) (zA_cons (enc_l _) zA_nil))) (zA_nil) (by decide) ?_
    exact k
  · rw [if_neg c1] at k; cases k
theorem zs_88_26 (h : zOk b n f) {l1 : Nat} {l2 : Int} {l3 : Int} (zl1 : zI_fl l1) (zl2 : zR l2) (zl3 : zR l3) (k : zRn AL V ST ex_km d kt_88 68 (zP [zf b 61, zf b l1, enc l2, enc l3]) [] (zM n (zWf b f g)) = some r) : k88_26 V ST d (zCl AL V ST ex_km d) (zRn AL V ST ex_km d kt_88) (zP [zf b 61, zf b l1, enc l2, enc l3]) [] (zM n (zWf b f g)) = some r := by
  unfold k88_26
  exact (zr_goto).trans k
theorem zs_88_23 (h : zOk b n f) {l1 : Nat} {l2 : Int} {l3 : Int} {s0 : Int} {s1 : Int} {s2 : Nat} (zl1 : zI_fl l1) (zl2 : zR l2) (zl3 : zR l3) (zs0 : zR s0) (zs1 : zR s1) (zs2 : zI_fl s2) (k : zTh (zCl AL V ST ex_km d 15 [zf b s2, enc s1, enc s0] (zM n (zWf b f g))) (zM n (zWf b f g)) [] (fun S M => k88_26 V ST d (zCl AL V ST ex_km d) (zRn AL V ST ex_km d kt_88) (zP [zf b 61, zf b l1, enc l2, enc l3]) S M) = some r) : k88_23 V ST d (zCl AL V ST ex_km d) (zRn AL V ST ex_km d kt_88) (zP [zf b 61, zf b l1, enc l2, enc l3]) [enc s0, enc s1, zf b s2] (zM n (zWf b f g)) = some r := by
  unfold k88_23
  refine zr_invV h [enc s0, enc s1] rfl (tk_fl zs2) (zA_cons (enc_l _) (zA_cons (enc_l _) zA_nil)) (zA_nil) (by decide) ?_
  exact k
theorem zs_88_22 (h : zOk b n f) {l1 : Nat} {l2 : Int} {l3 : Int} {s0 : Int} {s1 : Nat} (zl1 : zI_fl l1) (zl2 : zR l2) (zl3 : zR l3) (zs0 : zR s0) (zs1 : zI_fl s1) (k : k88_23 V ST d (zCl AL V ST ex_km d) (zRn AL V ST ex_km d kt_88) (zP [zf b 61, zf b l1, enc l2, enc l3]) [enc (-1), enc s0, zf b s1] (zM n (zWf b f g)) = some r) : k88_22 V ST d (zCl AL V ST ex_km d) (zRn AL V ST ex_km d kt_88) (zP [zf b 61, zf b l1, enc l2, enc l3]) [enc s0, zf b s1] (zM n (zWf b f g)) = some r := by
  unfold k88_22
  refine (zr_pshi (-1) rfl).trans ?_
  exact k
theorem zs_88_0 (h : zOk b n f) {l1 : Nat} {l2 : Int} {l3 : Int} (zl1 : zI_fl l1) (zl2 : zR l2) (zl3 : zR l3) (k : (if 1 < l3 then (if 0 ≤ l2 ∧ l2 < 16 then (if nz (Int.tmod (nz (g (l1 + 4) l2)) 2) = 0 then zRn AL V ST ex_km d kt_88 23 (zP [zf b 61, zf b l1, enc l2, enc l3]) [enc 1, enc l2, zf b l1] (zM n (zWf b f g)) else zRn AL V ST ex_km d kt_88 22 (zP [zf b 61, zf b l1, enc l2, enc l3]) [enc l2, zf b l1] (zM n (zWf b f g))) else none) else zRn AL V ST ex_km d kt_88 29 (zP [zf b 61, zf b l1, enc l2, enc l3]) [] (zM n (zWf b f g))) = some r) : k88_0 V ST d (zCl AL V ST ex_km d) (zRn AL V ST ex_km d kt_88) (zP [zf b 61, zf b l1, enc l2, enc l3]) [] (zM n (zWf b f g)) = some r := by
  unfold k88_0
  refine (zr_iload (v := enc l3) rfl (enc_lt _)).trans ?_
  refine (zr_pshi 1 rfl).trans ?_
  by_cases c1 : 1 < l3
  · rw [if_pos c1] at k
    refine (zr_icmp_le_n (zl3) ((by unfold zR; omega)) c1).trans ?_
    refine (zr_aload (v := zf b l1) rfl (zf_tA h _)).trans ?_
    refine (zr_iload (v := enc l2) rfl (enc_lt _)).trans ?_
    refine (zr_aload (v := zf b l1) rfl (zf_tA h _)).trans ?_
    refine (zr_gfr h (tr_fl_number zl1)).trans ?_
    refine (zr_iload (v := enc l2) rfl (enc_lt _)).trans ?_
    by_cases c2 : 0 ≤ l2 ∧ l2 < 16
    · rw [if_pos c2] at k
      refine (zr_iald h (ta_fl_number zl1) c2.1 (by have := c2.2; omega)).trans ?_
      refine (zr_pshi 2 rfl).trans ?_
      refine (zr_rem (nz_R _) ((by unfold zR; omega)) (by decide)).trans ?_
      by_cases c3 : nz (Int.tmod (nz (g (l1 + 4) l2)) 2) = 0
      · rw [if_pos c3] at k
        refine (zr_if_ne_n (nz_R _) c3).trans ?_
        refine (zr_pshi 1 rfl).trans ?_
        exact (zr_goto).trans k
      · rw [if_neg c3] at k
        exact (zr_if_ne_t (nz_R _) c3).trans k
    · rw [if_neg c2] at k; cases k
  · rw [if_neg c1] at k
    exact (zr_icmp_le_t (zl3) ((by unfold zR; omega)) (Int.not_lt.mp c1)).trans k
theorem zs_89_77 (h : zOk b n f) {l1 : Nat} {l2 : Int} (zl1 : zI_fl l1) (zl2 : zR l2) (k : some (137438953473, (zM n (zWf b f g))) = some r) : k89_77 V ST d (zCl AL V ST ex_km d) (zRn AL V ST ex_km d kt_89) (zP [zf b 61, zf b l1, enc l2]) [] (zM n (zWf b f g)) = some r := by
  unfold k89_77
  exact zr_return.trans k
theorem zs_89_71 (h : zOk b n f) {l1 : Nat} {l2 : Int} (zl1 : zI_fl l1) (zl2 : zR l2) (k : zTh (zCl AL V ST ex_km d 15 [zf b l1, enc l2, enc 2] (zM n (zWf b f g))) (zM n (zWf b f g)) [] (fun S M => k89_77 V ST d (zCl AL V ST ex_km d) (zRn AL V ST ex_km d kt_89) (zP [zf b 61, zf b l1, enc l2]) S M) = some r) : k89_71 V ST d (zCl AL V ST ex_km d) (zRn AL V ST ex_km d kt_89) (zP [zf b 61, zf b l1, enc l2]) [] (zM n (zWf b f g)) = some r := by
  unfold k89_71
  refine (zr_aload (v := zf b l1) rfl (zf_tA h _)).trans ?_
  refine (zr_iload (v := enc l2) rfl (enc_lt _)).trans ?_
  refine (zr_pshi 2 rfl).trans ?_
  refine zr_invV h [enc 2, enc l2] rfl (tk_fl zl1) (zA_cons (enc_l _) (zA_cons (enc_l _) zA_nil)) (zA_nil) (by decide) ?_
  exact k
theorem zs_89_63 (h : zOk b n f) {l1 : Nat} {l2 : Int} {s0 : Int} {s1 : Int} {s2 : Int} {s3 : Nat} (zl1 : zI_fl l1) (zl2 : zR l2) (zs0 : zR s0) (zs1 : zR s1) (zs2 : zR s2) (zs3 : zI_fl s3) (k : zTh (zCl AL V ST ex_km d 14 [zf b s3, enc s2, enc (nz (s1 + s0)), enc (nz (g 61 9))] (zM n (zWf b f g))) (zM n (zWf b f g)) [] (fun S M => k89_71 V ST d (zCl AL V ST ex_km d) (zRn AL V ST ex_km d kt_89) (zP [zf b 61, zf b l1, enc l2]) S M) = some r) : k89_63 V ST d (zCl AL V ST ex_km d) (zRn AL V ST ex_km d kt_89) (zP [zf b 61, zf b l1, enc l2]) [enc s0, enc s1, enc s2, zf b s3] (zM n (zWf b f g)) = some r := by
  unfold k89_63
  refine (zr_iadd).trans ?_
  refine (zr_aload (v := zf b 61) rfl (zf_tA h _)).trans ?_
  refine (zr_gfi h (ti_st_spacing rfl)).trans ?_
  refine zr_invV h [enc (nz (g 61 9)), enc (nz (s1 + s0)), enc s2] rfl (tk_fl zs3) (zA_cons (enc_l _) (zA_cons (enc_l _) (zA_cons (enc_l _) zA_nil))) (zA_nil) (by decide) ?_
  exact k
theorem zs_89_62 (h : zOk b n f) {l1 : Nat} {l2 : Int} {s0 : Int} {s1 : Int} {s2 : Nat} (zl1 : zI_fl l1) (zl2 : zR l2) (zs0 : zR s0) (zs1 : zR s1) (zs2 : zI_fl s2) (k : k89_63 V ST d (zCl AL V ST ex_km d) (zRn AL V ST ex_km d kt_89) (zP [zf b 61, zf b l1, enc l2]) [enc 3, enc s0, enc s1, zf b s2] (zM n (zWf b f g)) = some r) : k89_62 V ST d (zCl AL V ST ex_km d) (zRn AL V ST ex_km d kt_89) (zP [zf b 61, zf b l1, enc l2]) [enc s0, enc s1, zf b s2] (zM n (zWf b f g)) = some r := by
  unfold k89_62
  refine (zr_pshi 3 rfl).trans ?_
  exact k
theorem zs_89_55 (h : zOk b n f) {l1 : Nat} {l2 : Int} {s0 : Int} {s1 : Int} {s2 : Int} {s3 : Nat} (zl1 : zI_fl l1) (zl2 : zR l2) (zs0 : zR s0) (zs1 : zR s1) (zs2 : zR s2) (zs3 : zI_fl s3) (k : (if s0 = 0 then zRn AL V ST ex_km d kt_89 62 (zP [zf b 61, zf b l1, enc l2]) [enc s1, enc s2, zf b s3] (zM n (zWf b f g)) else zRn AL V ST ex_km d kt_89 63 (zP [zf b 61, zf b l1, enc l2]) [enc 1, enc s1, enc s2, zf b s3] (zM n (zWf b f g))) = some r) : k89_55 V ST d (zCl AL V ST ex_km d) (zRn AL V ST ex_km d kt_89) (zP [zf b 61, zf b l1, enc l2]) [enc s0, enc s1, enc s2, zf b s3] (zM n (zWf b f g)) = some r := by
  unfold k89_55
  by_cases c1 : s0 = 0
  · rw [if_pos c1] at k
    exact (zr_if_eq_t (zs0) c1).trans k
  · rw [if_neg c1] at k
    refine (zr_if_eq_n (zs0) c1).trans ?_
    refine (zr_pshi 1 rfl).trans ?_
    exact (zr_goto).trans k
theorem zs_89_33 (h : zOk b n f) {l1 : Nat} {l2 : Int} (zl1 : zI_fl l1) (zl2 : zR l2) (k : (if 0 ≤ l2 ∧ l2 < 16 then (if 0 ≤ l2 ∧ l2 < 16 then zTh (zCl AL V ST ex_km d 90 [zf b 61, zf b l1, enc l2, enc (nz ((nz (g (l1 + 3) l2)) + 1))] (zM n (zWf b f g))) (zM n (zWf b f g)) [enc (nz (g (l1 + 3) l2)), enc l2, zf b l1] (fun S M => k89_55 V ST d (zCl AL V ST ex_km d) (zRn AL V ST ex_km d kt_89) (zP [zf b 61, zf b l1, enc l2]) S M) else none) else none) = some r) : k89_33 V ST d (zCl AL V ST ex_km d) (zRn AL V ST ex_km d kt_89) (zP [zf b 61, zf b l1, enc l2]) [] (zM n (zWf b f g)) = some r := by
  unfold k89_33
  refine (zr_aload (v := zf b l1) rfl (zf_tA h _)).trans ?_
  refine (zr_iload (v := enc l2) rfl (enc_lt _)).trans ?_
  refine (zr_aload (v := zf b l1) rfl (zf_tA h _)).trans ?_
  refine (zr_gfr h (tr_fl_f zl1)).trans ?_
  refine (zr_iload (v := enc l2) rfl (enc_lt _)).trans ?_
  by_cases c1 : 0 ≤ l2 ∧ l2 < 16
  · rw [if_pos c1] at k
    refine (zr_iald h (ta_fl_f zl1) c1.1 (by have := c1.2; omega)).trans ?_
    refine (zr_aload (v := zf b 61) rfl (zf_tA h _)).trans ?_
    refine (zr_aload (v := zf b l1) rfl (zf_tA h _)).trans ?_
    refine (zr_iload (v := enc l2) rfl (enc_lt _)).trans ?_
    refine (zr_aload (v := zf b l1) rfl (zf_tA h _)).trans ?_
    refine (zr_gfr h (tr_fl_f zl1)).trans ?_
    refine (zr_iload (v := enc l2) rfl (enc_lt _)).trans ?_
    by_cases c2 : 0 ≤ l2 ∧ l2 < 16
    · rw [if_pos c2] at k
      refine (zr_iald h (ta_fl_f zl1) c2.1 (by have := c2.2; omega)).trans ?_
      refine (zr_pshi 1 rfl).trans ?_
      refine (zr_iadd).trans ?_
      refine zr_invV h [enc (nz ((nz (g (l1 + 3) l2)) + 1)), enc l2, zf b l1] rfl (tk_st rfl) (zA_cons (enc_l _) (zA_cons (enc_l _) (zA_cons (zf_l h _) zA_nil))) (zA_cons (enc_l _) (zA_cons (enc_l _) (zA_cons (zf_l h _) zA_nil))) (by decide) ?_
      exact k
    · rw [if_neg c2] at k; cases k
  · rw [if_neg c1] at k; cases k
theorem zs_89_30 (h : zOk b n f) {l1 : Nat} {l2 : Int} (zl1 : zI_fl l1) (zl2 : zR l2) (k : zRn AL V ST ex_km d kt_89 77 (zP [zf b 61, zf b l1, enc l2]) [] (zM n (zWf b f g)) = some r) : k89_30 V ST d (zCl AL V ST ex_km d) (zRn AL V ST ex_km d kt_89) (zP [zf b 61, zf b l1, enc l2]) [] (zM n (zWf b f g)) = some r := by
  unfold k89_30
  exact (zr_goto).trans k
theorem zs_89_12 (h : zOk b n f) {l1 : Nat} {l2 : Int} {s0 : Int} (zl1 : zI_fl l1) (zl2 : zR l2) (zs0 : zR s0) (k : (if s0 = 0 then zRn AL V ST ex_km d kt_89 33 (zP [zf b 61, zf b l1, enc l2]) [] (zM n (zWf b f g)) else (if 0 ≤ l2 ∧ l2 < 16 then zTh (zCl AL V ST ex_km d 14 [zf b l1, enc l2, enc (nz (g (l1 + 3) l2)), enc (nz (g 61 9))] (zM n (zWf b f g))) (zM n (zWf b f g)) [] (fun S M => k89_30 V ST d (zCl AL V ST ex_km d) (zRn AL V ST ex_km d kt_89) (zP [zf b 61, zf b l1, enc l2]) S M) else none)) = some r) : k89_12 V ST d (zCl AL V ST ex_km d) (zRn AL V ST ex_km d kt_89) (zP [zf b 61, zf b l1, enc l2]) [enc s0] (zM n (zWf b f g)) = some r := by
  unfold k89_12
  by_cases c1 : s0 = 0
  · rw [if_pos c1] at k
    exact (zr_if_eq_t (zs0) c1).trans k
  · rw [if_neg c1] at k
    refine (zr_if_eq_n (zs0) c1).trans ?_
    refine (zr_aload (v := zf b l1) rfl (zf_tA h _)).trans ?_
    refine (zr_iload (v := enc l2) rfl (enc_lt _)).trans ?_
    refine (zr_aload (v := zf b l1) rfl (zf_tA h _)).trans ?_
    refine (zr_gfr h (tr_fl_f zl1)).trans ?_
    refine (zr_iload (v := enc l2) rfl (enc_lt _)).trans ?_
    by_cases c2 : 0 ≤ l2 ∧ l2 < 16
    · rw [if_pos c2] at k
      refine (zr_iald h (ta_fl_f zl1) c2.1 (by have := c2.2; omega)).trans ?_
      refine (zr_aload (v := zf b 61) rfl (zf_tA h _)).trans ?_
      refine (zr_gfi h (ti_st_spacing rfl)).trans ?_
      refine zr_invV h [enc (nz (g 61 9)), enc (nz (g (l1 + 3) l2)), enc l2] rfl (tk_fl zl1) (zA_cons (enc_l _) (zA_cons (enc_l _) (zA_cons (enc_l _) zA_nil))) (zA_nil) (by decide) ?_
      exact k
    · rw [if_neg c2] at k; cases k
theorem zs_89_0 (h : zOk b n f) {l1 : Nat} {l2 : Int} (zl1 : zI_fl l1) (zl2 : zR l2) (k : (if 0 ≤ l2 ∧ l2 < 16 then zTh (zCl AL V ST ex_km d 90 [zf b 61, zf b l1, enc l2, enc (nz (g (l1 + 3) l2))] (zM n (zWf b f g))) (zM n (zWf b f g)) [] (fun S M => k89_12 V ST d (zCl AL V ST ex_km d) (zRn AL V ST ex_km d kt_89) (zP [zf b 61, zf b l1, enc l2]) S M) else none) = some r) : k89_0 V ST d (zCl AL V ST ex_km d) (zRn AL V ST ex_km d kt_89) (zP [zf b 61, zf b l1, enc l2]) [] (zM n (zWf b f g)) = some r := by
  unfold k89_0
  refine (zr_aload (v := zf b 61) rfl (zf_tA h _)).trans ?_
  refine (zr_aload (v := zf b l1) rfl (zf_tA h _)).trans ?_
  refine (zr_iload (v := enc l2) rfl (enc_lt _)).trans ?_
  refine (zr_aload (v := zf b l1) rfl (zf_tA h _)).trans ?_
  refine (zr_gfr h (tr_fl_f zl1)).trans ?_
  refine (zr_iload (v := enc l2) rfl (enc_lt _)).trans ?_
  by_cases c1 : 0 ≤ l2 ∧ l2 < 16
  · rw [if_pos c1] at k
    refine (zr_iald h (ta_fl_f zl1) c1.1 (by have := c1.2; omega)).trans ?_
    refine zr_invV h [enc (nz (g (l1 + 3) l2)), enc l2, zf b l1] rfl (tk_st rfl) (zA_cons (enc_l _) (zA_cons (enc_l _) (zA_cons (zf_l h _) zA_nil))) (zA_nil) (by decide) ?_
    exact k
  · rw [if_neg c1] at k; cases k
theorem zs_90_104 (h : zOk b n f) {l1 : Nat} {l2 : Int} {l3 : Int} {l4 : Int} {l5 : Int} {l6 : Int} {s0 : Int} (zl1 : zI_fl l1) (zl2 : zR l2) (zl3 : zR l3) (zl4 : zR l4) (zl5 : zR l5) (zl6 : zR l6) (zs0 : zR s0) (k : (if s0 = 0 ∨ s0 = 1 then some (enc s0, (zM n (zWf b f g))) else none) = some r) : k90_104 V ST d (zCl AL V ST ex_km d) (zRn AL V ST ex_km d kt_90) (zP [zf b 61, zf b l1, enc l2, enc l3, enc l4, enc l5, enc l6]) [enc s0] (zM n (zWf b f g)) = some r := by
  unfold k90_104
  by_cases c1 : s0 = 0 ∨ s0 = 1
  · rw [if_pos c1] at k
    exact (zr_breturn c1).trans k
  · rw [if_neg c1] at k; cases k
theorem zs_90_103 (h : zOk b n f) {l1 : Nat} {l2 : Int} {l3 : Int} {l4 : Int} {l5 : Int} {l6 : Int} (zl1 : zI_fl l1) (zl2 : zR l2) (zl3 : zR l3) (zl4 : zR l4) (zl5 : zR l5) (zl6 : zR l6) (k : k90_104 V ST d (zCl AL V ST ex_km d) (zRn AL V ST ex_km d kt_90) (zP [zf b 61, zf b l1, enc l2, enc l3, enc l4, enc l5, enc l6]) [enc 0] (zM n (zWf b f g)) = some r) : k90_103 V ST d (zCl AL V ST ex_km d) (zRn AL V ST ex_km d kt_90) (zP [zf b 61, zf b l1, enc l2, enc l3, enc l4, enc l5, enc l6]) [] (zM n (zWf b f g)) = some r := by
  unfold k90_103
  refine (zr_pshi 0 rfl).trans ?_
  exact k
theorem zs_90_0 (h : zOk b n f) (hST : ∀ s, 1 ≤ s → s < 169 → ST s = ex_st s) {l1 : Nat} {l2 : Int} {l3 : Int} (zl1 : zI_fl l1) (zl2 : zR l2) (zl3 : zR l3) (k : (if 0 ≤ l2 ∧ l2 < 16 then (if 0 ≤ zand l3 3 ∧ zand l3 3 < 4 then (if 0 ≤ l2 ∧ l2 < 16 then (if 0 ≤ zand l3 3 ∧ zand l3 3 < 4 then (if 0 ≤ l2 ∧ l2 < 16 then (if nz ((nz (g (l1 + 1) l2)) + (nz ((nz (g 61 9)) * (sa_STEP_X (zand l3 3))))) < nz (g 69 l2) then zRn AL V ST ex_km d kt_90 103 (zP [zf b 61, zf b l1, enc l2, enc l3, enc (zand l3 3), enc (nz ((nz (g (l1 + 1) l2)) + (nz ((nz (g 61 9)) * (sa_STEP_X (zand l3 3)))))), enc (nz ((nz (g (l1 + 2) l2)) + (nz ((nz (g 61 9)) * (sa_STEP_Y (zand l3 3))))))]) [] (zM n (zWf b f g)) else (if 0 ≤ l2 ∧ l2 < 16 then (if nz ((nz (g 69 l2)) + (nz (g 61 9))) < nz ((nz (g (l1 + 1) l2)) + (nz ((nz (g 61 9)) * (sa_STEP_X (zand l3 3))))) then zRn AL V ST ex_km d kt_90 103 (zP [zf b 61, zf b l1, enc l2, enc l3, enc (zand l3 3), enc (nz ((nz (g (l1 + 1) l2)) + (nz ((nz (g 61 9)) * (sa_STEP_X (zand l3 3)))))), enc (nz ((nz (g (l1 + 2) l2)) + (nz ((nz (g 61 9)) * (sa_STEP_Y (zand l3 3))))))]) [] (zM n (zWf b f g)) else (if 0 ≤ l2 ∧ l2 < 16 then (if nz ((nz (g (l1 + 2) l2)) + (nz ((nz (g 61 9)) * (sa_STEP_Y (zand l3 3))))) < nz (g 70 l2) then zRn AL V ST ex_km d kt_90 103 (zP [zf b 61, zf b l1, enc l2, enc l3, enc (zand l3 3), enc (nz ((nz (g (l1 + 1) l2)) + (nz ((nz (g 61 9)) * (sa_STEP_X (zand l3 3)))))), enc (nz ((nz (g (l1 + 2) l2)) + (nz ((nz (g 61 9)) * (sa_STEP_Y (zand l3 3))))))]) [] (zM n (zWf b f g)) else (if 0 ≤ l2 ∧ l2 < 16 then (if nz ((nz (g 70 l2)) + (nz (g 61 9))) < nz ((nz (g (l1 + 2) l2)) + (nz ((nz (g 61 9)) * (sa_STEP_Y (zand l3 3))))) then zRn AL V ST ex_km d kt_90 103 (zP [zf b 61, zf b l1, enc l2, enc l3, enc (zand l3 3), enc (nz ((nz (g (l1 + 1) l2)) + (nz ((nz (g 61 9)) * (sa_STEP_X (zand l3 3)))))), enc (nz ((nz (g (l1 + 2) l2)) + (nz ((nz (g 61 9)) * (sa_STEP_Y (zand l3 3))))))]) [] (zM n (zWf b f g)) else zRn AL V ST ex_km d kt_90 104 (zP [zf b 61, zf b l1, enc l2, enc l3, enc (zand l3 3), enc (nz ((nz (g (l1 + 1) l2)) + (nz ((nz (g 61 9)) * (sa_STEP_X (zand l3 3)))))), enc (nz ((nz (g (l1 + 2) l2)) + (nz ((nz (g 61 9)) * (sa_STEP_Y (zand l3 3))))))]) [enc 1] (zM n (zWf b f g))) else none)) else none)) else none)) else none) else none) else none) else none) else none) = some r) : k90_0 V ST d (zCl AL V ST ex_km d) (zRn AL V ST ex_km d kt_90) (zP [zf b 61, zf b l1, enc l2, enc l3, 137438953472, 137438953472, 137438953472]) [] (zM n (zWf b f g)) = some r := by
  unfold k90_0
  refine (zr_iload (v := enc l3) rfl (enc_lt _)).trans ?_
  refine (zr_pshi 3 rfl).trans ?_
  refine (zr_iand).trans ?_
  refine (zr_istore (w := enc l3) (vs' := [zf b 61, zf b l1, enc l2, enc l3, enc (zand l3 3), 137438953472, 137438953472]) rfl (enc_c2 _) (Nat.lt_trans (enc_lt _) (by decide)) (by decide) rfl (enc_lt _)).trans ?_
  refine (zr_aload (v := zf b l1) rfl (zf_tA h _)).trans ?_
  refine (zr_gfr h (tr_fl_x zl1)).trans ?_
  refine (zr_iload (v := enc l2) rfl (enc_lt _)).trans ?_
  by_cases c1 : 0 ≤ l2 ∧ l2 < 16
  · rw [if_pos c1] at k
    refine (zr_iald h (ta_fl_x zl1) c1.1 (by have := c1.2; omega)).trans ?_
    refine (zr_aload (v := zf b 61) rfl (zf_tA h _)).trans ?_
    refine (zr_gfi h (ti_st_spacing rfl)).trans ?_
    refine (zr_psh).trans ?_
    refine (zr_iload (v := enc (zand l3 3)) rfl (enc_lt _)).trans ?_
    by_cases c2 : 0 ≤ zand l3 3 ∧ zand l3 3 < 4
    · rw [if_pos c2] at k
      refine (zr_iaS (s := 9) (m := 4) ((hST 9 (by decide) (by decide)).symm ▸ (by decide +kernel : ex_get (ex_st 9) 0 = 64 + 256 * 4)) (by decide) c2.1 (by have := c2.2; omega) (by rw [hST 9 (by decide) (by decide)]; exact sa_STEP_X_E c2.1 c2.2) (by decide)).trans ?_
      refine (zr_imul).trans ?_
      refine (zr_iadd).trans ?_
      refine (zr_istore (w := enc (zand l3 3)) (vs' := [zf b 61, zf b l1, enc l2, enc l3, enc (zand l3 3), enc (nz ((nz (g (l1 + 1) l2)) + (nz ((nz (g 61 9)) * (sa_STEP_X (zand l3 3)))))), 137438953472]) rfl (enc_c2 _) (Nat.lt_trans (enc_lt _) (by decide)) (by decide) rfl (enc_lt _)).trans ?_
      refine (zr_aload (v := zf b l1) rfl (zf_tA h _)).trans ?_
      refine (zr_gfr h (tr_fl_y zl1)).trans ?_
      refine (zr_iload (v := enc l2) rfl (enc_lt _)).trans ?_
      by_cases c3 : 0 ≤ l2 ∧ l2 < 16
      · rw [if_pos c3] at k
        refine (zr_iald h (ta_fl_y zl1) c3.1 (by have := c3.2; omega)).trans ?_
        refine (zr_aload (v := zf b 61) rfl (zf_tA h _)).trans ?_
        refine (zr_gfi h (ti_st_spacing rfl)).trans ?_
        refine (zr_psh).trans ?_
        refine (zr_iload (v := enc (zand l3 3)) rfl (enc_lt _)).trans ?_
        by_cases c4 : 0 ≤ zand l3 3 ∧ zand l3 3 < 4
        · rw [if_pos c4] at k
          refine (zr_iaS (s := 10) (m := 4) ((hST 10 (by decide) (by decide)).symm ▸ (by decide +kernel : ex_get (ex_st 10) 0 = 64 + 256 * 4)) (by decide) c4.1 (by have := c4.2; omega) (by rw [hST 10 (by decide) (by decide)]; exact sa_STEP_Y_E c4.1 c4.2) (by decide)).trans ?_
          refine (zr_imul).trans ?_
          refine (zr_iadd).trans ?_
          refine (zr_istore (w := enc (nz ((nz (g (l1 + 1) l2)) + (nz ((nz (g 61 9)) * (sa_STEP_X (zand l3 3))))))) (vs' := [zf b 61, zf b l1, enc l2, enc l3, enc (zand l3 3), enc (nz ((nz (g (l1 + 1) l2)) + (nz ((nz (g 61 9)) * (sa_STEP_X (zand l3 3)))))), enc (nz ((nz (g (l1 + 2) l2)) + (nz ((nz (g 61 9)) * (sa_STEP_Y (zand l3 3))))))]) rfl (enc_c2 _) (Nat.lt_trans (enc_lt _) (by decide)) (by decide) rfl (enc_lt _)).trans ?_
          refine (zr_iload (v := enc (nz ((nz (g (l1 + 1) l2)) + (nz ((nz (g 61 9)) * (sa_STEP_X (zand l3 3))))))) rfl (enc_lt _)).trans ?_
          refine (zr_aload (v := zf b 61) rfl (zf_tA h _)).trans ?_
          refine (zr_gfr h (tr_st_boxX rfl)).trans ?_
          refine (zr_iload (v := enc l2) rfl (enc_lt _)).trans ?_
          by_cases c5 : 0 ≤ l2 ∧ l2 < 16
          · rw [if_pos c5] at k
            refine (zr_iald h (ta_st_boxX rfl) c5.1 (by have := c5.2; omega)).trans ?_
            by_cases c6 : nz ((nz (g (l1 + 1) l2)) + (nz ((nz (g 61 9)) * (sa_STEP_X (zand l3 3))))) < nz (g 69 l2)
            · rw [if_pos c6] at k
              exact (zr_icmp_lt_t (nz_R _) (nz_R _) c6).trans k
            · rw [if_neg c6] at k
              refine (zr_icmp_lt_n (nz_R _) (nz_R _) (Int.not_lt.mp c6)).trans ?_
              refine (zr_iload (v := enc (nz ((nz (g (l1 + 1) l2)) + (nz ((nz (g 61 9)) * (sa_STEP_X (zand l3 3))))))) rfl (enc_lt _)).trans ?_
              refine (zr_aload (v := zf b 61) rfl (zf_tA h _)).trans ?_
              refine (zr_gfr h (tr_st_boxX rfl)).trans ?_
              refine (zr_iload (v := enc l2) rfl (enc_lt _)).trans ?_
              by_cases c7 : 0 ≤ l2 ∧ l2 < 16
              · rw [if_pos c7] at k
                refine (zr_iald h (ta_st_boxX rfl) c7.1 (by have := c7.2; omega)).trans ?_
                refine (zr_aload (v := zf b 61) rfl (zf_tA h _)).trans ?_
                refine (zr_gfi h (ti_st_spacing rfl)).trans ?_
                refine (zr_iadd).trans ?_
                by_cases c8 : nz ((nz (g 69 l2)) + (nz (g 61 9))) < nz ((nz (g (l1 + 1) l2)) + (nz ((nz (g 61 9)) * (sa_STEP_X (zand l3 3)))))
                · rw [if_pos c8] at k
                  exact (zr_icmp_gt_t (nz_R _) (nz_R _) c8).trans k
                · rw [if_neg c8] at k
                  refine (zr_icmp_gt_n (nz_R _) (nz_R _) (Int.not_lt.mp c8)).trans ?_
                  refine (zr_iload (v := enc (nz ((nz (g (l1 + 2) l2)) + (nz ((nz (g 61 9)) * (sa_STEP_Y (zand l3 3))))))) rfl (enc_lt _)).trans ?_
                  refine (zr_aload (v := zf b 61) rfl (zf_tA h _)).trans ?_
                  refine (zr_gfr h (tr_st_boxY rfl)).trans ?_
                  refine (zr_iload (v := enc l2) rfl (enc_lt _)).trans ?_
                  by_cases c9 : 0 ≤ l2 ∧ l2 < 16
                  · rw [if_pos c9] at k
                    refine (zr_iald h (ta_st_boxY rfl) c9.1 (by have := c9.2; omega)).trans ?_
                    by_cases c10 : nz ((nz (g (l1 + 2) l2)) + (nz ((nz (g 61 9)) * (sa_STEP_Y (zand l3 3))))) < nz (g 70 l2)
                    · rw [if_pos c10] at k
                      exact (zr_icmp_lt_t (nz_R _) (nz_R _) c10).trans k
                    · rw [if_neg c10] at k
                      refine (zr_icmp_lt_n (nz_R _) (nz_R _) (Int.not_lt.mp c10)).trans ?_
                      refine (zr_iload (v := enc (nz ((nz (g (l1 + 2) l2)) + (nz ((nz (g 61 9)) * (sa_STEP_Y (zand l3 3))))))) rfl (enc_lt _)).trans ?_
                      refine (zr_aload (v := zf b 61) rfl (zf_tA h _)).trans ?_
                      refine (zr_gfr h (tr_st_boxY rfl)).trans ?_
                      refine (zr_iload (v := enc l2) rfl (enc_lt _)).trans ?_
                      by_cases c11 : 0 ≤ l2 ∧ l2 < 16
                      · rw [if_pos c11] at k
                        refine (zr_iald h (ta_st_boxY rfl) c11.1 (by have := c11.2; omega)).trans ?_
                        refine (zr_aload (v := zf b 61) rfl (zf_tA h _)).trans ?_
                        refine (zr_gfi h (ti_st_spacing rfl)).trans ?_
                        refine (zr_iadd).trans ?_
                        by_cases c12 : nz ((nz (g 70 l2)) + (nz (g 61 9))) < nz ((nz (g (l1 + 2) l2)) + (nz ((nz (g 61 9)) * (sa_STEP_Y (zand l3 3)))))
                        · rw [if_pos c12] at k
                          exact (zr_icmp_gt_t (nz_R _) (nz_R _) c12).trans k
                        · rw [if_neg c12] at k
                          refine (zr_icmp_gt_n (nz_R _) (nz_R _) (Int.not_lt.mp c12)).trans ?_
                          refine (zr_pshi 1 rfl).trans ?_
                          exact (zr_goto).trans k
                      · rw [if_neg c11] at k; cases k
                  · rw [if_neg c9] at k; cases k
              · rw [if_neg c7] at k; cases k
          · rw [if_neg c5] at k; cases k
        · rw [if_neg c4] at k; cases k
      · rw [if_neg c3] at k; cases k
    · rw [if_neg c2] at k; cases k
  · rw [if_neg c1] at k; cases k
theorem zs_91_159 (h : zOk b n f) {l1 : Nat} {l2 : Int} {l3 : Int} {l4 : Int} {l5 : Nat} {l6 : Nat} {l7 : Nat} (zl1 : zI_fl l1) (zl2 : zR l2) (zl3 : zR l3) (zl4 : zR l4) (zl5 : ex_c2 l5 = false ∧ l5 < 1099511627776) (zl6 : ex_c2 l6 = false ∧ l6 < 1099511627776) (zl7 : ex_c2 l7 = false ∧ l7 < 1099511627776) (k : some (137438953473, (zM n (zWf b f g))) = some r) : k91_159 V ST d (zCl AL V ST ex_km d) (zRn AL V ST ex_km d kt_91) (zP [zf b 61, zf b l1, enc l2, enc l3, enc l4, l5, l6, l7]) [] (zM n (zWf b f g)) = some r := by
  unfold k91_159
  exact zr_return.trans k
theorem zs_91_147 (h : zOk b n f) {l1 : Nat} {l2 : Int} {l3 : Int} {l4 : Int} {l5 : Int} {l6 : Int} {l7 : Int} (zl1 : zI_fl l1) (zl2 : zR l2) (zl3 : zR l3) (zl4 : zR l4) (zl5 : zR l5) (zl6 : zR l6) (zl7 : zR l7) (k : zTh (zCl AL V ST ex_km d 16 [zf b l1, enc l4, enc l6, enc l7, enc l5] (zM n (zWf b f g))) (zM n (zWf b f g)) [] (fun S M => k91_159 V ST d (zCl AL V ST ex_km d) (zRn AL V ST ex_km d kt_91) (zP [zf b 61, zf b l1, enc l2, enc l3, enc l4, enc l5, enc l6, enc l7]) S M) = some r) : k91_147 V ST d (zCl AL V ST ex_km d) (zRn AL V ST ex_km d kt_91) (zP [zf b 61, zf b l1, enc l2, enc l3, enc l4, enc l5, enc l6, enc l7]) [] (zM n (zWf b f g)) = some r := by
  unfold k91_147
  refine (zr_aload (v := zf b l1) rfl (zf_tA h _)).trans ?_
  refine (zr_iload (v := enc l4) rfl (enc_lt _)).trans ?_
  refine (zr_iload (v := enc l6) rfl (enc_lt _)).trans ?_
  refine (zr_iload (v := enc l7) rfl (enc_lt _)).trans ?_
  refine (zr_iload (v := enc l5) rfl (enc_lt _)).trans ?_
  refine zr_invV h [enc l5, enc l7, enc l6, enc l4] rfl (tk_fl zl1) (zA_cons (enc_l _) (zA_cons (enc_l _) (zA_cons (enc_l _) (zA_cons (enc_l _) zA_nil)))) (zA_nil) (by decide) ?_
  exact k
theorem zs_91_98 (h : zOk b n f) {l1 : Nat} {l2 : Int} {l3 : Int} {l4 : Int} {s0 : Int} (zl1 : zI_fl l1) (zl2 : zR l2) (zl3 : zR l3) (zl4 : zR l4) (zs0 : zR s0) (k : (if 0 ≤ l2 ∧ l2 < 16 then (if 0 ≤ l4 ∧ l4 < 16 then (if 0 ≤ l2 ∧ l2 < 16 then (if 0 ≤ l4 ∧ l4 < 16 then zTh (zCl AL V ST ex_km d 16 [zf b l1, enc l2, enc (nz (Int.tdiv (nz ((nz (g (l1 + 1) l2)) + (nz (g (l1 + 1) l4)))) 2)), enc (nz (Int.tdiv (nz ((nz (g (l1 + 2) l2)) + (nz (g (l1 + 2) l4)))) 2)), enc s0] (zM n (zWf b f g))) (zM n (zWf b f g)) [] (fun S M => k91_147 V ST d (zCl AL V ST ex_km d) (zRn AL V ST ex_km d kt_91) (zP [zf b 61, zf b l1, enc l2, enc l3, enc l4, enc s0, enc (nz (Int.tdiv (nz ((nz (g (l1 + 1) l2)) + (nz (g (l1 + 1) l4)))) 2)), enc (nz (Int.tdiv (nz ((nz (g (l1 + 2) l2)) + (nz (g (l1 + 2) l4)))) 2))]) S M) else none) else none) else none) else none) = some r) : k91_98 V ST d (zCl AL V ST ex_km d) (zRn AL V ST ex_km d kt_91) (zP [zf b 61, zf b l1, enc l2, enc l3, enc l4, 137438953472, 137438953472, 137438953472]) [enc s0] (zM n (zWf b f g)) = some r := by
  unfold k91_98
  refine (zr_istore (w := enc l4) (vs' := [zf b 61, zf b l1, enc l2, enc l3, enc l4, enc s0, 137438953472, 137438953472]) rfl (enc_c2 _) (Nat.lt_trans (enc_lt _) (by decide)) (by decide) rfl (enc_lt _)).trans ?_
  refine (zr_aload (v := zf b l1) rfl (zf_tA h _)).trans ?_
  refine (zr_gfr h (tr_fl_x zl1)).trans ?_
  refine (zr_iload (v := enc l2) rfl (enc_lt _)).trans ?_
  by_cases c1 : 0 ≤ l2 ∧ l2 < 16
  · rw [if_pos c1] at k
    refine (zr_iald h (ta_fl_x zl1) c1.1 (by have := c1.2; omega)).trans ?_
    refine (zr_aload (v := zf b l1) rfl (zf_tA h _)).trans ?_
    refine (zr_gfr h (tr_fl_x zl1)).trans ?_
    refine (zr_iload (v := enc l4) rfl (enc_lt _)).trans ?_
    by_cases c2 : 0 ≤ l4 ∧ l4 < 16
    · rw [if_pos c2] at k
      refine (zr_iald h (ta_fl_x zl1) c2.1 (by have := c2.2; omega)).trans ?_
      refine (zr_iadd).trans ?_
      refine (zr_pshi 2 rfl).trans ?_
      refine (zr_div (nz_R _) ((by unfold zR; omega)) (by decide)).trans ?_
      refine (zr_istore (w := enc s0) (vs' := [zf b 61, zf b l1, enc l2, enc l3, enc l4, enc s0, enc (nz (Int.tdiv (nz ((nz (g (l1 + 1) l2)) + (nz (g (l1 + 1) l4)))) 2)), 137438953472]) rfl (enc_c2 _) (Nat.lt_trans (enc_lt _) (by decide)) (by decide) rfl (enc_lt _)).trans ?_
      refine (zr_aload (v := zf b l1) rfl (zf_tA h _)).trans ?_
      refine (zr_gfr h (tr_fl_y zl1)).trans ?_
      refine (zr_iload (v := enc l2) rfl (enc_lt _)).trans ?_
      by_cases c3 : 0 ≤ l2 ∧ l2 < 16
      · rw [if_pos c3] at k
        refine (zr_iald h (ta_fl_y zl1) c3.1 (by have := c3.2; omega)).trans ?_
        refine (zr_aload (v := zf b l1) rfl (zf_tA h _)).trans ?_
        refine (zr_gfr h (tr_fl_y zl1)).trans ?_
        refine (zr_iload (v := enc l4) rfl (enc_lt _)).trans ?_
        by_cases c4 : 0 ≤ l4 ∧ l4 < 16
        · rw [if_pos c4] at k
          refine (zr_iald h (ta_fl_y zl1) c4.1 (by have := c4.2; omega)).trans ?_
          refine (zr_iadd).trans ?_
          refine (zr_pshi 2 rfl).trans ?_
          refine (zr_div (nz_R _) ((by unfold zR; omega)) (by decide)).trans ?_
          refine (zr_istore (w := enc (nz (Int.tdiv (nz ((nz (g (l1 + 1) l2)) + (nz (g (l1 + 1) l4)))) 2))) (vs' := [zf b 61, zf b l1, enc l2, enc l3, enc l4, enc s0, enc (nz (Int.tdiv (nz ((nz (g (l1 + 1) l2)) + (nz (g (l1 + 1) l4)))) 2)), enc (nz (Int.tdiv (nz ((nz (g (l1 + 2) l2)) + (nz (g (l1 + 2) l4)))) 2))]) rfl (enc_c2 _) (Nat.lt_trans (enc_lt _) (by decide)) (by decide) rfl (enc_lt _)).trans ?_
          refine (zr_aload (v := zf b l1) rfl (zf_tA h _)).trans ?_
          refine (zr_iload (v := enc l2) rfl (enc_lt _)).trans ?_
          refine (zr_iload (v := enc (nz (Int.tdiv (nz ((nz (g (l1 + 1) l2)) + (nz (g (l1 + 1) l4)))) 2))) rfl (enc_lt _)).trans ?_
          refine (zr_iload (v := enc (nz (Int.tdiv (nz ((nz (g (l1 + 2) l2)) + (nz (g (l1 + 2) l4)))) 2))) rfl (enc_lt _)).trans ?_
          refine (zr_iload (v := enc s0) rfl (enc_lt _)).trans ?_
          refine zr_invV h [enc s0, enc (nz (Int.tdiv (nz ((nz (g (l1 + 2) l2)) + (nz (g (l1 + 2) l4)))) 2)), enc (nz (Int.tdiv (nz ((nz (g (l1 + 1) l2)) + (nz (g (l1 + 1) l4)))) 2)), enc l2] rfl (tk_fl zl1) (zA_cons (enc_l _) (zA_cons (enc_l _) (zA_cons (enc_l _) (zA_cons (enc_l _) zA_nil)))) (zA_nil) (by decide) ?_
          exact k
        · rw [if_neg c4] at k; cases k
      · rw [if_neg c3] at k; cases k
    · rw [if_neg c2] at k; cases k
  · rw [if_neg c1] at k; cases k
theorem zs_91_97 (h : zOk b n f) {l1 : Nat} {l2 : Int} {l3 : Int} {l4 : Int} (zl1 : zI_fl l1) (zl2 : zR l2) (zl3 : zR l3) (zl4 : zR l4) (k : k91_98 V ST d (zCl AL V ST ex_km d) (zRn AL V ST ex_km d kt_91) (zP [zf b 61, zf b l1, enc l2, enc l3, enc l4, 137438953472, 137438953472, 137438953472]) [enc 1] (zM n (zWf b f g)) = some r) : k91_97 V ST d (zCl AL V ST ex_km d) (zRn AL V ST ex_km d kt_91) (zP [zf b 61, zf b l1, enc l2, enc l3, enc l4, 137438953472, 137438953472, 137438953472]) [] (zM n (zWf b f g)) = some r := by
  unfold k91_97
  refine (zr_pshi 1 rfl).trans ?_
  exact k
theorem zs_91_93 (h : zOk b n f) {l1 : Nat} {l2 : Int} {l3 : Int} {l4 : Int} (zl1 : zI_fl l1) (zl2 : zR l2) (zl3 : zR l3) (zl4 : zR l4) (k : zRn AL V ST ex_km d kt_91 98 (zP [zf b 61, zf b l1, enc l2, enc l3, enc l4, 137438953472, 137438953472, 137438953472]) [enc (-1)] (zM n (zWf b f g)) = some r) : k91_93 V ST d (zCl AL V ST ex_km d) (zRn AL V ST ex_km d kt_91) (zP [zf b 61, zf b l1, enc l2, enc l3, enc l4, 137438953472, 137438953472, 137438953472]) [] (zM n (zWf b f g)) = some r := by
  unfold k91_93
  refine (zr_pshi (-1) rfl).trans ?_
  exact (zr_goto).trans k
theorem zs_91_77 (h : zOk b n f) {l1 : Nat} {l2 : Int} {l3 : Int} {l4 : Int} (zl1 : zI_fl l1) (zl2 : zR l2) (zl3 : zR l3) (zl4 : zR l4) (k : (if l3 = 9 then zRn AL V ST ex_km d kt_91 93 (zP [zf b 61, zf b l1, enc l2, enc l3, enc l4, 137438953472, 137438953472, 137438953472]) [] (zM n (zWf b f g)) else (if 0 ≤ l2 ∧ l2 < 16 then (if nz (g 67 l2) = 3 then k91_93 V ST d (zCl AL V ST ex_km d) (zRn AL V ST ex_km d kt_91) (zP [zf b 61, zf b l1, enc l2, enc l3, enc l4, 137438953472, 137438953472, 137438953472]) [] (zM n (zWf b f g)) else zRn AL V ST ex_km d kt_91 97 (zP [zf b 61, zf b l1, enc l2, enc l3, enc l4, 137438953472, 137438953472, 137438953472]) [] (zM n (zWf b f g))) else none)) = some r) : k91_77 V ST d (zCl AL V ST ex_km d) (zRn AL V ST ex_km d kt_91) (zP [zf b 61, zf b l1, enc l2, enc l3, enc l4, 137438953472, 137438953472, 137438953472]) [] (zM n (zWf b f g)) = some r := by
  unfold k91_77
  refine (zr_iload (v := enc l3) rfl (enc_lt _)).trans ?_
  refine (zr_pshi 9 rfl).trans ?_
  by_cases c1 : l3 = 9
  · rw [if_pos c1] at k
    exact (zr_icmp_eq_t (zl3) ((by unfold zR; omega)) c1).trans k
  · rw [if_neg c1] at k
    refine (zr_icmp_eq_n (zl3) ((by unfold zR; omega)) c1).trans ?_
    refine (zr_aload (v := zf b 61) rfl (zf_tA h _)).trans ?_
    refine (zr_gfr h (tr_st_kind rfl)).trans ?_
    refine (zr_iload (v := enc l2) rfl (enc_lt _)).trans ?_
    by_cases c2 : 0 ≤ l2 ∧ l2 < 16
    · rw [if_pos c2] at k
      refine (zr_iald h (ta_st_kind rfl) c2.1 (by have := c2.2; omega)).trans ?_
      refine (zr_pshi 3 rfl).trans ?_
      by_cases c3 : nz (g 67 l2) = 3
      · rw [if_pos c3] at k
        refine (zr_icmp_ne_n (nz_R _) ((by unfold zR; omega)) c3).trans ?_
        exact k
      · rw [if_neg c3] at k
        exact (zr_icmp_ne_t (nz_R _) ((by unfold zR; omega)) c3).trans k
    · rw [if_neg c2] at k; cases k
theorem zs_91_74 (h : zOk b n f) {l1 : Nat} {l2 : Int} {l3 : Int} {l4 : Int} (zl1 : zI_fl l1) (zl2 : zR l2) (zl3 : zR l3) (zl4 : zR l4) (k : zRn AL V ST ex_km d kt_91 159 (zP [zf b 61, zf b l1, enc l2, enc l3, enc l4, 137438953472, 137438953472, 137438953472]) [] (zM n (zWf b f g)) = some r) : k91_74 V ST d (zCl AL V ST ex_km d) (zRn AL V ST ex_km d kt_91) (zP [zf b 61, zf b l1, enc l2, enc l3, enc l4, 137438953472, 137438953472, 137438953472]) [] (zM n (zWf b f g)) = some r := by
  unfold k91_74
  exact (zr_goto).trans k
theorem zs_91_68 (h : zOk b n f) {l1 : Nat} {l2 : Int} {l3 : Int} {l4 : Int} (zl1 : zI_fl l1) (zl2 : zR l2) (zl3 : zR l3) (zl4 : zR l4) (k : zTh (zCl AL V ST ex_km d 15 [zf b l1, enc l2, enc 2] (zM n (zWf b f g))) (zM n (zWf b f g)) [] (fun S M => k91_74 V ST d (zCl AL V ST ex_km d) (zRn AL V ST ex_km d kt_91) (zP [zf b 61, zf b l1, enc l2, enc l3, enc l4, 137438953472, 137438953472, 137438953472]) S M) = some r) : k91_68 V ST d (zCl AL V ST ex_km d) (zRn AL V ST ex_km d kt_91) (zP [zf b 61, zf b l1, enc l2, enc l3, enc l4, 137438953472, 137438953472, 137438953472]) [] (zM n (zWf b f g)) = some r := by
  unfold k91_68
  refine (zr_aload (v := zf b l1) rfl (zf_tA h _)).trans ?_
  refine (zr_iload (v := enc l2) rfl (enc_lt _)).trans ?_
  refine (zr_pshi 2 rfl).trans ?_
  refine zr_invV h [enc 2, enc l2] rfl (tk_fl zl1) (zA_cons (enc_l _) (zA_cons (enc_l _) zA_nil)) (zA_nil) (by decide) ?_
  exact k
theorem zs_91_55 (h : zOk b n f) {l1 : Nat} {l2 : Int} {l3 : Int} {l4 : Int} (zl1 : zI_fl l1) (zl2 : zR l2) (zl3 : zR l3) (zl4 : zR l4) (k : (if l3 = 12 then zTh (zCl AL V ST ex_km d 17 [zf b l1, enc l2, enc l4] (zM n (zWf b f g))) (zM n (zWf b f g)) [] (fun S M => k91_68 V ST d (zCl AL V ST ex_km d) (zRn AL V ST ex_km d kt_91) (zP [zf b 61, zf b l1, enc l2, enc l3, enc l4, 137438953472, 137438953472, 137438953472]) S M) else zRn AL V ST ex_km d kt_91 77 (zP [zf b 61, zf b l1, enc l2, enc l3, enc l4, 137438953472, 137438953472, 137438953472]) [] (zM n (zWf b f g))) = some r) : k91_55 V ST d (zCl AL V ST ex_km d) (zRn AL V ST ex_km d kt_91) (zP [zf b 61, zf b l1, enc l2, enc l3, enc l4, 137438953472, 137438953472, 137438953472]) [] (zM n (zWf b f g)) = some r := by
  unfold k91_55
  refine (zr_iload (v := enc l3) rfl (enc_lt _)).trans ?_
  refine (zr_pshi 12 rfl).trans ?_
  by_cases c1 : l3 = 12
  · rw [if_pos c1] at k
    refine (zr_icmp_ne_n (zl3) ((by unfold zR; omega)) c1).trans ?_
    refine (zr_aload (v := zf b l1) rfl (zf_tA h _)).trans ?_
    refine (zr_iload (v := enc l2) rfl (enc_lt _)).trans ?_
    refine (zr_iload (v := enc l4) rfl (enc_lt _)).trans ?_
    refine zr_invV h [enc l4, enc l2] rfl (tk_fl zl1) (zA_cons (enc_l _) (zA_cons (enc_l _) zA_nil)) (zA_nil) (by decide) ?_
    exact k
  · rw [if_neg c1] at k
    exact (zr_icmp_ne_t (zl3) ((by unfold zR; omega)) c1).trans k
theorem zs_91_52 (h : zOk b n f) {l1 : Nat} {l2 : Int} {l3 : Int} {l4 : Int} (zl1 : zI_fl l1) (zl2 : zR l2) (zl3 : zR l3) (zl4 : zR l4) (k : zRn AL V ST ex_km d kt_91 159 (zP [zf b 61, zf b l1, enc l2, enc l3, enc l4, 137438953472, 137438953472, 137438953472]) [] (zM n (zWf b f g)) = some r) : k91_52 V ST d (zCl AL V ST ex_km d) (zRn AL V ST ex_km d kt_91) (zP [zf b 61, zf b l1, enc l2, enc l3, enc l4, 137438953472, 137438953472, 137438953472]) [] (zM n (zWf b f g)) = some r := by
  unfold k91_52
  exact (zr_goto).trans k
theorem zs_91_39 (h : zOk b n f) {l1 : Nat} {l2 : Int} {l3 : Int} {l4 : Int} (zl1 : zI_fl l1) (zl2 : zR l2) (zl3 : zR l3) (zl4 : zR l4) (k : (if l3 = 10 then zTh (zCl AL V ST ex_km d 17 [zf b l1, enc l2, enc l4] (zM n (zWf b f g))) (zM n (zWf b f g)) [] (fun S M => k91_52 V ST d (zCl AL V ST ex_km d) (zRn AL V ST ex_km d kt_91) (zP [zf b 61, zf b l1, enc l2, enc l3, enc l4, 137438953472, 137438953472, 137438953472]) S M) else zRn AL V ST ex_km d kt_91 55 (zP [zf b 61, zf b l1, enc l2, enc l3, enc l4, 137438953472, 137438953472, 137438953472]) [] (zM n (zWf b f g))) = some r) : k91_39 V ST d (zCl AL V ST ex_km d) (zRn AL V ST ex_km d kt_91) (zP [zf b 61, zf b l1, enc l2, enc l3, enc l4, 137438953472, 137438953472, 137438953472]) [] (zM n (zWf b f g)) = some r := by
  unfold k91_39
  refine (zr_iload (v := enc l3) rfl (enc_lt _)).trans ?_
  refine (zr_pshi 10 rfl).trans ?_
  by_cases c1 : l3 = 10
  · rw [if_pos c1] at k
    refine (zr_icmp_ne_n (zl3) ((by unfold zR; omega)) c1).trans ?_
    refine (zr_aload (v := zf b l1) rfl (zf_tA h _)).trans ?_
    refine (zr_iload (v := enc l2) rfl (enc_lt _)).trans ?_
    refine (zr_iload (v := enc l4) rfl (enc_lt _)).trans ?_
    refine zr_invV h [enc l4, enc l2] rfl (tk_fl zl1) (zA_cons (enc_l _) (zA_cons (enc_l _) zA_nil)) (zA_nil) (by decide) ?_
    exact k
  · rw [if_neg c1] at k
    exact (zr_icmp_ne_t (zl3) ((by unfold zR; omega)) c1).trans k
theorem zs_91_38 (h : zOk b n f) {l1 : Nat} {l2 : Int} {l3 : Int} {l4 : Int} (zl1 : zI_fl l1) (zl2 : zR l2) (zl3 : zR l3) (zl4 : zR l4) (k : some (137438953473, (zM n (zWf b f g))) = some r) : k91_38 V ST d (zCl AL V ST ex_km d) (zRn AL V ST ex_km d kt_91) (zP [zf b 61, zf b l1, enc l2, enc l3, enc l4, 137438953472, 137438953472, 137438953472]) [] (zM n (zWf b f g)) = some r := by
  unfold k91_38
  exact zr_return.trans k
theorem zs_91_0 (h : zOk b n f) {l1 : Nat} {l2 : Int} {l3 : Int} (zl1 : zI_fl l1) (zl2 : zR l2) (zl3 : zR l3) (k : (if 0 ≤ l2 ∧ l2 < 16 then (if nz (g 66 l2) < 0 then zRn AL V ST ex_km d kt_91 38 (zP [zf b 61, zf b l1, enc l2, enc l3, enc (nz (g 66 l2)), 137438953472, 137438953472, 137438953472]) [] (zM n (zWf b f g)) else (if nz (g 66 l2) < nz (g l1 14) then (if nz (g 66 l2) < l2 then (if 0 ≤ nz (g 66 l2) ∧ nz (g 66 l2) < 16 then (if nz (g 63 (nz (g 66 l2))) = 0 then zRn AL V ST ex_km d kt_91 39 (zP [zf b 61, zf b l1, enc l2, enc l3, enc (nz (g 66 l2)), 137438953472, 137438953472, 137438953472]) [] (zM n (zWf b f g)) else k91_38 V ST d (zCl AL V ST ex_km d) (zRn AL V ST ex_km d kt_91) (zP [zf b 61, zf b l1, enc l2, enc l3, enc (nz (g 66 l2)), 137438953472, 137438953472, 137438953472]) [] (zM n (zWf b f g))) else none) else zRn AL V ST ex_km d kt_91 39 (zP [zf b 61, zf b l1, enc l2, enc l3, enc (nz (g 66 l2)), 137438953472, 137438953472, 137438953472]) [] (zM n (zWf b f g))) else zRn AL V ST ex_km d kt_91 38 (zP [zf b 61, zf b l1, enc l2, enc l3, enc (nz (g 66 l2)), 137438953472, 137438953472, 137438953472]) [] (zM n (zWf b f g)))) else none) = some r) : k91_0 V ST d (zCl AL V ST ex_km d) (zRn AL V ST ex_km d kt_91) (zP [zf b 61, zf b l1, enc l2, enc l3, 137438953472, 137438953472, 137438953472, 137438953472]) [] (zM n (zWf b f g)) = some r := by
  unfold k91_0
  refine (zr_aload (v := zf b 61) rfl (zf_tA h _)).trans ?_
  refine (zr_gfr h (tr_st_mate rfl)).trans ?_
  refine (zr_iload (v := enc l2) rfl (enc_lt _)).trans ?_
  by_cases c1 : 0 ≤ l2 ∧ l2 < 16
  · rw [if_pos c1] at k
    refine (zr_iald h (ta_st_mate rfl) c1.1 (by have := c1.2; omega)).trans ?_
    refine (zr_istore (w := enc l3) (vs' := [zf b 61, zf b l1, enc l2, enc l3, enc (nz (g 66 l2)), 137438953472, 137438953472, 137438953472]) rfl (enc_c2 _) (Nat.lt_trans (enc_lt _) (by decide)) (by decide) rfl (enc_lt _)).trans ?_
    refine (zr_iload (v := enc (nz (g 66 l2))) rfl (enc_lt _)).trans ?_
    by_cases c2 : nz (g 66 l2) < 0
    · rw [if_pos c2] at k
      exact (zr_if_lt_t (nz_R _) c2).trans k
    · rw [if_neg c2] at k
      refine (zr_if_lt_n (nz_R _) (Int.not_lt.mp c2)).trans ?_
      refine (zr_iload (v := enc (nz (g 66 l2))) rfl (enc_lt _)).trans ?_
      refine (zr_aload (v := zf b l1) rfl (zf_tA h _)).trans ?_
      refine (zr_gfi h (ti_fl_count zl1)).trans ?_
      by_cases c3 : nz (g 66 l2) < nz (g l1 14)
      · rw [if_pos c3] at k
        refine (zr_icmp_ge_n (nz_R _) (nz_R _) c3).trans ?_
        refine (zr_iload (v := enc (nz (g 66 l2))) rfl (enc_lt _)).trans ?_
        refine (zr_iload (v := enc l2) rfl (enc_lt _)).trans ?_
        by_cases c4 : nz (g 66 l2) < l2
        · rw [if_pos c4] at k
          refine (zr_icmp_ge_n (nz_R _) (zl2) c4).trans ?_
          refine (zr_aload (v := zf b 61) rfl (zf_tA h _)).trans ?_
          refine (zr_gfr h (tr_st_isDancing rfl)).trans ?_
          refine (zr_iload (v := enc (nz (g 66 l2))) rfl (enc_lt _)).trans ?_
          by_cases c5 : 0 ≤ nz (g 66 l2) ∧ nz (g 66 l2) < 16
          · rw [if_pos c5] at k
            refine (zr_bald h (ta_st_isDancing rfl) c5.1 (by have := c5.2; omega)).trans ?_
            by_cases c6 : nz (g 63 (nz (g 66 l2))) = 0
            · rw [if_pos c6] at k
              exact (zr_if_eq_t (nz_R _) c6).trans k
            · rw [if_neg c6] at k
              refine (zr_if_eq_n (nz_R _) c6).trans ?_
              exact k
          · rw [if_neg c5] at k; cases k
        · rw [if_neg c4] at k
          exact (zr_icmp_ge_t (nz_R _) (zl2) (Int.not_lt.mp c4)).trans k
      · rw [if_neg c3] at k
        exact (zr_icmp_ge_t (nz_R _) (nz_R _) (Int.not_lt.mp c3)).trans k
  · rw [if_neg c1] at k; cases k
end
end
