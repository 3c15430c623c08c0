noncomputable section

section
variable {AL : ex_AL} {V : ex_V} {ST : Nat → Nat} {d b n : Nat} {f : Nat → Nat} {g : Nat → Int → Int} {r : Nat × Nat}
theorem zs_26_0 (h : zOk b n f)   (k : k26_2 V ST d (zCl AL V ST ex_km d) (zRn AL V ST ex_km d kt_26) (zP [zf b 182, enc 0]) [] (zM n (zWf b f g)) = some r) : k26_0 V ST d (zCl AL V ST ex_km d) (zRn AL V ST ex_km d kt_26) (zP [zf b 182, 137438953472]) [] (zM n (zWf b f g)) = some r := by
  unfold k26_0
  refine (zr_pshi 0 rfl).trans ?_
  refine (zr_istore (w := zf b 182) (vs' := [zf b 182, enc 0]) rfl (zf_c2 h _) (Nat.lt_trans (zf_l h _) (by decide)) (by decide) rfl (enc_lt _)).trans ?_
  exact k
theorem zs_27_129 (h : zOk b n f) {l1 : Nat} {l2 : Int} {l3 : Nat} (zl1 : zI_fl l1) (zl2 : zR l2) (zl3 : ex_c2 l3 = false ∧ l3 < 1099511627776) (k : some (137438953473, (zM n (zWf b f g))) = some r) : k27_129 V ST d (zCl AL V ST ex_km d) (zRn AL V ST ex_km d kt_27) (zP [zf b 182, zf b l1, enc l2, l3]) [] (zM n (zWf b f g)) = some r := by
  unfold k27_129
  exact zr_return.trans k
theorem zs_27_123 (h : zOk b n f) {l1 : Nat} {l2 : Int} {l3 : Int} (zl1 : zI_fl l1) (zl2 : zR l2) (zl3 : zR l3) (k : zRn AL V ST ex_km d kt_27 2 (zP [zf b 182, zf b l1, enc (nz (l2 + 1)), enc l3]) [] (zM n (zWf b f g)) = some r) : k27_123 V ST d (zCl AL V ST ex_km d) (zRn AL V ST ex_km d kt_27) (zP [zf b 182, zf b l1, enc l2, enc l3]) [] (zM n (zWf b f g)) = some r := by
  unfold k27_123
  refine (zr_iinc (w := zf b l1) (x := l2) (i' := 1) (vs' := [zf b 182, zf b l1, enc (nz (l2 + 1)), enc l3]) rfl (zf_c2 h _) (Nat.lt_trans (zf_l h _) (by decide)) rfl rfl (by decide) rfl).trans ?_
  exact (zr_goto).trans k
theorem zs_27_107 (h : zOk b n f) {l1 : Nat} {l2 : Int} {l3 : Int} {s0 : Int} {s1 : Int} (zl1 : zI_fl l1) (zl2 : zR l2) (zl3 : zR l3) (zs0 : zR s0) (zs1 : zR s1) (k : (if 0 ≤ l2 ∧ l2 < 16 then (if 0 ≤ l2 ∧ l2 < 8 then k27_123 V ST d (zCl AL V ST ex_km d) (zRn AL V ST ex_km d kt_27) (zP [zf b 182, zf b l1, enc l2, enc l3]) [] (zM n (zWf b f (upd (upd g 182 4 (nz (s1 + s0))) 185 l2 (nz ((upd g 182 4 (nz (s1 + s0))) (l1 + 11) l2))))) else none) else none) = some r) : k27_107 V ST d (zCl AL V ST ex_km d) (zRn AL V ST ex_km d kt_27) (zP [zf b 182, zf b l1, enc l2, enc l3]) [enc s0, enc s1, zf b 182] (zM n (zWf b f g)) = some r := by
  unfold k27_107
  refine (zr_iadd).trans ?_
  refine (zr_pfi h (ti_flow_clashCount rfl)).trans ?_
  refine (zr_aload (v := zf b 182) rfl (zf_tA h _)).trans ?_
  refine (zr_gfr h (tr_flow_hands rfl)).trans ?_
  refine (zr_iload (v := enc l2) rfl (enc_lt _)).trans ?_
  refine (zr_aload (v := zf b l1) rfl (zf_tA h _)).trans ?_
  refine (zr_gfr h (tr_fl_lastHand zl1)).trans ?_
  refine (zr_iload (v := enc l2) rfl (enc_lt _)).trans ?_
  by_cases c1 : 0 ≤ l2 ∧ l2 < 16
  · rw [if_pos c1] at k
    refine (zr_iald h (ta_fl_lastHand zl1) c1.1 (by have := c1.2; omega)).trans ?_
    by_cases c2 : 0 ≤ l2 ∧ l2 < 8
    · rw [if_pos c2] at k
      refine (zr_iast h (ta_flow_hands rfl) c2.1 (by have := c2.2; omega)).trans ?_
      exact k
    · rw [if_neg c2] at k; cases k
  · rw [if_neg c1] at k; cases k
theorem zs_27_106 (h : zOk b n f) {l1 : Nat} {l2 : Int} {l3 : Int} {s0 : Int} (zl1 : zI_fl l1) (zl2 : zR l2) (zl3 : zR l3) (zs0 : zR s0) (k : k27_107 V ST d (zCl AL V ST ex_km d) (zRn AL V ST ex_km d kt_27) (zP [zf b 182, zf b l1, enc l2, enc l3]) [enc 0, enc s0, zf b 182] (zM n (zWf b f g)) = some r) : k27_106 V ST d (zCl AL V ST ex_km d) (zRn AL V ST ex_km d kt_27) (zP [zf b 182, zf b l1, enc l2, enc l3]) [enc s0, zf b 182] (zM n (zWf b f g)) = some r := by
  unfold k27_106
  refine (zr_pshi 0 rfl).trans ?_
  exact k
theorem zs_27_73 (h : zOk b n f) {l1 : Nat} {l2 : Int} {l3 : Int} (zl1 : zI_fl l1) (zl2 : zR l2) (zl3 : zR l3) (k : (if 0 ≤ l2 ∧ l2 < 16 then (if nz (g (l1 + 10) l2) = 0 then zRn AL V ST ex_km d kt_27 123 (zP [zf b 182, zf b l1, enc l2, enc l3]) [] (zM n (zWf b f g)) else (if 0 ≤ l2 ∧ l2 < 16 then (if 0 ≤ l2 ∧ l2 < 8 then (if nz (g (l1 + 10) l2) = nz (g 185 l2) then zRn AL V ST ex_km d kt_27 107 (zP [zf b 182, zf b l1, enc l2, enc l3]) [enc 1, enc (nz (g 182 4)), zf b 182] (zM n (zWf b f g)) else zRn AL V ST ex_km d kt_27 106 (zP [zf b 182, zf b l1, enc l2, enc l3]) [enc (nz (g 182 4)), zf b 182] (zM n (zWf b f g))) else none) else none)) else none) = some r) : k27_73 V ST d (zCl AL V ST ex_km d) (zRn AL V ST ex_km d kt_27) (zP [zf b 182, zf b l1, enc l2, enc l3]) [] (zM n (zWf b f g)) = some r := by
  unfold k27_73
  refine (zr_aload (v := zf b l1) rfl (zf_tA h _)).trans ?_
  refine (zr_gfr h (tr_fl_firstHand zl1)).trans ?_
  refine (zr_iload (v := enc l2) rfl (enc_lt _)).trans ?_
  by_cases c1 : 0 ≤ l2 ∧ l2 < 16
  · rw [if_pos c1] at k
    refine (zr_iald h (ta_fl_firstHand zl1) c1.1 (by have := c1.2; omega)).trans ?_
    by_cases c2 : nz (g (l1 + 10) l2) = 0
    · rw [if_pos c2] at k
      exact (zr_if_eq_t (nz_R _) c2).trans k
    · rw [if_neg c2] at k
      refine (zr_if_eq_n (nz_R _) c2).trans ?_
      refine (zr_aload (v := zf b 182) rfl (zf_tA h _)).trans ?_
      refine (zr_dup (zf_c2 h _)).trans ?_
      refine (zr_gfi h (ti_flow_clashCount rfl)).trans ?_
      refine (zr_aload (v := zf b l1) rfl (zf_tA h _)).trans ?_
      refine (zr_gfr h (tr_fl_firstHand zl1)).trans ?_
      refine (zr_iload (v := enc l2) rfl (enc_lt _)).trans ?_
      by_cases c3 : 0 ≤ l2 ∧ l2 < 16
      · rw [if_pos c3] at k
        refine (zr_iald h (ta_fl_firstHand zl1) c3.1 (by have := c3.2; omega)).trans ?_
        refine (zr_aload (v := zf b 182) rfl (zf_tA h _)).trans ?_
        refine (zr_gfr h (tr_flow_hands rfl)).trans ?_
        refine (zr_iload (v := enc l2) rfl (enc_lt _)).trans ?_
        by_cases c4 : 0 ≤ l2 ∧ l2 < 8
        · rw [if_pos c4] at k
          refine (zr_iald h (ta_flow_hands rfl) c4.1 (by have := c4.2; omega)).trans ?_
          by_cases c5 : nz (g (l1 + 10) l2) = nz (g 185 l2)
          · rw [if_pos c5] at k
            refine (zr_icmp_ne_n (nz_R _) (nz_R _) c5).trans ?_
            refine (zr_pshi 1 rfl).trans ?_
            exact (zr_goto).trans k
          · rw [if_neg c5] at k
            exact (zr_icmp_ne_t (nz_R _) (nz_R _) c5).trans k
        · rw [if_neg c4] at k; cases k
      · rw [if_neg c3] at k; cases k
  · rw [if_neg c1] at k; cases k
theorem zs_27_62 (h : zOk b n f) {l1 : Nat} {l2 : Int} {l3 : Int} {s0 : Int} {s1 : Int} (zl1 : zI_fl l1) (zl2 : zR l2) (zl3 : zR l3) (zs0 : zR s0) (zs1 : zR s1) (k : (if 0 ≤ l2 ∧ l2 < 8 then k27_73 V ST d (zCl AL V ST ex_km d) (zRn AL V ST ex_km d kt_27) (zP [zf b 182, zf b l1, enc l2, enc l3]) [] (zM n (zWf b f (upd (upd g 182 3 (nz (s1 + s0))) 184 l2 l3))) else none) = some r) : k27_62 V ST d (zCl AL V ST ex_km d) (zRn AL V ST ex_km d kt_27) (zP [zf b 182, zf b l1, enc l2, enc l3]) [enc s0, enc s1, zf b 182] (zM n (zWf b f g)) = some r := by
  unfold k27_62
  refine (zr_iadd).trans ?_
  refine (zr_pfi h (ti_flow_breaks rfl)).trans ?_
  refine (zr_aload (v := zf b 182) rfl (zf_tA h _)).trans ?_
  refine (zr_gfr h (tr_flow_flowing rfl)).trans ?_
  refine (zr_iload (v := enc l2) rfl (enc_lt _)).trans ?_
  refine (zr_iload (v := enc l3) rfl (enc_lt _)).trans ?_
  by_cases c1 : 0 ≤ l2 ∧ l2 < 8
  · rw [if_pos c1] at k
    refine (zr_iast h (ta_flow_flowing rfl) c1.1 (by have := c1.2; omega)).trans ?_
    exact k
  · rw [if_neg c1] at k; cases k
theorem zs_27_61 (h : zOk b n f) {l1 : Nat} {l2 : Int} {l3 : Int} {s0 : Int} (zl1 : zI_fl l1) (zl2 : zR l2) (zl3 : zR l3) (zs0 : zR s0) (k : k27_62 V ST d (zCl AL V ST ex_km d) (zRn AL V ST ex_km d kt_27) (zP [zf b 182, zf b l1, enc l2, enc l3]) [enc 0, enc s0, zf b 182] (zM n (zWf b f g)) = some r) : k27_61 V ST d (zCl AL V ST ex_km d) (zRn AL V ST ex_km d kt_27) (zP [zf b 182, zf b l1, enc l2, enc l3]) [enc s0, zf b 182] (zM n (zWf b f g)) = some r := by
  unfold k27_61
  refine (zr_pshi 0 rfl).trans ?_
  exact k
theorem zs_27_57 (h : zOk b n f) {l1 : Nat} {l2 : Int} {l3 : Int} {s0 : Int} (zl1 : zI_fl l1) (zl2 : zR l2) (zl3 : zR l3) (zs0 : zR s0) (k : zRn AL V ST ex_km d kt_27 62 (zP [zf b 182, zf b l1, enc l2, enc l3]) [enc 1, enc s0, zf b 182] (zM n (zWf b f g)) = some r) : k27_57 V ST d (zCl AL V ST ex_km d) (zRn AL V ST ex_km d kt_27) (zP [zf b 182, zf b l1, enc l2, enc l3]) [enc s0, zf b 182] (zM n (zWf b f g)) = some r := by
  unfold k27_57
  refine (zr_pshi 1 rfl).trans ?_
  exact (zr_goto).trans k
theorem zs_27_44 (h : zOk b n f) {l1 : Nat} {l2 : Int} {l3 : Int} {s0 : Int} (zl1 : zI_fl l1) (zl2 : zR l2) (zl3 : zR l3) (zs0 : zR s0) (k : (if l3 < 0 then (if 0 ≤ l2 ∧ l2 < 8 then (if 0 < nz (g 184 l2) then k27_57 V ST d (zCl AL V ST ex_km d) (zRn AL V ST ex_km d kt_27) (zP [zf b 182, zf b l1, enc l2, enc l3]) [enc s0, zf b 182] (zM n (zWf b f g)) else zRn AL V ST ex_km d kt_27 61 (zP [zf b 182, zf b l1, enc l2, enc l3]) [enc s0, zf b 182] (zM n (zWf b f g))) else none) else zRn AL V ST ex_km d kt_27 61 (zP [zf b 182, zf b l1, enc l2, enc l3]) [enc s0, zf b 182] (zM n (zWf b f g))) = some r) : k27_44 V ST d (zCl AL V ST ex_km d) (zRn AL V ST ex_km d kt_27) (zP [zf b 182, zf b l1, enc l2, enc l3]) [enc s0, zf b 182] (zM n (zWf b f g)) = some r := by
  unfold k27_44
  refine (zr_iload (v := enc l3) rfl (enc_lt _)).trans ?_
  by_cases c1 : l3 < 0
  · rw [if_pos c1] at k
    refine (zr_if_ge_n (zl3) c1).trans ?_
    refine (zr_aload (v := zf b 182) rfl (zf_tA h _)).trans ?_
    refine (zr_gfr h (tr_flow_flowing rfl)).trans ?_
    refine (zr_iload (v := enc l2) rfl (enc_lt _)).trans ?_
    by_cases c2 : 0 ≤ l2 ∧ l2 < 8
    · rw [if_pos c2] at k
      refine (zr_iald h (ta_flow_flowing rfl) c2.1 (by have := c2.2; omega)).trans ?_
      by_cases c3 : 0 < nz (g 184 l2)
      · rw [if_pos c3] at k
        refine (zr_if_le_n (nz_R _) c3).trans ?_
        exact k
      · rw [if_neg c3] at k
        exact (zr_if_le_t (nz_R _) (Int.not_lt.mp c3)).trans k
    · rw [if_neg c2] at k; cases k
  · rw [if_neg c1] at k
    exact (zr_if_ge_t (zl3) (Int.not_lt.mp c1)).trans k
theorem zs_27_2 (h : zOk b n f) {l1 : Nat} {l2 : Int} {l3 : Nat} (zl1 : zI_fl l1) (zl2 : zR l2) (zl3 : ex_c2 l3 = false ∧ l3 < 1099511627776) (k : (if l2 < 8 then (if 0 ≤ l2 ∧ l2 < 16 then (if 0 ≤ l2 ∧ l2 < 8 then (if nz (g (l1 + 9) l2) = 0 then zRn AL V ST ex_km d kt_27 73 (zP [zf b 182, zf b l1, enc l2, enc (nz (g (l1 + 9) l2))]) [] (zM n (zWf b f (upd g 183 l2 (nz (g (l1 + 9) l2))))) else (if 0 < nz (g (l1 + 9) l2) then (if 0 ≤ l2 ∧ l2 < 8 then (if nz ((upd g 183 l2 (nz (g (l1 + 9) l2))) 184 l2) < 0 then zRn AL V ST ex_km d kt_27 57 (zP [zf b 182, zf b l1, enc l2, enc (nz (g (l1 + 9) l2))]) [enc (nz ((upd g 183 l2 (nz (g (l1 + 9) l2))) 182 3)), zf b 182] (zM n (zWf b f (upd g 183 l2 (nz (g (l1 + 9) l2))))) else k27_44 V ST d (zCl AL V ST ex_km d) (zRn AL V ST ex_km d kt_27) (zP [zf b 182, zf b l1, enc l2, enc (nz (g (l1 + 9) l2))]) [enc (nz ((upd g 183 l2 (nz (g (l1 + 9) l2))) 182 3)), zf b 182] (zM n (zWf b f (upd g 183 l2 (nz (g (l1 + 9) l2)))))) else none) else zRn AL V ST ex_km d kt_27 44 (zP [zf b 182, zf b l1, enc l2, enc (nz (g (l1 + 9) l2))]) [enc (nz ((upd g 183 l2 (nz (g (l1 + 9) l2))) 182 3)), zf b 182] (zM n (zWf b f (upd g 183 l2 (nz (g (l1 + 9) l2))))))) else none) else none) else zRn AL V ST ex_km d kt_27 129 (zP [zf b 182, zf b l1, enc l2, l3]) [] (zM n (zWf b f g))) = some r) : k27_2 V ST d (zCl AL V ST ex_km d) (zRn AL V ST ex_km d kt_27) (zP [zf b 182, zf b l1, enc l2, l3]) [] (zM n (zWf b f g)) = some r := by
  unfold k27_2
  refine (zr_iload (v := enc l2) rfl (enc_lt _)).trans ?_
  refine (zr_pshi 8 rfl).trans ?_
  by_cases c1 : l2 < 8
  · rw [if_pos c1] at k
    refine (zr_icmp_ge_n (zl2) ((by unfold zR; omega)) c1).trans ?_
    refine (zr_aload (v := zf b l1) rfl (zf_tA h _)).trans ?_
    refine (zr_gfr h (tr_fl_turns zl1)).trans ?_
    refine (zr_iload (v := enc l2) rfl (enc_lt _)).trans ?_
    by_cases c2 : 0 ≤ l2 ∧ l2 < 16
    · rw [if_pos c2] at k
      refine (zr_iald h (ta_fl_turns zl1) c2.1 (by have := c2.2; omega)).trans ?_
      refine (zr_istore (w := enc l2) (vs' := [zf b 182, zf b l1, enc l2, enc (nz (g (l1 + 9) l2))]) rfl (enc_c2 _) (Nat.lt_trans (enc_lt _) (by decide)) (by decide) rfl (enc_lt _)).trans ?_
      refine (zr_aload (v := zf b 182) rfl (zf_tA h _)).trans ?_
      refine (zr_gfr h (tr_flow_lastTurns rfl)).trans ?_
      refine (zr_iload (v := enc l2) rfl (enc_lt _)).trans ?_
      refine (zr_iload (v := enc (nz (g (l1 + 9) l2))) rfl (enc_lt _)).trans ?_
      by_cases c3 : 0 ≤ l2 ∧ l2 < 8
      · rw [if_pos c3] at k
        refine (zr_iast h (ta_flow_lastTurns rfl) c3.1 (by have := c3.2; omega)).trans ?_
        refine (zr_iload (v := enc (nz (g (l1 + 9) l2))) rfl (enc_lt _)).trans ?_
        by_cases c4 : nz (g (l1 + 9) l2) = 0
        · rw [if_pos c4] at k
          exact (zr_if_eq_t (nz_R _) c4).trans k
        · rw [if_neg c4] at k
          refine (zr_if_eq_n (nz_R _) c4).trans ?_
          refine (zr_aload (v := zf b 182) rfl (zf_tA h _)).trans ?_
          refine (zr_dup (zf_c2 h _)).trans ?_
          refine (zr_gfi h (ti_flow_breaks rfl)).trans ?_
          refine (zr_iload (v := enc (nz (g (l1 + 9) l2))) rfl (enc_lt _)).trans ?_
          by_cases c5 : 0 < nz (g (l1 + 9) l2)
          · rw [if_pos c5] at k
            refine (zr_if_le_n (nz_R _) c5).trans ?_
            refine (zr_aload (v := zf b 182) rfl (zf_tA h _)).trans ?_
            refine (zr_gfr h (tr_flow_flowing rfl)).trans ?_
            refine (zr_iload (v := enc l2) rfl (enc_lt _)).trans ?_
            by_cases c6 : 0 ≤ l2 ∧ l2 < 8
            · rw [if_pos c6] at k
              refine (zr_iald h (ta_flow_flowing rfl) c6.1 (by have := c6.2; omega)).trans ?_
              by_cases c7 : nz ((upd g 183 l2 (nz (g (l1 + 9) l2))) 184 l2) < 0
              · rw [if_pos c7] at k
                exact (zr_if_lt_t (nz_R _) c7).trans k
              · rw [if_neg c7] at k
                refine (zr_if_lt_n (nz_R _) (Int.not_lt.mp c7)).trans ?_
                exact k
            · rw [if_neg c6] at k; cases k
          · rw [if_neg c5] at k
            exact (zr_if_le_t (nz_R _) (Int.not_lt.mp c5)).trans k
      · rw [if_neg c3] at k; cases k
    · rw [if_neg c2] at k; cases k
  · rw [if_neg c1] at k
    exact (zr_icmp_ge_t (zl2) ((by unfold zR; omega)) (Int.not_lt.mp c1)).trans k
theorem zs_27_0 (h : zOk b n f) {l1 : Nat} (zl1 : zI_fl l1) (k : k27_2 V ST d (zCl AL V ST ex_km d) (zRn AL V ST ex_km d kt_27) (zP [zf b 182, zf b l1, enc 0, 137438953472]) [] (zM n (zWf b f g)) = some r) : k27_0 V ST d (zCl AL V ST ex_km d) (zRn AL V ST ex_km d kt_27) (zP [zf b 182, zf b l1, 137438953472, 137438953472]) [] (zM n (zWf b f g)) = some r := by
  unfold k27_0
  refine (zr_pshi 0 rfl).trans ?_
  refine (zr_istore (w := zf b l1) (vs' := [zf b 182, zf b l1, enc 0, 137438953472]) rfl (zf_c2 h _) (Nat.lt_trans (zf_l h _) (by decide)) (by decide) rfl (enc_lt _)).trans ?_
  exact k
theorem zs_29_54 (h : zOk b n f) {l1 : Int} {l2 : Int} {l3 : Nat} (zl1 : zR l1) (zl2 : zR l2) (zl3 : ex_c2 l3 = false ∧ l3 < 1099511627776) (k : some (137438953473, (zM n (zWf b f g))) = some r) : k29_54 V ST d (zCl AL V ST ex_km d) (zRn AL V ST ex_km d kt_29) (zP [zf b 187, enc l1, enc l2, l3]) [] (zM n (zWf b f g)) = some r := by
  unfold k29_54
  exact zr_return.trans k
theorem zs_29_48 (h : zOk b n f) {l1 : Int} {l2 : Int} {l3 : Int} (zl1 : zR l1) (zl2 : zR l2) (zl3 : zR l3) (k : zRn AL V ST ex_km d kt_29 12 (zP [zf b 187, enc l1, enc (nz (l2 + 1)), enc l3]) [] (zM n (zWf b f g)) = some r) : k29_48 V ST d (zCl AL V ST ex_km d) (zRn AL V ST ex_km d kt_29) (zP [zf b 187, enc l1, enc l2, enc l3]) [] (zM n (zWf b f g)) = some r := by
  unfold k29_48
  refine (zr_iinc (w := enc l1) (x := l2) (i' := 1) (vs' := [zf b 187, enc l1, enc (nz (l2 + 1)), enc l3]) rfl (enc_c2 _) (Nat.lt_trans (enc_lt _) (by decide)) rfl rfl (by decide) rfl).trans ?_
  exact (zr_goto).trans k
theorem zs_29_27 (h : zOk b n f) {l1 : Int} {l2 : Int} {l3 : Int} (zl1 : zR l1) (zl2 : zR l2) (zl3 : zR l3) (k : (if l3 < 16 then (if 0 ≤ l2 ∧ l2 < 16 then (if 0 ≤ l3 ∧ l3 < 16 then zRn AL V ST ex_km d kt_29 27 (zP [zf b 187, enc l1, enc l2, enc (nz (l3 + 1))]) [] (zM n (zWf b f (upd g (219 + 1 + Int.toNat l2) l3 0))) else none) else none) else zRn AL V ST ex_km d kt_29 48 (zP [zf b 187, enc l1, enc l2, enc l3]) [] (zM n (zWf b f g))) = some r) : k29_27 V ST d (zCl AL V ST ex_km d) (zRn AL V ST ex_km d kt_29) (zP [zf b 187, enc l1, enc l2, enc l3]) [] (zM n (zWf b f g)) = some r := by
  unfold k29_27
  refine (zr_iload (v := enc l3) rfl (enc_lt _)).trans ?_
  refine (zr_pshi 16 rfl).trans ?_
  by_cases c1 : l3 < 16
  · rw [if_pos c1] at k
    refine (zr_icmp_ge_n (zl3) ((by unfold zR; omega)) c1).trans ?_
    refine (zr_aload (v := zf b 187) rfl (zf_tA h _)).trans ?_
    refine (zr_gfr h (tr_party_meetings rfl)).trans ?_
    refine (zr_iload (v := enc l2) rfl (enc_lt _)).trans ?_
    by_cases c2 : 0 ≤ l2 ∧ l2 < 16
    · rw [if_pos c2] at k
      refine (zr_aald h (taa_party_meetings) c2.1 (by have := c2.2; omega)).trans ?_
      have a3 : zAr (219 + 1 + Int.toNat l2) 64 16 := ((taa_party_meetings).2.2.2.2 _ (by have := c2.1; have := c2.2; omega)).2.2
      refine (zr_iload (v := enc l3) rfl (enc_lt _)).trans ?_
      refine (zr_pshi 0 rfl).trans ?_
      by_cases c4 : 0 ≤ l3 ∧ l3 < 16
      · rw [if_pos c4] at k
        refine (zr_iast h a3 c4.1 (by have := c4.2; omega)).trans ?_
        refine (zr_iinc (w := enc l2) (x := l3) (i' := 1) (vs' := [zf b 187, enc l1, enc l2, enc (nz (l3 + 1))]) rfl (enc_c2 _) (Nat.lt_trans (enc_lt _) (by decide)) rfl rfl (by decide) rfl).trans ?_
        exact (zr_goto).trans k
      · rw [if_neg c4] at k; cases k
    · rw [if_neg c2] at k; cases k
  · rw [if_neg c1] at k
    exact (zr_icmp_ge_t (zl3) ((by unfold zR; omega)) (Int.not_lt.mp c1)).trans k
theorem zs_29_12 (h : zOk b n f) {l1 : Int} {l2 : Int} {l3 : Nat} (zl1 : zR l1) (zl2 : zR l2) (zl3 : ex_c2 l3 = false ∧ l3 < 1099511627776) (k : (if l2 < 16 then (if 0 ≤ l2 ∧ l2 < 16 then k29_27 V ST d (zCl AL V ST ex_km d) (zRn AL V ST ex_km d kt_29) (zP [zf b 187, enc l1, enc l2, enc 0]) [] (zM n (zWf b f (upd g 236 l2 0))) else none) else zRn AL V ST ex_km d kt_29 54 (zP [zf b 187, enc l1, enc l2, l3]) [] (zM n (zWf b f g))) = some r) : k29_12 V ST d (zCl AL V ST ex_km d) (zRn AL V ST ex_km d kt_29) (zP [zf b 187, enc l1, enc l2, l3]) [] (zM n (zWf b f g)) = some r := by
  unfold k29_12
  refine (zr_iload (v := enc l2) rfl (enc_lt _)).trans ?_
  refine (zr_pshi 16 rfl).trans ?_
  by_cases c1 : l2 < 16
  · rw [if_pos c1] at k
    refine (zr_icmp_ge_n (zl2) ((by unfold zR; omega)) c1).trans ?_
    refine (zr_aload (v := zf b 187) rfl (zf_tA h _)).trans ?_
    refine (zr_gfr h (tr_party_tipsDanced rfl)).trans ?_
    refine (zr_iload (v := enc l2) rfl (enc_lt _)).trans ?_
    refine (zr_pshi 0 rfl).trans ?_
    by_cases c2 : 0 ≤ l2 ∧ l2 < 16
    · rw [if_pos c2] at k
      refine (zr_iast h (ta_party_tipsDanced rfl) c2.1 (by have := c2.2; omega)).trans ?_
      refine (zr_pshi 0 rfl).trans ?_
      refine (zr_istore (w := enc l2) (vs' := [zf b 187, enc l1, enc l2, enc 0]) rfl (enc_c2 _) (Nat.lt_trans (enc_lt _) (by decide)) (by decide) rfl (enc_lt _)).trans ?_
      exact k
    · rw [if_neg c2] at k; cases k
  · rw [if_neg c1] at k
    exact (zr_icmp_ge_t (zl2) ((by unfold zR; omega)) (Int.not_lt.mp c1)).trans k
theorem zs_29_0 (h : zOk b n f) {l1 : Int} (zl1 : zR l1) (k : k29_12 V ST d (zCl AL V ST ex_km d) (zRn AL V ST ex_km d kt_29) (zP [zf b 187, enc l1, enc 0, 137438953472]) [] (zM n (zWf b f (upd (upd g 187 3 l1) 187 4 0))) = some r) : k29_0 V ST d (zCl AL V ST ex_km d) (zRn AL V ST ex_km d kt_29) (zP [zf b 187, enc l1, 137438953472, 137438953472]) [] (zM n (zWf b f g)) = some r := by
  unfold k29_0
  refine (zr_aload (v := zf b 187) rfl (zf_tA h _)).trans ?_
  refine (zr_iload (v := enc l1) rfl (enc_lt _)).trans ?_
  refine (zr_pfi h (ti_party_couples rfl)).trans ?_
  refine (zr_aload (v := zf b 187) rfl (zf_tA h _)).trans ?_
  refine (zr_pshi 0 rfl).trans ?_
  refine (zr_pfi h (ti_party_tips rfl)).trans ?_
  refine (zr_pshi 0 rfl).trans ?_
  refine (zr_istore (w := enc l1) (vs' := [zf b 187, enc l1, enc 0, 137438953472]) rfl (enc_c2 _) (Nat.lt_trans (enc_lt _) (by decide)) (by decide) rfl (enc_lt _)).trans ?_
  exact k
theorem zs_30_84 (h : zOk b n f) {l1 : Nat} {l2 : Int} {l3 : Int} {l4 : Nat} {l5 : Nat} (zl1 : zAr l1 64 16) (zl2 : zR l2) (zl3 : zR l3) (zl4 : ex_c2 l4 = false ∧ l4 < 1099511627776) (zl5 : ex_c2 l5 = false ∧ l5 < 1099511627776) (k : some (enc (nz ((nz ((upd g 187 4 (nz ((nz (g 187 4)) + 1))) 187 3)) - (nz (4 * l2)))), (zM n (zWf b f (upd g 187 4 (nz ((nz (g 187 4)) + 1)))))) = some r) : k30_84 V ST d (zCl AL V ST ex_km d) (zRn AL V ST ex_km d kt_30) (zP [zf b 187, zf b l1, enc l2, enc l3, l4, l5]) [] (zM n (zWf b f g)) = some r := by
  unfold k30_84
  refine (zr_aload (v := zf b 187) rfl (zf_tA h _)).trans ?_
  refine (zr_dup (zf_c2 h _)).trans ?_
  refine (zr_gfi h (ti_party_tips rfl)).trans ?_
  refine (zr_pshi 1 rfl).trans ?_
  refine (zr_iadd).trans ?_
  refine (zr_pfi h (ti_party_tips rfl)).trans ?_
  refine (zr_aload (v := zf b 187) rfl (zf_tA h _)).trans ?_
  refine (zr_gfi h (ti_party_couples rfl)).trans ?_
  refine (zr_pshi 4 rfl).trans ?_
  refine (zr_iload (v := enc l2) rfl (enc_lt _)).trans ?_
  refine (zr_imul).trans ?_
  refine (zr_isub).trans ?_
  exact zr_ireturn.trans k
theorem zs_30_78 (h : zOk b n f) {l1 : Nat} {l2 : Int} {l3 : Int} {l4 : Int} {l5 : Nat} (zl1 : zAr l1 64 16) (zl2 : zR l2) (zl3 : zR l3) (zl4 : zR l4) (zl5 : ex_c2 l5 = false ∧ l5 < 1099511627776) (k : zRn AL V ST ex_km d kt_30 37 (zP [zf b 187, zf b l1, enc l2, enc (nz (l3 + 1)), enc l4, l5]) [] (zM n (zWf b f g)) = some r) : k30_78 V ST d (zCl AL V ST ex_km d) (zRn AL V ST ex_km d kt_30) (zP [zf b 187, zf b l1, enc l2, enc l3, enc l4, l5]) [] (zM n (zWf b f g)) = some r := by
  unfold k30_78
  refine (zr_iinc (w := enc l2) (x := l3) (i' := 1) (vs' := [zf b 187, zf b l1, enc l2, enc (nz (l3 + 1)), enc l4, l5]) rfl (enc_c2 _) (Nat.lt_trans (enc_lt _) (by decide)) rfl rfl (by decide) rfl).trans ?_
  exact (zr_goto).trans k
theorem zs_30_72 (h : zOk b n f) {l1 : Nat} {l2 : Int} {l3 : Int} {l4 : Int} {l5 : Int} (zl1 : zAr l1 64 16) (zl2 : zR l2) (zl3 : zR l3) (zl4 : zR l4) (zl5 : zR l5) (k : zRn AL V ST ex_km d kt_30 45 (zP [zf b 187, zf b l1, enc l2, enc l3, enc (nz (l4 + 1)), enc l5]) [] (zM n (zWf b f g)) = some r) : k30_72 V ST d (zCl AL V ST ex_km d) (zRn AL V ST ex_km d kt_30) (zP [zf b 187, zf b l1, enc l2, enc l3, enc l4, enc l5]) [] (zM n (zWf b f g)) = some r := by
  unfold k30_72
  refine (zr_iinc (w := enc l3) (x := l4) (i' := 1) (vs' := [zf b 187, zf b l1, enc l2, enc l3, enc (nz (l4 + 1)), enc l5]) rfl (enc_c2 _) (Nat.lt_trans (enc_lt _) (by decide)) rfl rfl (by decide) rfl).trans ?_
  exact (zr_goto).trans k
theorem zs_30_57 (h : zOk b n f) {l1 : Nat} {l2 : Int} {l3 : Int} {l4 : Int} {l5 : Nat} {s0 : Int} (zl1 : zAr l1 64 16) (zl2 : zR l2) (zl3 : zR l3) (zl4 : zR l4) (zl5 : ex_c2 l5 = false ∧ l5 < 1099511627776) (zs0 : zR s0) (k : (if s0 < 0 then zRn AL V ST ex_km d kt_30 72 (zP [zf b 187, zf b l1, enc l2, enc l3, enc l4, enc s0]) [] (zM n (zWf b f g)) else zTh (zCl AL V ST ex_km d 33 [zf b 187, zf b l1, enc l3, enc s0] (zM n (zWf b f g))) (zM n (zWf b f g)) [] (fun S M => k30_72 V ST d (zCl AL V ST ex_km d) (zRn AL V ST ex_km d kt_30) (zP [zf b 187, zf b l1, enc l2, enc l3, enc l4, enc s0]) S M)) = some r) : k30_57 V ST d (zCl AL V ST ex_km d) (zRn AL V ST ex_km d kt_30) (zP [zf b 187, zf b l1, enc l2, enc l3, enc l4, l5]) [enc s0] (zM n (zWf b f g)) = some r := by
  unfold k30_57
  refine (zr_istore (w := enc l4) (vs' := [zf b 187, zf b l1, enc l2, enc l3, enc l4, enc s0]) rfl (enc_c2 _) (Nat.lt_trans (enc_lt _) (by decide)) (by decide) rfl (enc_lt _)).trans ?_
  refine (zr_iload (v := enc s0) rfl (enc_lt _)).trans ?_
  by_cases c1 : s0 < 0
  · rw [if_pos c1] at k
    exact (zr_if_lt_t (zs0) c1).trans k
  · rw [if_neg c1] at k
    refine (zr_if_lt_n (zs0) (Int.not_lt.mp c1)).trans ?_
    refine (zr_aload (v := zf b 187) rfl (zf_tA h _)).trans ?_
    refine (zr_aload (v := zf b l1) rfl (zf_tA h _)).trans ?_
    refine (zr_iload (v := enc l3) rfl (enc_lt _)).trans ?_
    refine (zr_iload (v := enc s0) rfl (enc_lt _)).trans ?_
    refine zr_invV h [enc s0, enc l3, zf b l1] rfl (tk_party rfl) (zA_cons (enc_l _) (zA_cons (enc_l _) (zA_cons (zf_l h _) zA_nil))) (zA_nil) (by decide) ?_
    exact k
theorem zs_30_45 (h : zOk b n f) {l1 : Nat} {l2 : Int} {l3 : Int} {l4 : Int} {l5 : Nat} (zl1 : zAr l1 64 16) (zl2 : zR l2) (zl3 : zR l3) (zl4 : zR l4) (zl5 : ex_c2 l5 = false ∧ l5 < 1099511627776) (k : (if l4 < 4 then zTh (zCl AL V ST ex_km d 31 [zf b 187, zf b l1, enc l3] (zM n (zWf b f g))) (zM n (zWf b f g)) [] (fun S M => k30_57 V ST d (zCl AL V ST ex_km d) (zRn AL V ST ex_km d kt_30) (zP [zf b 187, zf b l1, enc l2, enc l3, enc l4, l5]) S M) else zRn AL V ST ex_km d kt_30 78 (zP [zf b 187, zf b l1, enc l2, enc l3, enc l4, l5]) [] (zM n (zWf b f g))) = some r) : k30_45 V ST d (zCl AL V ST ex_km d) (zRn AL V ST ex_km d kt_30) (zP [zf b 187, zf b l1, enc l2, enc l3, enc l4, l5]) [] (zM n (zWf b f g)) = some r := by
  unfold k30_45
  refine (zr_iload (v := enc l4) rfl (enc_lt _)).trans ?_
  refine (zr_pshi 4 rfl).trans ?_
  by_cases c1 : l4 < 4
  · rw [if_pos c1] at k
    refine (zr_icmp_ge_n (zl4) ((by unfold zR; omega)) c1).trans ?_
    refine (zr_aload (v := zf b 187) rfl (zf_tA h _)).trans ?_
    refine (zr_aload (v := zf b l1) rfl (zf_tA h _)).trans ?_
    refine (zr_iload (v := enc l3) rfl (enc_lt _)).trans ?_
    refine zr_invV h [enc l3, zf b l1] rfl (tk_party rfl) (zA_cons (enc_l _) (zA_cons (zf_l h _) zA_nil)) (zA_nil) (by decide) ?_
    exact k
  · rw [if_neg c1] at k
    exact (zr_icmp_ge_t (zl4) ((by unfold zR; omega)) (Int.not_lt.mp c1)).trans k
theorem zs_30_37 (h : zOk b n f) {l1 : Nat} {l2 : Int} {l3 : Int} {l4 : Nat} {l5 : Nat} (zl1 : zAr l1 64 16) (zl2 : zR l2) (zl3 : zR l3) (zl4 : ex_c2 l4 = false ∧ l4 < 1099511627776) (zl5 : ex_c2 l5 = false ∧ l5 < 1099511627776) (k : (if l3 < l2 then k30_45 V ST d (zCl AL V ST ex_km d) (zRn AL V ST ex_km d kt_30) (zP [zf b 187, zf b l1, enc l2, enc l3, enc 0, l5]) [] (zM n (zWf b f g)) else zRn AL V ST ex_km d kt_30 84 (zP [zf b 187, zf b l1, enc l2, enc l3, l4, l5]) [] (zM n (zWf b f g))) = some r) : k30_37 V ST d (zCl AL V ST ex_km d) (zRn AL V ST ex_km d kt_30) (zP [zf b 187, zf b l1, enc l2, enc l3, l4, l5]) [] (zM n (zWf b f g)) = some r := by
  unfold k30_37
  refine (zr_iload (v := enc l3) rfl (enc_lt _)).trans ?_
  refine (zr_iload (v := enc l2) rfl (enc_lt _)).trans ?_
  by_cases c1 : l3 < l2
  · rw [if_pos c1] at k
    refine (zr_icmp_ge_n (zl3) (zl2) c1).trans ?_
    refine (zr_pshi 0 rfl).trans ?_
    refine (zr_istore (w := enc l3) (vs' := [zf b 187, zf b l1, enc l2, enc l3, enc 0, l5]) rfl (enc_c2 _) (Nat.lt_trans (enc_lt _) (by decide)) (by decide) rfl (enc_lt _)).trans ?_
    exact k
  · rw [if_neg c1] at k
    exact (zr_icmp_ge_t (zl3) (zl2) (Int.not_lt.mp c1)).trans k
theorem zs_30_28 (h : zOk b n f) {l1 : Nat} {l2 : Int} (zl1 : zAr l1 64 16) (zl2 : zR l2) (k : k30_37 V ST d (zCl AL V ST ex_km d) (zRn AL V ST ex_km d kt_30) (zP [zf b 187, zf b l1, enc (nz (Int.tdiv (nz (g 187 3)) 4)), enc 0, 137438953472, 137438953472]) [] (zM n (zWf b f g)) = some r) : k30_28 V ST d (zCl AL V ST ex_km d) (zRn AL V ST ex_km d kt_30) (zP [zf b 187, zf b l1, enc l2, 137438953472, 137438953472, 137438953472]) [] (zM n (zWf b f g)) = some r := by
  unfold k30_28
  refine (zr_aload (v := zf b 187) rfl (zf_tA h _)).trans ?_
  refine (zr_gfi h (ti_party_couples rfl)).trans ?_
  refine (zr_pshi 4 rfl).trans ?_
  refine (zr_div (nz_R _) ((by unfold zR; omega)) (by decide)).trans ?_
  refine (zr_istore (w := zf b l1) (vs' := [zf b 187, zf b l1, enc (nz (Int.tdiv (nz (g 187 3)) 4)), 137438953472, 137438953472, 137438953472]) rfl (zf_c2 h _) (Nat.lt_trans (zf_l h _) (by decide)) (by decide) rfl (enc_lt _)).trans ?_
  refine (zr_pshi 0 rfl).trans ?_
  refine (zr_istore (w := enc (nz (Int.tdiv (nz (g 187 3)) 4))) (vs' := [zf b 187, zf b l1, enc (nz (Int.tdiv (nz (g 187 3)) 4)), enc 0, 137438953472, 137438953472]) rfl (enc_c2 _) (Nat.lt_trans (enc_lt _) (by decide)) (by decide) rfl (enc_lt _)).trans ?_
  exact k
theorem zs_30_12 (h : zOk b n f) {l1 : Nat} {l2 : Int} (zl1 : zAr l1 64 16) (zl2 : zR l2) (k : (if l2 < 16 then (if 0 ≤ l2 ∧ l2 < 16 then zRn AL V ST ex_km d kt_30 12 (zP [zf b 187, zf b l1, enc (nz (l2 + 1)), 137438953472, 137438953472, 137438953472]) [] (zM n (zWf b f (upd g l1 l2 (-1)))) else none) else zRn AL V ST ex_km d kt_30 28 (zP [zf b 187, zf b l1, enc l2, 137438953472, 137438953472, 137438953472]) [] (zM n (zWf b f g))) = some r) : k30_12 V ST d (zCl AL V ST ex_km d) (zRn AL V ST ex_km d kt_30) (zP [zf b 187, zf b l1, enc l2, 137438953472, 137438953472, 137438953472]) [] (zM n (zWf b f g)) = some r := by
  unfold k30_12
  refine (zr_iload (v := enc l2) rfl (enc_lt _)).trans ?_
  refine (zr_pshi 16 rfl).trans ?_
  by_cases c1 : l2 < 16
  · rw [if_pos c1] at k
    refine (zr_icmp_ge_n (zl2) ((by unfold zR; omega)) c1).trans ?_
    refine (zr_aload (v := zf b l1) rfl (zf_tA h _)).trans ?_
    refine (zr_iload (v := enc l2) rfl (enc_lt _)).trans ?_
    refine (zr_pshi (-1) rfl).trans ?_
    by_cases c2 : 0 ≤ l2 ∧ l2 < 16
    · rw [if_pos c2] at k
      refine (zr_iast h zl1 c2.1 (by have := c2.2; omega)).trans ?_
      refine (zr_iinc (w := zf b l1) (x := l2) (i' := 1) (vs' := [zf b 187, zf b l1, enc (nz (l2 + 1)), 137438953472, 137438953472, 137438953472]) rfl (zf_c2 h _) (Nat.lt_trans (zf_l h _) (by decide)) rfl rfl (by decide) rfl).trans ?_
      exact (zr_goto).trans k
    · rw [if_neg c2] at k; cases k
  · rw [if_neg c1] at k
    exact (zr_icmp_ge_t (zl2) ((by unfold zR; omega)) (Int.not_lt.mp c1)).trans k
theorem zs_30_0 (h : zOk b n f)   (k : (if 0 ≤ nz (g 187 4) ∧ nz (g 187 4) < 30 then k30_12 V ST d (zCl AL V ST ex_km d) (zRn AL V ST ex_km d kt_30) (zP [zf b 187, zf b (188 + 1 + Int.toNat (nz (g 187 4))), enc 0, 137438953472, 137438953472, 137438953472]) [] (zM n (zWf b f g)) else none) = some r) : k30_0 V ST d (zCl AL V ST ex_km d) (zRn AL V ST ex_km d kt_30) (zP [zf b 187, 137438953472, 137438953472, 137438953472, 137438953472, 137438953472]) [] (zM n (zWf b f g)) = some r := by
  unfold k30_0
  refine (zr_aload (v := zf b 187) rfl (zf_tA h _)).trans ?_
  refine (zr_gfr h (tr_party_sets rfl)).trans ?_
  refine (zr_aload (v := zf b 187) rfl (zf_tA h _)).trans ?_
  refine (zr_gfi h (ti_party_tips rfl)).trans ?_
  by_cases c1 : 0 ≤ nz (g 187 4) ∧ nz (g 187 4) < 30
  · rw [if_pos c1] at k
    refine (zr_aald h (taa_party_sets) c1.1 (by have := c1.2; omega)).trans ?_
    have a2 : zAr (188 + 1 + Int.toNat (nz (g 187 4))) 64 16 := ((taa_party_sets).2.2.2.2 _ (by have := c1.1; have := c1.2; omega)).2.2
    refine (zr_astore (w := zf b 187) (vs' := [zf b 187, zf b (188 + 1 + Int.toNat (nz (g 187 4))), 137438953472, 137438953472, 137438953472, 137438953472]) rfl (zf_c2 h _) (Nat.lt_trans (zf_l h _) (by decide)) (by decide) rfl (zf_tA h _)).trans ?_
    refine (zr_pshi 0 rfl).trans ?_
    refine (zr_istore (w := zf b (188 + 1 + Int.toNat (nz (g 187 4)))) (vs' := [zf b 187, zf b (188 + 1 + Int.toNat (nz (g 187 4))), enc 0, 137438953472, 137438953472, 137438953472]) rfl (zf_c2 h _) (Nat.lt_trans (zf_l h _) (by decide)) (by decide) rfl (enc_lt _)).trans ?_
    exact k
  · rw [if_neg c1] at k; cases k
theorem zs_31_81 (h : zOk b n f) {l1 : Nat} {ml1 : Nat} {l2 : Int} {l3 : Int} {l4 : Int} {l5 : Int} {l6 : Nat} (zl1 : zAr l1 64 ml1) (zl2 : zR l2) (zl3 : zR l3) (zl4 : zR l4) (zl5 : zR l5) (zl6 : ex_c2 l6 = false ∧ l6 < 1099511627776) (k : some (enc l3, (zM n (zWf b f g))) = some r) : k31_81 V ST d (zCl AL V ST ex_km d) (zRn AL V ST ex_km d kt_31) (zP [zf b 187, zf b l1, enc l2, enc l3, enc l4, enc l5, l6]) [] (zM n (zWf b f g)) = some r := by
  unfold k31_81
  refine (zr_iload (v := enc l3) rfl (enc_lt _)).trans ?_
  exact zr_ireturn.trans k
theorem zs_31_75 (h : zOk b n f) {l1 : Nat} {ml1 : Nat} {l2 : Int} {l3 : Int} {l4 : Int} {l5 : Int} {l6 : Nat} (zl1 : zAr l1 64 ml1) (zl2 : zR l2) (zl3 : zR l3) (zl4 : zR l4) (zl5 : zR l5) (zl6 : ex_c2 l6 = false ∧ l6 < 1099511627776) (k : zRn AL V ST ex_km d kt_31 8 (zP [zf b 187, zf b l1, enc l2, enc l3, enc l4, enc (nz (l5 + 1)), l6]) [] (zM n (zWf b f g)) = some r) : k31_75 V ST d (zCl AL V ST ex_km d) (zRn AL V ST ex_km d kt_31) (zP [zf b 187, zf b l1, enc l2, enc l3, enc l4, enc l5, l6]) [] (zM n (zWf b f g)) = some r := by
  unfold k31_75
  refine (zr_iinc (w := enc l4) (x := l5) (i' := 1) (vs' := [zf b 187, zf b l1, enc l2, enc l3, enc l4, enc (nz (l5 + 1)), l6]) rfl (enc_c2 _) (Nat.lt_trans (enc_lt _) (by decide)) rfl rfl (by decide) rfl).trans ?_
  exact (zr_goto).trans k
theorem zs_31_68 (h : zOk b n f) {l1 : Nat} {ml1 : Nat} {l2 : Int} {l3 : Int} {l4 : Int} {l5 : Int} {l6 : Int} (zl1 : zAr l1 64 ml1) (zl2 : zR l2) (zl3 : zR l3) (zl4 : zR l4) (zl5 : zR l5) (zl6 : zR l6) (k : k31_75 V ST d (zCl AL V ST ex_km d) (zRn AL V ST ex_km d kt_31) (zP [zf b 187, zf b l1, enc l2, enc l5, enc l6, enc l5, enc l6]) [] (zM n (zWf b f g)) = some r) : k31_68 V ST d (zCl AL V ST ex_km d) (zRn AL V ST ex_km d kt_31) (zP [zf b 187, zf b l1, enc l2, enc l3, enc l4, enc l5, enc l6]) [] (zM n (zWf b f g)) = some r := by
  unfold k31_68
  refine (zr_iload (v := enc l5) rfl (enc_lt _)).trans ?_
  refine (zr_istore (w := enc l2) (vs' := [zf b 187, zf b l1, enc l2, enc l5, enc l4, enc l5, enc l6]) rfl (enc_c2 _) (Nat.lt_trans (enc_lt _) (by decide)) (by decide) rfl (enc_lt _)).trans ?_
  refine (zr_iload (v := enc l6) rfl (enc_lt _)).trans ?_
  refine (zr_istore (w := enc l5) (vs' := [zf b 187, zf b l1, enc l2, enc l5, enc l6, enc l5, enc l6]) rfl (enc_c2 _) (Nat.lt_trans (enc_lt _) (by decide)) (by decide) rfl (enc_lt _)).trans ?_
  exact k
theorem zs_31_32 (h : zOk b n f) {l1 : Nat} {ml1 : Nat} {l2 : Int} {l3 : Int} {l4 : Int} {l5 : Int} {l6 : Nat} {s0 : Int} (zl1 : zAr l1 64 ml1) (zl2 : zR l2) (zl3 : zR l3) (zl4 : zR l4) (zl5 : zR l5) (zl6 : ex_c2 l6 = false ∧ l6 < 1099511627776) (zs0 : zR s0) (k : (if l3 < 0 then zRn AL V ST ex_km d kt_31 68 (zP [zf b 187, zf b l1, enc l2, enc l3, enc l4, enc l5, enc s0]) [] (zM n (zWf b f g)) else (if s0 < l4 then zRn AL V ST ex_km d kt_31 68 (zP [zf b 187, zf b l1, enc l2, enc l3, enc l4, enc l5, enc s0]) [] (zM n (zWf b f g)) else (if s0 = l4 then (if 0 ≤ l5 ∧ l5 < 16 then (if 0 ≤ l3 ∧ l3 < 16 then (if nz (g 236 l5) < nz (g 236 l3) then k31_68 V ST d (zCl AL V ST ex_km d) (zRn AL V ST ex_km d kt_31) (zP [zf b 187, zf b l1, enc l2, enc l3, enc l4, enc l5, enc s0]) [] (zM n (zWf b f g)) else zRn AL V ST ex_km d kt_31 75 (zP [zf b 187, zf b l1, enc l2, enc l3, enc l4, enc l5, enc s0]) [] (zM n (zWf b f g))) else none) else none) else zRn AL V ST ex_km d kt_31 75 (zP [zf b 187, zf b l1, enc l2, enc l3, enc l4, enc l5, enc s0]) [] (zM n (zWf b f g))))) = some r) : k31_32 V ST d (zCl AL V ST ex_km d) (zRn AL V ST ex_km d kt_31) (zP [zf b 187, zf b l1, enc l2, enc l3, enc l4, enc l5, l6]) [enc s0] (zM n (zWf b f g)) = some r := by
  unfold k31_32
  refine (zr_istore (w := enc l5) (vs' := [zf b 187, zf b l1, enc l2, enc l3, enc l4, enc l5, enc s0]) rfl (enc_c2 _) (Nat.lt_trans (enc_lt _) (by decide)) (by decide) rfl (enc_lt _)).trans ?_
  refine (zr_iload (v := enc l3) rfl (enc_lt _)).trans ?_
  by_cases c1 : l3 < 0
  · rw [if_pos c1] at k
    exact (zr_if_lt_t (zl3) c1).trans k
  · rw [if_neg c1] at k
    refine (zr_if_lt_n (zl3) (Int.not_lt.mp c1)).trans ?_
    refine (zr_iload (v := enc s0) rfl (enc_lt _)).trans ?_
    refine (zr_iload (v := enc l4) rfl (enc_lt _)).trans ?_
    by_cases c2 : s0 < l4
    · rw [if_pos c2] at k
      exact (zr_icmp_lt_t (zs0) (zl4) c2).trans k
    · rw [if_neg c2] at k
      refine (zr_icmp_lt_n (zs0) (zl4) (Int.not_lt.mp c2)).trans ?_
      refine (zr_iload (v := enc s0) rfl (enc_lt _)).trans ?_
      refine (zr_iload (v := enc l4) rfl (enc_lt _)).trans ?_
      by_cases c3 : s0 = l4
      · rw [if_pos c3] at k
        refine (zr_icmp_ne_n (zs0) (zl4) c3).trans ?_
        refine (zr_aload (v := zf b 187) rfl (zf_tA h _)).trans ?_
        refine (zr_gfr h (tr_party_tipsDanced rfl)).trans ?_
        refine (zr_iload (v := enc l5) rfl (enc_lt _)).trans ?_
        by_cases c4 : 0 ≤ l5 ∧ l5 < 16
        · rw [if_pos c4] at k
          refine (zr_iald h (ta_party_tipsDanced rfl) c4.1 (by have := c4.2; omega)).trans ?_
          refine (zr_aload (v := zf b 187) rfl (zf_tA h _)).trans ?_
          refine (zr_gfr h (tr_party_tipsDanced rfl)).trans ?_
          refine (zr_iload (v := enc l3) rfl (enc_lt _)).trans ?_
          by_cases c5 : 0 ≤ l3 ∧ l3 < 16
          · rw [if_pos c5] at k
            refine (zr_iald h (ta_party_tipsDanced rfl) c5.1 (by have := c5.2; omega)).trans ?_
            by_cases c6 : nz (g 236 l5) < nz (g 236 l3)
            · rw [if_pos c6] at k
              refine (zr_icmp_ge_n (nz_R _) (nz_R _) c6).trans ?_
              exact k
            · rw [if_neg c6] at k
              exact (zr_icmp_ge_t (nz_R _) (nz_R _) (Int.not_lt.mp c6)).trans k
          · rw [if_neg c5] at k; cases k
        · rw [if_neg c4] at k; cases k
      · rw [if_neg c3] at k
        exact (zr_icmp_ne_t (zs0) (zl4) c3).trans k
theorem zs_31_8 (h : zOk b n f) {l1 : Nat} {ml1 : Nat} {l2 : Int} {l3 : Int} {l4 : Int} {l5 : Int} {l6 : Nat} (zl1 : zAr l1 64 ml1) (zl2 : zR l2) (zl3 : zR l3) (zl4 : zR l4) (zl5 : zR l5) (zl6 : ex_c2 l6 = false ∧ l6 < 1099511627776) (k : (if l5 < nz (g 187 3) then (if 0 ≤ l5 ∧ l5 < ml1 then (if nz (g l1 l5) < 0 then zTh (zCl AL V ST ex_km d 32 [zf b 187, zf b l1, enc l2, enc l5] (zM n (zWf b f g))) (zM n (zWf b f g)) [] (fun S M => k31_32 V ST d (zCl AL V ST ex_km d) (zRn AL V ST ex_km d kt_31) (zP [zf b 187, zf b l1, enc l2, enc l3, enc l4, enc l5, l6]) S M) else zRn AL V ST ex_km d kt_31 75 (zP [zf b 187, zf b l1, enc l2, enc l3, enc l4, enc l5, l6]) [] (zM n (zWf b f g))) else none) else zRn AL V ST ex_km d kt_31 81 (zP [zf b 187, zf b l1, enc l2, enc l3, enc l4, enc l5, l6]) [] (zM n (zWf b f g))) = some r) : k31_8 V ST d (zCl AL V ST ex_km d) (zRn AL V ST ex_km d kt_31) (zP [zf b 187, zf b l1, enc l2, enc l3, enc l4, enc l5, l6]) [] (zM n (zWf b f g)) = some r := by
  unfold k31_8
  refine (zr_iload (v := enc l5) rfl (enc_lt _)).trans ?_
  refine (zr_aload (v := zf b 187) rfl (zf_tA h _)).trans ?_
  refine (zr_gfi h (ti_party_couples rfl)).trans ?_
  by_cases c1 : l5 < nz (g 187 3)
  · rw [if_pos c1] at k
    refine (zr_icmp_ge_n (zl5) (nz_R _) c1).trans ?_
    refine (zr_aload (v := zf b l1) rfl (zf_tA h _)).trans ?_
    refine (zr_iload (v := enc l5) rfl (enc_lt _)).trans ?_
    by_cases c2 : 0 ≤ l5 ∧ l5 < ml1
    · rw [if_pos c2] at k
      refine (zr_iald h zl1 c2.1 (by have := c2.2; omega)).trans ?_
      by_cases c3 : nz (g l1 l5) < 0
      · rw [if_pos c3] at k
        refine (zr_if_ge_n (nz_R _) c3).trans ?_
        refine (zr_aload (v := zf b 187) rfl (zf_tA h _)).trans ?_
        refine (zr_aload (v := zf b l1) rfl (zf_tA h _)).trans ?_
        refine (zr_iload (v := enc l2) rfl (enc_lt _)).trans ?_
        refine (zr_iload (v := enc l5) rfl (enc_lt _)).trans ?_
        refine zr_invV h [enc l5, enc l2, zf b l1] rfl (tk_party rfl) (zA_cons (enc_l _) (zA_cons (enc_l _) (zA_cons (zf_l h _) zA_nil))) (zA_nil) (by decide) ?_
        exact k
      · rw [if_neg c3] at k
        exact (zr_if_ge_t (nz_R _) (Int.not_lt.mp c3)).trans k
    · rw [if_neg c2] at k; cases k
  · rw [if_neg c1] at k
    exact (zr_icmp_ge_t (zl5) (nz_R _) (Int.not_lt.mp c1)).trans k
theorem zs_31_0 (h : zOk b n f) {l1 : Nat} {ml1 : Nat} {l2 : Int} (zl1 : zAr l1 64 ml1) (zl2 : zR l2) (k : k31_8 V ST d (zCl AL V ST ex_km d) (zRn AL V ST ex_km d kt_31) (zP [zf b 187, zf b l1, enc l2, enc (-1), enc 0, enc 0, 137438953472]) [] (zM n (zWf b f g)) = some r) : k31_0 V ST d (zCl AL V ST ex_km d) (zRn AL V ST ex_km d kt_31) (zP [zf b 187, zf b l1, enc l2, 137438953472, 137438953472, 137438953472, 137438953472]) [] (zM n (zWf b f g)) = some r := by
  unfold k31_0
  refine (zr_pshi (-1) rfl).trans ?_
  refine (zr_istore (w := enc l2) (vs' := [zf b 187, zf b l1, enc l2, enc (-1), 137438953472, 137438953472, 137438953472]) rfl (enc_c2 _) (Nat.lt_trans (enc_lt _) (by decide)) (by decide) rfl (enc_lt _)).trans ?_
  refine (zr_pshi 0 rfl).trans ?_
  refine (zr_istore (w := enc (-1)) (vs' := [zf b 187, zf b l1, enc l2, enc (-1), enc 0, 137438953472, 137438953472]) rfl (enc_c2 _) (Nat.lt_trans (enc_lt _) (by decide)) (by decide) rfl (enc_lt _)).trans ?_
  refine (zr_pshi 0 rfl).trans ?_
  refine (zr_istore (w := enc 0) (vs' := [zf b 187, zf b l1, enc l2, enc (-1), enc 0, enc 0, 137438953472]) rfl (enc_c2 _) (Nat.lt_trans (enc_lt _) (by decide)) (by decide) rfl (enc_lt _)).trans ?_
  exact k
theorem zs_32_47 (h : zOk b n f) {l1 : Nat} {ml1 : Nat} {l2 : Int} {l3 : Int} {l4 : Int} {l5 : Int} (zl1 : zAr l1 64 ml1) (zl2 : zR l2) (zl3 : zR l3) (zl4 : zR l4) (zl5 : zR l5) (k : some (enc l4, (zM n (zWf b f g))) = some r) : k32_47 V ST d (zCl AL V ST ex_km d) (zRn AL V ST ex_km d kt_32) (zP [zf b 187, zf b l1, enc l2, enc l3, enc l4, enc l5]) [] (zM n (zWf b f g)) = some r := by
  unfold k32_47
  refine (zr_iload (v := enc l4) rfl (enc_lt _)).trans ?_
  exact zr_ireturn.trans k
theorem zs_32_38 (h : zOk b n f) {l1 : Nat} {ml1 : Nat} {l2 : Int} {l3 : Int} {l4 : Int} {l5 : Int} {s0 : Int} {s1 : Int} (zl1 : zAr l1 64 ml1) (zl2 : zR l2) (zl3 : zR l3) (zl4 : zR l4) (zl5 : zR l5) (zs0 : zR s0) (zs1 : zR s1) (k : zRn AL V ST ex_km d kt_32 6 (zP [zf b 187, zf b l1, enc l2, enc l3, enc (nz (s1 + s0)), enc (nz (l5 + 1))]) [] (zM n (zWf b f g)) = some r) : k32_38 V ST d (zCl AL V ST ex_km d) (zRn AL V ST ex_km d kt_32) (zP [zf b 187, zf b l1, enc l2, enc l3, enc l4, enc l5]) [enc s0, enc s1] (zM n (zWf b f g)) = some r := by
  unfold k32_38
  refine (zr_iadd).trans ?_
  refine (zr_istore (w := enc l3) (vs' := [zf b 187, zf b l1, enc l2, enc l3, enc (nz (s1 + s0)), enc l5]) rfl (enc_c2 _) (Nat.lt_trans (enc_lt _) (by decide)) (by decide) rfl (enc_lt _)).trans ?_
  refine (zr_iinc (w := enc (nz (s1 + s0))) (x := l5) (i' := 1) (vs' := [zf b 187, zf b l1, enc l2, enc l3, enc (nz (s1 + s0)), enc (nz (l5 + 1))]) rfl (enc_c2 _) (Nat.lt_trans (enc_lt _) (by decide)) rfl rfl (by decide) rfl).trans ?_
  exact (zr_goto).trans k
theorem zs_32_37 (h : zOk b n f) {l1 : Nat} {ml1 : Nat} {l2 : Int} {l3 : Int} {l4 : Int} {l5 : Int} {s0 : Int} (zl1 : zAr l1 64 ml1) (zl2 : zR l2) (zl3 : zR l3) (zl4 : zR l4) (zl5 : zR l5) (zs0 : zR s0) (k : k32_38 V ST d (zCl AL V ST ex_km d) (zRn AL V ST ex_km d kt_32) (zP [zf b 187, zf b l1, enc l2, enc l3, enc l4, enc l5]) [enc 0, enc s0] (zM n (zWf b f g)) = some r) : k32_37 V ST d (zCl AL V ST ex_km d) (zRn AL V ST ex_km d kt_32) (zP [zf b 187, zf b l1, enc l2, enc l3, enc l4, enc l5]) [enc s0] (zM n (zWf b f g)) = some r := by
  unfold k32_37
  refine (zr_pshi 0 rfl).trans ?_
  exact k
theorem zs_32_6 (h : zOk b n f) {l1 : Nat} {ml1 : Nat} {l2 : Int} {l3 : Int} {l4 : Int} {l5 : Int} (zl1 : zAr l1 64 ml1) (zl2 : zR l2) (zl3 : zR l3) (zl4 : zR l4) (zl5 : zR l5) (k : (if l5 < nz (g 187 3) then (if 0 ≤ l5 ∧ l5 < ml1 then (if nz (g l1 l5) = l2 then (if 0 ≤ l3 ∧ l3 < 16 then (if 0 ≤ l5 ∧ l5 < 16 then zRn AL V ST ex_km d kt_32 38 (zP [zf b 187, zf b l1, enc l2, enc l3, enc l4, enc l5]) [enc (nz (g (219 + 1 + Int.toNat l3) l5)), enc l4] (zM n (zWf b f g)) else none) else none) else zRn AL V ST ex_km d kt_32 37 (zP [zf b 187, zf b l1, enc l2, enc l3, enc l4, enc l5]) [enc l4] (zM n (zWf b f g))) else none) else zRn AL V ST ex_km d kt_32 47 (zP [zf b 187, zf b l1, enc l2, enc l3, enc l4, enc l5]) [] (zM n (zWf b f g))) = some r) : k32_6 V ST d (zCl AL V ST ex_km d) (zRn AL V ST ex_km d kt_32) (zP [zf b 187, zf b l1, enc l2, enc l3, enc l4, enc l5]) [] (zM n (zWf b f g)) = some r := by
  unfold k32_6
  refine (zr_iload (v := enc l5) rfl (enc_lt _)).trans ?_
  refine (zr_aload (v := zf b 187) rfl (zf_tA h _)).trans ?_
  refine (zr_gfi h (ti_party_couples rfl)).trans ?_
  by_cases c1 : l5 < nz (g 187 3)
  · rw [if_pos c1] at k
    refine (zr_icmp_ge_n (zl5) (nz_R _) c1).trans ?_
    refine (zr_iload (v := enc l4) rfl (enc_lt _)).trans ?_
    refine (zr_aload (v := zf b l1) rfl (zf_tA h _)).trans ?_
    refine (zr_iload (v := enc l5) rfl (enc_lt _)).trans ?_
    by_cases c2 : 0 ≤ l5 ∧ l5 < ml1
    · rw [if_pos c2] at k
      refine (zr_iald h zl1 c2.1 (by have := c2.2; omega)).trans ?_
      refine (zr_iload (v := enc l2) rfl (enc_lt _)).trans ?_
      by_cases c3 : nz (g l1 l5) = l2
      · rw [if_pos c3] at k
        refine (zr_icmp_ne_n (nz_R _) (zl2) c3).trans ?_
        refine (zr_aload (v := zf b 187) rfl (zf_tA h _)).trans ?_
        refine (zr_gfr h (tr_party_meetings rfl)).trans ?_
        refine (zr_iload (v := enc l3) rfl (enc_lt _)).trans ?_
        by_cases c4 : 0 ≤ l3 ∧ l3 < 16
        · rw [if_pos c4] at k
          refine (zr_aald h (taa_party_meetings) c4.1 (by have := c4.2; omega)).trans ?_
          have a5 : zAr (219 + 1 + Int.toNat l3) 64 16 := ((taa_party_meetings).2.2.2.2 _ (by have := c4.1; have := c4.2; omega)).2.2
          refine (zr_iload (v := enc l5) rfl (enc_lt _)).trans ?_
          by_cases c6 : 0 ≤ l5 ∧ l5 < 16
          · rw [if_pos c6] at k
            refine (zr_iald h a5 c6.1 (by have := c6.2; omega)).trans ?_
            exact (zr_goto).trans k
          · rw [if_neg c6] at k; cases k
        · rw [if_neg c4] at k; cases k
      · rw [if_neg c3] at k
        exact (zr_icmp_ne_t (nz_R _) (zl2) c3).trans k
    · rw [if_neg c2] at k; cases k
  · rw [if_neg c1] at k
    exact (zr_icmp_ge_t (zl5) (nz_R _) (Int.not_lt.mp c1)).trans k
theorem zs_32_0 (h : zOk b n f) {l1 : Nat} {ml1 : Nat} {l2 : Int} {l3 : Int} (zl1 : zAr l1 64 ml1) (zl2 : zR l2) (zl3 : zR l3) (k : k32_6 V ST d (zCl AL V ST ex_km d) (zRn AL V ST ex_km d kt_32) (zP [zf b 187, zf b l1, enc l2, enc l3, enc 0, enc 0]) [] (zM n (zWf b f g)) = some r) : k32_0 V ST d (zCl AL V ST ex_km d) (zRn AL V ST ex_km d kt_32) (zP [zf b 187, zf b l1, enc l2, enc l3, 137438953472, 137438953472]) [] (zM n (zWf b f g)) = some r := by
  unfold k32_0
  refine (zr_pshi 0 rfl).trans ?_
  refine (zr_istore (w := enc l3) (vs' := [zf b 187, zf b l1, enc l2, enc l3, enc 0, 137438953472]) rfl (enc_c2 _) (Nat.lt_trans (enc_lt _) (by decide)) (by decide) rfl (enc_lt _)).trans ?_
  refine (zr_pshi 0 rfl).trans ?_
  refine (zr_istore (w := enc 0) (vs' := [zf b 187, zf b l1, enc l2, enc l3, enc 0, enc 0]) rfl (enc_c2 _) (Nat.lt_trans (enc_lt _) (by decide)) (by decide) rfl (enc_lt _)).trans ?_
  exact k
theorem zs_33_52 (h : zOk b n f) {l1 : Nat} {ml1 : Nat} {l2 : Int} {l3 : Int} {l4 : Int} (zl1 : zAr l1 64 ml1) (zl2 : zR l2) (zl3 : zR l3) (zl4 : zR l4) (k : (if 0 ≤ l3 ∧ l3 < ml1 then (if 0 ≤ l3 ∧ l3 < 16 then (if 0 ≤ l3 ∧ l3 < 16 then some (137438953473, (zM n (zWf b f (upd (upd g l1 l3 l2) 236 l3 (nz ((nz ((upd g l1 l3 l2) 236 l3)) + 1)))))) else none) else none) else none) = some r) : k33_52 V ST d (zCl AL V ST ex_km d) (zRn AL V ST ex_km d kt_33) (zP [zf b 187, zf b l1, enc l2, enc l3, enc l4]) [] (zM n (zWf b f g)) = some r := by
  unfold k33_52
  refine (zr_aload (v := zf b l1) rfl (zf_tA h _)).trans ?_
  refine (zr_iload (v := enc l3) rfl (enc_lt _)).trans ?_
  refine (zr_iload (v := enc l2) rfl (enc_lt _)).trans ?_
  by_cases c1 : 0 ≤ l3 ∧ l3 < ml1
  · rw [if_pos c1] at k
    refine (zr_iast h zl1 c1.1 (by have := c1.2; omega)).trans ?_
    refine (zr_aload (v := zf b 187) rfl (zf_tA h _)).trans ?_
    refine (zr_gfr h (tr_party_tipsDanced rfl)).trans ?_
    refine (zr_iload (v := enc l3) rfl (enc_lt _)).trans ?_
    refine (zr_dup2 (enc_c2 _) (zf_c2 h _)).trans ?_
    by_cases c2 : 0 ≤ l3 ∧ l3 < 16
    · rw [if_pos c2] at k
      refine (zr_iald h (ta_party_tipsDanced rfl) c2.1 (by have := c2.2; omega)).trans ?_
      refine (zr_pshi 1 rfl).trans ?_
      refine (zr_iadd).trans ?_
      by_cases c3 : 0 ≤ l3 ∧ l3 < 16
      · rw [if_pos c3] at k
        refine (zr_iast h (ta_party_tipsDanced rfl) c3.1 (by have := c3.2; omega)).trans ?_
        exact zr_return.trans k
      · rw [if_neg c3] at k; cases k
    · rw [if_neg c2] at k; cases k
  · rw [if_neg c1] at k; cases k
theorem zs_33_46 (h : zOk b n f) {l1 : Nat} {ml1 : Nat} {l2 : Int} {l3 : Int} {l4 : Int} (zl1 : zAr l1 64 ml1) (zl2 : zR l2) (zl3 : zR l3) (zl4 : zR l4) (k : zRn AL V ST ex_km d kt_33 3 (zP [zf b 187, zf b l1, enc l2, enc l3, enc (nz (l4 + 1))]) [] (zM n (zWf b f g)) = some r) : k33_46 V ST d (zCl AL V ST ex_km d) (zRn AL V ST ex_km d kt_33) (zP [zf b 187, zf b l1, enc l2, enc l3, enc l4]) [] (zM n (zWf b f g)) = some r := by
  unfold k33_46
  refine (zr_iinc (w := enc l3) (x := l4) (i' := 1) (vs' := [zf b 187, zf b l1, enc l2, enc l3, enc (nz (l4 + 1))]) rfl (enc_c2 _) (Nat.lt_trans (enc_lt _) (by decide)) rfl rfl (by decide) rfl).trans ?_
  exact (zr_goto).trans k
theorem zs_33_3 (h : zOk b n f) {l1 : Nat} {ml1 : Nat} {l2 : Int} {l3 : Int} {l4 : Int} (zl1 : zAr l1 64 ml1) (zl2 : zR l2) (zl3 : zR l3) (zl4 : zR l4) (k : (if l4 < nz (g 187 3) then (if 0 ≤ l4 ∧ l4 < ml1 then (if nz (g l1 l4) = l2 then (if 0 ≤ l3 ∧ l3 < 16 then (if 0 ≤ l4 ∧ l4 < 16 then (if 0 ≤ l4 ∧ l4 < 16 then (if 0 ≤ l4 ∧ l4 < 16 then (if 0 ≤ l3 ∧ l3 < 16 then (if 0 ≤ l3 ∧ l3 < 16 then k33_46 V ST d (zCl AL V ST ex_km d) (zRn AL V ST ex_km d kt_33) (zP [zf b 187, zf b l1, enc l2, enc l3, enc l4]) [] (zM n (zWf b f (upd (upd g (219 + 1 + Int.toNat l3) l4 (nz ((nz (g (219 + 1 + Int.toNat l3) l4)) + 1))) (219 + 1 + Int.toNat l4) l3 (nz ((nz ((upd g (219 + 1 + Int.toNat l3) l4 (nz ((nz (g (219 + 1 + Int.toNat l3) l4)) + 1))) (219 + 1 + Int.toNat l4) l3)) + 1))))) else none) else none) else none) else none) else none) else none) else zRn AL V ST ex_km d kt_33 46 (zP [zf b 187, zf b l1, enc l2, enc l3, enc l4]) [] (zM n (zWf b f g))) else none) else zRn AL V ST ex_km d kt_33 52 (zP [zf b 187, zf b l1, enc l2, enc l3, enc l4]) [] (zM n (zWf b f g))) = some r) : k33_3 V ST d (zCl AL V ST ex_km d) (zRn AL V ST ex_km d kt_33) (zP [zf b 187, zf b l1, enc l2, enc l3, enc l4]) [] (zM n (zWf b f g)) = some r := by
  unfold k33_3
  refine (zr_iload (v := enc l4) rfl (enc_lt _)).trans ?_
  refine (zr_aload (v := zf b 187) rfl (zf_tA h _)).trans ?_
  refine (zr_gfi h (ti_party_couples rfl)).trans ?_
  by_cases c1 : l4 < nz (g 187 3)
  · rw [if_pos c1] at k
    refine (zr_icmp_ge_n (zl4) (nz_R _) c1).trans ?_
    refine (zr_aload (v := zf b l1) rfl (zf_tA h _)).trans ?_
    refine (zr_iload (v := enc l4) rfl (enc_lt _)).trans ?_
    by_cases c2 : 0 ≤ l4 ∧ l4 < ml1
    · rw [if_pos c2] at k
      refine (zr_iald h zl1 c2.1 (by have := c2.2; omega)).trans ?_
      refine (zr_iload (v := enc l2) rfl (enc_lt _)).trans ?_
      by_cases c3 : nz (g l1 l4) = l2
      · rw [if_pos c3] at k
        refine (zr_icmp_ne_n (nz_R _) (zl2) c3).trans ?_
        refine (zr_aload (v := zf b 187) rfl (zf_tA h _)).trans ?_
        refine (zr_gfr h (tr_party_meetings rfl)).trans ?_
        refine (zr_iload (v := enc l3) rfl (enc_lt _)).trans ?_
        by_cases c4 : 0 ≤ l3 ∧ l3 < 16
        · rw [if_pos c4] at k
          refine (zr_aald h (taa_party_meetings) c4.1 (by have := c4.2; omega)).trans ?_
          have a5 : zAr (219 + 1 + Int.toNat l3) 64 16 := ((taa_party_meetings).2.2.2.2 _ (by have := c4.1; have := c4.2; omega)).2.2
          refine (zr_iload (v := enc l4) rfl (enc_lt _)).trans ?_
          refine (zr_dup2 (enc_c2 _) (zf_c2 h _)).trans ?_
          by_cases c6 : 0 ≤ l4 ∧ l4 < 16
          · rw [if_pos c6] at k
            refine (zr_iald h a5 c6.1 (by have := c6.2; omega)).trans ?_
            refine (zr_pshi 1 rfl).trans ?_
            refine (zr_iadd).trans ?_
            by_cases c7 : 0 ≤ l4 ∧ l4 < 16
            · rw [if_pos c7] at k
              refine (zr_iast h a5 c7.1 (by have := c7.2; omega)).trans ?_
              refine (zr_aload (v := zf b 187) rfl (zf_tA h _)).trans ?_
              refine (zr_gfr h (tr_party_meetings rfl)).trans ?_
              refine (zr_iload (v := enc l4) rfl (enc_lt _)).trans ?_
              by_cases c8 : 0 ≤ l4 ∧ l4 < 16
              · rw [if_pos c8] at k
                refine (zr_aald h (taa_party_meetings) c8.1 (by have := c8.2; omega)).trans ?_
                have a9 : zAr (219 + 1 + Int.toNat l4) 64 16 := ((taa_party_meetings).2.2.2.2 _ (by have := c8.1; have := c8.2; omega)).2.2
                refine (zr_iload (v := enc l3) rfl (enc_lt _)).trans ?_
                refine (zr_dup2 (enc_c2 _) (zf_c2 h _)).trans ?_
                by_cases c10 : 0 ≤ l3 ∧ l3 < 16
                · rw [if_pos c10] at k
                  refine (zr_iald h a9 c10.1 (by have := c10.2; omega)).trans ?_
                  refine (zr_pshi 1 rfl).trans ?_
                  refine (zr_iadd).trans ?_
                  by_cases c11 : 0 ≤ l3 ∧ l3 < 16
                  · rw [if_pos c11] at k
                    refine (zr_iast h a9 c11.1 (by have := c11.2; omega)).trans ?_
                    exact k
                  · rw [if_neg c11] at k; cases k
                · rw [if_neg c10] at k; cases k
              · rw [if_neg c8] at k; cases k
            · rw [if_neg c7] at k; cases k
          · rw [if_neg c6] at k; cases k
        · rw [if_neg c4] at k; cases k
      · rw [if_neg c3] at k
        exact (zr_icmp_ne_t (nz_R _) (zl2) c3).trans k
    · rw [if_neg c2] at k; cases k
  · rw [if_neg c1] at k
    exact (zr_icmp_ge_t (zl4) (nz_R _) (Int.not_lt.mp c1)).trans k
theorem zs_33_0 (h : zOk b n f) {l1 : Nat} {ml1 : Nat} {l2 : Int} {l3 : Int} (zl1 : zAr l1 64 ml1) (zl2 : zR l2) (zl3 : zR l3) (k : k33_3 V ST d (zCl AL V ST ex_km d) (zRn AL V ST ex_km d kt_33) (zP [zf b 187, zf b l1, enc l2, enc l3, enc 0]) [] (zM n (zWf b f g)) = some r) : k33_0 V ST d (zCl AL V ST ex_km d) (zRn AL V ST ex_km d kt_33) (zP [zf b 187, zf b l1, enc l2, enc l3, 137438953472]) [] (zM n (zWf b f g)) = some r := by
  unfold k33_0
  refine (zr_pshi 0 rfl).trans ?_
  refine (zr_istore (w := enc l3) (vs' := [zf b 187, zf b l1, enc l2, enc l3, enc 0]) rfl (enc_c2 _) (Nat.lt_trans (enc_lt _) (by decide)) (by decide) rfl (enc_lt _)).trans ?_
  exact k
theorem zs_34_112 (h : zOk b n f) {l1 : Int} {l2 : Nat} {l3 : Nat} {l4 : Nat} (zl1 : zR l1) (zl2 : ex_c2 l2 = false ∧ l2 < 1099511627776) (zl3 : ex_c2 l3 = false ∧ l3 < 1099511627776) (zl4 : ex_c2 l4 = false ∧ l4 < 1099511627776) (k : some (enc 1, (zM n (zWf b f g))) = some r) : k34_112 V ST d (zCl AL V ST ex_km d) (zRn AL V ST ex_km d kt_34) (zP [zf b 187, enc l1, l2, l3, l4]) [] (zM n (zWf b f g)) = some r := by
  unfold k34_112
  refine (zr_pshi 1 rfl).trans ?_
  exact (zr_breturn (by decide)).trans k
theorem zs_34_106 (h : zOk b n f) {l1 : Int} {l2 : Int} {l3 : Nat} {l4 : Nat} (zl1 : zR l1) (zl2 : zR l2) (zl3 : ex_c2 l3 = false ∧ l3 < 1099511627776) (zl4 : ex_c2 l4 = false ∧ l4 < 1099511627776) (k : zRn AL V ST ex_km d kt_34 2 (zP [zf b 187, enc (nz (l1 + 1)), enc l2, l3, l4]) [] (zM n (zWf b f g)) = some r) : k34_106 V ST d (zCl AL V ST ex_km d) (zRn AL V ST ex_km d kt_34) (zP [zf b 187, enc l1, enc l2, l3, l4]) [] (zM n (zWf b f g)) = some r := by
  unfold k34_106
  refine (zr_iinc (w := zf b 187) (x := l1) (i' := 1) (vs' := [zf b 187, enc (nz (l1 + 1)), enc l2, l3, l4]) rfl (zf_c2 h _) (Nat.lt_trans (zf_l h _) (by decide)) rfl rfl (by decide) rfl).trans ?_
  exact (zr_goto).trans k
theorem zs_34_100 (h : zOk b n f) {l1 : Int} {l2 : Int} {l3 : Int} {l4 : Int} (zl1 : zR l1) (zl2 : zR l2) (zl3 : zR l3) (zl4 : zR l4) (k : zRn AL V ST ex_km d kt_34 12 (zP [zf b 187, enc l1, enc (nz (l2 + 1)), enc l3, enc l4]) [] (zM n (zWf b f g)) = some r) : k34_100 V ST d (zCl AL V ST ex_km d) (zRn AL V ST ex_km d kt_34) (zP [zf b 187, enc l1, enc l2, enc l3, enc l4]) [] (zM n (zWf b f g)) = some r := by
  unfold k34_100
  refine (zr_iinc (w := enc l1) (x := l2) (i' := 1) (vs' := [zf b 187, enc l1, enc (nz (l2 + 1)), enc l3, enc l4]) rfl (enc_c2 _) (Nat.lt_trans (enc_lt _) (by decide)) rfl rfl (by decide) rfl).trans ?_
  exact (zr_goto).trans k
theorem zs_34_81 (h : zOk b n f) {l1 : Int} {l2 : Int} {l3 : Int} {l4 : Int} (zl1 : zR l1) (zl2 : zR l2) (zl3 : zR l3) (zl4 : zR l4) (k : (if l1 = l2 then zRn AL V ST ex_km d kt_34 100 (zP [zf b 187, enc l1, enc l2, enc l3, enc l4]) [] (zM n (zWf b f g)) else (if 0 ≤ l1 ∧ l1 < 16 then (if 0 ≤ l2 ∧ l2 < 16 then (if l3 = nz (g (219 + 1 + Int.toNat l1) l2) then zRn AL V ST ex_km d kt_34 100 (zP [zf b 187, enc l1, enc l2, enc l3, enc l4]) [] (zM n (zWf b f g)) else some (enc 0, (zM n (zWf b f g)))) else none) else none)) = some r) : k34_81 V ST d (zCl AL V ST ex_km d) (zRn AL V ST ex_km d kt_34) (zP [zf b 187, enc l1, enc l2, enc l3, enc l4]) [] (zM n (zWf b f g)) = some r := by
  unfold k34_81
  refine (zr_iload (v := enc l1) rfl (enc_lt _)).trans ?_
  refine (zr_iload (v := enc l2) rfl (enc_lt _)).trans ?_
  by_cases c1 : l1 = l2
  · rw [if_pos c1] at k
    exact (zr_icmp_eq_t (zl1) (zl2) c1).trans k
  · rw [if_neg c1] at k
    refine (zr_icmp_eq_n (zl1) (zl2) c1).trans ?_
    refine (zr_iload (v := enc l3) rfl (enc_lt _)).trans ?_
    refine (zr_aload (v := zf b 187) rfl (zf_tA h _)).trans ?_
    refine (zr_gfr h (tr_party_meetings rfl)).trans ?_
    refine (zr_iload (v := enc l1) rfl (enc_lt _)).trans ?_
    by_cases c2 : 0 ≤ l1 ∧ l1 < 16
    · rw [if_pos c2] at k
      refine (zr_aald h (taa_party_meetings) c2.1 (by have := c2.2; omega)).trans ?_
      have a3 : zAr (219 + 1 + Int.toNat l1) 64 16 := ((taa_party_meetings).2.2.2.2 _ (by have := c2.1; have := c2.2; omega)).2.2
      refine (zr_iload (v := enc l2) rfl (enc_lt _)).trans ?_
      by_cases c4 : 0 ≤ l2 ∧ l2 < 16
      · rw [if_pos c4] at k
        refine (zr_iald h a3 c4.1 (by have := c4.2; omega)).trans ?_
        by_cases c5 : l3 = nz (g (219 + 1 + Int.toNat l1) l2)
        · rw [if_pos c5] at k
          exact (zr_icmp_eq_t (zl3) (nz_R _) c5).trans k
        · rw [if_neg c5] at k
          refine (zr_icmp_eq_n (zl3) (nz_R _) c5).trans ?_
          refine (zr_pshi 0 rfl).trans ?_
          exact (zr_breturn (by decide)).trans k
      · rw [if_neg c4] at k; cases k
    · rw [if_neg c2] at k; cases k
theorem zs_34_73 (h : zOk b n f) {l1 : Int} {l2 : Int} {l3 : Int} {l4 : Int} {s0 : Int} {s1 : Int} (zl1 : zR l1) (zl2 : zR l2) (zl3 : zR l3) (zl4 : zR l4) (zs0 : zR s0) (zs1 : zR s1) (k : zRn AL V ST ex_km d kt_34 25 (zP [zf b 187, enc l1, enc l2, enc (nz (s1 + s0)), enc (nz (l4 + 1))]) [] (zM n (zWf b f g)) = some r) : k34_73 V ST d (zCl AL V ST ex_km d) (zRn AL V ST ex_km d kt_34) (zP [zf b 187, enc l1, enc l2, enc l3, enc l4]) [enc s0, enc s1] (zM n (zWf b f g)) = some r := by
  unfold k34_73
  refine (zr_iadd).trans ?_
  refine (zr_istore (w := enc l2) (vs' := [zf b 187, enc l1, enc l2, enc (nz (s1 + s0)), enc l4]) rfl (enc_c2 _) (Nat.lt_trans (enc_lt _) (by decide)) (by decide) rfl (enc_lt _)).trans ?_
  refine (zr_iinc (w := enc (nz (s1 + s0))) (x := l4) (i' := 1) (vs' := [zf b 187, enc l1, enc l2, enc (nz (s1 + s0)), enc (nz (l4 + 1))]) rfl (enc_c2 _) (Nat.lt_trans (enc_lt _) (by decide)) rfl rfl (by decide) rfl).trans ?_
  exact (zr_goto).trans k
theorem zs_34_72 (h : zOk b n f) {l1 : Int} {l2 : Int} {l3 : Int} {l4 : Int} {s0 : Int} (zl1 : zR l1) (zl2 : zR l2) (zl3 : zR l3) (zl4 : zR l4) (zs0 : zR s0) (k : k34_73 V ST d (zCl AL V ST ex_km d) (zRn AL V ST ex_km d kt_34) (zP [zf b 187, enc l1, enc l2, enc l3, enc l4]) [enc 0, enc s0] (zM n (zWf b f g)) = some r) : k34_72 V ST d (zCl AL V ST ex_km d) (zRn AL V ST ex_km d kt_34) (zP [zf b 187, enc l1, enc l2, enc l3, enc l4]) [enc s0] (zM n (zWf b f g)) = some r := by
  unfold k34_72
  refine (zr_pshi 0 rfl).trans ?_
  exact k
theorem zs_34_25 (h : zOk b n f) {l1 : Int} {l2 : Int} {l3 : Int} {l4 : Int} (zl1 : zR l1) (zl2 : zR l2) (zl3 : zR l3) (zl4 : zR l4) (k : (if l4 < nz (g 187 4) then (if 0 ≤ l4 ∧ l4 < 30 then (if 0 ≤ l1 ∧ l1 < 16 then (if nz (g (188 + 1 + Int.toNat l4) l1) < 0 then zRn AL V ST ex_km d kt_34 72 (zP [zf b 187, enc l1, enc l2, enc l3, enc l4]) [enc l3] (zM n (zWf b f g)) else (if 0 ≤ l4 ∧ l4 < 30 then (if 0 ≤ l1 ∧ l1 < 16 then (if 0 ≤ l4 ∧ l4 < 30 then (if 0 ≤ l2 ∧ l2 < 16 then (if nz (g (188 + 1 + Int.toNat l4) l1) = nz (g (188 + 1 + Int.toNat l4) l2) then zRn AL V ST ex_km d kt_34 73 (zP [zf b 187, enc l1, enc l2, enc l3, enc l4]) [enc 1, enc l3] (zM n (zWf b f g)) else zRn AL V ST ex_km d kt_34 72 (zP [zf b 187, enc l1, enc l2, enc l3, enc l4]) [enc l3] (zM n (zWf b f g))) else none) else none) else none) else none)) else none) else none) else zRn AL V ST ex_km d kt_34 81 (zP [zf b 187, enc l1, enc l2, enc l3, enc l4]) [] (zM n (zWf b f g))) = some r) : k34_25 V ST d (zCl AL V ST ex_km d) (zRn AL V ST ex_km d kt_34) (zP [zf b 187, enc l1, enc l2, enc l3, enc l4]) [] (zM n (zWf b f g)) = some r := by
  unfold k34_25
  refine (zr_iload (v := enc l4) rfl (enc_lt _)).trans ?_
  refine (zr_aload (v := zf b 187) rfl (zf_tA h _)).trans ?_
  refine (zr_gfi h (ti_party_tips rfl)).trans ?_
  by_cases c1 : l4 < nz (g 187 4)
  · rw [if_pos c1] at k
    refine (zr_icmp_ge_n (zl4) (nz_R _) c1).trans ?_
    refine (zr_iload (v := enc l3) rfl (enc_lt _)).trans ?_
    refine (zr_aload (v := zf b 187) rfl (zf_tA h _)).trans ?_
    refine (zr_gfr h (tr_party_sets rfl)).trans ?_
    refine (zr_iload (v := enc l4) rfl (enc_lt _)).trans ?_
    by_cases c2 : 0 ≤ l4 ∧ l4 < 30
    · rw [if_pos c2] at k
      refine (zr_aald h (taa_party_sets) c2.1 (by have := c2.2; omega)).trans ?_
      have a3 : zAr (188 + 1 + Int.toNat l4) 64 16 := ((taa_party_sets).2.2.2.2 _ (by have := c2.1; have := c2.2; omega)).2.2
      refine (zr_iload (v := enc l1) rfl (enc_lt _)).trans ?_
      by_cases c4 : 0 ≤ l1 ∧ l1 < 16
      · rw [if_pos c4] at k
        refine (zr_iald h a3 c4.1 (by have := c4.2; omega)).trans ?_
        by_cases c5 : nz (g (188 + 1 + Int.toNat l4) l1) < 0
        · rw [if_pos c5] at k
          exact (zr_if_lt_t (nz_R _) c5).trans k
        · rw [if_neg c5] at k
          refine (zr_if_lt_n (nz_R _) (Int.not_lt.mp c5)).trans ?_
          refine (zr_aload (v := zf b 187) rfl (zf_tA h _)).trans ?_
          refine (zr_gfr h (tr_party_sets rfl)).trans ?_
          refine (zr_iload (v := enc l4) rfl (enc_lt _)).trans ?_
          by_cases c6 : 0 ≤ l4 ∧ l4 < 30
          · rw [if_pos c6] at k
            refine (zr_aald h (taa_party_sets) c6.1 (by have := c6.2; omega)).trans ?_
            have a7 : zAr (188 + 1 + Int.toNat l4) 64 16 := ((taa_party_sets).2.2.2.2 _ (by have := c6.1; have := c6.2; omega)).2.2
            refine (zr_iload (v := enc l1) rfl (enc_lt _)).trans ?_
            by_cases c8 : 0 ≤ l1 ∧ l1 < 16
            · rw [if_pos c8] at k
              refine (zr_iald h a7 c8.1 (by have := c8.2; omega)).trans ?_
              refine (zr_aload (v := zf b 187) rfl (zf_tA h _)).trans ?_
              refine (zr_gfr h (tr_party_sets rfl)).trans ?_
              refine (zr_iload (v := enc l4) rfl (enc_lt _)).trans ?_
              by_cases c9 : 0 ≤ l4 ∧ l4 < 30
              · rw [if_pos c9] at k
                refine (zr_aald h (taa_party_sets) c9.1 (by have := c9.2; omega)).trans ?_
                have a10 : zAr (188 + 1 + Int.toNat l4) 64 16 := ((taa_party_sets).2.2.2.2 _ (by have := c9.1; have := c9.2; omega)).2.2
                refine (zr_iload (v := enc l2) rfl (enc_lt _)).trans ?_
                by_cases c11 : 0 ≤ l2 ∧ l2 < 16
                · rw [if_pos c11] at k
                  refine (zr_iald h a10 c11.1 (by have := c11.2; omega)).trans ?_
                  by_cases c12 : nz (g (188 + 1 + Int.toNat l4) l1) = nz (g (188 + 1 + Int.toNat l4) l2)
                  · rw [if_pos c12] at k
                    refine (zr_icmp_ne_n (nz_R _) (nz_R _) c12).trans ?_
                    refine (zr_pshi 1 rfl).trans ?_
                    exact (zr_goto).trans k
                  · rw [if_neg c12] at k
                    exact (zr_icmp_ne_t (nz_R _) (nz_R _) c12).trans k
                · rw [if_neg c11] at k; cases k
              · rw [if_neg c9] at k; cases k
            · rw [if_neg c8] at k; cases k
          · rw [if_neg c6] at k; cases k
      · rw [if_neg c4] at k; cases k
    · rw [if_neg c2] at k; cases k
  · rw [if_neg c1] at k
    exact (zr_icmp_ge_t (zl4) (nz_R _) (Int.not_lt.mp c1)).trans k
theorem zs_34_12 (h : zOk b n f) {l1 : Int} {l2 : Int} {l3 : Nat} {l4 : Nat} (zl1 : zR l1) (zl2 : zR l2) (zl3 : ex_c2 l3 = false ∧ l3 < 1099511627776) (zl4 : ex_c2 l4 = false ∧ l4 < 1099511627776) (k : (if l2 < nz (g 187 3) then k34_25 V ST d (zCl AL V ST ex_km d) (zRn AL V ST ex_km d kt_34) (zP [zf b 187, enc l1, enc l2, enc 0, enc 0]) [] (zM n (zWf b f g)) else zRn AL V ST ex_km d kt_34 106 (zP [zf b 187, enc l1, enc l2, l3, l4]) [] (zM n (zWf b f g))) = some r) : k34_12 V ST d (zCl AL V ST ex_km d) (zRn AL V ST ex_km d kt_34) (zP [zf b 187, enc l1, enc l2, l3, l4]) [] (zM n (zWf b f g)) = some r := by
  unfold k34_12
  refine (zr_iload (v := enc l2) rfl (enc_lt _)).trans ?_
  refine (zr_aload (v := zf b 187) rfl (zf_tA h _)).trans ?_
  refine (zr_gfi h (ti_party_couples rfl)).trans ?_
  by_cases c1 : l2 < nz (g 187 3)
  · rw [if_pos c1] at k
    refine (zr_icmp_ge_n (zl2) (nz_R _) c1).trans ?_
    refine (zr_pshi 0 rfl).trans ?_
    refine (zr_istore (w := enc l2) (vs' := [zf b 187, enc l1, enc l2, enc 0, l4]) rfl (enc_c2 _) (Nat.lt_trans (enc_lt _) (by decide)) (by decide) rfl (enc_lt _)).trans ?_
    refine (zr_pshi 0 rfl).trans ?_
    refine (zr_istore (w := enc 0) (vs' := [zf b 187, enc l1, enc l2, enc 0, enc 0]) rfl (enc_c2 _) (Nat.lt_trans (enc_lt _) (by decide)) (by decide) rfl (enc_lt _)).trans ?_
    exact k
  · rw [if_neg c1] at k
    exact (zr_icmp_ge_t (zl2) (nz_R _) (Int.not_lt.mp c1)).trans k
theorem zs_34_2 (h : zOk b n f) {l1 : Int} {l2 : Nat} {l3 : Nat} {l4 : Nat} (zl1 : zR l1) (zl2 : ex_c2 l2 = false ∧ l2 < 1099511627776) (zl3 : ex_c2 l3 = false ∧ l3 < 1099511627776) (zl4 : ex_c2 l4 = false ∧ l4 < 1099511627776) (k : (if l1 < nz (g 187 3) then k34_12 V ST d (zCl AL V ST ex_km d) (zRn AL V ST ex_km d kt_34) (zP [zf b 187, enc l1, enc 0, l3, l4]) [] (zM n (zWf b f g)) else zRn AL V ST ex_km d kt_34 112 (zP [zf b 187, enc l1, l2, l3, l4]) [] (zM n (zWf b f g))) = some r) : k34_2 V ST d (zCl AL V ST ex_km d) (zRn AL V ST ex_km d kt_34) (zP [zf b 187, enc l1, l2, l3, l4]) [] (zM n (zWf b f g)) = some r := by
  unfold k34_2
  refine (zr_iload (v := enc l1) rfl (enc_lt _)).trans ?_
  refine (zr_aload (v := zf b 187) rfl (zf_tA h _)).trans ?_
  refine (zr_gfi h (ti_party_couples rfl)).trans ?_
  by_cases c1 : l1 < nz (g 187 3)
  · rw [if_pos c1] at k
    refine (zr_icmp_ge_n (zl1) (nz_R _) c1).trans ?_
    refine (zr_pshi 0 rfl).trans ?_
    refine (zr_istore (w := enc l1) (vs' := [zf b 187, enc l1, enc 0, l3, l4]) rfl (enc_c2 _) (Nat.lt_trans (enc_lt _) (by decide)) (by decide) rfl (enc_lt _)).trans ?_
    exact k
  · rw [if_neg c1] at k
    exact (zr_icmp_ge_t (zl1) (nz_R _) (Int.not_lt.mp c1)).trans k
theorem zs_34_0 (h : zOk b n f)   (k : k34_2 V ST d (zCl AL V ST ex_km d) (zRn AL V ST ex_km d kt_34) (zP [zf b 187, enc 0, 137438953472, 137438953472, 137438953472]) [] (zM n (zWf b f g)) = some r) : k34_0 V ST d (zCl AL V ST ex_km d) (zRn AL V ST ex_km d kt_34) (zP [zf b 187, 137438953472, 137438953472, 137438953472, 137438953472]) [] (zM n (zWf b f g)) = some r := by
  unfold k34_0
  refine (zr_pshi 0 rfl).trans ?_
  refine (zr_istore (w := zf b 187) (vs' := [zf b 187, enc 0, 137438953472, 137438953472, 137438953472]) rfl (zf_c2 h _) (Nat.lt_trans (zf_l h _) (by decide)) (by decide) rfl (enc_lt _)).trans ?_
  exact k
theorem zs_36_109 (h : zOk b n f) {l1 : Nat} {l2 : Int} {l3 : Nat} {l4 : Int} (zl1 : zI_pl l1) (zl2 : zR l2) (zl3 : zAr l3 64 24) (zl4 : zR l4) (k : some (137438953473, (zM n (zWf b f g))) = some r) : k36_109 V ST d (zCl AL V ST ex_km d) (zRn AL V ST ex_km d kt_36) (zP [zf b 159, zf b l1, enc l2, zf b l3, enc l4]) [] (zM n (zWf b f g)) = some r := by
  unfold k36_109
  exact zr_return.trans k
theorem zs_36_53 (h : zOk b n f) {l1 : Nat} {l2 : Int} {l3 : Nat} {l4 : Int} (zl1 : zI_pl l1) (zl2 : zR l2) (zl3 : zAr l3 64 24) (zl4 : zR l4) (k : (if l4 < 8 then (if 0 ≤ l4 ∧ l4 < 8 then (if 0 ≤ nz (3 * l4) ∧ nz (3 * l4) < 24 then (if 0 ≤ l4 ∧ l4 < 8 then (if 0 ≤ nz ((nz (3 * l4)) + 1) ∧ nz ((nz (3 * l4)) + 1) < 24 then (if 0 ≤ l4 ∧ l4 < 8 then (if 0 ≤ nz ((nz (3 * l4)) + 2) ∧ nz ((nz (3 * l4)) + 2) < 24 then zRn AL V ST ex_km d kt_36 53 (zP [zf b 159, zf b l1, enc l2, zf b l3, enc (nz (l4 + 1))]) [] (zM n (zWf b f (upd (upd (upd g l3 (nz (3 * l4)) (nz (g (l1 + 1) l4))) l3 (nz ((nz (3 * l4)) + 1)) (nz ((upd g l3 (nz (3 * l4)) (nz (g (l1 + 1) l4))) (l1 + 2) l4))) l3 (nz ((nz (3 * l4)) + 2)) (nz ((upd (upd g l3 (nz (3 * l4)) (nz (g (l1 + 1) l4))) l3 (nz ((nz (3 * l4)) + 1)) (nz ((upd g l3 (nz (3 * l4)) (nz (g (l1 + 1) l4))) (l1 + 2) l4))) (l1 + 3) l4))))) else none) else none) else none) else none) else none) else none) else zRn AL V ST ex_km d kt_36 109 (zP [zf b 159, zf b l1, enc l2, zf b l3, enc l4]) [] (zM n (zWf b f g))) = some r) : k36_53 V ST d (zCl AL V ST ex_km d) (zRn AL V ST ex_km d kt_36) (zP [zf b 159, zf b l1, enc l2, zf b l3, enc l4]) [] (zM n (zWf b f g)) = some r := by
  unfold k36_53
  refine (zr_iload (v := enc l4) rfl (enc_lt _)).trans ?_
  refine (zr_pshi 8 rfl).trans ?_
  by_cases c1 : l4 < 8
  · rw [if_pos c1] at k
    refine (zr_icmp_ge_n (zl4) ((by unfold zR; omega)) c1).trans ?_
    refine (zr_aload (v := zf b l3) rfl (zf_tA h _)).trans ?_
    refine (zr_pshi 3 rfl).trans ?_
    refine (zr_iload (v := enc l4) rfl (enc_lt _)).trans ?_
    refine (zr_imul).trans ?_
    refine (zr_aload (v := zf b l1) rfl (zf_tA h _)).trans ?_
    refine (zr_gfr h (tr_pl_x zl1)).trans ?_
    refine (zr_iload (v := enc l4) rfl (enc_lt _)).trans ?_
    by_cases c2 : 0 ≤ l4 ∧ l4 < 8
    · rw [if_pos c2] at k
      refine (zr_iald h (ta_pl_x zl1) c2.1 (by have := c2.2; omega)).trans ?_
      by_cases c3 : 0 ≤ nz (3 * l4) ∧ nz (3 * l4) < 24
      · rw [if_pos c3] at k
        refine (zr_iast h zl3 c3.1 (by have := c3.2; omega)).trans ?_
        refine (zr_aload (v := zf b l3) rfl (zf_tA h _)).trans ?_
        refine (zr_pshi 3 rfl).trans ?_
        refine (zr_iload (v := enc l4) rfl (enc_lt _)).trans ?_
        refine (zr_imul).trans ?_
        refine (zr_pshi 1 rfl).trans ?_
        refine (zr_iadd).trans ?_
        refine (zr_aload (v := zf b l1) rfl (zf_tA h _)).trans ?_
        refine (zr_gfr h (tr_pl_y zl1)).trans ?_
        refine (zr_iload (v := enc l4) rfl (enc_lt _)).trans ?_
        by_cases c4 : 0 ≤ l4 ∧ l4 < 8
        · rw [if_pos c4] at k
          refine (zr_iald h (ta_pl_y zl1) c4.1 (by have := c4.2; omega)).trans ?_
          by_cases c5 : 0 ≤ nz ((nz (3 * l4)) + 1) ∧ nz ((nz (3 * l4)) + 1) < 24
          · rw [if_pos c5] at k
            refine (zr_iast h zl3 c5.1 (by have := c5.2; omega)).trans ?_
            refine (zr_aload (v := zf b l3) rfl (zf_tA h _)).trans ?_
            refine (zr_pshi 3 rfl).trans ?_
            refine (zr_iload (v := enc l4) rfl (enc_lt _)).trans ?_
            refine (zr_imul).trans ?_
            refine (zr_pshi 2 rfl).trans ?_
            refine (zr_iadd).trans ?_
            refine (zr_aload (v := zf b l1) rfl (zf_tA h _)).trans ?_
            refine (zr_gfr h (tr_pl_f zl1)).trans ?_
            refine (zr_iload (v := enc l4) rfl (enc_lt _)).trans ?_
            by_cases c6 : 0 ≤ l4 ∧ l4 < 8
            · rw [if_pos c6] at k
              refine (zr_iald h (ta_pl_f zl1) c6.1 (by have := c6.2; omega)).trans ?_
              by_cases c7 : 0 ≤ nz ((nz (3 * l4)) + 2) ∧ nz ((nz (3 * l4)) + 2) < 24
              · rw [if_pos c7] at k
                refine (zr_iast h zl3 c7.1 (by have := c7.2; omega)).trans ?_
                refine (zr_iinc (w := zf b l3) (x := l4) (i' := 1) (vs' := [zf b 159, zf b l1, enc l2, zf b l3, enc (nz (l4 + 1))]) rfl (zf_c2 h _) (Nat.lt_trans (zf_l h _) (by decide)) rfl rfl (by decide) rfl).trans ?_
                exact (zr_goto).trans k
              · rw [if_neg c7] at k; cases k
            · rw [if_neg c6] at k; cases k
          · rw [if_neg c5] at k; cases k
        · rw [if_neg c4] at k; cases k
      · rw [if_neg c3] at k; cases k
    · rw [if_neg c2] at k; cases k
  · rw [if_neg c1] at k
    exact (zr_icmp_ge_t (zl4) ((by unfold zR; omega)) (Int.not_lt.mp c1)).trans k
theorem zs_36_27 (h : zOk b n f) {l1 : Nat} {l2 : Int} {s0 : Int} (zl1 : zI_pl l1) (zl2 : zR l2) (zs0 : zR s0) (k : (if 0 ≤ nz ((upd g 159 3 s0) 159 2) ∧ nz ((upd g 159 3 s0) 159 2) < 20 then (if 0 ≤ l2 ∧ l2 < 65536 then (if 0 ≤ nz ((upd (upd g 159 3 s0) 181 (nz ((upd g 159 3 s0) 159 2)) l2) 159 2) ∧ nz ((upd (upd g 159 3 s0) 181 (nz ((upd g 159 3 s0) 159 2)) l2) 159 2) < 20 then k36_53 V ST d (zCl AL V ST ex_km d) (zRn AL V ST ex_km d kt_36) (zP [zf b 159, zf b l1, enc l2, zf b (160 + 1 + Int.toNat (nz ((upd (upd g 159 3 s0) 181 (nz ((upd g 159 3 s0) 159 2)) l2) 159 2))), enc 0]) [] (zM n (zWf b f (upd (upd g 159 3 s0) 181 (nz ((upd g 159 3 s0) 159 2)) l2))) else none) else none) else none) = some r) : k36_27 V ST d (zCl AL V ST ex_km d) (zRn AL V ST ex_km d kt_36) (zP [zf b 159, zf b l1, enc l2, 137438953472, 137438953472]) [enc s0, zf b 159] (zM n (zWf b f g)) = some r := by
  unfold k36_27
  refine (zr_pfi h (ti_past_size rfl)).trans ?_
  refine (zr_aload (v := zf b 159) rfl (zf_tA h _)).trans ?_
  refine (zr_gfr h (tr_past_letters rfl)).trans ?_
  refine (zr_aload (v := zf b 159) rfl (zf_tA h _)).trans ?_
  refine (zr_gfi h (ti_past_newest rfl)).trans ?_
  refine (zr_iload (v := enc l2) rfl (enc_lt _)).trans ?_
  by_cases c1 : 0 ≤ nz ((upd g 159 3 s0) 159 2) ∧ nz ((upd g 159 3 s0) 159 2) < 20
  · rw [if_pos c1] at k
    by_cases c2 : 0 ≤ l2 ∧ l2 < 65536
    · rw [if_pos c2] at k
      refine (zr_cast h (ta_past_letters rfl) c1.1 (by have := c1.2; omega) c2).trans ?_
      refine (zr_aload (v := zf b 159) rfl (zf_tA h _)).trans ?_
      refine (zr_gfr h (tr_past_rows rfl)).trans ?_
      refine (zr_aload (v := zf b 159) rfl (zf_tA h _)).trans ?_
      refine (zr_gfi h (ti_past_newest rfl)).trans ?_
      by_cases c3 : 0 ≤ nz ((upd (upd g 159 3 s0) 181 (nz ((upd g 159 3 s0) 159 2)) l2) 159 2) ∧ nz ((upd (upd g 159 3 s0) 181 (nz ((upd g 159 3 s0) 159 2)) l2) 159 2) < 20
      · rw [if_pos c3] at k
        refine (zr_aald h (taa_past_rows) c3.1 (by have := c3.2; omega)).trans ?_
        have a4 : zAr (160 + 1 + Int.toNat (nz ((upd (upd g 159 3 s0) 181 (nz ((upd g 159 3 s0) 159 2)) l2) 159 2))) 64 24 := ((taa_past_rows).2.2.2.2 _ (by have := c3.1; have := c3.2; omega)).2.2
        refine (zr_astore (w := enc l2) (vs' := [zf b 159, zf b l1, enc l2, zf b (160 + 1 + Int.toNat (nz ((upd (upd g 159 3 s0) 181 (nz ((upd g 159 3 s0) 159 2)) l2) 159 2))), 137438953472]) rfl (enc_c2 _) (Nat.lt_trans (enc_lt _) (by decide)) (by decide) rfl (zf_tA h _)).trans ?_
        refine (zr_pshi 0 rfl).trans ?_
        refine (zr_istore (w := zf b (160 + 1 + Int.toNat (nz ((upd (upd g 159 3 s0) 181 (nz ((upd g 159 3 s0) 159 2)) l2) 159 2)))) (vs' := [zf b 159, zf b l1, enc l2, zf b (160 + 1 + Int.toNat (nz ((upd (upd g 159 3 s0) 181 (nz ((upd g 159 3 s0) 159 2)) l2) 159 2))), enc 0]) rfl (zf_c2 h _) (Nat.lt_trans (zf_l h _) (by decide)) (by decide) rfl (enc_lt _)).trans ?_
        exact k
      · rw [if_neg c3] at k; cases k
    · rw [if_neg c2] at k; cases k
  · rw [if_neg c1] at k; cases k
theorem zs_36_12 (h : zOk b n f) {l1 : Nat} {l2 : Int} {s0 : Int} (zl1 : zI_pl l1) (zl2 : zR l2) (zs0 : zR s0) (k : zTh (zCl AL V ST ex_km d 163 [enc (nz ((nz ((upd g 159 2 s0) 159 3)) + 1)), enc 20] (zM n (zWf b f (upd g 159 2 s0)))) (zM n (zWf b f (upd g 159 2 s0))) [zf b 159] (fun S M => k36_27 V ST d (zCl AL V ST ex_km d) (zRn AL V ST ex_km d kt_36) (zP [zf b 159, zf b l1, enc l2, 137438953472, 137438953472]) S M) = some r) : k36_12 V ST d (zCl AL V ST ex_km d) (zRn AL V ST ex_km d kt_36) (zP [zf b 159, zf b l1, enc l2, 137438953472, 137438953472]) [enc s0, zf b 159] (zM n (zWf b f g)) = some r := by
  unfold k36_12
  refine (zr_pfi h (ti_past_newest rfl)).trans ?_
  refine (zr_aload (v := zf b 159) rfl (zf_tA h _)).trans ?_
  refine (zr_aload (v := zf b 159) rfl (zf_tA h _)).trans ?_
  refine (zr_gfi h (ti_past_size rfl)).trans ?_
  refine (zr_pshi 1 rfl).trans ?_
  refine (zr_iadd).trans ?_
  refine (zr_pshi 20 rfl).trans ?_
  refine zr_invS [enc 20, enc (nz ((nz ((upd g 159 2 s0) 159 3)) + 1))] rfl (zA_cons (enc_l _) (zA_cons (enc_l _) zA_nil)) (zA_cons (zf_l h _) zA_nil) (by decide) ?_
  exact k
theorem zs_36_0 (h : zOk b n f) {l1 : Nat} {l2 : Int} (zl1 : zI_pl l1) (zl2 : zR l2) (k : zTh (zCl AL V ST ex_km d 159 [enc (nz ((nz (g 159 2)) + 1)), enc 20] (zM n (zWf b f g))) (zM n (zWf b f g)) [zf b 159] (fun S M => k36_12 V ST d (zCl AL V ST ex_km d) (zRn AL V ST ex_km d kt_36) (zP [zf b 159, zf b l1, enc l2, 137438953472, 137438953472]) S M) = some r) : k36_0 V ST d (zCl AL V ST ex_km d) (zRn AL V ST ex_km d kt_36) (zP [zf b 159, zf b l1, enc l2, 137438953472, 137438953472]) [] (zM n (zWf b f g)) = some r := by
  unfold k36_0
  refine (zr_aload (v := zf b 159) rfl (zf_tA h _)).trans ?_
  refine (zr_aload (v := zf b 159) rfl (zf_tA h _)).trans ?_
  refine (zr_gfi h (ti_past_newest rfl)).trans ?_
  refine (zr_pshi 1 rfl).trans ?_
  refine (zr_iadd).trans ?_
  refine (zr_pshi 20 rfl).trans ?_
  refine zr_invS [enc 20, enc (nz ((nz (g 159 2)) + 1))] rfl (zA_cons (enc_l _) (zA_cons (enc_l _) zA_nil)) (zA_cons (zf_l h _) zA_nil) (by decide) ?_
  exact k
theorem zs_37_53 (h : zOk b n f) {l1 : Nat} {l2 : Nat} {l3 : Int} (zl1 : zI_pl l1) (zl2 : zAr l2 64 24) (zl3 : zR l3) (k : some (137438953473, (zM n (zWf b f g))) = some r) : k37_53 V ST d (zCl AL V ST ex_km d) (zRn AL V ST ex_km d kt_37) (zP [zf b 159, zf b l1, zf b l2, enc l3]) [] (zM n (zWf b f g)) = some r := by
  unfold k37_53
  exact zr_return.trans k
theorem zs_37_47 (h : zOk b n f) {l1 : Nat} {l2 : Nat} {l3 : Int} (zl1 : zI_pl l1) (zl2 : zAr l2 64 24) (zl3 : zR l3) (k : zRn AL V ST ex_km d kt_37 17 (zP [zf b 159, zf b l1, zf b l2, enc (nz (l3 + 1))]) [] (zM n (zWf b f g)) = some r) : k37_47 V ST d (zCl AL V ST ex_km d) (zRn AL V ST ex_km d kt_37) (zP [zf b 159, zf b l1, zf b l2, enc l3]) [] (zM n (zWf b f g)) = some r := by
  unfold k37_47
  refine (zr_iinc (w := zf b l2) (x := l3) (i' := 1) (vs' := [zf b 159, zf b l1, zf b l2, enc (nz (l3 + 1))]) rfl (zf_c2 h _) (Nat.lt_trans (zf_l h _) (by decide)) rfl rfl (by decide) rfl).trans ?_
  exact (zr_goto).trans k
theorem zs_37_17 (h : zOk b n f) {l1 : Nat} {l2 : Nat} {l3 : Int} (zl1 : zI_pl l1) (zl2 : zAr l2 64 24) (zl3 : zR l3) (k : (if l3 < 8 then (if 0 ≤ nz (3 * l3) ∧ nz (3 * l3) < 24 then (if 0 ≤ nz ((nz (3 * l3)) + 1) ∧ nz ((nz (3 * l3)) + 1) < 24 then (if 0 ≤ nz ((nz (3 * l3)) + 2) ∧ nz ((nz (3 * l3)) + 2) < 24 then zTh (zCl AL V ST ex_km d 41 [zf b l1, enc l3, enc (nz (g l2 (nz (3 * l3)))), enc (nz (g l2 (nz ((nz (3 * l3)) + 1)))), enc (nz (g l2 (nz ((nz (3 * l3)) + 2))))] (zM n (zWf b f g))) (zM n (zWf b f g)) [] (fun S M => k37_47 V ST d (zCl AL V ST ex_km d) (zRn AL V ST ex_km d kt_37) (zP [zf b 159, zf b l1, zf b l2, enc l3]) S M) else none) else none) else none) else zRn AL V ST ex_km d kt_37 53 (zP [zf b 159, zf b l1, zf b l2, enc l3]) [] (zM n (zWf b f g))) = some r) : k37_17 V ST d (zCl AL V ST ex_km d) (zRn AL V ST ex_km d kt_37) (zP [zf b 159, zf b l1, zf b l2, enc l3]) [] (zM n (zWf b f g)) = some r := by
  unfold k37_17
  refine (zr_iload (v := enc l3) rfl (enc_lt _)).trans ?_
  refine (zr_pshi 8 rfl).trans ?_
  by_cases c1 : l3 < 8
  · rw [if_pos c1] at k
    refine (zr_icmp_ge_n (zl3) ((by unfold zR; omega)) c1).trans ?_
    refine (zr_aload (v := zf b l1) rfl (zf_tA h _)).trans ?_
    refine (zr_iload (v := enc l3) rfl (enc_lt _)).trans ?_
    refine (zr_aload (v := zf b l2) rfl (zf_tA h _)).trans ?_
    refine (zr_pshi 3 rfl).trans ?_
    refine (zr_iload (v := enc l3) rfl (enc_lt _)).trans ?_
    refine (zr_imul).trans ?_
    by_cases c2 : 0 ≤ nz (3 * l3) ∧ nz (3 * l3) < 24
    · rw [if_pos c2] at k
      refine (zr_iald h zl2 c2.1 (by have := c2.2; omega)).trans ?_
      refine (zr_aload (v := zf b l2) rfl (zf_tA h _)).trans ?_
      refine (zr_pshi 3 rfl).trans ?_
      refine (zr_iload (v := enc l3) rfl (enc_lt _)).trans ?_
      refine (zr_imul).trans ?_
      refine (zr_pshi 1 rfl).trans ?_
      refine (zr_iadd).trans ?_
      by_cases c3 : 0 ≤ nz ((nz (3 * l3)) + 1) ∧ nz ((nz (3 * l3)) + 1) < 24
      · rw [if_pos c3] at k
        refine (zr_iald h zl2 c3.1 (by have := c3.2; omega)).trans ?_
        refine (zr_aload (v := zf b l2) rfl (zf_tA h _)).trans ?_
        refine (zr_pshi 3 rfl).trans ?_
        refine (zr_iload (v := enc l3) rfl (enc_lt _)).trans ?_
        refine (zr_imul).trans ?_
        refine (zr_pshi 2 rfl).trans ?_
        refine (zr_iadd).trans ?_
        by_cases c4 : 0 ≤ nz ((nz (3 * l3)) + 2) ∧ nz ((nz (3 * l3)) + 2) < 24
        · rw [if_pos c4] at k
          refine (zr_iald h zl2 c4.1 (by have := c4.2; omega)).trans ?_
          refine zr_invV h [enc (nz (g l2 (nz ((nz (3 * l3)) + 2)))), enc (nz (g l2 (nz ((nz (3 * l3)) + 1)))), enc (nz (g l2 (nz (3 * l3)))), enc l3] rfl (tk_pl zl1) (zA_cons (enc_l _) (zA_cons (enc_l _) (zA_cons (enc_l _) (zA_cons (enc_l _) zA_nil)))) (zA_nil) (by decide) ?_
          exact k
        · rw [if_neg c4] at k; cases k
      · rw [if_neg c3] at k; cases k
    · rw [if_neg c2] at k; cases k
  · rw [if_neg c1] at k
    exact (zr_icmp_ge_t (zl3) ((by unfold zR; omega)) (Int.not_lt.mp c1)).trans k
theorem zs_37_13 (h : zOk b n f) {l1 : Nat} {s0 : Int} (zl1 : zI_pl l1) (zs0 : zR s0) (k : (if 0 ≤ s0 ∧ s0 < 20 then k37_17 V ST d (zCl AL V ST ex_km d) (zRn AL V ST ex_km d kt_37) (zP [zf b 159, zf b l1, zf b (160 + 1 + Int.toNat s0), enc 0]) [] (zM n (zWf b f g)) else none) = some r) : k37_13 V ST d (zCl AL V ST ex_km d) (zRn AL V ST ex_km d kt_37) (zP [zf b 159, zf b l1, 137438953472, 137438953472]) [enc s0, zf b past_rows] (zM n (zWf b f g)) = some r := by
  unfold k37_13
  by_cases c1 : 0 ≤ s0 ∧ s0 < 20
  · rw [if_pos c1] at k
    refine (zr_aald h (taa_past_rows) c1.1 (by have := c1.2; omega)).trans ?_
    have a2 : zAr (160 + 1 + Int.toNat s0) 64 24 := ((taa_past_rows).2.2.2.2 _ (by have := c1.1; have := c1.2; omega)).2.2
    refine (zr_astore (w := zf b l1) (vs' := [zf b 159, zf b l1, zf b (160 + 1 + Int.toNat s0), 137438953472]) rfl (zf_c2 h _) (Nat.lt_trans (zf_l h _) (by decide)) (by decide) rfl (zf_tA h _)).trans ?_
    refine (zr_pshi 0 rfl).trans ?_
    refine (zr_istore (w := zf b (160 + 1 + Int.toNat s0)) (vs' := [zf b 159, zf b l1, zf b (160 + 1 + Int.toNat s0), enc 0]) rfl (zf_c2 h _) (Nat.lt_trans (zf_l h _) (by decide)) (by decide) rfl (enc_lt _)).trans ?_
    exact k
  · rw [if_neg c1] at k; cases k
theorem zs_37_0 (h : zOk b n f) {l1 : Nat} (zl1 : zI_pl l1) (k : zTh (zCl AL V ST ex_km d 159 [enc (nz (g 159 2)), enc 20] (zM n (zWf b f g))) (zM n (zWf b f g)) [zf b past_rows] (fun S M => k37_13 V ST d (zCl AL V ST ex_km d) (zRn AL V ST ex_km d kt_37) (zP [zf b 159, zf b l1, 137438953472, 137438953472]) S M) = some r) : k37_0 V ST d (zCl AL V ST ex_km d) (zRn AL V ST ex_km d kt_37) (zP [zf b 159, zf b l1, 137438953472, 137438953472]) [] (zM n (zWf b f g)) = some r := by
  unfold k37_0
  refine (zr_aload (v := zf b 159) rfl (zf_tA h _)).trans ?_
  refine (zr_gfr h (tr_past_rows rfl)).trans ?_
  refine (zr_aload (v := zf b 159) rfl (zf_tA h _)).trans ?_
  refine (zr_gfi h (ti_past_newest rfl)).trans ?_
  refine (zr_pshi 20 rfl).trans ?_
  refine zr_invS [enc 20, enc (nz (g 159 2))] rfl (zA_cons (enc_l _) (zA_cons (enc_l _) zA_nil)) (zA_cons (zf_l h _) zA_nil) (by decide) ?_
  exact k
theorem zs_38_26 (h : zOk b n f) {s0 : Int} (zs0 : zR s0) (k : some (137438953473, (zM n (zWf b f (upd g 159 3 s0)))) = some r) : k38_26 V ST d (zCl AL V ST ex_km d) (zRn AL V ST ex_km d kt_38) (zP [zf b 159]) [enc s0, zf b 159] (zM n (zWf b f g)) = some r := by
  unfold k38_26
  refine (zr_pfi h (ti_past_size rfl)).trans ?_
  exact zr_return.trans k
theorem zs_38_12 (h : zOk b n f) {s0 : Int} (zs0 : zR s0) (k : zTh (zCl AL V ST ex_km d 162 [enc 0, enc (nz ((nz ((upd g 159 2 s0) 159 3)) - 1))] (zM n (zWf b f (upd g 159 2 s0)))) (zM n (zWf b f (upd g 159 2 s0))) [zf b 159] (fun S M => k38_26 V ST d (zCl AL V ST ex_km d) (zRn AL V ST ex_km d kt_38) (zP [zf b 159]) S M) = some r) : k38_12 V ST d (zCl AL V ST ex_km d) (zRn AL V ST ex_km d kt_38) (zP [zf b 159]) [enc s0, zf b 159] (zM n (zWf b f g)) = some r := by
  unfold k38_12
  refine (zr_pfi h (ti_past_newest rfl)).trans ?_
  refine (zr_aload (v := zf b 159) rfl (zf_tA h _)).trans ?_
  refine (zr_pshi 0 rfl).trans ?_
  refine (zr_aload (v := zf b 159) rfl (zf_tA h _)).trans ?_
  refine (zr_gfi h (ti_past_size rfl)).trans ?_
  refine (zr_pshi 1 rfl).trans ?_
  refine (zr_isub).trans ?_
  refine zr_invS [enc (nz ((nz ((upd g 159 2 s0) 159 3)) - 1)), enc 0] rfl (zA_cons (enc_l _) (zA_cons (enc_l _) zA_nil)) (zA_cons (zf_l h _) zA_nil) (by decide) ?_
  exact k
theorem zs_38_0 (h : zOk b n f)   (k : zTh (zCl AL V ST ex_km d 159 [enc (nz ((nz (g 159 2)) - 1)), enc 20] (zM n (zWf b f g))) (zM n (zWf b f g)) [zf b 159] (fun S M => k38_12 V ST d (zCl AL V ST ex_km d) (zRn AL V ST ex_km d kt_38) (zP [zf b 159]) S M) = some r) : k38_0 V ST d (zCl AL V ST ex_km d) (zRn AL V ST ex_km d kt_38) (zP [zf b 159]) [] (zM n (zWf b f g)) = some r := by
  unfold k38_0
  refine (zr_aload (v := zf b 159) rfl (zf_tA h _)).trans ?_
  refine (zr_aload (v := zf b 159) rfl (zf_tA h _)).trans ?_
  refine (zr_gfi h (ti_past_newest rfl)).trans ?_
  refine (zr_pshi 1 rfl).trans ?_
  refine (zr_isub).trans ?_
  refine (zr_pshi 20 rfl).trans ?_
  refine zr_invS [enc 20, enc (nz ((nz (g 159 2)) - 1))] rfl (zA_cons (enc_l _) (zA_cons (enc_l _) zA_nil)) (zA_cons (zf_l h _) zA_nil) (by decide) ?_
  exact k
theorem zs_39_15 (h : zOk b n f) {l1 : Int} {s0 : Int} {s1 : Nat} (zl1 : zR l1) (zs0 : zR s0) (zs1 : zAr s1 66 20) (k : (if 0 ≤ s0 ∧ s0 < 20 then (if 0 ≤ nz (g s1 s0) ∧ nz (g s1 s0) < 65536 then some (enc (nz (g s1 s0)), (zM n (zWf b f g))) else none) else none) = some r) : k39_15 V ST d (zCl AL V ST ex_km d) (zRn AL V ST ex_km d kt_39) (zP [zf b 159, enc l1]) [enc s0, zf b s1] (zM n (zWf b f g)) = some r := by
  unfold k39_15
  by_cases c1 : 0 ≤ s0 ∧ s0 < 20
  · rw [if_pos c1] at k
    refine (zr_cald h zs1 c1.1 (by have := c1.2; omega)).trans ?_
    by_cases c2 : 0 ≤ nz (g s1 s0) ∧ nz (g s1 s0) < 65536
    · rw [if_pos c2] at k
      exact (zr_creturn c2).trans k
    · rw [if_neg c2] at k; cases k
  · rw [if_neg c1] at k; cases k
theorem zs_39_0 (h : zOk b n f) {l1 : Int} (zl1 : zR l1) (k : zTh (zCl AL V ST ex_km d 159 [enc (nz ((nz (g 159 2)) - l1)), enc 20] (zM n (zWf b f g))) (zM n (zWf b f g)) [zf b 181] (fun S M => k39_15 V ST d (zCl AL V ST ex_km d) (zRn AL V ST ex_km d kt_39) (zP [zf b 159, enc l1]) S M) = some r) : k39_0 V ST d (zCl AL V ST ex_km d) (zRn AL V ST ex_km d kt_39) (zP [zf b 159, enc l1]) [] (zM n (zWf b f g)) = some r := by
  unfold k39_0
  refine (zr_aload (v := zf b 159) rfl (zf_tA h _)).trans ?_
  refine (zr_gfr h (tr_past_letters rfl)).trans ?_
  refine (zr_aload (v := zf b 159) rfl (zf_tA h _)).trans ?_
  refine (zr_gfi h (ti_past_newest rfl)).trans ?_
  refine (zr_iload (v := enc l1) rfl (enc_lt _)).trans ?_
  refine (zr_isub).trans ?_
  refine (zr_pshi 20 rfl).trans ?_
  refine zr_invS [enc 20, enc (nz ((nz (g 159 2)) - l1))] rfl (zA_cons (enc_l _) (zA_cons (enc_l _) zA_nil)) (zA_cons (zf_l h _) zA_nil) (by decide) ?_
  exact k
theorem zs_41_32 (h : zOk b n f) {l0 : Nat} {l1 : Int} {l2 : Int} {l3 : Int} {l4 : Int} (zl0 : zI_pl l0) (zl1 : zR l1) (zl2 : zR l2) (zl3 : zR l3) (zl4 : zR l4) (k : some (137438953473, (zM n (zWf b f g))) = some r) : k41_32 V ST d (zCl AL V ST ex_km d) (zRn AL V ST ex_km d kt_41) (zP [zf b l0, enc l1, enc l2, enc l3, enc l4]) [] (zM n (zWf b f g)) = some r := by
  unfold k41_32
  exact zr_return.trans k
theorem zs_41_0 (h : zOk b n f) {l0 : Nat} {l1 : Int} {l2 : Int} {l3 : Int} {l4 : Int} (zl0 : zI_pl l0) (zl1 : zR l1) (zl2 : zR l2) (zl3 : zR l3) (zl4 : zR l4) (k : (if l1 < 0 then zRn AL V ST ex_km d kt_41 32 (zP [zf b l0, enc l1, enc l2, enc l3, enc l4]) [] (zM n (zWf b f g)) else (if l1 < 8 then (if 0 ≤ l1 ∧ l1 < 8 then (if 0 ≤ l1 ∧ l1 < 8 then (if 0 ≤ l1 ∧ l1 < 8 then k41_32 V ST d (zCl AL V ST ex_km d) (zRn AL V ST ex_km d kt_41) (zP [zf b l0, enc l1, enc l2, enc l3, enc l4]) [] (zM n (zWf b f (upd (upd (upd g (l0 + 1) l1 l2) (l0 + 2) l1 l3) (l0 + 3) l1 l4))) else none) else none) else none) else zRn AL V ST ex_km d kt_41 32 (zP [zf b l0, enc l1, enc l2, enc l3, enc l4]) [] (zM n (zWf b f g)))) = some r) : k41_0 V ST d (zCl AL V ST ex_km d) (zRn AL V ST ex_km d kt_41) (zP [zf b l0, enc l1, enc l2, enc l3, enc l4]) [] (zM n (zWf b f g)) = some r := by
  unfold k41_0
  refine (zr_iload (v := enc l1) rfl (enc_lt _)).trans ?_
  by_cases c1 : l1 < 0
  · rw [if_pos c1] at k
    exact (zr_if_lt_t (zl1) c1).trans k
  · rw [if_neg c1] at k
    refine (zr_if_lt_n (zl1) (Int.not_lt.mp c1)).trans ?_
    refine (zr_iload (v := enc l1) rfl (enc_lt _)).trans ?_
    refine (zr_pshi 8 rfl).trans ?_
    by_cases c2 : l1 < 8
    · rw [if_pos c2] at k
      refine (zr_icmp_ge_n (zl1) ((by unfold zR; omega)) c2).trans ?_
      refine (zr_aload (v := zf b l0) rfl (zf_tA h _)).trans ?_
      refine (zr_gfr h (tr_pl_x zl0)).trans ?_
      refine (zr_iload (v := enc l1) rfl (enc_lt _)).trans ?_
      refine (zr_iload (v := enc l2) rfl (enc_lt _)).trans ?_
      by_cases c3 : 0 ≤ l1 ∧ l1 < 8
      · rw [if_pos c3] at k
        refine (zr_iast h (ta_pl_x zl0) c3.1 (by have := c3.2; omega)).trans ?_
        refine (zr_aload (v := zf b l0) rfl (zf_tA h _)).trans ?_
        refine (zr_gfr h (tr_pl_y zl0)).trans ?_
        refine (zr_iload (v := enc l1) rfl (enc_lt _)).trans ?_
        refine (zr_iload (v := enc l3) rfl (enc_lt _)).trans ?_
        by_cases c4 : 0 ≤ l1 ∧ l1 < 8
        · rw [if_pos c4] at k
          refine (zr_iast h (ta_pl_y zl0) c4.1 (by have := c4.2; omega)).trans ?_
          refine (zr_aload (v := zf b l0) rfl (zf_tA h _)).trans ?_
          refine (zr_gfr h (tr_pl_f zl0)).trans ?_
          refine (zr_iload (v := enc l1) rfl (enc_lt _)).trans ?_
          refine (zr_iload (v := enc l4) rfl (enc_lt _)).trans ?_
          by_cases c5 : 0 ≤ l1 ∧ l1 < 8
          · rw [if_pos c5] at k
            refine (zr_iast h (ta_pl_f zl0) c5.1 (by have := c5.2; omega)).trans ?_
            exact k
          · rw [if_neg c5] at k; cases k
        · rw [if_neg c4] at k; cases k
      · rw [if_neg c3] at k; cases k
    · rw [if_neg c2] at k
      exact (zr_icmp_ge_t (zl1) ((by unfold zR; omega)) (Int.not_lt.mp c2)).trans k
theorem zs_42_44 (h : zOk b n f) {l0 : Nat} {l1 : Int} {l2 : Int} {l3 : Int} (zl0 : zI_pl l0) (zl1 : zR l1) (zl2 : zR l2) (zl3 : zR l3) (k : some (enc (-1), (zM n (zWf b f g))) = some r) : k42_44 V ST d (zCl AL V ST ex_km d) (zRn AL V ST ex_km d kt_42) (zP [zf b l0, enc l1, enc l2, enc l3]) [] (zM n (zWf b f g)) = some r := by
  unfold k42_44
  refine (zr_pshi (-1) rfl).trans ?_
  exact zr_ireturn.trans k
theorem zs_42_38 (h : zOk b n f) {l0 : Nat} {l1 : Int} {l2 : Int} {l3 : Int} (zl0 : zI_pl l0) (zl1 : zR l1) (zl2 : zR l2) (zl3 : zR l3) (k : zRn AL V ST ex_km d kt_42 2 (zP [zf b l0, enc l1, enc l2, enc (nz (l3 + 1))]) [] (zM n (zWf b f g)) = some r) : k42_38 V ST d (zCl AL V ST ex_km d) (zRn AL V ST ex_km d kt_42) (zP [zf b l0, enc l1, enc l2, enc l3]) [] (zM n (zWf b f g)) = some r := by
  unfold k42_38
  refine (zr_iinc (w := enc l2) (x := l3) (i' := 1) (vs' := [zf b l0, enc l1, enc l2, enc (nz (l3 + 1))]) rfl (enc_c2 _) (Nat.lt_trans (enc_lt _) (by decide)) rfl rfl (by decide) rfl).trans ?_
  exact (zr_goto).trans k
theorem zs_42_2 (h : zOk b n f) {l0 : Nat} {l1 : Int} {l2 : Int} {l3 : Int} (zl0 : zI_pl l0) (zl1 : zR l1) (zl2 : zR l2) (zl3 : zR l3) (k : (if l3 < nz (g l0 3) then (if l3 < 8 then (if 0 ≤ l3 ∧ l3 < 8 then (if nz (g (l0 + 1) l3) = l1 then (if 0 ≤ l3 ∧ l3 < 8 then (if nz (g (l0 + 2) l3) = l2 then some (enc l3, (zM n (zWf b f g))) else zRn AL V ST ex_km d kt_42 38 (zP [zf b l0, enc l1, enc l2, enc l3]) [] (zM n (zWf b f g))) else none) else zRn AL V ST ex_km d kt_42 38 (zP [zf b l0, enc l1, enc l2, enc l3]) [] (zM n (zWf b f g))) else none) else zRn AL V ST ex_km d kt_42 44 (zP [zf b l0, enc l1, enc l2, enc l3]) [] (zM n (zWf b f g))) else zRn AL V ST ex_km d kt_42 44 (zP [zf b l0, enc l1, enc l2, enc l3]) [] (zM n (zWf b f g))) = some r) : k42_2 V ST d (zCl AL V ST ex_km d) (zRn AL V ST ex_km d kt_42) (zP [zf b l0, enc l1, enc l2, enc l3]) [] (zM n (zWf b f g)) = some r := by
  unfold k42_2
  refine (zr_iload (v := enc l3) rfl (enc_lt _)).trans ?_
  refine (zr_aload (v := zf b l0) rfl (zf_tA h _)).trans ?_
  refine (zr_gfi h (ti_pl_count zl0)).trans ?_
  by_cases c1 : l3 < nz (g l0 3)
  · rw [if_pos c1] at k
    refine (zr_icmp_ge_n (zl3) (nz_R _) c1).trans ?_
    refine (zr_iload (v := enc l3) rfl (enc_lt _)).trans ?_
    refine (zr_pshi 8 rfl).trans ?_
    by_cases c2 : l3 < 8
    · rw [if_pos c2] at k
      refine (zr_icmp_ge_n (zl3) ((by unfold zR; omega)) c2).trans ?_
      refine (zr_aload (v := zf b l0) rfl (zf_tA h _)).trans ?_
      refine (zr_gfr h (tr_pl_x zl0)).trans ?_
      refine (zr_iload (v := enc l3) rfl (enc_lt _)).trans ?_
      by_cases c3 : 0 ≤ l3 ∧ l3 < 8
      · rw [if_pos c3] at k
        refine (zr_iald h (ta_pl_x zl0) c3.1 (by have := c3.2; omega)).trans ?_
        refine (zr_iload (v := enc l1) rfl (enc_lt _)).trans ?_
        by_cases c4 : nz (g (l0 + 1) l3) = l1
        · rw [if_pos c4] at k
          refine (zr_icmp_ne_n (nz_R _) (zl1) c4).trans ?_
          refine (zr_aload (v := zf b l0) rfl (zf_tA h _)).trans ?_
          refine (zr_gfr h (tr_pl_y zl0)).trans ?_
          refine (zr_iload (v := enc l3) rfl (enc_lt _)).trans ?_
          by_cases c5 : 0 ≤ l3 ∧ l3 < 8
          · rw [if_pos c5] at k
            refine (zr_iald h (ta_pl_y zl0) c5.1 (by have := c5.2; omega)).trans ?_
            refine (zr_iload (v := enc l2) rfl (enc_lt _)).trans ?_
            by_cases c6 : nz (g (l0 + 2) l3) = l2
            · rw [if_pos c6] at k
              refine (zr_icmp_ne_n (nz_R _) (zl2) c6).trans ?_
              refine (zr_iload (v := enc l3) rfl (enc_lt _)).trans ?_
              exact zr_ireturn.trans k
            · rw [if_neg c6] at k
              exact (zr_icmp_ne_t (nz_R _) (zl2) c6).trans k
          · rw [if_neg c5] at k; cases k
        · rw [if_neg c4] at k
          exact (zr_icmp_ne_t (nz_R _) (zl1) c4).trans k
      · rw [if_neg c3] at k; cases k
    · rw [if_neg c2] at k
      exact (zr_icmp_ge_t (zl3) ((by unfold zR; omega)) (Int.not_lt.mp c2)).trans k
  · rw [if_neg c1] at k
    exact (zr_icmp_ge_t (zl3) (nz_R _) (Int.not_lt.mp c1)).trans k
theorem zs_42_0 (h : zOk b n f) {l0 : Nat} {l1 : Int} {l2 : Int} (zl0 : zI_pl l0) (zl1 : zR l1) (zl2 : zR l2) (k : k42_2 V ST d (zCl AL V ST ex_km d) (zRn AL V ST ex_km d kt_42) (zP [zf b l0, enc l1, enc l2, enc 0]) [] (zM n (zWf b f g)) = some r) : k42_0 V ST d (zCl AL V ST ex_km d) (zRn AL V ST ex_km d kt_42) (zP [zf b l0, enc l1, enc l2, 137438953472]) [] (zM n (zWf b f g)) = some r := by
  unfold k42_0
  refine (zr_pshi 0 rfl).trans ?_
  refine (zr_istore (w := enc l2) (vs' := [zf b l0, enc l1, enc l2, enc 0]) rfl (enc_c2 _) (Nat.lt_trans (enc_lt _) (by decide)) (by decide) rfl (enc_lt _)).trans ?_
  exact k
theorem zs_43_43 (h : zOk b n f) {l0 : Nat} {l1 : Nat} {l2 : Int} (zl0 : zI_pl l0) (zl1 : zI_fl l1) (zl2 : zR l2) (k : some (137438953473, (zM n (zWf b f g))) = some r) : k43_43 V ST d (zCl AL V ST ex_km d) (zRn AL V ST ex_km d kt_43) (zP [zf b l0, zf b l1, enc l2]) [] (zM n (zWf b f g)) = some r := by
  unfold k43_43
  exact zr_return.trans k
theorem zs_43_37 (h : zOk b n f) {l0 : Nat} {l1 : Nat} {l2 : Int} (zl0 : zI_pl l0) (zl1 : zI_fl l1) (zl2 : zR l2) (k : zRn AL V ST ex_km d kt_43 8 (zP [zf b l0, zf b l1, enc (nz (l2 + 1))]) [] (zM n (zWf b f g)) = some r) : k43_37 V ST d (zCl AL V ST ex_km d) (zRn AL V ST ex_km d kt_43) (zP [zf b l0, zf b l1, enc l2]) [] (zM n (zWf b f g)) = some r := by
  unfold k43_37
  refine (zr_iinc (w := zf b l1) (x := l2) (i' := 1) (vs' := [zf b l0, zf b l1, enc (nz (l2 + 1))]) rfl (zf_c2 h _) (Nat.lt_trans (zf_l h _) (by decide)) rfl rfl (by decide) rfl).trans ?_
  exact (zr_goto).trans k
theorem zs_43_8 (h : zOk b n f) {l0 : Nat} {l1 : Nat} {l2 : Int} (zl0 : zI_pl l0) (zl1 : zI_fl l1) (zl2 : zR l2) (k : (if l2 < 8 then (if 0 ≤ l2 ∧ l2 < 16 then (if 0 ≤ l2 ∧ l2 < 16 then (if 0 ≤ l2 ∧ l2 < 16 then zTh (zCl AL V ST ex_km d 41 [zf b l0, enc l2, enc (nz (g (l1 + 1) l2)), enc (nz (g (l1 + 2) l2)), enc (nz (g (l1 + 3) l2))] (zM n (zWf b f g))) (zM n (zWf b f g)) [] (fun S M => k43_37 V ST d (zCl AL V ST ex_km d) (zRn AL V ST ex_km d kt_43) (zP [zf b l0, zf b l1, enc l2]) S M) else none) else none) else none) else zRn AL V ST ex_km d kt_43 43 (zP [zf b l0, zf b l1, enc l2]) [] (zM n (zWf b f g))) = some r) : k43_8 V ST d (zCl AL V ST ex_km d) (zRn AL V ST ex_km d kt_43) (zP [zf b l0, zf b l1, enc l2]) [] (zM n (zWf b f g)) = some r := by
  unfold k43_8
  refine (zr_iload (v := enc l2) rfl (enc_lt _)).trans ?_
  refine (zr_pshi 8 rfl).trans ?_
  by_cases c1 : l2 < 8
  · rw [if_pos c1] at k
    refine (zr_icmp_ge_n (zl2) ((by unfold zR; omega)) c1).trans ?_
    refine (zr_aload (v := zf b l0) rfl (zf_tA h _)).trans ?_
    refine (zr_iload (v := enc l2) rfl (enc_lt _)).trans ?_
    refine (zr_aload (v := zf b l1) rfl (zf_tA h _)).trans ?_
    refine (zr_gfr h (tr_fl_x zl1)).trans ?_
    refine (zr_iload (v := enc l2) rfl (enc_lt _)).trans ?_
    by_cases c2 : 0 ≤ l2 ∧ l2 < 16
    · rw [if_pos c2] at k
      refine (zr_iald h (ta_fl_x zl1) c2.1 (by have := c2.2; omega)).trans ?_
      refine (zr_aload (v := zf b l1) rfl (zf_tA h _)).trans ?_
      refine (zr_gfr h (tr_fl_y zl1)).trans ?_
      refine (zr_iload (v := enc l2) rfl (enc_lt _)).trans ?_
      by_cases c3 : 0 ≤ l2 ∧ l2 < 16
      · rw [if_pos c3] at k
        refine (zr_iald h (ta_fl_y zl1) c3.1 (by have := c3.2; omega)).trans ?_
        refine (zr_aload (v := zf b l1) rfl (zf_tA h _)).trans ?_
        refine (zr_gfr h (tr_fl_f zl1)).trans ?_
        refine (zr_iload (v := enc l2) rfl (enc_lt _)).trans ?_
        by_cases c4 : 0 ≤ l2 ∧ l2 < 16
        · rw [if_pos c4] at k
          refine (zr_iald h (ta_fl_f zl1) c4.1 (by have := c4.2; omega)).trans ?_
          refine zr_invV h [enc (nz (g (l1 + 3) l2)), enc (nz (g (l1 + 2) l2)), enc (nz (g (l1 + 1) l2)), enc l2] rfl (tk_pl zl0) (zA_cons (enc_l _) (zA_cons (enc_l _) (zA_cons (enc_l _) (zA_cons (enc_l _) zA_nil)))) (zA_nil) (by decide) ?_
          exact k
        · rw [if_neg c4] at k; cases k
      · rw [if_neg c3] at k; cases k
    · rw [if_neg c2] at k; cases k
  · rw [if_neg c1] at k
    exact (zr_icmp_ge_t (zl2) ((by unfold zR; omega)) (Int.not_lt.mp c1)).trans k
theorem zs_43_0 (h : zOk b n f) {l0 : Nat} {l1 : Nat} (zl0 : zI_pl l0) (zl1 : zI_fl l1) (k : k43_8 V ST d (zCl AL V ST ex_km d) (zRn AL V ST ex_km d kt_43) (zP [zf b l0, zf b l1, enc 0]) [] (zM n (zWf b f (upd g l0 3 8))) = some r) : k43_0 V ST d (zCl AL V ST ex_km d) (zRn AL V ST ex_km d kt_43) (zP [zf b l0, zf b l1, 137438953472]) [] (zM n (zWf b f g)) = some r := by
  unfold k43_0
  refine (zr_aload (v := zf b l0) rfl (zf_tA h _)).trans ?_
  refine (zr_pshi 8 rfl).trans ?_
  refine (zr_pfi h (ti_pl_count zl0)).trans ?_
  refine (zr_pshi 0 rfl).trans ?_
  refine (zr_istore (w := zf b l1) (vs' := [zf b l0, zf b l1, enc 0]) rfl (zf_c2 h _) (Nat.lt_trans (zf_l h _) (by decide)) (by decide) rfl (enc_lt _)).trans ?_
  exact k
theorem zs_44_60 (h : zOk b n f) {l0 : Nat} {l1 : Int} {l2 : Nat} {s0 : Int} (zl0 : zI_pl l0) (zl1 : zR l1) (zl2 : zI_fl l2) (zs0 : zR s0) (k : (if s0 = 0 ∨ s0 = 1 then some (enc s0, (zM n (zWf b f g))) else none) = some r) : k44_60 V ST d (zCl AL V ST ex_km d) (zRn AL V ST ex_km d kt_44) (zP [zf b l0, enc l1, zf b l2]) [enc s0] (zM n (zWf b f g)) = some r := by
  unfold k44_60
  by_cases c1 : s0 = 0 ∨ s0 = 1
  · rw [if_pos c1] at k
    exact (zr_breturn c1).trans k
  · rw [if_neg c1] at k; cases k
theorem zs_44_59 (h : zOk b n f) {l0 : Nat} {l1 : Int} {l2 : Nat} (zl0 : zI_pl l0) (zl1 : zR l1) (zl2 : zI_fl l2) (k : k44_60 V ST d (zCl AL V ST ex_km d) (zRn AL V ST ex_km d kt_44) (zP [zf b l0, enc l1, zf b l2]) [enc 0] (zM n (zWf b f g)) = some r) : k44_59 V ST d (zCl AL V ST ex_km d) (zRn AL V ST ex_km d kt_44) (zP [zf b l0, enc l1, zf b l2]) [] (zM n (zWf b f g)) = some r := by
  unfold k44_59
  refine (zr_pshi 0 rfl).trans ?_
  exact k
theorem zs_44_0 (h : zOk b n f) {l0 : Nat} {l1 : Int} {l2 : Nat} (zl0 : zI_pl l0) (zl1 : zR l1) (zl2 : zI_fl l2) (k : (if l1 < 0 then zRn AL V ST ex_km d kt_44 59 (zP [zf b l0, enc l1, zf b l2]) [] (zM n (zWf b f g)) else (if l1 < 8 then (if 0 ≤ l1 ∧ l1 < 8 then (if 0 ≤ l1 ∧ l1 < 16 then (if nz (g (l0 + 1) l1) = nz (g (l2 + 1) l1) then (if 0 ≤ l1 ∧ l1 < 8 then (if 0 ≤ l1 ∧ l1 < 16 then (if nz (g (l0 + 2) l1) = nz (g (l2 + 2) l1) then (if 0 ≤ l1 ∧ l1 < 8 then (if 0 ≤ l1 ∧ l1 < 16 then (if nz (g (l0 + 3) l1) = nz (g (l2 + 3) l1) then zRn AL V ST ex_km d kt_44 60 (zP [zf b l0, enc l1, zf b l2]) [enc 1] (zM n (zWf b f g)) else zRn AL V ST ex_km d kt_44 59 (zP [zf b l0, enc l1, zf b l2]) [] (zM n (zWf b f g))) else none) else none) else zRn AL V ST ex_km d kt_44 59 (zP [zf b l0, enc l1, zf b l2]) [] (zM n (zWf b f g))) else none) else none) else zRn AL V ST ex_km d kt_44 59 (zP [zf b l0, enc l1, zf b l2]) [] (zM n (zWf b f g))) else none) else none) else zRn AL V ST ex_km d kt_44 59 (zP [zf b l0, enc l1, zf b l2]) [] (zM n (zWf b f g)))) = some r) : k44_0 V ST d (zCl AL V ST ex_km d) (zRn AL V ST ex_km d kt_44) (zP [zf b l0, enc l1, zf b l2]) [] (zM n (zWf b f g)) = some r := by
  unfold k44_0
  refine (zr_iload (v := enc l1) rfl (enc_lt _)).trans ?_
  by_cases c1 : l1 < 0
  · rw [if_pos c1] at k
    exact (zr_if_lt_t (zl1) c1).trans k
  · rw [if_neg c1] at k
    refine (zr_if_lt_n (zl1) (Int.not_lt.mp c1)).trans ?_
    refine (zr_iload (v := enc l1) rfl (enc_lt _)).trans ?_
    refine (zr_pshi 8 rfl).trans ?_
    by_cases c2 : l1 < 8
    · rw [if_pos c2] at k
      refine (zr_icmp_ge_n (zl1) ((by unfold zR; omega)) c2).trans ?_
      refine (zr_aload (v := zf b l0) rfl (zf_tA h _)).trans ?_
      refine (zr_gfr h (tr_pl_x zl0)).trans ?_
      refine (zr_iload (v := enc l1) rfl (enc_lt _)).trans ?_
      by_cases c3 : 0 ≤ l1 ∧ l1 < 8
      · rw [if_pos c3] at k
        refine (zr_iald h (ta_pl_x zl0) c3.1 (by have := c3.2; omega)).trans ?_
        refine (zr_aload (v := zf b l2) rfl (zf_tA h _)).trans ?_
        refine (zr_gfr h (tr_fl_x zl2)).trans ?_
        refine (zr_iload (v := enc l1) rfl (enc_lt _)).trans ?_
        by_cases c4 : 0 ≤ l1 ∧ l1 < 16
        · rw [if_pos c4] at k
          refine (zr_iald h (ta_fl_x zl2) c4.1 (by have := c4.2; omega)).trans ?_
          by_cases c5 : nz (g (l0 + 1) l1) = nz (g (l2 + 1) l1)
          · rw [if_pos c5] at k
            refine (zr_icmp_ne_n (nz_R _) (nz_R _) c5).trans ?_
            refine (zr_aload (v := zf b l0) rfl (zf_tA h _)).trans ?_
            refine (zr_gfr h (tr_pl_y zl0)).trans ?_
            refine (zr_iload (v := enc l1) rfl (enc_lt _)).trans ?_
            by_cases c6 : 0 ≤ l1 ∧ l1 < 8
            · rw [if_pos c6] at k
              refine (zr_iald h (ta_pl_y zl0) c6.1 (by have := c6.2; omega)).trans ?_
              refine (zr_aload (v := zf b l2) rfl (zf_tA h _)).trans ?_
              refine (zr_gfr h (tr_fl_y zl2)).trans ?_
              refine (zr_iload (v := enc l1) rfl (enc_lt _)).trans ?_
              by_cases c7 : 0 ≤ l1 ∧ l1 < 16
              · rw [if_pos c7] at k
                refine (zr_iald h (ta_fl_y zl2) c7.1 (by have := c7.2; omega)).trans ?_
                by_cases c8 : nz (g (l0 + 2) l1) = nz (g (l2 + 2) l1)
                · rw [if_pos c8] at k
                  refine (zr_icmp_ne_n (nz_R _) (nz_R _) c8).trans ?_
                  refine (zr_aload (v := zf b l0) rfl (zf_tA h _)).trans ?_
                  refine (zr_gfr h (tr_pl_f zl0)).trans ?_
                  refine (zr_iload (v := enc l1) rfl (enc_lt _)).trans ?_
                  by_cases c9 : 0 ≤ l1 ∧ l1 < 8
                  · rw [if_pos c9] at k
                    refine (zr_iald h (ta_pl_f zl0) c9.1 (by have := c9.2; omega)).trans ?_
                    refine (zr_aload (v := zf b l2) rfl (zf_tA h _)).trans ?_
                    refine (zr_gfr h (tr_fl_f zl2)).trans ?_
                    refine (zr_iload (v := enc l1) rfl (enc_lt _)).trans ?_
                    by_cases c10 : 0 ≤ l1 ∧ l1 < 16
                    · rw [if_pos c10] at k
                      refine (zr_iald h (ta_fl_f zl2) c10.1 (by have := c10.2; omega)).trans ?_
                      by_cases c11 : nz (g (l0 + 3) l1) = nz (g (l2 + 3) l1)
                      · rw [if_pos c11] at k
                        refine (zr_icmp_ne_n (nz_R _) (nz_R _) c11).trans ?_
                        refine (zr_pshi 1 rfl).trans ?_
                        exact (zr_goto).trans k
                      · rw [if_neg c11] at k
                        exact (zr_icmp_ne_t (nz_R _) (nz_R _) c11).trans k
                    · rw [if_neg c10] at k; cases k
                  · rw [if_neg c9] at k; cases k
                · rw [if_neg c8] at k
                  exact (zr_icmp_ne_t (nz_R _) (nz_R _) c8).trans k
              · rw [if_neg c7] at k; cases k
            · rw [if_neg c6] at k; cases k
          · rw [if_neg c5] at k
            exact (zr_icmp_ne_t (nz_R _) (nz_R _) c5).trans k
        · rw [if_neg c4] at k; cases k
      · rw [if_neg c3] at k; cases k
    · rw [if_neg c2] at k
      exact (zr_icmp_ge_t (zl1) ((by unfold zR; omega)) (Int.not_lt.mp c2)).trans k
theorem zs_46_0 (h : zOk b n f) {l0 : Nat} (zl0 : zI_plan l0) (k : some (137438953473, (zM n (zWf b f (upd (upd (upd (upd (upd (upd g l0 3 0) l0 4 0) l0 5 0) l0 6 0) l0 7 0) l0 8 0)))) = some r) : k46_0 V ST d (zCl AL V ST ex_km d) (zRn AL V ST ex_km d kt_46) (zP [zf b l0]) [] (zM n (zWf b f g)) = some r := by
  unfold k46_0
  refine (zr_aload (v := zf b l0) rfl (zf_tA h _)).trans ?_
  refine (zr_pshi 0 rfl).trans ?_
  refine (zr_pfi h (ti_plan_actCount zl0)).trans ?_
  refine (zr_aload (v := zf b l0) rfl (zf_tA h _)).trans ?_
  refine (zr_pshi 0 rfl).trans ?_
  refine (zr_pfi h (ti_plan_concept zl0)).trans ?_
  refine (zr_aload (v := zf b l0) rfl (zf_tA h _)).trans ?_
  refine (zr_pshi 0 rfl).trans ?_
  refine (zr_pfi h (ti_plan_partCount zl0)).trans ?_
  refine (zr_aload (v := zf b l0) rfl (zf_tA h _)).trans ?_
  refine (zr_pshi 0 rfl).trans ?_
  refine (zr_pfi h (ti_plan_beatCount zl0)).trans ?_
  refine (zr_aload (v := zf b l0) rfl (zf_tA h _)).trans ?_
  refine (zr_pshi 0 rfl).trans ?_
  refine (zr_pfi h (ti_plan_highest zl0)).trans ?_
  refine (zr_aload (v := zf b l0) rfl (zf_tA h _)).trans ?_
  refine (zr_pshi 0 rfl).trans ?_
  refine (zr_pfi h (ti_plan_done zl0)).trans ?_
  exact zr_return.trans k
theorem zs_47_106 (h : zOk b n f) {l0 : Nat} {l1 : Int} {l2 : Int} {l3 : Int} {s0 : Int} {s1 : Nat} (zl0 : zI_plan l0) (zl1 : zR l1) (zl2 : zR l2) (zl3 : zR l3) (zs0 : zR s0) (zs1 : zI_plan s1) (k : some (137438953473, (zM n (zWf b f (upd g s1 7 s0)))) = some r) : k47_106 V ST d (zCl AL V ST ex_km d) (zRn AL V ST ex_km d kt_47) (zP [zf b l0, enc l1, enc l2, enc l3]) [enc s0, zf b s1] (zM n (zWf b f g)) = some r := by
  unfold k47_106
  refine (zr_pfi h (ti_plan_highest zs1)).trans ?_
  exact zr_return.trans k
theorem zs_47_29 (h : zOk b n f) (hST : ∀ s, 1 ≤ s → s < 169 → ST s = ex_st s) {l0 : Nat} {l1 : Int} {l2 : Int} {l3 : Int} (zl0 : zI_plan l0) (zl1 : zR l1) (zl2 : zR l2) (zl3 : zR l3) (k : (if 0 ≤ nz (g l0 3) ∧ nz (g l0 3) < 8 then (if 0 ≤ nz ((upd g (l0 + 1) (nz (g l0 3)) l1) l0 3) ∧ nz ((upd g (l0 + 1) (nz (g l0 3)) l1) l0 3) < 8 then (if 0 ≤ nz ((upd (upd g (l0 + 1) (nz (g l0 3)) l1) (l0 + 2) (nz ((upd g (l0 + 1) (nz (g l0 3)) l1) l0 3)) l2) l0 3) ∧ nz ((upd (upd g (l0 + 1) (nz (g l0 3)) l1) (l0 + 2) (nz ((upd g (l0 + 1) (nz (g l0 3)) l1) l0 3)) l2) l0 3) < 8 then (if 0 ≤ l1 ∧ l1 < 13 then (if 0 ≤ l1 ∧ l1 < 13 then zTh (zCl AL V ST ex_km d 162 [enc (nz ((upd (upd (upd (upd (upd (upd g (l0 + 1) (nz (g l0 3)) l1) (l0 + 2) (nz ((upd g (l0 + 1) (nz (g l0 3)) l1) l0 3)) l2) (l0 + 3) (nz ((upd (upd g (l0 + 1) (nz (g l0 3)) l1) (l0 + 2) (nz ((upd g (l0 + 1) (nz (g l0 3)) l1) l0 3)) l2) l0 3)) l3) l0 3 (nz ((nz ((upd (upd (upd g (l0 + 1) (nz (g l0 3)) l1) (l0 + 2) (nz ((upd g (l0 + 1) (nz (g l0 3)) l1) l0 3)) l2) (l0 + 3) (nz ((upd (upd g (l0 + 1) (nz (g l0 3)) l1) (l0 + 2) (nz ((upd g (l0 + 1) (nz (g l0 3)) l1) l0 3)) l2) l0 3)) l3) l0 3)) + 1))) l0 5 (nz ((nz ((upd (upd (upd (upd g (l0 + 1) (nz (g l0 3)) l1) (l0 + 2) (nz ((upd g (l0 + 1) (nz (g l0 3)) l1) l0 3)) l2) (l0 + 3) (nz ((upd (upd g (l0 + 1) (nz (g l0 3)) l1) (l0 + 2) (nz ((upd g (l0 + 1) (nz (g l0 3)) l1) l0 3)) l2) l0 3)) l3) l0 3 (nz ((nz ((upd (upd (upd g (l0 + 1) (nz (g l0 3)) l1) (l0 + 2) (nz ((upd g (l0 + 1) (nz (g l0 3)) l1) l0 3)) l2) (l0 + 3) (nz ((upd (upd g (l0 + 1) (nz (g l0 3)) l1) (l0 + 2) (nz ((upd g (l0 + 1) (nz (g l0 3)) l1) l0 3)) l2) l0 3)) l3) l0 3)) + 1))) l0 5)) + (sa_ACT_PARTS l1)))) l0 6 (nz (2 * (nz ((upd (upd (upd (upd (upd g (l0 + 1) (nz (g l0 3)) l1) (l0 + 2) (nz ((upd g (l0 + 1) (nz (g l0 3)) l1) l0 3)) l2) (l0 + 3) (nz ((upd (upd g (l0 + 1) (nz (g l0 3)) l1) (l0 + 2) (nz ((upd g (l0 + 1) (nz (g l0 3)) l1) l0 3)) l2) l0 3)) l3) l0 3 (nz ((nz ((upd (upd (upd g (l0 + 1) (nz (g l0 3)) l1) (l0 + 2) (nz ((upd g (l0 + 1) (nz (g l0 3)) l1) l0 3)) l2) (l0 + 3) (nz ((upd (upd g (l0 + 1) (nz (g l0 3)) l1) (l0 + 2) (nz ((upd g (l0 + 1) (nz (g l0 3)) l1) l0 3)) l2) l0 3)) l3) l0 3)) + 1))) l0 5 (nz ((nz ((upd (upd (upd (upd g (l0 + 1) (nz (g l0 3)) l1) (l0 + 2) (nz ((upd g (l0 + 1) (nz (g l0 3)) l1) l0 3)) l2) (l0 + 3) (nz ((upd (upd g (l0 + 1) (nz (g l0 3)) l1) (l0 + 2) (nz ((upd g (l0 + 1) (nz (g l0 3)) l1) l0 3)) l2) l0 3)) l3) l0 3 (nz ((nz ((upd (upd (upd g (l0 + 1) (nz (g l0 3)) l1) (l0 + 2) (nz ((upd g (l0 + 1) (nz (g l0 3)) l1) l0 3)) l2) (l0 + 3) (nz ((upd (upd g (l0 + 1) (nz (g l0 3)) l1) (l0 + 2) (nz ((upd g (l0 + 1) (nz (g l0 3)) l1) l0 3)) l2) l0 3)) l3) l0 3)) + 1))) l0 5)) + (sa_ACT_PARTS l1)))) l0 5))))) l0 7)), enc (sa_ACT_LEVELS l1)] (zM n (zWf b f (upd (upd (upd (upd (upd (upd g (l0 + 1) (nz (g l0 3)) l1) (l0 + 2) (nz ((upd g (l0 + 1) (nz (g l0 3)) l1) l0 3)) l2) (l0 + 3) (nz ((upd (upd g (l0 + 1) (nz (g l0 3)) l1) (l0 + 2) (nz ((upd g (l0 + 1) (nz (g l0 3)) l1) l0 3)) l2) l0 3)) l3) l0 3 (nz ((nz ((upd (upd (upd g (l0 + 1) (nz (g l0 3)) l1) (l0 + 2) (nz ((upd g (l0 + 1) (nz (g l0 3)) l1) l0 3)) l2) (l0 + 3) (nz ((upd (upd g (l0 + 1) (nz (g l0 3)) l1) (l0 + 2) (nz ((upd g (l0 + 1) (nz (g l0 3)) l1) l0 3)) l2) l0 3)) l3) l0 3)) + 1))) l0 5 (nz ((nz ((upd (upd (upd (upd g (l0 + 1) (nz (g l0 3)) l1) (l0 + 2) (nz ((upd g (l0 + 1) (nz (g l0 3)) l1) l0 3)) l2) (l0 + 3) (nz ((upd (upd g (l0 + 1) (nz (g l0 3)) l1) (l0 + 2) (nz ((upd g (l0 + 1) (nz (g l0 3)) l1) l0 3)) l2) l0 3)) l3) l0 3 (nz ((nz ((upd (upd (upd g (l0 + 1) (nz (g l0 3)) l1) (l0 + 2) (nz ((upd g (l0 + 1) (nz (g l0 3)) l1) l0 3)) l2) (l0 + 3) (nz ((upd (upd g (l0 + 1) (nz (g l0 3)) l1) (l0 + 2) (nz ((upd g (l0 + 1) (nz (g l0 3)) l1) l0 3)) l2) l0 3)) l3) l0 3)) + 1))) l0 5)) + (sa_ACT_PARTS l1)))) l0 6 (nz (2 * (nz ((upd (upd (upd (upd (upd g (l0 + 1) (nz (g l0 3)) l1) (l0 + 2) (nz ((upd g (l0 + 1) (nz (g l0 3)) l1) l0 3)) l2) (l0 + 3) (nz ((upd (upd g (l0 + 1) (nz (g l0 3)) l1) (l0 + 2) (nz ((upd g (l0 + 1) (nz (g l0 3)) l1) l0 3)) l2) l0 3)) l3) l0 3 (nz ((nz ((upd (upd (upd g (l0 + 1) (nz (g l0 3)) l1) (l0 + 2) (nz ((upd g (l0 + 1) (nz (g l0 3)) l1) l0 3)) l2) (l0 + 3) (nz ((upd (upd g (l0 + 1) (nz (g l0 3)) l1) (l0 + 2) (nz ((upd g (l0 + 1) (nz (g l0 3)) l1) l0 3)) l2) l0 3)) l3) l0 3)) + 1))) l0 5 (nz ((nz ((upd (upd (upd (upd g (l0 + 1) (nz (g l0 3)) l1) (l0 + 2) (nz ((upd g (l0 + 1) (nz (g l0 3)) l1) l0 3)) l2) (l0 + 3) (nz ((upd (upd g (l0 + 1) (nz (g l0 3)) l1) (l0 + 2) (nz ((upd g (l0 + 1) (nz (g l0 3)) l1) l0 3)) l2) l0 3)) l3) l0 3 (nz ((nz ((upd (upd (upd g (l0 + 1) (nz (g l0 3)) l1) (l0 + 2) (nz ((upd g (l0 + 1) (nz (g l0 3)) l1) l0 3)) l2) (l0 + 3) (nz ((upd (upd g (l0 + 1) (nz (g l0 3)) l1) (l0 + 2) (nz ((upd g (l0 + 1) (nz (g l0 3)) l1) l0 3)) l2) l0 3)) l3) l0 3)) + 1))) l0 5)) + (sa_ACT_PARTS l1)))) l0 5)))))))) (zM n (zWf b f (upd (upd (upd (upd (upd (upd g (l0 + 1) (nz (g l0 3)) l1) (l0 + 2) (nz ((upd g (l0 + 1) (nz (g l0 3)) l1) l0 3)) l2) (l0 + 3) (nz ((upd (upd g (l0 + 1) (nz (g l0 3)) l1) (l0 + 2) (nz ((upd g (l0 + 1) (nz (g l0 3)) l1) l0 3)) l2) l0 3)) l3) l0 3 (nz ((nz ((upd (upd (upd g (l0 + 1) (nz (g l0 3)) l1) (l0 + 2) (nz ((upd g (l0 + 1) (nz (g l0 3)) l1) l0 3)) l2) (l0 + 3) (nz ((upd (upd g (l0 + 1) (nz (g l0 3)) l1) (l0 + 2) (nz ((upd g (l0 + 1) (nz (g l0 3)) l1) l0 3)) l2) l0 3)) l3) l0 3)) + 1))) l0 5 (nz ((nz ((upd (upd (upd (upd g (l0 + 1) (nz (g l0 3)) l1) (l0 + 2) (nz ((upd g (l0 + 1) (nz (g l0 3)) l1) l0 3)) l2) (l0 + 3) (nz ((upd (upd g (l0 + 1) (nz (g l0 3)) l1) (l0 + 2) (nz ((upd g (l0 + 1) (nz (g l0 3)) l1) l0 3)) l2) l0 3)) l3) l0 3 (nz ((nz ((upd (upd (upd g (l0 + 1) (nz (g l0 3)) l1) (l0 + 2) (nz ((upd g (l0 + 1) (nz (g l0 3)) l1) l0 3)) l2) (l0 + 3) (nz ((upd (upd g (l0 + 1) (nz (g l0 3)) l1) (l0 + 2) (nz ((upd g (l0 + 1) (nz (g l0 3)) l1) l0 3)) l2) l0 3)) l3) l0 3)) + 1))) l0 5)) + (sa_ACT_PARTS l1)))) l0 6 (nz (2 * (nz ((upd (upd (upd (upd (upd g (l0 + 1) (nz (g l0 3)) l1) (l0 + 2) (nz ((upd g (l0 + 1) (nz (g l0 3)) l1) l0 3)) l2) (l0 + 3) (nz ((upd (upd g (l0 + 1) (nz (g l0 3)) l1) (l0 + 2) (nz ((upd g (l0 + 1) (nz (g l0 3)) l1) l0 3)) l2) l0 3)) l3) l0 3 (nz ((nz ((upd (upd (upd g (l0 + 1) (nz (g l0 3)) l1) (l0 + 2) (nz ((upd g (l0 + 1) (nz (g l0 3)) l1) l0 3)) l2) (l0 + 3) (nz ((upd (upd g (l0 + 1) (nz (g l0 3)) l1) (l0 + 2) (nz ((upd g (l0 + 1) (nz (g l0 3)) l1) l0 3)) l2) l0 3)) l3) l0 3)) + 1))) l0 5 (nz ((nz ((upd (upd (upd (upd g (l0 + 1) (nz (g l0 3)) l1) (l0 + 2) (nz ((upd g (l0 + 1) (nz (g l0 3)) l1) l0 3)) l2) (l0 + 3) (nz ((upd (upd g (l0 + 1) (nz (g l0 3)) l1) (l0 + 2) (nz ((upd g (l0 + 1) (nz (g l0 3)) l1) l0 3)) l2) l0 3)) l3) l0 3 (nz ((nz ((upd (upd (upd g (l0 + 1) (nz (g l0 3)) l1) (l0 + 2) (nz ((upd g (l0 + 1) (nz (g l0 3)) l1) l0 3)) l2) (l0 + 3) (nz ((upd (upd g (l0 + 1) (nz (g l0 3)) l1) (l0 + 2) (nz ((upd g (l0 + 1) (nz (g l0 3)) l1) l0 3)) l2) l0 3)) l3) l0 3)) + 1))) l0 5)) + (sa_ACT_PARTS l1)))) l0 5))))))) [zf b l0] (fun S M => k47_106 V ST d (zCl AL V ST ex_km d) (zRn AL V ST ex_km d kt_47) (zP [zf b l0, enc l1, enc l2, enc l3]) S M) else none) else none) else none) else none) else none) = some r) : k47_29 V ST d (zCl AL V ST ex_km d) (zRn AL V ST ex_km d kt_47) (zP [zf b l0, enc l1, enc l2, enc l3]) [] (zM n (zWf b f g)) = some r := by
  unfold k47_29
  refine (zr_aload (v := zf b l0) rfl (zf_tA h _)).trans ?_
  refine (zr_gfr h (tr_plan_acts zl0)).trans ?_
  refine (zr_aload (v := zf b l0) rfl (zf_tA h _)).trans ?_
  refine (zr_gfi h (ti_plan_actCount zl0)).trans ?_
  refine (zr_iload (v := enc l1) rfl (enc_lt _)).trans ?_
  by_cases c1 : 0 ≤ nz (g l0 3) ∧ nz (g l0 3) < 8
  · rw [if_pos c1] at k
    refine (zr_iast h (ta_plan_acts zl0) c1.1 (by have := c1.2; omega)).trans ?_
    refine (zr_aload (v := zf b l0) rfl (zf_tA h _)).trans ?_
    refine (zr_gfr h (tr_plan_whos zl0)).trans ?_
    refine (zr_aload (v := zf b l0) rfl (zf_tA h _)).trans ?_
    refine (zr_gfi h (ti_plan_actCount zl0)).trans ?_
    refine (zr_iload (v := enc l2) rfl (enc_lt _)).trans ?_
    by_cases c2 : 0 ≤ nz ((upd g (l0 + 1) (nz (g l0 3)) l1) l0 3) ∧ nz ((upd g (l0 + 1) (nz (g l0 3)) l1) l0 3) < 8
    · rw [if_pos c2] at k
      refine (zr_iast h (ta_plan_whos zl0) c2.1 (by have := c2.2; omega)).trans ?_
      refine (zr_aload (v := zf b l0) rfl (zf_tA h _)).trans ?_
      refine (zr_gfr h (tr_plan_concepts zl0)).trans ?_
      refine (zr_aload (v := zf b l0) rfl (zf_tA h _)).trans ?_
      refine (zr_gfi h (ti_plan_actCount zl0)).trans ?_
      refine (zr_iload (v := enc l3) rfl (enc_lt _)).trans ?_
      by_cases c3 : 0 ≤ nz ((upd (upd g (l0 + 1) (nz (g l0 3)) l1) (l0 + 2) (nz ((upd g (l0 + 1) (nz (g l0 3)) l1) l0 3)) l2) l0 3) ∧ nz ((upd (upd g (l0 + 1) (nz (g l0 3)) l1) (l0 + 2) (nz ((upd g (l0 + 1) (nz (g l0 3)) l1) l0 3)) l2) l0 3) < 8
      · rw [if_pos c3] at k
        refine (zr_iast h (ta_plan_concepts zl0) c3.1 (by have := c3.2; omega)).trans ?_
        refine (zr_aload (v := zf b l0) rfl (zf_tA h _)).trans ?_
        refine (zr_dup (zf_c2 h _)).trans ?_
        refine (zr_gfi h (ti_plan_actCount zl0)).trans ?_
        refine (zr_pshi 1 rfl).trans ?_
        refine (zr_iadd).trans ?_
        refine (zr_pfi h (ti_plan_actCount zl0)).trans ?_
        refine (zr_aload (v := zf b l0) rfl (zf_tA h _)).trans ?_
        refine (zr_dup (zf_c2 h _)).trans ?_
        refine (zr_gfi h (ti_plan_partCount zl0)).trans ?_
        refine (zr_psh).trans ?_
        refine (zr_iload (v := enc l1) rfl (enc_lt _)).trans ?_
        by_cases c4 : 0 ≤ l1 ∧ l1 < 13
        · rw [if_pos c4] at k
          refine (zr_iaS (s := 2) (m := 13) ((hST 2 (by decide) (by decide)).symm ▸ (by decide +kernel : ex_get (ex_st 2) 0 = 64 + 256 * 13)) (by decide) c4.1 (by have := c4.2; omega) (by rw [hST 2 (by decide) (by decide)]; exact sa_ACT_PARTS_E c4.1 c4.2) (by decide)).trans ?_
          refine (zr_iadd).trans ?_
          refine (zr_pfi h (ti_plan_partCount zl0)).trans ?_
          refine (zr_aload (v := zf b l0) rfl (zf_tA h _)).trans ?_
          refine (zr_pshi 2 rfl).trans ?_
          refine (zr_aload (v := zf b l0) rfl (zf_tA h _)).trans ?_
          refine (zr_gfi h (ti_plan_partCount zl0)).trans ?_
          refine (zr_imul).trans ?_
          refine (zr_pfi h (ti_plan_beatCount zl0)).trans ?_
          refine (zr_aload (v := zf b l0) rfl (zf_tA h _)).trans ?_
          refine (zr_aload (v := zf b l0) rfl (zf_tA h _)).trans ?_
          refine (zr_gfi h (ti_plan_highest zl0)).trans ?_
          refine (zr_psh).trans ?_
          refine (zr_iload (v := enc l1) rfl (enc_lt _)).trans ?_
          by_cases c5 : 0 ≤ l1 ∧ l1 < 13
          · rw [if_pos c5] at k
            refine (zr_iaS (s := 1) (m := 13) ((hST 1 (by decide) (by decide)).symm ▸ (by decide +kernel : ex_get (ex_st 1) 0 = 64 + 256 * 13)) (by decide) c5.1 (by have := c5.2; omega) (by rw [hST 1 (by decide) (by decide)]; exact sa_ACT_LEVELS_E c5.1 c5.2) (by decide)).trans ?_
            refine zr_invS [enc (sa_ACT_LEVELS l1), enc (nz ((upd (upd (upd (upd (upd (upd g (l0 + 1) (nz (g l0 3)) l1) (l0 + 2) (nz ((upd g (l0 + 1) (nz (g l0 3)) l1) l0 3)) l2) (l0 + 3) (nz ((upd (upd g (l0 + 1) (nz (g l0 3)) l1) (l0 + 2) (nz ((upd g (l0 + 1) (nz (g l0 3)) l1) l0 3)) l2) l0 3)) l3) l0 3 (nz ((nz ((upd (upd (upd g (l0 + 1) (nz (g l0 3)) l1) (l0 + 2) (nz ((upd g (l0 + 1) (nz (g l0 3)) l1) l0 3)) l2) (l0 + 3) (nz ((upd (upd g (l0 + 1) (nz (g l0 3)) l1) (l0 + 2) (nz ((upd g (l0 + 1) (nz (g l0 3)) l1) l0 3)) l2) l0 3)) l3) l0 3)) + 1))) l0 5 (nz ((nz ((upd (upd (upd (upd g (l0 + 1) (nz (g l0 3)) l1) (l0 + 2) (nz ((upd g (l0 + 1) (nz (g l0 3)) l1) l0 3)) l2) (l0 + 3) (nz ((upd (upd g (l0 + 1) (nz (g l0 3)) l1) (l0 + 2) (nz ((upd g (l0 + 1) (nz (g l0 3)) l1) l0 3)) l2) l0 3)) l3) l0 3 (nz ((nz ((upd (upd (upd g (l0 + 1) (nz (g l0 3)) l1) (l0 + 2) (nz ((upd g (l0 + 1) (nz (g l0 3)) l1) l0 3)) l2) (l0 + 3) (nz ((upd (upd g (l0 + 1) (nz (g l0 3)) l1) (l0 + 2) (nz ((upd g (l0 + 1) (nz (g l0 3)) l1) l0 3)) l2) l0 3)) l3) l0 3)) + 1))) l0 5)) + (sa_ACT_PARTS l1)))) l0 6 (nz (2 * (nz ((upd (upd (upd (upd (upd g (l0 + 1) (nz (g l0 3)) l1) (l0 + 2) (nz ((upd g (l0 + 1) (nz (g l0 3)) l1) l0 3)) l2) (l0 + 3) (nz ((upd (upd g (l0 + 1) (nz (g l0 3)) l1) (l0 + 2) (nz ((upd g (l0 + 1) (nz (g l0 3)) l1) l0 3)) l2) l0 3)) l3) l0 3 (nz ((nz ((upd (upd (upd g (l0 + 1) (nz (g l0 3)) l1) (l0 + 2) (nz ((upd g (l0 + 1) (nz (g l0 3)) l1) l0 3)) l2) (l0 + 3) (nz ((upd (upd g (l0 + 1) (nz (g l0 3)) l1) (l0 + 2) (nz ((upd g (l0 + 1) (nz (g l0 3)) l1) l0 3)) l2) l0 3)) l3) l0 3)) + 1))) l0 5 (nz ((nz ((upd (upd (upd (upd g (l0 + 1) (nz (g l0 3)) l1) (l0 + 2) (nz ((upd g (l0 + 1) (nz (g l0 3)) l1) l0 3)) l2) (l0 + 3) (nz ((upd (upd g (l0 + 1) (nz (g l0 3)) l1) (l0 + 2) (nz ((upd g (l0 + 1) (nz (g l0 3)) l1) l0 3)) l2) l0 3)) l3) l0 3 (nz ((nz ((upd (upd (upd g (l0 + 1) (nz (g l0 3)) l1) (l0 + 2) (nz ((upd g (l0 + 1) (nz (g l0 3)) l1) l0 3)) l2) (l0 + 3) (nz ((upd (upd g (l0 + 1) (nz (g l0 3)) l1) (l0 + 2) (nz ((upd g (l0 + 1) (nz (g l0 3)) l1) l0 3)) l2) l0 3)) l3) l0 3)) + 1))) l0 5)) + (sa_ACT_PARTS l1)))) l0 5))))) l0 7))] rfl (zA_cons (enc_l _) (zA_cons (enc_l _) zA_nil)) (zA_cons (zf_l h _) zA_nil) (by decide) ?_
            exact k
          · rw [if_neg c5] at k; cases k
        · rw [if_neg c4] at k; cases k
      · rw [if_neg c3] at k; cases k
    · rw [if_neg c2] at k; cases k
  · rw [if_neg c1] at k; cases k
theorem zs_47_28 (h : zOk b n f) {l0 : Nat} {l1 : Int} {l2 : Int} {l3 : Int} (zl0 : zI_plan l0) (zl1 : zR l1) (zl2 : zR l2) (zl3 : zR l3) (k : some (137438953473, (zM n (zWf b f g))) = some r) : k47_28 V ST d (zCl AL V ST ex_km d) (zRn AL V ST ex_km d kt_47) (zP [zf b l0, enc l1, enc l2, enc l3]) [] (zM n (zWf b f g)) = some r := by
  unfold k47_28
  exact zr_return.trans k
theorem zs_47_0 (h : zOk b n f) (hST : ∀ s, 1 ≤ s → s < 169 → ST s = ex_st s) {l0 : Nat} {l1 : Int} {l2 : Int} {l3 : Int} (zl0 : zI_plan l0) (zl1 : zR l1) (zl2 : zR l2) (zl3 : zR l3) (k : (if nz (g l0 3) < 0 then zRn AL V ST ex_km d kt_47 28 (zP [zf b l0, enc l1, enc l2, enc l3]) [] (zM n (zWf b f g)) else (if nz (g l0 3) < 8 then (if l1 < 0 then zRn AL V ST ex_km d kt_47 28 (zP [zf b l0, enc l1, enc l2, enc l3]) [] (zM n (zWf b f g)) else (if l1 < 13 then zRn AL V ST ex_km d kt_47 29 (zP [zf b l0, enc l1, enc l2, enc l3]) [] (zM n (zWf b f g)) else k47_28 V ST d (zCl AL V ST ex_km d) (zRn AL V ST ex_km d kt_47) (zP [zf b l0, enc l1, enc l2, enc l3]) [] (zM n (zWf b f g)))) else zRn AL V ST ex_km d kt_47 28 (zP [zf b l0, enc l1, enc l2, enc l3]) [] (zM n (zWf b f g)))) = some r) : k47_0 V ST d (zCl AL V ST ex_km d) (zRn AL V ST ex_km d kt_47) (zP [zf b l0, enc l1, enc l2, enc l3]) [] (zM n (zWf b f g)) = some r := by
  unfold k47_0
  refine (zr_aload (v := zf b l0) rfl (zf_tA h _)).trans ?_
  refine (zr_gfi h (ti_plan_actCount zl0)).trans ?_
  by_cases c1 : nz (g l0 3) < 0
  · rw [if_pos c1] at k
    exact (zr_if_lt_t (nz_R _) c1).trans k
  · rw [if_neg c1] at k
    refine (zr_if_lt_n (nz_R _) (Int.not_lt.mp c1)).trans ?_
    refine (zr_aload (v := zf b l0) rfl (zf_tA h _)).trans ?_
    refine (zr_gfi h (ti_plan_actCount zl0)).trans ?_
    refine (zr_pshi 8 rfl).trans ?_
    by_cases c2 : nz (g l0 3) < 8
    · rw [if_pos c2] at k
      refine (zr_icmp_ge_n (nz_R _) ((by unfold zR; omega)) c2).trans ?_
      refine (zr_iload (v := enc l1) rfl (enc_lt _)).trans ?_
      by_cases c3 : l1 < 0
      · rw [if_pos c3] at k
        exact (zr_if_lt_t (zl1) c3).trans k
      · rw [if_neg c3] at k
        refine (zr_if_lt_n (zl1) (Int.not_lt.mp c3)).trans ?_
        refine (zr_iload (v := enc l1) rfl (enc_lt _)).trans ?_
        refine (zr_psh).trans ?_
        refine (zr_alenS (s := 2) (m := 13) ((hST 2 (by decide) (by decide)).symm ▸ (by decide +kernel : ex_get (ex_st 2) 0 = 64 + 256 * 13)) (by decide) (by decide)).trans ?_
        by_cases c4 : l1 < 13
        · rw [if_pos c4] at k
          exact (zr_icmp_lt_t (zl1) ((by unfold zR; omega)) c4).trans k
        · rw [if_neg c4] at k
          refine (zr_icmp_lt_n (zl1) ((by unfold zR; omega)) (Int.not_lt.mp c4)).trans ?_
          exact k
    · rw [if_neg c2] at k
      exact (zr_icmp_ge_t (nz_R _) ((by unfold zR; omega)) (Int.not_lt.mp c2)).trans k
theorem zs_48_11 (h : zOk b n f) {l0 : Nat} {l1 : Int} (zl0 : zI_plan l0) (zl1 : zR l1) (k : some (137438953473, (zM n (zWf b f g))) = some r) : k48_11 V ST d (zCl AL V ST ex_km d) (zRn AL V ST ex_km d kt_48) (zP [zf b l0, enc l1]) [] (zM n (zWf b f g)) = some r := by
  unfold k48_11
  exact zr_return.trans k
theorem zs_48_4 (h : zOk b n f) {l0 : Nat} {l1 : Int} (zl0 : zI_plan l0) (zl1 : zR l1) (k : zTh (zCl AL V ST ex_km d 47 [zf b l0, enc l1, enc 0, enc 0] (zM n (zWf b f g))) (zM n (zWf b f g)) [] (fun S M => k48_11 V ST d (zCl AL V ST ex_km d) (zRn AL V ST ex_km d kt_48) (zP [zf b l0, enc l1]) S M) = some r) : k48_4 V ST d (zCl AL V ST ex_km d) (zRn AL V ST ex_km d kt_48) (zP [zf b l0, enc l1]) [] (zM n (zWf b f g)) = some r := by
  unfold k48_4
  refine (zr_aload (v := zf b l0) rfl (zf_tA h _)).trans ?_
  refine (zr_iload (v := enc l1) rfl (enc_lt _)).trans ?_
  refine (zr_pshi 0 rfl).trans ?_
  refine (zr_pshi 0 rfl).trans ?_
  refine zr_invV h [enc 0, enc 0, enc l1] rfl (tk_plan zl0) (zA_cons (enc_l _) (zA_cons (enc_l _) (zA_cons (enc_l _) zA_nil))) (zA_nil) (by decide) ?_
  exact k
theorem zs_48_0 (h : zOk b n f) {l0 : Nat} {l1 : Int} (zl0 : zI_plan l0) (zl1 : zR l1) (k : zTh (zCl AL V ST ex_km d 46 [zf b l0] (zM n (zWf b f g))) (zM n (zWf b f g)) [] (fun S M => k48_4 V ST d (zCl AL V ST ex_km d) (zRn AL V ST ex_km d kt_48) (zP [zf b l0, enc l1]) S M) = some r) : k48_0 V ST d (zCl AL V ST ex_km d) (zRn AL V ST ex_km d kt_48) (zP [zf b l0, enc l1]) [] (zM n (zWf b f g)) = some r := by
  unfold k48_0
  refine (zr_aload (v := zf b l0) rfl (zf_tA h _)).trans ?_
  refine zr_invV h [] rfl (tk_plan zl0) (zA_nil) (zA_nil) (by decide) ?_
  exact k
theorem zs_49_11 (h : zOk b n f) {l0 : Nat} {l1 : Int} {l2 : Int} (zl0 : zI_plan l0) (zl1 : zR l1) (zl2 : zR l2) (k : some (137438953473, (zM n (zWf b f (upd g l0 4 l2)))) = some r) : k49_11 V ST d (zCl AL V ST ex_km d) (zRn AL V ST ex_km d kt_49) (zP [zf b l0, enc l1, enc l2]) [] (zM n (zWf b f g)) = some r := by
  unfold k49_11
  refine (zr_aload (v := zf b l0) rfl (zf_tA h _)).trans ?_
  refine (zr_iload (v := enc l2) rfl (enc_lt _)).trans ?_
  refine (zr_pfi h (ti_plan_concept zl0)).trans ?_
  exact zr_return.trans k
theorem zs_49_0 (h : zOk b n f) {l0 : Nat} {l1 : Int} {l2 : Int} (zl0 : zI_plan l0) (zl1 : zR l1) (zl2 : zR l2) (k : (if l1 = 0 then zRn AL V ST ex_km d kt_49 11 (zP [zf b l0, enc l1, enc l2]) [] (zM n (zWf b f g)) else k49_11 V ST d (zCl AL V ST ex_km d) (zRn AL V ST ex_km d kt_49) (zP [zf b l0, enc l1, enc l2]) [] (zM n (zWf b f (upd g (l0 + 2) 0 l1)))) = some r) : k49_0 V ST d (zCl AL V ST ex_km d) (zRn AL V ST ex_km d kt_49) (zP [zf b l0, enc l1, enc l2]) [] (zM n (zWf b f g)) = some r := by
  unfold k49_0
  refine (zr_iload (v := enc l1) rfl (enc_lt _)).trans ?_
  by_cases c1 : l1 = 0
  · rw [if_pos c1] at k
    exact (zr_if_eq_t (zl1) c1).trans k
  · rw [if_neg c1] at k
    refine (zr_if_eq_n (zl1) c1).trans ?_
    refine (zr_aload (v := zf b l0) rfl (zf_tA h _)).trans ?_
    refine (zr_gfr h (tr_plan_whos zl0)).trans ?_
    refine (zr_pshi 0 rfl).trans ?_
    refine (zr_iload (v := enc l1) rfl (enc_lt _)).trans ?_
    refine (zr_iast h (ta_plan_whos zl0) (by decide) (by decide)).trans ?_
    exact k
theorem zs_50_69 (h : zOk b n f) {l0 : Nat} {l2 : Int} {l3 : Int} (zl0 : zI_plan l0) (zl2 : zR l2) (zl3 : zR l3) (k : some (137438953473, (zM n (zWf b f g))) = some r) : k50_69 V ST d (zCl AL V ST ex_km d) (zRn AL V ST ex_km d kt_50) (zP [zf b l0, zf b 71, enc l2, enc l3]) [] (zM n (zWf b f g)) = some r := by
  unfold k50_69
  exact zr_return.trans k
theorem zs_50_50 (h : zOk b n f) {l0 : Nat} {l2 : Int} {l3 : Int} (zl0 : zI_plan l0) (zl2 : zR l2) (zl3 : zR l3) (k : (if 0 ≤ l2 ∧ l2 < 24 then (if 0 < nz (g 75 l2) then (if 0 ≤ l2 ∧ l2 < 24 then k50_69 V ST d (zCl AL V ST ex_km d) (zRn AL V ST ex_km d kt_50) (zP [zf b l0, zf b 71, enc l2, enc l3]) [] (zM n (zWf b f (upd g l0 6 (nz (g 75 l2))))) else none) else zRn AL V ST ex_km d kt_50 69 (zP [zf b l0, zf b 71, enc l2, enc l3]) [] (zM n (zWf b f g))) else none) = some r) : k50_50 V ST d (zCl AL V ST ex_km d) (zRn AL V ST ex_km d kt_50) (zP [zf b l0, zf b 71, enc l2, enc l3]) [] (zM n (zWf b f g)) = some r := by
  unfold k50_50
  refine (zr_aload (v := zf b 71) rfl (zf_tA h _)).trans ?_
  refine (zr_gfr h (tr_book_beatsTold rfl)).trans ?_
  refine (zr_iload (v := enc l2) rfl (enc_lt _)).trans ?_
  by_cases c1 : 0 ≤ l2 ∧ l2 < 24
  · rw [if_pos c1] at k
    refine (zr_iald h (ta_book_beatsTold rfl) c1.1 (by have := c1.2; omega)).trans ?_
    by_cases c2 : 0 < nz (g 75 l2)
    · rw [if_pos c2] at k
      refine (zr_if_le_n (nz_R _) c2).trans ?_
      refine (zr_aload (v := zf b l0) rfl (zf_tA h _)).trans ?_
      refine (zr_aload (v := zf b 71) rfl (zf_tA h _)).trans ?_
      refine (zr_gfr h (tr_book_beatsTold rfl)).trans ?_
      refine (zr_iload (v := enc l2) rfl (enc_lt _)).trans ?_
      by_cases c3 : 0 ≤ l2 ∧ l2 < 24
      · rw [if_pos c3] at k
        refine (zr_iald h (ta_book_beatsTold rfl) c3.1 (by have := c3.2; omega)).trans ?_
        refine (zr_pfi h (ti_plan_beatCount zl0)).trans ?_
        exact k
      · rw [if_neg c3] at k; cases k
    · rw [if_neg c2] at k
      exact (zr_if_le_t (nz_R _) (Int.not_lt.mp c2)).trans k
  · rw [if_neg c1] at k; cases k
theorem zs_50_44 (h : zOk b n f) {l0 : Nat} {l2 : Int} {l3 : Int} (zl0 : zI_plan l0) (zl2 : zR l2) (zl3 : zR l3) (k : zRn AL V ST ex_km d kt_50 6 (zP [zf b l0, zf b 71, enc l2, enc (nz (l3 + 1))]) [] (zM n (zWf b f g)) = some r) : k50_44 V ST d (zCl AL V ST ex_km d) (zRn AL V ST ex_km d kt_50) (zP [zf b l0, zf b 71, enc l2, enc l3]) [] (zM n (zWf b f g)) = some r := by
  unfold k50_44
  refine (zr_iinc (w := enc l2) (x := l3) (i' := 1) (vs' := [zf b l0, zf b 71, enc l2, enc (nz (l3 + 1))]) rfl (enc_c2 _) (Nat.lt_trans (enc_lt _) (by decide)) rfl rfl (by decide) rfl).trans ?_
  exact (zr_goto).trans k
theorem zs_50_6 (h : zOk b n f) {l0 : Nat} {l2 : Int} {l3 : Int} (zl0 : zI_plan l0) (zl2 : zR l2) (zl3 : zR l3) (k : (if 0 ≤ l2 ∧ l2 < 24 then (if l3 < nz (g 74 l2) then (if 0 ≤ l2 ∧ l2 < 24 then (if 0 ≤ l3 ∧ l3 < 8 then (if 0 ≤ l2 ∧ l2 < 24 then (if 0 ≤ l3 ∧ l3 < 8 then (if 0 ≤ l2 ∧ l2 < 24 then (if 0 ≤ l3 ∧ l3 < 8 then zTh (zCl AL V ST ex_km d 47 [zf b l0, enc (nz (g (76 + 1 + Int.toNat l2) l3)), enc (nz (g (101 + 1 + Int.toNat l2) l3)), enc (nz (g (126 + 1 + Int.toNat l2) l3))] (zM n (zWf b f g))) (zM n (zWf b f g)) [] (fun S M => k50_44 V ST d (zCl AL V ST ex_km d) (zRn AL V ST ex_km d kt_50) (zP [zf b l0, zf b 71, enc l2, enc l3]) S M) else none) else none) else none) else none) else none) else none) else zRn AL V ST ex_km d kt_50 50 (zP [zf b l0, zf b 71, enc l2, enc l3]) [] (zM n (zWf b f g))) else none) = some r) : k50_6 V ST d (zCl AL V ST ex_km d) (zRn AL V ST ex_km d kt_50) (zP [zf b l0, zf b 71, enc l2, enc l3]) [] (zM n (zWf b f g)) = some r := by
  unfold k50_6
  refine (zr_iload (v := enc l3) rfl (enc_lt _)).trans ?_
  refine (zr_aload (v := zf b 71) rfl (zf_tA h _)).trans ?_
  refine (zr_gfr h (tr_book_actCounts rfl)).trans ?_
  refine (zr_iload (v := enc l2) rfl (enc_lt _)).trans ?_
  by_cases c1 : 0 ≤ l2 ∧ l2 < 24
  · rw [if_pos c1] at k
    refine (zr_iald h (ta_book_actCounts rfl) c1.1 (by have := c1.2; omega)).trans ?_
    by_cases c2 : l3 < nz (g 74 l2)
    · rw [if_pos c2] at k
      refine (zr_icmp_ge_n (zl3) (nz_R _) c2).trans ?_
      refine (zr_aload (v := zf b l0) rfl (zf_tA h _)).trans ?_
      refine (zr_aload (v := zf b 71) rfl (zf_tA h _)).trans ?_
      refine (zr_gfr h (tr_book_acts rfl)).trans ?_
      refine (zr_iload (v := enc l2) rfl (enc_lt _)).trans ?_
      by_cases c3 : 0 ≤ l2 ∧ l2 < 24
      · rw [if_pos c3] at k
        refine (zr_aald h (taa_book_acts) c3.1 (by have := c3.2; omega)).trans ?_
        have a4 : zAr (76 + 1 + Int.toNat l2) 64 8 := ((taa_book_acts).2.2.2.2 _ (by have := c3.1; have := c3.2; omega)).2.2
        refine (zr_iload (v := enc l3) rfl (enc_lt _)).trans ?_
        by_cases c5 : 0 ≤ l3 ∧ l3 < 8
        · rw [if_pos c5] at k
          refine (zr_iald h a4 c5.1 (by have := c5.2; omega)).trans ?_
          refine (zr_aload (v := zf b 71) rfl (zf_tA h _)).trans ?_
          refine (zr_gfr h (tr_book_whos rfl)).trans ?_
          refine (zr_iload (v := enc l2) rfl (enc_lt _)).trans ?_
          by_cases c6 : 0 ≤ l2 ∧ l2 < 24
          · rw [if_pos c6] at k
            refine (zr_aald h (taa_book_whos) c6.1 (by have := c6.2; omega)).trans ?_
            have a7 : zAr (101 + 1 + Int.toNat l2) 64 8 := ((taa_book_whos).2.2.2.2 _ (by have := c6.1; have := c6.2; omega)).2.2
            refine (zr_iload (v := enc l3) rfl (enc_lt _)).trans ?_
            by_cases c8 : 0 ≤ l3 ∧ l3 < 8
            · rw [if_pos c8] at k
              refine (zr_iald h a7 c8.1 (by have := c8.2; omega)).trans ?_
              refine (zr_aload (v := zf b 71) rfl (zf_tA h _)).trans ?_
              refine (zr_gfr h (tr_book_concepts rfl)).trans ?_
              refine (zr_iload (v := enc l2) rfl (enc_lt _)).trans ?_
              by_cases c9 : 0 ≤ l2 ∧ l2 < 24
              · rw [if_pos c9] at k
                refine (zr_aald h (taa_book_concepts) c9.1 (by have := c9.2; omega)).trans ?_
                have a10 : zAr (126 + 1 + Int.toNat l2) 64 8 := ((taa_book_concepts).2.2.2.2 _ (by have := c9.1; have := c9.2; omega)).2.2
                refine (zr_iload (v := enc l3) rfl (enc_lt _)).trans ?_
                by_cases c11 : 0 ≤ l3 ∧ l3 < 8
                · rw [if_pos c11] at k
                  refine (zr_iald h a10 c11.1 (by have := c11.2; omega)).trans ?_
                  refine zr_invV h [enc (nz (g (126 + 1 + Int.toNat l2) l3)), enc (nz (g (101 + 1 + Int.toNat l2) l3)), enc (nz (g (76 + 1 + Int.toNat l2) l3))] rfl (tk_plan zl0) (zA_cons (enc_l _) (zA_cons (enc_l _) (zA_cons (enc_l _) zA_nil))) (zA_nil) (by decide) ?_
                  exact k
                · rw [if_neg c11] at k; cases k
              · rw [if_neg c9] at k; cases k
            · rw [if_neg c8] at k; cases k
          · rw [if_neg c6] at k; cases k
        · rw [if_neg c5] at k; cases k
      · rw [if_neg c3] at k; cases k
    · rw [if_neg c2] at k
      exact (zr_icmp_ge_t (zl3) (nz_R _) (Int.not_lt.mp c2)).trans k
  · rw [if_neg c1] at k; cases k
theorem zs_50_4 (h : zOk b n f) {l0 : Nat} {l2 : Int} (zl0 : zI_plan l0) (zl2 : zR l2) (k : k50_6 V ST d (zCl AL V ST ex_km d) (zRn AL V ST ex_km d kt_50) (zP [zf b l0, zf b 71, enc l2, enc 0]) [] (zM n (zWf b f g)) = some r) : k50_4 V ST d (zCl AL V ST ex_km d) (zRn AL V ST ex_km d kt_50) (zP [zf b l0, zf b 71, enc l2, 137438953472]) [] (zM n (zWf b f g)) = some r := by
  unfold k50_4
  refine (zr_pshi 0 rfl).trans ?_
  refine (zr_istore (w := enc l2) (vs' := [zf b l0, zf b 71, enc l2, enc 0]) rfl (enc_c2 _) (Nat.lt_trans (enc_lt _) (by decide)) (by decide) rfl (enc_lt _)).trans ?_
  exact k
theorem zs_50_0 (h : zOk b n f) {l0 : Nat} {l2 : Int} (zl0 : zI_plan l0) (zl2 : zR l2) (k : zTh (zCl AL V ST ex_km d 46 [zf b l0] (zM n (zWf b f g))) (zM n (zWf b f g)) [] (fun S M => k50_4 V ST d (zCl AL V ST ex_km d) (zRn AL V ST ex_km d kt_50) (zP [zf b l0, zf b 71, enc l2, 137438953472]) S M) = some r) : k50_0 V ST d (zCl AL V ST ex_km d) (zRn AL V ST ex_km d kt_50) (zP [zf b l0, zf b 71, enc l2, 137438953472]) [] (zM n (zWf b f g)) = some r := by
  unfold k50_0
  refine (zr_aload (v := zf b l0) rfl (zf_tA h _)).trans ?_
  refine zr_invV h [] rfl (tk_plan zl0) (zA_nil) (zA_nil) (by decide) ?_
  exact k
theorem zs_51_42 (h : zOk b n f) {l0 : Nat} {l1 : Nat} {l2 : Int} {l3 : Int} (zl0 : zI_plan l0) (zl1 : zI_plan l1) (zl2 : zR l2) (zl3 : zR l3) (k : some (137438953473, (zM n (zWf b f (upd (upd (upd g l0 4 (nz (g l1 4))) l0 6 (nz ((upd g l0 4 (nz (g l1 4))) l1 6))) l0 8 l2)))) = some r) : k51_42 V ST d (zCl AL V ST ex_km d) (zRn AL V ST ex_km d kt_51) (zP [zf b l0, zf b l1, enc l2, enc l3]) [] (zM n (zWf b f g)) = some r := by
  unfold k51_42
  refine (zr_aload (v := zf b l0) rfl (zf_tA h _)).trans ?_
  refine (zr_aload (v := zf b l1) rfl (zf_tA h _)).trans ?_
  refine (zr_gfi h (ti_plan_concept zl1)).trans ?_
  refine (zr_pfi h (ti_plan_concept zl0)).trans ?_
  refine (zr_aload (v := zf b l0) rfl (zf_tA h _)).trans ?_
  refine (zr_aload (v := zf b l1) rfl (zf_tA h _)).trans ?_
  refine (zr_gfi h (ti_plan_beatCount zl1)).trans ?_
  refine (zr_pfi h (ti_plan_beatCount zl0)).trans ?_
  refine (zr_aload (v := zf b l0) rfl (zf_tA h _)).trans ?_
  refine (zr_iload (v := enc l2) rfl (enc_lt _)).trans ?_
  refine (zr_pfi h (ti_plan_done zl0)).trans ?_
  exact zr_return.trans k
theorem zs_51_36 (h : zOk b n f) {l0 : Nat} {l1 : Nat} {l2 : Int} {l3 : Int} (zl0 : zI_plan l0) (zl1 : zI_plan l1) (zl2 : zR l2) (zl3 : zR l3) (k : zRn AL V ST ex_km d kt_51 6 (zP [zf b l0, zf b l1, enc l2, enc (nz (l3 + 1))]) [] (zM n (zWf b f g)) = some r) : k51_36 V ST d (zCl AL V ST ex_km d) (zRn AL V ST ex_km d kt_51) (zP [zf b l0, zf b l1, enc l2, enc l3]) [] (zM n (zWf b f g)) = some r := by
  unfold k51_36
  refine (zr_iinc (w := enc l2) (x := l3) (i' := 1) (vs' := [zf b l0, zf b l1, enc l2, enc (nz (l3 + 1))]) rfl (enc_c2 _) (Nat.lt_trans (enc_lt _) (by decide)) rfl rfl (by decide) rfl).trans ?_
  exact (zr_goto).trans k
theorem zs_51_6 (h : zOk b n f) {l0 : Nat} {l1 : Nat} {l2 : Int} {l3 : Int} (zl0 : zI_plan l0) (zl1 : zI_plan l1) (zl2 : zR l2) (zl3 : zR l3) (k : (if l3 < nz (g l1 3) then (if 0 ≤ l3 ∧ l3 < 8 then (if 0 ≤ l3 ∧ l3 < 8 then (if 0 ≤ l3 ∧ l3 < 8 then zTh (zCl AL V ST ex_km d 47 [zf b l0, enc (nz (g (l1 + 1) l3)), enc (nz (g (l1 + 2) l3)), enc (nz (g (l1 + 3) l3))] (zM n (zWf b f g))) (zM n (zWf b f g)) [] (fun S M => k51_36 V ST d (zCl AL V ST ex_km d) (zRn AL V ST ex_km d kt_51) (zP [zf b l0, zf b l1, enc l2, enc l3]) S M) else none) else none) else none) else zRn AL V ST ex_km d kt_51 42 (zP [zf b l0, zf b l1, enc l2, enc l3]) [] (zM n (zWf b f g))) = some r) : k51_6 V ST d (zCl AL V ST ex_km d) (zRn AL V ST ex_km d kt_51) (zP [zf b l0, zf b l1, enc l2, enc l3]) [] (zM n (zWf b f g)) = some r := by
  unfold k51_6
  refine (zr_iload (v := enc l3) rfl (enc_lt _)).trans ?_
  refine (zr_aload (v := zf b l1) rfl (zf_tA h _)).trans ?_
  refine (zr_gfi h (ti_plan_actCount zl1)).trans ?_
  by_cases c1 : l3 < nz (g l1 3)
  · rw [if_pos c1] at k
    refine (zr_icmp_ge_n (zl3) (nz_R _) c1).trans ?_
    refine (zr_aload (v := zf b l0) rfl (zf_tA h _)).trans ?_
    refine (zr_aload (v := zf b l1) rfl (zf_tA h _)).trans ?_
    refine (zr_gfr h (tr_plan_acts zl1)).trans ?_
    refine (zr_iload (v := enc l3) rfl (enc_lt _)).trans ?_
    by_cases c2 : 0 ≤ l3 ∧ l3 < 8
    · rw [if_pos c2] at k
      refine (zr_iald h (ta_plan_acts zl1) c2.1 (by have := c2.2; omega)).trans ?_
      refine (zr_aload (v := zf b l1) rfl (zf_tA h _)).trans ?_
      refine (zr_gfr h (tr_plan_whos zl1)).trans ?_
      refine (zr_iload (v := enc l3) rfl (enc_lt _)).trans ?_
      by_cases c3 : 0 ≤ l3 ∧ l3 < 8
      · rw [if_pos c3] at k
        refine (zr_iald h (ta_plan_whos zl1) c3.1 (by have := c3.2; omega)).trans ?_
        refine (zr_aload (v := zf b l1) rfl (zf_tA h _)).trans ?_
        refine (zr_gfr h (tr_plan_concepts zl1)).trans ?_
        refine (zr_iload (v := enc l3) rfl (enc_lt _)).trans ?_
        by_cases c4 : 0 ≤ l3 ∧ l3 < 8
        · rw [if_pos c4] at k
          refine (zr_iald h (ta_plan_concepts zl1) c4.1 (by have := c4.2; omega)).trans ?_
          refine zr_invV h [enc (nz (g (l1 + 3) l3)), enc (nz (g (l1 + 2) l3)), enc (nz (g (l1 + 1) l3))] rfl (tk_plan zl0) (zA_cons (enc_l _) (zA_cons (enc_l _) (zA_cons (enc_l _) zA_nil))) (zA_nil) (by decide) ?_
          exact k
        · rw [if_neg c4] at k; cases k
      · rw [if_neg c3] at k; cases k
    · rw [if_neg c2] at k; cases k
  · rw [if_neg c1] at k
    exact (zr_icmp_ge_t (zl3) (nz_R _) (Int.not_lt.mp c1)).trans k
theorem zs_51_4 (h : zOk b n f) {l0 : Nat} {l1 : Nat} {l2 : Int} (zl0 : zI_plan l0) (zl1 : zI_plan l1) (zl2 : zR l2) (k : k51_6 V ST d (zCl AL V ST ex_km d) (zRn AL V ST ex_km d kt_51) (zP [zf b l0, zf b l1, enc l2, enc 0]) [] (zM n (zWf b f g)) = some r) : k51_4 V ST d (zCl AL V ST ex_km d) (zRn AL V ST ex_km d kt_51) (zP [zf b l0, zf b l1, enc l2, 137438953472]) [] (zM n (zWf b f g)) = some r := by
  unfold k51_4
  refine (zr_pshi 0 rfl).trans ?_
  refine (zr_istore (w := enc l2) (vs' := [zf b l0, zf b l1, enc l2, enc 0]) rfl (enc_c2 _) (Nat.lt_trans (enc_lt _) (by decide)) (by decide) rfl (enc_lt _)).trans ?_
  exact k
theorem zs_51_0 (h : zOk b n f) {l0 : Nat} {l1 : Nat} {l2 : Int} (zl0 : zI_plan l0) (zl1 : zI_plan l1) (zl2 : zR l2) (k : zTh (zCl AL V ST ex_km d 46 [zf b l0] (zM n (zWf b f g))) (zM n (zWf b f g)) [] (fun S M => k51_4 V ST d (zCl AL V ST ex_km d) (zRn AL V ST ex_km d kt_51) (zP [zf b l0, zf b l1, enc l2, 137438953472]) S M) = some r) : k51_0 V ST d (zCl AL V ST ex_km d) (zRn AL V ST ex_km d kt_51) (zP [zf b l0, zf b l1, enc l2, 137438953472]) [] (zM n (zWf b f g)) = some r := by
  unfold k51_0
  refine (zr_aload (v := zf b l0) rfl (zf_tA h _)).trans ?_
  refine zr_invV h [] rfl (tk_plan zl0) (zA_nil) (zA_nil) (by decide) ?_
  exact k
theorem zs_52_28 (h : zOk b n f) {l0 : Nat} {l1 : Int} {s0 : Int} (zl0 : zI_plan l0) (zl1 : zR l1) (zs0 : zR s0) (k : some (enc s0, (zM n (zWf b f g))) = some r) : k52_28 V ST d (zCl AL V ST ex_km d) (zRn AL V ST ex_km d kt_52) (zP [zf b l0, enc l1]) [enc s0] (zM n (zWf b f g)) = some r := by
  unfold k52_28
  exact zr_ireturn.trans k
theorem zs_52_22 (h : zOk b n f) {l0 : Nat} {l1 : Int} (zl0 : zI_plan l0) (zl1 : zR l1) (k : (if 0 ≤ l1 ∧ l1 < 8 then k52_28 V ST d (zCl AL V ST ex_km d) (zRn AL V ST ex_km d kt_52) (zP [zf b l0, enc l1]) [enc (nz (g (l0 + 3) l1))] (zM n (zWf b f g)) else none) = some r) : k52_22 V ST d (zCl AL V ST ex_km d) (zRn AL V ST ex_km d kt_52) (zP [zf b l0, enc l1]) [] (zM n (zWf b f g)) = some r := by
  unfold k52_22
  refine (zr_aload (v := zf b l0) rfl (zf_tA h _)).trans ?_
  refine (zr_gfr h (tr_plan_concepts zl0)).trans ?_
  refine (zr_iload (v := enc l1) rfl (enc_lt _)).trans ?_
  by_cases c1 : 0 ≤ l1 ∧ l1 < 8
  · rw [if_pos c1] at k
    refine (zr_iald h (ta_plan_concepts zl0) c1.1 (by have := c1.2; omega)).trans ?_
    exact k
  · rw [if_neg c1] at k; cases k
theorem zs_52_0 (h : zOk b n f) {l0 : Nat} {l1 : Int} (zl0 : zI_plan l0) (zl1 : zR l1) (k : (if nz (g l0 4) = 4 then (if 0 ≤ l1 ∧ l1 < 8 then (if nz (g (l0 + 3) l1) = 4 then zRn AL V ST ex_km d kt_52 28 (zP [zf b l0, enc l1]) [enc 0] (zM n (zWf b f g)) else zRn AL V ST ex_km d kt_52 22 (zP [zf b l0, enc l1]) [] (zM n (zWf b f g))) else none) else zRn AL V ST ex_km d kt_52 22 (zP [zf b l0, enc l1]) [] (zM n (zWf b f g))) = some r) : k52_0 V ST d (zCl AL V ST ex_km d) (zRn AL V ST ex_km d kt_52) (zP [zf b l0, enc l1]) [] (zM n (zWf b f g)) = some r := by
  unfold k52_0
  refine (zr_aload (v := zf b l0) rfl (zf_tA h _)).trans ?_
  refine (zr_gfi h (ti_plan_concept zl0)).trans ?_
  refine (zr_pshi 4 rfl).trans ?_
  by_cases c1 : nz (g l0 4) = 4
  · rw [if_pos c1] at k
    refine (zr_icmp_ne_n (nz_R _) ((by unfold zR; omega)) c1).trans ?_
    refine (zr_aload (v := zf b l0) rfl (zf_tA h _)).trans ?_
    refine (zr_gfr h (tr_plan_concepts zl0)).trans ?_
    refine (zr_iload (v := enc l1) rfl (enc_lt _)).trans ?_
    by_cases c2 : 0 ≤ l1 ∧ l1 < 8
    · rw [if_pos c2] at k
      refine (zr_iald h (ta_plan_concepts zl0) c2.1 (by have := c2.2; omega)).trans ?_
      refine (zr_pshi 4 rfl).trans ?_
      by_cases c3 : nz (g (l0 + 3) l1) = 4
      · rw [if_pos c3] at k
        refine (zr_icmp_ne_n (nz_R _) ((by unfold zR; omega)) c3).trans ?_
        refine (zr_pshi 0 rfl).trans ?_
        exact (zr_goto).trans k
      · rw [if_neg c3] at k
        exact (zr_icmp_ne_t (nz_R _) ((by unfold zR; omega)) c3).trans k
    · rw [if_neg c2] at k; cases k
  · rw [if_neg c1] at k
    exact (zr_icmp_ne_t (nz_R _) ((by unfold zR; omega)) c1).trans k
theorem zs_53_22 (h : zOk b n f) {l0 : Nat} {l1 : Int} {s0 : Int} (zl0 : zI_plan l0) (zl1 : zR l1) (zs0 : zR s0) (k : some (enc s0, (zM n (zWf b f g))) = some r) : k53_22 V ST d (zCl AL V ST ex_km d) (zRn AL V ST ex_km d kt_53) (zP [zf b l0, enc l1]) [enc s0] (zM n (zWf b f g)) = some r := by
  unfold k53_22
  exact zr_ireturn.trans k
theorem zs_53_11 (h : zOk b n f) {l0 : Nat} {l1 : Int} (zl0 : zI_plan l0) (zl1 : zR l1) (k : (if nz (g l0 5) ≠ 0 then k53_22 V ST d (zCl AL V ST ex_km d) (zRn AL V ST ex_km d kt_53) (zP [zf b l0, enc l1]) [enc (nz (Int.tdiv (nz ((nz (g l0 6)) * l1)) (nz (g l0 5))))] (zM n (zWf b f g)) else none) = some r) : k53_11 V ST d (zCl AL V ST ex_km d) (zRn AL V ST ex_km d kt_53) (zP [zf b l0, enc l1]) [] (zM n (zWf b f g)) = some r := by
  unfold k53_11
  refine (zr_aload (v := zf b l0) rfl (zf_tA h _)).trans ?_
  refine (zr_gfi h (ti_plan_beatCount zl0)).trans ?_
  refine (zr_iload (v := enc l1) rfl (enc_lt _)).trans ?_
  refine (zr_imul).trans ?_
  refine (zr_aload (v := zf b l0) rfl (zf_tA h _)).trans ?_
  refine (zr_gfi h (ti_plan_partCount zl0)).trans ?_
  by_cases c1 : nz (g l0 5) ≠ 0
  · rw [if_pos c1] at k
    refine (zr_div (nz_R _) (nz_R _) c1).trans ?_
    exact k
  · rw [if_neg c1] at k; cases k
theorem zs_53_0 (h : zOk b n f) {l0 : Nat} {l1 : Int} (zl0 : zI_plan l0) (zl1 : zR l1) (k : (if nz (g l0 5) = 0 then zRn AL V ST ex_km d kt_53 22 (zP [zf b l0, enc l1]) [enc 0] (zM n (zWf b f g)) else zRn AL V ST ex_km d kt_53 11 (zP [zf b l0, enc l1]) [] (zM n (zWf b f g))) = some r) : k53_0 V ST d (zCl AL V ST ex_km d) (zRn AL V ST ex_km d kt_53) (zP [zf b l0, enc l1]) [] (zM n (zWf b f g)) = some r := by
  unfold k53_0
  refine (zr_aload (v := zf b l0) rfl (zf_tA h _)).trans ?_
  refine (zr_gfi h (ti_plan_partCount zl0)).trans ?_
  by_cases c1 : nz (g l0 5) = 0
  · rw [if_pos c1] at k
    refine (zr_if_ne_n (nz_R _) c1).trans ?_
    refine (zr_pshi 0 rfl).trans ?_
    exact (zr_goto).trans k
  · rw [if_neg c1] at k
    exact (zr_if_ne_t (nz_R _) c1).trans k
theorem zs_55_0 (h : zOk b n f) {l1 : Int} (zl1 : zR l1) (k : some (137438953473, (zM n (zWf b f (upd (upd g 186 0 l1) 186 1 0)))) = some r) : k55_0 V ST d (zCl AL V ST ex_km d) (zRn AL V ST ex_km d kt_55) (zP [zf b 186, enc l1]) [] (zM n (zWf b f g)) = some r := by
  unfold k55_0
  refine (zr_aload (v := zf b 186) rfl (zf_tA h _)).trans ?_
  refine (zr_iload (v := enc l1) rfl (enc_lt _)).trans ?_
  refine (zr_pfi h (ti_song_figure rfl)).trans ?_
  refine (zr_aload (v := zf b 186) rfl (zf_tA h _)).trans ?_
  refine (zr_pshi 0 rfl).trans ?_
  refine (zr_pfi h (ti_song_done rfl)).trans ?_
  exact zr_return.trans k
theorem zs_58_14 (h : zOk b n f) {l1 : Nat} {l2 : Nat} {ml2 : Nat} (zl1 : zI_pl l1) (zl2 : zAr l2 64 ml2) (k : some (137438953473, (zM n (zWf b f g))) = some r) : k58_14 V ST d (zCl AL V ST ex_km d) (zRn AL V ST ex_km d kt_58) (zP [zf b 15, zf b l1, zf b l2]) [] (zM n (zWf b f g)) = some r := by
  unfold k58_14
  exact zr_return.trans k
theorem zs_58_0 (h : zOk b n f) {l1 : Nat} {l2 : Nat} {ml2 : Nat} (zl1 : zI_pl l1) (zl2 : zAr l2 64 ml2) (k : zTh (zCl AL V ST ex_km d 7 [zf b 16, zf b l1, zf b l2] (zM n (zWf b f (upd g 15 5 0)))) (zM n (zWf b f (upd g 15 5 0))) [] (fun S M => k58_14 V ST d (zCl AL V ST ex_km d) (zRn AL V ST ex_km d kt_58) (zP [zf b 15, zf b l1, zf b l2]) S M) = some r) : k58_0 V ST d (zCl AL V ST ex_km d) (zRn AL V ST ex_km d kt_58) (zP [zf b 15, zf b l1, zf b l2]) [] (zM n (zWf b f g)) = some r := by
  unfold k58_0
  refine (zr_aload (v := zf b 15) rfl (zf_tA h _)).trans ?_
  refine (zr_pshi 0 rfl).trans ?_
  refine (zr_pfi h (ti_stage_depth rfl)).trans ?_
  refine (zr_aload (v := zf b 15) rfl (zf_tA h _)).trans ?_
  refine (zr_gfr h (tr_stage_ground rfl)).trans ?_
  refine (zr_aload (v := zf b l1) rfl (zf_tA h _)).trans ?_
  refine (zr_aload (v := zf b l2) rfl (zf_tA h _)).trans ?_
  refine zr_invV h [zf b l2, zf b l1] rfl (tk_fl (Or.inl rfl)) (zA_cons (zf_l h _) (zA_cons (zf_l h _) zA_nil)) (zA_nil) (by decide) ?_
  exact k
theorem zs_59_232 (h : zOk b n f) {l1 : Nat} {l2 : Int} {l3 : Int} {l4 : Int} {l5 : Int} {l6 : Nat} {l7 : Nat} {l8 : Nat} {l9 : Nat} {l10 : Nat} (zl1 : zI_plan l1) (zl2 : zR l2) (zl3 : zR l3) (zl4 : zR l4) (zl5 : zR l5) (zl6 : ex_c2 l6 = false ∧ l6 < 1099511627776) (zl7 : ex_c2 l7 = false ∧ l7 < 1099511627776) (zl8 : ex_c2 l8 = false ∧ l8 < 1099511627776) (zl9 : ex_c2 l9 = false ∧ l9 < 1099511627776) (zl10 : ex_c2 l10 = false ∧ l10 < 1099511627776) (k : (if 0 ≤ nz (g 15 6) ∧ nz (g 15 6) < 65536 then some (enc (nz (g 15 6)), (zM n (zWf b f g))) else none) = some r) : k59_232 V ST d (zCl AL V ST ex_km d) (zRn AL V ST ex_km d kt_59) (zP [zf b 15, zf b l1, enc l2, enc l3, enc l4, enc l5, l6, l7, l8, l9, l10]) [] (zM n (zWf b f g)) = some r := by
  unfold k59_232
  refine (zr_aload (v := zf b 15) rfl (zf_tA h _)).trans ?_
  refine (zr_gfi h (ti_stage_reason rfl)).trans ?_
  by_cases c1 : 0 ≤ nz (g 15 6) ∧ nz (g 15 6) < 65536
  · rw [if_pos c1] at k
    exact (zr_creturn c1).trans k
  · rw [if_neg c1] at k; cases k
theorem zs_59_224 (h : zOk b n f) {l1 : Nat} {l2 : Int} {l3 : Int} {l4 : Int} {l5 : Int} {l6 : Nat} {l7 : Nat} {l8 : Nat} {l9 : Nat} {l10 : Nat} (zl1 : zI_plan l1) (zl2 : zR l2) (zl3 : zR l3) (zl4 : zR l4) (zl5 : zR l5) (zl6 : ex_c2 l6 = false ∧ l6 < 1099511627776) (zl7 : ex_c2 l7 = false ∧ l7 < 1099511627776) (zl8 : ex_c2 l8 = false ∧ l8 < 1099511627776) (zl9 : ex_c2 l9 = false ∧ l9 < 1099511627776) (zl10 : ex_c2 l10 = false ∧ l10 < 1099511627776) (k : zTh (zCl AL V ST ex_km d 64 [zf b 15, enc (nz (g l1 4))] (zM n (zWf b f g))) (zM n (zWf b f g)) [] (fun S M => k59_232 V ST d (zCl AL V ST ex_km d) (zRn AL V ST ex_km d kt_59) (zP [zf b 15, zf b l1, enc l2, enc l3, enc l4, enc l5, l6, l7, l8, l9, l10]) S M) = some r) : k59_224 V ST d (zCl AL V ST ex_km d) (zRn AL V ST ex_km d kt_59) (zP [zf b 15, zf b l1, enc l2, enc l3, enc l4, enc l5, l6, l7, l8, l9, l10]) [] (zM n (zWf b f g)) = some r := by
  unfold k59_224
  refine (zr_aload (v := zf b 15) rfl (zf_tA h _)).trans ?_
  refine (zr_aload (v := zf b l1) rfl (zf_tA h _)).trans ?_
  refine (zr_gfi h (ti_plan_concept zl1)).trans ?_
  refine zr_invV h [enc (nz (g l1 4))] rfl (tk_stage rfl) (zA_cons (enc_l _) zA_nil) (zA_nil) (by decide) ?_
  exact k
theorem zs_59_211 (h : zOk b n f) {l1 : Nat} {l2 : Int} {l3 : Int} {l4 : Int} {l5 : Int} {l6 : Int} {l7 : Int} {l8 : Nat} {l9 : Int} {l10 : Int} (zl1 : zI_plan l1) (zl2 : zR l2) (zl3 : zR l3) (zl4 : zR l4) (zl5 : zR l5) (zl6 : zR l6) (zl7 : zR l7) (zl8 : zI_fl l8) (zl9 : zR l9) (zl10 : zR l10) (k : zRn AL V ST ex_km d kt_59 25 (zP [zf b 15, zf b l1, enc l2, enc l3, enc (nz (l4 + l9)), enc (nz (l5 + 1)), enc l6, enc l7, zf b l8, enc l9, enc l10]) [] (zM n (zWf b f g)) = some r) : k59_211 V ST d (zCl AL V ST ex_km d) (zRn AL V ST ex_km d kt_59) (zP [zf b 15, zf b l1, enc l2, enc l3, enc l4, enc l5, enc l6, enc l7, zf b l8, enc l9, enc l10]) [] (zM n (zWf b f g)) = some r := by
  unfold k59_211
  refine (zr_iload (v := enc l4) rfl (enc_lt _)).trans ?_
  refine (zr_iload (v := enc l9) rfl (enc_lt _)).trans ?_
  refine (zr_iadd).trans ?_
  refine (zr_istore (w := enc l3) (vs' := [zf b 15, zf b l1, enc l2, enc l3, enc (nz (l4 + l9)), enc l5, enc l6, enc l7, zf b l8, enc l9, enc l10]) rfl (enc_c2 _) (Nat.lt_trans (enc_lt _) (by decide)) (by decide) rfl (enc_lt _)).trans ?_
  refine (zr_iinc (w := enc (nz (l4 + l9))) (x := l5) (i' := 1) (vs' := [zf b 15, zf b l1, enc l2, enc l3, enc (nz (l4 + l9)), enc (nz (l5 + 1)), enc l6, enc l7, zf b l8, enc l9, enc l10]) rfl (enc_c2 _) (Nat.lt_trans (enc_lt _) (by decide)) rfl rfl (by decide) rfl).trans ?_
  exact (zr_goto).trans k
theorem zs_59_205 (h : zOk b n f) {l1 : Nat} {l2 : Int} {l3 : Int} {l4 : Int} {l5 : Int} {l6 : Int} {l7 : Int} {l8 : Nat} {l9 : Int} {l10 : Int} (zl1 : zI_plan l1) (zl2 : zR l2) (zl3 : zR l3) (zl4 : zR l4) (zl5 : zR l5) (zl6 : zR l6) (zl7 : zR l7) (zl8 : zI_fl l8) (zl9 : zR l9) (zl10 : zR l10) (k : zTh (zCl AL V ST ex_km d 64 [zf b 15, enc l7] (zM n (zWf b f g))) (zM n (zWf b f g)) [] (fun S M => k59_211 V ST d (zCl AL V ST ex_km d) (zRn AL V ST ex_km d kt_59) (zP [zf b 15, zf b l1, enc l2, enc l3, enc l4, enc l5, enc l6, enc l7, zf b l8, enc l9, enc l10]) S M) = some r) : k59_205 V ST d (zCl AL V ST ex_km d) (zRn AL V ST ex_km d kt_59) (zP [zf b 15, zf b l1, enc l2, enc l3, enc l4, enc l5, enc l6, enc l7, zf b l8, enc l9, enc l10]) [] (zM n (zWf b f g)) = some r := by
  unfold k59_205
  refine (zr_aload (v := zf b 15) rfl (zf_tA h _)).trans ?_
  refine (zr_iload (v := enc l7) rfl (enc_lt _)).trans ?_
  refine zr_invV h [enc l7] rfl (tk_stage rfl) (zA_cons (enc_l _) zA_nil) (zA_nil) (by decide) ?_
  exact k
theorem zs_59_199 (h : zOk b n f) {l1 : Nat} {l2 : Int} {l3 : Int} {l4 : Int} {l5 : Int} {l6 : Int} {l7 : Int} {l8 : Nat} {l9 : Int} {l10 : Int} (zl1 : zI_plan l1) (zl2 : zR l2) (zl3 : zR l3) (zl4 : zR l4) (zl5 : zR l5) (zl6 : zR l6) (zl7 : zR l7) (zl8 : zI_fl l8) (zl9 : zR l9) (zl10 : zR l10) (k : zRn AL V ST ex_km d kt_59 135 (zP [zf b 15, zf b l1, enc l2, enc l3, enc l4, enc l5, enc l6, enc l7, zf b l8, enc l9, enc (nz (l10 + 1))]) [] (zM n (zWf b f g)) = some r) : k59_199 V ST d (zCl AL V ST ex_km d) (zRn AL V ST ex_km d kt_59) (zP [zf b 15, zf b l1, enc l2, enc l3, enc l4, enc l5, enc l6, enc l7, zf b l8, enc l9, enc l10]) [] (zM n (zWf b f g)) = some r := by
  unfold k59_199
  refine (zr_iinc (w := enc l9) (x := l10) (i' := 1) (vs' := [zf b 15, zf b l1, enc l2, enc l3, enc l4, enc l5, enc l6, enc l7, zf b l8, enc l9, enc (nz (l10 + 1))]) rfl (enc_c2 _) (Nat.lt_trans (enc_lt _) (by decide)) rfl rfl (by decide) rfl).trans ?_
  exact (zr_goto).trans k
theorem zs_59_196 (h : zOk b n f) {l1 : Nat} {l2 : Int} {l3 : Int} {l4 : Int} {l5 : Int} {l6 : Int} {l7 : Int} {l8 : Nat} {l9 : Int} {l10 : Int} {s0 : Int} {s1 : Int} (zl1 : zI_plan l1) (zl2 : zR l2) (zl3 : zR l3) (zl4 : zR l4) (zl5 : zR l5) (zl6 : zR l6) (zl7 : zR l7) (zl8 : zI_fl l8) (zl9 : zR l9) (zl10 : zR l10) (zs0 : zR s0) (zs1 : zR s1) (k : zTh (zCl AL V ST ex_km d 60 [zf b 15, enc s1, enc s0] (zM n (zWf b f g))) (zM n (zWf b f g)) [] (fun S M => k59_199 V ST d (zCl AL V ST ex_km d) (zRn AL V ST ex_km d kt_59) (zP [zf b 15, zf b l1, enc l2, enc l3, enc l4, enc l5, enc l6, enc l7, zf b l8, enc l9, enc l10]) S M) = some r) : k59_196 V ST d (zCl AL V ST ex_km d) (zRn AL V ST ex_km d kt_59) (zP [zf b 15, zf b l1, enc l2, enc l3, enc l4, enc l5, enc l6, enc l7, zf b l8, enc l9, enc l10]) [enc s0, enc s1, zf b 15] (zM n (zWf b f g)) = some r := by
  unfold k59_196
  refine zr_invV h [enc s0, enc s1] rfl (tk_stage rfl) (zA_cons (enc_l _) (zA_cons (enc_l _) zA_nil)) (zA_nil) (by decide) ?_
  exact k
theorem zs_59_188 (h : zOk b n f) {l1 : Nat} {l2 : Int} {l3 : Int} {l4 : Int} {l5 : Int} {l6 : Int} {l7 : Int} {l8 : Nat} {l9 : Int} {l10 : Int} (zl1 : zI_plan l1) (zl2 : zR l2) (zl3 : zR l3) (zl4 : zR l4) (zl5 : zR l5) (zl6 : zR l6) (zl7 : zR l7) (zl8 : zI_fl l8) (zl9 : zR l9) (zl10 : zR l10) (k : zTh (zCl AL V ST ex_km d 19 [zf b l8] (zM n (zWf b f g))) (zM n (zWf b f g)) [enc 98, zf b 15] (fun S M => k59_196 V ST d (zCl AL V ST ex_km d) (zRn AL V ST ex_km d kt_59) (zP [zf b 15, zf b l1, enc l2, enc l3, enc l4, enc l5, enc l6, enc l7, zf b l8, enc l9, enc l10]) S M) = some r) : k59_188 V ST d (zCl AL V ST ex_km d) (zRn AL V ST ex_km d kt_59) (zP [zf b 15, zf b l1, enc l2, enc l3, enc l4, enc l5, enc l6, enc l7, zf b l8, enc l9, enc l10]) [] (zM n (zWf b f g)) = some r := by
  unfold k59_188
  refine (zr_aload (v := zf b 15) rfl (zf_tA h _)).trans ?_
  refine (zr_pshi 98 rfl).trans ?_
  refine (zr_aload (v := zf b l8) rfl (zf_tA h _)).trans ?_
  refine zr_invV h [] rfl (tk_fl zl8) (zA_nil) (zA_cons (enc_l _) (zA_cons (zf_l h _) zA_nil)) (by decide) ?_
  exact k
theorem zs_59_172 (h : zOk b n f) {l1 : Nat} {l2 : Int} {l3 : Int} {l4 : Int} {l5 : Int} {l6 : Int} {l7 : Int} {l8 : Nat} {l9 : Int} {l10 : Int} {s0 : Int} {s1 : Nat} (zl1 : zI_plan l1) (zl2 : zR l2) (zl3 : zR l3) (zl4 : zR l4) (zl5 : zR l5) (zl6 : zR l6) (zl7 : zR l7) (zl8 : zI_fl l8) (zl9 : zR l9) (zl10 : zR l10) (zs0 : zR s0) (zs1 : zI_fl s1) (k : (if s0 = 0 ∨ s0 = 1 then zTh (zCl AL V ST ex_km d 86 [zf b 61, zf b l8, enc l6, enc l10] (zM n (zWf b f (upd g s1 15 s0)))) (zM n (zWf b f (upd g s1 15 s0))) [] (fun S M => k59_188 V ST d (zCl AL V ST ex_km d) (zRn AL V ST ex_km d kt_59) (zP [zf b 15, zf b l1, enc l2, enc l3, enc l4, enc l5, enc l6, enc l7, zf b l8, enc l9, enc l10]) S M) else none) = some r) : k59_172 V ST d (zCl AL V ST ex_km d) (zRn AL V ST ex_km d kt_59) (zP [zf b 15, zf b l1, enc l2, enc l3, enc l4, enc l5, enc l6, enc l7, zf b l8, enc l9, enc l10]) [enc s0, zf b s1] (zM n (zWf b f g)) = some r := by
  unfold k59_172
  by_cases c1 : s0 = 0 ∨ s0 = 1
  · rw [if_pos c1] at k
    refine (zr_pfb h (ti_fl_isCounting zs1) c1).trans ?_
    refine (zr_aload (v := zf b 15) rfl (zf_tA h _)).trans ?_
    refine (zr_gfr h (tr_stage_steps rfl)).trans ?_
    refine (zr_aload (v := zf b l8) rfl (zf_tA h _)).trans ?_
    refine (zr_iload (v := enc l6) rfl (enc_lt _)).trans ?_
    refine (zr_iload (v := enc l10) rfl (enc_lt _)).trans ?_
    refine zr_invV h [enc l10, enc l6, zf b l8] rfl (tk_st rfl) (zA_cons (enc_l _) (zA_cons (enc_l _) (zA_cons (zf_l h _) zA_nil))) (zA_nil) (by decide) ?_
    exact k
  · rw [if_neg c1] at k; cases k
theorem zs_59_171 (h : zOk b n f) {l1 : Nat} {l2 : Int} {l3 : Int} {l4 : Int} {l5 : Int} {l6 : Int} {l7 : Int} {l8 : Nat} {l9 : Int} {l10 : Int} {s0 : Nat} (zl1 : zI_plan l1) (zl2 : zR l2) (zl3 : zR l3) (zl4 : zR l4) (zl5 : zR l5) (zl6 : zR l6) (zl7 : zR l7) (zl8 : zI_fl l8) (zl9 : zR l9) (zl10 : zR l10) (zs0 : zI_fl s0) (k : k59_172 V ST d (zCl AL V ST ex_km d) (zRn AL V ST ex_km d kt_59) (zP [zf b 15, zf b l1, enc l2, enc l3, enc l4, enc l5, enc l6, enc l7, zf b l8, enc l9, enc l10]) [enc 0, zf b s0] (zM n (zWf b f g)) = some r) : k59_171 V ST d (zCl AL V ST ex_km d) (zRn AL V ST ex_km d kt_59) (zP [zf b 15, zf b l1, enc l2, enc l3, enc l4, enc l5, enc l6, enc l7, zf b l8, enc l9, enc l10]) [zf b s0] (zM n (zWf b f g)) = some r := by
  unfold k59_171
  refine (zr_pshi 0 rfl).trans ?_
  exact k
theorem zs_59_156 (h : zOk b n f) {l1 : Nat} {l2 : Int} {l3 : Int} {l4 : Int} {l5 : Int} {l6 : Int} {l7 : Int} {l8 : Nat} {l9 : Int} {l10 : Int} (zl1 : zI_plan l1) (zl2 : zR l2) (zl3 : zR l3) (zl4 : zR l4) (zl5 : zR l5) (zl6 : zR l6) (zl7 : zR l7) (zl8 : zI_fl l8) (zl9 : zR l9) (zl10 : zR l10) (k : (if nz (l4 + l10) < l3 then zRn AL V ST ex_km d kt_59 171 (zP [zf b 15, zf b l1, enc l2, enc l3, enc l4, enc l5, enc l6, enc l7, zf b l8, enc l9, enc l10]) [zf b l8] (zM n (zWf b f g)) else zRn AL V ST ex_km d kt_59 172 (zP [zf b 15, zf b l1, enc l2, enc l3, enc l4, enc l5, enc l6, enc l7, zf b l8, enc l9, enc l10]) [enc 1, zf b l8] (zM n (zWf b f g))) = some r) : k59_156 V ST d (zCl AL V ST ex_km d) (zRn AL V ST ex_km d kt_59) (zP [zf b 15, zf b l1, enc l2, enc l3, enc l4, enc l5, enc l6, enc l7, zf b l8, enc l9, enc l10]) [] (zM n (zWf b f g)) = some r := by
  unfold k59_156
  refine (zr_aload (v := zf b l8) rfl (zf_tA h _)).trans ?_
  refine (zr_iload (v := enc l4) rfl (enc_lt _)).trans ?_
  refine (zr_iload (v := enc l10) rfl (enc_lt _)).trans ?_
  refine (zr_iadd).trans ?_
  refine (zr_iload (v := enc l3) rfl (enc_lt _)).trans ?_
  by_cases c1 : nz (l4 + l10) < l3
  · rw [if_pos c1] at k
    exact (zr_icmp_lt_t (nz_R _) (zl3) c1).trans k
  · rw [if_neg c1] at k
    refine (zr_icmp_lt_n (nz_R _) (zl3) (Int.not_lt.mp c1)).trans ?_
    refine (zr_pshi 1 rfl).trans ?_
    exact (zr_goto).trans k
theorem zs_59_135 (h : zOk b n f) {l1 : Nat} {l2 : Int} {l3 : Int} {l4 : Int} {l5 : Int} {l6 : Int} {l7 : Int} {l8 : Nat} {l9 : Int} {l10 : Int} (zl1 : zI_plan l1) (zl2 : zR l2) (zl3 : zR l3) (zl4 : zR l4) (zl5 : zR l5) (zl6 : zR l6) (zl7 : zR l7) (zl8 : zI_fl l8) (zl9 : zR l9) (zl10 : zR l10) (k : (if l10 < l9 then (if nz (g 15 6) = 45 then zTh (zCl AL V ST ex_km d 13 [zf b l8] (zM n (zWf b f g))) (zM n (zWf b f g)) [] (fun S M => k59_156 V ST d (zCl AL V ST ex_km d) (zRn AL V ST ex_km d kt_59) (zP [zf b 15, zf b l1, enc l2, enc l3, enc l4, enc l5, enc l6, enc l7, zf b l8, enc l9, enc l10]) S M) else zRn AL V ST ex_km d kt_59 205 (zP [zf b 15, zf b l1, enc l2, enc l3, enc l4, enc l5, enc l6, enc l7, zf b l8, enc l9, enc l10]) [] (zM n (zWf b f g))) else zRn AL V ST ex_km d kt_59 205 (zP [zf b 15, zf b l1, enc l2, enc l3, enc l4, enc l5, enc l6, enc l7, zf b l8, enc l9, enc l10]) [] (zM n (zWf b f g))) = some r) : k59_135 V ST d (zCl AL V ST ex_km d) (zRn AL V ST ex_km d kt_59) (zP [zf b 15, zf b l1, enc l2, enc l3, enc l4, enc l5, enc l6, enc l7, zf b l8, enc l9, enc l10]) [] (zM n (zWf b f g)) = some r := by
  unfold k59_135
  refine (zr_iload (v := enc l10) rfl (enc_lt _)).trans ?_
  refine (zr_iload (v := enc l9) rfl (enc_lt _)).trans ?_
  by_cases c1 : l10 < l9
  · rw [if_pos c1] at k
    refine (zr_icmp_ge_n (zl10) (zl9) c1).trans ?_
    refine (zr_aload (v := zf b 15) rfl (zf_tA h _)).trans ?_
    refine (zr_gfi h (ti_stage_reason rfl)).trans ?_
    refine (zr_pshi 45 rfl).trans ?_
    by_cases c2 : nz (g 15 6) = 45
    · rw [if_pos c2] at k
      refine (zr_icmp_ne_n (nz_R _) ((by unfold zR; omega)) c2).trans ?_
      refine (zr_aload (v := zf b l8) rfl (zf_tA h _)).trans ?_
      refine zr_invV h [] rfl (tk_fl zl8) (zA_nil) (zA_nil) (by decide) ?_
      exact k
    · rw [if_neg c2] at k
      exact (zr_icmp_ne_t (nz_R _) ((by unfold zR; omega)) c2).trans k
  · rw [if_neg c1] at k
    exact (zr_icmp_ge_t (zl10) (zl9) (Int.not_lt.mp c1)).trans k
theorem zs_59_130 (h : zOk b n f) {l1 : Nat} {l2 : Int} {l3 : Int} {l4 : Int} {l5 : Int} {l6 : Int} {l7 : Int} {l8 : Nat} {l9 : Nat} {l10 : Nat} {s0 : Int} (zl1 : zI_plan l1) (zl2 : zR l2) (zl3 : zR l3) (zl4 : zR l4) (zl5 : zR l5) (zl6 : zR l6) (zl7 : zR l7) (zl8 : zI_fl l8) (zl9 : ex_c2 l9 = false ∧ l9 < 1099511627776) (zl10 : ex_c2 l10 = false ∧ l10 < 1099511627776) (zs0 : zR s0) (k : k59_135 V ST d (zCl AL V ST ex_km d) (zRn AL V ST ex_km d kt_59) (zP [zf b 15, zf b l1, enc l2, enc l3, enc l4, enc l5, enc l6, enc l7, zf b l8, enc s0, enc 0]) [] (zM n (zWf b f g)) = some r) : k59_130 V ST d (zCl AL V ST ex_km d) (zRn AL V ST ex_km d kt_59) (zP [zf b 15, zf b l1, enc l2, enc l3, enc l4, enc l5, enc l6, enc l7, zf b l8, l9, l10]) [enc s0] (zM n (zWf b f g)) = some r := by
  unfold k59_130
  refine (zr_istore (w := zf b l8) (vs' := [zf b 15, zf b l1, enc l2, enc l3, enc l4, enc l5, enc l6, enc l7, zf b l8, enc s0, l10]) rfl (zf_c2 h _) (Nat.lt_trans (zf_l h _) (by decide)) (by decide) rfl (enc_lt _)).trans ?_
  refine (zr_pshi 0 rfl).trans ?_
  refine (zr_istore (w := enc s0) (vs' := [zf b 15, zf b l1, enc l2, enc l3, enc l4, enc l5, enc l6, enc l7, zf b l8, enc s0, enc 0]) rfl (enc_c2 _) (Nat.lt_trans (enc_lt _) (by decide)) (by decide) rfl (enc_lt _)).trans ?_
  exact k
theorem zs_59_117 (h : zOk b n f) (hST : ∀ s, 1 ≤ s → s < 169 → ST s = ex_st s) {l1 : Nat} {l2 : Int} {l3 : Int} {l4 : Int} {l5 : Int} {l6 : Int} {l7 : Int} {l8 : Nat} {l9 : Nat} {l10 : Nat} (zl1 : zI_plan l1) (zl2 : zR l2) (zl3 : zR l3) (zl4 : zR l4) (zl5 : zR l5) (zl6 : zR l6) (zl7 : zR l7) (zl8 : zI_fl l8) (zl9 : ex_c2 l9 = false ∧ l9 < 1099511627776) (zl10 : ex_c2 l10 = false ∧ l10 < 1099511627776) (k : (if 0 ≤ l6 ∧ l6 < 13 then zTh (zCl AL V ST ex_km d 163 [enc (sa_ACT_PARTS l6), enc (nz (l2 - l4))] (zM n (zWf b f g))) (zM n (zWf b f g)) [] (fun S M => k59_130 V ST d (zCl AL V ST ex_km d) (zRn AL V ST ex_km d kt_59) (zP [zf b 15, zf b l1, enc l2, enc l3, enc l4, enc l5, enc l6, enc l7, zf b l8, l9, l10]) S M) else none) = some r) : k59_117 V ST d (zCl AL V ST ex_km d) (zRn AL V ST ex_km d kt_59) (zP [zf b 15, zf b l1, enc l2, enc l3, enc l4, enc l5, enc l6, enc l7, zf b l8, l9, l10]) [] (zM n (zWf b f g)) = some r := by
  unfold k59_117
  refine (zr_psh).trans ?_
  refine (zr_iload (v := enc l6) rfl (enc_lt _)).trans ?_
  by_cases c1 : 0 ≤ l6 ∧ l6 < 13
  · rw [if_pos c1] at k
    refine (zr_iaS (s := 2) (m := 13) ((hST 2 (by decide) (by decide)).symm ▸ (by decide +kernel : ex_get (ex_st 2) 0 = 64 + 256 * 13)) (by decide) c1.1 (by have := c1.2; omega) (by rw [hST 2 (by decide) (by decide)]; exact sa_ACT_PARTS_E c1.1 c1.2) (by decide)).trans ?_
    refine (zr_iload (v := enc l2) rfl (enc_lt _)).trans ?_
    refine (zr_iload (v := enc l4) rfl (enc_lt _)).trans ?_
    refine (zr_isub).trans ?_
    refine zr_invS [enc (nz (l2 - l4)), enc (sa_ACT_PARTS l6)] rfl (zA_cons (enc_l _) (zA_cons (enc_l _) zA_nil)) (zA_nil) (by decide) ?_
    exact k
  · rw [if_neg c1] at k; cases k
theorem zs_59_91 (h : zOk b n f) {l1 : Nat} {l2 : Int} {l3 : Int} {l4 : Int} {l5 : Int} {l6 : Int} {l7 : Int} {l8 : Nat} {l9 : Nat} {l10 : Nat} (zl1 : zI_plan l1) (zl2 : zR l2) (zl3 : zR l3) (zl4 : zR l4) (zl5 : zR l5) (zl6 : zR l6) (zl7 : zR l7) (zl8 : zI_fl l8) (zl9 : ex_c2 l9 = false ∧ l9 < 1099511627776) (zl10 : ex_c2 l10 = false ∧ l10 < 1099511627776) (k : (if nz (g 15 6) = 45 then (if l4 < l3 then zRn AL V ST ex_km d kt_59 117 (zP [zf b 15, zf b l1, enc l2, enc l3, enc l4, enc l5, enc l6, enc l7, zf b l8, l9, l10]) [] (zM n (zWf b f g)) else zTh (zCl AL V ST ex_km d 85 [zf b 61, zf b l8, enc l6] (zM n (zWf b f g))) (zM n (zWf b f g)) [] (fun S M => k59_117 V ST d (zCl AL V ST ex_km d) (zRn AL V ST ex_km d kt_59) (zP [zf b 15, zf b l1, enc l2, enc l3, enc l4, enc l5, enc l6, enc l7, zf b l8, l9, l10]) S M)) else zRn AL V ST ex_km d kt_59 117 (zP [zf b 15, zf b l1, enc l2, enc l3, enc l4, enc l5, enc l6, enc l7, zf b l8, l9, l10]) [] (zM n (zWf b f g))) = some r) : k59_91 V ST d (zCl AL V ST ex_km d) (zRn AL V ST ex_km d kt_59) (zP [zf b 15, zf b l1, enc l2, enc l3, enc l4, enc l5, enc l6, enc l7, zf b l8, l9, l10]) [] (zM n (zWf b f g)) = some r := by
  unfold k59_91
  refine (zr_aload (v := zf b 15) rfl (zf_tA h _)).trans ?_
  refine (zr_gfi h (ti_stage_reason rfl)).trans ?_
  refine (zr_pshi 45 rfl).trans ?_
  by_cases c1 : nz (g 15 6) = 45
  · rw [if_pos c1] at k
    refine (zr_icmp_ne_n (nz_R _) ((by unfold zR; omega)) c1).trans ?_
    refine (zr_iload (v := enc l4) rfl (enc_lt _)).trans ?_
    refine (zr_iload (v := enc l3) rfl (enc_lt _)).trans ?_
    by_cases c2 : l4 < l3
    · rw [if_pos c2] at k
      exact (zr_icmp_lt_t (zl4) (zl3) c2).trans k
    · rw [if_neg c2] at k
      refine (zr_icmp_lt_n (zl4) (zl3) (Int.not_lt.mp c2)).trans ?_
      refine (zr_aload (v := zf b 15) rfl (zf_tA h _)).trans ?_
      refine (zr_gfr h (tr_stage_steps rfl)).trans ?_
      refine (zr_aload (v := zf b l8) rfl (zf_tA h _)).trans ?_
      refine (zr_iload (v := enc l6) rfl (enc_lt _)).trans ?_
      refine zr_invV h [enc l6, zf b l8] rfl (tk_st rfl) (zA_cons (enc_l _) (zA_cons (zf_l h _) zA_nil)) (zA_nil) (by decide) ?_
      exact k
  · rw [if_neg c1] at k
    exact (zr_icmp_ne_t (nz_R _) ((by unfold zR; omega)) c1).trans k
theorem zs_59_80 (h : zOk b n f) {l1 : Nat} {l2 : Int} {l3 : Int} {l4 : Int} {l5 : Int} {l6 : Int} {l7 : Int} {l8 : Nat} {l9 : Nat} {l10 : Nat} {s0 : Nat} (zl1 : zI_plan l1) (zl2 : zR l2) (zl3 : zR l3) (zl4 : zR l4) (zl5 : zR l5) (zl6 : zR l6) (zl7 : zR l7) (zl8 : ex_c2 l8 = false ∧ l8 < 1099511627776) (zl9 : ex_c2 l9 = false ∧ l9 < 1099511627776) (zl10 : ex_c2 l10 = false ∧ l10 < 1099511627776) (zs0 : zI_fl s0) (k : zTh (zCl AL V ST ex_km d 63 [zf b 15, zf b s0, zf b l1, enc l5] (zM n (zWf b f g))) (zM n (zWf b f g)) [] (fun S M => k59_91 V ST d (zCl AL V ST ex_km d) (zRn AL V ST ex_km d kt_59) (zP [zf b 15, zf b l1, enc l2, enc l3, enc l4, enc l5, enc l6, enc l7, zf b s0, l9, l10]) S M) = some r) : k59_80 V ST d (zCl AL V ST ex_km d) (zRn AL V ST ex_km d kt_59) (zP [zf b 15, zf b l1, enc l2, enc l3, enc l4, enc l5, enc l6, enc l7, l8, l9, l10]) [zf b s0] (zM n (zWf b f g)) = some r := by
  unfold k59_80
  refine (zr_astore (w := enc l7) (vs' := [zf b 15, zf b l1, enc l2, enc l3, enc l4, enc l5, enc l6, enc l7, zf b s0, l9, l10]) rfl (enc_c2 _) (Nat.lt_trans (enc_lt _) (by decide)) (by decide) rfl (zf_tA h _)).trans ?_
  refine (zr_aload (v := zf b 15) rfl (zf_tA h _)).trans ?_
  refine (zr_aload (v := zf b s0) rfl (zf_tA h _)).trans ?_
  refine (zr_aload (v := zf b l1) rfl (zf_tA h _)).trans ?_
  refine (zr_iload (v := enc l5) rfl (enc_lt _)).trans ?_
  refine zr_invV h [enc l5, zf b l1, zf b s0] rfl (tk_stage rfl) (zA_cons (enc_l _) (zA_cons (zf_l h _) (zA_cons (zf_l h _) zA_nil))) (zA_nil) (by decide) ?_
  exact k
theorem zs_59_72 (h : zOk b n f) {l1 : Nat} {l2 : Int} {l3 : Int} {l4 : Int} {l5 : Int} {l6 : Int} {l7 : Int} {l8 : Nat} {l9 : Nat} {l10 : Nat} (zl1 : zI_plan l1) (zl2 : zR l2) (zl3 : zR l3) (zl4 : zR l4) (zl5 : zR l5) (zl6 : zR l6) (zl7 : zR l7) (zl8 : ex_c2 l8 = false ∧ l8 < 1099511627776) (zl9 : ex_c2 l9 = false ∧ l9 < 1099511627776) (zl10 : ex_c2 l10 = false ∧ l10 < 1099511627776) (k : zTh (zCl AL V ST ex_km d 61 [zf b 15, enc (nz (g 15 5))] (zM n (zWf b f g))) (zM n (zWf b f g)) [] (fun S M => k59_80 V ST d (zCl AL V ST ex_km d) (zRn AL V ST ex_km d kt_59) (zP [zf b 15, zf b l1, enc l2, enc l3, enc l4, enc l5, enc l6, enc l7, l8, l9, l10]) S M) = some r) : k59_72 V ST d (zCl AL V ST ex_km d) (zRn AL V ST ex_km d kt_59) (zP [zf b 15, zf b l1, enc l2, enc l3, enc l4, enc l5, enc l6, enc l7, l8, l9, l10]) [] (zM n (zWf b f g)) = some r := by
  unfold k59_72
  refine (zr_aload (v := zf b 15) rfl (zf_tA h _)).trans ?_
  refine (zr_aload (v := zf b 15) rfl (zf_tA h _)).trans ?_
  refine (zr_gfi h (ti_stage_depth rfl)).trans ?_
  refine zr_invV h [enc (nz (g 15 5))] rfl (tk_stage rfl) (zA_cons (enc_l _) zA_nil) (zA_nil) (by decide) ?_
  exact k
theorem zs_59_64 (h : zOk b n f) {l1 : Nat} {l2 : Int} {l3 : Int} {l4 : Int} {l5 : Int} {l6 : Int} {l7 : Nat} {l8 : Nat} {l9 : Nat} {l10 : Nat} {s0 : Int} (zl1 : zI_plan l1) (zl2 : zR l2) (zl3 : zR l3) (zl4 : zR l4) (zl5 : zR l5) (zl6 : zR l6) (zl7 : ex_c2 l7 = false ∧ l7 < 1099511627776) (zl8 : ex_c2 l8 = false ∧ l8 < 1099511627776) (zl9 : ex_c2 l9 = false ∧ l9 < 1099511627776) (zl10 : ex_c2 l10 = false ∧ l10 < 1099511627776) (zs0 : zR s0) (k : zTh (zCl AL V ST ex_km d 62 [zf b 15, enc s0] (zM n (zWf b f g))) (zM n (zWf b f g)) [] (fun S M => k59_72 V ST d (zCl AL V ST ex_km d) (zRn AL V ST ex_km d kt_59) (zP [zf b 15, zf b l1, enc l2, enc l3, enc l4, enc l5, enc l6, enc s0, l8, l9, l10]) S M) = some r) : k59_64 V ST d (zCl AL V ST ex_km d) (zRn AL V ST ex_km d kt_59) (zP [zf b 15, zf b l1, enc l2, enc l3, enc l4, enc l5, enc l6, l7, l8, l9, l10]) [enc s0] (zM n (zWf b f g)) = some r := by
  unfold k59_64
  refine (zr_istore (w := enc l6) (vs' := [zf b 15, zf b l1, enc l2, enc l3, enc l4, enc l5, enc l6, enc s0, l8, l9, l10]) rfl (enc_c2 _) (Nat.lt_trans (enc_lt _) (by decide)) (by decide) rfl (enc_lt _)).trans ?_
  refine (zr_aload (v := zf b 15) rfl (zf_tA h _)).trans ?_
  refine (zr_iload (v := enc s0) rfl (enc_lt _)).trans ?_
  refine zr_invV h [enc s0] rfl (tk_stage rfl) (zA_cons (enc_l _) zA_nil) (zA_nil) (by decide) ?_
  exact k
theorem zs_59_25 (h : zOk b n f) {l1 : Nat} {l2 : Int} {l3 : Int} {l4 : Int} {l5 : Int} {l6 : Nat} {l7 : Nat} {l8 : Nat} {l9 : Nat} {l10 : Nat} (zl1 : zI_plan l1) (zl2 : zR l2) (zl3 : zR l3) (zl4 : zR l4) (zl5 : zR l5) (zl6 : ex_c2 l6 = false ∧ l6 < 1099511627776) (zl7 : ex_c2 l7 = false ∧ l7 < 1099511627776) (zl8 : ex_c2 l8 = false ∧ l8 < 1099511627776) (zl9 : ex_c2 l9 = false ∧ l9 < 1099511627776) (zl10 : ex_c2 l10 = false ∧ l10 < 1099511627776) (k : (if l5 < nz (g l1 3) then (if l4 < l2 then (if nz (g 15 6) = 45 then (if 0 ≤ l5 ∧ l5 < 8 then zTh (zCl AL V ST ex_km d 52 [zf b l1, enc l5] (zM n (zWf b f g))) (zM n (zWf b f g)) [] (fun S M => k59_64 V ST d (zCl AL V ST ex_km d) (zRn AL V ST ex_km d kt_59) (zP [zf b 15, zf b l1, enc l2, enc l3, enc l4, enc l5, enc (nz (g (l1 + 1) l5)), l7, l8, l9, l10]) S M) else none) else zRn AL V ST ex_km d kt_59 224 (zP [zf b 15, zf b l1, enc l2, enc l3, enc l4, enc l5, l6, l7, l8, l9, l10]) [] (zM n (zWf b f g))) else zRn AL V ST ex_km d kt_59 224 (zP [zf b 15, zf b l1, enc l2, enc l3, enc l4, enc l5, l6, l7, l8, l9, l10]) [] (zM n (zWf b f g))) else zRn AL V ST ex_km d kt_59 224 (zP [zf b 15, zf b l1, enc l2, enc l3, enc l4, enc l5, l6, l7, l8, l9, l10]) [] (zM n (zWf b f g))) = some r) : k59_25 V ST d (zCl AL V ST ex_km d) (zRn AL V ST ex_km d kt_59) (zP [zf b 15, zf b l1, enc l2, enc l3, enc l4, enc l5, l6, l7, l8, l9, l10]) [] (zM n (zWf b f g)) = some r := by
  unfold k59_25
  refine (zr_iload (v := enc l5) rfl (enc_lt _)).trans ?_
  refine (zr_aload (v := zf b l1) rfl (zf_tA h _)).trans ?_
  refine (zr_gfi h (ti_plan_actCount zl1)).trans ?_
  by_cases c1 : l5 < nz (g l1 3)
  · rw [if_pos c1] at k
    refine (zr_icmp_ge_n (zl5) (nz_R _) c1).trans ?_
    refine (zr_iload (v := enc l4) rfl (enc_lt _)).trans ?_
    refine (zr_iload (v := enc l2) rfl (enc_lt _)).trans ?_
    by_cases c2 : l4 < l2
    · rw [if_pos c2] at k
      refine (zr_icmp_ge_n (zl4) (zl2) c2).trans ?_
      refine (zr_aload (v := zf b 15) rfl (zf_tA h _)).trans ?_
      refine (zr_gfi h (ti_stage_reason rfl)).trans ?_
      refine (zr_pshi 45 rfl).trans ?_
      by_cases c3 : nz (g 15 6) = 45
      · rw [if_pos c3] at k
        refine (zr_icmp_ne_n (nz_R _) ((by unfold zR; omega)) c3).trans ?_
        refine (zr_aload (v := zf b l1) rfl (zf_tA h _)).trans ?_
        refine (zr_gfr h (tr_plan_acts zl1)).trans ?_
        refine (zr_iload (v := enc l5) rfl (enc_lt _)).trans ?_
        by_cases c4 : 0 ≤ l5 ∧ l5 < 8
        · rw [if_pos c4] at k
          refine (zr_iald h (ta_plan_acts zl1) c4.1 (by have := c4.2; omega)).trans ?_
          refine (zr_istore (w := enc l5) (vs' := [zf b 15, zf b l1, enc l2, enc l3, enc l4, enc l5, enc (nz (g (l1 + 1) l5)), l7, l8, l9, l10]) rfl (enc_c2 _) (Nat.lt_trans (enc_lt _) (by decide)) (by decide) rfl (enc_lt _)).trans ?_
          refine (zr_aload (v := zf b l1) rfl (zf_tA h _)).trans ?_
          refine (zr_iload (v := enc l5) rfl (enc_lt _)).trans ?_
          refine zr_invV h [enc l5] rfl (tk_plan zl1) (zA_cons (enc_l _) zA_nil) (zA_nil) (by decide) ?_
          exact k
        · rw [if_neg c4] at k; cases k
      · rw [if_neg c3] at k
        exact (zr_icmp_ne_t (nz_R _) ((by unfold zR; omega)) c3).trans k
    · rw [if_neg c2] at k
      exact (zr_icmp_ge_t (zl4) (zl2) (Int.not_lt.mp c2)).trans k
  · rw [if_neg c1] at k
    exact (zr_icmp_ge_t (zl5) (nz_R _) (Int.not_lt.mp c1)).trans k
theorem zs_59_19 (h : zOk b n f) {l1 : Nat} {l2 : Int} {l3 : Int} (zl1 : zI_plan l1) (zl2 : zR l2) (zl3 : zR l3) (k : k59_25 V ST d (zCl AL V ST ex_km d) (zRn AL V ST ex_km d kt_59) (zP [zf b 15, zf b l1, enc l2, enc l3, enc 0, enc 0, 137438953472, 137438953472, 137438953472, 137438953472, 137438953472]) [] (zM n (zWf b f g)) = some r) : k59_19 V ST d (zCl AL V ST ex_km d) (zRn AL V ST ex_km d kt_59) (zP [zf b 15, zf b l1, enc l2, enc l3, 137438953472, 137438953472, 137438953472, 137438953472, 137438953472, 137438953472, 137438953472]) [] (zM n (zWf b f g)) = some r := by
  unfold k59_19
  refine (zr_pshi 0 rfl).trans ?_
  refine (zr_istore (w := enc l3) (vs' := [zf b 15, zf b l1, enc l2, enc l3, enc 0, 137438953472, 137438953472, 137438953472, 137438953472, 137438953472, 137438953472]) rfl (enc_c2 _) (Nat.lt_trans (enc_lt _) (by decide)) (by decide) rfl (enc_lt _)).trans ?_
  refine (zr_pshi 0 rfl).trans ?_
  refine (zr_istore (w := enc 0) (vs' := [zf b 15, zf b l1, enc l2, enc l3, enc 0, enc 0, 137438953472, 137438953472, 137438953472, 137438953472, 137438953472]) rfl (enc_c2 _) (Nat.lt_trans (enc_lt _) (by decide)) (by decide) rfl (enc_lt _)).trans ?_
  exact k
theorem zs_59_0 (h : zOk b n f) {l1 : Nat} {l2 : Int} {l3 : Int} (zl1 : zI_plan l1) (zl2 : zR l2) (zl3 : zR l3) (k : zTh (zCl AL V ST ex_km d 62 [zf b 15, enc (nz ((upd (upd g 15 6 45) 15 7 (-1)) l1 4))] (zM n (zWf b f (upd (upd g 15 6 45) 15 7 (-1))))) (zM n (zWf b f (upd (upd g 15 6 45) 15 7 (-1)))) [] (fun S M => k59_19 V ST d (zCl AL V ST ex_km d) (zRn AL V ST ex_km d kt_59) (zP [zf b 15, zf b l1, enc l2, enc l3, 137438953472, 137438953472, 137438953472, 137438953472, 137438953472, 137438953472, 137438953472]) S M) = some r) : k59_0 V ST d (zCl AL V ST ex_km d) (zRn AL V ST ex_km d kt_59) (zP [zf b 15, zf b l1, enc l2, enc l3, 137438953472, 137438953472, 137438953472, 137438953472, 137438953472, 137438953472, 137438953472]) [] (zM n (zWf b f g)) = some r := by
  unfold k59_0
  refine (zr_aload (v := zf b 15) rfl (zf_tA h _)).trans ?_
  refine (zr_pshi 45 rfl).trans ?_
  refine (zr_pfc h (ti_stage_reason rfl) (by decide)).trans ?_
  refine (zr_aload (v := zf b 15) rfl (zf_tA h _)).trans ?_
  refine (zr_pshi (-1) rfl).trans ?_
  refine (zr_pfi h (ti_stage_culprit rfl)).trans ?_
  refine (zr_aload (v := zf b 15) rfl (zf_tA h _)).trans ?_
  refine (zr_aload (v := zf b l1) rfl (zf_tA h _)).trans ?_
  refine (zr_gfi h (ti_plan_concept zl1)).trans ?_
  refine zr_invV h [enc (nz ((upd (upd g 15 6 45) 15 7 (-1)) l1 4))] rfl (tk_stage rfl) (zA_cons (enc_l _) zA_nil) (zA_nil) (by decide) ?_
  exact k
theorem zs_60_14 (h : zOk b n f) {l1 : Int} {l2 : Int} (zl1 : zR l1) (zl2 : zR l2) (k : some (137438953473, (zM n (zWf b f g))) = some r) : k60_14 V ST d (zCl AL V ST ex_km d) (zRn AL V ST ex_km d kt_60) (zP [zf b 15, enc l1, enc l2]) [] (zM n (zWf b f g)) = some r := by
  unfold k60_14
  exact zr_return.trans k
theorem zs_60_0 (h : zOk b n f) {l1 : Int} {l2 : Int} (zl1 : zR l1) (zl2 : zR l2) (k : (if l2 < 0 then zRn AL V ST ex_km d kt_60 14 (zP [zf b 15, enc l1, enc l2]) [] (zM n (zWf b f g)) else (if 0 ≤ l1 ∧ l1 < 65536 then k60_14 V ST d (zCl AL V ST ex_km d) (zRn AL V ST ex_km d kt_60) (zP [zf b 15, enc l1, enc l2]) [] (zM n (zWf b f (upd (upd g 15 6 l1) 15 7 l2))) else none)) = some r) : k60_0 V ST d (zCl AL V ST ex_km d) (zRn AL V ST ex_km d kt_60) (zP [zf b 15, enc l1, enc l2]) [] (zM n (zWf b f g)) = some r := by
  unfold k60_0
  refine (zr_iload (v := enc l2) rfl (enc_lt _)).trans ?_
  by_cases c1 : l2 < 0
  · rw [if_pos c1] at k
    exact (zr_if_lt_t (zl2) c1).trans k
  · rw [if_neg c1] at k
    refine (zr_if_lt_n (zl2) (Int.not_lt.mp c1)).trans ?_
    refine (zr_aload (v := zf b 15) rfl (zf_tA h _)).trans ?_
    refine (zr_iload (v := enc l1) rfl (enc_lt _)).trans ?_
    by_cases c2 : 0 ≤ l1 ∧ l1 < 65536
    · rw [if_pos c2] at k
      refine (zr_pfc h (ti_stage_reason rfl) c2).trans ?_
      refine (zr_aload (v := zf b 15) rfl (zf_tA h _)).trans ?_
      refine (zr_iload (v := enc l2) rfl (enc_lt _)).trans ?_
      refine (zr_pfi h (ti_stage_culprit rfl)).trans ?_
      exact k
    · rw [if_neg c2] at k; cases k
theorem zs_61_27 (h : zOk b n f) {l1 : Int} {s0 : Nat} (zl1 : zR l1) (zs0 : zI_fl s0) (k : some (zf b s0, (zM n (zWf b f g))) = some r) : k61_27 V ST d (zCl AL V ST ex_km d) (zRn AL V ST ex_km d kt_61) (zP [zf b 15, enc l1]) [zf b s0] (zM n (zWf b f g)) = some r := by
  unfold k61_27
  exact (zr_areturn h).trans k
theorem zs_61_23 (h : zOk b n f) {l1 : Int} (zl1 : zR l1) (k : k61_27 V ST d (zCl AL V ST ex_km d) (zRn AL V ST ex_km d kt_61) (zP [zf b 15, enc l1]) [zf b 46] (zM n (zWf b f g)) = some r) : k61_23 V ST d (zCl AL V ST ex_km d) (zRn AL V ST ex_km d kt_61) (zP [zf b 15, enc l1]) [] (zM n (zWf b f g)) = some r := by
  unfold k61_23
  refine (zr_aload (v := zf b 15) rfl (zf_tA h _)).trans ?_
  refine (zr_gfr h (tr_stage_top rfl)).trans ?_
  exact k
theorem zs_61_11 (h : zOk b n f) {l1 : Int} (zl1 : zR l1) (k : (if l1 = 1 then zRn AL V ST ex_km d kt_61 27 (zP [zf b 15, enc l1]) [zf b 31] (zM n (zWf b f g)) else zRn AL V ST ex_km d kt_61 23 (zP [zf b 15, enc l1]) [] (zM n (zWf b f g))) = some r) : k61_11 V ST d (zCl AL V ST ex_km d) (zRn AL V ST ex_km d kt_61) (zP [zf b 15, enc l1]) [] (zM n (zWf b f g)) = some r := by
  unfold k61_11
  refine (zr_iload (v := enc l1) rfl (enc_lt _)).trans ?_
  refine (zr_pshi 1 rfl).trans ?_
  by_cases c1 : l1 = 1
  · rw [if_pos c1] at k
    refine (zr_icmp_ne_n (zl1) ((by unfold zR; omega)) c1).trans ?_
    refine (zr_aload (v := zf b 15) rfl (zf_tA h _)).trans ?_
    refine (zr_gfr h (tr_stage_middle rfl)).trans ?_
    exact (zr_goto).trans k
  · rw [if_neg c1] at k
    exact (zr_icmp_ne_t (zl1) ((by unfold zR; omega)) c1).trans k
theorem zs_61_0 (h : zOk b n f) {l1 : Int} (zl1 : zR l1) (k : (if l1 = 0 then zRn AL V ST ex_km d kt_61 27 (zP [zf b 15, enc l1]) [zf b 16] (zM n (zWf b f g)) else zRn AL V ST ex_km d kt_61 11 (zP [zf b 15, enc l1]) [] (zM n (zWf b f g))) = some r) : k61_0 V ST d (zCl AL V ST ex_km d) (zRn AL V ST ex_km d kt_61) (zP [zf b 15, enc l1]) [] (zM n (zWf b f g)) = some r := by
  unfold k61_0
  refine (zr_iload (v := enc l1) rfl (enc_lt _)).trans ?_
  by_cases c1 : l1 = 0
  · rw [if_pos c1] at k
    refine (zr_if_ne_n (zl1) c1).trans ?_
    refine (zr_aload (v := zf b 15) rfl (zf_tA h _)).trans ?_
    refine (zr_gfr h (tr_stage_ground rfl)).trans ?_
    exact (zr_goto).trans k
  · rw [if_neg c1] at k
    exact (zr_if_ne_t (zl1) c1).trans k
theorem zs_62_98 (h : zOk b n f) {l1 : Int} (zl1 : zR l1) (k : some (137438953473, (zM n (zWf b f g))) = some r) : k62_98 V ST d (zCl AL V ST ex_km d) (zRn AL V ST ex_km d kt_62) (zP [zf b 15, enc l1]) [] (zM n (zWf b f g)) = some r := by
  unfold k62_98
  exact zr_return.trans k
theorem zs_62_92 (h : zOk b n f) {l1 : Int} (zl1 : zR l1) (k : k62_98 V ST d (zCl AL V ST ex_km d) (zRn AL V ST ex_km d kt_62) (zP [zf b 15, enc l1]) [] (zM n (zWf b f (upd g 15 6 112))) = some r) : k62_92 V ST d (zCl AL V ST ex_km d) (zRn AL V ST ex_km d kt_62) (zP [zf b 15, enc l1]) [] (zM n (zWf b f g)) = some r := by
  unfold k62_92
  refine (zr_aload (v := zf b 15) rfl (zf_tA h _)).trans ?_
  refine (zr_pshi 112 rfl).trans ?_
  refine (zr_pfc h (ti_stage_reason rfl) (by decide)).trans ?_
  exact k
theorem zs_62_76 (h : zOk b n f) {l1 : Int} {s0 : Int} (zl1 : zR l1) (zs0 : zR s0) (k : (if s0 = 0 then zRn AL V ST ex_km d kt_62 92 (zP [zf b 15, enc l1]) [] (zM n (zWf b f g)) else zRn AL V ST ex_km d kt_62 98 (zP [zf b 15, enc l1]) [] (zM n (zWf b f (upd g 15 5 (nz ((nz (g 15 5)) + 1)))))) = some r) : k62_76 V ST d (zCl AL V ST ex_km d) (zRn AL V ST ex_km d kt_62) (zP [zf b 15, enc l1]) [enc s0] (zM n (zWf b f g)) = some r := by
  unfold k62_76
  by_cases c1 : s0 = 0
  · rw [if_pos c1] at k
    exact (zr_if_eq_t (zs0) c1).trans k
  · rw [if_neg c1] at k
    refine (zr_if_eq_n (zs0) c1).trans ?_
    refine (zr_aload (v := zf b 15) rfl (zf_tA h _)).trans ?_
    refine (zr_dup (zf_c2 h _)).trans ?_
    refine (zr_gfi h (ti_stage_depth rfl)).trans ?_
    refine (zr_pshi 1 rfl).trans ?_
    refine (zr_iadd).trans ?_
    refine (zr_pfi h (ti_stage_depth rfl)).trans ?_
    exact (zr_goto).trans k
theorem zs_62_73 (h : zOk b n f) {l1 : Int} {s0 : Int} {s1 : Nat} {s2 : Nat} (zl1 : zR l1) (zs0 : zR s0) (zs1 : zI_fl s1) (zs2 : zI_fl s2) (k : zTh (zCl AL V ST ex_km d 65 [zf b 15, zf b s2, zf b s1, enc s0] (zM n (zWf b f g))) (zM n (zWf b f g)) [] (fun S M => k62_76 V ST d (zCl AL V ST ex_km d) (zRn AL V ST ex_km d kt_62) (zP [zf b 15, enc l1]) S M) = some r) : k62_73 V ST d (zCl AL V ST ex_km d) (zRn AL V ST ex_km d kt_62) (zP [zf b 15, enc l1]) [enc s0, zf b s1, zf b s2, zf b 15] (zM n (zWf b f g)) = some r := by
  unfold k62_73
  refine zr_invV h [enc s0, zf b s1, zf b s2] rfl (tk_stage rfl) (zA_cons (enc_l _) (zA_cons (zf_l h _) (zA_cons (zf_l h _) zA_nil))) (zA_nil) (by decide) ?_
  exact k
theorem zs_62_72 (h : zOk b n f) {l1 : Int} {s0 : Nat} {s1 : Nat} (zl1 : zR l1) (zs0 : zI_fl s0) (zs1 : zI_fl s1) (k : k62_73 V ST d (zCl AL V ST ex_km d) (zRn AL V ST ex_km d kt_62) (zP [zf b 15, enc l1]) [enc 0, zf b s0, zf b s1, zf b 15] (zM n (zWf b f g)) = some r) : k62_72 V ST d (zCl AL V ST ex_km d) (zRn AL V ST ex_km d kt_62) (zP [zf b 15, enc l1]) [zf b s0, zf b s1, zf b 15] (zM n (zWf b f g)) = some r := by
  unfold k62_72
  refine (zr_pshi 0 rfl).trans ?_
  exact k
theorem zs_62_63 (h : zOk b n f) {l1 : Int} {s0 : Nat} {s1 : Nat} (zl1 : zR l1) (zs0 : zI_fl s0) (zs1 : zI_fl s1) (k : (if l1 = 5 then zRn AL V ST ex_km d kt_62 73 (zP [zf b 15, enc l1]) [enc 1, zf b s0, zf b s1, zf b 15] (zM n (zWf b f g)) else zRn AL V ST ex_km d kt_62 72 (zP [zf b 15, enc l1]) [zf b s0, zf b s1, zf b 15] (zM n (zWf b f g))) = some r) : k62_63 V ST d (zCl AL V ST ex_km d) (zRn AL V ST ex_km d kt_62) (zP [zf b 15, enc l1]) [zf b s0, zf b s1, zf b 15] (zM n (zWf b f g)) = some r := by
  unfold k62_63
  refine (zr_iload (v := enc l1) rfl (enc_lt _)).trans ?_
  refine (zr_pshi 5 rfl).trans ?_
  by_cases c1 : l1 = 5
  · rw [if_pos c1] at k
    refine (zr_icmp_ne_n (zl1) ((by unfold zR; omega)) c1).trans ?_
    refine (zr_pshi 1 rfl).trans ?_
    exact (zr_goto).trans k
  · rw [if_neg c1] at k
    exact (zr_icmp_ne_t (zl1) ((by unfold zR; omega)) c1).trans k
theorem zs_62_53 (h : zOk b n f) {l1 : Int} {s0 : Nat} (zl1 : zR l1) (zs0 : zI_fl s0) (k : zTh (zCl AL V ST ex_km d 61 [zf b 15, enc (nz ((nz (g 15 5)) + 1))] (zM n (zWf b f g))) (zM n (zWf b f g)) [zf b s0, zf b 15] (fun S M => k62_63 V ST d (zCl AL V ST ex_km d) (zRn AL V ST ex_km d kt_62) (zP [zf b 15, enc l1]) S M) = some r) : k62_53 V ST d (zCl AL V ST ex_km d) (zRn AL V ST ex_km d kt_62) (zP [zf b 15, enc l1]) [zf b s0, zf b 15] (zM n (zWf b f g)) = some r := by
  unfold k62_53
  refine (zr_aload (v := zf b 15) rfl (zf_tA h _)).trans ?_
  refine (zr_aload (v := zf b 15) rfl (zf_tA h _)).trans ?_
  refine (zr_gfi h (ti_stage_depth rfl)).trans ?_
  refine (zr_pshi 1 rfl).trans ?_
  refine (zr_iadd).trans ?_
  refine zr_invV h [enc (nz ((nz (g 15 5)) + 1))] rfl (tk_stage rfl) (zA_cons (enc_l _) zA_nil) (zA_cons (zf_l h _) (zA_cons (zf_l h _) zA_nil)) (by decide) ?_
  exact k
theorem zs_62_44 (h : zOk b n f) {l1 : Int} (zl1 : zR l1) (k : zTh (zCl AL V ST ex_km d 61 [zf b 15, enc (nz (g 15 5))] (zM n (zWf b f g))) (zM n (zWf b f g)) [zf b 15] (fun S M => k62_53 V ST d (zCl AL V ST ex_km d) (zRn AL V ST ex_km d kt_62) (zP [zf b 15, enc l1]) S M) = some r) : k62_44 V ST d (zCl AL V ST ex_km d) (zRn AL V ST ex_km d kt_62) (zP [zf b 15, enc l1]) [] (zM n (zWf b f g)) = some r := by
  unfold k62_44
  refine (zr_aload (v := zf b 15) rfl (zf_tA h _)).trans ?_
  refine (zr_aload (v := zf b 15) rfl (zf_tA h _)).trans ?_
  refine (zr_aload (v := zf b 15) rfl (zf_tA h _)).trans ?_
  refine (zr_gfi h (ti_stage_depth rfl)).trans ?_
  refine zr_invV h [enc (nz (g 15 5))] rfl (tk_stage rfl) (zA_cons (enc_l _) zA_nil) (zA_cons (zf_l h _) zA_nil) (by decide) ?_
  exact k
theorem zs_62_33 (h : zOk b n f) {l1 : Int} (zl1 : zR l1) (k : (if l1 = 5 then zRn AL V ST ex_km d kt_62 44 (zP [zf b 15, enc l1]) [] (zM n (zWf b f g)) else (if l1 = 6 then k62_44 V ST d (zCl AL V ST ex_km d) (zRn AL V ST ex_km d kt_62) (zP [zf b 15, enc l1]) [] (zM n (zWf b f g)) else zRn AL V ST ex_km d kt_62 98 (zP [zf b 15, enc l1]) [] (zM n (zWf b f g)))) = some r) : k62_33 V ST d (zCl AL V ST ex_km d) (zRn AL V ST ex_km d kt_62) (zP [zf b 15, enc l1]) [] (zM n (zWf b f g)) = some r := by
  unfold k62_33
  refine (zr_iload (v := enc l1) rfl (enc_lt _)).trans ?_
  refine (zr_pshi 5 rfl).trans ?_
  by_cases c1 : l1 = 5
  · rw [if_pos c1] at k
    exact (zr_icmp_eq_t (zl1) ((by unfold zR; omega)) c1).trans k
  · rw [if_neg c1] at k
    refine (zr_icmp_eq_n (zl1) ((by unfold zR; omega)) c1).trans ?_
    refine (zr_iload (v := enc l1) rfl (enc_lt _)).trans ?_
    refine (zr_pshi 6 rfl).trans ?_
    by_cases c2 : l1 = 6
    · rw [if_pos c2] at k
      refine (zr_icmp_ne_n (zl1) ((by unfold zR; omega)) c2).trans ?_
      exact k
    · rw [if_neg c2] at k
      exact (zr_icmp_ne_t (zl1) ((by unfold zR; omega)) c2).trans k
theorem zs_62_30 (h : zOk b n f) {l1 : Int} (zl1 : zR l1) (k : zRn AL V ST ex_km d kt_62 98 (zP [zf b 15, enc l1]) [] (zM n (zWf b f g)) = some r) : k62_30 V ST d (zCl AL V ST ex_km d) (zRn AL V ST ex_km d kt_62) (zP [zf b 15, enc l1]) [] (zM n (zWf b f g)) = some r := by
  unfold k62_30
  exact (zr_goto).trans k
theorem zs_62_23 (h : zOk b n f) {l1 : Int} {s0 : Nat} (zl1 : zR l1) (zs0 : zI_fl s0) (k : zTh (zCl AL V ST ex_km d 8 [zf b s0, zf b 5] (zM n (zWf b f g))) (zM n (zWf b f g)) [] (fun S M => k62_30 V ST d (zCl AL V ST ex_km d) (zRn AL V ST ex_km d kt_62) (zP [zf b 15, enc l1]) S M) = some r) : k62_23 V ST d (zCl AL V ST ex_km d) (zRn AL V ST ex_km d kt_62) (zP [zf b 15, enc l1]) [zf b s0] (zM n (zWf b f g)) = some r := by
  unfold k62_23
  refine (zr_aload (v := zf b 15) rfl (zf_tA h _)).trans ?_
  refine (zr_gfr h (tr_stage_phantoms rfl)).trans ?_
  refine zr_invV h [zf b 5] rfl (tk_fl zs0) (zA_cons (zf_l h _) zA_nil) (zA_nil) (by decide) ?_
  exact k
theorem zs_62_10 (h : zOk b n f) {l1 : Int} (zl1 : zR l1) (k : (if l1 = 4 then zTh (zCl AL V ST ex_km d 61 [zf b 15, enc (nz (g 15 5))] (zM n (zWf b f g))) (zM n (zWf b f g)) [] (fun S M => k62_23 V ST d (zCl AL V ST ex_km d) (zRn AL V ST ex_km d kt_62) (zP [zf b 15, enc l1]) S M) else zRn AL V ST ex_km d kt_62 33 (zP [zf b 15, enc l1]) [] (zM n (zWf b f g))) = some r) : k62_10 V ST d (zCl AL V ST ex_km d) (zRn AL V ST ex_km d kt_62) (zP [zf b 15, enc l1]) [] (zM n (zWf b f g)) = some r := by
  unfold k62_10
  refine (zr_iload (v := enc l1) rfl (enc_lt _)).trans ?_
  refine (zr_pshi 4 rfl).trans ?_
  by_cases c1 : l1 = 4
  · rw [if_pos c1] at k
    refine (zr_icmp_ne_n (zl1) ((by unfold zR; omega)) c1).trans ?_
    refine (zr_aload (v := zf b 15) rfl (zf_tA h _)).trans ?_
    refine (zr_aload (v := zf b 15) rfl (zf_tA h _)).trans ?_
    refine (zr_gfi h (ti_stage_depth rfl)).trans ?_
    refine zr_invV h [enc (nz (g 15 5))] rfl (tk_stage rfl) (zA_cons (enc_l _) zA_nil) (zA_nil) (by decide) ?_
    exact k
  · rw [if_neg c1] at k
    exact (zr_icmp_ne_t (zl1) ((by unfold zR; omega)) c1).trans k
theorem zs_62_0 (h : zOk b n f) {l1 : Int} (zl1 : zR l1) (k : (if nz (g 15 6) = 45 then zRn AL V ST ex_km d kt_62 10 (zP [zf b 15, enc l1]) [] (zM n (zWf b f g)) else some (137438953473, (zM n (zWf b f g)))) = some r) : k62_0 V ST d (zCl AL V ST ex_km d) (zRn AL V ST ex_km d kt_62) (zP [zf b 15, enc l1]) [] (zM n (zWf b f g)) = some r := by
  unfold k62_0
  refine (zr_aload (v := zf b 15) rfl (zf_tA h _)).trans ?_
  refine (zr_gfi h (ti_stage_reason rfl)).trans ?_
  refine (zr_pshi 45 rfl).trans ?_
  by_cases c1 : nz (g 15 6) = 45
  · rw [if_pos c1] at k
    exact (zr_icmp_eq_t (nz_R _) ((by unfold zR; omega)) c1).trans k
  · rw [if_neg c1] at k
    refine (zr_icmp_eq_n (nz_R _) ((by unfold zR; omega)) c1).trans ?_
    exact zr_return.trans k
theorem zs_63_141 (h : zOk b n f) {l1 : Nat} {l2 : Nat} {l3 : Int} {l4 : Int} {l5 : Int} (zl1 : zI_fl l1) (zl2 : zI_plan l2) (zl3 : zR l3) (zl4 : zR l4) (zl5 : zR l5) (k : some (137438953473, (zM n (zWf b f g))) = some r) : k63_141 V ST d (zCl AL V ST ex_km d) (zRn AL V ST ex_km d kt_63) (zP [zf b 15, zf b l1, zf b l2, enc l3, enc l4, enc l5]) [] (zM n (zWf b f g)) = some r := by
  unfold k63_141
  exact zr_return.trans k
theorem zs_63_135 (h : zOk b n f) {l1 : Nat} {l2 : Nat} {l3 : Int} {l4 : Int} {l5 : Int} (zl1 : zI_fl l1) (zl2 : zI_plan l2) (zl3 : zR l3) (zl4 : zR l4) (zl5 : zR l5) (k : k63_141 V ST d (zCl AL V ST ex_km d) (zRn AL V ST ex_km d kt_63) (zP [zf b 15, zf b l1, zf b l2, enc l3, enc l4, enc l5]) [] (zM n (zWf b f (upd g 15 6 119))) = some r) : k63_135 V ST d (zCl AL V ST ex_km d) (zRn AL V ST ex_km d kt_63) (zP [zf b 15, zf b l1, zf b l2, enc l3, enc l4, enc l5]) [] (zM n (zWf b f g)) = some r := by
  unfold k63_135
  refine (zr_aload (v := zf b 15) rfl (zf_tA h _)).trans ?_
  refine (zr_pshi 119 rfl).trans ?_
  refine (zr_pfc h (ti_stage_reason rfl) (by decide)).trans ?_
  exact k
theorem zs_63_132 (h : zOk b n f) {l1 : Nat} {l2 : Nat} {l3 : Int} {l4 : Int} {l5 : Int} (zl1 : zI_fl l1) (zl2 : zI_plan l2) (zl3 : zR l3) (zl4 : zR l4) (zl5 : zR l5) (k : zRn AL V ST ex_km d kt_63 141 (zP [zf b 15, zf b l1, zf b l2, enc l3, enc l4, enc l5]) [] (zM n (zWf b f g)) = some r) : k63_132 V ST d (zCl AL V ST ex_km d) (zRn AL V ST ex_km d kt_63) (zP [zf b 15, zf b l1, zf b l2, enc l3, enc l4, enc l5]) [] (zM n (zWf b f g)) = some r := by
  unfold k63_132
  exact (zr_goto).trans k
theorem zs_63_129 (h : zOk b n f) {l1 : Nat} {l2 : Nat} {l3 : Int} {l4 : Int} {l5 : Int} {s0 : Int} {s1 : Int} (zl1 : zI_fl l1) (zl2 : zI_plan l2) (zl3 : zR l3) (zl4 : zR l4) (zl5 : zR l5) (zs0 : zR s0) (zs1 : zR s1) (k : zTh (zCl AL V ST ex_km d 60 [zf b 15, enc s1, enc s0] (zM n (zWf b f g))) (zM n (zWf b f g)) [] (fun S M => k63_132 V ST d (zCl AL V ST ex_km d) (zRn AL V ST ex_km d kt_63) (zP [zf b 15, zf b l1, zf b l2, enc l3, enc l4, enc l5]) S M) = some r) : k63_129 V ST d (zCl AL V ST ex_km d) (zRn AL V ST ex_km d kt_63) (zP [zf b 15, zf b l1, zf b l2, enc l3, enc l4, enc l5]) [enc s0, enc s1, zf b 15] (zM n (zWf b f g)) = some r := by
  unfold k63_129
  refine zr_invV h [enc s0, enc s1] rfl (tk_stage rfl) (zA_cons (enc_l _) (zA_cons (enc_l _) zA_nil)) (zA_nil) (by decide) ?_
  exact k
theorem zs_63_112 (h : zOk b n f) {l1 : Nat} {l2 : Nat} {l3 : Int} {l4 : Int} {l5 : Int} (zl1 : zI_fl l1) (zl2 : zI_plan l2) (zl3 : zR l3) (zl4 : zR l4) (zl5 : zR l5) (k : (if 0 ≤ l3 ∧ l3 < 8 then zTh (zCl AL V ST ex_km d 83 [zf b 61, zf b l1, enc (nz (g (l2 + 1) l3))] (zM n (zWf b f g))) (zM n (zWf b f g)) [enc 112, zf b 15] (fun S M => k63_129 V ST d (zCl AL V ST ex_km d) (zRn AL V ST ex_km d kt_63) (zP [zf b 15, zf b l1, zf b l2, enc l3, enc l4, enc l5]) S M) else none) = some r) : k63_112 V ST d (zCl AL V ST ex_km d) (zRn AL V ST ex_km d kt_63) (zP [zf b 15, zf b l1, zf b l2, enc l3, enc l4, enc l5]) [] (zM n (zWf b f g)) = some r := by
  unfold k63_112
  refine (zr_aload (v := zf b 15) rfl (zf_tA h _)).trans ?_
  refine (zr_pshi 112 rfl).trans ?_
  refine (zr_aload (v := zf b 15) rfl (zf_tA h _)).trans ?_
  refine (zr_gfr h (tr_stage_steps rfl)).trans ?_
  refine (zr_aload (v := zf b l1) rfl (zf_tA h _)).trans ?_
  refine (zr_aload (v := zf b l2) rfl (zf_tA h _)).trans ?_
  refine (zr_gfr h (tr_plan_acts zl2)).trans ?_
  refine (zr_iload (v := enc l3) rfl (enc_lt _)).trans ?_
  by_cases c1 : 0 ≤ l3 ∧ l3 < 8
  · rw [if_pos c1] at k
    refine (zr_iald h (ta_plan_acts zl2) c1.1 (by have := c1.2; omega)).trans ?_
    refine zr_invV h [enc (nz (g (l2 + 1) l3)), zf b l1] rfl (tk_st rfl) (zA_cons (enc_l _) (zA_cons (zf_l h _) zA_nil)) (zA_cons (enc_l _) (zA_cons (zf_l h _) zA_nil)) (by decide) ?_
    exact k
  · rw [if_neg c1] at k; cases k
theorem zs_63_95 (h : zOk b n f) {l1 : Nat} {l2 : Nat} {l3 : Int} {l4 : Int} {l5 : Int} {s0 : Int} (zl1 : zI_fl l1) (zl2 : zI_plan l2) (zl3 : zR l3) (zl4 : zR l4) (zl5 : zR l5) (zs0 : zR s0) (k : (if s0 = 0 then zRn AL V ST ex_km d kt_63 135 (zP [zf b 15, zf b l1, zf b l2, enc l3, enc l4, enc l5]) [] (zM n (zWf b f g)) else (if 0 ≤ l3 ∧ l3 < 8 then zTh (zCl AL V ST ex_km d 71 [zf b 61, zf b l1, enc (nz (g (l2 + 1) l3))] (zM n (zWf b f g))) (zM n (zWf b f g)) [] (fun S M => k63_112 V ST d (zCl AL V ST ex_km d) (zRn AL V ST ex_km d kt_63) (zP [zf b 15, zf b l1, zf b l2, enc l3, enc l4, enc l5]) S M) else none)) = some r) : k63_95 V ST d (zCl AL V ST ex_km d) (zRn AL V ST ex_km d kt_63) (zP [zf b 15, zf b l1, zf b l2, enc l3, enc l4, enc l5]) [enc s0] (zM n (zWf b f g)) = some r := by
  unfold k63_95
  by_cases c1 : s0 = 0
  · rw [if_pos c1] at k
    exact (zr_if_eq_t (zs0) c1).trans k
  · rw [if_neg c1] at k
    refine (zr_if_eq_n (zs0) c1).trans ?_
    refine (zr_aload (v := zf b 15) rfl (zf_tA h _)).trans ?_
    refine (zr_gfr h (tr_stage_steps rfl)).trans ?_
    refine (zr_aload (v := zf b l1) rfl (zf_tA h _)).trans ?_
    refine (zr_aload (v := zf b l2) rfl (zf_tA h _)).trans ?_
    refine (zr_gfr h (tr_plan_acts zl2)).trans ?_
    refine (zr_iload (v := enc l3) rfl (enc_lt _)).trans ?_
    by_cases c2 : 0 ≤ l3 ∧ l3 < 8
    · rw [if_pos c2] at k
      refine (zr_iald h (ta_plan_acts zl2) c2.1 (by have := c2.2; omega)).trans ?_
      refine zr_invV h [enc (nz (g (l2 + 1) l3)), zf b l1] rfl (tk_st rfl) (zA_cons (enc_l _) (zA_cons (zf_l h _) zA_nil)) (zA_nil) (by decide) ?_
      exact k
    · rw [if_neg c2] at k; cases k
theorem zs_63_81 (h : zOk b n f) {l1 : Nat} {l2 : Nat} {l3 : Int} {l4 : Int} {l5 : Int} (zl1 : zI_fl l1) (zl2 : zI_plan l2) (zl3 : zR l3) (zl4 : zR l4) (zl5 : zR l5) (k : (if 0 ≤ l3 ∧ l3 < 8 then zTh (zCl AL V ST ex_km d 69 [zf b 61, zf b l1, enc (nz (g (l2 + 2) l3))] (zM n (zWf b f g))) (zM n (zWf b f g)) [] (fun S M => k63_95 V ST d (zCl AL V ST ex_km d) (zRn AL V ST ex_km d kt_63) (zP [zf b 15, zf b l1, zf b l2, enc l3, enc l4, enc l5]) S M) else none) = some r) : k63_81 V ST d (zCl AL V ST ex_km d) (zRn AL V ST ex_km d kt_63) (zP [zf b 15, zf b l1, zf b l2, enc l3, enc l4, enc l5]) [] (zM n (zWf b f g)) = some r := by
  unfold k63_81
  refine (zr_aload (v := zf b 15) rfl (zf_tA h _)).trans ?_
  refine (zr_gfr h (tr_stage_steps rfl)).trans ?_
  refine (zr_aload (v := zf b l1) rfl (zf_tA h _)).trans ?_
  refine (zr_aload (v := zf b l2) rfl (zf_tA h _)).trans ?_
  refine (zr_gfr h (tr_plan_whos zl2)).trans ?_
  refine (zr_iload (v := enc l3) rfl (enc_lt _)).trans ?_
  by_cases c1 : 0 ≤ l3 ∧ l3 < 8
  · rw [if_pos c1] at k
    refine (zr_iald h (ta_plan_whos zl2) c1.1 (by have := c1.2; omega)).trans ?_
    refine zr_invV h [enc (nz (g (l2 + 2) l3)), zf b l1] rfl (tk_st rfl) (zA_cons (enc_l _) (zA_cons (zf_l h _) zA_nil)) (zA_nil) (by decide) ?_
    exact k
  · rw [if_neg c1] at k; cases k
theorem zs_63_78 (h : zOk b n f) {l1 : Nat} {l2 : Nat} {l3 : Int} {l4 : Int} {l5 : Int} {s0 : Int} {s1 : Int} {s2 : Int} (zl1 : zI_fl l1) (zl2 : zI_plan l2) (zl3 : zR l3) (zl4 : zR l4) (zl5 : zR l5) (zs0 : zR s0) (zs1 : zR s1) (zs2 : zR s2) (k : zTh (zCl AL V ST ex_km d 68 [zf b 61, enc s2, enc s1, enc s0] (zM n (zWf b f g))) (zM n (zWf b f g)) [] (fun S M => k63_81 V ST d (zCl AL V ST ex_km d) (zRn AL V ST ex_km d kt_63) (zP [zf b 15, zf b l1, zf b l2, enc l3, enc l4, enc l5]) S M) = some r) : k63_78 V ST d (zCl AL V ST ex_km d) (zRn AL V ST ex_km d kt_63) (zP [zf b 15, zf b l1, zf b l2, enc l3, enc l4, enc l5]) [enc s0, enc s1, enc s2, zf b 61] (zM n (zWf b f g)) = some r := by
  unfold k63_78
  refine zr_invV h [enc s0, enc s1, enc s2] rfl (tk_st rfl) (zA_cons (enc_l _) (zA_cons (enc_l _) (zA_cons (enc_l _) zA_nil))) (zA_nil) (by decide) ?_
  exact k
theorem zs_63_77 (h : zOk b n f) {l1 : Nat} {l2 : Nat} {l3 : Int} {l4 : Int} {l5 : Int} {s0 : Int} {s1 : Int} (zl1 : zI_fl l1) (zl2 : zI_plan l2) (zl3 : zR l3) (zl4 : zR l4) (zl5 : zR l5) (zs0 : zR s0) (zs1 : zR s1) (k : k63_78 V ST d (zCl AL V ST ex_km d) (zRn AL V ST ex_km d kt_63) (zP [zf b 15, zf b l1, zf b l2, enc l3, enc l4, enc l5]) [enc 0, enc s0, enc s1, zf b 61] (zM n (zWf b f g)) = some r) : k63_77 V ST d (zCl AL V ST ex_km d) (zRn AL V ST ex_km d kt_63) (zP [zf b 15, zf b l1, zf b l2, enc l3, enc l4, enc l5]) [enc s0, enc s1, zf b 61] (zM n (zWf b f g)) = some r := by
  unfold k63_77
  refine (zr_pshi 0 rfl).trans ?_
  exact k
theorem zs_63_73 (h : zOk b n f) {l1 : Nat} {l2 : Nat} {l3 : Int} {l4 : Int} {l5 : Int} {s0 : Int} {s1 : Int} (zl1 : zI_fl l1) (zl2 : zI_plan l2) (zl3 : zR l3) (zl4 : zR l4) (zl5 : zR l5) (zs0 : zR s0) (zs1 : zR s1) (k : zRn AL V ST ex_km d kt_63 78 (zP [zf b 15, zf b l1, zf b l2, enc l3, enc l4, enc l5]) [enc 1, enc s0, enc s1, zf b 61] (zM n (zWf b f g)) = some r) : k63_73 V ST d (zCl AL V ST ex_km d) (zRn AL V ST ex_km d kt_63) (zP [zf b 15, zf b l1, zf b l2, enc l3, enc l4, enc l5]) [enc s0, enc s1, zf b 61] (zM n (zWf b f g)) = some r := by
  unfold k63_73
  refine (zr_pshi 1 rfl).trans ?_
  exact (zr_goto).trans k
theorem zs_63_61 (h : zOk b n f) {l1 : Nat} {l2 : Nat} {l3 : Int} {l4 : Int} {l5 : Int} {s0 : Int} {s1 : Int} (zl1 : zI_fl l1) (zl2 : zI_plan l2) (zl3 : zR l3) (zl4 : zR l4) (zl5 : zR l5) (zs0 : zR s0) (zs1 : zR s1) (k : (if l4 = 2 then zRn AL V ST ex_km d kt_63 73 (zP [zf b 15, zf b l1, zf b l2, enc l3, enc l4, enc l5]) [enc s0, enc s1, zf b 61] (zM n (zWf b f g)) else (if l5 = 2 then k63_73 V ST d (zCl AL V ST ex_km d) (zRn AL V ST ex_km d kt_63) (zP [zf b 15, zf b l1, zf b l2, enc l3, enc l4, enc l5]) [enc s0, enc s1, zf b 61] (zM n (zWf b f g)) else zRn AL V ST ex_km d kt_63 77 (zP [zf b 15, zf b l1, zf b l2, enc l3, enc l4, enc l5]) [enc s0, enc s1, zf b 61] (zM n (zWf b f g)))) = some r) : k63_61 V ST d (zCl AL V ST ex_km d) (zRn AL V ST ex_km d kt_63) (zP [zf b 15, zf b l1, zf b l2, enc l3, enc l4, enc l5]) [enc s0, enc s1, zf b 61] (zM n (zWf b f g)) = some r := by
  unfold k63_61
  refine (zr_iload (v := enc l4) rfl (enc_lt _)).trans ?_
  refine (zr_pshi 2 rfl).trans ?_
  by_cases c1 : l4 = 2
  · rw [if_pos c1] at k
    exact (zr_icmp_eq_t (zl4) ((by unfold zR; omega)) c1).trans k
  · rw [if_neg c1] at k
    refine (zr_icmp_eq_n (zl4) ((by unfold zR; omega)) c1).trans ?_
    refine (zr_iload (v := enc l5) rfl (enc_lt _)).trans ?_
    refine (zr_pshi 2 rfl).trans ?_
    by_cases c2 : l5 = 2
    · rw [if_pos c2] at k
      refine (zr_icmp_ne_n (zl5) ((by unfold zR; omega)) c2).trans ?_
      exact k
    · rw [if_neg c2] at k
      exact (zr_icmp_ne_t (zl5) ((by unfold zR; omega)) c2).trans k
theorem zs_63_60 (h : zOk b n f) {l1 : Nat} {l2 : Nat} {l3 : Int} {l4 : Int} {l5 : Int} {s0 : Int} (zl1 : zI_fl l1) (zl2 : zI_plan l2) (zl3 : zR l3) (zl4 : zR l4) (zl5 : zR l5) (zs0 : zR s0) (k : k63_61 V ST d (zCl AL V ST ex_km d) (zRn AL V ST ex_km d kt_63) (zP [zf b 15, zf b l1, zf b l2, enc l3, enc l4, enc l5]) [enc 0, enc s0, zf b 61] (zM n (zWf b f g)) = some r) : k63_60 V ST d (zCl AL V ST ex_km d) (zRn AL V ST ex_km d kt_63) (zP [zf b 15, zf b l1, zf b l2, enc l3, enc l4, enc l5]) [enc s0, zf b 61] (zM n (zWf b f g)) = some r := by
  unfold k63_60
  refine (zr_pshi 0 rfl).trans ?_
  exact k
theorem zs_63_56 (h : zOk b n f) {l1 : Nat} {l2 : Nat} {l3 : Int} {l4 : Int} {l5 : Int} {s0 : Int} (zl1 : zI_fl l1) (zl2 : zI_plan l2) (zl3 : zR l3) (zl4 : zR l4) (zl5 : zR l5) (zs0 : zR s0) (k : zRn AL V ST ex_km d kt_63 61 (zP [zf b 15, zf b l1, zf b l2, enc l3, enc l4, enc l5]) [enc 1, enc s0, zf b 61] (zM n (zWf b f g)) = some r) : k63_56 V ST d (zCl AL V ST ex_km d) (zRn AL V ST ex_km d kt_63) (zP [zf b 15, zf b l1, zf b l2, enc l3, enc l4, enc l5]) [enc s0, zf b 61] (zM n (zWf b f g)) = some r := by
  unfold k63_56
  refine (zr_pshi 1 rfl).trans ?_
  exact (zr_goto).trans k
theorem zs_63_44 (h : zOk b n f) {l1 : Nat} {l2 : Nat} {l3 : Int} {l4 : Int} {l5 : Int} {s0 : Int} (zl1 : zI_fl l1) (zl2 : zI_plan l2) (zl3 : zR l3) (zl4 : zR l4) (zl5 : zR l5) (zs0 : zR s0) (k : (if l4 = 1 then zRn AL V ST ex_km d kt_63 56 (zP [zf b 15, zf b l1, zf b l2, enc l3, enc l4, enc l5]) [enc s0, zf b 61] (zM n (zWf b f g)) else (if l5 = 1 then k63_56 V ST d (zCl AL V ST ex_km d) (zRn AL V ST ex_km d kt_63) (zP [zf b 15, zf b l1, zf b l2, enc l3, enc l4, enc l5]) [enc s0, zf b 61] (zM n (zWf b f g)) else zRn AL V ST ex_km d kt_63 60 (zP [zf b 15, zf b l1, zf b l2, enc l3, enc l4, enc l5]) [enc s0, zf b 61] (zM n (zWf b f g)))) = some r) : k63_44 V ST d (zCl AL V ST ex_km d) (zRn AL V ST ex_km d kt_63) (zP [zf b 15, zf b l1, zf b l2, enc l3, enc l4, enc l5]) [enc s0, zf b 61] (zM n (zWf b f g)) = some r := by
  unfold k63_44
  refine (zr_iload (v := enc l4) rfl (enc_lt _)).trans ?_
  refine (zr_pshi 1 rfl).trans ?_
  by_cases c1 : l4 = 1
  · rw [if_pos c1] at k
    exact (zr_icmp_eq_t (zl4) ((by unfold zR; omega)) c1).trans k
  · rw [if_neg c1] at k
    refine (zr_icmp_eq_n (zl4) ((by unfold zR; omega)) c1).trans ?_
    refine (zr_iload (v := enc l5) rfl (enc_lt _)).trans ?_
    refine (zr_pshi 1 rfl).trans ?_
    by_cases c2 : l5 = 1
    · rw [if_pos c2] at k
      refine (zr_icmp_ne_n (zl5) ((by unfold zR; omega)) c2).trans ?_
      exact k
    · rw [if_neg c2] at k
      exact (zr_icmp_ne_t (zl5) ((by unfold zR; omega)) c2).trans k
theorem zs_63_43 (h : zOk b n f) {l1 : Nat} {l2 : Nat} {l3 : Int} {l4 : Int} {l5 : Int} (zl1 : zI_fl l1) (zl2 : zI_plan l2) (zl3 : zR l3) (zl4 : zR l4) (zl5 : zR l5) (k : k63_44 V ST d (zCl AL V ST ex_km d) (zRn AL V ST ex_km d kt_63) (zP [zf b 15, zf b l1, zf b l2, enc l3, enc l4, enc l5]) [enc 2, zf b 61] (zM n (zWf b f g)) = some r) : k63_43 V ST d (zCl AL V ST ex_km d) (zRn AL V ST ex_km d kt_63) (zP [zf b 15, zf b l1, zf b l2, enc l3, enc l4, enc l5]) [zf b 61] (zM n (zWf b f g)) = some r := by
  unfold k63_43
  refine (zr_pshi 2 rfl).trans ?_
  exact k
theorem zs_63_39 (h : zOk b n f) {l1 : Nat} {l2 : Nat} {l3 : Int} {l4 : Int} {l5 : Int} (zl1 : zI_fl l1) (zl2 : zI_plan l2) (zl3 : zR l3) (zl4 : zR l4) (zl5 : zR l5) (k : zRn AL V ST ex_km d kt_63 44 (zP [zf b 15, zf b l1, zf b l2, enc l3, enc l4, enc l5]) [enc 4, zf b 61] (zM n (zWf b f g)) = some r) : k63_39 V ST d (zCl AL V ST ex_km d) (zRn AL V ST ex_km d kt_63) (zP [zf b 15, zf b l1, zf b l2, enc l3, enc l4, enc l5]) [zf b 61] (zM n (zWf b f g)) = some r := by
  unfold k63_39
  refine (zr_pshi 4 rfl).trans ?_
  exact (zr_goto).trans k
theorem zs_63_21 (h : zOk b n f) {l1 : Nat} {l2 : Nat} {l3 : Int} {l4 : Int} {s0 : Int} (zl1 : zI_fl l1) (zl2 : zI_plan l2) (zl3 : zR l3) (zl4 : zR l4) (zs0 : zR s0) (k : (if l4 = 3 then zRn AL V ST ex_km d kt_63 39 (zP [zf b 15, zf b l1, zf b l2, enc l3, enc l4, enc s0]) [zf b 61] (zM n (zWf b f g)) else (if s0 = 3 then k63_39 V ST d (zCl AL V ST ex_km d) (zRn AL V ST ex_km d kt_63) (zP [zf b 15, zf b l1, zf b l2, enc l3, enc l4, enc s0]) [zf b 61] (zM n (zWf b f g)) else zRn AL V ST ex_km d kt_63 43 (zP [zf b 15, zf b l1, zf b l2, enc l3, enc l4, enc s0]) [zf b 61] (zM n (zWf b f g)))) = some r) : k63_21 V ST d (zCl AL V ST ex_km d) (zRn AL V ST ex_km d kt_63) (zP [zf b 15, zf b l1, zf b l2, enc l3, enc l4, 137438953472]) [enc s0] (zM n (zWf b f g)) = some r := by
  unfold k63_21
  refine (zr_istore (w := enc l4) (vs' := [zf b 15, zf b l1, zf b l2, enc l3, enc l4, enc s0]) rfl (enc_c2 _) (Nat.lt_trans (enc_lt _) (by decide)) (by decide) rfl (enc_lt _)).trans ?_
  refine (zr_aload (v := zf b 15) rfl (zf_tA h _)).trans ?_
  refine (zr_gfr h (tr_stage_steps rfl)).trans ?_
  refine (zr_iload (v := enc l4) rfl (enc_lt _)).trans ?_
  refine (zr_pshi 3 rfl).trans ?_
  by_cases c1 : l4 = 3
  · rw [if_pos c1] at k
    exact (zr_icmp_eq_t (zl4) ((by unfold zR; omega)) c1).trans k
  · rw [if_neg c1] at k
    refine (zr_icmp_eq_n (zl4) ((by unfold zR; omega)) c1).trans ?_
    refine (zr_iload (v := enc s0) rfl (enc_lt _)).trans ?_
    refine (zr_pshi 3 rfl).trans ?_
    by_cases c2 : s0 = 3
    · rw [if_pos c2] at k
      refine (zr_icmp_ne_n (zs0) ((by unfold zR; omega)) c2).trans ?_
      exact k
    · rw [if_neg c2] at k
      exact (zr_icmp_ne_t (zs0) ((by unfold zR; omega)) c2).trans k
theorem zs_63_10 (h : zOk b n f) {l1 : Nat} {l2 : Nat} {l3 : Int} (zl1 : zI_fl l1) (zl2 : zI_plan l2) (zl3 : zR l3) (k : zTh (zCl AL V ST ex_km d 52 [zf b l2, enc l3] (zM n (zWf b f g))) (zM n (zWf b f g)) [] (fun S M => k63_21 V ST d (zCl AL V ST ex_km d) (zRn AL V ST ex_km d kt_63) (zP [zf b 15, zf b l1, zf b l2, enc l3, enc (nz (g l2 4)), 137438953472]) S M) = some r) : k63_10 V ST d (zCl AL V ST ex_km d) (zRn AL V ST ex_km d kt_63) (zP [zf b 15, zf b l1, zf b l2, enc l3, 137438953472, 137438953472]) [] (zM n (zWf b f g)) = some r := by
  unfold k63_10
  refine (zr_aload (v := zf b l2) rfl (zf_tA h _)).trans ?_
  refine (zr_gfi h (ti_plan_concept zl2)).trans ?_
  refine (zr_istore (w := enc l3) (vs' := [zf b 15, zf b l1, zf b l2, enc l3, enc (nz (g l2 4)), 137438953472]) rfl (enc_c2 _) (Nat.lt_trans (enc_lt _) (by decide)) (by decide) rfl (enc_lt _)).trans ?_
  refine (zr_aload (v := zf b l2) rfl (zf_tA h _)).trans ?_
  refine (zr_iload (v := enc l3) rfl (enc_lt _)).trans ?_
  refine zr_invV h [enc l3] rfl (tk_plan zl2) (zA_cons (enc_l _) zA_nil) (zA_nil) (by decide) ?_
  exact k
theorem zs_63_0 (h : zOk b n f) {l1 : Nat} {l2 : Nat} {l3 : Int} (zl1 : zI_fl l1) (zl2 : zI_plan l2) (zl3 : zR l3) (k : (if nz (g 15 6) = 45 then zRn AL V ST ex_km d kt_63 10 (zP [zf b 15, zf b l1, zf b l2, enc l3, 137438953472, 137438953472]) [] (zM n (zWf b f g)) else some (137438953473, (zM n (zWf b f g)))) = some r) : k63_0 V ST d (zCl AL V ST ex_km d) (zRn AL V ST ex_km d kt_63) (zP [zf b 15, zf b l1, zf b l2, enc l3, 137438953472, 137438953472]) [] (zM n (zWf b f g)) = some r := by
  unfold k63_0
  refine (zr_aload (v := zf b 15) rfl (zf_tA h _)).trans ?_
  refine (zr_gfi h (ti_stage_reason rfl)).trans ?_
  refine (zr_pshi 45 rfl).trans ?_
  by_cases c1 : nz (g 15 6) = 45
  · rw [if_pos c1] at k
    exact (zr_icmp_eq_t (nz_R _) ((by unfold zR; omega)) c1).trans k
  · rw [if_neg c1] at k
    refine (zr_icmp_eq_n (nz_R _) ((by unfold zR; omega)) c1).trans ?_
    exact zr_return.trans k
theorem zs_64_93 (h : zOk b n f) {l1 : Int} {l2 : Nat} (zl1 : zR l1) (zl2 : ex_c2 l2 = false ∧ l2 < 1099511627776) (k : some (137438953473, (zM n (zWf b f g))) = some r) : k64_93 V ST d (zCl AL V ST ex_km d) (zRn AL V ST ex_km d kt_64) (zP [zf b 15, enc l1, l2]) [] (zM n (zWf b f g)) = some r := by
  unfold k64_93
  exact zr_return.trans k
theorem zs_64_90 (h : zOk b n f) {l1 : Int} {l2 : Nat} {s0 : Int} {s1 : Nat} {s2 : Nat} (zl1 : zR l1) (zl2 : zI_fl l2) (zs0 : zR s0) (zs1 : zI_fl s1) (zs2 : zI_fl s2) (k : zTh (zCl AL V ST ex_km d 66 [zf b 15, zf b s2, zf b s1, enc s0] (zM n (zWf b f g))) (zM n (zWf b f g)) [] (fun S M => k64_93 V ST d (zCl AL V ST ex_km d) (zRn AL V ST ex_km d kt_64) (zP [zf b 15, enc l1, zf b l2]) S M) = some r) : k64_90 V ST d (zCl AL V ST ex_km d) (zRn AL V ST ex_km d kt_64) (zP [zf b 15, enc l1, zf b l2]) [enc s0, zf b s1, zf b s2, zf b 15] (zM n (zWf b f g)) = some r := by
  unfold k64_90
  refine zr_invV h [enc s0, zf b s1, zf b s2] rfl (tk_stage rfl) (zA_cons (enc_l _) (zA_cons (zf_l h _) (zA_cons (zf_l h _) zA_nil))) (zA_nil) (by decide) ?_
  exact k
theorem zs_64_89 (h : zOk b n f) {l1 : Int} {l2 : Nat} {s0 : Nat} {s1 : Nat} (zl1 : zR l1) (zl2 : zI_fl l2) (zs0 : zI_fl s0) (zs1 : zI_fl s1) (k : k64_90 V ST d (zCl AL V ST ex_km d) (zRn AL V ST ex_km d kt_64) (zP [zf b 15, enc l1, zf b l2]) [enc 0, zf b s0, zf b s1, zf b 15] (zM n (zWf b f g)) = some r) : k64_89 V ST d (zCl AL V ST ex_km d) (zRn AL V ST ex_km d kt_64) (zP [zf b 15, enc l1, zf b l2]) [zf b s0, zf b s1, zf b 15] (zM n (zWf b f g)) = some r := by
  unfold k64_89
  refine (zr_pshi 0 rfl).trans ?_
  exact k
theorem zs_64_79 (h : zOk b n f) {l1 : Int} {l2 : Nat} {s0 : Nat} (zl1 : zR l1) (zl2 : zI_fl l2) (zs0 : zI_fl s0) (k : (if l1 = 5 then zRn AL V ST ex_km d kt_64 90 (zP [zf b 15, enc l1, zf b l2]) [enc 1, zf b l2, zf b s0, zf b 15] (zM n (zWf b f g)) else zRn AL V ST ex_km d kt_64 89 (zP [zf b 15, enc l1, zf b l2]) [zf b l2, zf b s0, zf b 15] (zM n (zWf b f g))) = some r) : k64_79 V ST d (zCl AL V ST ex_km d) (zRn AL V ST ex_km d kt_64) (zP [zf b 15, enc l1, zf b l2]) [zf b s0, zf b 15] (zM n (zWf b f g)) = some r := by
  unfold k64_79
  refine (zr_aload (v := zf b l2) rfl (zf_tA h _)).trans ?_
  refine (zr_iload (v := enc l1) rfl (enc_lt _)).trans ?_
  refine (zr_pshi 5 rfl).trans ?_
  by_cases c1 : l1 = 5
  · rw [if_pos c1] at k
    refine (zr_icmp_ne_n (zl1) ((by unfold zR; omega)) c1).trans ?_
    refine (zr_pshi 1 rfl).trans ?_
    exact (zr_goto).trans k
  · rw [if_neg c1] at k
    exact (zr_icmp_ne_t (zl1) ((by unfold zR; omega)) c1).trans k
theorem zs_64_59 (h : zOk b n f) {l1 : Int} {s0 : Nat} (zl1 : zR l1) (zs0 : zI_fl s0) (k : zTh (zCl AL V ST ex_km d 61 [zf b 15, enc (nz ((upd g 15 5 (nz ((nz (g 15 5)) - 1))) 15 5))] (zM n (zWf b f (upd g 15 5 (nz ((nz (g 15 5)) - 1)))))) (zM n (zWf b f (upd g 15 5 (nz ((nz (g 15 5)) - 1))))) [zf b 15] (fun S M => k64_79 V ST d (zCl AL V ST ex_km d) (zRn AL V ST ex_km d kt_64) (zP [zf b 15, enc l1, zf b s0]) S M) = some r) : k64_59 V ST d (zCl AL V ST ex_km d) (zRn AL V ST ex_km d kt_64) (zP [zf b 15, enc l1, 137438953472]) [zf b s0] (zM n (zWf b f g)) = some r := by
  unfold k64_59
  refine (zr_astore (w := enc l1) (vs' := [zf b 15, enc l1, zf b s0]) rfl (enc_c2 _) (Nat.lt_trans (enc_lt _) (by decide)) (by decide) rfl (zf_tA h _)).trans ?_
  refine (zr_aload (v := zf b 15) rfl (zf_tA h _)).trans ?_
  refine (zr_dup (zf_c2 h _)).trans ?_
  refine (zr_gfi h (ti_stage_depth rfl)).trans ?_
  refine (zr_pshi 1 rfl).trans ?_
  refine (zr_isub).trans ?_
  refine (zr_pfi h (ti_stage_depth rfl)).trans ?_
  refine (zr_aload (v := zf b 15) rfl (zf_tA h _)).trans ?_
  refine (zr_aload (v := zf b 15) rfl (zf_tA h _)).trans ?_
  refine (zr_aload (v := zf b 15) rfl (zf_tA h _)).trans ?_
  refine (zr_gfi h (ti_stage_depth rfl)).trans ?_
  refine zr_invV h [enc (nz ((upd g 15 5 (nz ((nz (g 15 5)) - 1))) 15 5))] rfl (tk_stage rfl) (zA_cons (enc_l _) zA_nil) (zA_cons (zf_l h _) zA_nil) (by decide) ?_
  exact k
theorem zs_64_44 (h : zOk b n f) {l1 : Int} (zl1 : zR l1) (k : (if 0 < nz (g 15 5) then zTh (zCl AL V ST ex_km d 61 [zf b 15, enc (nz (g 15 5))] (zM n (zWf b f g))) (zM n (zWf b f g)) [] (fun S M => k64_59 V ST d (zCl AL V ST ex_km d) (zRn AL V ST ex_km d kt_64) (zP [zf b 15, enc l1, 137438953472]) S M) else zRn AL V ST ex_km d kt_64 93 (zP [zf b 15, enc l1, 137438953472]) [] (zM n (zWf b f g))) = some r) : k64_44 V ST d (zCl AL V ST ex_km d) (zRn AL V ST ex_km d kt_64) (zP [zf b 15, enc l1, 137438953472]) [] (zM n (zWf b f g)) = some r := by
  unfold k64_44
  refine (zr_aload (v := zf b 15) rfl (zf_tA h _)).trans ?_
  refine (zr_gfi h (ti_stage_depth rfl)).trans ?_
  by_cases c1 : 0 < nz (g 15 5)
  · rw [if_pos c1] at k
    refine (zr_if_le_n (nz_R _) c1).trans ?_
    refine (zr_aload (v := zf b 15) rfl (zf_tA h _)).trans ?_
    refine (zr_aload (v := zf b 15) rfl (zf_tA h _)).trans ?_
    refine (zr_gfi h (ti_stage_depth rfl)).trans ?_
    refine zr_invV h [enc (nz (g 15 5))] rfl (tk_stage rfl) (zA_cons (enc_l _) zA_nil) (zA_nil) (by decide) ?_
    exact k
  · rw [if_neg c1] at k
    exact (zr_if_le_t (nz_R _) (Int.not_lt.mp c1)).trans k
theorem zs_64_33 (h : zOk b n f) {l1 : Int} (zl1 : zR l1) (k : (if l1 = 5 then zRn AL V ST ex_km d kt_64 44 (zP [zf b 15, enc l1, 137438953472]) [] (zM n (zWf b f g)) else (if l1 = 6 then k64_44 V ST d (zCl AL V ST ex_km d) (zRn AL V ST ex_km d kt_64) (zP [zf b 15, enc l1, 137438953472]) [] (zM n (zWf b f g)) else zRn AL V ST ex_km d kt_64 93 (zP [zf b 15, enc l1, 137438953472]) [] (zM n (zWf b f g)))) = some r) : k64_33 V ST d (zCl AL V ST ex_km d) (zRn AL V ST ex_km d kt_64) (zP [zf b 15, enc l1, 137438953472]) [] (zM n (zWf b f g)) = some r := by
  unfold k64_33
  refine (zr_iload (v := enc l1) rfl (enc_lt _)).trans ?_
  refine (zr_pshi 5 rfl).trans ?_
  by_cases c1 : l1 = 5
  · rw [if_pos c1] at k
    exact (zr_icmp_eq_t (zl1) ((by unfold zR; omega)) c1).trans k
  · rw [if_neg c1] at k
    refine (zr_icmp_eq_n (zl1) ((by unfold zR; omega)) c1).trans ?_
    refine (zr_iload (v := enc l1) rfl (enc_lt _)).trans ?_
    refine (zr_pshi 6 rfl).trans ?_
    by_cases c2 : l1 = 6
    · rw [if_pos c2] at k
      refine (zr_icmp_ne_n (zl1) ((by unfold zR; omega)) c2).trans ?_
      exact k
    · rw [if_neg c2] at k
      exact (zr_icmp_ne_t (zl1) ((by unfold zR; omega)) c2).trans k
theorem zs_64_30 (h : zOk b n f) {l1 : Int} (zl1 : zR l1) (k : zRn AL V ST ex_km d kt_64 93 (zP [zf b 15, enc l1, 137438953472]) [] (zM n (zWf b f g)) = some r) : k64_30 V ST d (zCl AL V ST ex_km d) (zRn AL V ST ex_km d kt_64) (zP [zf b 15, enc l1, 137438953472]) [] (zM n (zWf b f g)) = some r := by
  unfold k64_30
  exact (zr_goto).trans k
theorem zs_64_23 (h : zOk b n f) {l1 : Int} {s0 : Nat} (zl1 : zR l1) (zs0 : zI_fl s0) (k : zTh (zCl AL V ST ex_km d 9 [zf b s0, zf b 5] (zM n (zWf b f g))) (zM n (zWf b f g)) [] (fun S M => k64_30 V ST d (zCl AL V ST ex_km d) (zRn AL V ST ex_km d kt_64) (zP [zf b 15, enc l1, 137438953472]) S M) = some r) : k64_23 V ST d (zCl AL V ST ex_km d) (zRn AL V ST ex_km d kt_64) (zP [zf b 15, enc l1, 137438953472]) [zf b s0] (zM n (zWf b f g)) = some r := by
  unfold k64_23
  refine (zr_aload (v := zf b 15) rfl (zf_tA h _)).trans ?_
  refine (zr_gfr h (tr_stage_phantoms rfl)).trans ?_
  refine zr_invV h [zf b 5] rfl (tk_fl zs0) (zA_cons (zf_l h _) zA_nil) (zA_nil) (by decide) ?_
  exact k
theorem zs_64_10 (h : zOk b n f) {l1 : Int} (zl1 : zR l1) (k : (if l1 = 4 then zTh (zCl AL V ST ex_km d 61 [zf b 15, enc (nz (g 15 5))] (zM n (zWf b f g))) (zM n (zWf b f g)) [] (fun S M => k64_23 V ST d (zCl AL V ST ex_km d) (zRn AL V ST ex_km d kt_64) (zP [zf b 15, enc l1, 137438953472]) S M) else zRn AL V ST ex_km d kt_64 33 (zP [zf b 15, enc l1, 137438953472]) [] (zM n (zWf b f g))) = some r) : k64_10 V ST d (zCl AL V ST ex_km d) (zRn AL V ST ex_km d kt_64) (zP [zf b 15, enc l1, 137438953472]) [] (zM n (zWf b f g)) = some r := by
  unfold k64_10
  refine (zr_iload (v := enc l1) rfl (enc_lt _)).trans ?_
  refine (zr_pshi 4 rfl).trans ?_
  by_cases c1 : l1 = 4
  · rw [if_pos c1] at k
    refine (zr_icmp_ne_n (zl1) ((by unfold zR; omega)) c1).trans ?_
    refine (zr_aload (v := zf b 15) rfl (zf_tA h _)).trans ?_
    refine (zr_aload (v := zf b 15) rfl (zf_tA h _)).trans ?_
    refine (zr_gfi h (ti_stage_depth rfl)).trans ?_
    refine zr_invV h [enc (nz (g 15 5))] rfl (tk_stage rfl) (zA_cons (enc_l _) zA_nil) (zA_nil) (by decide) ?_
    exact k
  · rw [if_neg c1] at k
    exact (zr_icmp_ne_t (zl1) ((by unfold zR; omega)) c1).trans k
theorem zs_64_0 (h : zOk b n f) {l1 : Int} (zl1 : zR l1) (k : (if nz (g 15 6) = 45 then zRn AL V ST ex_km d kt_64 10 (zP [zf b 15, enc l1, 137438953472]) [] (zM n (zWf b f g)) else some (137438953473, (zM n (zWf b f g)))) = some r) : k64_0 V ST d (zCl AL V ST ex_km d) (zRn AL V ST ex_km d kt_64) (zP [zf b 15, enc l1, 137438953472]) [] (zM n (zWf b f g)) = some r := by
  unfold k64_0
  refine (zr_aload (v := zf b 15) rfl (zf_tA h _)).trans ?_
  refine (zr_gfi h (ti_stage_reason rfl)).trans ?_
  refine (zr_pshi 45 rfl).trans ?_
  by_cases c1 : nz (g 15 6) = 45
  · rw [if_pos c1] at k
    exact (zr_icmp_eq_t (nz_R _) ((by unfold zR; omega)) c1).trans k
  · rw [if_neg c1] at k
    refine (zr_icmp_eq_n (nz_R _) ((by unfold zR; omega)) c1).trans ?_
    exact zr_return.trans k
theorem zs_65_175 (h : zOk b n f) {l1 : Nat} {l2 : Nat} {l3 : Int} {l4 : Int} {l5 : Int} {l6 : Nat} {l7 : Nat} {l8 : Nat} (zl1 : zI_fl l1) (zl2 : zI_fl l2) (zl3 : zR l3) (zl4 : zR l4) (zl5 : zR l5) (zl6 : ex_c2 l6 = false ∧ l6 < 1099511627776) (zl7 : ex_c2 l7 = false ∧ l7 < 1099511627776) (zl8 : ex_c2 l8 = false ∧ l8 < 1099511627776) (k : some (enc 1, (zM n (zWf b f g))) = some r) : k65_175 V ST d (zCl AL V ST ex_km d) (zRn AL V ST ex_km d kt_65) (zP [zf b 15, zf b l1, zf b l2, enc l3, enc l4, enc l5, l6, l7, l8]) [] (zM n (zWf b f g)) = some r := by
  unfold k65_175
  refine (zr_pshi 1 rfl).trans ?_
  exact (zr_breturn (by decide)).trans k
theorem zs_65_169 (h : zOk b n f) {l1 : Nat} {l2 : Nat} {l3 : Int} {l4 : Int} {l5 : Int} {l6 : Int} {l7 : Int} {l8 : Int} (zl1 : zI_fl l1) (zl2 : zI_fl l2) (zl3 : zR l3) (zl4 : zR l4) (zl5 : zR l5) (zl6 : zR l6) (zl7 : zR l7) (zl8 : zR l8) (k : zRn AL V ST ex_km d kt_65 24 (zP [zf b 15, zf b l1, zf b l2, enc l3, enc l4, enc (nz (l5 + 1)), enc l6, enc l7, enc l8]) [] (zM n (zWf b f g)) = some r) : k65_169 V ST d (zCl AL V ST ex_km d) (zRn AL V ST ex_km d kt_65) (zP [zf b 15, zf b l1, zf b l2, enc l3, enc l4, enc l5, enc l6, enc l7, enc l8]) [] (zM n (zWf b f g)) = some r := by
  unfold k65_169
  refine (zr_iinc (w := enc l4) (x := l5) (i' := 1) (vs' := [zf b 15, zf b l1, zf b l2, enc l3, enc l4, enc (nz (l5 + 1)), enc l6, enc l7, enc l8]) rfl (enc_c2 _) (Nat.lt_trans (enc_lt _) (by decide)) rfl rfl (by decide) rfl).trans ?_
  exact (zr_goto).trans k
theorem zs_65_167 (h : zOk b n f) {l1 : Nat} {l2 : Nat} {l3 : Int} {l4 : Int} {l5 : Int} {l6 : Int} {l7 : Int} {l8 : Int} (zl1 : zI_fl l1) (zl2 : zI_fl l2) (zl3 : zR l3) (zl4 : zR l4) (zl5 : zR l5) (zl6 : zR l6) (zl7 : zR l7) (zl8 : zR l8) (k : some (enc 0, (zM n (zWf b f g))) = some r) : k65_167 V ST d (zCl AL V ST ex_km d) (zRn AL V ST ex_km d kt_65) (zP [zf b 15, zf b l1, zf b l2, enc l3, enc l4, enc l5, enc l6, enc l7, enc l8]) [] (zM n (zWf b f g)) = some r := by
  unfold k65_167
  refine (zr_pshi 0 rfl).trans ?_
  exact (zr_breturn (by decide)).trans k
theorem zs_65_164 (h : zOk b n f) {l1 : Nat} {l2 : Nat} {l3 : Int} {l4 : Int} {l5 : Int} {l6 : Int} {l7 : Int} {l8 : Int} {s0 : Int} (zl1 : zI_fl l1) (zl2 : zI_fl l2) (zl3 : zR l3) (zl4 : zR l4) (zl5 : zR l5) (zl6 : zR l6) (zl7 : zR l7) (zl8 : zR l8) (zs0 : zR s0) (k : (if s0 = 0 then k65_167 V ST d (zCl AL V ST ex_km d) (zRn AL V ST ex_km d kt_65) (zP [zf b 15, zf b l1, zf b l2, enc l3, enc l4, enc l5, enc l6, enc l7, enc l8]) [] (zM n (zWf b f g)) else zRn AL V ST ex_km d kt_65 169 (zP [zf b 15, zf b l1, zf b l2, enc l3, enc l4, enc l5, enc l6, enc l7, enc l8]) [] (zM n (zWf b f g))) = some r) : k65_164 V ST d (zCl AL V ST ex_km d) (zRn AL V ST ex_km d kt_65) (zP [zf b 15, zf b l1, zf b l2, enc l3, enc l4, enc l5, enc l6, enc l7, enc l8]) [enc s0] (zM n (zWf b f g)) = some r := by
  unfold k65_164
  by_cases c1 : s0 = 0
  · rw [if_pos c1] at k
    refine (zr_if_ne_n (zs0) c1).trans ?_
    exact k
  · rw [if_neg c1] at k
    exact (zr_if_ne_t (zs0) c1).trans k
theorem zs_65_139 (h : zOk b n f) {l1 : Nat} {l2 : Nat} {l3 : Int} {l4 : Int} {l5 : Int} {l6 : Int} {l7 : Int} {l8 : Nat} {s0 : Int} (zl1 : zI_fl l1) (zl2 : zI_fl l2) (zl3 : zR l3) (zl4 : zR l4) (zl5 : zR l5) (zl6 : zR l6) (zl7 : zR l7) (zl8 : ex_c2 l8 = false ∧ l8 < 1099511627776) (zs0 : zR s0) (k : (if l7 = l4 then (if s0 = 0 then zRn AL V ST ex_km d kt_65 169 (zP [zf b 15, zf b l1, zf b l2, enc l3, enc l4, enc l5, enc l6, enc l7, enc s0]) [] (zM n (zWf b f g)) else zTh (zCl AL V ST ex_km d 10 [zf b l2, zf b l1, enc l5, enc l6, enc l7] (zM n (zWf b f g))) (zM n (zWf b f g)) [] (fun S M => k65_164 V ST d (zCl AL V ST ex_km d) (zRn AL V ST ex_km d kt_65) (zP [zf b 15, zf b l1, zf b l2, enc l3, enc l4, enc l5, enc l6, enc l7, enc s0]) S M)) else zRn AL V ST ex_km d kt_65 167 (zP [zf b 15, zf b l1, zf b l2, enc l3, enc l4, enc l5, enc l6, enc l7, enc s0]) [] (zM n (zWf b f g))) = some r) : k65_139 V ST d (zCl AL V ST ex_km d) (zRn AL V ST ex_km d kt_65) (zP [zf b 15, zf b l1, zf b l2, enc l3, enc l4, enc l5, enc l6, enc l7, l8]) [enc s0] (zM n (zWf b f g)) = some r := by
  unfold k65_139
  refine (zr_istore (w := enc l7) (vs' := [zf b 15, zf b l1, zf b l2, enc l3, enc l4, enc l5, enc l6, enc l7, enc s0]) rfl (enc_c2 _) (Nat.lt_trans (enc_lt _) (by decide)) (by decide) rfl (enc_lt _)).trans ?_
  refine (zr_iload (v := enc l7) rfl (enc_lt _)).trans ?_
  refine (zr_iload (v := enc l4) rfl (enc_lt _)).trans ?_
  by_cases c1 : l7 = l4
  · rw [if_pos c1] at k
    refine (zr_icmp_ne_n (zl7) (zl4) c1).trans ?_
    refine (zr_iload (v := enc s0) rfl (enc_lt _)).trans ?_
    by_cases c2 : s0 = 0
    · rw [if_pos c2] at k
      exact (zr_if_eq_t (zs0) c2).trans k
    · rw [if_neg c2] at k
      refine (zr_if_eq_n (zs0) c2).trans ?_
      refine (zr_aload (v := zf b l2) rfl (zf_tA h _)).trans ?_
      refine (zr_aload (v := zf b l1) rfl (zf_tA h _)).trans ?_
      refine (zr_iload (v := enc l5) rfl (enc_lt _)).trans ?_
      refine (zr_iload (v := enc l6) rfl (enc_lt _)).trans ?_
      refine (zr_iload (v := enc l7) rfl (enc_lt _)).trans ?_
      refine zr_invV h [enc l7, enc l6, enc l5, zf b l1] rfl (tk_fl zl2) (zA_cons (enc_l _) (zA_cons (enc_l _) (zA_cons (enc_l _) (zA_cons (zf_l h _) zA_nil)))) (zA_nil) (by decide) ?_
      exact k
  · rw [if_neg c1] at k
    exact (zr_icmp_ne_t (zl7) (zl4) c1).trans k
theorem zs_65_136 (h : zOk b n f) {l1 : Nat} {l2 : Nat} {l3 : Int} {l4 : Int} {l5 : Int} {l6 : Int} {l7 : Int} {l8 : Nat} {s0 : Int} {s1 : Int} {s2 : Int} {s3 : Nat} (zl1 : zI_fl l1) (zl2 : zI_fl l2) (zl3 : zR l3) (zl4 : zR l4) (zl5 : zR l5) (zl6 : zR l6) (zl7 : zR l7) (zl8 : ex_c2 l8 = false ∧ l8 < 1099511627776) (zs0 : zR s0) (zs1 : zR s1) (zs2 : zR s2) (zs3 : zI_fl s3) (k : zTh (zCl AL V ST ex_km d 12 [zf b s3, enc s2, enc s1, enc s0] (zM n (zWf b f g))) (zM n (zWf b f g)) [] (fun S M => k65_139 V ST d (zCl AL V ST ex_km d) (zRn AL V ST ex_km d kt_65) (zP [zf b 15, zf b l1, zf b l2, enc l3, enc l4, enc l5, enc l6, enc l7, l8]) S M) = some r) : k65_136 V ST d (zCl AL V ST ex_km d) (zRn AL V ST ex_km d kt_65) (zP [zf b 15, zf b l1, zf b l2, enc l3, enc l4, enc l5, enc l6, enc l7, l8]) [enc s0, enc s1, enc s2, zf b s3] (zM n (zWf b f g)) = some r := by
  unfold k65_136
  refine zr_invV h [enc s0, enc s1, enc s2] rfl (tk_fl zs3) (zA_cons (enc_l _) (zA_cons (enc_l _) (zA_cons (enc_l _) zA_nil))) (zA_nil) (by decide) ?_
  exact k
theorem zs_65_127 (h : zOk b n f) {l1 : Nat} {l2 : Nat} {l3 : Int} {l4 : Int} {l5 : Int} {l6 : Int} {l7 : Int} {l8 : Nat} {s0 : Int} {s1 : Int} {s2 : Nat} (zl1 : zI_fl l1) (zl2 : zI_fl l2) (zl3 : zR l3) (zl4 : zR l4) (zl5 : zR l5) (zl6 : zR l6) (zl7 : zR l7) (zl8 : ex_c2 l8 = false ∧ l8 < 1099511627776) (zs0 : zR s0) (zs1 : zR s1) (zs2 : zI_fl s2) (k : (if 0 ≤ l5 ∧ l5 < 16 then k65_136 V ST d (zCl AL V ST ex_km d) (zRn AL V ST ex_km d kt_65) (zP [zf b 15, zf b l1, zf b l2, enc l3, enc l4, enc l5, enc l6, enc l7, l8]) [enc (nz ((nz (g (l1 + 3) l5)) + 3)), enc s0, enc s1, zf b s2] (zM n (zWf b f g)) else none) = some r) : k65_127 V ST d (zCl AL V ST ex_km d) (zRn AL V ST ex_km d kt_65) (zP [zf b 15, zf b l1, zf b l2, enc l3, enc l4, enc l5, enc l6, enc l7, l8]) [enc s0, enc s1, zf b s2] (zM n (zWf b f g)) = some r := by
  unfold k65_127
  refine (zr_aload (v := zf b l1) rfl (zf_tA h _)).trans ?_
  refine (zr_gfr h (tr_fl_f zl1)).trans ?_
  refine (zr_iload (v := enc l5) rfl (enc_lt _)).trans ?_
  by_cases c1 : 0 ≤ l5 ∧ l5 < 16
  · rw [if_pos c1] at k
    refine (zr_iald h (ta_fl_f zl1) c1.1 (by have := c1.2; omega)).trans ?_
    refine (zr_pshi 3 rfl).trans ?_
    refine (zr_iadd).trans ?_
    exact k
  · rw [if_neg c1] at k; cases k
theorem zs_65_106 (h : zOk b n f) {l1 : Nat} {l2 : Nat} {l3 : Int} {l4 : Int} {l5 : Int} {l6 : Int} {l7 : Int} {l8 : Nat} {s0 : Int} (zl1 : zI_fl l1) (zl2 : zI_fl l2) (zl3 : zR l3) (zl4 : zR l4) (zl5 : zR l5) (zl6 : zR l6) (zl7 : zR l7) (zl8 : ex_c2 l8 = false ∧ l8 < 1099511627776) (zs0 : zR s0) (k : (if l3 = 0 then zRn AL V ST ex_km d kt_65 127 (zP [zf b 15, zf b l1, zf b l2, enc l3, enc s0, enc l5, enc l6, enc l7, l8]) [enc l6, enc l5, zf b l1] (zM n (zWf b f g)) else (if 0 ≤ l5 ∧ l5 < 16 then zRn AL V ST ex_km d kt_65 136 (zP [zf b 15, zf b l1, zf b l2, enc l3, enc s0, enc l5, enc l6, enc l7, l8]) [enc (nz (g (l1 + 3) l5)), enc l6, enc l5, zf b l1] (zM n (zWf b f g)) else none)) = some r) : k65_106 V ST d (zCl AL V ST ex_km d) (zRn AL V ST ex_km d kt_65) (zP [zf b 15, zf b l1, zf b l2, enc l3, enc l4, enc l5, enc l6, enc l7, l8]) [enc s0] (zM n (zWf b f g)) = some r := by
  unfold k65_106
  refine (zr_istore (w := enc l3) (vs' := [zf b 15, zf b l1, zf b l2, enc l3, enc s0, enc l5, enc l6, enc l7, l8]) rfl (enc_c2 _) (Nat.lt_trans (enc_lt _) (by decide)) (by decide) rfl (enc_lt _)).trans ?_
  refine (zr_aload (v := zf b l1) rfl (zf_tA h _)).trans ?_
  refine (zr_iload (v := enc l5) rfl (enc_lt _)).trans ?_
  refine (zr_iload (v := enc l6) rfl (enc_lt _)).trans ?_
  refine (zr_iload (v := enc l3) rfl (enc_lt _)).trans ?_
  by_cases c1 : l3 = 0
  · rw [if_pos c1] at k
    exact (zr_if_eq_t (zl3) c1).trans k
  · rw [if_neg c1] at k
    refine (zr_if_eq_n (zl3) c1).trans ?_
    refine (zr_aload (v := zf b l1) rfl (zf_tA h _)).trans ?_
    refine (zr_gfr h (tr_fl_f zl1)).trans ?_
    refine (zr_iload (v := enc l5) rfl (enc_lt _)).trans ?_
    by_cases c2 : 0 ≤ l5 ∧ l5 < 16
    · rw [if_pos c2] at k
      refine (zr_iald h (ta_fl_f zl1) c2.1 (by have := c2.2; omega)).trans ?_
      exact (zr_goto).trans k
    · rw [if_neg c2] at k; cases k
theorem zs_65_104 (h : zOk b n f) {l1 : Nat} {l2 : Nat} {l3 : Int} {l4 : Int} {l5 : Int} {l6 : Int} {l7 : Int} {l8 : Nat} (zl1 : zI_fl l1) (zl2 : zI_fl l2) (zl3 : zR l3) (zl4 : zR l4) (zl5 : zR l5) (zl6 : zR l6) (zl7 : zR l7) (zl8 : ex_c2 l8 = false ∧ l8 < 1099511627776) (k : k65_106 V ST d (zCl AL V ST ex_km d) (zRn AL V ST ex_km d kt_65) (zP [zf b 15, zf b l1, zf b l2, enc l3, enc l4, enc l5, enc l6, enc l7, l8]) [enc l4] (zM n (zWf b f g)) = some r) : k65_104 V ST d (zCl AL V ST ex_km d) (zRn AL V ST ex_km d kt_65) (zP [zf b 15, zf b l1, zf b l2, enc l3, enc l4, enc l5, enc l6, enc l7, l8]) [] (zM n (zWf b f g)) = some r := by
  unfold k65_104
  refine (zr_iload (v := enc l4) rfl (enc_lt _)).trans ?_
  exact k
theorem zs_65_92 (h : zOk b n f) {l1 : Nat} {l2 : Nat} {l3 : Int} {l4 : Int} {l5 : Int} {l6 : Int} {l7 : Nat} {l8 : Nat} {s0 : Int} (zl1 : zI_fl l1) (zl2 : zI_fl l2) (zl3 : zR l3) (zl4 : zR l4) (zl5 : zR l5) (zl6 : zR l6) (zl7 : ex_c2 l7 = false ∧ l7 < 1099511627776) (zl8 : ex_c2 l8 = false ∧ l8 < 1099511627776) (zs0 : zR s0) (k : (if l5 = 0 then zRn AL V ST ex_km d kt_65 106 (zP [zf b 15, zf b l1, zf b l2, enc l3, enc l4, enc l5, enc l6, enc s0, l8]) [enc s0] (zM n (zWf b f g)) else zRn AL V ST ex_km d kt_65 104 (zP [zf b 15, zf b l1, zf b l2, enc l3, enc l4, enc l5, enc l6, enc s0, l8]) [] (zM n (zWf b f g))) = some r) : k65_92 V ST d (zCl AL V ST ex_km d) (zRn AL V ST ex_km d kt_65) (zP [zf b 15, zf b l1, zf b l2, enc l3, enc l4, enc l5, enc l6, l7, l8]) [enc s0] (zM n (zWf b f g)) = some r := by
  unfold k65_92
  refine (zr_istore (w := enc l6) (vs' := [zf b 15, zf b l1, zf b l2, enc l3, enc l4, enc l5, enc l6, enc s0, l8]) rfl (enc_c2 _) (Nat.lt_trans (enc_lt _) (by decide)) (by decide) rfl (enc_lt _)).trans ?_
  refine (zr_iload (v := enc l5) rfl (enc_lt _)).trans ?_
  by_cases c1 : l5 = 0
  · rw [if_pos c1] at k
    refine (zr_if_ne_n (zl5) c1).trans ?_
    refine (zr_iload (v := enc s0) rfl (enc_lt _)).trans ?_
    exact (zr_goto).trans k
  · rw [if_neg c1] at k
    exact (zr_if_ne_t (zl5) c1).trans k
theorem zs_65_91 (h : zOk b n f) {l1 : Nat} {l2 : Nat} {l3 : Int} {l4 : Int} {l5 : Int} {l6 : Int} {l7 : Nat} {l8 : Nat} (zl1 : zI_fl l1) (zl2 : zI_fl l2) (zl3 : zR l3) (zl4 : zR l4) (zl5 : zR l5) (zl6 : zR l6) (zl7 : ex_c2 l7 = false ∧ l7 < 1099511627776) (zl8 : ex_c2 l8 = false ∧ l8 < 1099511627776) (k : k65_92 V ST d (zCl AL V ST ex_km d) (zRn AL V ST ex_km d kt_65) (zP [zf b 15, zf b l1, zf b l2, enc l3, enc l4, enc l5, enc l6, l7, l8]) [enc 0] (zM n (zWf b f g)) = some r) : k65_91 V ST d (zCl AL V ST ex_km d) (zRn AL V ST ex_km d kt_65) (zP [zf b 15, zf b l1, zf b l2, enc l3, enc l4, enc l5, enc l6, l7, l8]) [] (zM n (zWf b f g)) = some r := by
  unfold k65_91
  refine (zr_pshi 0 rfl).trans ?_
  exact k
theorem zs_65_84 (h : zOk b n f) {l1 : Nat} {l2 : Nat} {l3 : Int} {l4 : Int} {l5 : Int} {l6 : Int} {l7 : Nat} {l8 : Nat} {s0 : Int} {s1 : Int} (zl1 : zI_fl l1) (zl2 : zI_fl l2) (zl3 : zR l3) (zl4 : zR l4) (zl5 : zR l5) (zl6 : zR l6) (zl7 : ex_c2 l7 = false ∧ l7 < 1099511627776) (zl8 : ex_c2 l8 = false ∧ l8 < 1099511627776) (zs0 : zR s0) (zs1 : zR s1) (k : (if s1 = s0 then zRn AL V ST ex_km d kt_65 92 (zP [zf b 15, zf b l1, zf b l2, enc l3, enc l4, enc l5, enc l6, l7, l8]) [enc 1] (zM n (zWf b f g)) else zRn AL V ST ex_km d kt_65 91 (zP [zf b 15, zf b l1, zf b l2, enc l3, enc l4, enc l5, enc l6, l7, l8]) [] (zM n (zWf b f g))) = some r) : k65_84 V ST d (zCl AL V ST ex_km d) (zRn AL V ST ex_km d kt_65) (zP [zf b 15, zf b l1, zf b l2, enc l3, enc l4, enc l5, enc l6, l7, l8]) [enc s0, enc s1] (zM n (zWf b f g)) = some r := by
  unfold k65_84
  by_cases c1 : s1 = s0
  · rw [if_pos c1] at k
    refine (zr_icmp_ne_n (zs1) (zs0) c1).trans ?_
    refine (zr_pshi 1 rfl).trans ?_
    exact (zr_goto).trans k
  · rw [if_neg c1] at k
    exact (zr_icmp_ne_t (zs1) (zs0) c1).trans k
theorem zs_65_83 (h : zOk b n f) {l1 : Nat} {l2 : Nat} {l3 : Int} {l4 : Int} {l5 : Int} {l6 : Int} {l7 : Nat} {l8 : Nat} {s0 : Int} (zl1 : zI_fl l1) (zl2 : zI_fl l2) (zl3 : zR l3) (zl4 : zR l4) (zl5 : zR l5) (zl6 : zR l6) (zl7 : ex_c2 l7 = false ∧ l7 < 1099511627776) (zl8 : ex_c2 l8 = false ∧ l8 < 1099511627776) (zs0 : zR s0) (k : k65_84 V ST d (zCl AL V ST ex_km d) (zRn AL V ST ex_km d kt_65) (zP [zf b 15, zf b l1, zf b l2, enc l3, enc l4, enc l5, enc l6, l7, l8]) [enc 0, enc s0] (zM n (zWf b f g)) = some r) : k65_83 V ST d (zCl AL V ST ex_km d) (zRn AL V ST ex_km d kt_65) (zP [zf b 15, zf b l1, zf b l2, enc l3, enc l4, enc l5, enc l6, l7, l8]) [enc s0] (zM n (zWf b f g)) = some r := by
  unfold k65_83
  refine (zr_pshi 0 rfl).trans ?_
  exact k
theorem zs_65_66 (h : zOk b n f) {l1 : Nat} {l2 : Nat} {l3 : Int} {l4 : Int} {l5 : Int} {l6 : Int} {l7 : Nat} {l8 : Nat} (zl1 : zI_fl l1) (zl2 : zI_fl l2) (zl3 : zR l3) (zl4 : zR l4) (zl5 : zR l5) (zl6 : zR l6) (zl7 : ex_c2 l7 = false ∧ l7 < 1099511627776) (zl8 : ex_c2 l8 = false ∧ l8 < 1099511627776) (k : (if 0 ≤ l5 ∧ l5 < 16 then (if nz (Int.tmod (nz (g (l1 + 3) l5)) 2) = 0 then zRn AL V ST ex_km d kt_65 83 (zP [zf b 15, zf b l1, zf b l2, enc l3, enc l4, enc l5, enc l6, l7, l8]) [enc l3] (zM n (zWf b f g)) else zRn AL V ST ex_km d kt_65 84 (zP [zf b 15, zf b l1, zf b l2, enc l3, enc l4, enc l5, enc l6, l7, l8]) [enc 1, enc l3] (zM n (zWf b f g))) else none) = some r) : k65_66 V ST d (zCl AL V ST ex_km d) (zRn AL V ST ex_km d kt_65) (zP [zf b 15, zf b l1, zf b l2, enc l3, enc l4, enc l5, enc l6, l7, l8]) [] (zM n (zWf b f g)) = some r := by
  unfold k65_66
  refine (zr_iload (v := enc l3) rfl (enc_lt _)).trans ?_
  refine (zr_aload (v := zf b l1) rfl (zf_tA h _)).trans ?_
  refine (zr_gfr h (tr_fl_f zl1)).trans ?_
  refine (zr_iload (v := enc l5) rfl (enc_lt _)).trans ?_
  by_cases c1 : 0 ≤ l5 ∧ l5 < 16
  · rw [if_pos c1] at k
    refine (zr_iald h (ta_fl_f zl1) c1.1 (by have := c1.2; omega)).trans ?_
    refine (zr_pshi 2 rfl).trans ?_
    refine (zr_rem (nz_R _) ((by unfold zR; omega)) (by decide)).trans ?_
    by_cases c2 : nz (Int.tmod (nz (g (l1 + 3) l5)) 2) = 0
    · rw [if_pos c2] at k
      exact (zr_if_eq_t (nz_R _) c2).trans k
    · rw [if_neg c2] at k
      refine (zr_if_eq_n (nz_R _) c2).trans ?_
      refine (zr_pshi 1 rfl).trans ?_
      exact (zr_goto).trans k
  · rw [if_neg c1] at k; cases k
theorem zs_65_64 (h : zOk b n f) {l1 : Nat} {l2 : Nat} {l3 : Int} {l4 : Int} {l5 : Int} {l6 : Int} {l7 : Nat} {l8 : Nat} (zl1 : zI_fl l1) (zl2 : zI_fl l2) (zl3 : zR l3) (zl4 : zR l4) (zl5 : zR l5) (zl6 : zR l6) (zl7 : ex_c2 l7 = false ∧ l7 < 1099511627776) (zl8 : ex_c2 l8 = false ∧ l8 < 1099511627776) (k : some (enc 0, (zM n (zWf b f g))) = some r) : k65_64 V ST d (zCl AL V ST ex_km d) (zRn AL V ST ex_km d kt_65) (zP [zf b 15, zf b l1, zf b l2, enc l3, enc l4, enc l5, enc l6, l7, l8]) [] (zM n (zWf b f g)) = some r := by
  unfold k65_64
  refine (zr_pshi 0 rfl).trans ?_
  exact (zr_breturn (by decide)).trans k
theorem zs_65_24 (h : zOk b n f) {l1 : Nat} {l2 : Nat} {l3 : Int} {l4 : Int} {l5 : Int} {l6 : Nat} {l7 : Nat} {l8 : Nat} (zl1 : zI_fl l1) (zl2 : zI_fl l2) (zl3 : zR l3) (zl4 : zR l4) (zl5 : zR l5) (zl6 : ex_c2 l6 = false ∧ l6 < 1099511627776) (zl7 : ex_c2 l7 = false ∧ l7 < 1099511627776) (zl8 : ex_c2 l8 = false ∧ l8 < 1099511627776) (k : (if l5 < nz (g l1 14) then (if 0 ≤ l5 ∧ l5 < 16 then (if nz (g 66 l5) < 0 then zRn AL V ST ex_km d kt_65 64 (zP [zf b 15, zf b l1, zf b l2, enc l3, enc l4, enc l5, enc (nz (g 66 l5)), l7, l8]) [] (zM n (zWf b f g)) else (if 0 ≤ l5 ∧ l5 < 16 then (if nz (g 67 l5) = 1 then zRn AL V ST ex_km d kt_65 66 (zP [zf b 15, zf b l1, zf b l2, enc l3, enc l4, enc l5, enc (nz (g 66 l5)), l7, l8]) [] (zM n (zWf b f g)) else k65_64 V ST d (zCl AL V ST ex_km d) (zRn AL V ST ex_km d kt_65) (zP [zf b 15, zf b l1, zf b l2, enc l3, enc l4, enc l5, enc (nz (g 66 l5)), l7, l8]) [] (zM n (zWf b f g))) else none)) else none) else zRn AL V ST ex_km d kt_65 175 (zP [zf b 15, zf b l1, zf b l2, enc l3, enc l4, enc l5, l6, l7, l8]) [] (zM n (zWf b f g))) = some r) : k65_24 V ST d (zCl AL V ST ex_km d) (zRn AL V ST ex_km d kt_65) (zP [zf b 15, zf b l1, zf b l2, enc l3, enc l4, enc l5, l6, l7, l8]) [] (zM n (zWf b f g)) = some r := by
  unfold k65_24
  refine (zr_iload (v := enc l5) rfl (enc_lt _)).trans ?_
  refine (zr_aload (v := zf b l1) rfl (zf_tA h _)).trans ?_
  refine (zr_gfi h (ti_fl_count zl1)).trans ?_
  by_cases c1 : l5 < nz (g l1 14)
  · rw [if_pos c1] at k
    refine (zr_icmp_ge_n (zl5) (nz_R _) c1).trans ?_
    refine (zr_aload (v := zf b 15) rfl (zf_tA h _)).trans ?_
    refine (zr_gfr h (tr_stage_steps rfl)).trans ?_
    refine (zr_gfr h (tr_st_mate rfl)).trans ?_
    refine (zr_iload (v := enc l5) rfl (enc_lt _)).trans ?_
    by_cases c2 : 0 ≤ l5 ∧ l5 < 16
    · rw [if_pos c2] at k
      refine (zr_iald h (ta_st_mate rfl) c2.1 (by have := c2.2; omega)).trans ?_
      refine (zr_istore (w := enc l5) (vs' := [zf b 15, zf b l1, zf b l2, enc l3, enc l4, enc l5, enc (nz (g 66 l5)), l7, l8]) rfl (enc_c2 _) (Nat.lt_trans (enc_lt _) (by decide)) (by decide) rfl (enc_lt _)).trans ?_
      refine (zr_iload (v := enc (nz (g 66 l5))) rfl (enc_lt _)).trans ?_
      by_cases c3 : nz (g 66 l5) < 0
      · rw [if_pos c3] at k
        exact (zr_if_lt_t (nz_R _) c3).trans k
      · rw [if_neg c3] at k
        refine (zr_if_lt_n (nz_R _) (Int.not_lt.mp c3)).trans ?_
        refine (zr_aload (v := zf b 15) rfl (zf_tA h _)).trans ?_
        refine (zr_gfr h (tr_stage_steps rfl)).trans ?_
        refine (zr_gfr h (tr_st_kind rfl)).trans ?_
        refine (zr_iload (v := enc l5) rfl (enc_lt _)).trans ?_
        by_cases c4 : 0 ≤ l5 ∧ l5 < 16
        · rw [if_pos c4] at k
          refine (zr_iald h (ta_st_kind rfl) c4.1 (by have := c4.2; omega)).trans ?_
          refine (zr_pshi 1 rfl).trans ?_
          by_cases c5 : nz (g 67 l5) = 1
          · rw [if_pos c5] at k
            exact (zr_icmp_eq_t (nz_R _) ((by unfold zR; omega)) c5).trans k
          · rw [if_neg c5] at k
            refine (zr_icmp_eq_n (nz_R _) ((by unfold zR; omega)) c5).trans ?_
            exact k
        · rw [if_neg c4] at k; cases k
    · rw [if_neg c2] at k; cases k
  · rw [if_neg c1] at k
    exact (zr_icmp_ge_t (zl5) (nz_R _) (Int.not_lt.mp c1)).trans k
theorem zs_65_18 (h : zOk b n f) {l1 : Nat} {l2 : Nat} {l3 : Int} (zl1 : zI_fl l1) (zl2 : zI_fl l2) (zl3 : zR l3) (k : k65_24 V ST d (zCl AL V ST ex_km d) (zRn AL V ST ex_km d kt_65) (zP [zf b 15, zf b l1, zf b l2, enc l3, enc 0, enc 0, 137438953472, 137438953472, 137438953472]) [] (zM n (zWf b f g)) = some r) : k65_18 V ST d (zCl AL V ST ex_km d) (zRn AL V ST ex_km d kt_65) (zP [zf b 15, zf b l1, zf b l2, enc l3, 137438953472, 137438953472, 137438953472, 137438953472, 137438953472]) [] (zM n (zWf b f g)) = some r := by
  unfold k65_18
  refine (zr_pshi 0 rfl).trans ?_
  refine (zr_istore (w := enc l3) (vs' := [zf b 15, zf b l1, zf b l2, enc l3, enc 0, 137438953472, 137438953472, 137438953472, 137438953472]) rfl (enc_c2 _) (Nat.lt_trans (enc_lt _) (by decide)) (by decide) rfl (enc_lt _)).trans ?_
  refine (zr_pshi 0 rfl).trans ?_
  refine (zr_istore (w := enc 0) (vs' := [zf b 15, zf b l1, zf b l2, enc l3, enc 0, enc 0, 137438953472, 137438953472, 137438953472]) rfl (enc_c2 _) (Nat.lt_trans (enc_lt _) (by decide)) (by decide) rfl (enc_lt _)).trans ?_
  exact k
theorem zs_65_9 (h : zOk b n f) {l1 : Nat} {l2 : Nat} {l3 : Int} (zl1 : zI_fl l1) (zl2 : zI_fl l2) (zl3 : zR l3) (k : zTh (zCl AL V ST ex_km d 77 [zf b 61, zf b l1, enc l3] (zM n (zWf b f g))) (zM n (zWf b f g)) [] (fun S M => k65_18 V ST d (zCl AL V ST ex_km d) (zRn AL V ST ex_km d kt_65) (zP [zf b 15, zf b l1, zf b l2, enc l3, 137438953472, 137438953472, 137438953472, 137438953472, 137438953472]) S M) = some r) : k65_9 V ST d (zCl AL V ST ex_km d) (zRn AL V ST ex_km d kt_65) (zP [zf b 15, zf b l1, zf b l2, enc l3, 137438953472, 137438953472, 137438953472, 137438953472, 137438953472]) [] (zM n (zWf b f g)) = some r := by
  unfold k65_9
  refine (zr_aload (v := zf b 15) rfl (zf_tA h _)).trans ?_
  refine (zr_gfr h (tr_stage_steps rfl)).trans ?_
  refine (zr_aload (v := zf b l1) rfl (zf_tA h _)).trans ?_
  refine (zr_iload (v := enc l3) rfl (enc_lt _)).trans ?_
  refine zr_invV h [enc l3, zf b l1] rfl (tk_st rfl) (zA_cons (enc_l _) (zA_cons (zf_l h _) zA_nil)) (zA_nil) (by decide) ?_
  exact k
theorem zs_65_0 (h : zOk b n f) {l1 : Nat} {l2 : Nat} {l3 : Int} (zl1 : zI_fl l1) (zl2 : zI_fl l2) (zl3 : zR l3) (k : zTh (zCl AL V ST ex_km d 13 [zf b l1] (zM n (zWf b f (upd g l2 14 0)))) (zM n (zWf b f (upd g l2 14 0))) [] (fun S M => k65_9 V ST d (zCl AL V ST ex_km d) (zRn AL V ST ex_km d kt_65) (zP [zf b 15, zf b l1, zf b l2, enc l3, 137438953472, 137438953472, 137438953472, 137438953472, 137438953472]) S M) = some r) : k65_0 V ST d (zCl AL V ST ex_km d) (zRn AL V ST ex_km d kt_65) (zP [zf b 15, zf b l1, zf b l2, enc l3, 137438953472, 137438953472, 137438953472, 137438953472, 137438953472]) [] (zM n (zWf b f g)) = some r := by
  unfold k65_0
  refine (zr_aload (v := zf b l2) rfl (zf_tA h _)).trans ?_
  refine (zr_pshi 0 rfl).trans ?_
  refine (zr_pfi h (ti_fl_count zl2)).trans ?_
  refine (zr_aload (v := zf b l1) rfl (zf_tA h _)).trans ?_
  refine zr_invV h [] rfl (tk_fl zl1) (zA_nil) (zA_nil) (by decide) ?_
  exact k
theorem zs_66_101 (h : zOk b n f) {l1 : Nat} {l2 : Nat} {l3 : Int} {l4 : Int} {l5 : Int} (zl1 : zI_fl l1) (zl2 : zI_fl l2) (zl3 : zR l3) (zl4 : zR l4) (zl5 : zR l5) (k : some (137438953473, (zM n (zWf b f g))) = some r) : k66_101 V ST d (zCl AL V ST ex_km d) (zRn AL V ST ex_km d kt_66) (zP [zf b 15, zf b l1, zf b l2, enc l3, enc l4, enc l5]) [] (zM n (zWf b f g)) = some r := by
  unfold k66_101
  exact zr_return.trans k
theorem zs_66_98 (h : zOk b n f) {l1 : Nat} {l2 : Nat} {l3 : Int} {l4 : Int} {l5 : Int} {s0 : Int} {s1 : Int} (zl1 : zI_fl l1) (zl2 : zI_fl l2) (zl3 : zR l3) (zl4 : zR l4) (zl5 : zR l5) (zs0 : zR s0) (zs1 : zR s1) (k : zTh (zCl AL V ST ex_km d 60 [zf b 15, enc s1, enc s0] (zM n (zWf b f g))) (zM n (zWf b f g)) [] (fun S M => k66_101 V ST d (zCl AL V ST ex_km d) (zRn AL V ST ex_km d kt_66) (zP [zf b 15, zf b l1, zf b l2, enc l3, enc l4, enc l5]) S M) = some r) : k66_98 V ST d (zCl AL V ST ex_km d) (zRn AL V ST ex_km d kt_66) (zP [zf b 15, zf b l1, zf b l2, enc l3, enc l4, enc l5]) [enc s0, enc s1, zf b 15] (zM n (zWf b f g)) = some r := by
  unfold k66_98
  refine zr_invV h [enc s0, enc s1] rfl (tk_stage rfl) (zA_cons (enc_l _) (zA_cons (enc_l _) zA_nil)) (zA_nil) (by decide) ?_
  exact k
theorem zs_66_91 (h : zOk b n f) {l1 : Nat} {l2 : Nat} {l3 : Int} {l4 : Int} {l5 : Int} (zl1 : zI_fl l1) (zl2 : zI_fl l2) (zl3 : zR l3) (zl4 : zR l4) (zl5 : zR l5) (k : zTh (zCl AL V ST ex_km d 19 [zf b l1] (zM n (zWf b f g))) (zM n (zWf b f g)) [enc 98, zf b 15] (fun S M => k66_98 V ST d (zCl AL V ST ex_km d) (zRn AL V ST ex_km d kt_66) (zP [zf b 15, zf b l1, zf b l2, enc l3, enc l4, enc l5]) S M) = some r) : k66_91 V ST d (zCl AL V ST ex_km d) (zRn AL V ST ex_km d kt_66) (zP [zf b 15, zf b l1, zf b l2, enc l3, enc l4, enc l5]) [] (zM n (zWf b f g)) = some r := by
  unfold k66_91
  refine (zr_aload (v := zf b 15) rfl (zf_tA h _)).trans ?_
  refine (zr_pshi 98 rfl).trans ?_
  refine (zr_aload (v := zf b l1) rfl (zf_tA h _)).trans ?_
  refine zr_invV h [] rfl (tk_fl zl1) (zA_nil) (zA_cons (enc_l _) (zA_cons (zf_l h _) zA_nil)) (by decide) ?_
  exact k
theorem zs_66_83 (h : zOk b n f) {l1 : Nat} {l2 : Nat} {l3 : Int} {l4 : Int} {l5 : Int} (zl1 : zI_fl l1) (zl2 : zI_fl l2) (zl3 : zR l3) (zl4 : zR l4) (zl5 : zR l5) (k : zTh (zCl AL V ST ex_km d 23 [zf b l1, zf b l2, enc l3, enc l4] (zM n (zWf b f g))) (zM n (zWf b f g)) [] (fun S M => k66_91 V ST d (zCl AL V ST ex_km d) (zRn AL V ST ex_km d kt_66) (zP [zf b 15, zf b l1, zf b l2, enc l3, enc l4, enc l5]) S M) = some r) : k66_83 V ST d (zCl AL V ST ex_km d) (zRn AL V ST ex_km d kt_66) (zP [zf b 15, zf b l1, zf b l2, enc l3, enc l4, enc l5]) [] (zM n (zWf b f g)) = some r := by
  unfold k66_83
  refine (zr_aload (v := zf b l1) rfl (zf_tA h _)).trans ?_
  refine (zr_aload (v := zf b l2) rfl (zf_tA h _)).trans ?_
  refine (zr_iload (v := enc l3) rfl (enc_lt _)).trans ?_
  refine (zr_iload (v := enc l4) rfl (enc_lt _)).trans ?_
  refine zr_invV h [enc l4, enc l3, zf b l2] rfl (tk_fl zl1) (zA_cons (enc_l _) (zA_cons (enc_l _) (zA_cons (zf_l h _) zA_nil))) (zA_nil) (by decide) ?_
  exact k
theorem zs_66_77 (h : zOk b n f) {l1 : Nat} {l2 : Nat} {l3 : Int} {l4 : Int} {l5 : Int} (zl1 : zI_fl l1) (zl2 : zI_fl l2) (zl3 : zR l3) (zl4 : zR l4) (zl5 : zR l5) (k : zRn AL V ST ex_km d kt_66 30 (zP [zf b 15, zf b l1, zf b l2, enc l3, enc l4, enc (nz (l5 + 1))]) [] (zM n (zWf b f g)) = some r) : k66_77 V ST d (zCl AL V ST ex_km d) (zRn AL V ST ex_km d kt_66) (zP [zf b 15, zf b l1, zf b l2, enc l3, enc l4, enc l5]) [] (zM n (zWf b f g)) = some r := by
  unfold k66_77
  refine (zr_iinc (w := enc l4) (x := l5) (i' := 1) (vs' := [zf b 15, zf b l1, zf b l2, enc l3, enc l4, enc (nz (l5 + 1))]) rfl (enc_c2 _) (Nat.lt_trans (enc_lt _) (by decide)) rfl rfl (by decide) rfl).trans ?_
  exact (zr_goto).trans k
theorem zs_66_67 (h : zOk b n f) {l1 : Nat} {l2 : Nat} {l3 : Int} {l4 : Int} {l5 : Int} {s0 : Int} {s1 : Int} (zl1 : zI_fl l1) (zl2 : zI_fl l2) (zl3 : zR l3) (zl4 : zR l4) (zl5 : zR l5) (zs0 : zR s0) (zs1 : zR s1) (k : (if s1 = s0 then zRn AL V ST ex_km d kt_66 77 (zP [zf b 15, zf b l1, zf b l2, enc l3, enc l4, enc l5]) [] (zM n (zWf b f g)) else some (137438953473, (zM n (zWf b f (upd g 15 6 112))))) = some r) : k66_67 V ST d (zCl AL V ST ex_km d) (zRn AL V ST ex_km d kt_66) (zP [zf b 15, zf b l1, zf b l2, enc l3, enc l4, enc l5]) [enc s0, enc s1] (zM n (zWf b f g)) = some r := by
  unfold k66_67
  by_cases c1 : s1 = s0
  · rw [if_pos c1] at k
    exact (zr_icmp_eq_t (zs1) (zs0) c1).trans k
  · rw [if_neg c1] at k
    refine (zr_icmp_eq_n (zs1) (zs0) c1).trans ?_
    refine (zr_aload (v := zf b 15) rfl (zf_tA h _)).trans ?_
    refine (zr_pshi 112 rfl).trans ?_
    refine (zr_pfc h (ti_stage_reason rfl) (by decide)).trans ?_
    exact zr_return.trans k
theorem zs_66_66 (h : zOk b n f) {l1 : Nat} {l2 : Nat} {l3 : Int} {l4 : Int} {l5 : Int} {s0 : Int} (zl1 : zI_fl l1) (zl2 : zI_fl l2) (zl3 : zR l3) (zl4 : zR l4) (zl5 : zR l5) (zs0 : zR s0) (k : k66_67 V ST d (zCl AL V ST ex_km d) (zRn AL V ST ex_km d kt_66) (zP [zf b 15, zf b l1, zf b l2, enc l3, enc l4, enc l5]) [enc 0, enc s0] (zM n (zWf b f g)) = some r) : k66_66 V ST d (zCl AL V ST ex_km d) (zRn AL V ST ex_km d kt_66) (zP [zf b 15, zf b l1, zf b l2, enc l3, enc l4, enc l5]) [enc s0] (zM n (zWf b f g)) = some r := by
  unfold k66_66
  refine (zr_pshi 0 rfl).trans ?_
  exact k
theorem zs_66_59 (h : zOk b n f) {l1 : Nat} {l2 : Nat} {l3 : Int} {l4 : Int} {l5 : Int} {s0 : Int} {s1 : Int} {s2 : Int} (zl1 : zI_fl l1) (zl2 : zI_fl l2) (zl3 : zR l3) (zl4 : zR l4) (zl5 : zR l5) (zs0 : zR s0) (zs1 : zR s1) (zs2 : zR s2) (k : (if s1 = s0 then zRn AL V ST ex_km d kt_66 67 (zP [zf b 15, zf b l1, zf b l2, enc l3, enc l4, enc l5]) [enc 1, enc s2] (zM n (zWf b f g)) else zRn AL V ST ex_km d kt_66 66 (zP [zf b 15, zf b l1, zf b l2, enc l3, enc l4, enc l5]) [enc s2] (zM n (zWf b f g))) = some r) : k66_59 V ST d (zCl AL V ST ex_km d) (zRn AL V ST ex_km d kt_66) (zP [zf b 15, zf b l1, zf b l2, enc l3, enc l4, enc l5]) [enc s0, enc s1, enc s2] (zM n (zWf b f g)) = some r := by
  unfold k66_59
  by_cases c1 : s1 = s0
  · rw [if_pos c1] at k
    refine (zr_icmp_ne_n (zs1) (zs0) c1).trans ?_
    refine (zr_pshi 1 rfl).trans ?_
    exact (zr_goto).trans k
  · rw [if_neg c1] at k
    exact (zr_icmp_ne_t (zs1) (zs0) c1).trans k
theorem zs_66_58 (h : zOk b n f) {l1 : Nat} {l2 : Nat} {l3 : Int} {l4 : Int} {l5 : Int} {s0 : Int} {s1 : Int} (zl1 : zI_fl l1) (zl2 : zI_fl l2) (zl3 : zR l3) (zl4 : zR l4) (zl5 : zR l5) (zs0 : zR s0) (zs1 : zR s1) (k : k66_59 V ST d (zCl AL V ST ex_km d) (zRn AL V ST ex_km d kt_66) (zP [zf b 15, zf b l1, zf b l2, enc l3, enc l4, enc l5]) [enc 0, enc s0, enc s1] (zM n (zWf b f g)) = some r) : k66_58 V ST d (zCl AL V ST ex_km d) (zRn AL V ST ex_km d kt_66) (zP [zf b 15, zf b l1, zf b l2, enc l3, enc l4, enc l5]) [enc s0, enc s1] (zM n (zWf b f g)) = some r := by
  unfold k66_58
  refine (zr_pshi 0 rfl).trans ?_
  exact k
theorem zs_66_30 (h : zOk b n f) {l1 : Nat} {l2 : Nat} {l3 : Int} {l4 : Int} {l5 : Int} (zl1 : zI_fl l1) (zl2 : zI_fl l2) (zl3 : zR l3) (zl4 : zR l4) (zl5 : zR l5) (k : (if l5 < nz (g l2 14) then (if 0 ≤ l5 ∧ l5 < 16 then (if nz (Int.tmod (nz (g (l2 + 3) l5)) 2) = 0 then zRn AL V ST ex_km d kt_66 58 (zP [zf b 15, zf b l1, zf b l2, enc l3, enc l4, enc l5]) [enc l3, enc l4] (zM n (zWf b f g)) else zRn AL V ST ex_km d kt_66 59 (zP [zf b 15, zf b l1, zf b l2, enc l3, enc l4, enc l5]) [enc 1, enc l3, enc l4] (zM n (zWf b f g))) else none) else zRn AL V ST ex_km d kt_66 83 (zP [zf b 15, zf b l1, zf b l2, enc l3, enc l4, enc l5]) [] (zM n (zWf b f g))) = some r) : k66_30 V ST d (zCl AL V ST ex_km d) (zRn AL V ST ex_km d kt_66) (zP [zf b 15, zf b l1, zf b l2, enc l3, enc l4, enc l5]) [] (zM n (zWf b f g)) = some r := by
  unfold k66_30
  refine (zr_iload (v := enc l5) rfl (enc_lt _)).trans ?_
  refine (zr_aload (v := zf b l2) rfl (zf_tA h _)).trans ?_
  refine (zr_gfi h (ti_fl_count zl2)).trans ?_
  by_cases c1 : l5 < nz (g l2 14)
  · rw [if_pos c1] at k
    refine (zr_icmp_ge_n (zl5) (nz_R _) c1).trans ?_
    refine (zr_iload (v := enc l4) rfl (enc_lt _)).trans ?_
    refine (zr_iload (v := enc l3) rfl (enc_lt _)).trans ?_
    refine (zr_aload (v := zf b l2) rfl (zf_tA h _)).trans ?_
    refine (zr_gfr h (tr_fl_f zl2)).trans ?_
    refine (zr_iload (v := enc l5) rfl (enc_lt _)).trans ?_
    by_cases c2 : 0 ≤ l5 ∧ l5 < 16
    · rw [if_pos c2] at k
      refine (zr_iald h (ta_fl_f zl2) c2.1 (by have := c2.2; omega)).trans ?_
      refine (zr_pshi 2 rfl).trans ?_
      refine (zr_rem (nz_R _) ((by unfold zR; omega)) (by decide)).trans ?_
      by_cases c3 : nz (Int.tmod (nz (g (l2 + 3) l5)) 2) = 0
      · rw [if_pos c3] at k
        exact (zr_if_eq_t (nz_R _) c3).trans k
      · rw [if_neg c3] at k
        refine (zr_if_eq_n (nz_R _) c3).trans ?_
        refine (zr_pshi 1 rfl).trans ?_
        exact (zr_goto).trans k
    · rw [if_neg c2] at k; cases k
  · rw [if_neg c1] at k
    exact (zr_icmp_ge_t (zl5) (nz_R _) (Int.not_lt.mp c1)).trans k
theorem zs_66_25 (h : zOk b n f) {l1 : Nat} {l2 : Nat} {l3 : Int} {s0 : Int} (zl1 : zI_fl l1) (zl2 : zI_fl l2) (zl3 : zR l3) (zs0 : zR s0) (k : k66_30 V ST d (zCl AL V ST ex_km d) (zRn AL V ST ex_km d kt_66) (zP [zf b 15, zf b l1, zf b l2, enc l3, enc s0, enc 0]) [] (zM n (zWf b f g)) = some r) : k66_25 V ST d (zCl AL V ST ex_km d) (zRn AL V ST ex_km d kt_66) (zP [zf b 15, zf b l1, zf b l2, enc l3, 137438953472, 137438953472]) [enc s0] (zM n (zWf b f g)) = some r := by
  unfold k66_25
  refine (zr_istore (w := enc l3) (vs' := [zf b 15, zf b l1, zf b l2, enc l3, enc s0, 137438953472]) rfl (enc_c2 _) (Nat.lt_trans (enc_lt _) (by decide)) (by decide) rfl (enc_lt _)).trans ?_
  refine (zr_pshi 0 rfl).trans ?_
  refine (zr_istore (w := enc s0) (vs' := [zf b 15, zf b l1, zf b l2, enc l3, enc s0, enc 0]) rfl (enc_c2 _) (Nat.lt_trans (enc_lt _) (by decide)) (by decide) rfl (enc_lt _)).trans ?_
  exact k
theorem zs_66_24 (h : zOk b n f) {l1 : Nat} {l2 : Nat} {l3 : Int} (zl1 : zI_fl l1) (zl2 : zI_fl l2) (zl3 : zR l3) (k : k66_25 V ST d (zCl AL V ST ex_km d) (zRn AL V ST ex_km d kt_66) (zP [zf b 15, zf b l1, zf b l2, enc l3, 137438953472, 137438953472]) [enc 0] (zM n (zWf b f g)) = some r) : k66_24 V ST d (zCl AL V ST ex_km d) (zRn AL V ST ex_km d kt_66) (zP [zf b 15, zf b l1, zf b l2, enc l3, 137438953472, 137438953472]) [] (zM n (zWf b f g)) = some r := by
  unfold k66_24
  refine (zr_pshi 0 rfl).trans ?_
  exact k
theorem zs_66_17 (h : zOk b n f) {l1 : Nat} {l2 : Nat} {l3 : Int} {s0 : Int} {s1 : Int} (zl1 : zI_fl l1) (zl2 : zI_fl l2) (zl3 : zR l3) (zs0 : zR s0) (zs1 : zR s1) (k : (if s1 = s0 then zRn AL V ST ex_km d kt_66 25 (zP [zf b 15, zf b l1, zf b l2, enc l3, 137438953472, 137438953472]) [enc 1] (zM n (zWf b f g)) else zRn AL V ST ex_km d kt_66 24 (zP [zf b 15, zf b l1, zf b l2, enc l3, 137438953472, 137438953472]) [] (zM n (zWf b f g))) = some r) : k66_17 V ST d (zCl AL V ST ex_km d) (zRn AL V ST ex_km d kt_66) (zP [zf b 15, zf b l1, zf b l2, enc l3, 137438953472, 137438953472]) [enc s0, enc s1] (zM n (zWf b f g)) = some r := by
  unfold k66_17
  by_cases c1 : s1 = s0
  · rw [if_pos c1] at k
    refine (zr_icmp_ne_n (zs1) (zs0) c1).trans ?_
    refine (zr_pshi 1 rfl).trans ?_
    exact (zr_goto).trans k
  · rw [if_neg c1] at k
    exact (zr_icmp_ne_t (zs1) (zs0) c1).trans k
theorem zs_66_16 (h : zOk b n f) {l1 : Nat} {l2 : Nat} {l3 : Int} {s0 : Int} (zl1 : zI_fl l1) (zl2 : zI_fl l2) (zl3 : zR l3) (zs0 : zR s0) (k : k66_17 V ST d (zCl AL V ST ex_km d) (zRn AL V ST ex_km d kt_66) (zP [zf b 15, zf b l1, zf b l2, enc l3, 137438953472, 137438953472]) [enc 0, enc s0] (zM n (zWf b f g)) = some r) : k66_16 V ST d (zCl AL V ST ex_km d) (zRn AL V ST ex_km d kt_66) (zP [zf b 15, zf b l1, zf b l2, enc l3, 137438953472, 137438953472]) [enc s0] (zM n (zWf b f g)) = some r := by
  unfold k66_16
  refine (zr_pshi 0 rfl).trans ?_
  exact k
theorem zs_66_0 (h : zOk b n f) {l1 : Nat} {l2 : Nat} {l3 : Int} (zl1 : zI_fl l1) (zl2 : zI_fl l2) (zl3 : zR l3) (k : (if nz (Int.tmod (nz (g (l2 + 3) 0)) 2) = 0 then zRn AL V ST ex_km d kt_66 16 (zP [zf b 15, zf b l1, zf b l2, enc l3, 137438953472, 137438953472]) [enc l3] (zM n (zWf b f g)) else zRn AL V ST ex_km d kt_66 17 (zP [zf b 15, zf b l1, zf b l2, enc l3, 137438953472, 137438953472]) [enc 1, enc l3] (zM n (zWf b f g))) = some r) : k66_0 V ST d (zCl AL V ST ex_km d) (zRn AL V ST ex_km d kt_66) (zP [zf b 15, zf b l1, zf b l2, enc l3, 137438953472, 137438953472]) [] (zM n (zWf b f g)) = some r := by
  unfold k66_0
  refine (zr_iload (v := enc l3) rfl (enc_lt _)).trans ?_
  refine (zr_aload (v := zf b l2) rfl (zf_tA h _)).trans ?_
  refine (zr_gfr h (tr_fl_f zl2)).trans ?_
  refine (zr_pshi 0 rfl).trans ?_
  refine (zr_iald h (ta_fl_f zl2) (by decide) (by decide)).trans ?_
  refine (zr_pshi 2 rfl).trans ?_
  refine (zr_rem (nz_R _) ((by unfold zR; omega)) (by decide)).trans ?_
  by_cases c1 : nz (Int.tmod (nz (g (l2 + 3) 0)) 2) = 0
  · rw [if_pos c1] at k
    exact (zr_if_eq_t (nz_R _) c1).trans k
  · rw [if_neg c1] at k
    refine (zr_if_eq_n (nz_R _) c1).trans ?_
    refine (zr_pshi 1 rfl).trans ?_
    exact (zr_goto).trans k
theorem zs_68_0 (h : zOk b n f) {l1 : Int} {l2 : Int} {l3 : Int} (zl1 : zR l1) (zl2 : zR l2) (zl3 : zR l3) (k : (if l2 = 0 ∨ l2 = 1 then (if l3 = 0 ∨ l3 = 1 then some (137438953473, (zM n (zWf b f (upd (upd (upd g 61 9 l1) 61 10 l2) 61 11 l3)))) else none) else none) = some r) : k68_0 V ST d (zCl AL V ST ex_km d) (zRn AL V ST ex_km d kt_68) (zP [zf b 61, enc l1, enc l2, enc l3]) [] (zM n (zWf b f g)) = some r := by
  unfold k68_0
  refine (zr_aload (v := zf b 61) rfl (zf_tA h _)).trans ?_
  refine (zr_iload (v := enc l1) rfl (enc_lt _)).trans ?_
  refine (zr_pfi h (ti_st_spacing rfl)).trans ?_
  refine (zr_aload (v := zf b 61) rfl (zf_tA h _)).trans ?_
  refine (zr_iload (v := enc l2) rfl (enc_lt _)).trans ?_
  by_cases c1 : l2 = 0 ∨ l2 = 1
  · rw [if_pos c1] at k
    refine (zr_pfb h (ti_st_isPartedByX rfl) c1).trans ?_
    refine (zr_aload (v := zf b 61) rfl (zf_tA h _)).trans ?_
    refine (zr_iload (v := enc l3) rfl (enc_lt _)).trans ?_
    by_cases c2 : l3 = 0 ∨ l3 = 1
    · rw [if_pos c2] at k
      refine (zr_pfb h (ti_st_isPartedByY rfl) c2).trans ?_
      exact zr_return.trans k
    · rw [if_neg c2] at k; cases k
  · rw [if_neg c1] at k; cases k
theorem zs_69_163 (h : zOk b n f) {l1 : Nat} {l2 : Int} {l3 : Int} {l4 : Int} {l5 : Int} {l6 : Nat} {l7 : Nat} {s0 : Int} (zl1 : zI_fl l1) (zl2 : zR l2) (zl3 : zR l3) (zl4 : zR l4) (zl5 : zR l5) (zl6 : ex_c2 l6 = false ∧ l6 < 1099511627776) (zl7 : ex_c2 l7 = false ∧ l7 < 1099511627776) (zs0 : zR s0) (k : (if s0 = 0 ∨ s0 = 1 then some (enc s0, (zM n (zWf b f g))) else none) = some r) : k69_163 V ST d (zCl AL V ST ex_km d) (zRn AL V ST ex_km d kt_69) (zP [zf b 61, zf b l1, enc l2, enc l3, enc l4, enc l5, l6, l7]) [enc s0] (zM n (zWf b f g)) = some r := by
  unfold k69_163
  by_cases c1 : s0 = 0 ∨ s0 = 1
  · rw [if_pos c1] at k
    exact (zr_breturn c1).trans k
  · rw [if_neg c1] at k; cases k
theorem zs_69_162 (h : zOk b n f) {l1 : Nat} {l2 : Int} {l3 : Int} {l4 : Int} {l5 : Int} {l6 : Nat} {l7 : Nat} (zl1 : zI_fl l1) (zl2 : zR l2) (zl3 : zR l3) (zl4 : zR l4) (zl5 : zR l5) (zl6 : ex_c2 l6 = false ∧ l6 < 1099511627776) (zl7 : ex_c2 l7 = false ∧ l7 < 1099511627776) (k : k69_163 V ST d (zCl AL V ST ex_km d) (zRn AL V ST ex_km d kt_69) (zP [zf b 61, zf b l1, enc l2, enc l3, enc l4, enc l5, l6, l7]) [enc 0] (zM n (zWf b f g)) = some r) : k69_162 V ST d (zCl AL V ST ex_km d) (zRn AL V ST ex_km d kt_69) (zP [zf b 61, zf b l1, enc l2, enc l3, enc l4, enc l5, l6, l7]) [] (zM n (zWf b f g)) = some r := by
  unfold k69_162
  refine (zr_pshi 0 rfl).trans ?_
  exact k
theorem zs_69_149 (h : zOk b n f) {l1 : Nat} {l2 : Int} {l3 : Int} {l4 : Int} {l5 : Int} {l6 : Nat} {l7 : Nat} (zl1 : zI_fl l1) (zl2 : zR l2) (zl3 : zR l3) (zl4 : zR l4) (zl5 : zR l5) (zl6 : ex_c2 l6 = false ∧ l6 < 1099511627776) (zl7 : ex_c2 l7 = false ∧ l7 < 1099511627776) (k : (if l3 = 0 then zRn AL V ST ex_km d kt_69 162 (zP [zf b 61, zf b l1, enc l2, enc l3, enc l4, enc l5, l6, l7]) [] (zM n (zWf b f g)) else (if l4 = 0 then zRn AL V ST ex_km d kt_69 163 (zP [zf b 61, zf b l1, enc l2, enc l3, enc l4, enc l5, l6, l7]) [enc 1] (zM n (zWf b f g)) else zRn AL V ST ex_km d kt_69 162 (zP [zf b 61, zf b l1, enc l2, enc l3, enc l4, enc l5, l6, l7]) [] (zM n (zWf b f g)))) = some r) : k69_149 V ST d (zCl AL V ST ex_km d) (zRn AL V ST ex_km d kt_69) (zP [zf b 61, zf b l1, enc l2, enc l3, enc l4, enc l5, l6, l7]) [] (zM n (zWf b f g)) = some r := by
  unfold k69_149
  refine (zr_iload (v := enc l3) rfl (enc_lt _)).trans ?_
  by_cases c1 : l3 = 0
  · rw [if_pos c1] at k
    exact (zr_if_eq_t (zl3) c1).trans k
  · rw [if_neg c1] at k
    refine (zr_if_eq_n (zl3) c1).trans ?_
    refine (zr_iload (v := enc l4) rfl (enc_lt _)).trans ?_
    by_cases c2 : l4 = 0
    · rw [if_pos c2] at k
      refine (zr_if_ne_n (zl4) c2).trans ?_
      refine (zr_pshi 1 rfl).trans ?_
      exact (zr_goto).trans k
    · rw [if_neg c2] at k
      exact (zr_if_ne_t (zl4) c2).trans k
theorem zs_69_142 (h : zOk b n f) {l1 : Nat} {l2 : Int} {l3 : Int} {l4 : Int} {l5 : Int} {l6 : Int} {l7 : Int} {s0 : Int} (zl1 : zI_fl l1) (zl2 : zR l2) (zl3 : zR l3) (zl4 : zR l4) (zl5 : zR l5) (zl6 : zR l6) (zl7 : zR l7) (zs0 : zR s0) (k : zRn AL V ST ex_km d kt_69 8 (zP [zf b 61, zf b l1, enc l2, enc s0, enc l4, enc (nz (l5 + 1)), enc l6, enc l7]) [] (zM n (zWf b f g)) = some r) : k69_142 V ST d (zCl AL V ST ex_km d) (zRn AL V ST ex_km d kt_69) (zP [zf b 61, zf b l1, enc l2, enc l3, enc l4, enc l5, enc l6, enc l7]) [enc s0] (zM n (zWf b f g)) = some r := by
  unfold k69_142
  refine (zr_istore (w := enc l2) (vs' := [zf b 61, zf b l1, enc l2, enc s0, enc l4, enc l5, enc l6, enc l7]) rfl (enc_c2 _) (Nat.lt_trans (enc_lt _) (by decide)) (by decide) rfl (enc_lt _)).trans ?_
  refine (zr_iinc (w := enc l4) (x := l5) (i' := 1) (vs' := [zf b 61, zf b l1, enc l2, enc s0, enc l4, enc (nz (l5 + 1)), enc l6, enc l7]) rfl (enc_c2 _) (Nat.lt_trans (enc_lt _) (by decide)) rfl rfl (by decide) rfl).trans ?_
  exact (zr_goto).trans k
theorem zs_69_141 (h : zOk b n f) {l1 : Nat} {l2 : Int} {l3 : Int} {l4 : Int} {l5 : Int} {l6 : Int} {l7 : Int} (zl1 : zI_fl l1) (zl2 : zR l2) (zl3 : zR l3) (zl4 : zR l4) (zl5 : zR l5) (zl6 : zR l6) (zl7 : zR l7) (k : k69_142 V ST d (zCl AL V ST ex_km d) (zRn AL V ST ex_km d kt_69) (zP [zf b 61, zf b l1, enc l2, enc l3, enc l4, enc l5, enc l6, enc l7]) [enc 0] (zM n (zWf b f g)) = some r) : k69_141 V ST d (zCl AL V ST ex_km d) (zRn AL V ST ex_km d kt_69) (zP [zf b 61, zf b l1, enc l2, enc l3, enc l4, enc l5, enc l6, enc l7]) [] (zM n (zWf b f g)) = some r := by
  unfold k69_141
  refine (zr_pshi 0 rfl).trans ?_
  exact k
theorem zs_69_137 (h : zOk b n f) {l1 : Nat} {l2 : Int} {l3 : Int} {l4 : Int} {l5 : Int} {l6 : Int} {l7 : Int} (zl1 : zI_fl l1) (zl2 : zR l2) (zl3 : zR l3) (zl4 : zR l4) (zl5 : zR l5) (zl6 : zR l6) (zl7 : zR l7) (k : zRn AL V ST ex_km d kt_69 142 (zP [zf b 61, zf b l1, enc l2, enc l3, enc l4, enc l5, enc l6, enc l7]) [enc 1] (zM n (zWf b f g)) = some r) : k69_137 V ST d (zCl AL V ST ex_km d) (zRn AL V ST ex_km d kt_69) (zP [zf b 61, zf b l1, enc l2, enc l3, enc l4, enc l5, enc l6, enc l7]) [] (zM n (zWf b f g)) = some r := by
  unfold k69_137
  refine (zr_pshi 1 rfl).trans ?_
  exact (zr_goto).trans k
theorem zs_69_122 (h : zOk b n f) {l1 : Nat} {l2 : Int} {l3 : Int} {l4 : Int} {l5 : Int} {l6 : Int} {l7 : Int} {s0 : Int} {s1 : Int} {s2 : Nat} (zl1 : zI_fl l1) (zl2 : zR l2) (zl3 : zR l3) (zl4 : zR l4) (zl5 : zR l5) (zl6 : zR l6) (zl7 : zR l7) (zs0 : zR s0) (zs1 : zR s1) (zs2 : zAr s2 65 16) (k : (if 0 ≤ s1 ∧ s1 < 16 then (if s0 = 0 ∨ s0 = 1 then (if l3 = 0 then (if 0 ≤ l5 ∧ l5 < 16 then (if nz ((upd g s2 s1 s0) 62 l5) = 0 then zRn AL V ST ex_km d kt_69 141 (zP [zf b 61, zf b l1, enc l2, enc l3, enc l4, enc l5, enc l6, enc l7]) [] (zM n (zWf b f (upd g s2 s1 s0))) else k69_137 V ST d (zCl AL V ST ex_km d) (zRn AL V ST ex_km d kt_69) (zP [zf b 61, zf b l1, enc l2, enc l3, enc l4, enc l5, enc l6, enc l7]) [] (zM n (zWf b f (upd g s2 s1 s0)))) else none) else zRn AL V ST ex_km d kt_69 137 (zP [zf b 61, zf b l1, enc l2, enc l3, enc l4, enc l5, enc l6, enc l7]) [] (zM n (zWf b f (upd g s2 s1 s0)))) else none) else none) = some r) : k69_122 V ST d (zCl AL V ST ex_km d) (zRn AL V ST ex_km d kt_69) (zP [zf b 61, zf b l1, enc l2, enc l3, enc l4, enc l5, enc l6, enc l7]) [enc s0, enc s1, zf b s2] (zM n (zWf b f g)) = some r := by
  unfold k69_122
  by_cases c1 : 0 ≤ s1 ∧ s1 < 16
  · rw [if_pos c1] at k
    by_cases c2 : s0 = 0 ∨ s0 = 1
    · rw [if_pos c2] at k
      refine (zr_bast h zs2 c1.1 (by have := c1.2; omega) c2).trans ?_
      refine (zr_iload (v := enc l3) rfl (enc_lt _)).trans ?_
      by_cases c3 : l3 = 0
      · rw [if_pos c3] at k
        refine (zr_if_ne_n (zl3) c3).trans ?_
        refine (zr_aload (v := zf b 61) rfl (zf_tA h _)).trans ?_
        refine (zr_gfr h (tr_st_told rfl)).trans ?_
        refine (zr_iload (v := enc l5) rfl (enc_lt _)).trans ?_
        by_cases c4 : 0 ≤ l5 ∧ l5 < 16
        · rw [if_pos c4] at k
          refine (zr_bald h (ta_st_told rfl) c4.1 (by have := c4.2; omega)).trans ?_
          by_cases c5 : nz ((upd g s2 s1 s0) 62 l5) = 0
          · rw [if_pos c5] at k
            exact (zr_if_eq_t (nz_R _) c5).trans k
          · rw [if_neg c5] at k
            refine (zr_if_eq_n (nz_R _) c5).trans ?_
            exact k
        · rw [if_neg c4] at k; cases k
      · rw [if_neg c3] at k
        exact (zr_if_ne_t (zl3) c3).trans k
    · rw [if_neg c2] at k; cases k
  · rw [if_neg c1] at k; cases k
theorem zs_69_121 (h : zOk b n f) {l1 : Nat} {l2 : Int} {l3 : Int} {l4 : Int} {l5 : Int} {l6 : Int} {l7 : Int} {s0 : Int} {s1 : Nat} (zl1 : zI_fl l1) (zl2 : zR l2) (zl3 : zR l3) (zl4 : zR l4) (zl5 : zR l5) (zl6 : zR l6) (zl7 : zR l7) (zs0 : zR s0) (zs1 : zAr s1 65 16) (k : k69_122 V ST d (zCl AL V ST ex_km d) (zRn AL V ST ex_km d kt_69) (zP [zf b 61, zf b l1, enc l2, enc l3, enc l4, enc l5, enc l6, enc l7]) [enc 0, enc s0, zf b s1] (zM n (zWf b f g)) = some r) : k69_121 V ST d (zCl AL V ST ex_km d) (zRn AL V ST ex_km d kt_69) (zP [zf b 61, zf b l1, enc l2, enc l3, enc l4, enc l5, enc l6, enc l7]) [enc s0, zf b s1] (zM n (zWf b f g)) = some r := by
  unfold k69_121
  refine (zr_pshi 0 rfl).trans ?_
  exact k
theorem zs_69_114 (h : zOk b n f) {l1 : Nat} {l2 : Int} {l3 : Int} {l4 : Int} {l5 : Int} {l6 : Int} {l7 : Int} {s0 : Int} {s1 : Int} {s2 : Int} {s3 : Nat} (zl1 : zI_fl l1) (zl2 : zR l2) (zl3 : zR l3) (zl4 : zR l4) (zl5 : zR l5) (zl6 : zR l6) (zl7 : zR l7) (zs0 : zR s0) (zs1 : zR s1) (zs2 : zR s2) (zs3 : zAr s3 65 16) (k : (if s1 = s0 then zRn AL V ST ex_km d kt_69 122 (zP [zf b 61, zf b l1, enc l2, enc l3, enc l4, enc l5, enc l6, enc l7]) [enc 1, enc s2, zf b s3] (zM n (zWf b f g)) else zRn AL V ST ex_km d kt_69 121 (zP [zf b 61, zf b l1, enc l2, enc l3, enc l4, enc l5, enc l6, enc l7]) [enc s2, zf b s3] (zM n (zWf b f g))) = some r) : k69_114 V ST d (zCl AL V ST ex_km d) (zRn AL V ST ex_km d kt_69) (zP [zf b 61, zf b l1, enc l2, enc l3, enc l4, enc l5, enc l6, enc l7]) [enc s0, enc s1, enc s2, zf b s3] (zM n (zWf b f g)) = some r := by
  unfold k69_114
  by_cases c1 : s1 = s0
  · rw [if_pos c1] at k
    refine (zr_icmp_ne_n (zs1) (zs0) c1).trans ?_
    refine (zr_pshi 1 rfl).trans ?_
    exact (zr_goto).trans k
  · rw [if_neg c1] at k
    exact (zr_icmp_ne_t (zs1) (zs0) c1).trans k
theorem zs_69_113 (h : zOk b n f) {l1 : Nat} {l2 : Int} {l3 : Int} {l4 : Int} {l5 : Int} {l6 : Int} {l7 : Int} {s0 : Int} {s1 : Int} {s2 : Nat} (zl1 : zI_fl l1) (zl2 : zR l2) (zl3 : zR l3) (zl4 : zR l4) (zl5 : zR l5) (zl6 : zR l6) (zl7 : zR l7) (zs0 : zR s0) (zs1 : zR s1) (zs2 : zAr s2 65 16) (k : k69_114 V ST d (zCl AL V ST ex_km d) (zRn AL V ST ex_km d kt_69) (zP [zf b 61, zf b l1, enc l2, enc l3, enc l4, enc l5, enc l6, enc l7]) [enc 0, enc s0, enc s1, zf b s2] (zM n (zWf b f g)) = some r) : k69_113 V ST d (zCl AL V ST ex_km d) (zRn AL V ST ex_km d kt_69) (zP [zf b 61, zf b l1, enc l2, enc l3, enc l4, enc l5, enc l6, enc l7]) [enc s0, enc s1, zf b s2] (zM n (zWf b f g)) = some r := by
  unfold k69_113
  refine (zr_pshi 0 rfl).trans ?_
  exact k
theorem zs_69_104 (h : zOk b n f) {l1 : Nat} {l2 : Int} {l3 : Int} {l4 : Int} {l5 : Int} {l6 : Int} {l7 : Int} {s0 : Int} {s1 : Int} {s2 : Nat} (zl1 : zI_fl l1) (zl2 : zR l2) (zl3 : zR l3) (zl4 : zR l4) (zl5 : zR l5) (zl6 : zR l6) (zl7 : zR l7) (zs0 : zR s0) (zs1 : zR s1) (zs2 : zAr s2 65 16) (k : (if l2 = 5 then zRn AL V ST ex_km d kt_69 114 (zP [zf b 61, zf b l1, enc l2, enc l3, enc l4, enc l5, enc l6, enc l7]) [enc 1, enc s0, enc s1, zf b s2] (zM n (zWf b f g)) else zRn AL V ST ex_km d kt_69 113 (zP [zf b 61, zf b l1, enc l2, enc l3, enc l4, enc l5, enc l6, enc l7]) [enc s0, enc s1, zf b s2] (zM n (zWf b f g))) = some r) : k69_104 V ST d (zCl AL V ST ex_km d) (zRn AL V ST ex_km d kt_69) (zP [zf b 61, zf b l1, enc l2, enc l3, enc l4, enc l5, enc l6, enc l7]) [enc s0, enc s1, zf b s2] (zM n (zWf b f g)) = some r := by
  unfold k69_104
  refine (zr_iload (v := enc l2) rfl (enc_lt _)).trans ?_
  refine (zr_pshi 5 rfl).trans ?_
  by_cases c1 : l2 = 5
  · rw [if_pos c1] at k
    refine (zr_icmp_ne_n (zl2) ((by unfold zR; omega)) c1).trans ?_
    refine (zr_pshi 1 rfl).trans ?_
    exact (zr_goto).trans k
  · rw [if_neg c1] at k
    exact (zr_icmp_ne_t (zl2) ((by unfold zR; omega)) c1).trans k
theorem zs_69_103 (h : zOk b n f) {l1 : Nat} {l2 : Int} {l3 : Int} {l4 : Int} {l5 : Int} {l6 : Int} {l7 : Int} {s0 : Int} {s1 : Nat} (zl1 : zI_fl l1) (zl2 : zR l2) (zl3 : zR l3) (zl4 : zR l4) (zl5 : zR l5) (zl6 : zR l6) (zl7 : zR l7) (zs0 : zR s0) (zs1 : zAr s1 65 16) (k : k69_104 V ST d (zCl AL V ST ex_km d) (zRn AL V ST ex_km d kt_69) (zP [zf b 61, zf b l1, enc l2, enc l3, enc l4, enc l5, enc l6, enc l7]) [enc 0, enc s0, zf b s1] (zM n (zWf b f g)) = some r) : k69_103 V ST d (zCl AL V ST ex_km d) (zRn AL V ST ex_km d kt_69) (zP [zf b 61, zf b l1, enc l2, enc l3, enc l4, enc l5, enc l6, enc l7]) [enc s0, zf b s1] (zM n (zWf b f g)) = some r := by
  unfold k69_103
  refine (zr_pshi 0 rfl).trans ?_
  exact k
theorem zs_69_94 (h : zOk b n f) {l1 : Nat} {l2 : Int} {l3 : Int} {l4 : Int} {l5 : Int} {l6 : Int} {l7 : Int} {s0 : Int} {s1 : Nat} (zl1 : zI_fl l1) (zl2 : zR l2) (zl3 : zR l3) (zl4 : zR l4) (zl5 : zR l5) (zl6 : zR l6) (zl7 : zR l7) (zs0 : zR s0) (zs1 : zAr s1 65 16) (k : (if 0 < l6 then zRn AL V ST ex_km d kt_69 104 (zP [zf b 61, zf b l1, enc l2, enc l3, enc l4, enc l5, enc l6, enc l7]) [enc 1, enc s0, zf b s1] (zM n (zWf b f g)) else zRn AL V ST ex_km d kt_69 103 (zP [zf b 61, zf b l1, enc l2, enc l3, enc l4, enc l5, enc l6, enc l7]) [enc s0, zf b s1] (zM n (zWf b f g))) = some r) : k69_94 V ST d (zCl AL V ST ex_km d) (zRn AL V ST ex_km d kt_69) (zP [zf b 61, zf b l1, enc l2, enc l3, enc l4, enc l5, enc l6, enc l7]) [enc s0, zf b s1] (zM n (zWf b f g)) = some r := by
  unfold k69_94
  refine (zr_iload (v := enc l6) rfl (enc_lt _)).trans ?_
  by_cases c1 : 0 < l6
  · rw [if_pos c1] at k
    refine (zr_if_le_n (zl6) c1).trans ?_
    refine (zr_pshi 1 rfl).trans ?_
    exact (zr_goto).trans k
  · rw [if_neg c1] at k
    exact (zr_if_le_t (zl6) (Int.not_lt.mp c1)).trans k
theorem zs_69_76 (h : zOk b n f) {l1 : Nat} {l2 : Int} {l3 : Int} {l4 : Int} {l5 : Int} {l6 : Int} {l7 : Nat} {s0 : Int} (zl1 : zI_fl l1) (zl2 : zR l2) (zl3 : zR l3) (zl4 : zR l4) (zl5 : zR l5) (zl6 : zR l6) (zl7 : ex_c2 l7 = false ∧ l7 < 1099511627776) (zs0 : zR s0) (k : (if l2 < 5 then zRn AL V ST ex_km d kt_69 122 (zP [zf b 61, zf b l1, enc l2, enc l3, enc l4, enc l5, enc l6, enc s0]) [enc s0, enc l5, zf b 62] (zM n (zWf b f g)) else zRn AL V ST ex_km d kt_69 94 (zP [zf b 61, zf b l1, enc l2, enc l3, enc l4, enc l5, enc l6, enc s0]) [enc l5, zf b 62] (zM n (zWf b f g))) = some r) : k69_76 V ST d (zCl AL V ST ex_km d) (zRn AL V ST ex_km d kt_69) (zP [zf b 61, zf b l1, enc l2, enc l3, enc l4, enc l5, enc l6, l7]) [enc s0] (zM n (zWf b f g)) = some r := by
  unfold k69_76
  refine (zr_istore (w := enc l6) (vs' := [zf b 61, zf b l1, enc l2, enc l3, enc l4, enc l5, enc l6, enc s0]) rfl (enc_c2 _) (Nat.lt_trans (enc_lt _) (by decide)) (by decide) rfl (enc_lt _)).trans ?_
  refine (zr_aload (v := zf b 61) rfl (zf_tA h _)).trans ?_
  refine (zr_gfr h (tr_st_told rfl)).trans ?_
  refine (zr_iload (v := enc l5) rfl (enc_lt _)).trans ?_
  refine (zr_iload (v := enc l2) rfl (enc_lt _)).trans ?_
  refine (zr_pshi 5 rfl).trans ?_
  by_cases c1 : l2 < 5
  · rw [if_pos c1] at k
    refine (zr_icmp_ge_n (zl2) ((by unfold zR; omega)) c1).trans ?_
    refine (zr_iload (v := enc s0) rfl (enc_lt _)).trans ?_
    exact (zr_goto).trans k
  · rw [if_neg c1] at k
    exact (zr_icmp_ge_t (zl2) ((by unfold zR; omega)) (Int.not_lt.mp c1)).trans k
theorem zs_69_75 (h : zOk b n f) {l1 : Nat} {l2 : Int} {l3 : Int} {l4 : Int} {l5 : Int} {l6 : Int} {l7 : Nat} (zl1 : zI_fl l1) (zl2 : zR l2) (zl3 : zR l3) (zl4 : zR l4) (zl5 : zR l5) (zl6 : zR l6) (zl7 : ex_c2 l7 = false ∧ l7 < 1099511627776) (k : k69_76 V ST d (zCl AL V ST ex_km d) (zRn AL V ST ex_km d kt_69) (zP [zf b 61, zf b l1, enc l2, enc l3, enc l4, enc l5, enc l6, l7]) [enc 0] (zM n (zWf b f g)) = some r) : k69_75 V ST d (zCl AL V ST ex_km d) (zRn AL V ST ex_km d kt_69) (zP [zf b 61, zf b l1, enc l2, enc l3, enc l4, enc l5, enc l6, l7]) [] (zM n (zWf b f g)) = some r := by
  unfold k69_75
  refine (zr_pshi 0 rfl).trans ?_
  exact k
theorem zs_69_71 (h : zOk b n f) {l1 : Nat} {l2 : Int} {l3 : Int} {l4 : Int} {l5 : Int} {l6 : Int} {l7 : Nat} (zl1 : zI_fl l1) (zl2 : zR l2) (zl3 : zR l3) (zl4 : zR l4) (zl5 : zR l5) (zl6 : zR l6) (zl7 : ex_c2 l7 = false ∧ l7 < 1099511627776) (k : zRn AL V ST ex_km d kt_69 76 (zP [zf b 61, zf b l1, enc l2, enc l3, enc l4, enc l5, enc l6, l7]) [enc 1] (zM n (zWf b f g)) = some r) : k69_71 V ST d (zCl AL V ST ex_km d) (zRn AL V ST ex_km d kt_69) (zP [zf b 61, zf b l1, enc l2, enc l3, enc l4, enc l5, enc l6, l7]) [] (zM n (zWf b f g)) = some r := by
  unfold k69_71
  refine (zr_pshi 1 rfl).trans ?_
  exact (zr_goto).trans k
end
end
