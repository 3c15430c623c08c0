noncomputable section
theorem taa_book_acts : zAA 76 24 64 8 := by unfold zAA zAr; decide +kernel
theorem taa_book_whos : zAA 101 24 64 8 := by unfold zAA zAr; decide +kernel
theorem taa_book_concepts : zAA 126 24 64 8 := by unfold zAA zAr; decide +kernel
theorem taa_past_rows : zAA 160 20 64 24 := by unfold zAA zAr; decide +kernel
theorem taa_party_sets : zAA 188 30 64 16 := by unfold zAA zAr; decide +kernel
theorem taa_party_meetings : zAA 219 16 64 16 := by unfold zAA zAr; decide +kernel
def sa_ACT_LEVELS (i : Int) : Int := nz (([1, 1, 1, 1, 1, 2, 2, 3, 1, 2, 2, 2, 3] : List Int).getD i.toNat 0)
theorem sa_ACT_LEVELS_R (i : Int) : zR (sa_ACT_LEVELS i) := nz_R _
theorem sa_ACT_LEVELS_N : ∀ i, i < 13 → ex_get (ex_st 1) (i + 1) = enc (nz (([1, 1, 1, 1, 1, 2, 2, 3, 1, 2, 2, 2, 3] : List Int).getD i 0)) := by decide +kernel
theorem sa_ACT_LEVELS_E {i : Int} (h0 : 0 ≤ i) (h1 : i < 13) : ex_get (ex_st 1) (i.toNat + 1) = enc (sa_ACT_LEVELS i) := sa_ACT_LEVELS_N _ (by omega)
def sa_ACT_PARTS (i : Int) : Int := nz (([2, 1, 1, 2, 2, 3, 1, 3, 2, 2, 1, 1, 1] : List Int).getD i.toNat 0)
theorem sa_ACT_PARTS_R (i : Int) : zR (sa_ACT_PARTS i) := nz_R _
theorem sa_ACT_PARTS_N : ∀ i, i < 13 → ex_get (ex_st 2) (i + 1) = enc (nz (([2, 1, 1, 2, 2, 3, 1, 3, 2, 2, 1, 1, 1] : List Int).getD i 0)) := by decide +kernel
theorem sa_ACT_PARTS_E {i : Int} (h0 : 0 ≤ i) (h1 : i < 13) : ex_get (ex_st 2) (i.toNat + 1) = enc (sa_ACT_PARTS i) := sa_ACT_PARTS_N _ (by omega)
def sa_SHAPE_F (i : Int) : Int := nz (([0, 0, 3, 3, 2, 2, 1, 1, 0, 0, 0, 0, 2, 2, 2, 2, 2, 2, 2, 2, 0, 0, 0, 0, 0, 2, 0, 2, 0, 2, 0, 2, 2, 0, 2, 0, 2, 0, 2, 0, 0, 2, 0, 2, 0, 2, 0, 2, 0, 2, 0, 2, 0, 2, 0, 2] : List Int).getD i.toNat 0)
theorem sa_SHAPE_F_R (i : Int) : zR (sa_SHAPE_F i) := nz_R _
theorem sa_SHAPE_F_N : ∀ i, i < 56 → ex_get (ex_st 3) (i + 1) = enc (nz (([0, 0, 3, 3, 2, 2, 1, 1, 0, 0, 0, 0, 2, 2, 2, 2, 2, 2, 2, 2, 0, 0, 0, 0, 0, 2, 0, 2, 0, 2, 0, 2, 2, 0, 2, 0, 2, 0, 2, 0, 0, 2, 0, 2, 0, 2, 0, 2, 0, 2, 0, 2, 0, 2, 0, 2] : List Int).getD i 0)) := by decide +kernel
theorem sa_SHAPE_F_E {i : Int} (h0 : 0 ≤ i) (h1 : i < 56) : ex_get (ex_st 3) (i.toNat + 1) = enc (sa_SHAPE_F i) := sa_SHAPE_F_N _ (by omega)
def sa_SHAPE_X (i : Int) : Int := nz (([-1, 1, 3, 3, 1, -1, -3, -3, -3, -1, 1, 3, -3, -1, 1, 3, -3, -1, 1, 3, -3, -1, 1, 3, -3, -1, 1, 3, -3, -1, 1, 3, -3, -1, 1, 3, -3, -1, 1, 3, -1, -1, -1, -1, 1, 1, 1, 1, -7, -5, -3, -1, 1, 3, 5, 7] : List Int).getD i.toNat 0)
theorem sa_SHAPE_X_R (i : Int) : zR (sa_SHAPE_X i) := nz_R _
theorem sa_SHAPE_X_N : ∀ i, i < 56 → ex_get (ex_st 4) (i + 1) = enc (nz (([-1, 1, 3, 3, 1, -1, -3, -3, -3, -1, 1, 3, -3, -1, 1, 3, -3, -1, 1, 3, -3, -1, 1, 3, -3, -1, 1, 3, -3, -1, 1, 3, -3, -1, 1, 3, -3, -1, 1, 3, -1, -1, -1, -1, 1, 1, 1, 1, -7, -5, -3, -1, 1, 3, 5, 7] : List Int).getD i 0)) := by decide +kernel
theorem sa_SHAPE_X_E {i : Int} (h0 : 0 ≤ i) (h1 : i < 56) : ex_get (ex_st 4) (i.toNat + 1) = enc (sa_SHAPE_X i) := sa_SHAPE_X_N _ (by omega)
def sa_SHAPE_Y (i : Int) : Int := nz (([-3, -3, -1, 1, 3, 3, 1, -1, -1, -1, -1, -1, 1, 1, 1, 1, -1, -1, -1, -1, 1, 1, 1, 1, -1, -1, -1, -1, 1, 1, 1, 1, -1, -1, -1, -1, 1, 1, 1, 1, -3, -1, 1, 3, -3, -1, 1, 3, 0, 0, 0, 0, 0, 0, 0, 0] : List Int).getD i.toNat 0)
theorem sa_SHAPE_Y_R (i : Int) : zR (sa_SHAPE_Y i) := nz_R _
theorem sa_SHAPE_Y_N : ∀ i, i < 56 → ex_get (ex_st 5) (i + 1) = enc (nz (([-3, -3, -1, 1, 3, 3, 1, -1, -1, -1, -1, -1, 1, 1, 1, 1, -1, -1, -1, -1, 1, 1, 1, 1, -1, -1, -1, -1, 1, 1, 1, 1, -1, -1, -1, -1, 1, 1, 1, 1, -3, -1, 1, 3, -3, -1, 1, 3, 0, 0, 0, 0, 0, 0, 0, 0] : List Int).getD i 0)) := by decide +kernel
theorem sa_SHAPE_Y_E {i : Int} (h0 : 0 ≤ i) (h1 : i < 56) : ex_get (ex_st 5) (i.toNat + 1) = enc (sa_SHAPE_Y i) := sa_SHAPE_Y_N _ (by omega)
def sa_SPOT_F (i : Int) : Int := nz (([0, 0, 3, 3, 2, 2, 1, 1] : List Int).getD i.toNat 0)
theorem sa_SPOT_F_R (i : Int) : zR (sa_SPOT_F i) := nz_R _
theorem sa_SPOT_F_N : ∀ i, i < 8 → ex_get (ex_st 6) (i + 1) = enc (nz (([0, 0, 3, 3, 2, 2, 1, 1] : List Int).getD i 0)) := by decide +kernel
theorem sa_SPOT_F_E {i : Int} (h0 : 0 ≤ i) (h1 : i < 8) : ex_get (ex_st 6) (i.toNat + 1) = enc (sa_SPOT_F i) := sa_SPOT_F_N _ (by omega)
def sa_SPOT_X (i : Int) : Int := nz (([-1, 1, 3, 3, 1, -1, -3, -3] : List Int).getD i.toNat 0)
theorem sa_SPOT_X_R (i : Int) : zR (sa_SPOT_X i) := nz_R _
theorem sa_SPOT_X_N : ∀ i, i < 8 → ex_get (ex_st 7) (i + 1) = enc (nz (([-1, 1, 3, 3, 1, -1, -3, -3] : List Int).getD i 0)) := by decide +kernel
theorem sa_SPOT_X_E {i : Int} (h0 : 0 ≤ i) (h1 : i < 8) : ex_get (ex_st 7) (i.toNat + 1) = enc (sa_SPOT_X i) := sa_SPOT_X_N _ (by omega)
def sa_SPOT_Y (i : Int) : Int := nz (([-3, -3, -1, 1, 3, 3, 1, -1] : List Int).getD i.toNat 0)
theorem sa_SPOT_Y_R (i : Int) : zR (sa_SPOT_Y i) := nz_R _
theorem sa_SPOT_Y_N : ∀ i, i < 8 → ex_get (ex_st 8) (i + 1) = enc (nz (([-3, -3, -1, 1, 3, 3, 1, -1] : List Int).getD i 0)) := by decide +kernel
theorem sa_SPOT_Y_E {i : Int} (h0 : 0 ≤ i) (h1 : i < 8) : ex_get (ex_st 8) (i.toNat + 1) = enc (sa_SPOT_Y i) := sa_SPOT_Y_N _ (by omega)
def sa_STEP_X (i : Int) : Int := nz (([0, 1, 0, -1] : List Int).getD i.toNat 0)
theorem sa_STEP_X_R (i : Int) : zR (sa_STEP_X i) := nz_R _
theorem sa_STEP_X_N : ∀ i, i < 4 → ex_get (ex_st 9) (i + 1) = enc (nz (([0, 1, 0, -1] : List Int).getD i 0)) := by decide +kernel
theorem sa_STEP_X_E {i : Int} (h0 : 0 ≤ i) (h1 : i < 4) : ex_get (ex_st 9) (i.toNat + 1) = enc (sa_STEP_X i) := sa_STEP_X_N _ (by omega)
def sa_STEP_Y (i : Int) : Int := nz (([1, 0, -1, 0] : List Int).getD i.toNat 0)
theorem sa_STEP_Y_R (i : Int) : zR (sa_STEP_Y i) := nz_R _
theorem sa_STEP_Y_N : ∀ i, i < 4 → ex_get (ex_st 10) (i + 1) = enc (nz (([1, 0, -1, 0] : List Int).getD i 0)) := by decide +kernel
theorem sa_STEP_Y_E {i : Int} (h0 : 0 ≤ i) (h1 : i < 4) : ex_get (ex_st 10) (i.toNat + 1) = enc (sa_STEP_Y i) := sa_STEP_Y_N _ (by omega)
theorem zAr_R {q kd m : Nat} (h : zAr q kd m) : zR (m : Int) := by obtain ⟨-, -, -, h4, -⟩ := h; unfold zR; omega
section
variable {AL : ex_AL} {V : ex_V} {ST : Nat → Nat} {d b n : Nat} {f : Nat → Nat} {g : Nat → Int → Int} {r : Nat × Nat}
theorem zs_1_47 (h : zOk b n f) {l1 : Int} {l2 : Int} {l3 : Int} {l4 : Int} (zl1 : zR l1) (zl2 : zR l2) (zl3 : zR l3) (zl4 : zR l4) (k : some (enc (-1), (zM n (zWf b f g))) = some r) : k1_47 V ST d (zCl AL V ST ex_km d) (zRn AL V ST ex_km d kt_1) (zP [zf b 71, enc l1, enc l2, enc l3, enc l4]) [] (zM n (zWf b f g)) = some r := by
  unfold k1_47
  refine (zr_pshi (-1) rfl).trans ?_
  exact zr_ireturn.trans k
theorem zs_1_41 (h : zOk b n f) {l1 : Int} {l2 : Int} {l3 : Int} {l4 : Int} (zl1 : zR l1) (zl2 : zR l2) (zl3 : zR l3) (zl4 : zR l4) (k : zRn AL V ST ex_km d kt_1 7 (zP [zf b 71, enc l1, enc l2, enc l3, enc (nz (l4 + 1))]) [] (zM n (zWf b f g)) = some r) : k1_41 V ST d (zCl AL V ST ex_km d) (zRn AL V ST ex_km d kt_1) (zP [zf b 71, enc l1, enc l2, enc l3, enc l4]) [] (zM n (zWf b f g)) = some r := by
  unfold k1_41
  refine (zr_iinc (w := enc l3) (x := l4) (i' := 1) (vs' := [zf b 71, enc l1, enc l2, enc l3, enc (nz (l4 + 1))]) rfl (enc_c2 _) (Nat.lt_trans (enc_lt _) (by decide)) rfl rfl (by decide) rfl).trans ?_
  exact (zr_goto).trans k
theorem zs_1_7 (h : zOk b n f) {l1 : Int} {l2 : Int} {l3 : Int} {l4 : Int} (zl1 : zR l1) (zl2 : zR l2) (zl3 : zR l3) (zl4 : zR l4) (k : (if 0 ≤ l1 ∧ l1 < 8 then (if l4 < nz (l3 + (nz (g 72 l1))) then (if l4 < 24 then (if 0 ≤ l4 ∧ l4 < 24 then (if nz (g 73 l4) = l2 then some (enc l4, (zM n (zWf b f g))) else zRn AL V ST ex_km d kt_1 41 (zP [zf b 71, enc l1, enc l2, enc l3, enc l4]) [] (zM n (zWf b f g))) else none) else zRn AL V ST ex_km d kt_1 47 (zP [zf b 71, enc l1, enc l2, enc l3, enc l4]) [] (zM n (zWf b f g))) else zRn AL V ST ex_km d kt_1 47 (zP [zf b 71, enc l1, enc l2, enc l3, enc l4]) [] (zM n (zWf b f g))) else none) = some r) : k1_7 V ST d (zCl AL V ST ex_km d) (zRn AL V ST ex_km d kt_1) (zP [zf b 71, enc l1, enc l2, enc l3, enc l4]) [] (zM n (zWf b f g)) = some r := by
  unfold k1_7
  refine (zr_iload (v := enc l4) rfl (enc_lt _)).trans ?_
  refine (zr_iload (v := enc l3) rfl (enc_lt _)).trans ?_
  refine (zr_aload (v := zf b 71) rfl (zf_tA h _)).trans ?_
  refine (zr_gfr h (tr_book_versions rfl)).trans ?_
  refine (zr_iload (v := enc l1) rfl (enc_lt _)).trans ?_
  by_cases c1 : 0 ≤ l1 ∧ l1 < 8
  · rw [if_pos c1] at k
    refine (zr_iald h (ta_book_versions rfl) c1.1 (by have := c1.2; omega)).trans ?_
    refine (zr_iadd).trans ?_
    by_cases c2 : l4 < nz (l3 + (nz (g 72 l1)))
    · rw [if_pos c2] at k
      refine (zr_icmp_ge_n (zl4) (nz_R _) c2).trans ?_
      refine (zr_iload (v := enc l4) rfl (enc_lt _)).trans ?_
      refine (zr_pshi 24 rfl).trans ?_
      by_cases c3 : l4 < 24
      · rw [if_pos c3] at k
        refine (zr_icmp_ge_n (zl4) ((by unfold zR; omega)) c3).trans ?_
        refine (zr_aload (v := zf b 71) rfl (zf_tA h _)).trans ?_
        refine (zr_gfr h (tr_book_years rfl)).trans ?_
        refine (zr_iload (v := enc l4) rfl (enc_lt _)).trans ?_
        by_cases c4 : 0 ≤ l4 ∧ l4 < 24
        · rw [if_pos c4] at k
          refine (zr_iald h (ta_book_years rfl) c4.1 (by have := c4.2; omega)).trans ?_
          refine (zr_iload (v := enc l2) rfl (enc_lt _)).trans ?_
          by_cases c5 : nz (g 73 l4) = l2
          · rw [if_pos c5] at k
            refine (zr_icmp_ne_n (nz_R _) (zl2) c5).trans ?_
            refine (zr_iload (v := enc l4) rfl (enc_lt _)).trans ?_
            exact zr_ireturn.trans k
          · rw [if_neg c5] at k
            exact (zr_icmp_ne_t (nz_R _) (zl2) c5).trans k
        · rw [if_neg c4] at k; cases k
      · rw [if_neg c3] at k
        exact (zr_icmp_ge_t (zl4) ((by unfold zR; omega)) (Int.not_lt.mp c3)).trans k
    · rw [if_neg c2] at k
      exact (zr_icmp_ge_t (zl4) (nz_R _) (Int.not_lt.mp c2)).trans k
  · rw [if_neg c1] at k; cases k
theorem zs_1_0 (h : zOk b n f) {l1 : Int} {l2 : Int} (zl1 : zR l1) (zl2 : zR l2) (k : k1_7 V ST d (zCl AL V ST ex_km d) (zRn AL V ST ex_km d kt_1) (zP [zf b 71, enc l1, enc l2, enc (nz (l1 * 3)), enc (nz (l1 * 3))]) [] (zM n (zWf b f g)) = some r) : k1_0 V ST d (zCl AL V ST ex_km d) (zRn AL V ST ex_km d kt_1) (zP [zf b 71, enc l1, enc l2, 137438953472, 137438953472]) [] (zM n (zWf b f g)) = some r := by
  unfold k1_0
  refine (zr_iload (v := enc l1) rfl (enc_lt _)).trans ?_
  refine (zr_pshi 3 rfl).trans ?_
  refine (zr_imul).trans ?_
  refine (zr_istore (w := enc l2) (vs' := [zf b 71, enc l1, enc l2, enc (nz (l1 * 3)), 137438953472]) rfl (enc_c2 _) (Nat.lt_trans (enc_lt _) (by decide)) (by decide) rfl (enc_lt _)).trans ?_
  refine (zr_iload (v := enc (nz (l1 * 3))) rfl (enc_lt _)).trans ?_
  refine (zr_istore (w := enc (nz (l1 * 3))) (vs' := [zf b 71, enc l1, enc l2, enc (nz (l1 * 3)), enc (nz (l1 * 3))]) rfl (enc_c2 _) (Nat.lt_trans (enc_lt _) (by decide)) (by decide) rfl (enc_lt _)).trans ?_
  exact k
theorem zs_2_73 (h : zOk b n f) {l1 : Int} {l2 : Int} {l3 : Int} {l4 : Int} {l5 : Int} (zl1 : zR l1) (zl2 : zR l2) (zl3 : zR l3) (zl4 : zR l4) (zl5 : zR l5) (k : some (enc l4, (zM n (zWf b f g))) = some r) : k2_73 V ST d (zCl AL V ST ex_km d) (zRn AL V ST ex_km d kt_2) (zP [zf b 71, enc l1, enc l2, enc l3, enc l4, enc l5]) [] (zM n (zWf b f g)) = some r := by
  unfold k2_73
  refine (zr_iload (v := enc l4) rfl (enc_lt _)).trans ?_
  exact zr_ireturn.trans k
theorem zs_2_67 (h : zOk b n f) {l1 : Int} {l2 : Int} {l3 : Int} {l4 : Int} {l5 : Int} (zl1 : zR l1) (zl2 : zR l2) (zl3 : zR l3) (zl4 : zR l4) (zl5 : zR l5) (k : zRn AL V ST ex_km d kt_2 10 (zP [zf b 71, enc l1, enc l2, enc l3, enc l4, enc (nz (l5 + 1))]) [] (zM n (zWf b f g)) = some r) : k2_67 V ST d (zCl AL V ST ex_km d) (zRn AL V ST ex_km d kt_2) (zP [zf b 71, enc l1, enc l2, enc l3, enc l4, enc l5]) [] (zM n (zWf b f g)) = some r := by
  unfold k2_67
  refine (zr_iinc (w := enc l4) (x := l5) (i' := 1) (vs' := [zf b 71, enc l1, enc l2, enc l3, enc l4, enc (nz (l5 + 1))]) rfl (enc_c2 _) (Nat.lt_trans (enc_lt _) (by decide)) rfl rfl (by decide) rfl).trans ?_
  exact (zr_goto).trans k
theorem zs_2_63 (h : zOk b n f) {l1 : Int} {l2 : Int} {l3 : Int} {l4 : Int} {l5 : Int} (zl1 : zR l1) (zl2 : zR l2) (zl3 : zR l3) (zl4 : zR l4) (zl5 : zR l5) (k : k2_67 V ST d (zCl AL V ST ex_km d) (zRn AL V ST ex_km d kt_2) (zP [zf b 71, enc l1, enc l2, enc l3, enc l5, enc l5]) [] (zM n (zWf b f g)) = some r) : k2_63 V ST d (zCl AL V ST ex_km d) (zRn AL V ST ex_km d kt_2) (zP [zf b 71, enc l1, enc l2, enc l3, enc l4, enc l5]) [] (zM n (zWf b f g)) = some r := by
  unfold k2_63
  refine (zr_iload (v := enc l5) rfl (enc_lt _)).trans ?_
  refine (zr_istore (w := enc l3) (vs' := [zf b 71, enc l1, enc l2, enc l3, enc l5, enc l5]) rfl (enc_c2 _) (Nat.lt_trans (enc_lt _) (by decide)) (by decide) rfl (enc_lt _)).trans ?_
  exact k
theorem zs_2_10 (h : zOk b n f) {l1 : Int} {l2 : Int} {l3 : Int} {l4 : Int} {l5 : Int} (zl1 : zR l1) (zl2 : zR l2) (zl3 : zR l3) (zl4 : zR l4) (zl5 : zR l5) (k : (if 0 ≤ l1 ∧ l1 < 8 then (if l5 < nz (l3 + (nz (g 72 l1))) then (if l5 < 24 then (if 0 ≤ l5 ∧ l5 < 24 then (if l2 < nz (g 73 l5) then zRn AL V ST ex_km d kt_2 67 (zP [zf b 71, enc l1, enc l2, enc l3, enc l4, enc l5]) [] (zM n (zWf b f g)) else (if l4 < 0 then zRn AL V ST ex_km d kt_2 63 (zP [zf b 71, enc l1, enc l2, enc l3, enc l4, enc l5]) [] (zM n (zWf b f g)) else (if 0 ≤ l5 ∧ l5 < 24 then (if 0 ≤ l4 ∧ l4 < 24 then (if nz (g 73 l4) < nz (g 73 l5) then k2_63 V ST d (zCl AL V ST ex_km d) (zRn AL V ST ex_km d kt_2) (zP [zf b 71, enc l1, enc l2, enc l3, enc l4, enc l5]) [] (zM n (zWf b f g)) else zRn AL V ST ex_km d kt_2 67 (zP [zf b 71, enc l1, enc l2, enc l3, enc l4, enc l5]) [] (zM n (zWf b f g))) else none) else none))) else none) else zRn AL V ST ex_km d kt_2 73 (zP [zf b 71, enc l1, enc l2, enc l3, enc l4, enc l5]) [] (zM n (zWf b f g))) else zRn AL V ST ex_km d kt_2 73 (zP [zf b 71, enc l1, enc l2, enc l3, enc l4, enc l5]) [] (zM n (zWf b f g))) else none) = some r) : k2_10 V ST d (zCl AL V ST ex_km d) (zRn AL V ST ex_km d kt_2) (zP [zf b 71, enc l1, enc l2, enc l3, enc l4, enc l5]) [] (zM n (zWf b f g)) = some r := by
  unfold k2_10
  refine (zr_iload (v := enc l5) rfl (enc_lt _)).trans ?_
  refine (zr_iload (v := enc l3) rfl (enc_lt _)).trans ?_
  refine (zr_aload (v := zf b 71) rfl (zf_tA h _)).trans ?_
  refine (zr_gfr h (tr_book_versions rfl)).trans ?_
  refine (zr_iload (v := enc l1) rfl (enc_lt _)).trans ?_
  by_cases c1 : 0 ≤ l1 ∧ l1 < 8
  · rw [if_pos c1] at k
    refine (zr_iald h (ta_book_versions rfl) c1.1 (by have := c1.2; omega)).trans ?_
    refine (zr_iadd).trans ?_
    by_cases c2 : l5 < nz (l3 + (nz (g 72 l1)))
    · rw [if_pos c2] at k
      refine (zr_icmp_ge_n (zl5) (nz_R _) c2).trans ?_
      refine (zr_iload (v := enc l5) rfl (enc_lt _)).trans ?_
      refine (zr_pshi 24 rfl).trans ?_
      by_cases c3 : l5 < 24
      · rw [if_pos c3] at k
        refine (zr_icmp_ge_n (zl5) ((by unfold zR; omega)) c3).trans ?_
        refine (zr_aload (v := zf b 71) rfl (zf_tA h _)).trans ?_
        refine (zr_gfr h (tr_book_years rfl)).trans ?_
        refine (zr_iload (v := enc l5) rfl (enc_lt _)).trans ?_
        by_cases c4 : 0 ≤ l5 ∧ l5 < 24
        · rw [if_pos c4] at k
          refine (zr_iald h (ta_book_years rfl) c4.1 (by have := c4.2; omega)).trans ?_
          refine (zr_iload (v := enc l2) rfl (enc_lt _)).trans ?_
          by_cases c5 : l2 < nz (g 73 l5)
          · rw [if_pos c5] at k
            exact (zr_icmp_gt_t (nz_R _) (zl2) c5).trans k
          · rw [if_neg c5] at k
            refine (zr_icmp_gt_n (nz_R _) (zl2) (Int.not_lt.mp c5)).trans ?_
            refine (zr_iload (v := enc l4) rfl (enc_lt _)).trans ?_
            by_cases c6 : l4 < 0
            · rw [if_pos c6] at k
              exact (zr_if_lt_t (zl4) c6).trans k
            · rw [if_neg c6] at k
              refine (zr_if_lt_n (zl4) (Int.not_lt.mp c6)).trans ?_
              refine (zr_aload (v := zf b 71) rfl (zf_tA h _)).trans ?_
              refine (zr_gfr h (tr_book_years rfl)).trans ?_
              refine (zr_iload (v := enc l5) rfl (enc_lt _)).trans ?_
              by_cases c7 : 0 ≤ l5 ∧ l5 < 24
              · rw [if_pos c7] at k
                refine (zr_iald h (ta_book_years rfl) c7.1 (by have := c7.2; omega)).trans ?_
                refine (zr_aload (v := zf b 71) rfl (zf_tA h _)).trans ?_
                refine (zr_gfr h (tr_book_years rfl)).trans ?_
                refine (zr_iload (v := enc l4) rfl (enc_lt _)).trans ?_
                by_cases c8 : 0 ≤ l4 ∧ l4 < 24
                · rw [if_pos c8] at k
                  refine (zr_iald h (ta_book_years rfl) c8.1 (by have := c8.2; omega)).trans ?_
                  by_cases c9 : nz (g 73 l4) < nz (g 73 l5)
                  · rw [if_pos c9] at k
                    refine (zr_icmp_le_n (nz_R _) (nz_R _) c9).trans ?_
                    exact k
                  · rw [if_neg c9] at k
                    exact (zr_icmp_le_t (nz_R _) (nz_R _) (Int.not_lt.mp c9)).trans k
                · rw [if_neg c8] at k; cases k
              · rw [if_neg c7] at k; cases k
        · rw [if_neg c4] at k; cases k
      · rw [if_neg c3] at k
        exact (zr_icmp_ge_t (zl5) ((by unfold zR; omega)) (Int.not_lt.mp c3)).trans k
    · rw [if_neg c2] at k
      exact (zr_icmp_ge_t (zl5) (nz_R _) (Int.not_lt.mp c2)).trans k
  · rw [if_neg c1] at k; cases k
theorem zs_2_0 (h : zOk b n f) {l1 : Int} {l2 : Int} (zl1 : zR l1) (zl2 : zR l2) (k : k2_10 V ST d (zCl AL V ST ex_km d) (zRn AL V ST ex_km d kt_2) (zP [zf b 71, enc l1, enc l2, enc (nz (l1 * 3)), enc (-1), enc (nz (l1 * 3))]) [] (zM n (zWf b f g)) = some r) : k2_0 V ST d (zCl AL V ST ex_km d) (zRn AL V ST ex_km d kt_2) (zP [zf b 71, enc l1, enc l2, 137438953472, 137438953472, 137438953472]) [] (zM n (zWf b f g)) = some r := by
  unfold k2_0
  refine (zr_iload (v := enc l1) rfl (enc_lt _)).trans ?_
  refine (zr_pshi 3 rfl).trans ?_
  refine (zr_imul).trans ?_
  refine (zr_istore (w := enc l2) (vs' := [zf b 71, enc l1, enc l2, enc (nz (l1 * 3)), 137438953472, 137438953472]) rfl (enc_c2 _) (Nat.lt_trans (enc_lt _) (by decide)) (by decide) rfl (enc_lt _)).trans ?_
  refine (zr_pshi (-1) rfl).trans ?_
  refine (zr_istore (w := enc (nz (l1 * 3))) (vs' := [zf b 71, enc l1, enc l2, enc (nz (l1 * 3)), enc (-1), 137438953472]) rfl (enc_c2 _) (Nat.lt_trans (enc_lt _) (by decide)) (by decide) rfl (enc_lt _)).trans ?_
  refine (zr_iload (v := enc (nz (l1 * 3))) rfl (enc_lt _)).trans ?_
  refine (zr_istore (w := enc (-1)) (vs' := [zf b 71, enc l1, enc l2, enc (nz (l1 * 3)), enc (-1), enc (nz (l1 * 3))]) rfl (enc_c2 _) (Nat.lt_trans (enc_lt _) (by decide)) (by decide) rfl (enc_lt _)).trans ?_
  exact k
theorem zs_3_45 (h : zOk b n f) {l1 : Int} {l2 : Int} {l3 : Int} {s0 : Int} (zl1 : zR l1) (zl2 : zR l2) (zl3 : zR l3) (zs0 : zR s0) (k : (if s0 = 0 ∨ s0 = 1 then some (enc s0, (zM n (zWf b f g))) else none) = some r) : k3_45 V ST d (zCl AL V ST ex_km d) (zRn AL V ST ex_km d kt_3) (zP [zf b 71, enc l1, enc l2, enc l3]) [enc s0] (zM n (zWf b f g)) = some r := by
  unfold k3_45
  by_cases c1 : s0 = 0 ∨ s0 = 1
  · rw [if_pos c1] at k
    exact (zr_breturn c1).trans k
  · rw [if_neg c1] at k; cases k
theorem zs_3_44 (h : zOk b n f) {l1 : Int} {l2 : Int} {l3 : Int} (zl1 : zR l1) (zl2 : zR l2) (zl3 : zR l3) (k : k3_45 V ST d (zCl AL V ST ex_km d) (zRn AL V ST ex_km d kt_3) (zP [zf b 71, enc l1, enc l2, enc l3]) [enc 0] (zM n (zWf b f g)) = some r) : k3_44 V ST d (zCl AL V ST ex_km d) (zRn AL V ST ex_km d kt_3) (zP [zf b 71, enc l1, enc l2, enc l3]) [] (zM n (zWf b f g)) = some r := by
  unfold k3_44
  refine (zr_pshi 0 rfl).trans ?_
  exact k
theorem zs_3_29 (h : zOk b n f) {l1 : Int} {l2 : Int} {l3 : Int} (zl1 : zR l1) (zl2 : zR l2) (zl3 : zR l3) (k : (if 0 ≤ l3 ∧ l3 < 24 then (if nz (g 74 l3) < 8 then zRn AL V ST ex_km d kt_3 45 (zP [zf b 71, enc l1, enc l2, enc l3]) [enc 1] (zM n (zWf b f g)) else zRn AL V ST ex_km d kt_3 44 (zP [zf b 71, enc l1, enc l2, enc l3]) [] (zM n (zWf b f g))) else none) = some r) : k3_29 V ST d (zCl AL V ST ex_km d) (zRn AL V ST ex_km d kt_3) (zP [zf b 71, enc l1, enc l2, enc l3]) [] (zM n (zWf b f g)) = some r := by
  unfold k3_29
  refine (zr_aload (v := zf b 71) rfl (zf_tA h _)).trans ?_
  refine (zr_gfr h (tr_book_actCounts rfl)).trans ?_
  refine (zr_iload (v := enc l3) rfl (enc_lt _)).trans ?_
  by_cases c1 : 0 ≤ l3 ∧ l3 < 24
  · rw [if_pos c1] at k
    refine (zr_iald h (ta_book_actCounts rfl) c1.1 (by have := c1.2; omega)).trans ?_
    refine (zr_pshi 8 rfl).trans ?_
    by_cases c2 : nz (g 74 l3) < 8
    · rw [if_pos c2] at k
      refine (zr_icmp_ge_n (nz_R _) ((by unfold zR; omega)) c2).trans ?_
      refine (zr_pshi 1 rfl).trans ?_
      exact (zr_goto).trans k
    · rw [if_neg c2] at k
      exact (zr_icmp_ge_t (nz_R _) ((by unfold zR; omega)) (Int.not_lt.mp c2)).trans k
  · rw [if_neg c1] at k; cases k
theorem zs_3_25 (h : zOk b n f) {l1 : Int} {l2 : Int} {l3 : Int} (zl1 : zR l1) (zl2 : zR l2) (zl3 : zR l3) (k : zRn AL V ST ex_km d kt_3 45 (zP [zf b 71, enc l1, enc l2, enc l3]) [enc 0] (zM n (zWf b f g)) = some r) : k3_25 V ST d (zCl AL V ST ex_km d) (zRn AL V ST ex_km d kt_3) (zP [zf b 71, enc l1, enc l2, enc l3]) [] (zM n (zWf b f g)) = some r := by
  unfold k3_25
  refine (zr_pshi 0 rfl).trans ?_
  exact (zr_goto).trans k
theorem zs_3_6 (h : zOk b n f) {l1 : Int} {l2 : Int} {s0 : Int} (zl1 : zR l1) (zl2 : zR l2) (zs0 : zR s0) (k : (if s0 < 0 then (if 0 ≤ l1 ∧ l1 < 8 then (if nz (g 72 l1) < 3 then zRn AL V ST ex_km d kt_3 45 (zP [zf b 71, enc l1, enc l2, enc s0]) [enc 1] (zM n (zWf b f g)) else zRn AL V ST ex_km d kt_3 25 (zP [zf b 71, enc l1, enc l2, enc s0]) [] (zM n (zWf b f g))) else none) else zRn AL V ST ex_km d kt_3 29 (zP [zf b 71, enc l1, enc l2, enc s0]) [] (zM n (zWf b f g))) = some r) : k3_6 V ST d (zCl AL V ST ex_km d) (zRn AL V ST ex_km d kt_3) (zP [zf b 71, enc l1, enc l2, 137438953472]) [enc s0] (zM n (zWf b f g)) = some r := by
  unfold k3_6
  refine (zr_istore (w := enc l2) (vs' := [zf b 71, enc l1, enc l2, enc s0]) rfl (enc_c2 _) (Nat.lt_trans (enc_lt _) (by decide)) (by decide) rfl (enc_lt _)).trans ?_
  refine (zr_iload (v := enc s0) rfl (enc_lt _)).trans ?_
  by_cases c1 : s0 < 0
  · rw [if_pos c1] at k
    refine (zr_if_ge_n (zs0) c1).trans ?_
    refine (zr_aload (v := zf b 71) rfl (zf_tA h _)).trans ?_
    refine (zr_gfr h (tr_book_versions rfl)).trans ?_
    refine (zr_iload (v := enc l1) rfl (enc_lt _)).trans ?_
    by_cases c2 : 0 ≤ l1 ∧ l1 < 8
    · rw [if_pos c2] at k
      refine (zr_iald h (ta_book_versions rfl) c2.1 (by have := c2.2; omega)).trans ?_
      refine (zr_pshi 3 rfl).trans ?_
      by_cases c3 : nz (g 72 l1) < 3
      · rw [if_pos c3] at k
        refine (zr_icmp_ge_n (nz_R _) ((by unfold zR; omega)) c3).trans ?_
        refine (zr_pshi 1 rfl).trans ?_
        exact (zr_goto).trans k
      · rw [if_neg c3] at k
        exact (zr_icmp_ge_t (nz_R _) ((by unfold zR; omega)) (Int.not_lt.mp c3)).trans k
    · rw [if_neg c2] at k; cases k
  · rw [if_neg c1] at k
    exact (zr_if_ge_t (zs0) (Int.not_lt.mp c1)).trans k
theorem zs_3_0 (h : zOk b n f) {l1 : Int} {l2 : Int} (zl1 : zR l1) (zl2 : zR l2) (k : zTh (zCl AL V ST ex_km d 1 [zf b 71, enc l1, enc l2] (zM n (zWf b f g))) (zM n (zWf b f g)) [] (fun S M => k3_6 V ST d (zCl AL V ST ex_km d) (zRn AL V ST ex_km d kt_3) (zP [zf b 71, enc l1, enc l2, 137438953472]) S M) = some r) : k3_0 V ST d (zCl AL V ST ex_km d) (zRn AL V ST ex_km d kt_3) (zP [zf b 71, enc l1, enc l2, 137438953472]) [] (zM n (zWf b f g)) = some r := by
  unfold k3_0
  refine (zr_aload (v := zf b 71) rfl (zf_tA h _)).trans ?_
  refine (zr_iload (v := enc l1) rfl (enc_lt _)).trans ?_
  refine (zr_iload (v := enc l2) rfl (enc_lt _)).trans ?_
  refine zr_invV h [enc l2, enc l1] rfl (tk_book rfl) (zA_cons (enc_l _) (zA_cons (enc_l _) zA_nil)) (zA_nil) (by decide) ?_
  exact k
theorem zs_4_59 (h : zOk b n f) {l1 : Int} {l2 : Int} {l3 : Int} {l4 : Int} {l5 : Int} {l6 : Int} (zl1 : zR l1) (zl2 : zR l2) (zl3 : zR l3) (zl4 : zR l4) (zl5 : zR l5) (zl6 : zR l6) (k : (if 0 ≤ l6 ∧ l6 < 24 then (if 0 ≤ l6 ∧ l6 < 24 then (if 0 ≤ nz (g 74 l6) ∧ nz (g 74 l6) < 8 then (if 0 ≤ l6 ∧ l6 < 24 then (if 0 ≤ nz (g 74 l6) ∧ nz (g 74 l6) < 8 then (if 0 ≤ l6 ∧ l6 < 24 then (if 0 ≤ nz (g 74 l6) ∧ nz (g 74 l6) < 8 then (if 0 ≤ l6 ∧ l6 < 24 then (if 0 ≤ l6 ∧ l6 < 24 then (if 0 ≤ l6 ∧ l6 < 24 then some (enc (nz ((upd (upd (upd (upd g (76 + 1 + Int.toNat l6) (nz (g 74 l6)) l3) (101 + 1 + Int.toNat l6) (nz (g 74 l6)) l4) (126 + 1 + Int.toNat l6) (nz (g 74 l6)) l5) 74 l6 (nz ((nz ((upd (upd (upd g (76 + 1 + Int.toNat l6) (nz (g 74 l6)) l3) (101 + 1 + Int.toNat l6) (nz (g 74 l6)) l4) (126 + 1 + Int.toNat l6) (nz (g 74 l6)) l5) 74 l6)) + 1))) 74 l6)), (zM n (zWf b f (upd (upd (upd (upd g (76 + 1 + Int.toNat l6) (nz (g 74 l6)) l3) (101 + 1 + Int.toNat l6) (nz (g 74 l6)) l4) (126 + 1 + Int.toNat l6) (nz (g 74 l6)) l5) 74 l6 (nz ((nz ((upd (upd (upd g (76 + 1 + Int.toNat l6) (nz (g 74 l6)) l3) (101 + 1 + Int.toNat l6) (nz (g 74 l6)) l4) (126 + 1 + Int.toNat l6) (nz (g 74 l6)) l5) 74 l6)) + 1)))))) else none) else none) else none) else none) else none) else none) else none) else none) else none) else none) = some r) : k4_59 V ST d (zCl AL V ST ex_km d) (zRn AL V ST ex_km d kt_4) (zP [zf b 71, enc l1, enc l2, enc l3, enc l4, enc l5, enc l6, 137438953472]) [] (zM n (zWf b f g)) = some r := by
  unfold k4_59
  refine (zr_aload (v := zf b 71) rfl (zf_tA h _)).trans ?_
  refine (zr_gfr h (tr_book_actCounts rfl)).trans ?_
  refine (zr_iload (v := enc l6) rfl (enc_lt _)).trans ?_
  by_cases c1 : 0 ≤ l6 ∧ l6 < 24
  · rw [if_pos c1] at k
    refine (zr_iald h (ta_book_actCounts rfl) c1.1 (by have := c1.2; omega)).trans ?_
    refine (zr_istore (w := enc l6) (vs' := [zf b 71, enc l1, enc l2, enc l3, enc l4, enc l5, enc l6, enc (nz (g 74 l6))]) rfl (enc_c2 _) (Nat.lt_trans (enc_lt _) (by decide)) (by decide) rfl (enc_lt _)).trans ?_
    refine (zr_aload (v := zf b 71) rfl (zf_tA h _)).trans ?_
    refine (zr_gfr h (tr_book_acts rfl)).trans ?_
    refine (zr_iload (v := enc l6) rfl (enc_lt _)).trans ?_
    by_cases c2 : 0 ≤ l6 ∧ l6 < 24
    · rw [if_pos c2] at k
      refine (zr_aald h (taa_book_acts) c2.1 (by have := c2.2; omega)).trans ?_
      have a3 : zAr (76 + 1 + Int.toNat l6) 64 8 := ((taa_book_acts).2.2.2.2 _ (by have := c2.1; have := c2.2; omega)).2.2
      refine (zr_iload (v := enc (nz (g 74 l6))) rfl (enc_lt _)).trans ?_
      refine (zr_iload (v := enc l3) rfl (enc_lt _)).trans ?_
      by_cases c4 : 0 ≤ nz (g 74 l6) ∧ nz (g 74 l6) < 8
      · rw [if_pos c4] at k
        refine (zr_iast h a3 c4.1 (by have := c4.2; omega)).trans ?_
        refine (zr_aload (v := zf b 71) rfl (zf_tA h _)).trans ?_
        refine (zr_gfr h (tr_book_whos rfl)).trans ?_
        refine (zr_iload (v := enc l6) rfl (enc_lt _)).trans ?_
        by_cases c5 : 0 ≤ l6 ∧ l6 < 24
        · rw [if_pos c5] at k
          refine (zr_aald h (taa_book_whos) c5.1 (by have := c5.2; omega)).trans ?_
          have a6 : zAr (101 + 1 + Int.toNat l6) 64 8 := ((taa_book_whos).2.2.2.2 _ (by have := c5.1; have := c5.2; omega)).2.2
          refine (zr_iload (v := enc (nz (g 74 l6))) rfl (enc_lt _)).trans ?_
          refine (zr_iload (v := enc l4) rfl (enc_lt _)).trans ?_
          by_cases c7 : 0 ≤ nz (g 74 l6) ∧ nz (g 74 l6) < 8
          · rw [if_pos c7] at k
            refine (zr_iast h a6 c7.1 (by have := c7.2; omega)).trans ?_
            refine (zr_aload (v := zf b 71) rfl (zf_tA h _)).trans ?_
            refine (zr_gfr h (tr_book_concepts rfl)).trans ?_
            refine (zr_iload (v := enc l6) rfl (enc_lt _)).trans ?_
            by_cases c8 : 0 ≤ l6 ∧ l6 < 24
            · rw [if_pos c8] at k
              refine (zr_aald h (taa_book_concepts) c8.1 (by have := c8.2; omega)).trans ?_
              have a9 : zAr (126 + 1 + Int.toNat l6) 64 8 := ((taa_book_concepts).2.2.2.2 _ (by have := c8.1; have := c8.2; omega)).2.2
              refine (zr_iload (v := enc (nz (g 74 l6))) rfl (enc_lt _)).trans ?_
              refine (zr_iload (v := enc l5) rfl (enc_lt _)).trans ?_
              by_cases c10 : 0 ≤ nz (g 74 l6) ∧ nz (g 74 l6) < 8
              · rw [if_pos c10] at k
                refine (zr_iast h a9 c10.1 (by have := c10.2; omega)).trans ?_
                refine (zr_aload (v := zf b 71) rfl (zf_tA h _)).trans ?_
                refine (zr_gfr h (tr_book_actCounts rfl)).trans ?_
                refine (zr_iload (v := enc l6) rfl (enc_lt _)).trans ?_
                refine (zr_dup2 (enc_c2 _) (zf_c2 h _)).trans ?_
                by_cases c11 : 0 ≤ l6 ∧ l6 < 24
                · rw [if_pos c11] at k
                  refine (zr_iald h (ta_book_actCounts rfl) c11.1 (by have := c11.2; omega)).trans ?_
                  refine (zr_pshi 1 rfl).trans ?_
                  refine (zr_iadd).trans ?_
                  by_cases c12 : 0 ≤ l6 ∧ l6 < 24
                  · rw [if_pos c12] at k
                    refine (zr_iast h (ta_book_actCounts rfl) c12.1 (by have := c12.2; omega)).trans ?_
                    refine (zr_aload (v := zf b 71) rfl (zf_tA h _)).trans ?_
                    refine (zr_gfr h (tr_book_actCounts rfl)).trans ?_
                    refine (zr_iload (v := enc l6) rfl (enc_lt _)).trans ?_
                    by_cases c13 : 0 ≤ l6 ∧ l6 < 24
                    · rw [if_pos c13] at k
                      refine (zr_iald h (ta_book_actCounts rfl) c13.1 (by have := c13.2; omega)).trans ?_
                      exact zr_ireturn.trans k
                    · rw [if_neg c13] at k; cases k
                  · rw [if_neg c12] at k; cases k
                · rw [if_neg c11] at k; cases k
              · rw [if_neg c10] at k; cases k
            · rw [if_neg c8] at k; cases k
          · rw [if_neg c7] at k; cases k
        · rw [if_neg c5] at k; cases k
      · rw [if_neg c4] at k; cases k
    · rw [if_neg c2] at k; cases k
  · rw [if_neg c1] at k; cases k
theorem zs_4_6 (h : zOk b n f) {l1 : Int} {l2 : Int} {l3 : Int} {l4 : Int} {l5 : Int} {s0 : Int} (zl1 : zR l1) (zl2 : zR l2) (zl3 : zR l3) (zl4 : zR l4) (zl5 : zR l5) (zs0 : zR s0) (k : (if s0 < 0 then (if 0 ≤ l1 ∧ l1 < 8 then (if 0 ≤ l1 ∧ l1 < 8 then (if 0 ≤ l1 ∧ l1 < 8 then (if 0 ≤ nz ((nz (l1 * 3)) + (nz (g 72 l1))) ∧ nz ((nz (l1 * 3)) + (nz (g 72 l1))) < 24 then (if 0 ≤ nz ((nz (l1 * 3)) + (nz (g 72 l1))) ∧ nz ((nz (l1 * 3)) + (nz (g 72 l1))) < 24 then (if 0 ≤ nz ((nz (l1 * 3)) + (nz (g 72 l1))) ∧ nz ((nz (l1 * 3)) + (nz (g 72 l1))) < 24 then k4_59 V ST d (zCl AL V ST ex_km d) (zRn AL V ST ex_km d kt_4) (zP [zf b 71, enc l1, enc l2, enc l3, enc l4, enc l5, enc (nz ((nz (l1 * 3)) + (nz (g 72 l1)))), 137438953472]) [] (zM n (zWf b f (upd (upd (upd (upd g 72 l1 (nz ((nz (g 72 l1)) + 1))) 73 (nz ((nz (l1 * 3)) + (nz (g 72 l1)))) l2) 74 (nz ((nz (l1 * 3)) + (nz (g 72 l1)))) 0) 75 (nz ((nz (l1 * 3)) + (nz (g 72 l1)))) 0))) else none) else none) else none) else none) else none) else none) else zRn AL V ST ex_km d kt_4 59 (zP [zf b 71, enc l1, enc l2, enc l3, enc l4, enc l5, enc s0, 137438953472]) [] (zM n (zWf b f g))) = some r) : k4_6 V ST d (zCl AL V ST ex_km d) (zRn AL V ST ex_km d kt_4) (zP [zf b 71, enc l1, enc l2, enc l3, enc l4, enc l5, 137438953472, 137438953472]) [enc s0] (zM n (zWf b f g)) = some r := by
  unfold k4_6
  refine (zr_istore (w := enc l5) (vs' := [zf b 71, enc l1, enc l2, enc l3, enc l4, enc l5, enc s0, 137438953472]) rfl (enc_c2 _) (Nat.lt_trans (enc_lt _) (by decide)) (by decide) rfl (enc_lt _)).trans ?_
  refine (zr_iload (v := enc s0) rfl (enc_lt _)).trans ?_
  by_cases c1 : s0 < 0
  · rw [if_pos c1] at k
    refine (zr_if_ge_n (zs0) c1).trans ?_
    refine (zr_iload (v := enc l1) rfl (enc_lt _)).trans ?_
    refine (zr_pshi 3 rfl).trans ?_
    refine (zr_imul).trans ?_
    refine (zr_aload (v := zf b 71) rfl (zf_tA h _)).trans ?_
    refine (zr_gfr h (tr_book_versions rfl)).trans ?_
    refine (zr_iload (v := enc l1) rfl (enc_lt _)).trans ?_
    by_cases c2 : 0 ≤ l1 ∧ l1 < 8
    · rw [if_pos c2] at k
      refine (zr_iald h (ta_book_versions rfl) c2.1 (by have := c2.2; omega)).trans ?_
      refine (zr_iadd).trans ?_
      refine (zr_istore (w := enc l5) (vs' := [zf b 71, enc l1, enc l2, enc l3, enc l4, enc l5, enc (nz ((nz (l1 * 3)) + (nz (g 72 l1)))), 137438953472]) rfl (enc_c2 _) (Nat.lt_trans (enc_lt _) (by decide)) (by decide) rfl (enc_lt _)).trans ?_
      refine (zr_aload (v := zf b 71) rfl (zf_tA h _)).trans ?_
      refine (zr_gfr h (tr_book_versions rfl)).trans ?_
      refine (zr_iload (v := enc l1) rfl (enc_lt _)).trans ?_
      refine (zr_dup2 (enc_c2 _) (zf_c2 h _)).trans ?_
      by_cases c3 : 0 ≤ l1 ∧ l1 < 8
      · rw [if_pos c3] at k
        refine (zr_iald h (ta_book_versions rfl) c3.1 (by have := c3.2; omega)).trans ?_
        refine (zr_pshi 1 rfl).trans ?_
        refine (zr_iadd).trans ?_
        by_cases c4 : 0 ≤ l1 ∧ l1 < 8
        · rw [if_pos c4] at k
          refine (zr_iast h (ta_book_versions rfl) c4.1 (by have := c4.2; omega)).trans ?_
          refine (zr_aload (v := zf b 71) rfl (zf_tA h _)).trans ?_
          refine (zr_gfr h (tr_book_years rfl)).trans ?_
          refine (zr_iload (v := enc (nz ((nz (l1 * 3)) + (nz (g 72 l1))))) rfl (enc_lt _)).trans ?_
          refine (zr_iload (v := enc l2) rfl (enc_lt _)).trans ?_
          by_cases c5 : 0 ≤ nz ((nz (l1 * 3)) + (nz (g 72 l1))) ∧ nz ((nz (l1 * 3)) + (nz (g 72 l1))) < 24
          · rw [if_pos c5] at k
            refine (zr_iast h (ta_book_years rfl) c5.1 (by have := c5.2; omega)).trans ?_
            refine (zr_aload (v := zf b 71) rfl (zf_tA h _)).trans ?_
            refine (zr_gfr h (tr_book_actCounts rfl)).trans ?_
            refine (zr_iload (v := enc (nz ((nz (l1 * 3)) + (nz (g 72 l1))))) rfl (enc_lt _)).trans ?_
            refine (zr_pshi 0 rfl).trans ?_
            by_cases c6 : 0 ≤ nz ((nz (l1 * 3)) + (nz (g 72 l1))) ∧ nz ((nz (l1 * 3)) + (nz (g 72 l1))) < 24
            · rw [if_pos c6] at k
              refine (zr_iast h (ta_book_actCounts rfl) c6.1 (by have := c6.2; omega)).trans ?_
              refine (zr_aload (v := zf b 71) rfl (zf_tA h _)).trans ?_
              refine (zr_gfr h (tr_book_beatsTold rfl)).trans ?_
              refine (zr_iload (v := enc (nz ((nz (l1 * 3)) + (nz (g 72 l1))))) rfl (enc_lt _)).trans ?_
              refine (zr_pshi 0 rfl).trans ?_
              by_cases c7 : 0 ≤ nz ((nz (l1 * 3)) + (nz (g 72 l1))) ∧ nz ((nz (l1 * 3)) + (nz (g 72 l1))) < 24
              · rw [if_pos c7] at k
                refine (zr_iast h (ta_book_beatsTold rfl) c7.1 (by have := c7.2; omega)).trans ?_
                exact k
              · rw [if_neg c7] at k; cases k
            · rw [if_neg c6] at k; cases k
          · rw [if_neg c5] at k; cases k
        · rw [if_neg c4] at k; cases k
      · rw [if_neg c3] at k; cases k
    · rw [if_neg c2] at k; cases k
  · rw [if_neg c1] at k
    exact (zr_if_ge_t (zs0) (Int.not_lt.mp c1)).trans k
theorem zs_4_0 (h : zOk b n f) {l1 : Int} {l2 : Int} {l3 : Int} {l4 : Int} {l5 : Int} (zl1 : zR l1) (zl2 : zR l2) (zl3 : zR l3) (zl4 : zR l4) (zl5 : zR l5) (k : zTh (zCl AL V ST ex_km d 1 [zf b 71, enc l1, enc l2] (zM n (zWf b f g))) (zM n (zWf b f g)) [] (fun S M => k4_6 V ST d (zCl AL V ST ex_km d) (zRn AL V ST ex_km d kt_4) (zP [zf b 71, enc l1, enc l2, enc l3, enc l4, enc l5, 137438953472, 137438953472]) S M) = some r) : k4_0 V ST d (zCl AL V ST ex_km d) (zRn AL V ST ex_km d kt_4) (zP [zf b 71, enc l1, enc l2, enc l3, enc l4, enc l5, 137438953472, 137438953472]) [] (zM n (zWf b f g)) = some r := by
  unfold k4_0
  refine (zr_aload (v := zf b 71) rfl (zf_tA h _)).trans ?_
  refine (zr_iload (v := enc l1) rfl (enc_lt _)).trans ?_
  refine (zr_iload (v := enc l2) rfl (enc_lt _)).trans ?_
  refine zr_invV h [enc l2, enc l1] rfl (tk_book rfl) (zA_cons (enc_l _) (zA_cons (enc_l _) zA_nil)) (zA_nil) (by decide) ?_
  exact k
theorem zs_6_17 (h : zOk b n f) {l0 : Nat} {l1 : Int} {l2 : Int} {l3 : Int} {l4 : Int} {l5 : Int} {l6 : Int} (zl0 : zI_fl l0) (zl1 : zR l1) (zl2 : zR l2) (zl3 : zR l3) (zl4 : zR l4) (zl5 : zR l5) (zl6 : zR l6) (k : (if 0 ≤ nz (g l0 14) ∧ nz (g l0 14) < 16 then (if 0 ≤ nz ((upd g (l0 + 1) (nz (g l0 14)) l1) l0 14) ∧ nz ((upd g (l0 + 1) (nz (g l0 14)) l1) l0 14) < 16 then (if 0 ≤ nz ((upd (upd g (l0 + 1) (nz (g l0 14)) l1) (l0 + 2) (nz ((upd g (l0 + 1) (nz (g l0 14)) l1) l0 14)) l2) l0 14) ∧ nz ((upd (upd g (l0 + 1) (nz (g l0 14)) l1) (l0 + 2) (nz ((upd g (l0 + 1) (nz (g l0 14)) l1) l0 14)) l2) l0 14) < 16 then (if 0 ≤ nz ((upd (upd (upd g (l0 + 1) (nz (g l0 14)) l1) (l0 + 2) (nz ((upd g (l0 + 1) (nz (g l0 14)) l1) l0 14)) l2) (l0 + 3) (nz ((upd (upd g (l0 + 1) (nz (g l0 14)) l1) (l0 + 2) (nz ((upd g (l0 + 1) (nz (g l0 14)) l1) l0 14)) l2) l0 14)) (zand l3 3)) l0 14) ∧ nz ((upd (upd (upd g (l0 + 1) (nz (g l0 14)) l1) (l0 + 2) (nz ((upd g (l0 + 1) (nz (g l0 14)) l1) l0 14)) l2) (l0 + 3) (nz ((upd (upd g (l0 + 1) (nz (g l0 14)) l1) (l0 + 2) (nz ((upd g (l0 + 1) (nz (g l0 14)) l1) l0 14)) l2) l0 14)) (zand l3 3)) l0 14) < 16 then (if 0 ≤ nz ((upd (upd (upd (upd g (l0 + 1) (nz (g l0 14)) l1) (l0 + 2) (nz ((upd g (l0 + 1) (nz (g l0 14)) l1) l0 14)) l2) (l0 + 3) (nz ((upd (upd g (l0 + 1) (nz (g l0 14)) l1) (l0 + 2) (nz ((upd g (l0 + 1) (nz (g l0 14)) l1) l0 14)) l2) l0 14)) (zand l3 3)) (l0 + 4) (nz ((upd (upd (upd g (l0 + 1) (nz (g l0 14)) l1) (l0 + 2) (nz ((upd g (l0 + 1) (nz (g l0 14)) l1) l0 14)) l2) (l0 + 3) (nz ((upd (upd g (l0 + 1) (nz (g l0 14)) l1) (l0 + 2) (nz ((upd g (l0 + 1) (nz (g l0 14)) l1) l0 14)) l2) l0 14)) (zand l3 3)) l0 14)) l4) l0 14) ∧ nz ((upd (upd (upd (upd g (l0 + 1) (nz (g l0 14)) l1) (l0 + 2) (nz ((upd g (l0 + 1) (nz (g l0 14)) l1) l0 14)) l2) (l0 + 3) (nz ((upd (upd g (l0 + 1) (nz (g l0 14)) l1) (l0 + 2) (nz ((upd g (l0 + 1) (nz (g l0 14)) l1) l0 14)) l2) l0 14)) (zand l3 3)) (l0 + 4) (nz ((upd (upd (upd g (l0 + 1) (nz (g l0 14)) l1) (l0 + 2) (nz ((upd g (l0 + 1) (nz (g l0 14)) l1) l0 14)) l2) (l0 + 3) (nz ((upd (upd g (l0 + 1) (nz (g l0 14)) l1) (l0 + 2) (nz ((upd g (l0 + 1) (nz (g l0 14)) l1) l0 14)) l2) l0 14)) (zand l3 3)) l0 14)) l4) l0 14) < 16 then (if 0 ≤ nz ((upd (upd (upd (upd (upd g (l0 + 1) (nz (g l0 14)) l1) (l0 + 2) (nz ((upd g (l0 + 1) (nz (g l0 14)) l1) l0 14)) l2) (l0 + 3) (nz ((upd (upd g (l0 + 1) (nz (g l0 14)) l1) (l0 + 2) (nz ((upd g (l0 + 1) (nz (g l0 14)) l1) l0 14)) l2) l0 14)) (zand l3 3)) (l0 + 4) (nz ((upd (upd (upd g (l0 + 1) (nz (g l0 14)) l1) (l0 + 2) (nz ((upd g (l0 + 1) (nz (g l0 14)) l1) l0 14)) l2) (l0 + 3) (nz ((upd (upd g (l0 + 1) (nz (g l0 14)) l1) (l0 + 2) (nz ((upd g (l0 + 1) (nz (g l0 14)) l1) l0 14)) l2) l0 14)) (zand l3 3)) l0 14)) l4) (l0 + 5) (nz ((upd (upd (upd (upd g (l0 + 1) (nz (g l0 14)) l1) (l0 + 2) (nz ((upd g (l0 + 1) (nz (g l0 14)) l1) l0 14)) l2) (l0 + 3) (nz ((upd (upd g (l0 + 1) (nz (g l0 14)) l1) (l0 + 2) (nz ((upd g (l0 + 1) (nz (g l0 14)) l1) l0 14)) l2) l0 14)) (zand l3 3)) (l0 + 4) (nz ((upd (upd (upd g (l0 + 1) (nz (g l0 14)) l1) (l0 + 2) (nz ((upd g (l0 + 1) (nz (g l0 14)) l1) l0 14)) l2) (l0 + 3) (nz ((upd (upd g (l0 + 1) (nz (g l0 14)) l1) (l0 + 2) (nz ((upd g (l0 + 1) (nz (g l0 14)) l1) l0 14)) l2) l0 14)) (zand l3 3)) l0 14)) l4) l0 14)) l5) l0 14) ∧ nz ((upd (upd (upd (upd (upd g (l0 + 1) (nz (g l0 14)) l1) (l0 + 2) (nz ((upd g (l0 + 1) (nz (g l0 14)) l1) l0 14)) l2) (l0 + 3) (nz ((upd (upd g (l0 + 1) (nz (g l0 14)) l1) (l0 + 2) (nz ((upd g (l0 + 1) (nz (g l0 14)) l1) l0 14)) l2) l0 14)) (zand l3 3)) (l0 + 4) (nz ((upd (upd (upd g (l0 + 1) (nz (g l0 14)) l1) (l0 + 2) (nz ((upd g (l0 + 1) (nz (g l0 14)) l1) l0 14)) l2) (l0 + 3) (nz ((upd (upd g (l0 + 1) (nz (g l0 14)) l1) (l0 + 2) (nz ((upd g (l0 + 1) (nz (g l0 14)) l1) l0 14)) l2) l0 14)) (zand l3 3)) l0 14)) l4) (l0 + 5) (nz ((upd (upd (upd (upd g (l0 + 1) (nz (g l0 14)) l1) (l0 + 2) (nz ((upd g (l0 + 1) (nz (g l0 14)) l1) l0 14)) l2) (l0 + 3) (nz ((upd (upd g (l0 + 1) (nz (g l0 14)) l1) (l0 + 2) (nz ((upd g (l0 + 1) (nz (g l0 14)) l1) l0 14)) l2) l0 14)) (zand l3 3)) (l0 + 4) (nz ((upd (upd (upd g (l0 + 1) (nz (g l0 14)) l1) (l0 + 2) (nz ((upd g (l0 + 1) (nz (g l0 14)) l1) l0 14)) l2) (l0 + 3) (nz ((upd (upd g (l0 + 1) (nz (g l0 14)) l1) (l0 + 2) (nz ((upd g (l0 + 1) (nz (g l0 14)) l1) l0 14)) l2) l0 14)) (zand l3 3)) l0 14)) l4) l0 14)) l5) l0 14) < 16 then (if 0 ≤ nz ((upd (upd (upd (upd (upd (upd g (l0 + 1) (nz (g l0 14)) l1) (l0 + 2) (nz ((upd g (l0 + 1) (nz (g l0 14)) l1) l0 14)) l2) (l0 + 3) (nz ((upd (upd g (l0 + 1) (nz (g l0 14)) l1) (l0 + 2) (nz ((upd g (l0 + 1) (nz (g l0 14)) l1) l0 14)) l2) l0 14)) (zand l3 3)) (l0 + 4) (nz ((upd (upd (upd g (l0 + 1) (nz (g l0 14)) l1) (l0 + 2) (nz ((upd g (l0 + 1) (nz (g l0 14)) l1) l0 14)) l2) (l0 + 3) (nz ((upd (upd g (l0 + 1) (nz (g l0 14)) l1) (l0 + 2) (nz ((upd g (l0 + 1) (nz (g l0 14)) l1) l0 14)) l2) l0 14)) (zand l3 3)) l0 14)) l4) (l0 + 5) (nz ((upd (upd (upd (upd g (l0 + 1) (nz (g l0 14)) l1) (l0 + 2) (nz ((upd g (l0 + 1) (nz (g l0 14)) l1) l0 14)) l2) (l0 + 3) (nz ((upd (upd g (l0 + 1) (nz (g l0 14)) l1) (l0 + 2) (nz ((upd g (l0 + 1) (nz (g l0 14)) l1) l0 14)) l2) l0 14)) (zand l3 3)) (l0 + 4) (nz ((upd (upd (upd g (l0 + 1) (nz (g l0 14)) l1) (l0 + 2) (nz ((upd g (l0 + 1) (nz (g l0 14)) l1) l0 14)) l2) (l0 + 3) (nz ((upd (upd g (l0 + 1) (nz (g l0 14)) l1) (l0 + 2) (nz ((upd g (l0 + 1) (nz (g l0 14)) l1) l0 14)) l2) l0 14)) (zand l3 3)) l0 14)) l4) l0 14)) l5) (l0 + 6) (nz ((upd (upd (upd (upd (upd g (l0 + 1) (nz (g l0 14)) l1) (l0 + 2) (nz ((upd g (l0 + 1) (nz (g l0 14)) l1) l0 14)) l2) (l0 + 3) (nz ((upd (upd g (l0 + 1) (nz (g l0 14)) l1) (l0 + 2) (nz ((upd g (l0 + 1) (nz (g l0 14)) l1) l0 14)) l2) l0 14)) (zand l3 3)) (l0 + 4) (nz ((upd (upd (upd g (l0 + 1) (nz (g l0 14)) l1) (l0 + 2) (nz ((upd g (l0 + 1) (nz (g l0 14)) l1) l0 14)) l2) (l0 + 3) (nz ((upd (upd g (l0 + 1) (nz (g l0 14)) l1) (l0 + 2) (nz ((upd g (l0 + 1) (nz (g l0 14)) l1) l0 14)) l2) l0 14)) (zand l3 3)) l0 14)) l4) (l0 + 5) (nz ((upd (upd (upd (upd g (l0 + 1) (nz (g l0 14)) l1) (l0 + 2) (nz ((upd g (l0 + 1) (nz (g l0 14)) l1) l0 14)) l2) (l0 + 3) (nz ((upd (upd g (l0 + 1) (nz (g l0 14)) l1) (l0 + 2) (nz ((upd g (l0 + 1) (nz (g l0 14)) l1) l0 14)) l2) l0 14)) (zand l3 3)) (l0 + 4) (nz ((upd (upd (upd g (l0 + 1) (nz (g l0 14)) l1) (l0 + 2) (nz ((upd g (l0 + 1) (nz (g l0 14)) l1) l0 14)) l2) (l0 + 3) (nz ((upd (upd g (l0 + 1) (nz (g l0 14)) l1) (l0 + 2) (nz ((upd g (l0 + 1) (nz (g l0 14)) l1) l0 14)) l2) l0 14)) (zand l3 3)) l0 14)) l4) l0 14)) l5) l0 14)) l6) l0 14) ∧ nz ((upd (upd (upd (upd (upd (upd g (l0 + 1) (nz (g l0 14)) l1) (l0 + 2) (nz ((upd g (l0 + 1) (nz (g l0 14)) l1) l0 14)) l2) (l0 + 3) (nz ((upd (upd g (l0 + 1) (nz (g l0 14)) l1) (l0 + 2) (nz ((upd g (l0 + 1) (nz (g l0 14)) l1) l0 14)) l2) l0 14)) (zand l3 3)) (l0 + 4) (nz ((upd (upd (upd g (l0 + 1) (nz (g l0 14)) l1) (l0 + 2) (nz ((upd g (l0 + 1) (nz (g l0 14)) l1) l0 14)) l2) (l0 + 3) (nz ((upd (upd g (l0 + 1) (nz (g l0 14)) l1) (l0 + 2) (nz ((upd g (l0 + 1) (nz (g l0 14)) l1) l0 14)) l2) l0 14)) (zand l3 3)) l0 14)) l4) (l0 + 5) (nz ((upd (upd (upd (upd g (l0 + 1) (nz (g l0 14)) l1) (l0 + 2) (nz ((upd g (l0 + 1) (nz (g l0 14)) l1) l0 14)) l2) (l0 + 3) (nz ((upd (upd g (l0 + 1) (nz (g l0 14)) l1) (l0 + 2) (nz ((upd g (l0 + 1) (nz (g l0 14)) l1) l0 14)) l2) l0 14)) (zand l3 3)) (l0 + 4) (nz ((upd (upd (upd g (l0 + 1) (nz (g l0 14)) l1) (l0 + 2) (nz ((upd g (l0 + 1) (nz (g l0 14)) l1) l0 14)) l2) (l0 + 3) (nz ((upd (upd g (l0 + 1) (nz (g l0 14)) l1) (l0 + 2) (nz ((upd g (l0 + 1) (nz (g l0 14)) l1) l0 14)) l2) l0 14)) (zand l3 3)) l0 14)) l4) l0 14)) l5) (l0 + 6) (nz ((upd (upd (upd (upd (upd g (l0 + 1) (nz (g l0 14)) l1) (l0 + 2) (nz ((upd g (l0 + 1) (nz (g l0 14)) l1) l0 14)) l2) (l0 + 3) (nz ((upd (upd g (l0 + 1) (nz (g l0 14)) l1) (l0 + 2) (nz ((upd g (l0 + 1) (nz (g l0 14)) l1) l0 14)) l2) l0 14)) (zand l3 3)) (l0 + 4) (nz ((upd (upd (upd g (l0 + 1) (nz (g l0 14)) l1) (l0 + 2) (nz ((upd g (l0 + 1) (nz (g l0 14)) l1) l0 14)) l2) (l0 + 3) (nz ((upd (upd g (l0 + 1) (nz (g l0 14)) l1) (l0 + 2) (nz ((upd g (l0 + 1) (nz (g l0 14)) l1) l0 14)) l2) l0 14)) (zand l3 3)) l0 14)) l4) (l0 + 5) (nz ((upd (upd (upd (upd g (l0 + 1) (nz (g l0 14)) l1) (l0 + 2) (nz ((upd g (l0 + 1) (nz (g l0 14)) l1) l0 14)) l2) (l0 + 3) (nz ((upd (upd g (l0 + 1) (nz (g l0 14)) l1) (l0 + 2) (nz ((upd g (l0 + 1) (nz (g l0 14)) l1) l0 14)) l2) l0 14)) (zand l3 3)) (l0 + 4) (nz ((upd (upd (upd g (l0 + 1) (nz (g l0 14)) l1) (l0 + 2) (nz ((upd g (l0 + 1) (nz (g l0 14)) l1) l0 14)) l2) (l0 + 3) (nz ((upd (upd g (l0 + 1) (nz (g l0 14)) l1) (l0 + 2) (nz ((upd g (l0 + 1) (nz (g l0 14)) l1) l0 14)) l2) l0 14)) (zand l3 3)) l0 14)) l4) l0 14)) l5) l0 14)) l6) l0 14) < 16 then (if 0 ≤ nz ((upd (upd (upd (upd (upd (upd (upd g (l0 + 1) (nz (g l0 14)) l1) (l0 + 2) (nz ((upd g (l0 + 1) (nz (g l0 14)) l1) l0 14)) l2) (l0 + 3) (nz ((upd (upd g (l0 + 1) (nz (g l0 14)) l1) (l0 + 2) (nz ((upd g (l0 + 1) (nz (g l0 14)) l1) l0 14)) l2) l0 14)) (zand l3 3)) (l0 + 4) (nz ((upd (upd (upd g (l0 + 1) (nz (g l0 14)) l1) (l0 + 2) (nz ((upd g (l0 + 1) (nz (g l0 14)) l1) l0 14)) l2) (l0 + 3) (nz ((upd (upd g (l0 + 1) (nz (g l0 14)) l1) (l0 + 2) (nz ((upd g (l0 + 1) (nz (g l0 14)) l1) l0 14)) l2) l0 14)) (zand l3 3)) l0 14)) l4) (l0 + 5) (nz ((upd (upd (upd (upd g (l0 + 1) (nz (g l0 14)) l1) (l0 + 2) (nz ((upd g (l0 + 1) (nz (g l0 14)) l1) l0 14)) l2) (l0 + 3) (nz ((upd (upd g (l0 + 1) (nz (g l0 14)) l1) (l0 + 2) (nz ((upd g (l0 + 1) (nz (g l0 14)) l1) l0 14)) l2) l0 14)) (zand l3 3)) (l0 + 4) (nz ((upd (upd (upd g (l0 + 1) (nz (g l0 14)) l1) (l0 + 2) (nz ((upd g (l0 + 1) (nz (g l0 14)) l1) l0 14)) l2) (l0 + 3) (nz ((upd (upd g (l0 + 1) (nz (g l0 14)) l1) (l0 + 2) (nz ((upd g (l0 + 1) (nz (g l0 14)) l1) l0 14)) l2) l0 14)) (zand l3 3)) l0 14)) l4) l0 14)) l5) (l0 + 6) (nz ((upd (upd (upd (upd (upd g (l0 + 1) (nz (g l0 14)) l1) (l0 + 2) (nz ((upd g (l0 + 1) (nz (g l0 14)) l1) l0 14)) l2) (l0 + 3) (nz ((upd (upd g (l0 + 1) (nz (g l0 14)) l1) (l0 + 2) (nz ((upd g (l0 + 1) (nz (g l0 14)) l1) l0 14)) l2) l0 14)) (zand l3 3)) (l0 + 4) (nz ((upd (upd (upd g (l0 + 1) (nz (g l0 14)) l1) (l0 + 2) (nz ((upd g (l0 + 1) (nz (g l0 14)) l1) l0 14)) l2) (l0 + 3) (nz ((upd (upd g (l0 + 1) (nz (g l0 14)) l1) (l0 + 2) (nz ((upd g (l0 + 1) (nz (g l0 14)) l1) l0 14)) l2) l0 14)) (zand l3 3)) l0 14)) l4) (l0 + 5) (nz ((upd (upd (upd (upd g (l0 + 1) (nz (g l0 14)) l1) (l0 + 2) (nz ((upd g (l0 + 1) (nz (g l0 14)) l1) l0 14)) l2) (l0 + 3) (nz ((upd (upd g (l0 + 1) (nz (g l0 14)) l1) (l0 + 2) (nz ((upd g (l0 + 1) (nz (g l0 14)) l1) l0 14)) l2) l0 14)) (zand l3 3)) (l0 + 4) (nz ((upd (upd (upd g (l0 + 1) (nz (g l0 14)) l1) (l0 + 2) (nz ((upd g (l0 + 1) (nz (g l0 14)) l1) l0 14)) l2) (l0 + 3) (nz ((upd (upd g (l0 + 1) (nz (g l0 14)) l1) (l0 + 2) (nz ((upd g (l0 + 1) (nz (g l0 14)) l1) l0 14)) l2) l0 14)) (zand l3 3)) l0 14)) l4) l0 14)) l5) l0 14)) l6) (l0 + 9) (nz ((upd (upd (upd (upd (upd (upd g (l0 + 1) (nz (g l0 14)) l1) (l0 + 2) (nz ((upd g (l0 + 1) (nz (g l0 14)) l1) l0 14)) l2) (l0 + 3) (nz ((upd (upd g (l0 + 1) (nz (g l0 14)) l1) (l0 + 2) (nz ((upd g (l0 + 1) (nz (g l0 14)) l1) l0 14)) l2) l0 14)) (zand l3 3)) (l0 + 4) (nz ((upd (upd (upd g (l0 + 1) (nz (g l0 14)) l1) (l0 + 2) (nz ((upd g (l0 + 1) (nz (g l0 14)) l1) l0 14)) l2) (l0 + 3) (nz ((upd (upd g (l0 + 1) (nz (g l0 14)) l1) (l0 + 2) (nz ((upd g (l0 + 1) (nz (g l0 14)) l1) l0 14)) l2) l0 14)) (zand l3 3)) l0 14)) l4) (l0 + 5) (nz ((upd (upd (upd (upd g (l0 + 1) (nz (g l0 14)) l1) (l0 + 2) (nz ((upd g (l0 + 1) (nz (g l0 14)) l1) l0 14)) l2) (l0 + 3) (nz ((upd (upd g (l0 + 1) (nz (g l0 14)) l1) (l0 + 2) (nz ((upd g (l0 + 1) (nz (g l0 14)) l1) l0 14)) l2) l0 14)) (zand l3 3)) (l0 + 4) (nz ((upd (upd (upd g (l0 + 1) (nz (g l0 14)) l1) (l0 + 2) (nz ((upd g (l0 + 1) (nz (g l0 14)) l1) l0 14)) l2) (l0 + 3) (nz ((upd (upd g (l0 + 1) (nz (g l0 14)) l1) (l0 + 2) (nz ((upd g (l0 + 1) (nz (g l0 14)) l1) l0 14)) l2) l0 14)) (zand l3 3)) l0 14)) l4) l0 14)) l5) (l0 + 6) (nz ((upd (upd (upd (upd (upd g (l0 + 1) (nz (g l0 14)) l1) (l0 + 2) (nz ((upd g (l0 + 1) (nz (g l0 14)) l1) l0 14)) l2) (l0 + 3) (nz ((upd (upd g (l0 + 1) (nz (g l0 14)) l1) (l0 + 2) (nz ((upd g (l0 + 1) (nz (g l0 14)) l1) l0 14)) l2) l0 14)) (zand l3 3)) (l0 + 4) (nz ((upd (upd (upd g (l0 + 1) (nz (g l0 14)) l1) (l0 + 2) (nz ((upd g (l0 + 1) (nz (g l0 14)) l1) l0 14)) l2) (l0 + 3) (nz ((upd (upd g (l0 + 1) (nz (g l0 14)) l1) (l0 + 2) (nz ((upd g (l0 + 1) (nz (g l0 14)) l1) l0 14)) l2) l0 14)) (zand l3 3)) l0 14)) l4) (l0 + 5) (nz ((upd (upd (upd (upd g (l0 + 1) (nz (g l0 14)) l1) (l0 + 2) (nz ((upd g (l0 + 1) (nz (g l0 14)) l1) l0 14)) l2) (l0 + 3) (nz ((upd (upd g (l0 + 1) (nz (g l0 14)) l1) (l0 + 2) (nz ((upd g (l0 + 1) (nz (g l0 14)) l1) l0 14)) l2) l0 14)) (zand l3 3)) (l0 + 4) (nz ((upd (upd (upd g (l0 + 1) (nz (g l0 14)) l1) (l0 + 2) (nz ((upd g (l0 + 1) (nz (g l0 14)) l1) l0 14)) l2) (l0 + 3) (nz ((upd (upd g (l0 + 1) (nz (g l0 14)) l1) (l0 + 2) (nz ((upd g (l0 + 1) (nz (g l0 14)) l1) l0 14)) l2) l0 14)) (zand l3 3)) l0 14)) l4) l0 14)) l5) l0 14)) l6) l0 14)) 0) l0 14) ∧ nz ((upd (upd (upd (upd (upd (upd (upd g (l0 + 1) (nz (g l0 14)) l1) (l0 + 2) (nz ((upd g (l0 + 1) (nz (g l0 14)) l1) l0 14)) l2) (l0 + 3) (nz ((upd (upd g (l0 + 1) (nz (g l0 14)) l1) (l0 + 2) (nz ((upd g (l0 + 1) (nz (g l0 14)) l1) l0 14)) l2) l0 14)) (zand l3 3)) (l0 + 4) (nz ((upd (upd (upd g (l0 + 1) (nz (g l0 14)) l1) (l0 + 2) (nz ((upd g (l0 + 1) (nz (g l0 14)) l1) l0 14)) l2) (l0 + 3) (nz ((upd (upd g (l0 + 1) (nz (g l0 14)) l1) (l0 + 2) (nz ((upd g (l0 + 1) (nz (g l0 14)) l1) l0 14)) l2) l0 14)) (zand l3 3)) l0 14)) l4) (l0 + 5) (nz ((upd (upd (upd (upd g (l0 + 1) (nz (g l0 14)) l1) (l0 + 2) (nz ((upd g (l0 + 1) (nz (g l0 14)) l1) l0 14)) l2) (l0 + 3) (nz ((upd (upd g (l0 + 1) (nz (g l0 14)) l1) (l0 + 2) (nz ((upd g (l0 + 1) (nz (g l0 14)) l1) l0 14)) l2) l0 14)) (zand l3 3)) (l0 + 4) (nz ((upd (upd (upd g (l0 + 1) (nz (g l0 14)) l1) (l0 + 2) (nz ((upd g (l0 + 1) (nz (g l0 14)) l1) l0 14)) l2) (l0 + 3) (nz ((upd (upd g (l0 + 1) (nz (g l0 14)) l1) (l0 + 2) (nz ((upd g (l0 + 1) (nz (g l0 14)) l1) l0 14)) l2) l0 14)) (zand l3 3)) l0 14)) l4) l0 14)) l5) (l0 + 6) (nz ((upd (upd (upd (upd (upd g (l0 + 1) (nz (g l0 14)) l1) (l0 + 2) (nz ((upd g (l0 + 1) (nz (g l0 14)) l1) l0 14)) l2) (l0 + 3) (nz ((upd (upd g (l0 + 1) (nz (g l0 14)) l1) (l0 + 2) (nz ((upd g (l0 + 1) (nz (g l0 14)) l1) l0 14)) l2) l0 14)) (zand l3 3)) (l0 + 4) (nz ((upd (upd (upd g (l0 + 1) (nz (g l0 14)) l1) (l0 + 2) (nz ((upd g (l0 + 1) (nz (g l0 14)) l1) l0 14)) l2) (l0 + 3) (nz ((upd (upd g (l0 + 1) (nz (g l0 14)) l1) (l0 + 2) (nz ((upd g (l0 + 1) (nz (g l0 14)) l1) l0 14)) l2) l0 14)) (zand l3 3)) l0 14)) l4) (l0 + 5) (nz ((upd (upd (upd (upd g (l0 + 1) (nz (g l0 14)) l1) (l0 + 2) (nz ((upd g (l0 + 1) (nz (g l0 14)) l1) l0 14)) l2) (l0 + 3) (nz ((upd (upd g (l0 + 1) (nz (g l0 14)) l1) (l0 + 2) (nz ((upd g (l0 + 1) (nz (g l0 14)) l1) l0 14)) l2) l0 14)) (zand l3 3)) (l0 + 4) (nz ((upd (upd (upd g (l0 + 1) (nz (g l0 14)) l1) (l0 + 2) (nz ((upd g (l0 + 1) (nz (g l0 14)) l1) l0 14)) l2) (l0 + 3) (nz ((upd (upd g (l0 + 1) (nz (g l0 14)) l1) (l0 + 2) (nz ((upd g (l0 + 1) (nz (g l0 14)) l1) l0 14)) l2) l0 14)) (zand l3 3)) l0 14)) l4) l0 14)) l5) l0 14)) l6) (l0 + 9) (nz ((upd (upd (upd (upd (upd (upd g (l0 + 1) (nz (g l0 14)) l1) (l0 + 2) (nz ((upd g (l0 + 1) (nz (g l0 14)) l1) l0 14)) l2) (l0 + 3) (nz ((upd (upd g (l0 + 1) (nz (g l0 14)) l1) (l0 + 2) (nz ((upd g (l0 + 1) (nz (g l0 14)) l1) l0 14)) l2) l0 14)) (zand l3 3)) (l0 + 4) (nz ((upd (upd (upd g (l0 + 1) (nz (g l0 14)) l1) (l0 + 2) (nz ((upd g (l0 + 1) (nz (g l0 14)) l1) l0 14)) l2) (l0 + 3) (nz ((upd (upd g (l0 + 1) (nz (g l0 14)) l1) (l0 + 2) (nz ((upd g (l0 + 1) (nz (g l0 14)) l1) l0 14)) l2) l0 14)) (zand l3 3)) l0 14)) l4) (l0 + 5) (nz ((upd (upd (upd (upd g (l0 + 1) (nz (g l0 14)) l1) (l0 + 2) (nz ((upd g (l0 + 1) (nz (g l0 14)) l1) l0 14)) l2) (l0 + 3) (nz ((upd (upd g (l0 + 1) (nz (g l0 14)) l1) (l0 + 2) (nz ((upd g (l0 + 1) (nz (g l0 14)) l1) l0 14)) l2) l0 14)) (zand l3 3)) (l0 + 4) (nz ((upd (upd (upd g (l0 + 1) (nz (g l0 14)) l1) (l0 + 2) (nz ((upd g (l0 + 1) (nz (g l0 14)) l1) l0 14)) l2) (l0 + 3) (nz ((upd (upd g (l0 + 1) (nz (g l0 14)) l1) (l0 + 2) (nz ((upd g (l0 + 1) (nz (g l0 14)) l1) l0 14)) l2) l0 14)) (zand l3 3)) l0 14)) l4) l0 14)) l5) (l0 + 6) (nz ((upd (upd (upd (upd (upd g (l0 + 1) (nz (g l0 14)) l1) (l0 + 2) (nz ((upd g (l0 + 1) (nz (g l0 14)) l1) l0 14)) l2) (l0 + 3) (nz ((upd (upd g (l0 + 1) (nz (g l0 14)) l1) (l0 + 2) (nz ((upd g (l0 + 1) (nz (g l0 14)) l1) l0 14)) l2) l0 14)) (zand l3 3)) (l0 + 4) (nz ((upd (upd (upd g (l0 + 1) (nz (g l0 14)) l1) (l0 + 2) (nz ((upd g (l0 + 1) (nz (g l0 14)) l1) l0 14)) l2) (l0 + 3) (nz ((upd (upd g (l0 + 1) (nz (g l0 14)) l1) (l0 + 2) (nz ((upd g (l0 + 1) (nz (g l0 14)) l1) l0 14)) l2) l0 14)) (zand l3 3)) l0 14)) l4) (l0 + 5) (nz ((upd (upd (upd (upd g (l0 + 1) (nz (g l0 14)) l1) (l0 + 2) (nz ((upd g (l0 + 1) (nz (g l0 14)) l1) l0 14)) l2) (l0 + 3) (nz ((upd (upd g (l0 + 1) (nz (g l0 14)) l1) (l0 + 2) (nz ((upd g (l0 + 1) (nz (g l0 14)) l1) l0 14)) l2) l0 14)) (zand l3 3)) (l0 + 4) (nz ((upd (upd (upd g (l0 + 1) (nz (g l0 14)) l1) (l0 + 2) (nz ((upd g (l0 + 1) (nz (g l0 14)) l1) l0 14)) l2) (l0 + 3) (nz ((upd (upd g (l0 + 1) (nz (g l0 14)) l1) (l0 + 2) (nz ((upd g (l0 + 1) (nz (g l0 14)) l1) l0 14)) l2) l0 14)) (zand l3 3)) l0 14)) l4) l0 14)) l5) l0 14)) l6) l0 14)) 0) l0 14) < 16 then (if 0 ≤ nz ((upd (upd (upd (upd (upd (upd (upd (upd g (l0 + 1) (nz (g l0 14)) l1) (l0 + 2) (nz ((upd g (l0 + 1) (nz (g l0 14)) l1) l0 14)) l2) (l0 + 3) (nz ((upd (upd g (l0 + 1) (nz (g l0 14)) l1) (l0 + 2) (nz ((upd g (l0 + 1) (nz (g l0 14)) l1) l0 14)) l2) l0 14)) (zand l3 3)) (l0 + 4) (nz ((upd (upd (upd g (l0 + 1) (nz (g l0 14)) l1) (l0 + 2) (nz ((upd g (l0 + 1) (nz (g l0 14)) l1) l0 14)) l2) (l0 + 3) (nz ((upd (upd g (l0 + 1) (nz (g l0 14)) l1) (l0 + 2) (nz ((upd g (l0 + 1) (nz (g l0 14)) l1) l0 14)) l2) l0 14)) (zand l3 3)) l0 14)) l4) (l0 + 5) (nz ((upd (upd (upd (upd g (l0 + 1) (nz (g l0 14)) l1) (l0 + 2) (nz ((upd g (l0 + 1) (nz (g l0 14)) l1) l0 14)) l2) (l0 + 3) (nz ((upd (upd g (l0 + 1) (nz (g l0 14)) l1) (l0 + 2) (nz ((upd g (l0 + 1) (nz (g l0 14)) l1) l0 14)) l2) l0 14)) (zand l3 3)) (l0 + 4) (nz ((upd (upd (upd g (l0 + 1) (nz (g l0 14)) l1) (l0 + 2) (nz ((upd g (l0 + 1) (nz (g l0 14)) l1) l0 14)) l2) (l0 + 3) (nz ((upd (upd g (l0 + 1) (nz (g l0 14)) l1) (l0 + 2) (nz ((upd g (l0 + 1) (nz (g l0 14)) l1) l0 14)) l2) l0 14)) (zand l3 3)) l0 14)) l4) l0 14)) l5) (l0 + 6) (nz ((upd (upd (upd (upd (upd g (l0 + 1) (nz (g l0 14)) l1) (l0 + 2) (nz ((upd g (l0 + 1) (nz (g l0 14)) l1) l0 14)) l2) (l0 + 3) (nz ((upd (upd g (l0 + 1) (nz (g l0 14)) l1) (l0 + 2) (nz ((upd g (l0 + 1) (nz (g l0 14)) l1) l0 14)) l2) l0 14)) (zand l3 3)) (l0 + 4) (nz ((upd (upd (upd g (l0 + 1) (nz (g l0 14)) l1) (l0 + 2) (nz ((upd g (l0 + 1) (nz (g l0 14)) l1) l0 14)) l2) (l0 + 3) (nz ((upd (upd g (l0 + 1) (nz (g l0 14)) l1) (l0 + 2) (nz ((upd g (l0 + 1) (nz (g l0 14)) l1) l0 14)) l2) l0 14)) (zand l3 3)) l0 14)) l4) (l0 + 5) (nz ((upd (upd (upd (upd g (l0 + 1) (nz (g l0 14)) l1) (l0 + 2) (nz ((upd g (l0 + 1) (nz (g l0 14)) l1) l0 14)) l2) (l0 + 3) (nz ((upd (upd g (l0 + 1) (nz (g l0 14)) l1) (l0 + 2) (nz ((upd g (l0 + 1) (nz (g l0 14)) l1) l0 14)) l2) l0 14)) (zand l3 3)) (l0 + 4) (nz ((upd (upd (upd g (l0 + 1) (nz (g l0 14)) l1) (l0 + 2) (nz ((upd g (l0 + 1) (nz (g l0 14)) l1) l0 14)) l2) (l0 + 3) (nz ((upd (upd g (l0 + 1) (nz (g l0 14)) l1) (l0 + 2) (nz ((upd g (l0 + 1) (nz (g l0 14)) l1) l0 14)) l2) l0 14)) (zand l3 3)) l0 14)) l4) l0 14)) l5) l0 14)) l6) (l0 + 9) (nz ((upd (upd (upd (upd (upd (upd g (l0 + 1) (nz (g l0 14)) l1) (l0 + 2) (nz ((upd g (l0 + 1) (nz (g l0 14)) l1) l0 14)) l2) (l0 + 3) (nz ((upd (upd g (l0 + 1) (nz (g l0 14)) l1) (l0 + 2) (nz ((upd g (l0 + 1) (nz (g l0 14)) l1) l0 14)) l2) l0 14)) (zand l3 3)) (l0 + 4) (nz ((upd (upd (upd g (l0 + 1) (nz (g l0 14)) l1) (l0 + 2) (nz ((upd g (l0 + 1) (nz (g l0 14)) l1) l0 14)) l2) (l0 + 3) (nz ((upd (upd g (l0 + 1) (nz (g l0 14)) l1) (l0 + 2) (nz ((upd g (l0 + 1) (nz (g l0 14)) l1) l0 14)) l2) l0 14)) (zand l3 3)) l0 14)) l4) (l0 + 5) (nz ((upd (upd (upd (upd g (l0 + 1) (nz (g l0 14)) l1) (l0 + 2) (nz ((upd g (l0 + 1) (nz (g l0 14)) l1) l0 14)) l2) (l0 + 3) (nz ((upd (upd g (l0 + 1) (nz (g l0 14)) l1) (l0 + 2) (nz ((upd g (l0 + 1) (nz (g l0 14)) l1) l0 14)) l2) l0 14)) (zand l3 3)) (l0 + 4) (nz ((upd (upd (upd g (l0 + 1) (nz (g l0 14)) l1) (l0 + 2) (nz ((upd g (l0 + 1) (nz (g l0 14)) l1) l0 14)) l2) (l0 + 3) (nz ((upd (upd g (l0 + 1) (nz (g l0 14)) l1) (l0 + 2) (nz ((upd g (l0 + 1) (nz (g l0 14)) l1) l0 14)) l2) l0 14)) (zand l3 3)) l0 14)) l4) l0 14)) l5) (l0 + 6) (nz ((upd (upd (upd (upd (upd g (l0 + 1) (nz (g l0 14)) l1) (l0 + 2) (nz ((upd g (l0 + 1) (nz (g l0 14)) l1) l0 14)) l2) (l0 + 3) (nz ((upd (upd g (l0 + 1) (nz (g l0 14)) l1) (l0 + 2) (nz ((upd g (l0 + 1) (nz (g l0 14)) l1) l0 14)) l2) l0 14)) (zand l3 3)) (l0 + 4) (nz ((upd (upd (upd g (l0 + 1) (nz (g l0 14)) l1) (l0 + 2) (nz ((upd g (l0 + 1) (nz (g l0 14)) l1) l0 14)) l2) (l0 + 3) (nz ((upd (upd g (l0 + 1) (nz (g l0 14)) l1) (l0 + 2) (nz ((upd g (l0 + 1) (nz (g l0 14)) l1) l0 14)) l2) l0 14)) (zand l3 3)) l0 14)) l4) (l0 + 5) (nz ((upd (upd (upd (upd g (l0 + 1) (nz (g l0 14)) l1) (l0 + 2) (nz ((upd g (l0 + 1) (nz (g l0 14)) l1) l0 14)) l2) (l0 + 3) (nz ((upd (upd g (l0 + 1) (nz (g l0 14)) l1) (l0 + 2) (nz ((upd g (l0 + 1) (nz (g l0 14)) l1) l0 14)) l2) l0 14)) (zand l3 3)) (l0 + 4) (nz ((upd (upd (upd g (l0 + 1) (nz (g l0 14)) l1) (l0 + 2) (nz ((upd g (l0 + 1) (nz (g l0 14)) l1) l0 14)) l2) (l0 + 3) (nz ((upd (upd g (l0 + 1) (nz (g l0 14)) l1) (l0 + 2) (nz ((upd g (l0 + 1) (nz (g l0 14)) l1) l0 14)) l2) l0 14)) (zand l3 3)) l0 14)) l4) l0 14)) l5) l0 14)) l6) l0 14)) 0) (l0 + 10) (nz ((upd (upd (upd (upd (upd (upd (upd g (l0 + 1) (nz (g l0 14)) l1) (l0 + 2) (nz ((upd g (l0 + 1) (nz (g l0 14)) l1) l0 14)) l2) (l0 + 3) (nz ((upd (upd g (l0 + 1) (nz (g l0 14)) l1) (l0 + 2) (nz ((upd g (l0 + 1) (nz (g l0 14)) l1) l0 14)) l2) l0 14)) (zand l3 3)) (l0 + 4) (nz ((upd (upd (upd g (l0 + 1) (nz (g l0 14)) l1) (l0 + 2) (nz ((upd g (l0 + 1) (nz (g l0 14)) l1) l0 14)) l2) (l0 + 3) (nz ((upd (upd g (l0 + 1) (nz (g l0 14)) l1) (l0 + 2) (nz ((upd g (l0 + 1) (nz (g l0 14)) l1) l0 14)) l2) l0 14)) (zand l3 3)) l0 14)) l4) (l0 + 5) (nz ((upd (upd (upd (upd g (l0 + 1) (nz (g l0 14)) l1) (l0 + 2) (nz ((upd g (l0 + 1) (nz (g l0 14)) l1) l0 14)) l2) (l0 + 3) (nz ((upd (upd g (l0 + 1) (nz (g l0 14)) l1) (l0 + 2) (nz ((upd g (l0 + 1) (nz (g l0 14)) l1) l0 14)) l2) l0 14)) (zand l3 3)) (l0 + 4) (nz ((upd (upd (upd g (l0 + 1) (nz (g l0 14)) l1) (l0 + 2) (nz ((upd g (l0 + 1) (nz (g l0 14)) l1) l0 14)) l2) (l0 + 3) (nz ((upd (upd g (l0 + 1) (nz (g l0 14)) l1) (l0 + 2) (nz ((upd g (l0 + 1) (nz (g l0 14)) l1) l0 14)) l2) l0 14)) (zand l3 3)) l0 14)) l4) l0 14)) l5) (l0 + 6) (nz ((upd (upd (upd (upd (upd g (l0 + 1) (nz (g l0 14)) l1) (l0 + 2) (nz ((upd g (l0 + 1) (nz (g l0 14)) l1) l0 14)) l2) (l0 + 3) (nz ((upd (upd g (l0 + 1) (nz (g l0 14)) l1) (l0 + 2) (nz ((upd g (l0 + 1) (nz (g l0 14)) l1) l0 14)) l2) l0 14)) (zand l3 3)) (l0 + 4) (nz ((upd (upd (upd g (l0 + 1) (nz (g l0 14)) l1) (l0 + 2) (nz ((upd g (l0 + 1) (nz (g l0 14)) l1) l0 14)) l2) (l0 + 3) (nz ((upd (upd g (l0 + 1) (nz (g l0 14)) l1) (l0 + 2) (nz ((upd g (l0 + 1) (nz (g l0 14)) l1) l0 14)) l2) l0 14)) (zand l3 3)) l0 14)) l4) (l0 + 5) (nz ((upd (upd (upd (upd g (l0 + 1) (nz (g l0 14)) l1) (l0 + 2) (nz ((upd g (l0 + 1) (nz (g l0 14)) l1) l0 14)) l2) (l0 + 3) (nz ((upd (upd g (l0 + 1) (nz (g l0 14)) l1) (l0 + 2) (nz ((upd g (l0 + 1) (nz (g l0 14)) l1) l0 14)) l2) l0 14)) (zand l3 3)) (l0 + 4) (nz ((upd (upd (upd g (l0 + 1) (nz (g l0 14)) l1) (l0 + 2) (nz ((upd g (l0 + 1) (nz (g l0 14)) l1) l0 14)) l2) (l0 + 3) (nz ((upd (upd g (l0 + 1) (nz (g l0 14)) l1) (l0 + 2) (nz ((upd g (l0 + 1) (nz (g l0 14)) l1) l0 14)) l2) l0 14)) (zand l3 3)) l0 14)) l4) l0 14)) l5) l0 14)) l6) (l0 + 9) (nz ((upd (upd (upd (upd (upd (upd g (l0 + 1) (nz (g l0 14)) l1) (l0 + 2) (nz ((upd g (l0 + 1) (nz (g l0 14)) l1) l0 14)) l2) (l0 + 3) (nz ((upd (upd g (l0 + 1) (nz (g l0 14)) l1) (l0 + 2) (nz ((upd g (l0 + 1) (nz (g l0 14)) l1) l0 14)) l2) l0 14)) (zand l3 3)) (l0 + 4) (nz ((upd (upd (upd g (l0 + 1) (nz (g l0 14)) l1) (l0 + 2) (nz ((upd g (l0 + 1) (nz (g l0 14)) l1) l0 14)) l2) (l0 + 3) (nz ((upd (upd g (l0 + 1) (nz (g l0 14)) l1) (l0 + 2) (nz ((upd g (l0 + 1) (nz (g l0 14)) l1) l0 14)) l2) l0 14)) (zand l3 3)) l0 14)) l4) (l0 + 5) (nz ((upd (upd (upd (upd g (l0 + 1) (nz (g l0 14)) l1) (l0 + 2) (nz ((upd g (l0 + 1) (nz (g l0 14)) l1) l0 14)) l2) (l0 + 3) (nz ((upd (upd g (l0 + 1) (nz (g l0 14)) l1) (l0 + 2) (nz ((upd g (l0 + 1) (nz (g l0 14)) l1) l0 14)) l2) l0 14)) (zand l3 3)) (l0 + 4) (nz ((upd (upd (upd g (l0 + 1) (nz (g l0 14)) l1) (l0 + 2) (nz ((upd g (l0 + 1) (nz (g l0 14)) l1) l0 14)) l2) (l0 + 3) (nz ((upd (upd g (l0 + 1) (nz (g l0 14)) l1) (l0 + 2) (nz ((upd g (l0 + 1) (nz (g l0 14)) l1) l0 14)) l2) l0 14)) (zand l3 3)) l0 14)) l4) l0 14)) l5) (l0 + 6) (nz ((upd (upd (upd (upd (upd g (l0 + 1) (nz (g l0 14)) l1) (l0 + 2) (nz ((upd g (l0 + 1) (nz (g l0 14)) l1) l0 14)) l2) (l0 + 3) (nz ((upd (upd g (l0 + 1) (nz (g l0 14)) l1) (l0 + 2) (nz ((upd g (l0 + 1) (nz (g l0 14)) l1) l0 14)) l2) l0 14)) (zand l3 3)) (l0 + 4) (nz ((upd (upd (upd g (l0 + 1) (nz (g l0 14)) l1) (l0 + 2) (nz ((upd g (l0 + 1) (nz (g l0 14)) l1) l0 14)) l2) (l0 + 3) (nz ((upd (upd g (l0 + 1) (nz (g l0 14)) l1) (l0 + 2) (nz ((upd g (l0 + 1) (nz (g l0 14)) l1) l0 14)) l2) l0 14)) (zand l3 3)) l0 14)) l4) (l0 + 5) (nz ((upd (upd (upd (upd g (l0 + 1) (nz (g l0 14)) l1) (l0 + 2) (nz ((upd g (l0 + 1) (nz (g l0 14)) l1) l0 14)) l2) (l0 + 3) (nz ((upd (upd g (l0 + 1) (nz (g l0 14)) l1) (l0 + 2) (nz ((upd g (l0 + 1) (nz (g l0 14)) l1) l0 14)) l2) l0 14)) (zand l3 3)) (l0 + 4) (nz ((upd (upd (upd g (l0 + 1) (nz (g l0 14)) l1) (l0 + 2) (nz ((upd g (l0 + 1) (nz (g l0 14)) l1) l0 14)) l2) (l0 + 3) (nz ((upd (upd g (l0 + 1) (nz (g l0 14)) l1) (l0 + 2) (nz ((upd g (l0 + 1) (nz (g l0 14)) l1) l0 14)) l2) l0 14)) (zand l3 3)) l0 14)) l4) l0 14)) l5) l0 14)) l6) l0 14)) 0) l0 14)) 0) l0 14) ∧ nz ((upd (upd (upd (upd (upd (upd (upd (upd g (l0 + 1) (nz (g l0 14)) l1) (l0 + 2) (nz ((upd g (l0 + 1) (nz (g l0 14)) l1) l0 14)) l2) (l0 + 3) (nz ((upd (upd g (l0 + 1) (nz (g l0 14)) l1) (l0 + 2) (nz ((upd g (l0 + 1) (nz (g l0 14)) l1) l0 14)) l2) l0 14)) (zand l3 3)) (l0 + 4) (nz ((upd (upd (upd g (l0 + 1) (nz (g l0 14)) l1) (l0 + 2) (nz ((upd g (l0 + 1) (nz (g l0 14)) l1) l0 14)) l2) (l0 + 3) (nz ((upd (upd g (l0 + 1) (nz (g l0 14)) l1) (l0 + 2) (nz ((upd g (l0 + 1) (nz (g l0 14)) l1) l0 14)) l2) l0 14)) (zand l3 3)) l0 14)) l4) (l0 + 5) (nz ((upd (upd (upd (upd g (l0 + 1) (nz (g l0 14)) l1) (l0 + 2) (nz ((upd g (l0 + 1) (nz (g l0 14)) l1) l0 14)) l2) (l0 + 3) (nz ((upd (upd g (l0 + 1) (nz (g l0 14)) l1) (l0 + 2) (nz ((upd g (l0 + 1) (nz (g l0 14)) l1) l0 14)) l2) l0 14)) (zand l3 3)) (l0 + 4) (nz ((upd (upd (upd g (l0 + 1) (nz (g l0 14)) l1) (l0 + 2) (nz ((upd g (l0 + 1) (nz (g l0 14)) l1) l0 14)) l2) (l0 + 3) (nz ((upd (upd g (l0 + 1) (nz (g l0 14)) l1) (l0 + 2) (nz ((upd g (l0 + 1) (nz (g l0 14)) l1) l0 14)) l2) l0 14)) (zand l3 3)) l0 14)) l4) l0 14)) l5) (l0 + 6) (nz ((upd (upd (upd (upd (upd g (l0 + 1) (nz (g l0 14)) l1) (l0 + 2) (nz ((upd g (l0 + 1) (nz (g l0 14)) l1) l0 14)) l2) (l0 + 3) (nz ((upd (upd g (l0 + 1) (nz (g l0 14)) l1) (l0 + 2) (nz ((upd g (l0 + 1) (nz (g l0 14)) l1) l0 14)) l2) l0 14)) (zand l3 3)) (l0 + 4) (nz ((upd (upd (upd g (l0 + 1) (nz (g l0 14)) l1) (l0 + 2) (nz ((upd g (l0 + 1) (nz (g l0 14)) l1) l0 14)) l2) (l0 + 3) (nz ((upd (upd g (l0 + 1) (nz (g l0 14)) l1) (l0 + 2) (nz ((upd g (l0 + 1) (nz (g l0 14)) l1) l0 14)) l2) l0 14)) (zand l3 3)) l0 14)) l4) (l0 + 5) (nz ((upd (upd (upd (upd g (l0 + 1) (nz (g l0 14)) l1) (l0 + 2) (nz ((upd g (l0 + 1) (nz (g l0 14)) l1) l0 14)) l2) (l0 + 3) (nz ((upd (upd g (l0 + 1) (nz (g l0 14)) l1) (l0 + 2) (nz ((upd g (l0 + 1) (nz (g l0 14)) l1) l0 14)) l2) l0 14)) (zand l3 3)) (l0 + 4) (nz ((upd (upd (upd g (l0 + 1) (nz (g l0 14)) l1) (l0 + 2) (nz ((upd g (l0 + 1) (nz (g l0 14)) l1) l0 14)) l2) (l0 + 3) (nz ((upd (upd g (l0 + 1) (nz (g l0 14)) l1) (l0 + 2) (nz ((upd g (l0 + 1) (nz (g l0 14)) l1) l0 14)) l2) l0 14)) (zand l3 3)) l0 14)) l4) l0 14)) l5) l0 14)) l6) (l0 + 9) (nz ((upd (upd (upd (upd (upd (upd g (l0 + 1) (nz (g l0 14)) l1) (l0 + 2) (nz ((upd g (l0 + 1) (nz (g l0 14)) l1) l0 14)) l2) (l0 + 3) (nz ((upd (upd g (l0 + 1) (nz (g l0 14)) l1) (l0 + 2) (nz ((upd g (l0 + 1) (nz (g l0 14)) l1) l0 14)) l2) l0 14)) (zand l3 3)) (l0 + 4) (nz ((upd (upd (upd g (l0 + 1) (nz (g l0 14)) l1) (l0 + 2) (nz ((upd g (l0 + 1) (nz (g l0 14)) l1) l0 14)) l2) (l0 + 3) (nz ((upd (upd g (l0 + 1) (nz (g l0 14)) l1) (l0 + 2) (nz ((upd g (l0 + 1) (nz (g l0 14)) l1) l0 14)) l2) l0 14)) (zand l3 3)) l0 14)) l4) (l0 + 5) (nz ((upd (upd (upd (upd g (l0 + 1) (nz (g l0 14)) l1) (l0 + 2) (nz ((upd g (l0 + 1) (nz (g l0 14)) l1) l0 14)) l2) (l0 + 3) (nz ((upd (upd g (l0 + 1) (nz (g l0 14)) l1) (l0 + 2) (nz ((upd g (l0 + 1) (nz (g l0 14)) l1) l0 14)) l2) l0 14)) (zand l3 3)) (l0 + 4) (nz ((upd (upd (upd g (l0 + 1) (nz (g l0 14)) l1) (l0 + 2) (nz ((upd g (l0 + 1) (nz (g l0 14)) l1) l0 14)) l2) (l0 + 3) (nz ((upd (upd g (l0 + 1) (nz (g l0 14)) l1) (l0 + 2) (nz ((upd g (l0 + 1) (nz (g l0 14)) l1) l0 14)) l2) l0 14)) (zand l3 3)) l0 14)) l4) l0 14)) l5) (l0 + 6) (nz ((upd (upd (upd (upd (upd g (l0 + 1) (nz (g l0 14)) l1) (l0 + 2) (nz ((upd g (l0 + 1) (nz (g l0 14)) l1) l0 14)) l2) (l0 + 3) (nz ((upd (upd g (l0 + 1) (nz (g l0 14)) l1) (l0 + 2) (nz ((upd g (l0 + 1) (nz (g l0 14)) l1) l0 14)) l2) l0 14)) (zand l3 3)) (l0 + 4) (nz ((upd (upd (upd g (l0 + 1) (nz (g l0 14)) l1) (l0 + 2) (nz ((upd g (l0 + 1) (nz (g l0 14)) l1) l0 14)) l2) (l0 + 3) (nz ((upd (upd g (l0 + 1) (nz (g l0 14)) l1) (l0 + 2) (nz ((upd g (l0 + 1) (nz (g l0 14)) l1) l0 14)) l2) l0 14)) (zand l3 3)) l0 14)) l4) (l0 + 5) (nz ((upd (upd (upd (upd g (l0 + 1) (nz (g l0 14)) l1) (l0 + 2) (nz ((upd g (l0 + 1) (nz (g l0 14)) l1) l0 14)) l2) (l0 + 3) (nz ((upd (upd g (l0 + 1) (nz (g l0 14)) l1) (l0 + 2) (nz ((upd g (l0 + 1) (nz (g l0 14)) l1) l0 14)) l2) l0 14)) (zand l3 3)) (l0 + 4) (nz ((upd (upd (upd g (l0 + 1) (nz (g l0 14)) l1) (l0 + 2) (nz ((upd g (l0 + 1) (nz (g l0 14)) l1) l0 14)) l2) (l0 + 3) (nz ((upd (upd g (l0 + 1) (nz (g l0 14)) l1) (l0 + 2) (nz ((upd g (l0 + 1) (nz (g l0 14)) l1) l0 14)) l2) l0 14)) (zand l3 3)) l0 14)) l4) l0 14)) l5) l0 14)) l6) l0 14)) 0) (l0 + 10) (nz ((upd (upd (upd (upd (upd (upd (upd g (l0 + 1) (nz (g l0 14)) l1) (l0 + 2) (nz ((upd g (l0 + 1) (nz (g l0 14)) l1) l0 14)) l2) (l0 + 3) (nz ((upd (upd g (l0 + 1) (nz (g l0 14)) l1) (l0 + 2) (nz ((upd g (l0 + 1) (nz (g l0 14)) l1) l0 14)) l2) l0 14)) (zand l3 3)) (l0 + 4) (nz ((upd (upd (upd g (l0 + 1) (nz (g l0 14)) l1) (l0 + 2) (nz ((upd g (l0 + 1) (nz (g l0 14)) l1) l0 14)) l2) (l0 + 3) (nz ((upd (upd g (l0 + 1) (nz (g l0 14)) l1) (l0 + 2) (nz ((upd g (l0 + 1) (nz (g l0 14)) l1) l0 14)) l2) l0 14)) (zand l3 3)) l0 14)) l4) (l0 + 5) (nz ((upd (upd (upd (upd g (l0 + 1) (nz (g l0 14)) l1) (l0 + 2) (nz ((upd g (l0 + 1) (nz (g l0 14)) l1) l0 14)) l2) (l0 + 3) (nz ((upd (upd g (l0 + 1) (nz (g l0 14)) l1) (l0 + 2) (nz ((upd g (l0 + 1) (nz (g l0 14)) l1) l0 14)) l2) l0 14)) (zand l3 3)) (l0 + 4) (nz ((upd (upd (upd g (l0 + 1) (nz (g l0 14)) l1) (l0 + 2) (nz ((upd g (l0 + 1) (nz (g l0 14)) l1) l0 14)) l2) (l0 + 3) (nz ((upd (upd g (l0 + 1) (nz (g l0 14)) l1) (l0 + 2) (nz ((upd g (l0 + 1) (nz (g l0 14)) l1) l0 14)) l2) l0 14)) (zand l3 3)) l0 14)) l4) l0 14)) l5) (l0 + 6) (nz ((upd (upd (upd (upd (upd g (l0 + 1) (nz (g l0 14)) l1) (l0 + 2) (nz ((upd g (l0 + 1) (nz (g l0 14)) l1) l0 14)) l2) (l0 + 3) (nz ((upd (upd g (l0 + 1) (nz (g l0 14)) l1) (l0 + 2) (nz ((upd g (l0 + 1) (nz (g l0 14)) l1) l0 14)) l2) l0 14)) (zand l3 3)) (l0 + 4) (nz ((upd (upd (upd g (l0 + 1) (nz (g l0 14)) l1) (l0 + 2) (nz ((upd g (l0 + 1) (nz (g l0 14)) l1) l0 14)) l2) (l0 + 3) (nz ((upd (upd g (l0 + 1) (nz (g l0 14)) l1) (l0 + 2) (nz ((upd g (l0 + 1) (nz (g l0 14)) l1) l0 14)) l2) l0 14)) (zand l3 3)) l0 14)) l4) (l0 + 5) (nz ((upd (upd (upd (upd g (l0 + 1) (nz (g l0 14)) l1) (l0 + 2) (nz ((upd g (l0 + 1) (nz (g l0 14)) l1) l0 14)) l2) (l0 + 3) (nz ((upd (upd g (l0 + 1) (nz (g l0 14)) l1) (l0 + 2) (nz ((upd g (l0 + 1) (nz (g l0 14)) l1) l0 14)) l2) l0 14)) (zand l3 3)) (l0 + 4) (nz ((upd (upd (upd g (l0 + 1) (nz (g l0 14)) l1) (l0 + 2) (nz ((upd g (l0 + 1) (nz (g l0 14)) l1) l0 14)) l2) (l0 + 3) (nz ((upd (upd g (l0 + 1) (nz (g l0 14)) l1) (l0 + 2) (nz ((upd g (l0 + 1) (nz (g l0 14)) l1) l0 14)) l2) l0 14)) (zand l3 3)) l0 14)) l4) l0 14)) l5) l0 14)) l6) (l0 + 9) (nz ((upd (upd (upd (upd (upd (upd g (l0 + 1) (nz (g l0 14)) l1) (l0 + 2) (nz ((upd g (l0 + 1) (nz (g l0 14)) l1) l0 14)) l2) (l0 + 3) (nz ((upd (upd g (l0 + 1) (nz (g l0 14)) l1) (l0 + 2) (nz ((upd g (l0 + 1) (nz (g l0 14)) l1) l0 14)) l2) l0 14)) (zand l3 3)) (l0 + 4) (nz ((upd (upd (upd g (l0 + 1) (nz (g l0 14)) l1) (l0 + 2) (nz ((upd g (l0 + 1) (nz (g l0 14)) l1) l0 14)) l2) (l0 + 3) (nz ((upd (upd g (l0 + 1) (nz (g l0 14)) l1) (l0 + 2) (nz ((upd g (l0 + 1) (nz (g l0 14)) l1) l0 14)) l2) l0 14)) (zand l3 3)) l0 14)) l4) (l0 + 5) (nz ((upd (upd (upd (upd g (l0 + 1) (nz (g l0 14)) l1) (l0 + 2) (nz ((upd g (l0 + 1) (nz (g l0 14)) l1) l0 14)) l2) (l0 + 3) (nz ((upd (upd g (l0 + 1) (nz (g l0 14)) l1) (l0 + 2) (nz ((upd g (l0 + 1) (nz (g l0 14)) l1) l0 14)) l2) l0 14)) (zand l3 3)) (l0 + 4) (nz ((upd (upd (upd g (l0 + 1) (nz (g l0 14)) l1) (l0 + 2) (nz ((upd g (l0 + 1) (nz (g l0 14)) l1) l0 14)) l2) (l0 + 3) (nz ((upd (upd g (l0 + 1) (nz (g l0 14)) l1) (l0 + 2) (nz ((upd g (l0 + 1) (nz (g l0 14)) l1) l0 14)) l2) l0 14)) (zand l3 3)) l0 14)) l4) l0 14)) l5) (l0 + 6) (nz ((upd (upd (upd (upd (upd g (l0 + 1) (nz (g l0 14)) l1) (l0 + 2) (nz ((upd g (l0 + 1) (nz (g l0 14)) l1) l0 14)) l2) (l0 + 3) (nz ((upd (upd g (l0 + 1) (nz (g l0 14)) l1) (l0 + 2) (nz ((upd g (l0 + 1) (nz (g l0 14)) l1) l0 14)) l2) l0 14)) (zand l3 3)) (l0 + 4) (nz ((upd (upd (upd g (l0 + 1) (nz (g l0 14)) l1) (l0 + 2) (nz ((upd g (l0 + 1) (nz (g l0 14)) l1) l0 14)) l2) (l0 + 3) (nz ((upd (upd g (l0 + 1) (nz (g l0 14)) l1) (l0 + 2) (nz ((upd g (l0 + 1) (nz (g l0 14)) l1) l0 14)) l2) l0 14)) (zand l3 3)) l0 14)) l4) (l0 + 5) (nz ((upd (upd (upd (upd g (l0 + 1) (nz (g l0 14)) l1) (l0 + 2) (nz ((upd g (l0 + 1) (nz (g l0 14)) l1) l0 14)) l2) (l0 + 3) (nz ((upd (upd g (l0 + 1) (nz (g l0 14)) l1) (l0 + 2) (nz ((upd g (l0 + 1) (nz (g l0 14)) l1) l0 14)) l2) l0 14)) (zand l3 3)) (l0 + 4) (nz ((upd (upd (upd g (l0 + 1) (nz (g l0 14)) l1) (l0 + 2) (nz ((upd g (l0 + 1) (nz (g l0 14)) l1) l0 14)) l2) (l0 + 3) (nz ((upd (upd g (l0 + 1) (nz (g l0 14)) l1) (l0 + 2) (nz ((upd g (l0 + 1) (nz (g l0 14)) l1) l0 14)) l2) l0 14)) (zand l3 3)) l0 14)) l4) l0 14)) l5) l0 14)) l6) l0 14)) 0) l0 14)) 0) l0 14) < 16 then some (137438953473, (zM n (zWf b f (upd (upd (upd (upd (upd (upd (upd (upd (upd (upd g (l0 + 1) (nz (g l0 14)) l1) (l0 + 2) (nz ((upd g (l0 + 1) (nz (g l0 14)) l1) l0 14)) l2) (l0 + 3) (nz ((upd (upd g (l0 + 1) (nz (g l0 14)) l1) (l0 + 2) (nz ((upd g (l0 + 1) (nz (g l0 14)) l1) l0 14)) l2) l0 14)) (zand l3 3)) (l0 + 4) (nz ((upd (upd (upd g (l0 + 1) (nz (g l0 14)) l1) (l0 + 2) (nz ((upd g (l0 + 1) (nz (g l0 14)) l1) l0 14)) l2) (l0 + 3) (nz ((upd (upd g (l0 + 1) (nz (g l0 14)) l1) (l0 + 2) (nz ((upd g (l0 + 1) (nz (g l0 14)) l1) l0 14)) l2) l0 14)) (zand l3 3)) l0 14)) l4) (l0 + 5) (nz ((upd (upd (upd (upd g (l0 + 1) (nz (g l0 14)) l1) (l0 + 2) (nz ((upd g (l0 + 1) (nz (g l0 14)) l1) l0 14)) l2) (l0 + 3) (nz ((upd (upd g (l0 + 1) (nz (g l0 14)) l1) (l0 + 2) (nz ((upd g (l0 + 1) (nz (g l0 14)) l1) l0 14)) l2) l0 14)) (zand l3 3)) (l0 + 4) (nz ((upd (upd (upd g (l0 + 1) (nz (g l0 14)) l1) (l0 + 2) (nz ((upd g (l0 + 1) (nz (g l0 14)) l1) l0 14)) l2) (l0 + 3) (nz ((upd (upd g (l0 + 1) (nz (g l0 14)) l1) (l0 + 2) (nz ((upd g (l0 + 1) (nz (g l0 14)) l1) l0 14)) l2) l0 14)) (zand l3 3)) l0 14)) l4) l0 14)) l5) (l0 + 6) (nz ((upd (upd (upd (upd (upd g (l0 + 1) (nz (g l0 14)) l1) (l0 + 2) (nz ((upd g (l0 + 1) (nz (g l0 14)) l1) l0 14)) l2) (l0 + 3) (nz ((upd (upd g (l0 + 1) (nz (g l0 14)) l1) (l0 + 2) (nz ((upd g (l0 + 1) (nz (g l0 14)) l1) l0 14)) l2) l0 14)) (zand l3 3)) (l0 + 4) (nz ((upd (upd (upd g (l0 + 1) (nz (g l0 14)) l1) (l0 + 2) (nz ((upd g (l0 + 1) (nz (g l0 14)) l1) l0 14)) l2) (l0 + 3) (nz ((upd (upd g (l0 + 1) (nz (g l0 14)) l1) (l0 + 2) (nz ((upd g (l0 + 1) (nz (g l0 14)) l1) l0 14)) l2) l0 14)) (zand l3 3)) l0 14)) l4) (l0 + 5) (nz ((upd (upd (upd (upd g (l0 + 1) (nz (g l0 14)) l1) (l0 + 2) (nz ((upd g (l0 + 1) (nz (g l0 14)) l1) l0 14)) l2) (l0 + 3) (nz ((upd (upd g (l0 + 1) (nz (g l0 14)) l1) (l0 + 2) (nz ((upd g (l0 + 1) (nz (g l0 14)) l1) l0 14)) l2) l0 14)) (zand l3 3)) (l0 + 4) (nz ((upd (upd (upd g (l0 + 1) (nz (g l0 14)) l1) (l0 + 2) (nz ((upd g (l0 + 1) (nz (g l0 14)) l1) l0 14)) l2) (l0 + 3) (nz ((upd (upd g (l0 + 1) (nz (g l0 14)) l1) (l0 + 2) (nz ((upd g (l0 + 1) (nz (g l0 14)) l1) l0 14)) l2) l0 14)) (zand l3 3)) l0 14)) l4) l0 14)) l5) l0 14)) l6) (l0 + 9) (nz ((upd (upd (upd (upd (upd (upd g (l0 + 1) (nz (g l0 14)) l1) (l0 + 2) (nz ((upd g (l0 + 1) (nz (g l0 14)) l1) l0 14)) l2) (l0 + 3) (nz ((upd (upd g (l0 + 1) (nz (g l0 14)) l1) (l0 + 2) (nz ((upd g (l0 + 1) (nz (g l0 14)) l1) l0 14)) l2) l0 14)) (zand l3 3)) (l0 + 4) (nz ((upd (upd (upd g (l0 + 1) (nz (g l0 14)) l1) (l0 + 2) (nz ((upd g (l0 + 1) (nz (g l0 14)) l1) l0 14)) l2) (l0 + 3) (nz ((upd (upd g (l0 + 1) (nz (g l0 14)) l1) (l0 + 2) (nz ((upd g (l0 + 1) (nz (g l0 14)) l1) l0 14)) l2) l0 14)) (zand l3 3)) l0 14)) l4) (l0 + 5) (nz ((upd (upd (upd (upd g (l0 + 1) (nz (g l0 14)) l1) (l0 + 2) (nz ((upd g (l0 + 1) (nz (g l0 14)) l1) l0 14)) l2) (l0 + 3) (nz ((upd (upd g (l0 + 1) (nz (g l0 14)) l1) (l0 + 2) (nz ((upd g (l0 + 1) (nz (g l0 14)) l1) l0 14)) l2) l0 14)) (zand l3 3)) (l0 + 4) (nz ((upd (upd (upd g (l0 + 1) (nz (g l0 14)) l1) (l0 + 2) (nz ((upd g (l0 + 1) (nz (g l0 14)) l1) l0 14)) l2) (l0 + 3) (nz ((upd (upd g (l0 + 1) (nz (g l0 14)) l1) (l0 + 2) (nz ((upd g (l0 + 1) (nz (g l0 14)) l1) l0 14)) l2) l0 14)) (zand l3 3)) l0 14)) l4) l0 14)) l5) (l0 + 6) (nz ((upd (upd (upd (upd (upd g (l0 + 1) (nz (g l0 14)) l1) (l0 + 2) (nz ((upd g (l0 + 1) (nz (g l0 14)) l1) l0 14)) l2) (l0 + 3) (nz ((upd (upd g (l0 + 1) (nz (g l0 14)) l1) (l0 + 2) (nz ((upd g (l0 + 1) (nz (g l0 14)) l1) l0 14)) l2) l0 14)) (zand l3 3)) (l0 + 4) (nz ((upd (upd (upd g (l0 + 1) (nz (g l0 14)) l1) (l0 + 2) (nz ((upd g (l0 + 1) (nz (g l0 14)) l1) l0 14)) l2) (l0 + 3) (nz ((upd (upd g (l0 + 1) (nz (g l0 14)) l1) (l0 + 2) (nz ((upd g (l0 + 1) (nz (g l0 14)) l1) l0 14)) l2) l0 14)) (zand l3 3)) l0 14)) l4) (l0 + 5) (nz ((upd (upd (upd (upd g (l0 + 1) (nz (g l0 14)) l1) (l0 + 2) (nz ((upd g (l0 + 1) (nz (g l0 14)) l1) l0 14)) l2) (l0 + 3) (nz ((upd (upd g (l0 + 1) (nz (g l0 14)) l1) (l0 + 2) (nz ((upd g (l0 + 1) (nz (g l0 14)) l1) l0 14)) l2) l0 14)) (zand l3 3)) (l0 + 4) (nz ((upd (upd (upd g (l0 + 1) (nz (g l0 14)) l1) (l0 + 2) (nz ((upd g (l0 + 1) (nz (g l0 14)) l1) l0 14)) l2) (l0 + 3) (nz ((upd (upd g (l0 + 1) (nz (g l0 14)) l1) (l0 + 2) (nz ((upd g (l0 + 1) (nz (g l0 14)) l1) l0 14)) l2) l0 14)) (zand l3 3)) l0 14)) l4) l0 14)) l5) l0 14)) l6) l0 14)) 0) (l0 + 10) (nz ((upd (upd (upd (upd (upd (upd (upd g (l0 + 1) (nz (g l0 14)) l1) (l0 + 2) (nz ((upd g (l0 + 1) (nz (g l0 14)) l1) l0 14)) l2) (l0 + 3) (nz ((upd (upd g (l0 + 1) (nz (g l0 14)) l1) (l0 + 2) (nz ((upd g (l0 + 1) (nz (g l0 14)) l1) l0 14)) l2) l0 14)) (zand l3 3)) (l0 + 4) (nz ((upd (upd (upd g (l0 + 1) (nz (g l0 14)) l1) (l0 + 2) (nz ((upd g (l0 + 1) (nz (g l0 14)) l1) l0 14)) l2) (l0 + 3) (nz ((upd (upd g (l0 + 1) (nz (g l0 14)) l1) (l0 + 2) (nz ((upd g (l0 + 1) (nz (g l0 14)) l1) l0 14)) l2) l0 14)) (zand l3 3)) l0 14)) l4) (l0 + 5) (nz ((upd (upd (upd (upd g (l0 + 1) (nz (g l0 14)) l1) (l0 + 2) (nz ((upd g (l0 + 1) (nz (g l0 14)) l1) l0 14)) l2) (l0 + 3) (nz ((upd (upd g (l0 + 1) (nz (g l0 14)) l1) (l0 + 2) (nz ((upd g (l0 + 1) (nz (g l0 14)) l1) l0 14)) l2) l0 14)) (zand l3 3)) (l0 + 4) (nz ((upd (upd (upd g (l0 + 1) (nz (g l0 14)) l1) (l0 + 2) (nz ((upd g (l0 + 1) (nz (g l0 14)) l1) l0 14)) l2) (l0 + 3) (nz ((upd (upd g (l0 + 1) (nz (g l0 14)) l1) (l0 + 2) (nz ((upd g (l0 + 1) (nz (g l0 14)) l1) l0 14)) l2) l0 14)) (zand l3 3)) l0 14)) l4) l0 14)) l5) (l0 + 6) (nz ((upd (upd (upd (upd (upd g (l0 + 1) (nz (g l0 14)) l1) (l0 + 2) (nz ((upd g (l0 + 1) (nz (g l0 14)) l1) l0 14)) l2) (l0 + 3) (nz ((upd (upd g (l0 + 1) (nz (g l0 14)) l1) (l0 + 2) (nz ((upd g (l0 + 1) (nz (g l0 14)) l1) l0 14)) l2) l0 14)) (zand l3 3)) (l0 + 4) (nz ((upd (upd (upd g (l0 + 1) (nz (g l0 14)) l1) (l0 + 2) (nz ((upd g (l0 + 1) (nz (g l0 14)) l1) l0 14)) l2) (l0 + 3) (nz ((upd (upd g (l0 + 1) (nz (g l0 14)) l1) (l0 + 2) (nz ((upd g (l0 + 1) (nz (g l0 14)) l1) l0 14)) l2) l0 14)) (zand l3 3)) l0 14)) l4) (l0 + 5) (nz ((upd (upd (upd (upd g (l0 + 1) (nz (g l0 14)) l1) (l0 + 2) (nz ((upd g (l0 + 1) (nz (g l0 14)) l1) l0 14)) l2) (l0 + 3) (nz ((upd (upd g (l0 + 1) (nz (g l0 14)) l1) (l0 + 2) (nz ((upd g (l0 + 1) (nz (g l0 14)) l1) l0 14)) l2) l0 14)) (zand l3 3)) (l0 + 4) (nz ((upd (upd (upd g (l0 + 1) (nz (g l0 14)) l1) (l0 + 2) (nz ((upd g (l0 + 1) (nz (g l0 14)) l1) l0 14)) l2) (l0 + 3) (nz ((upd (upd g (l0 + 1) (nz (g l0 14)) l1) (l0 + 2) (nz ((upd g (l0 + 1) (nz (g l0 14)) l1) l0 14)) l2) l0 14)) (zand l3 3)) l0 14)) l4) l0 14)) l5) l0 14)) l6) (l0 + 9) (nz ((upd (upd (upd (upd (upd (upd g (l0 + 1) (nz (g l0 14)) l1) (l0 + 2) (nz ((upd g (l0 + 1) (nz (g l0 14)) l1) l0 14)) l2) (l0 + 3) (nz ((upd (upd g (l0 + 1) (nz (g l0 14)) l1) (l0 + 2) (nz ((upd g (l0 + 1) (nz (g l0 14)) l1) l0 14)) l2) l0 14)) (zand l3 3)) (l0 + 4) (nz ((upd (upd (upd g (l0 + 1) (nz (g l0 14)) l1) (l0 + 2) (nz ((upd g (l0 + 1) (nz (g l0 14)) l1) l0 14)) l2) (l0 + 3) (nz ((upd (upd g (l0 + 1) (nz (g l0 14)) l1) (l0 + 2) (nz ((upd g (l0 + 1) (nz (g l0 14)) l1) l0 14)) l2) l0 14)) (zand l3 3)) l0 14)) l4) (l0 + 5) (nz ((upd (upd (upd (upd g (l0 + 1) (nz (g l0 14)) l1) (l0 + 2) (nz ((upd g (l0 + 1) (nz (g l0 14)) l1) l0 14)) l2) (l0 + 3) (nz ((upd (upd g (l0 + 1) (nz (g l0 14)) l1) (l0 + 2) (nz ((upd g (l0 + 1) (nz (g l0 14)) l1) l0 14)) l2) l0 14)) (zand l3 3)) (l0 + 4) (nz ((upd (upd (upd g (l0 + 1) (nz (g l0 14)) l1) (l0 + 2) (nz ((upd g (l0 + 1) (nz (g l0 14)) l1) l0 14)) l2) (l0 + 3) (nz ((upd (upd g (l0 + 1) (nz (g l0 14)) l1) (l0 + 2) (nz ((upd g (l0 + 1) (nz (g l0 14)) l1) l0 14)) l2) l0 14)) (zand l3 3)) l0 14)) l4) l0 14)) l5) (l0 + 6) (nz ((upd (upd (upd (upd (upd g (l0 + 1) (nz (g l0 14)) l1) (l0 + 2) (nz ((upd g (l0 + 1) (nz (g l0 14)) l1) l0 14)) l2) (l0 + 3) (nz ((upd (upd g (l0 + 1) (nz (g l0 14)) l1) (l0 + 2) (nz ((upd g (l0 + 1) (nz (g l0 14)) l1) l0 14)) l2) l0 14)) (zand l3 3)) (l0 + 4) (nz ((upd (upd (upd g (l0 + 1) (nz (g l0 14)) l1) (l0 + 2) (nz ((upd g (l0 + 1) (nz (g l0 14)) l1) l0 14)) l2) (l0 + 3) (nz ((upd (upd g (l0 + 1) (nz (g l0 14)) l1) (l0 + 2) (nz ((upd g (l0 + 1) (nz (g l0 14)) l1) l0 14)) l2) l0 14)) (zand l3 3)) l0 14)) l4) (l0 + 5) (nz ((upd (upd (upd (upd g (l0 + 1) (nz (g l0 14)) l1) (l0 + 2) (nz ((upd g (l0 + 1) (nz (g l0 14)) l1) l0 14)) l2) (l0 + 3) (nz ((upd (upd g (l0 + 1) (nz (g l0 14)) l1) (l0 + 2) (nz ((upd g (l0 + 1) (nz (g l0 14)) l1) l0 14)) l2) l0 14)) (zand l3 3)) (l0 + 4) (nz ((upd (upd (upd g (l0 + 1) (nz (g l0 14)) l1) (l0 + 2) (nz ((upd g (l0 + 1) (nz (g l0 14)) l1) l0 14)) l2) (l0 + 3) (nz ((upd (upd g (l0 + 1) (nz (g l0 14)) l1) (l0 + 2) (nz ((upd g (l0 + 1) (nz (g l0 14)) l1) l0 14)) l2) l0 14)) (zand l3 3)) l0 14)) l4) l0 14)) l5) l0 14)) l6) l0 14)) 0) l0 14)) 0) (l0 + 11) (nz ((upd (upd (upd (upd (upd (upd (upd (upd g (l0 + 1) (nz (g l0 14)) l1) (l0 + 2) (nz ((upd g (l0 + 1) (nz (g l0 14)) l1) l0 14)) l2) (l0 + 3) (nz ((upd (upd g (l0 + 1) (nz (g l0 14)) l1) (l0 + 2) (nz ((upd g (l0 + 1) (nz (g l0 14)) l1) l0 14)) l2) l0 14)) (zand l3 3)) (l0 + 4) (nz ((upd (upd (upd g (l0 + 1) (nz (g l0 14)) l1) (l0 + 2) (nz ((upd g (l0 + 1) (nz (g l0 14)) l1) l0 14)) l2) (l0 + 3) (nz ((upd (upd g (l0 + 1) (nz (g l0 14)) l1) (l0 + 2) (nz ((upd g (l0 + 1) (nz (g l0 14)) l1) l0 14)) l2) l0 14)) (zand l3 3)) l0 14)) l4) (l0 + 5) (nz ((upd (upd (upd (upd g (l0 + 1) (nz (g l0 14)) l1) (l0 + 2) (nz ((upd g (l0 + 1) (nz (g l0 14)) l1) l0 14)) l2) (l0 + 3) (nz ((upd (upd g (l0 + 1) (nz (g l0 14)) l1) (l0 + 2) (nz ((upd g (l0 + 1) (nz (g l0 14)) l1) l0 14)) l2) l0 14)) (zand l3 3)) (l0 + 4) (nz ((upd (upd (upd g (l0 + 1) (nz (g l0 14)) l1) (l0 + 2) (nz ((upd g (l0 + 1) (nz (g l0 14)) l1) l0 14)) l2) (l0 + 3) (nz ((upd (upd g (l0 + 1) (nz (g l0 14)) l1) (l0 + 2) (nz ((upd g (l0 + 1) (nz (g l0 14)) l1) l0 14)) l2) l0 14)) (zand l3 3)) l0 14)) l4) l0 14)) l5) (l0 + 6) (nz ((upd (upd (upd (upd (upd g (l0 + 1) (nz (g l0 14)) l1) (l0 + 2) (nz ((upd g (l0 + 1) (nz (g l0 14)) l1) l0 14)) l2) (l0 + 3) (nz ((upd (upd g (l0 + 1) (nz (g l0 14)) l1) (l0 + 2) (nz ((upd g (l0 + 1) (nz (g l0 14)) l1) l0 14)) l2) l0 14)) (zand l3 3)) (l0 + 4) (nz ((upd (upd (upd g (l0 + 1) (nz (g l0 14)) l1) (l0 + 2) (nz ((upd g (l0 + 1) (nz (g l0 14)) l1) l0 14)) l2) (l0 + 3) (nz ((upd (upd g (l0 + 1) (nz (g l0 14)) l1) (l0 + 2) (nz ((upd g (l0 + 1) (nz (g l0 14)) l1) l0 14)) l2) l0 14)) (zand l3 3)) l0 14)) l4) (l0 + 5) (nz ((upd (upd (upd (upd g (l0 + 1) (nz (g l0 14)) l1) (l0 + 2) (nz ((upd g (l0 + 1) (nz (g l0 14)) l1) l0 14)) l2) (l0 + 3) (nz ((upd (upd g (l0 + 1) (nz (g l0 14)) l1) (l0 + 2) (nz ((upd g (l0 + 1) (nz (g l0 14)) l1) l0 14)) l2) l0 14)) (zand l3 3)) (l0 + 4) (nz ((upd (upd (upd g (l0 + 1) (nz (g l0 14)) l1) (l0 + 2) (nz ((upd g (l0 + 1) (nz (g l0 14)) l1) l0 14)) l2) (l0 + 3) (nz ((upd (upd g (l0 + 1) (nz (g l0 14)) l1) (l0 + 2) (nz ((upd g (l0 + 1) (nz (g l0 14)) l1) l0 14)) l2) l0 14)) (zand l3 3)) l0 14)) l4) l0 14)) l5) l0 14)) l6) (l0 + 9) (nz ((upd (upd (upd (upd (upd (upd g (l0 + 1) (nz (g l0 14)) l1) (l0 + 2) (nz ((upd g (l0 + 1) (nz (g l0 14)) l1) l0 14)) l2) (l0 + 3) (nz ((upd (upd g (l0 + 1) (nz (g l0 14)) l1) (l0 + 2) (nz ((upd g (l0 + 1) (nz (g l0 14)) l1) l0 14)) l2) l0 14)) (zand l3 3)) (l0 + 4) (nz ((upd (upd (upd g (l0 + 1) (nz (g l0 14)) l1) (l0 + 2) (nz ((upd g (l0 + 1) (nz (g l0 14)) l1) l0 14)) l2) (l0 + 3) (nz ((upd (upd g (l0 + 1) (nz (g l0 14)) l1) (l0 + 2) (nz ((upd g (l0 + 1) (nz (g l0 14)) l1) l0 14)) l2) l0 14)) (zand l3 3)) l0 14)) l4) (l0 + 5) (nz ((upd (upd (upd (upd g (l0 + 1) (nz (g l0 14)) l1) (l0 + 2) (nz ((upd g (l0 + 1) (nz (g l0 14)) l1) l0 14)) l2) (l0 + 3) (nz ((upd (upd g (l0 + 1) (nz (g l0 14)) l1) (l0 + 2) (nz ((upd g (l0 + 1) (nz (g l0 14)) l1) l0 14)) l2) l0 14)) (zand l3 3)) (l0 + 4) (nz ((upd (upd (upd g (l0 + 1) (nz (g l0 14)) l1) (l0 + 2) (nz ((upd g (l0 + 1) (nz (g l0 14)) l1) l0 14)) l2) (l0 + 3) (nz ((upd (upd g (l0 + 1) (nz (g l0 14)) l1) (l0 + 2) (nz ((upd g (l0 + 1) (nz (g l0 14)) l1) l0 14)) l2) l0 14)) (zand l3 3)) l0 14)) l4) l0 14)) l5) (l0 + 6) (nz ((upd (upd (upd (upd (upd g (l0 + 1) (nz (g l0 14)) l1) (l0 + 2) (nz ((upd g (l0 + 1) (nz (g l0 14)) l1) l0 14)) l2) (l0 + 3) (nz ((upd (upd g (l0 + 1) (nz (g l0 14)) l1) (l0 + 2) (nz ((upd g (l0 + 1) (nz (g l0 14)) l1) l0 14)) l2) l0 14)) (zand l3 3)) (l0 + 4) (nz ((upd (upd (upd g (l0 + 1) (nz (g l0 14)) l1) (l0 + 2) (nz ((upd g (l0 + 1) (nz (g l0 14)) l1) l0 14)) l2) (l0 + 3) (nz ((upd (upd g (l0 + 1) (nz (g l0 14)) l1) (l0 + 2) (nz ((upd g (l0 + 1) (nz (g l0 14)) l1) l0 14)) l2) l0 14)) (zand l3 3)) l0 14)) l4) (l0 + 5) (nz ((upd (upd (upd (upd g (l0 + 1) (nz (g l0 14)) l1) (l0 + 2) (nz ((upd g (l0 + 1) (nz (g l0 14)) l1) l0 14)) l2) (l0 + 3) (nz ((upd (upd g (l0 + 1) (nz (g l0 14)) l1) (l0 + 2) (nz ((upd g (l0 + 1) (nz (g l0 14)) l1) l0 14)) l2) l0 14)) (zand l3 3)) (l0 + 4) (nz ((upd (upd (upd g (l0 + 1) (nz (g l0 14)) l1) (l0 + 2) (nz ((upd g (l0 + 1) (nz (g l0 14)) l1) l0 14)) l2) (l0 + 3) (nz ((upd (upd g (l0 + 1) (nz (g l0 14)) l1) (l0 + 2) (nz ((upd g (l0 + 1) (nz (g l0 14)) l1) l0 14)) l2) l0 14)) (zand l3 3)) l0 14)) l4) l0 14)) l5) l0 14)) l6) l0 14)) 0) (l0 + 10) (nz ((upd (upd (upd (upd (upd (upd (upd g (l0 + 1) (nz (g l0 14)) l1) (l0 + 2) (nz ((upd g (l0 + 1) (nz (g l0 14)) l1) l0 14)) l2) (l0 + 3) (nz ((upd (upd g (l0 + 1) (nz (g l0 14)) l1) (l0 + 2) (nz ((upd g (l0 + 1) (nz (g l0 14)) l1) l0 14)) l2) l0 14)) (zand l3 3)) (l0 + 4) (nz ((upd (upd (upd g (l0 + 1) (nz (g l0 14)) l1) (l0 + 2) (nz ((upd g (l0 + 1) (nz (g l0 14)) l1) l0 14)) l2) (l0 + 3) (nz ((upd (upd g (l0 + 1) (nz (g l0 14)) l1) (l0 + 2) (nz ((upd g (l0 + 1) (nz (g l0 14)) l1) l0 14)) l2) l0 14)) (zand l3 3)) l0 14)) l4) (l0 + 5) (nz ((upd (upd (upd (upd g (l0 + 1) (nz (g l0 14)) l1) (l0 + 2) (nz ((upd g (l0 + 1) (nz (g l0 14)) l1) l0 14)) l2) (l0 + 3) (nz ((upd (upd g (l0 + 1) (nz (g l0 14)) l1) (l0 + 2) (nz ((upd g (l0 + 1) (nz (g l0 14)) l1) l0 14)) l2) l0 14)) (zand l3 3)) (l0 + 4) (nz ((upd (upd (upd g (l0 + 1) (nz (g l0 14)) l1) (l0 + 2) (nz ((upd g (l0 + 1) (nz (g l0 14)) l1) l0 14)) l2) (l0 + 3) (nz ((upd (upd g (l0 + 1) (nz (g l0 14)) l1) (l0 + 2) (nz ((upd g (l0 + 1) (nz (g l0 14)) l1) l0 14)) l2) l0 14)) (zand l3 3)) l0 14)) l4) l0 14)) l5) (l0 + 6) (nz ((upd (upd (upd (upd (upd g (l0 + 1) (nz (g l0 14)) l1) (l0 + 2) (nz ((upd g (l0 + 1) (nz (g l0 14)) l1) l0 14)) l2) (l0 + 3) (nz ((upd (upd g (l0 + 1) (nz (g l0 14)) l1) (l0 + 2) (nz ((upd g (l0 + 1) (nz (g l0 14)) l1) l0 14)) l2) l0 14)) (zand l3 3)) (l0 + 4) (nz ((upd (upd (upd g (l0 + 1) (nz (g l0 14)) l1) (l0 + 2) (nz ((upd g (l0 + 1) (nz (g l0 14)) l1) l0 14)) l2) (l0 + 3) (nz ((upd (upd g (l0 + 1) (nz (g l0 14)) l1) (l0 + 2) (nz ((upd g (l0 + 1) (nz (g l0 14)) l1) l0 14)) l2) l0 14)) (zand l3 3)) l0 14)) l4) (l0 + 5) (nz ((upd (upd (upd (upd g (l0 + 1) (nz (g l0 14)) l1) (l0 + 2) (nz ((upd g (l0 + 1) (nz (g l0 14)) l1) l0 14)) l2) (l0 + 3) (nz ((upd (upd g (l0 + 1) (nz (g l0 14)) l1) (l0 + 2) (nz ((upd g (l0 + 1) (nz (g l0 14)) l1) l0 14)) l2) l0 14)) (zand l3 3)) (l0 + 4) (nz ((upd (upd (upd g (l0 + 1) (nz (g l0 14)) l1) (l0 + 2) (nz ((upd g (l0 + 1) (nz (g l0 14)) l1) l0 14)) l2) (l0 + 3) (nz ((upd (upd g (l0 + 1) (nz (g l0 14)) l1) (l0 + 2) (nz ((upd g (l0 + 1) (nz (g l0 14)) l1) l0 14)) l2) l0 14)) (zand l3 3)) l0 14)) l4) l0 14)) l5) l0 14)) l6) (l0 + 9) (nz ((upd (upd (upd (upd (upd (upd g (l0 + 1) (nz (g l0 14)) l1) (l0 + 2) (nz ((upd g (l0 + 1) (nz (g l0 14)) l1) l0 14)) l2) (l0 + 3) (nz ((upd (upd g (l0 + 1) (nz (g l0 14)) l1) (l0 + 2) (nz ((upd g (l0 + 1) (nz (g l0 14)) l1) l0 14)) l2) l0 14)) (zand l3 3)) (l0 + 4) (nz ((upd (upd (upd g (l0 + 1) (nz (g l0 14)) l1) (l0 + 2) (nz ((upd g (l0 + 1) (nz (g l0 14)) l1) l0 14)) l2) (l0 + 3) (nz ((upd (upd g (l0 + 1) (nz (g l0 14)) l1) (l0 + 2) (nz ((upd g (l0 + 1) (nz (g l0 14)) l1) l0 14)) l2) l0 14)) (zand l3 3)) l0 14)) l4) (l0 + 5) (nz ((upd (upd (upd (upd g (l0 + 1) (nz (g l0 14)) l1) (l0 + 2) (nz ((upd g (l0 + 1) (nz (g l0 14)) l1) l0 14)) l2) (l0 + 3) (nz ((upd (upd g (l0 + 1) (nz (g l0 14)) l1) (l0 + 2) (nz ((upd g (l0 + 1) (nz (g l0 14)) l1) l0 14)) l2) l0 14)) (zand l3 3)) (l0 + 4) (nz ((upd (upd (upd g (l0 + 1) (nz (g l0 14)) l1) (l0 + 2) (nz ((upd g (l0 + 1) (nz (g l0 14)) l1) l0 14)) l2) (l0 + 3) (nz ((upd (upd g (l0 + 1) (nz (g l0 14)) l1) (l0 + 2) (nz ((upd g (l0 + 1) (nz (g l0 14)) l1) l0 14)) l2) l0 14)) (zand l3 3)) l0 14)) l4) l0 14)) l5) (l0 + 6) (nz ((upd (upd (upd (upd (upd g (l0 + 1) (nz (g l0 14)) l1) (l0 + 2) (nz ((upd g (l0 + 1) (nz (g l0 14)) l1) l0 14)) l2) (l0 + 3) (nz ((upd (upd g (l0 + 1) (nz (g l0 14)) l1) (l0 + 2) (nz ((upd g (l0 + 1) (nz (g l0 14)) l1) l0 14)) l2) l0 14)) (zand l3 3)) (l0 + 4) (nz ((upd (upd (upd g (l0 + 1) (nz (g l0 14)) l1) (l0 + 2) (nz ((upd g (l0 + 1) (nz (g l0 14)) l1) l0 14)) l2) (l0 + 3) (nz ((upd (upd g (l0 + 1) (nz (g l0 14)) l1) (l0 + 2) (nz ((upd g (l0 + 1) (nz (g l0 14)) l1) l0 14)) l2) l0 14)) (zand l3 3)) l0 14)) l4) (l0 + 5) (nz ((upd (upd (upd (upd g (l0 + 1) (nz (g l0 14)) l1) (l0 + 2) (nz ((upd g (l0 + 1) (nz (g l0 14)) l1) l0 14)) l2) (l0 + 3) (nz ((upd (upd g (l0 + 1) (nz (g l0 14)) l1) (l0 + 2) (nz ((upd g (l0 + 1) (nz (g l0 14)) l1) l0 14)) l2) l0 14)) (zand l3 3)) (l0 + 4) (nz ((upd (upd (upd g (l0 + 1) (nz (g l0 14)) l1) (l0 + 2) (nz ((upd g (l0 + 1) (nz (g l0 14)) l1) l0 14)) l2) (l0 + 3) (nz ((upd (upd g (l0 + 1) (nz (g l0 14)) l1) (l0 + 2) (nz ((upd g (l0 + 1) (nz (g l0 14)) l1) l0 14)) l2) l0 14)) (zand l3 3)) l0 14)) l4) l0 14)) l5) l0 14)) l6) l0 14)) 0) l0 14)) 0) l0 14)) 0) l0 14 (nz ((nz ((upd (upd (upd (upd (upd (upd (upd (upd (upd g (l0 + 1) (nz (g l0 14)) l1) (l0 + 2) (nz ((upd g (l0 + 1) (nz (g l0 14)) l1) l0 14)) l2) (l0 + 3) (nz ((upd (upd g (l0 + 1) (nz (g l0 14)) l1) (l0 + 2) (nz ((upd g (l0 + 1) (nz (g l0 14)) l1) l0 14)) l2) l0 14)) (zand l3 3)) (l0 + 4) (nz ((upd (upd (upd g (l0 + 1) (nz (g l0 14)) l1) (l0 + 2) (nz ((upd g (l0 + 1) (nz (g l0 14)) l1) l0 14)) l2) (l0 + 3) (nz ((upd (upd g (l0 + 1) (nz (g l0 14)) l1) (l0 + 2) (nz ((upd g (l0 + 1) (nz (g l0 14)) l1) l0 14)) l2) l0 14)) (zand l3 3)) l0 14)) l4) (l0 + 5) (nz ((upd (upd (upd (upd g (l0 + 1) (nz (g l0 14)) l1) (l0 + 2) (nz ((upd g (l0 + 1) (nz (g l0 14)) l1) l0 14)) l2) (l0 + 3) (nz ((upd (upd g (l0 + 1) (nz (g l0 14)) l1) (l0 + 2) (nz ((upd g (l0 + 1) (nz (g l0 14)) l1) l0 14)) l2) l0 14)) (zand l3 3)) (l0 + 4) (nz ((upd (upd (upd g (l0 + 1) (nz (g l0 14)) l1) (l0 + 2) (nz ((upd g (l0 + 1) (nz (g l0 14)) l1) l0 14)) l2) (l0 + 3) (nz ((upd (upd g (l0 + 1) (nz (g l0 14)) l1) (l0 + 2) (nz ((upd g (l0 + 1) (nz (g l0 14)) l1) l0 14)) l2) l0 14)) (zand l3 3)) l0 14)) l4) l0 14)) l5) (l0 + 6) (nz ((upd (upd (upd (upd (upd g (l0 + 1) (nz (g l0 14)) l1) (l0 + 2) (nz ((upd g (l0 + 1) (nz (g l0 14)) l1) l0 14)) l2) (l0 + 3) (nz ((upd (upd g (l0 + 1) (nz (g l0 14)) l1) (l0 + 2) (nz ((upd g (l0 + 1) (nz (g l0 14)) l1) l0 14)) l2) l0 14)) (zand l3 3)) (l0 + 4) (nz ((upd (upd (upd g (l0 + 1) (nz (g l0 14)) l1) (l0 + 2) (nz ((upd g (l0 + 1) (nz (g l0 14)) l1) l0 14)) l2) (l0 + 3) (nz ((upd (upd g (l0 + 1) (nz (g l0 14)) l1) (l0 + 2) (nz ((upd g (l0 + 1) (nz (g l0 14)) l1) l0 14)) l2) l0 14)) (zand l3 3)) l0 14)) l4) (l0 + 5) (nz ((upd (upd (upd (upd g (l0 + 1) (nz (g l0 14)) l1) (l0 + 2) (nz ((upd g (l0 + 1) (nz (g l0 14)) l1) l0 14)) l2) (l0 + 3) (nz ((upd (upd g (l0 + 1) (nz (g l0 14)) l1) (l0 + 2) (nz ((upd g (l0 + 1) (nz (g l0 14)) l1) l0 14)) l2) l0 14)) (zand l3 3)) (l0 + 4) (nz ((upd (upd (upd g (l0 + 1) (nz (g l0 14)) l1) (l0 + 2) (nz ((upd g (l0 + 1) (nz (g l0 14)) l1) l0 14)) l2) (l0 + 3) (nz ((upd (upd g (l0 + 1) (nz (g l0 14)) l1) (l0 + 2) (nz ((upd g (l0 + 1) (nz (g l0 14)) l1) l0 14)) l2) l0 14)) (zand l3 3)) l0 14)) l4) l0 14)) l5) l0 14)) l6) (l0 + 9) (nz ((upd (upd (upd (upd (upd (upd g (l0 + 1) (nz (g l0 14)) l1) (l0 + 2) (nz ((upd g (l0 + 1) (nz (g l0 14)) l1) l0 14)) l2) (l0 + 3) (nz ((upd (upd g (l0 + 1) (nz (g l0 14)) l1) (l0 + 2) (nz ((upd g (l0 + 1) (nz (g l0 14)) l1) l0 14)) l2) l0 14)) (zand l3 3)) (l0 + 4) (nz ((upd (upd (upd g (l0 + 1) (nz (g l0 14)) l1) (l0 + 2) (nz ((upd g (l0 + 1) (nz (g l0 14)) l1) l0 14)) l2) (l0 + 3) (nz ((upd (upd g (l0 + 1) (nz (g l0 14)) l1) (l0 + 2) (nz ((upd g (l0 + 1) (nz (g l0 14)) l1) l0 14)) l2) l0 14)) (zand l3 3)) l0 14)) l4) (l0 + 5) (nz ((upd (upd (upd (upd g (l0 + 1) (nz (g l0 14)) l1) (l0 + 2) (nz ((upd g (l0 + 1) (nz (g l0 14)) l1) l0 14)) l2) (l0 + 3) (nz ((upd (upd g (l0 + 1) (nz (g l0 14)) l1) (l0 + 2) (nz ((upd g (l0 + 1) (nz (g l0 14)) l1) l0 14)) l2) l0 14)) (zand l3 3)) (l0 + 4) (nz ((upd (upd (upd g (l0 + 1) (nz (g l0 14)) l1) (l0 + 2) (nz ((upd g (l0 + 1) (nz (g l0 14)) l1) l0 14)) l2) (l0 + 3) (nz ((upd (upd g (l0 + 1) (nz (g l0 14)) l1) (l0 + 2) (nz ((upd g (l0 + 1) (nz (g l0 14)) l1) l0 14)) l2) l0 14)) (zand l3 3)) l0 14)) l4) l0 14)) l5) (l0 + 6) (nz ((upd (upd (upd (upd (upd g (l0 + 1) (nz (g l0 14)) l1) (l0 + 2) (nz ((upd g (l0 + 1) (nz (g l0 14)) l1) l0 14)) l2) (l0 + 3) (nz ((upd (upd g (l0 + 1) (nz (g l0 14)) l1) (l0 + 2) (nz ((upd g (l0 + 1) (nz (g l0 14)) l1) l0 14)) l2) l0 14)) (zand l3 3)) (l0 + 4) (nz ((upd (upd (upd g (l0 + 1) (nz (g l0 14)) l1) (l0 + 2) (nz ((upd g (l0 + 1) (nz (g l0 14)) l1) l0 14)) l2) (l0 + 3) (nz ((upd (upd g (l0 + 1) (nz (g l0 14)) l1) (l0 + 2) (nz ((upd g (l0 + 1) (nz (g l0 14)) l1) l0 14)) l2) l0 14)) (zand l3 3)) l0 14)) l4) (l0 + 5) (nz ((upd (upd (upd (upd g (l0 + 1) (nz (g l0 14)) l1) (l0 + 2) (nz ((upd g (l0 + 1) (nz (g l0 14)) l1) l0 14)) l2) (l0 + 3) (nz ((upd (upd g (l0 + 1) (nz (g l0 14)) l1) (l0 + 2) (nz ((upd g (l0 + 1) (nz (g l0 14)) l1) l0 14)) l2) l0 14)) (zand l3 3)) (l0 + 4) (nz ((upd (upd (upd g (l0 + 1) (nz (g l0 14)) l1) (l0 + 2) (nz ((upd g (l0 + 1) (nz (g l0 14)) l1) l0 14)) l2) (l0 + 3) (nz ((upd (upd g (l0 + 1) (nz (g l0 14)) l1) (l0 + 2) (nz ((upd g (l0 + 1) (nz (g l0 14)) l1) l0 14)) l2) l0 14)) (zand l3 3)) l0 14)) l4) l0 14)) l5) l0 14)) l6) l0 14)) 0) (l0 + 10) (nz ((upd (upd (upd (upd (upd (upd (upd g (l0 + 1) (nz (g l0 14)) l1) (l0 + 2) (nz ((upd g (l0 + 1) (nz (g l0 14)) l1) l0 14)) l2) (l0 + 3) (nz ((upd (upd g (l0 + 1) (nz (g l0 14)) l1) (l0 + 2) (nz ((upd g (l0 + 1) (nz (g l0 14)) l1) l0 14)) l2) l0 14)) (zand l3 3)) (l0 + 4) (nz ((upd (upd (upd g (l0 + 1) (nz (g l0 14)) l1) (l0 + 2) (nz ((upd g (l0 + 1) (nz (g l0 14)) l1) l0 14)) l2) (l0 + 3) (nz ((upd (upd g (l0 + 1) (nz (g l0 14)) l1) (l0 + 2) (nz ((upd g (l0 + 1) (nz (g l0 14)) l1) l0 14)) l2) l0 14)) (zand l3 3)) l0 14)) l4) (l0 + 5) (nz ((upd (upd (upd (upd g (l0 + 1) (nz (g l0 14)) l1) (l0 + 2) (nz ((upd g (l0 + 1) (nz (g l0 14)) l1) l0 14)) l2) (l0 + 3) (nz ((upd (upd g (l0 + 1) (nz (g l0 14)) l1) (l0 + 2) (nz ((upd g (l0 + 1) (nz (g l0 14)) l1) l0 14)) l2) l0 14)) (zand l3 3)) (l0 + 4) (nz ((upd (upd (upd g (l0 + 1) (nz (g l0 14)) l1) (l0 + 2) (nz ((upd g (l0 + 1) (nz (g l0 14)) l1) l0 14)) l2) (l0 + 3) (nz ((upd (upd g (l0 + 1) (nz (g l0 14)) l1) (l0 + 2) (nz ((upd g (l0 + 1) (nz (g l0 14)) l1) l0 14)) l2) l0 14)) (zand l3 3)) l0 14)) l4) l0 14)) l5) (l0 + 6) (nz ((upd (upd (upd (upd (upd g (l0 + 1) (nz (g l0 14)) l1) (l0 + 2) (nz ((upd g (l0 + 1) (nz (g l0 14)) l1) l0 14)) l2) (l0 + 3) (nz ((upd (upd g (l0 + 1) (nz (g l0 14)) l1) (l0 + 2) (nz ((upd g (l0 + 1) (nz (g l0 14)) l1) l0 14)) l2) l0 14)) (zand l3 3)) (l0 + 4) (nz ((upd (upd (upd g (l0 + 1) (nz (g l0 14)) l1) (l0 + 2) (nz ((upd g (l0 + 1) (nz (g l0 14)) l1) l0 14)) l2) (l0 + 3) (nz ((upd (upd g (l0 + 1) (nz (g l0 14)) l1) (l0 + 2) (nz ((upd g (l0 + 1) (nz (g l0 14)) l1) l0 14)) l2) l0 14)) (zand l3 3)) l0 14)) l4) (l0 + 5) (nz ((upd (upd (upd (upd g (l0 + 1) (nz (g l0 14)) l1) (l0 + 2) (nz ((upd g (l0 + 1) (nz (g l0 14)) l1) l0 14)) l2) (l0 + 3) (nz ((upd (upd g (l0 + 1) (nz (g l0 14)) l1) (l0 + 2) (nz ((upd g (l0 + 1) (nz (g l0 14)) l1) l0 14)) l2) l0 14)) (zand l3 3)) (l0 + 4) (nz ((upd (upd (upd g (l0 + 1) (nz (g l0 14)) l1) (l0 + 2) (nz ((upd g (l0 + 1) (nz (g l0 14)) l1) l0 14)) l2) (l0 + 3) (nz ((upd (upd g (l0 + 1) (nz (g l0 14)) l1) (l0 + 2) (nz ((upd g (l0 + 1) (nz (g l0 14)) l1) l0 14)) l2) l0 14)) (zand l3 3)) l0 14)) l4) l0 14)) l5) l0 14)) l6) (l0 + 9) (nz ((upd (upd (upd (upd (upd (upd g (l0 + 1) (nz (g l0 14)) l1) (l0 + 2) (nz ((upd g (l0 + 1) (nz (g l0 14)) l1) l0 14)) l2) (l0 + 3) (nz ((upd (upd g (l0 + 1) (nz (g l0 14)) l1) (l0 + 2) (nz ((upd g (l0 + 1) (nz (g l0 14)) l1) l0 14)) l2) l0 14)) (zand l3 3)) (l0 + 4) (nz ((upd (upd (upd g (l0 + 1) (nz (g l0 14)) l1) (l0 + 2) (nz ((upd g (l0 + 1) (nz (g l0 14)) l1) l0 14)) l2) (l0 + 3) (nz ((upd (upd g (l0 + 1) (nz (g l0 14)) l1) (l0 + 2) (nz ((upd g (l0 + 1) (nz (g l0 14)) l1) l0 14)) l2) l0 14)) (zand l3 3)) l0 14)) l4) (l0 + 5) (nz ((upd (upd (upd (upd g (l0 + 1) (nz (g l0 14)) l1) (l0 + 2) (nz ((upd g (l0 + 1) (nz (g l0 14)) l1) l0 14)) l2) (l0 + 3) (nz ((upd (upd g (l0 + 1) (nz (g l0 14)) l1) (l0 + 2) (nz ((upd g (l0 + 1) (nz (g l0 14)) l1) l0 14)) l2) l0 14)) (zand l3 3)) (l0 + 4) (nz ((upd (upd (upd g (l0 + 1) (nz (g l0 14)) l1) (l0 + 2) (nz ((upd g (l0 + 1) (nz (g l0 14)) l1) l0 14)) l2) (l0 + 3) (nz ((upd (upd g (l0 + 1) (nz (g l0 14)) l1) (l0 + 2) (nz ((upd g (l0 + 1) (nz (g l0 14)) l1) l0 14)) l2) l0 14)) (zand l3 3)) l0 14)) l4) l0 14)) l5) (l0 + 6) (nz ((upd (upd (upd (upd (upd g (l0 + 1) (nz (g l0 14)) l1) (l0 + 2) (nz ((upd g (l0 + 1) (nz (g l0 14)) l1) l0 14)) l2) (l0 + 3) (nz ((upd (upd g (l0 + 1) (nz (g l0 14)) l1) (l0 + 2) (nz ((upd g (l0 + 1) (nz (g l0 14)) l1) l0 14)) l2) l0 14)) (zand l3 3)) (l0 + 4) (nz ((upd (upd (upd g (l0 + 1) (nz (g l0 14)) l1) (l0 + 2) (nz ((upd g (l0 + 1) (nz (g l0 14)) l1) l0 14)) l2) (l0 + 3) (nz ((upd (upd g (l0 + 1) (nz (g l0 14)) l1) (l0 + 2) (nz ((upd g (l0 + 1) (nz (g l0 14)) l1) l0 14)) l2) l0 14)) (zand l3 3)) l0 14)) l4) (l0 + 5) (nz ((upd (upd (upd (upd g (l0 + 1) (nz (g l0 14)) l1) (l0 + 2) (nz ((upd g (l0 + 1) (nz (g l0 14)) l1) l0 14)) l2) (l0 + 3) (nz ((upd (upd g (l0 + 1) (nz (g l0 14)) l1) (l0 + 2) (nz ((upd g (l0 + 1) (nz (g l0 14)) l1) l0 14)) l2) l0 14)) (zand l3 3)) (l0 + 4) (nz ((upd (upd (upd g (l0 + 1) (nz (g l0 14)) l1) (l0 + 2) (nz ((upd g (l0 + 1) (nz (g l0 14)) l1) l0 14)) l2) (l0 + 3) (nz ((upd (upd g (l0 + 1) (nz (g l0 14)) l1) (l0 + 2) (nz ((upd g (l0 + 1) (nz (g l0 14)) l1) l0 14)) l2) l0 14)) (zand l3 3)) l0 14)) l4) l0 14)) l5) l0 14)) l6) l0 14)) 0) l0 14)) 0) (l0 + 11) (nz ((upd (upd (upd (upd (upd (upd (upd (upd g (l0 + 1) (nz (g l0 14)) l1) (l0 + 2) (nz ((upd g (l0 + 1) (nz (g l0 14)) l1) l0 14)) l2) (l0 + 3) (nz ((upd (upd g (l0 + 1) (nz (g l0 14)) l1) (l0 + 2) (nz ((upd g (l0 + 1) (nz (g l0 14)) l1) l0 14)) l2) l0 14)) (zand l3 3)) (l0 + 4) (nz ((upd (upd (upd g (l0 + 1) (nz (g l0 14)) l1) (l0 + 2) (nz ((upd g (l0 + 1) (nz (g l0 14)) l1) l0 14)) l2) (l0 + 3) (nz ((upd (upd g (l0 + 1) (nz (g l0 14)) l1) (l0 + 2) (nz ((upd g (l0 + 1) (nz (g l0 14)) l1) l0 14)) l2) l0 14)) (zand l3 3)) l0 14)) l4) (l0 + 5) (nz ((upd (upd (upd (upd g (l0 + 1) (nz (g l0 14)) l1) (l0 + 2) (nz ((upd g (l0 + 1) (nz (g l0 14)) l1) l0 14)) l2) (l0 + 3) (nz ((upd (upd g (l0 + 1) (nz (g l0 14)) l1) (l0 + 2) (nz ((upd g (l0 + 1) (nz (g l0 14)) l1) l0 14)) l2) l0 14)) (zand l3 3)) (l0 + 4) (nz ((upd (upd (upd g (l0 + 1) (nz (g l0 14)) l1) (l0 + 2) (nz ((upd g (l0 + 1) (nz (g l0 14)) l1) l0 14)) l2) (l0 + 3) (nz ((upd (upd g (l0 + 1) (nz (g l0 14)) l1) (l0 + 2) (nz ((upd g (l0 + 1) (nz (g l0 14)) l1) l0 14)) l2) l0 14)) (zand l3 3)) l0 14)) l4) l0 14)) l5) (l0 + 6) (nz ((upd (upd (upd (upd (upd g (l0 + 1) (nz (g l0 14)) l1) (l0 + 2) (nz ((upd g (l0 + 1) (nz (g l0 14)) l1) l0 14)) l2) (l0 + 3) (nz ((upd (upd g (l0 + 1) (nz (g l0 14)) l1) (l0 + 2) (nz ((upd g (l0 + 1) (nz (g l0 14)) l1) l0 14)) l2) l0 14)) (zand l3 3)) (l0 + 4) (nz ((upd (upd (upd g (l0 + 1) (nz (g l0 14)) l1) (l0 + 2) (nz ((upd g (l0 + 1) (nz (g l0 14)) l1) l0 14)) l2) (l0 + 3) (nz ((upd (upd g (l0 + 1) (nz (g l0 14)) l1) (l0 + 2) (nz ((upd g (l0 + 1) (nz (g l0 14)) l1) l0 14)) l2) l0 14)) (zand l3 3)) l0 14)) l4) (l0 + 5) (nz ((upd (upd (upd (upd g (l0 + 1) (nz (g l0 14)) l1) (l0 + 2) (nz ((upd g (l0 + 1) (nz (g l0 14)) l1) l0 14)) l2) (l0 + 3) (nz ((upd (upd g (l0 + 1) (nz (g l0 14)) l1) (l0 + 2) (nz ((upd g (l0 + 1) (nz (g l0 14)) l1) l0 14)) l2) l0 14)) (zand l3 3)) (l0 + 4) (nz ((upd (upd (upd g (l0 + 1) (nz (g l0 14)) l1) (l0 + 2) (nz ((upd g (l0 + 1) (nz (g l0 14)) l1) l0 14)) l2) (l0 + 3) (nz ((upd (upd g (l0 + 1) (nz (g l0 14)) l1) (l0 + 2) (nz ((upd g (l0 + 1) (nz (g l0 14)) l1) l0 14)) l2) l0 14)) (zand l3 3)) l0 14)) l4) l0 14)) l5) l0 14)) l6) (l0 + 9) (nz ((upd (upd (upd (upd (upd (upd g (l0 + 1) (nz (g l0 14)) l1) (l0 + 2) (nz ((upd g (l0 + 1) (nz (g l0 14)) l1) l0 14)) l2) (l0 + 3) (nz ((upd (upd g (l0 + 1) (nz (g l0 14)) l1) (l0 + 2) (nz ((upd g (l0 + 1) (nz (g l0 14)) l1) l0 14)) l2) l0 14)) (zand l3 3)) (l0 + 4) (nz ((upd (upd (upd g (l0 + 1) (nz (g l0 14)) l1) (l0 + 2) (nz ((upd g (l0 + 1) (nz (g l0 14)) l1) l0 14)) l2) (l0 + 3) (nz ((upd (upd g (l0 + 1) (nz (g l0 14)) l1) (l0 + 2) (nz ((upd g (l0 + 1) (nz (g l0 14)) l1) l0 14)) l2) l0 14)) (zand l3 3)) l0 14)) l4) (l0 + 5) (nz ((upd (upd (upd (upd g (l0 + 1) (nz (g l0 14)) l1) (l0 + 2) (nz ((upd g (l0 + 1) (nz (g l0 14)) l1) l0 14)) l2) (l0 + 3) (nz ((upd (upd g (l0 + 1) (nz (g l0 14)) l1) (l0 + 2) (nz ((upd g (l0 + 1) (nz (g l0 14)) l1) l0 14)) l2) l0 14)) (zand l3 3)) (l0 + 4) (nz ((upd (upd (upd g (l0 + 1) (nz (g l0 14)) l1) (l0 + 2) (nz ((upd g (l0 + 1) (nz (g l0 14)) l1) l0 14)) l2) (l0 + 3) (nz ((upd (upd g (l0 + 1) (nz (g l0 14)) l1) (l0 + 2) (nz ((upd g (l0 + 1) (nz (g l0 14)) l1) l0 14)) l2) l0 14)) (zand l3 3)) l0 14)) l4) l0 14)) l5) (l0 + 6) (nz ((upd (upd (upd (upd (upd g (l0 + 1) (nz (g l0 14)) l1) (l0 + 2) (nz ((upd g (l0 + 1) (nz (g l0 14)) l1) l0 14)) l2) (l0 + 3) (nz ((upd (upd g (l0 + 1) (nz (g l0 14)) l1) (l0 + 2) (nz ((upd g (l0 + 1) (nz (g l0 14)) l1) l0 14)) l2) l0 14)) (zand l3 3)) (l0 + 4) (nz ((upd (upd (upd g (l0 + 1) (nz (g l0 14)) l1) (l0 + 2) (nz ((upd g (l0 + 1) (nz (g l0 14)) l1) l0 14)) l2) (l0 + 3) (nz ((upd (upd g (l0 + 1) (nz (g l0 14)) l1) (l0 + 2) (nz ((upd g (l0 + 1) (nz (g l0 14)) l1) l0 14)) l2) l0 14)) (zand l3 3)) l0 14)) l4) (l0 + 5) (nz ((upd (upd (upd (upd g (l0 + 1) (nz (g l0 14)) l1) (l0 + 2) (nz ((upd g (l0 + 1) (nz (g l0 14)) l1) l0 14)) l2) (l0 + 3) (nz ((upd (upd g (l0 + 1) (nz (g l0 14)) l1) (l0 + 2) (nz ((upd g (l0 + 1) (nz (g l0 14)) l1) l0 14)) l2) l0 14)) (zand l3 3)) (l0 + 4) (nz ((upd (upd (upd g (l0 + 1) (nz (g l0 14)) l1) (l0 + 2) (nz ((upd g (l0 + 1) (nz (g l0 14)) l1) l0 14)) l2) (l0 + 3) (nz ((upd (upd g (l0 + 1) (nz (g l0 14)) l1) (l0 + 2) (nz ((upd g (l0 + 1) (nz (g l0 14)) l1) l0 14)) l2) l0 14)) (zand l3 3)) l0 14)) l4) l0 14)) l5) l0 14)) l6) l0 14)) 0) (l0 + 10) (nz ((upd (upd (upd (upd (upd (upd (upd g (l0 + 1) (nz (g l0 14)) l1) (l0 + 2) (nz ((upd g (l0 + 1) (nz (g l0 14)) l1) l0 14)) l2) (l0 + 3) (nz ((upd (upd g (l0 + 1) (nz (g l0 14)) l1) (l0 + 2) (nz ((upd g (l0 + 1) (nz (g l0 14)) l1) l0 14)) l2) l0 14)) (zand l3 3)) (l0 + 4) (nz ((upd (upd (upd g (l0 + 1) (nz (g l0 14)) l1) (l0 + 2) (nz ((upd g (l0 + 1) (nz (g l0 14)) l1) l0 14)) l2) (l0 + 3) (nz ((upd (upd g (l0 + 1) (nz (g l0 14)) l1) (l0 + 2) (nz ((upd g (l0 + 1) (nz (g l0 14)) l1) l0 14)) l2) l0 14)) (zand l3 3)) l0 14)) l4) (l0 + 5) (nz ((upd (upd (upd (upd g (l0 + 1) (nz (g l0 14)) l1) (l0 + 2) (nz ((upd g (l0 + 1) (nz (g l0 14)) l1) l0 14)) l2) (l0 + 3) (nz ((upd (upd g (l0 + 1) (nz (g l0 14)) l1) (l0 + 2) (nz ((upd g (l0 + 1) (nz (g l0 14)) l1) l0 14)) l2) l0 14)) (zand l3 3)) (l0 + 4) (nz ((upd (upd (upd g (l0 + 1) (nz (g l0 14)) l1) (l0 + 2) (nz ((upd g (l0 + 1) (nz (g l0 14)) l1) l0 14)) l2) (l0 + 3) (nz ((upd (upd g (l0 + 1) (nz (g l0 14)) l1) (l0 + 2) (nz ((upd g (l0 + 1) (nz (g l0 14)) l1) l0 14)) l2) l0 14)) (zand l3 3)) l0 14)) l4) l0 14)) l5) (l0 + 6) (nz ((upd (upd (upd (upd (upd g (l0 + 1) (nz (g l0 14)) l1) (l0 + 2) (nz ((upd g (l0 + 1) (nz (g l0 14)) l1) l0 14)) l2) (l0 + 3) (nz ((upd (upd g (l0 + 1) (nz (g l0 14)) l1) (l0 + 2) (nz ((upd g (l0 + 1) (nz (g l0 14)) l1) l0 14)) l2) l0 14)) (zand l3 3)) (l0 + 4) (nz ((upd (upd (upd g (l0 + 1) (nz (g l0 14)) l1) (l0 + 2) (nz ((upd g (l0 + 1) (nz (g l0 14)) l1) l0 14)) l2) (l0 + 3) (nz ((upd (upd g (l0 + 1) (nz (g l0 14)) l1) (l0 + 2) (nz ((upd g (l0 + 1) (nz (g l0 14)) l1) l0 14)) l2) l0 14)) (zand l3 3)) l0 14)) l4) (l0 + 5) (nz ((upd (upd (upd (upd g (l0 + 1) (nz (g l0 14)) l1) (l0 + 2) (nz ((upd g (l0 + 1) (nz (g l0 14)) l1) l0 14)) l2) (l0 + 3) (nz ((upd (upd g (l0 + 1) (nz (g l0 14)) l1) (l0 + 2) (nz ((upd g (l0 + 1) (nz (g l0 14)) l1) l0 14)) l2) l0 14)) (zand l3 3)) (l0 + 4) (nz ((upd (upd (upd g (l0 + 1) (nz (g l0 14)) l1) (l0 + 2) (nz ((upd g (l0 + 1) (nz (g l0 14)) l1) l0 14)) l2) (l0 + 3) (nz ((upd (upd g (l0 + 1) (nz (g l0 14)) l1) (l0 + 2) (nz ((upd g (l0 + 1) (nz (g l0 14)) l1) l0 14)) l2) l0 14)) (zand l3 3)) l0 14)) l4) l0 14)) l5) l0 14)) l6) (l0 + 9) (nz ((upd (upd (upd (upd (upd (upd g (l0 + 1) (nz (g l0 14)) l1) (l0 + 2) (nz ((upd g (l0 + 1) (nz (g l0 14)) l1) l0 14)) l2) (l0 + 3) (nz ((upd (upd g (l0 + 1) (nz (g l0 14)) l1) (l0 + 2) (nz ((upd g (l0 + 1) (nz (g l0 14)) l1) l0 14)) l2) l0 14)) (zand l3 3)) (l0 + 4) (nz ((upd (upd (upd g (l0 + 1) (nz (g l0 14)) l1) (l0 + 2) (nz ((upd g (l0 + 1) (nz (g l0 14)) l1) l0 14)) l2) (l0 + 3) (nz ((upd (upd g (l0 + 1) (nz (g l0 14)) l1) (l0 + 2) (nz ((upd g (l0 + 1) (nz (g l0 14)) l1) l0 14)) l2) l0 14)) (zand l3 3)) l0 14)) l4) (l0 + 5) (nz ((upd (upd (upd (upd g (l0 + 1) (nz (g l0 14)) l1) (l0 + 2) (nz ((upd g (l0 + 1) (nz (g l0 14)) l1) l0 14)) l2) (l0 + 3) (nz ((upd (upd g (l0 + 1) (nz (g l0 14)) l1) (l0 + 2) (nz ((upd g (l0 + 1) (nz (g l0 14)) l1) l0 14)) l2) l0 14)) (zand l3 3)) (l0 + 4) (nz ((upd (upd (upd g (l0 + 1) (nz (g l0 14)) l1) (l0 + 2) (nz ((upd g (l0 + 1) (nz (g l0 14)) l1) l0 14)) l2) (l0 + 3) (nz ((upd (upd g (l0 + 1) (nz (g l0 14)) l1) (l0 + 2) (nz ((upd g (l0 + 1) (nz (g l0 14)) l1) l0 14)) l2) l0 14)) (zand l3 3)) l0 14)) l4) l0 14)) l5) (l0 + 6) (nz ((upd (upd (upd (upd (upd g (l0 + 1) (nz (g l0 14)) l1) (l0 + 2) (nz ((upd g (l0 + 1) (nz (g l0 14)) l1) l0 14)) l2) (l0 + 3) (nz ((upd (upd g (l0 + 1) (nz (g l0 14)) l1) (l0 + 2) (nz ((upd g (l0 + 1) (nz (g l0 14)) l1) l0 14)) l2) l0 14)) (zand l3 3)) (l0 + 4) (nz ((upd (upd (upd g (l0 + 1) (nz (g l0 14)) l1) (l0 + 2) (nz ((upd g (l0 + 1) (nz (g l0 14)) l1) l0 14)) l2) (l0 + 3) (nz ((upd (upd g (l0 + 1) (nz (g l0 14)) l1) (l0 + 2) (nz ((upd g (l0 + 1) (nz (g l0 14)) l1) l0 14)) l2) l0 14)) (zand l3 3)) l0 14)) l4) (l0 + 5) (nz ((upd (upd (upd (upd g (l0 + 1) (nz (g l0 14)) l1) (l0 + 2) (nz ((upd g (l0 + 1) (nz (g l0 14)) l1) l0 14)) l2) (l0 + 3) (nz ((upd (upd g (l0 + 1) (nz (g l0 14)) l1) (l0 + 2) (nz ((upd g (l0 + 1) (nz (g l0 14)) l1) l0 14)) l2) l0 14)) (zand l3 3)) (l0 + 4) (nz ((upd (upd (upd g (l0 + 1) (nz (g l0 14)) l1) (l0 + 2) (nz ((upd g (l0 + 1) (nz (g l0 14)) l1) l0 14)) l2) (l0 + 3) (nz ((upd (upd g (l0 + 1) (nz (g l0 14)) l1) (l0 + 2) (nz ((upd g (l0 + 1) (nz (g l0 14)) l1) l0 14)) l2) l0 14)) (zand l3 3)) l0 14)) l4) l0 14)) l5) l0 14)) l6) l0 14)) 0) l0 14)) 0) l0 14)) 0) l0 14)) + 1)))))) else none) else none) else none) else none) else none) else none) else none) else none) else none) = some r) : k6_17 V ST d (zCl AL V ST ex_km d) (zRn AL V ST ex_km d kt_6) (zP [zf b l0, enc l1, enc l2, enc l3, enc l4, enc l5, enc l6]) [] (zM n (zWf b f g)) = some r := by
  unfold k6_17
  refine (zr_aload (v := zf b l0) rfl (zf_tA h _)).trans ?_
  refine (zr_gfr h (tr_fl_x zl0)).trans ?_
  refine (zr_aload (v := zf b l0) rfl (zf_tA h _)).trans ?_
  refine (zr_gfi h (ti_fl_count zl0)).trans ?_
  refine (zr_iload (v := enc l1) rfl (enc_lt _)).trans ?_
  by_cases c1 : 0 ≤ nz (g l0 14) ∧ nz (g l0 14) < 16
  · rw [if_pos c1] at k
    refine (zr_iast h (ta_fl_x zl0) c1.1 (by have := c1.2; omega)).trans ?_
    refine (zr_aload (v := zf b l0) rfl (zf_tA h _)).trans ?_
    refine (zr_gfr h (tr_fl_y zl0)).trans ?_
    refine (zr_aload (v := zf b l0) rfl (zf_tA h _)).trans ?_
    refine (zr_gfi h (ti_fl_count zl0)).trans ?_
    refine (zr_iload (v := enc l2) rfl (enc_lt _)).trans ?_
    by_cases c2 : 0 ≤ nz ((upd g (l0 + 1) (nz (g l0 14)) l1) l0 14) ∧ nz ((upd g (l0 + 1) (nz (g l0 14)) l1) l0 14) < 16
    · rw [if_pos c2] at k
      refine (zr_iast h (ta_fl_y zl0) c2.1 (by have := c2.2; omega)).trans ?_
      refine (zr_aload (v := zf b l0) rfl (zf_tA h _)).trans ?_
      refine (zr_gfr h (tr_fl_f zl0)).trans ?_
      refine (zr_aload (v := zf b l0) rfl (zf_tA h _)).trans ?_
      refine (zr_gfi h (ti_fl_count zl0)).trans ?_
      refine (zr_iload (v := enc l3) rfl (enc_lt _)).trans ?_
      refine (zr_pshi 3 rfl).trans ?_
      refine (zr_iand).trans ?_
      by_cases c3 : 0 ≤ nz ((upd (upd g (l0 + 1) (nz (g l0 14)) l1) (l0 + 2) (nz ((upd g (l0 + 1) (nz (g l0 14)) l1) l0 14)) l2) l0 14) ∧ nz ((upd (upd g (l0 + 1) (nz (g l0 14)) l1) (l0 + 2) (nz ((upd g (l0 + 1) (nz (g l0 14)) l1) l0 14)) l2) l0 14) < 16
      · rw [if_pos c3] at k
        refine (zr_iast h (ta_fl_f zl0) c3.1 (by have := c3.2; omega)).trans ?_
        refine (zr_aload (v := zf b l0) rfl (zf_tA h _)).trans ?_
        refine (zr_gfr h (tr_fl_number zl0)).trans ?_
        refine (zr_aload (v := zf b l0) rfl (zf_tA h _)).trans ?_
        refine (zr_gfi h (ti_fl_count zl0)).trans ?_
        refine (zr_iload (v := enc l4) rfl (enc_lt _)).trans ?_
        by_cases c4 : 0 ≤ nz ((upd (upd (upd g (l0 + 1) (nz (g l0 14)) l1) (l0 + 2) (nz ((upd g (l0 + 1) (nz (g l0 14)) l1) l0 14)) l2) (l0 + 3) (nz ((upd (upd g (l0 + 1) (nz (g l0 14)) l1) (l0 + 2) (nz ((upd g (l0 + 1) (nz (g l0 14)) l1) l0 14)) l2) l0 14)) (zand l3 3)) l0 14) ∧ nz ((upd (upd (upd g (l0 + 1) (nz (g l0 14)) l1) (l0 + 2) (nz ((upd g (l0 + 1) (nz (g l0 14)) l1) l0 14)) l2) (l0 + 3) (nz ((upd (upd g (l0 + 1) (nz (g l0 14)) l1) (l0 + 2) (nz ((upd g (l0 + 1) (nz (g l0 14)) l1) l0 14)) l2) l0 14)) (zand l3 3)) l0 14) < 16
        · rw [if_pos c4] at k
          refine (zr_iast h (ta_fl_number zl0) c4.1 (by have := c4.2; omega)).trans ?_
          refine (zr_aload (v := zf b l0) rfl (zf_tA h _)).trans ?_
          refine (zr_gfr h (tr_fl_ability zl0)).trans ?_
          refine (zr_aload (v := zf b l0) rfl (zf_tA h _)).trans ?_
          refine (zr_gfi h (ti_fl_count zl0)).trans ?_
          refine (zr_iload (v := enc l5) rfl (enc_lt _)).trans ?_
          by_cases c5 : 0 ≤ nz ((upd (upd (upd (upd g (l0 + 1) (nz (g l0 14)) l1) (l0 + 2) (nz ((upd g (l0 + 1) (nz (g l0 14)) l1) l0 14)) l2) (l0 + 3) (nz ((upd (upd g (l0 + 1) (nz (g l0 14)) l1) (l0 + 2) (nz ((upd g (l0 + 1) (nz (g l0 14)) l1) l0 14)) l2) l0 14)) (zand l3 3)) (l0 + 4) (nz ((upd (upd (upd g (l0 + 1) (nz (g l0 14)) l1) (l0 + 2) (nz ((upd g (l0 + 1) (nz (g l0 14)) l1) l0 14)) l2) (l0 + 3) (nz ((upd (upd g (l0 + 1) (nz (g l0 14)) l1) (l0 + 2) (nz ((upd g (l0 + 1) (nz (g l0 14)) l1) l0 14)) l2) l0 14)) (zand l3 3)) l0 14)) l4) l0 14) ∧ nz ((upd (upd (upd (upd g (l0 + 1) (nz (g l0 14)) l1) (l0 + 2) (nz ((upd g (l0 + 1) (nz (g l0 14)) l1) l0 14)) l2) (l0 + 3) (nz ((upd (upd g (l0 + 1) (nz (g l0 14)) l1) (l0 + 2) (nz ((upd g (l0 + 1) (nz (g l0 14)) l1) l0 14)) l2) l0 14)) (zand l3 3)) (l0 + 4) (nz ((upd (upd (upd g (l0 + 1) (nz (g l0 14)) l1) (l0 + 2) (nz ((upd g (l0 + 1) (nz (g l0 14)) l1) l0 14)) l2) (l0 + 3) (nz ((upd (upd g (l0 + 1) (nz (g l0 14)) l1) (l0 + 2) (nz ((upd g (l0 + 1) (nz (g l0 14)) l1) l0 14)) l2) l0 14)) (zand l3 3)) l0 14)) l4) l0 14) < 16
          · rw [if_pos c5] at k
            refine (zr_iast h (ta_fl_ability zl0) c5.1 (by have := c5.2; omega)).trans ?_
            refine (zr_aload (v := zf b l0) rfl (zf_tA h _)).trans ?_
            refine (zr_gfr h (tr_fl_groups zl0)).trans ?_
            refine (zr_aload (v := zf b l0) rfl (zf_tA h _)).trans ?_
            refine (zr_gfi h (ti_fl_count zl0)).trans ?_
            refine (zr_iload (v := enc l6) rfl (enc_lt _)).trans ?_
            by_cases c6 : 0 ≤ nz ((upd (upd (upd (upd (upd g (l0 + 1) (nz (g l0 14)) l1) (l0 + 2) (nz ((upd g (l0 + 1) (nz (g l0 14)) l1) l0 14)) l2) (l0 + 3) (nz ((upd (upd g (l0 + 1) (nz (g l0 14)) l1) (l0 + 2) (nz ((upd g (l0 + 1) (nz (g l0 14)) l1) l0 14)) l2) l0 14)) (zand l3 3)) (l0 + 4) (nz ((upd (upd (upd g (l0 + 1) (nz (g l0 14)) l1) (l0 + 2) (nz ((upd g (l0 + 1) (nz (g l0 14)) l1) l0 14)) l2) (l0 + 3) (nz ((upd (upd g (l0 + 1) (nz (g l0 14)) l1) (l0 + 2) (nz ((upd g (l0 + 1) (nz (g l0 14)) l1) l0 14)) l2) l0 14)) (zand l3 3)) l0 14)) l4) (l0 + 5) (nz ((upd (upd (upd (upd g (l0 + 1) (nz (g l0 14)) l1) (l0 + 2) (nz ((upd g (l0 + 1) (nz (g l0 14)) l1) l0 14)) l2) (l0 + 3) (nz ((upd (upd g (l0 + 1) (nz (g l0 14)) l1) (l0 + 2) (nz ((upd g (l0 + 1) (nz (g l0 14)) l1) l0 14)) l2) l0 14)) (zand l3 3)) (l0 + 4) (nz ((upd (upd (upd g (l0 + 1) (nz (g l0 14)) l1) (l0 + 2) (nz ((upd g (l0 + 1) (nz (g l0 14)) l1) l0 14)) l2) (l0 + 3) (nz ((upd (upd g (l0 + 1) (nz (g l0 14)) l1) (l0 + 2) (nz ((upd g (l0 + 1) (nz (g l0 14)) l1) l0 14)) l2) l0 14)) (zand l3 3)) l0 14)) l4) l0 14)) l5) l0 14) ∧ nz ((upd (upd (upd (upd (upd g (l0 + 1) (nz (g l0 14)) l1) (l0 + 2) (nz ((upd g (l0 + 1) (nz (g l0 14)) l1) l0 14)) l2) (l0 + 3) (nz ((upd (upd g (l0 + 1) (nz (g l0 14)) l1) (l0 + 2) (nz ((upd g (l0 + 1) (nz (g l0 14)) l1) l0 14)) l2) l0 14)) (zand l3 3)) (l0 + 4) (nz ((upd (upd (upd g (l0 + 1) (nz (g l0 14)) l1) (l0 + 2) (nz ((upd g (l0 + 1) (nz (g l0 14)) l1) l0 14)) l2) (l0 + 3) (nz ((upd (upd g (l0 + 1) (nz (g l0 14)) l1) (l0 + 2) (nz ((upd g (l0 + 1) (nz (g l0 14)) l1) l0 14)) l2) l0 14)) (zand l3 3)) l0 14)) l4) (l0 + 5) (nz ((upd (upd (upd (upd g (l0 + 1) (nz (g l0 14)) l1) (l0 + 2) (nz ((upd g (l0 + 1) (nz (g l0 14)) l1) l0 14)) l2) (l0 + 3) (nz ((upd (upd g (l0 + 1) (nz (g l0 14)) l1) (l0 + 2) (nz ((upd g (l0 + 1) (nz (g l0 14)) l1) l0 14)) l2) l0 14)) (zand l3 3)) (l0 + 4) (nz ((upd (upd (upd g (l0 + 1) (nz (g l0 14)) l1) (l0 + 2) (nz ((upd g (l0 + 1) (nz (g l0 14)) l1) l0 14)) l2) (l0 + 3) (nz ((upd (upd g (l0 + 1) (nz (g l0 14)) l1) (l0 + 2) (nz ((upd g (l0 + 1) (nz (g l0 14)) l1) l0 14)) l2) l0 14)) (zand l3 3)) l0 14)) l4) l0 14)) l5) l0 14) < 16
            · rw [if_pos c6] at k
              refine (zr_iast h (ta_fl_groups zl0) c6.1 (by have := c6.2; omega)).trans ?_
              refine (zr_aload (v := zf b l0) rfl (zf_tA h _)).trans ?_
              refine (zr_gfr h (tr_fl_turns zl0)).trans ?_
              refine (zr_aload (v := zf b l0) rfl (zf_tA h _)).trans ?_
              refine (zr_gfi h (ti_fl_count zl0)).trans ?_
              refine (zr_pshi 0 rfl).trans ?_
              by_cases c7 : 0 ≤ nz ((upd (upd (upd (upd (upd (upd g (l0 + 1) (nz (g l0 14)) l1) (l0 + 2) (nz ((upd g (l0 + 1) (nz (g l0 14)) l1) l0 14)) l2) (l0 + 3) (nz ((upd (upd g (l0 + 1) (nz (g l0 14)) l1) (l0 + 2) (nz ((upd g (l0 + 1) (nz (g l0 14)) l1) l0 14)) l2) l0 14)) (zand l3 3)) (l0 + 4) (nz ((upd (upd (upd g (l0 + 1) (nz (g l0 14)) l1) (l0 + 2) (nz ((upd g (l0 + 1) (nz (g l0 14)) l1) l0 14)) l2) (l0 + 3) (nz ((upd (upd g (l0 + 1) (nz (g l0 14)) l1) (l0 + 2) (nz ((upd g (l0 + 1) (nz (g l0 14)) l1) l0 14)) l2) l0 14)) (zand l3 3)) l0 14)) l4) (l0 + 5) (nz ((upd (upd (upd (upd g (l0 + 1) (nz (g l0 14)) l1) (l0 + 2) (nz ((upd g (l0 + 1) (nz (g l0 14)) l1) l0 14)) l2) (l0 + 3) (nz ((upd (upd g (l0 + 1) (nz (g l0 14)) l1) (l0 + 2) (nz ((upd g (l0 + 1) (nz (g l0 14)) l1) l0 14)) l2) l0 14)) (zand l3 3)) (l0 + 4) (nz ((upd (upd (upd g (l0 + 1) (nz (g l0 14)) l1) (l0 + 2) (nz ((upd g (l0 + 1) (nz (g l0 14)) l1) l0 14)) l2) (l0 + 3) (nz ((upd (upd g (l0 + 1) (nz (g l0 14)) l1) (l0 + 2) (nz ((upd g (l0 + 1) (nz (g l0 14)) l1) l0 14)) l2) l0 14)) (zand l3 3)) l0 14)) l4) l0 14)) l5) (l0 + 6) (nz ((upd (upd (upd (upd (upd g (l0 + 1) (nz (g l0 14)) l1) (l0 + 2) (nz ((upd g (l0 + 1) (nz (g l0 14)) l1) l0 14)) l2) (l0 + 3) (nz ((upd (upd g (l0 + 1) (nz (g l0 14)) l1) (l0 + 2) (nz ((upd g (l0 + 1) (nz (g l0 14)) l1) l0 14)) l2) l0 14)) (zand l3 3)) (l0 + 4) (nz ((upd (upd (upd g (l0 + 1) (nz (g l0 14)) l1) (l0 + 2) (nz ((upd g (l0 + 1) (nz (g l0 14)) l1) l0 14)) l2) (l0 + 3) (nz ((upd (upd g (l0 + 1) (nz (g l0 14)) l1) (l0 + 2) (nz ((upd g (l0 + 1) (nz (g l0 14)) l1) l0 14)) l2) l0 14)) (zand l3 3)) l0 14)) l4) (l0 + 5) (nz ((upd (upd (upd (upd g (l0 + 1) (nz (g l0 14)) l1) (l0 + 2) (nz ((upd g (l0 + 1) (nz (g l0 14)) l1) l0 14)) l2) (l0 + 3) (nz ((upd (upd g (l0 + 1) (nz (g l0 14)) l1) (l0 + 2) (nz ((upd g (l0 + 1) (nz (g l0 14)) l1) l0 14)) l2) l0 14)) (zand l3 3)) (l0 + 4) (nz ((upd (upd (upd g (l0 + 1) (nz (g l0 14)) l1) (l0 + 2) (nz ((upd g (l0 + 1) (nz (g l0 14)) l1) l0 14)) l2) (l0 + 3) (nz ((upd (upd g (l0 + 1) (nz (g l0 14)) l1) (l0 + 2) (nz ((upd g (l0 + 1) (nz (g l0 14)) l1) l0 14)) l2) l0 14)) (zand l3 3)) l0 14)) l4) l0 14)) l5) l0 14)) l6) l0 14) ∧ nz ((upd (upd (upd (upd (upd (upd g (l0 + 1) (nz (g l0 14)) l1) (l0 + 2) (nz ((upd g (l0 + 1) (nz (g l0 14)) l1) l0 14)) l2) (l0 + 3) (nz ((upd (upd g (l0 + 1) (nz (g l0 14)) l1) (l0 + 2) (nz ((upd g (l0 + 1) (nz (g l0 14)) l1) l0 14)) l2) l0 14)) (zand l3 3)) (l0 + 4) (nz ((upd (upd (upd g (l0 + 1) (nz (g l0 14)) l1) (l0 + 2) (nz ((upd g (l0 + 1) (nz (g l0 14)) l1) l0 14)) l2) (l0 + 3) (nz ((upd (upd g (l0 + 1) (nz (g l0 14)) l1) (l0 + 2) (nz ((upd g (l0 + 1) (nz (g l0 14)) l1) l0 14)) l2) l0 14)) (zand l3 3)) l0 14)) l4) (l0 + 5) (nz ((upd (upd (upd (upd g (l0 + 1) (nz (g l0 14)) l1) (l0 + 2) (nz ((upd g (l0 + 1) (nz (g l0 14)) l1) l0 14)) l2) (l0 + 3) (nz ((upd (upd g (l0 + 1) (nz (g l0 14)) l1) (l0 + 2) (nz ((upd g (l0 + 1) (nz (g l0 14)) l1) l0 14)) l2) l0 14)) (zand l3 3)) (l0 + 4) (nz ((upd (upd (upd g (l0 + 1) (nz (g l0 14)) l1) (l0 + 2) (nz ((upd g (l0 + 1) (nz (g l0 14)) l1) l0 14)) l2) (l0 + 3) (nz ((upd (upd g (l0 + 1) (nz (g l0 14)) l1) (l0 + 2) (nz ((upd g (l0 + 1) (nz (g l0 14)) l1) l0 14)) l2) l0 14)) (zand l3 3)) l0 14)) l4) l0 14)) l5) (l0 + 6) (nz ((upd (upd (upd (upd (upd g (l0 + 1) (nz (g l0 14)) l1) (l0 + 2) (nz ((upd g (l0 + 1) (nz (g l0 14)) l1) l0 14)) l2) (l0 + 3) (nz ((upd (upd g (l0 + 1) (nz (g l0 14)) l1) (l0 + 2) (nz ((upd g (l0 + 1) (nz (g l0 14)) l1) l0 14)) l2) l0 14)) (zand l3 3)) (l0 + 4) (nz ((upd (upd (upd g (l0 + 1) (nz (g l0 14)) l1) (l0 + 2) (nz ((upd g (l0 + 1) (nz (g l0 14)) l1) l0 14)) l2) (l0 + 3) (nz ((upd (upd g (l0 + 1) (nz (g l0 14)) l1) (l0 + 2) (nz ((upd g (l0 + 1) (nz (g l0 14)) l1) l0 14)) l2) l0 14)) (zand l3 3)) l0 14)) l4) (l0 + 5) (nz ((upd (upd (upd (upd g (l0 + 1) (nz (g l0 14)) l1) (l0 + 2) (nz ((upd g (l0 + 1) (nz (g l0 14)) l1) l0 14)) l2) (l0 + 3) (nz ((upd (upd g (l0 + 1) (nz (g l0 14)) l1) (l0 + 2) (nz ((upd g (l0 + 1) (nz (g l0 14)) l1) l0 14)) l2) l0 14)) (zand l3 3)) (l0 + 4) (nz ((upd (upd (upd g (l0 + 1) (nz (g l0 14)) l1) (l0 + 2) (nz ((upd g (l0 + 1) (nz (g l0 14)) l1) l0 14)) l2) (l0 + 3) (nz ((upd (upd g (l0 + 1) (nz (g l0 14)) l1) (l0 + 2) (nz ((upd g (l0 + 1) (nz (g l0 14)) l1) l0 14)) l2) l0 14)) (zand l3 3)) l0 14)) l4) l0 14)) l5) l0 14)) l6) l0 14) < 16
              · rw [if_pos c7] at k
                refine (zr_iast h (ta_fl_turns zl0) c7.1 (by have := c7.2; omega)).trans ?_
                refine (zr_aload (v := zf b l0) rfl (zf_tA h _)).trans ?_
                refine (zr_gfr h (tr_fl_firstHand zl0)).trans ?_
                refine (zr_aload (v := zf b l0) rfl (zf_tA h _)).trans ?_
                refine (zr_gfi h (ti_fl_count zl0)).trans ?_
                refine (zr_pshi 0 rfl).trans ?_
                by_cases c8 : 0 ≤ nz ((upd (upd (upd (upd (upd (upd (upd g (l0 + 1) (nz (g l0 14)) l1) (l0 + 2) (nz ((upd g (l0 + 1) (nz (g l0 14)) l1) l0 14)) l2) (l0 + 3) (nz ((upd (upd g (l0 + 1) (nz (g l0 14)) l1) (l0 + 2) (nz ((upd g (l0 + 1) (nz (g l0 14)) l1) l0 14)) l2) l0 14)) (zand l3 3)) (l0 + 4) (nz ((upd (upd (upd g (l0 + 1) (nz (g l0 14)) l1) (l0 + 2) (nz ((upd g (l0 + 1) (nz (g l0 14)) l1) l0 14)) l2) (l0 + 3) (nz ((upd (upd g (l0 + 1) (nz (g l0 14)) l1) (l0 + 2) (nz ((upd g (l0 + 1) (nz (g l0 14)) l1) l0 14)) l2) l0 14)) (zand l3 3)) l0 14)) l4) (l0 + 5) (nz ((upd (upd (upd (upd g (l0 + 1) (nz (g l0 14)) l1) (l0 + 2) (nz ((upd g (l0 + 1) (nz (g l0 14)) l1) l0 14)) l2) (l0 + 3) (nz ((upd (upd g (l0 + 1) (nz (g l0 14)) l1) (l0 + 2) (nz ((upd g (l0 + 1) (nz (g l0 14)) l1) l0 14)) l2) l0 14)) (zand l3 3)) (l0 + 4) (nz ((upd (upd (upd g (l0 + 1) (nz (g l0 14)) l1) (l0 + 2) (nz ((upd g (l0 + 1) (nz (g l0 14)) l1) l0 14)) l2) (l0 + 3) (nz ((upd (upd g (l0 + 1) (nz (g l0 14)) l1) (l0 + 2) (nz ((upd g (l0 + 1) (nz (g l0 14)) l1) l0 14)) l2) l0 14)) (zand l3 3)) l0 14)) l4) l0 14)) l5) (l0 + 6) (nz ((upd (upd (upd (upd (upd g (l0 + 1) (nz (g l0 14)) l1) (l0 + 2) (nz ((upd g (l0 + 1) (nz (g l0 14)) l1) l0 14)) l2) (l0 + 3) (nz ((upd (upd g (l0 + 1) (nz (g l0 14)) l1) (l0 + 2) (nz ((upd g (l0 + 1) (nz (g l0 14)) l1) l0 14)) l2) l0 14)) (zand l3 3)) (l0 + 4) (nz ((upd (upd (upd g (l0 + 1) (nz (g l0 14)) l1) (l0 + 2) (nz ((upd g (l0 + 1) (nz (g l0 14)) l1) l0 14)) l2) (l0 + 3) (nz ((upd (upd g (l0 + 1) (nz (g l0 14)) l1) (l0 + 2) (nz ((upd g (l0 + 1) (nz (g l0 14)) l1) l0 14)) l2) l0 14)) (zand l3 3)) l0 14)) l4) (l0 + 5) (nz ((upd (upd (upd (upd g (l0 + 1) (nz (g l0 14)) l1) (l0 + 2) (nz ((upd g (l0 + 1) (nz (g l0 14)) l1) l0 14)) l2) (l0 + 3) (nz ((upd (upd g (l0 + 1) (nz (g l0 14)) l1) (l0 + 2) (nz ((upd g (l0 + 1) (nz (g l0 14)) l1) l0 14)) l2) l0 14)) (zand l3 3)) (l0 + 4) (nz ((upd (upd (upd g (l0 + 1) (nz (g l0 14)) l1) (l0 + 2) (nz ((upd g (l0 + 1) (nz (g l0 14)) l1) l0 14)) l2) (l0 + 3) (nz ((upd (upd g (l0 + 1) (nz (g l0 14)) l1) (l0 + 2) (nz ((upd g (l0 + 1) (nz (g l0 14)) l1) l0 14)) l2) l0 14)) (zand l3 3)) l0 14)) l4) l0 14)) l5) l0 14)) l6) (l0 + 9) (nz ((upd (upd (upd (upd (upd (upd g (l0 + 1) (nz (g l0 14)) l1) (l0 + 2) (nz ((upd g (l0 + 1) (nz (g l0 14)) l1) l0 14)) l2) (l0 + 3) (nz ((upd (upd g (l0 + 1) (nz (g l0 14)) l1) (l0 + 2) (nz ((upd g (l0 + 1) (nz (g l0 14)) l1) l0 14)) l2) l0 14)) (zand l3 3)) (l0 + 4) (nz ((upd (upd (upd g (l0 + 1) (nz (g l0 14)) l1) (l0 + 2) (nz ((upd g (l0 + 1) (nz (g l0 14)) l1) l0 14)) l2) (l0 + 3) (nz ((upd (upd g (l0 + 1) (nz (g l0 14)) l1) (l0 + 2) (nz ((upd g (l0 + 1) (nz (g l0 14)) l1) l0 14)) l2) l0 14)) (zand l3 3)) l0 14)) l4) (l0 + 5) (nz ((upd (upd (upd (upd g (l0 + 1) (nz (g l0 14)) l1) (l0 + 2) (nz ((upd g (l0 + 1) (nz (g l0 14)) l1) l0 14)) l2) (l0 + 3) (nz ((upd (upd g (l0 + 1) (nz (g l0 14)) l1) (l0 + 2) (nz ((upd g (l0 + 1) (nz (g l0 14)) l1) l0 14)) l2) l0 14)) (zand l3 3)) (l0 + 4) (nz ((upd (upd (upd g (l0 + 1) (nz (g l0 14)) l1) (l0 + 2) (nz ((upd g (l0 + 1) (nz (g l0 14)) l1) l0 14)) l2) (l0 + 3) (nz ((upd (upd g (l0 + 1) (nz (g l0 14)) l1) (l0 + 2) (nz ((upd g (l0 + 1) (nz (g l0 14)) l1) l0 14)) l2) l0 14)) (zand l3 3)) l0 14)) l4) l0 14)) l5) (l0 + 6) (nz ((upd (upd (upd (upd (upd g (l0 + 1) (nz (g l0 14)) l1) (l0 + 2) (nz ((upd g (l0 + 1) (nz (g l0 14)) l1) l0 14)) l2) (l0 + 3) (nz ((upd (upd g (l0 + 1) (nz (g l0 14)) l1) (l0 + 2) (nz ((upd g (l0 + 1) (nz (g l0 14)) l1) l0 14)) l2) l0 14)) (zand l3 3)) (l0 + 4) (nz ((upd (upd (upd g (l0 + 1) (nz (g l0 14)) l1) (l0 + 2) (nz ((upd g (l0 + 1) (nz (g l0 14)) l1) l0 14)) l2) (l0 + 3) (nz ((upd (upd g (l0 + 1) (nz (g l0 14)) l1) (l0 + 2) (nz ((upd g (l0 + 1) (nz (g l0 14)) l1) l0 14)) l2) l0 14)) (zand l3 3)) l0 14)) l4) (l0 + 5) (nz ((upd (upd (upd (upd g (l0 + 1) (nz (g l0 14)) l1) (l0 + 2) (nz ((upd g (l0 + 1) (nz (g l0 14)) l1) l0 14)) l2) (l0 + 3) (nz ((upd (upd g (l0 + 1) (nz (g l0 14)) l1) (l0 + 2) (nz ((upd g (l0 + 1) (nz (g l0 14)) l1) l0 14)) l2) l0 14)) (zand l3 3)) (l0 + 4) (nz ((upd (upd (upd g (l0 + 1) (nz (g l0 14)) l1) (l0 + 2) (nz ((upd g (l0 + 1) (nz (g l0 14)) l1) l0 14)) l2) (l0 + 3) (nz ((upd (upd g (l0 + 1) (nz (g l0 14)) l1) (l0 + 2) (nz ((upd g (l0 + 1) (nz (g l0 14)) l1) l0 14)) l2) l0 14)) (zand l3 3)) l0 14)) l4) l0 14)) l5) l0 14)) l6) l0 14)) 0) l0 14) ∧ nz ((upd (upd (upd (upd (upd (upd (upd g (l0 + 1) (nz (g l0 14)) l1) (l0 + 2) (nz ((upd g (l0 + 1) (nz (g l0 14)) l1) l0 14)) l2) (l0 + 3) (nz ((upd (upd g (l0 + 1) (nz (g l0 14)) l1) (l0 + 2) (nz ((upd g (l0 + 1) (nz (g l0 14)) l1) l0 14)) l2) l0 14)) (zand l3 3)) (l0 + 4) (nz ((upd (upd (upd g (l0 + 1) (nz (g l0 14)) l1) (l0 + 2) (nz ((upd g (l0 + 1) (nz (g l0 14)) l1) l0 14)) l2) (l0 + 3) (nz ((upd (upd g (l0 + 1) (nz (g l0 14)) l1) (l0 + 2) (nz ((upd g (l0 + 1) (nz (g l0 14)) l1) l0 14)) l2) l0 14)) (zand l3 3)) l0 14)) l4) (l0 + 5) (nz ((upd (upd (upd (upd g (l0 + 1) (nz (g l0 14)) l1) (l0 + 2) (nz ((upd g (l0 + 1) (nz (g l0 14)) l1) l0 14)) l2) (l0 + 3) (nz ((upd (upd g (l0 + 1) (nz (g l0 14)) l1) (l0 + 2) (nz ((upd g (l0 + 1) (nz (g l0 14)) l1) l0 14)) l2) l0 14)) (zand l3 3)) (l0 + 4) (nz ((upd (upd (upd g (l0 + 1) (nz (g l0 14)) l1) (l0 + 2) (nz ((upd g (l0 + 1) (nz (g l0 14)) l1) l0 14)) l2) (l0 + 3) (nz ((upd (upd g (l0 + 1) (nz (g l0 14)) l1) (l0 + 2) (nz ((upd g (l0 + 1) (nz (g l0 14)) l1) l0 14)) l2) l0 14)) (zand l3 3)) l0 14)) l4) l0 14)) l5) (l0 + 6) (nz ((upd (upd (upd (upd (upd g (l0 + 1) (nz (g l0 14)) l1) (l0 + 2) (nz ((upd g (l0 + 1) (nz (g l0 14)) l1) l0 14)) l2) (l0 + 3) (nz ((upd (upd g (l0 + 1) (nz (g l0 14)) l1) (l0 + 2) (nz ((upd g (l0 + 1) (nz (g l0 14)) l1) l0 14)) l2) l0 14)) (zand l3 3)) (l0 + 4) (nz ((upd (upd (upd g (l0 + 1) (nz (g l0 14)) l1) (l0 + 2) (nz ((upd g (l0 + 1) (nz (g l0 14)) l1) l0 14)) l2) (l0 + 3) (nz ((upd (upd g (l0 + 1) (nz (g l0 14)) l1) (l0 + 2) (nz ((upd g (l0 + 1) (nz (g l0 14)) l1) l0 14)) l2) l0 14)) (zand l3 3)) l0 14)) l4) (l0 + 5) (nz ((upd (upd (upd (upd g (l0 + 1) (nz (g l0 14)) l1) (l0 + 2) (nz ((upd g (l0 + 1) (nz (g l0 14)) l1) l0 14)) l2) (l0 + 3) (nz ((upd (upd g (l0 + 1) (nz (g l0 14)) l1) (l0 + 2) (nz ((upd g (l0 + 1) (nz (g l0 14)) l1) l0 14)) l2) l0 14)) (zand l3 3)) (l0 + 4) (nz ((upd (upd (upd g (l0 + 1) (nz (g l0 14)) l1) (l0 + 2) (nz ((upd g (l0 + 1) (nz (g l0 14)) l1) l0 14)) l2) (l0 + 3) (nz ((upd (upd g (l0 + 1) (nz (g l0 14)) l1) (l0 + 2) (nz ((upd g (l0 + 1) (nz (g l0 14)) l1) l0 14)) l2) l0 14)) (zand l3 3)) l0 14)) l4) l0 14)) l5) l0 14)) l6) (l0 + 9) (nz ((upd (upd (upd (upd (upd (upd g (l0 + 1) (nz (g l0 14)) l1) (l0 + 2) (nz ((upd g (l0 + 1) (nz (g l0 14)) l1) l0 14)) l2) (l0 + 3) (nz ((upd (upd g (l0 + 1) (nz (g l0 14)) l1) (l0 + 2) (nz ((upd g (l0 + 1) (nz (g l0 14)) l1) l0 14)) l2) l0 14)) (zand l3 3)) (l0 + 4) (nz ((upd (upd (upd g (l0 + 1) (nz (g l0 14)) l1) (l0 + 2) (nz ((upd g (l0 + 1) (nz (g l0 14)) l1) l0 14)) l2) (l0 + 3) (nz ((upd (upd g (l0 + 1) (nz (g l0 14)) l1) (l0 + 2) (nz ((upd g (l0 + 1) (nz (g l0 14)) l1) l0 14)) l2) l0 14)) (zand l3 3)) l0 14)) l4) (l0 + 5) (nz ((upd (upd (upd (upd g (l0 + 1) (nz (g l0 14)) l1) (l0 + 2) (nz ((upd g (l0 + 1) (nz (g l0 14)) l1) l0 14)) l2) (l0 + 3) (nz ((upd (upd g (l0 + 1) (nz (g l0 14)) l1) (l0 + 2) (nz ((upd g (l0 + 1) (nz (g l0 14)) l1) l0 14)) l2) l0 14)) (zand l3 3)) (l0 + 4) (nz ((upd (upd (upd g (l0 + 1) (nz (g l0 14)) l1) (l0 + 2) (nz ((upd g (l0 + 1) (nz (g l0 14)) l1) l0 14)) l2) (l0 + 3) (nz ((upd (upd g (l0 + 1) (nz (g l0 14)) l1) (l0 + 2) (nz ((upd g (l0 + 1) (nz (g l0 14)) l1) l0 14)) l2) l0 14)) (zand l3 3)) l0 14)) l4) l0 14)) l5) (l0 + 6) (nz ((upd (upd (upd (upd (upd g (l0 + 1) (nz (g l0 14)) l1) (l0 + 2) (nz ((upd g (l0 + 1) (nz (g l0 14)) l1) l0 14)) l2) (l0 + 3) (nz ((upd (upd g (l0 + 1) (nz (g l0 14)) l1) (l0 + 2) (nz ((upd g (l0 + 1) (nz (g l0 14)) l1) l0 14)) l2) l0 14)) (zand l3 3)) (l0 + 4) (nz ((upd (upd (upd g (l0 + 1) (nz (g l0 14)) l1) (l0 + 2) (nz ((upd g (l0 + 1) (nz (g l0 14)) l1) l0 14)) l2) (l0 + 3) (nz ((upd (upd g (l0 + 1) (nz (g l0 14)) l1) (l0 + 2) (nz ((upd g (l0 + 1) (nz (g l0 14)) l1) l0 14)) l2) l0 14)) (zand l3 3)) l0 14)) l4) (l0 + 5) (nz ((upd (upd (upd (upd g (l0 + 1) (nz (g l0 14)) l1) (l0 + 2) (nz ((upd g (l0 + 1) (nz (g l0 14)) l1) l0 14)) l2) (l0 + 3) (nz ((upd (upd g (l0 + 1) (nz (g l0 14)) l1) (l0 + 2) (nz ((upd g (l0 + 1) (nz (g l0 14)) l1) l0 14)) l2) l0 14)) (zand l3 3)) (l0 + 4) (nz ((upd (upd (upd g (l0 + 1) (nz (g l0 14)) l1) (l0 + 2) (nz ((upd g (l0 + 1) (nz (g l0 14)) l1) l0 14)) l2) (l0 + 3) (nz ((upd (upd g (l0 + 1) (nz (g l0 14)) l1) (l0 + 2) (nz ((upd g (l0 + 1) (nz (g l0 14)) l1) l0 14)) l2) l0 14)) (zand l3 3)) l0 14)) l4) l0 14)) l5) l0 14)) l6) l0 14)) 0) l0 14) < 16
                · rw [if_pos c8] at k
                  refine (zr_iast h (ta_fl_firstHand zl0) c8.1 (by have := c8.2; omega)).trans ?_
                  refine (zr_aload (v := zf b l0) rfl (zf_tA h _)).trans ?_
                  refine (zr_gfr h (tr_fl_lastHand zl0)).trans ?_
                  refine (zr_aload (v := zf b l0) rfl (zf_tA h _)).trans ?_
                  refine (zr_gfi h (ti_fl_count zl0)).trans ?_
                  refine (zr_pshi 0 rfl).trans ?_
                  by_cases c9 : 0 ≤ nz ((upd (upd (upd (upd (upd (upd (upd (upd g (l0 + 1) (nz (g l0 14)) l1) (l0 + 2) (nz ((upd g (l0 + 1) (nz (g l0 14)) l1) l0 14)) l2) (l0 + 3) (nz ((upd (upd g (l0 + 1) (nz (g l0 14)) l1) (l0 + 2) (nz ((upd g (l0 + 1) (nz (g l0 14)) l1) l0 14)) l2) l0 14)) (zand l3 3)) (l0 + 4) (nz ((upd (upd (upd g (l0 + 1) (nz (g l0 14)) l1) (l0 + 2) (nz ((upd g (l0 + 1) (nz (g l0 14)) l1) l0 14)) l2) (l0 + 3) (nz ((upd (upd g (l0 + 1) (nz (g l0 14)) l1) (l0 + 2) (nz ((upd g (l0 + 1) (nz (g l0 14)) l1) l0 14)) l2) l0 14)) (zand l3 3)) l0 14)) l4) (l0 + 5) (nz ((upd (upd (upd (upd g (l0 + 1) (nz (g l0 14)) l1) (l0 + 2) (nz ((upd g (l0 + 1) (nz (g l0 14)) l1) l0 14)) l2) (l0 + 3) (nz ((upd (upd g (l0 + 1) (nz (g l0 14)) l1) (l0 + 2) (nz ((upd g (l0 + 1) (nz (g l0 14)) l1) l0 14)) l2) l0 14)) (zand l3 3)) (l0 + 4) (nz ((upd (upd (upd g (l0 + 1) (nz (g l0 14)) l1) (l0 + 2) (nz ((upd g (l0 + 1) (nz (g l0 14)) l1) l0 14)) l2) (l0 + 3) (nz ((upd (upd g (l0 + 1) (nz (g l0 14)) l1) (l0 + 2) (nz ((upd g (l0 + 1) (nz (g l0 14)) l1) l0 14)) l2) l0 14)) (zand l3 3)) l0 14)) l4) l0 14)) l5) (l0 + 6) (nz ((upd (upd (upd (upd (upd g (l0 + 1) (nz (g l0 14)) l1) (l0 + 2) (nz ((upd g (l0 + 1) (nz (g l0 14)) l1) l0 14)) l2) (l0 + 3) (nz ((upd (upd g (l0 + 1) (nz (g l0 14)) l1) (l0 + 2) (nz ((upd g (l0 + 1) (nz (g l0 14)) l1) l0 14)) l2) l0 14)) (zand l3 3)) (l0 + 4) (nz ((upd (upd (upd g (l0 + 1) (nz (g l0 14)) l1) (l0 + 2) (nz ((upd g (l0 + 1) (nz (g l0 14)) l1) l0 14)) l2) (l0 + 3) (nz ((upd (upd g (l0 + 1) (nz (g l0 14)) l1) (l0 + 2) (nz ((upd g (l0 + 1) (nz (g l0 14)) l1) l0 14)) l2) l0 14)) (zand l3 3)) l0 14)) l4) (l0 + 5) (nz ((upd (upd (upd (upd g (l0 + 1) (nz (g l0 14)) l1) (l0 + 2) (nz ((upd g (l0 + 1) (nz (g l0 14)) l1) l0 14)) l2) (l0 + 3) (nz ((upd (upd g (l0 + 1) (nz (g l0 14)) l1) (l0 + 2) (nz ((upd g (l0 + 1) (nz (g l0 14)) l1) l0 14)) l2) l0 14)) (zand l3 3)) (l0 + 4) (nz ((upd (upd (upd g (l0 + 1) (nz (g l0 14)) l1) (l0 + 2) (nz ((upd g (l0 + 1) (nz (g l0 14)) l1) l0 14)) l2) (l0 + 3) (nz ((upd (upd g (l0 + 1) (nz (g l0 14)) l1) (l0 + 2) (nz ((upd g (l0 + 1) (nz (g l0 14)) l1) l0 14)) l2) l0 14)) (zand l3 3)) l0 14)) l4) l0 14)) l5) l0 14)) l6) (l0 + 9) (nz ((upd (upd (upd (upd (upd (upd g (l0 + 1) (nz (g l0 14)) l1) (l0 + 2) (nz ((upd g (l0 + 1) (nz (g l0 14)) l1) l0 14)) l2) (l0 + 3) (nz ((upd (upd g (l0 + 1) (nz (g l0 14)) l1) (l0 + 2) (nz ((upd g (l0 + 1) (nz (g l0 14)) l1) l0 14)) l2) l0 14)) (zand l3 3)) (l0 + 4) (nz ((upd (upd (upd g (l0 + 1) (nz (g l0 14)) l1) (l0 + 2) (nz ((upd g (l0 + 1) (nz (g l0 14)) l1) l0 14)) l2) (l0 + 3) (nz ((upd (upd g (l0 + 1) (nz (g l0 14)) l1) (l0 + 2) (nz ((upd g (l0 + 1) (nz (g l0 14)) l1) l0 14)) l2) l0 14)) (zand l3 3)) l0 14)) l4) (l0 + 5) (nz ((upd (upd (upd (upd g (l0 + 1) (nz (g l0 14)) l1) (l0 + 2) (nz ((upd g (l0 + 1) (nz (g l0 14)) l1) l0 14)) l2) (l0 + 3) (nz ((upd (upd g (l0 + 1) (nz (g l0 14)) l1) (l0 + 2) (nz ((upd g (l0 + 1) (nz (g l0 14)) l1) l0 14)) l2) l0 14)) (zand l3 3)) (l0 + 4) (nz ((upd (upd (upd g (l0 + 1) (nz (g l0 14)) l1) (l0 + 2) (nz ((upd g (l0 + 1) (nz (g l0 14)) l1) l0 14)) l2) (l0 + 3) (nz ((upd (upd g (l0 + 1) (nz (g l0 14)) l1) (l0 + 2) (nz ((upd g (l0 + 1) (nz (g l0 14)) l1) l0 14)) l2) l0 14)) (zand l3 3)) l0 14)) l4) l0 14)) l5) (l0 + 6) (nz ((upd (upd (upd (upd (upd g (l0 + 1) (nz (g l0 14)) l1) (l0 + 2) (nz ((upd g (l0 + 1) (nz (g l0 14)) l1) l0 14)) l2) (l0 + 3) (nz ((upd (upd g (l0 + 1) (nz (g l0 14)) l1) (l0 + 2) (nz ((upd g (l0 + 1) (nz (g l0 14)) l1) l0 14)) l2) l0 14)) (zand l3 3)) (l0 + 4) (nz ((upd (upd (upd g (l0 + 1) (nz (g l0 14)) l1) (l0 + 2) (nz ((upd g (l0 + 1) (nz (g l0 14)) l1) l0 14)) l2) (l0 + 3) (nz ((upd (upd g (l0 + 1) (nz (g l0 14)) l1) (l0 + 2) (nz ((upd g (l0 + 1) (nz (g l0 14)) l1) l0 14)) l2) l0 14)) (zand l3 3)) l0 14)) l4) (l0 + 5) (nz ((upd (upd (upd (upd g (l0 + 1) (nz (g l0 14)) l1) (l0 + 2) (nz ((upd g (l0 + 1) (nz (g l0 14)) l1) l0 14)) l2) (l0 + 3) (nz ((upd (upd g (l0 + 1) (nz (g l0 14)) l1) (l0 + 2) (nz ((upd g (l0 + 1) (nz (g l0 14)) l1) l0 14)) l2) l0 14)) (zand l3 3)) (l0 + 4) (nz ((upd (upd (upd g (l0 + 1) (nz (g l0 14)) l1) (l0 + 2) (nz ((upd g (l0 + 1) (nz (g l0 14)) l1) l0 14)) l2) (l0 + 3) (nz ((upd (upd g (l0 + 1) (nz (g l0 14)) l1) (l0 + 2) (nz ((upd g (l0 + 1) (nz (g l0 14)) l1) l0 14)) l2) l0 14)) (zand l3 3)) l0 14)) l4) l0 14)) l5) l0 14)) l6) l0 14)) 0) (l0 + 10) (nz ((upd (upd (upd (upd (upd (upd (upd g (l0 + 1) (nz (g l0 14)) l1) (l0 + 2) (nz ((upd g (l0 + 1) (nz (g l0 14)) l1) l0 14)) l2) (l0 + 3) (nz ((upd (upd g (l0 + 1) (nz (g l0 14)) l1) (l0 + 2) (nz ((upd g (l0 + 1) (nz (g l0 14)) l1) l0 14)) l2) l0 14)) (zand l3 3)) (l0 + 4) (nz ((upd (upd (upd g (l0 + 1) (nz (g l0 14)) l1) (l0 + 2) (nz ((upd g (l0 + 1) (nz (g l0 14)) l1) l0 14)) l2) (l0 + 3) (nz ((upd (upd g (l0 + 1) (nz (g l0 14)) l1) (l0 + 2) (nz ((upd g (l0 + 1) (nz (g l0 14)) l1) l0 14)) l2) l0 14)) (zand l3 3)) l0 14)) l4) (l0 + 5) (nz ((upd (upd (upd (upd g (l0 + 1) (nz (g l0 14)) l1) (l0 + 2) (nz ((upd g (l0 + 1) (nz (g l0 14)) l1) l0 14)) l2) (l0 + 3) (nz ((upd (upd g (l0 + 1) (nz (g l0 14)) l1) (l0 + 2) (nz ((upd g (l0 + 1) (nz (g l0 14)) l1) l0 14)) l2) l0 14)) (zand l3 3)) (l0 + 4) (nz ((upd (upd (upd g (l0 + 1) (nz (g l0 14)) l1) (l0 + 2) (nz ((upd g (l0 + 1) (nz (g l0 14)) l1) l0 14)) l2) (l0 + 3) (nz ((upd (upd g (l0 + 1) (nz (g l0 14)) l1) (l0 + 2) (nz ((upd g (l0 + 1) (nz (g l0 14)) l1) l0 14)) l2) l0 14)) (zand l3 3)) l0 14)) l4) l0 14)) l5) (l0 + 6) (nz ((upd (upd (upd (upd (upd g (l0 + 1) (nz (g l0 14)) l1) (l0 + 2) (nz ((upd g (l0 + 1) (nz (g l0 14)) l1) l0 14)) l2) (l0 + 3) (nz ((upd (upd g (l0 + 1) (nz (g l0 14)) l1) (l0 + 2) (nz ((upd g (l0 + 1) (nz (g l0 14)) l1) l0 14)) l2) l0 14)) (zand l3 3)) (l0 + 4) (nz ((upd (upd (upd g (l0 + 1) (nz (g l0 14)) l1) (l0 + 2) (nz ((upd g (l0 + 1) (nz (g l0 14)) l1) l0 14)) l2) (l0 + 3) (nz ((upd (upd g (l0 + 1) (nz (g l0 14)) l1) (l0 + 2) (nz ((upd g (l0 + 1) (nz (g l0 14)) l1) l0 14)) l2) l0 14)) (zand l3 3)) l0 14)) l4) (l0 + 5) (nz ((upd (upd (upd (upd g (l0 + 1) (nz (g l0 14)) l1) (l0 + 2) (nz ((upd g (l0 + 1) (nz (g l0 14)) l1) l0 14)) l2) (l0 + 3) (nz ((upd (upd g (l0 + 1) (nz (g l0 14)) l1) (l0 + 2) (nz ((upd g (l0 + 1) (nz (g l0 14)) l1) l0 14)) l2) l0 14)) (zand l3 3)) (l0 + 4) (nz ((upd (upd (upd g (l0 + 1) (nz (g l0 14)) l1) (l0 + 2) (nz ((upd g (l0 + 1) (nz (g l0 14)) l1) l0 14)) l2) (l0 + 3) (nz ((upd (upd g (l0 + 1) (nz (g l0 14)) l1) (l0 + 2) (nz ((upd g (l0 + 1) (nz (g l0 14)) l1) l0 14)) l2) l0 14)) (zand l3 3)) l0 14)) l4) l0 14)) l5) l0 14)) l6) (l0 + 9) (nz ((upd (upd (upd (upd (upd (upd g (l0 + 1) (nz (g l0 14)) l1) (l0 + 2) (nz ((upd g (l0 + 1) (nz (g l0 14)) l1) l0 14)) l2) (l0 + 3) (nz ((upd (upd g (l0 + 1) (nz (g l0 14)) l1) (l0 + 2) (nz ((upd g (l0 + 1) (nz (g l0 14)) l1) l0 14)) l2) l0 14)) (zand l3 3)) (l0 + 4) (nz ((upd (upd (upd g (l0 + 1) (nz (g l0 14)) l1) (l0 + 2) (nz ((upd g (l0 + 1) (nz (g l0 14)) l1) l0 14)) l2) (l0 + 3) (nz ((upd (upd g (l0 + 1) (nz (g l0 14)) l1) (l0 + 2) (nz ((upd g (l0 + 1) (nz (g l0 14)) l1) l0 14)) l2) l0 14)) (zand l3 3)) l0 14)) l4) (l0 + 5) (nz ((upd (upd (upd (upd g (l0 + 1) (nz (g l0 14)) l1) (l0 + 2) (nz ((upd g (l0 + 1) (nz (g l0 14)) l1) l0 14)) l2) (l0 + 3) (nz ((upd (upd g (l0 + 1) (nz (g l0 14)) l1) (l0 + 2) (nz ((upd g (l0 + 1) (nz (g l0 14)) l1) l0 14)) l2) l0 14)) (zand l3 3)) (l0 + 4) (nz ((upd (upd (upd g (l0 + 1) (nz (g l0 14)) l1) (l0 + 2) (nz ((upd g (l0 + 1) (nz (g l0 14)) l1) l0 14)) l2) (l0 + 3) (nz ((upd (upd g (l0 + 1) (nz (g l0 14)) l1) (l0 + 2) (nz ((upd g (l0 + 1) (nz (g l0 14)) l1) l0 14)) l2) l0 14)) (zand l3 3)) l0 14)) l4) l0 14)) l5) (l0 + 6) (nz ((upd (upd (upd (upd (upd g (l0 + 1) (nz (g l0 14)) l1) (l0 + 2) (nz ((upd g (l0 + 1) (nz (g l0 14)) l1) l0 14)) l2) (l0 + 3) (nz ((upd (upd g (l0 + 1) (nz (g l0 14)) l1) (l0 + 2) (nz ((upd g (l0 + 1) (nz (g l0 14)) l1) l0 14)) l2) l0 14)) (zand l3 3)) (l0 + 4) (nz ((upd (upd (upd g (l0 + 1) (nz (g l0 14)) l1) (l0 + 2) (nz ((upd g (l0 + 1) (nz (g l0 14)) l1) l0 14)) l2) (l0 + 3) (nz ((upd (upd g (l0 + 1) (nz (g l0 14)) l1) (l0 + 2) (nz ((upd g (l0 + 1) (nz (g l0 14)) l1) l0 14)) l2) l0 14)) (zand l3 3)) l0 14)) l4) (l0 + 5) (nz ((upd (upd (upd (upd g (l0 + 1) (nz (g l0 14)) l1) (l0 + 2) (nz ((upd g (l0 + 1) (nz (g l0 14)) l1) l0 14)) l2) (l0 + 3) (nz ((upd (upd g (l0 + 1) (nz (g l0 14)) l1) (l0 + 2) (nz ((upd g (l0 + 1) (nz (g l0 14)) l1) l0 14)) l2) l0 14)) (zand l3 3)) (l0 + 4) (nz ((upd (upd (upd g (l0 + 1) (nz (g l0 14)) l1) (l0 + 2) (nz ((upd g (l0 + 1) (nz (g l0 14)) l1) l0 14)) l2) (l0 + 3) (nz ((upd (upd g (l0 + 1) (nz (g l0 14)) l1) (l0 + 2) (nz ((upd g (l0 + 1) (nz (g l0 14)) l1) l0 14)) l2) l0 14)) (zand l3 3)) l0 14)) l4) l0 14)) l5) l0 14)) l6) l0 14)) 0) l0 14)) 0) l0 14) ∧ nz ((upd (upd (upd (upd (upd (upd (upd (upd g (l0 + 1) (nz (g l0 14)) l1) (l0 + 2) (nz ((upd g (l0 + 1) (nz (g l0 14)) l1) l0 14)) l2) (l0 + 3) (nz ((upd (upd g (l0 + 1) (nz (g l0 14)) l1) (l0 + 2) (nz ((upd g (l0 + 1) (nz (g l0 14)) l1) l0 14)) l2) l0 14)) (zand l3 3)) (l0 + 4) (nz ((upd (upd (upd g (l0 + 1) (nz (g l0 14)) l1) (l0 + 2) (nz ((upd g (l0 + 1) (nz (g l0 14)) l1) l0 14)) l2) (l0 + 3) (nz ((upd (upd g (l0 + 1) (nz (g l0 14)) l1) (l0 + 2) (nz ((upd g (l0 + 1) (nz (g l0 14)) l1) l0 14)) l2) l0 14)) (zand l3 3)) l0 14)) l4) (l0 + 5) (nz ((upd (upd (upd (upd g (l0 + 1) (nz (g l0 14)) l1) (l0 + 2) (nz ((upd g (l0 + 1) (nz (g l0 14)) l1) l0 14)) l2) (l0 + 3) (nz ((upd (upd g (l0 + 1) (nz (g l0 14)) l1) (l0 + 2) (nz ((upd g (l0 + 1) (nz (g l0 14)) l1) l0 14)) l2) l0 14)) (zand l3 3)) (l0 + 4) (nz ((upd (upd (upd g (l0 + 1) (nz (g l0 14)) l1) (l0 + 2) (nz ((upd g (l0 + 1) (nz (g l0 14)) l1) l0 14)) l2) (l0 + 3) (nz ((upd (upd g (l0 + 1) (nz (g l0 14)) l1) (l0 + 2) (nz ((upd g (l0 + 1) (nz (g l0 14)) l1) l0 14)) l2) l0 14)) (zand l3 3)) l0 14)) l4) l0 14)) l5) (l0 + 6) (nz ((upd (upd (upd (upd (upd g (l0 + 1) (nz (g l0 14)) l1) (l0 + 2) (nz ((upd g (l0 + 1) (nz (g l0 14)) l1) l0 14)) l2) (l0 + 3) (nz ((upd (upd g (l0 + 1) (nz (g l0 14)) l1) (l0 + 2) (nz ((upd g (l0 + 1) (nz (g l0 14)) l1) l0 14)) l2) l0 14)) (zand l3 3)) (l0 + 4) (nz ((upd (upd (upd g (l0 + 1) (nz (g l0 14)) l1) (l0 + 2) (nz ((upd g (l0 + 1) (nz (g l0 14)) l1) l0 14)) l2) (l0 + 3) (nz ((upd (upd g (l0 + 1) (nz (g l0 14)) l1) (l0 + 2) (nz ((upd g (l0 + 1) (nz (g l0 14)) l1) l0 14)) l2) l0 14)) (zand l3 3)) l0 14)) l4) (l0 + 5) (nz ((upd (upd (upd (upd g (l0 + 1) (nz (g l0 14)) l1) (l0 + 2) (nz ((upd g (l0 + 1) (nz (g l0 14)) l1) l0 14)) l2) (l0 + 3) (nz ((upd (upd g (l0 + 1) (nz (g l0 14)) l1) (l0 + 2) (nz ((upd g (l0 + 1) (nz (g l0 14)) l1) l0 14)) l2) l0 14)) (zand l3 3)) (l0 + 4) (nz ((upd (upd (upd g (l0 + 1) (nz (g l0 14)) l1) (l0 + 2) (nz ((upd g (l0 + 1) (nz (g l0 14)) l1) l0 14)) l2) (l0 + 3) (nz ((upd (upd g (l0 + 1) (nz (g l0 14)) l1) (l0 + 2) (nz ((upd g (l0 + 1) (nz (g l0 14)) l1) l0 14)) l2) l0 14)) (zand l3 3)) l0 14)) l4) l0 14)) l5) l0 14)) l6) (l0 + 9) (nz ((upd (upd (upd (upd (upd (upd g (l0 + 1) (nz (g l0 14)) l1) (l0 + 2) (nz ((upd g (l0 + 1) (nz (g l0 14)) l1) l0 14)) l2) (l0 + 3) (nz ((upd (upd g (l0 + 1) (nz (g l0 14)) l1) (l0 + 2) (nz ((upd g (l0 + 1) (nz (g l0 14)) l1) l0 14)) l2) l0 14)) (zand l3 3)) (l0 + 4) (nz ((upd (upd (upd g (l0 + 1) (nz (g l0 14)) l1) (l0 + 2) (nz ((upd g (l0 + 1) (nz (g l0 14)) l1) l0 14)) l2) (l0 + 3) (nz ((upd (upd g (l0 + 1) (nz (g l0 14)) l1) (l0 + 2) (nz ((upd g (l0 + 1) (nz (g l0 14)) l1) l0 14)) l2) l0 14)) (zand l3 3)) l0 14)) l4) (l0 + 5) (nz ((upd (upd (upd (upd g (l0 + 1) (nz (g l0 14)) l1) (l0 + 2) (nz ((upd g (l0 + 1) (nz (g l0 14)) l1) l0 14)) l2) (l0 + 3) (nz ((upd (upd g (l0 + 1) (nz (g l0 14)) l1) (l0 + 2) (nz ((upd g (l0 + 1) (nz (g l0 14)) l1) l0 14)) l2) l0 14)) (zand l3 3)) (l0 + 4) (nz ((upd (upd (upd g (l0 + 1) (nz (g l0 14)) l1) (l0 + 2) (nz ((upd g (l0 + 1) (nz (g l0 14)) l1) l0 14)) l2) (l0 + 3) (nz ((upd (upd g (l0 + 1) (nz (g l0 14)) l1) (l0 + 2) (nz ((upd g (l0 + 1) (nz (g l0 14)) l1) l0 14)) l2) l0 14)) (zand l3 3)) l0 14)) l4) l0 14)) l5) (l0 + 6) (nz ((upd (upd (upd (upd (upd g (l0 + 1) (nz (g l0 14)) l1) (l0 + 2) (nz ((upd g (l0 + 1) (nz (g l0 14)) l1) l0 14)) l2) (l0 + 3) (nz ((upd (upd g (l0 + 1) (nz (g l0 14)) l1) (l0 + 2) (nz ((upd g (l0 + 1) (nz (g l0 14)) l1) l0 14)) l2) l0 14)) (zand l3 3)) (l0 + 4) (nz ((upd (upd (upd g (l0 + 1) (nz (g l0 14)) l1) (l0 + 2) (nz ((upd g (l0 + 1) (nz (g l0 14)) l1) l0 14)) l2) (l0 + 3) (nz ((upd (upd g (l0 + 1) (nz (g l0 14)) l1) (l0 + 2) (nz ((upd g (l0 + 1) (nz (g l0 14)) l1) l0 14)) l2) l0 14)) (zand l3 3)) l0 14)) l4) (l0 + 5) (nz ((upd (upd (upd (upd g (l0 + 1) (nz (g l0 14)) l1) (l0 + 2) (nz ((upd g (l0 + 1) (nz (g l0 14)) l1) l0 14)) l2) (l0 + 3) (nz ((upd (upd g (l0 + 1) (nz (g l0 14)) l1) (l0 + 2) (nz ((upd g (l0 + 1) (nz (g l0 14)) l1) l0 14)) l2) l0 14)) (zand l3 3)) (l0 + 4) (nz ((upd (upd (upd g (l0 + 1) (nz (g l0 14)) l1) (l0 + 2) (nz ((upd g (l0 + 1) (nz (g l0 14)) l1) l0 14)) l2) (l0 + 3) (nz ((upd (upd g (l0 + 1) (nz (g l0 14)) l1) (l0 + 2) (nz ((upd g (l0 + 1) (nz (g l0 14)) l1) l0 14)) l2) l0 14)) (zand l3 3)) l0 14)) l4) l0 14)) l5) l0 14)) l6) l0 14)) 0) (l0 + 10) (nz ((upd (upd (upd (upd (upd (upd (upd g (l0 + 1) (nz (g l0 14)) l1) (l0 + 2) (nz ((upd g (l0 + 1) (nz (g l0 14)) l1) l0 14)) l2) (l0 + 3) (nz ((upd (upd g (l0 + 1) (nz (g l0 14)) l1) (l0 + 2) (nz ((upd g (l0 + 1) (nz (g l0 14)) l1) l0 14)) l2) l0 14)) (zand l3 3)) (l0 + 4) (nz ((upd (upd (upd g (l0 + 1) (nz (g l0 14)) l1) (l0 + 2) (nz ((upd g (l0 + 1) (nz (g l0 14)) l1) l0 14)) l2) (l0 + 3) (nz ((upd (upd g (l0 + 1) (nz (g l0 14)) l1) (l0 + 2) (nz ((upd g (l0 + 1) (nz (g l0 14)) l1) l0 14)) l2) l0 14)) (zand l3 3)) l0 14)) l4) (l0 + 5) (nz ((upd (upd (upd (upd g (l0 + 1) (nz (g l0 14)) l1) (l0 + 2) (nz ((upd g (l0 + 1) (nz (g l0 14)) l1) l0 14)) l2) (l0 + 3) (nz ((upd (upd g (l0 + 1) (nz (g l0 14)) l1) (l0 + 2) (nz ((upd g (l0 + 1) (nz (g l0 14)) l1) l0 14)) l2) l0 14)) (zand l3 3)) (l0 + 4) (nz ((upd (upd (upd g (l0 + 1) (nz (g l0 14)) l1) (l0 + 2) (nz ((upd g (l0 + 1) (nz (g l0 14)) l1) l0 14)) l2) (l0 + 3) (nz ((upd (upd g (l0 + 1) (nz (g l0 14)) l1) (l0 + 2) (nz ((upd g (l0 + 1) (nz (g l0 14)) l1) l0 14)) l2) l0 14)) (zand l3 3)) l0 14)) l4) l0 14)) l5) (l0 + 6) (nz ((upd (upd (upd (upd (upd g (l0 + 1) (nz (g l0 14)) l1) (l0 + 2) (nz ((upd g (l0 + 1) (nz (g l0 14)) l1) l0 14)) l2) (l0 + 3) (nz ((upd (upd g (l0 + 1) (nz (g l0 14)) l1) (l0 + 2) (nz ((upd g (l0 + 1) (nz (g l0 14)) l1) l0 14)) l2) l0 14)) (zand l3 3)) (l0 + 4) (nz ((upd (upd (upd g (l0 + 1) (nz (g l0 14)) l1) (l0 + 2) (nz ((upd g (l0 + 1) (nz (g l0 14)) l1) l0 14)) l2) (l0 + 3) (nz ((upd (upd g (l0 + 1) (nz (g l0 14)) l1) (l0 + 2) (nz ((upd g (l0 + 1) (nz (g l0 14)) l1) l0 14)) l2) l0 14)) (zand l3 3)) l0 14)) l4) (l0 + 5) (nz ((upd (upd (upd (upd g (l0 + 1) (nz (g l0 14)) l1) (l0 + 2) (nz ((upd g (l0 + 1) (nz (g l0 14)) l1) l0 14)) l2) (l0 + 3) (nz ((upd (upd g (l0 + 1) (nz (g l0 14)) l1) (l0 + 2) (nz ((upd g (l0 + 1) (nz (g l0 14)) l1) l0 14)) l2) l0 14)) (zand l3 3)) (l0 + 4) (nz ((upd (upd (upd g (l0 + 1) (nz (g l0 14)) l1) (l0 + 2) (nz ((upd g (l0 + 1) (nz (g l0 14)) l1) l0 14)) l2) (l0 + 3) (nz ((upd (upd g (l0 + 1) (nz (g l0 14)) l1) (l0 + 2) (nz ((upd g (l0 + 1) (nz (g l0 14)) l1) l0 14)) l2) l0 14)) (zand l3 3)) l0 14)) l4) l0 14)) l5) l0 14)) l6) (l0 + 9) (nz ((upd (upd (upd (upd (upd (upd g (l0 + 1) (nz (g l0 14)) l1) (l0 + 2) (nz ((upd g (l0 + 1) (nz (g l0 14)) l1) l0 14)) l2) (l0 + 3) (nz ((upd (upd g (l0 + 1) (nz (g l0 14)) l1) (l0 + 2) (nz ((upd g (l0 + 1) (nz (g l0 14)) l1) l0 14)) l2) l0 14)) (zand l3 3)) (l0 + 4) (nz ((upd (upd (upd g (l0 + 1) (nz (g l0 14)) l1) (l0 + 2) (nz ((upd g (l0 + 1) (nz (g l0 14)) l1) l0 14)) l2) (l0 + 3) (nz ((upd (upd g (l0 + 1) (nz (g l0 14)) l1) (l0 + 2) (nz ((upd g (l0 + 1) (nz (g l0 14)) l1) l0 14)) l2) l0 14)) (zand l3 3)) l0 14)) l4) (l0 + 5) (nz ((upd (upd (upd (upd g (l0 + 1) (nz (g l0 14)) l1) (l0 + 2) (nz ((upd g (l0 + 1) (nz (g l0 14)) l1) l0 14)) l2) (l0 + 3) (nz ((upd (upd g (l0 + 1) (nz (g l0 14)) l1) (l0 + 2) (nz ((upd g (l0 + 1) (nz (g l0 14)) l1) l0 14)) l2) l0 14)) (zand l3 3)) (l0 + 4) (nz ((upd (upd (upd g (l0 + 1) (nz (g l0 14)) l1) (l0 + 2) (nz ((upd g (l0 + 1) (nz (g l0 14)) l1) l0 14)) l2) (l0 + 3) (nz ((upd (upd g (l0 + 1) (nz (g l0 14)) l1) (l0 + 2) (nz ((upd g (l0 + 1) (nz (g l0 14)) l1) l0 14)) l2) l0 14)) (zand l3 3)) l0 14)) l4) l0 14)) l5) (l0 + 6) (nz ((upd (upd (upd (upd (upd g (l0 + 1) (nz (g l0 14)) l1) (l0 + 2) (nz ((upd g (l0 + 1) (nz (g l0 14)) l1) l0 14)) l2) (l0 + 3) (nz ((upd (upd g (l0 + 1) (nz (g l0 14)) l1) (l0 + 2) (nz ((upd g (l0 + 1) (nz (g l0 14)) l1) l0 14)) l2) l0 14)) (zand l3 3)) (l0 + 4) (nz ((upd (upd (upd g (l0 + 1) (nz (g l0 14)) l1) (l0 + 2) (nz ((upd g (l0 + 1) (nz (g l0 14)) l1) l0 14)) l2) (l0 + 3) (nz ((upd (upd g (l0 + 1) (nz (g l0 14)) l1) (l0 + 2) (nz ((upd g (l0 + 1) (nz (g l0 14)) l1) l0 14)) l2) l0 14)) (zand l3 3)) l0 14)) l4) (l0 + 5) (nz ((upd (upd (upd (upd g (l0 + 1) (nz (g l0 14)) l1) (l0 + 2) (nz ((upd g (l0 + 1) (nz (g l0 14)) l1) l0 14)) l2) (l0 + 3) (nz ((upd (upd g (l0 + 1) (nz (g l0 14)) l1) (l0 + 2) (nz ((upd g (l0 + 1) (nz (g l0 14)) l1) l0 14)) l2) l0 14)) (zand l3 3)) (l0 + 4) (nz ((upd (upd (upd g (l0 + 1) (nz (g l0 14)) l1) (l0 + 2) (nz ((upd g (l0 + 1) (nz (g l0 14)) l1) l0 14)) l2) (l0 + 3) (nz ((upd (upd g (l0 + 1) (nz (g l0 14)) l1) (l0 + 2) (nz ((upd g (l0 + 1) (nz (g l0 14)) l1) l0 14)) l2) l0 14)) (zand l3 3)) l0 14)) l4) l0 14)) l5) l0 14)) l6) l0 14)) 0) l0 14)) 0) l0 14) < 16
                  · rw [if_pos c9] at k
                    refine (zr_iast h (ta_fl_lastHand zl0) c9.1 (by have := c9.2; omega)).trans ?_
                    refine (zr_aload (v := zf b l0) rfl (zf_tA h _)).trans ?_
                    refine (zr_dup (zf_c2 h _)).trans ?_
                    refine (zr_gfi h (ti_fl_count zl0)).trans ?_
                    refine (zr_pshi 1 rfl).trans ?_
                    refine (zr_iadd).trans ?_
                    refine (zr_pfi h (ti_fl_count zl0)).trans ?_
                    exact zr_return.trans k
                  · rw [if_neg c9] at k; cases k
                · rw [if_neg c8] at k; cases k
              · rw [if_neg c7] at k; cases k
            · rw [if_neg c6] at k; cases k
          · rw [if_neg c5] at k; cases k
        · rw [if_neg c4] at k; cases k
      · rw [if_neg c3] at k; cases k
    · rw [if_neg c2] at k; cases k
  · rw [if_neg c1] at k; cases k
theorem zs_6_16 (h : zOk b n f) {l0 : Nat} {l1 : Int} {l2 : Int} {l3 : Int} {l4 : Int} {l5 : Int} {l6 : Int} (zl0 : zI_fl l0) (zl1 : zR l1) (zl2 : zR l2) (zl3 : zR l3) (zl4 : zR l4) (zl5 : zR l5) (zl6 : zR l6) (k : some (137438953473, (zM n (zWf b f g))) = some r) : k6_16 V ST d (zCl AL V ST ex_km d) (zRn AL V ST ex_km d kt_6) (zP [zf b l0, enc l1, enc l2, enc l3, enc l4, enc l5, enc l6]) [] (zM n (zWf b f g)) = some r := by
  unfold k6_16
  exact zr_return.trans k
theorem zs_6_0 (h : zOk b n f) {l0 : Nat} {l1 : Int} {l2 : Int} {l3 : Int} {l4 : Int} {l5 : Int} {l6 : Int} (zl0 : zI_fl l0) (zl1 : zR l1) (zl2 : zR l2) (zl3 : zR l3) (zl4 : zR l4) (zl5 : zR l5) (zl6 : zR l6) (k : (if nz (g l0 14) < 0 then zRn AL V ST ex_km d kt_6 16 (zP [zf b l0, enc l1, enc l2, enc l3, enc l4, enc l5, enc l6]) [] (zM n (zWf b f g)) else (if nz (g l0 14) < 16 then zRn AL V ST ex_km d kt_6 17 (zP [zf b l0, enc l1, enc l2, enc l3, enc l4, enc l5, enc l6]) [] (zM n (zWf b f g)) else k6_16 V ST d (zCl AL V ST ex_km d) (zRn AL V ST ex_km d kt_6) (zP [zf b l0, enc l1, enc l2, enc l3, enc l4, enc l5, enc l6]) [] (zM n (zWf b f g)))) = some r) : k6_0 V ST d (zCl AL V ST ex_km d) (zRn AL V ST ex_km d kt_6) (zP [zf b l0, enc l1, enc l2, enc l3, enc l4, enc l5, enc l6]) [] (zM n (zWf b f g)) = some r := by
  unfold k6_0
  refine (zr_aload (v := zf b l0) rfl (zf_tA h _)).trans ?_
  refine (zr_gfi h (ti_fl_count zl0)).trans ?_
  by_cases c1 : nz (g l0 14) < 0
  · rw [if_pos c1] at k
    exact (zr_if_lt_t (nz_R _) c1).trans k
  · rw [if_neg c1] at k
    refine (zr_if_lt_n (nz_R _) (Int.not_lt.mp c1)).trans ?_
    refine (zr_aload (v := zf b l0) rfl (zf_tA h _)).trans ?_
    refine (zr_gfi h (ti_fl_count zl0)).trans ?_
    refine (zr_pshi 16 rfl).trans ?_
    by_cases c2 : nz (g l0 14) < 16
    · rw [if_pos c2] at k
      exact (zr_icmp_lt_t (nz_R _) ((by unfold zR; omega)) c2).trans k
    · rw [if_neg c2] at k
      refine (zr_icmp_lt_n (nz_R _) ((by unfold zR; omega)) (Int.not_lt.mp c2)).trans ?_
      exact k
theorem zs_7_86 (h : zOk b n f) {l0 : Nat} {l1 : Nat} {l2 : Nat} {ml2 : Nat} {l3 : Int} {l4 : Nat} (zl0 : zI_fl l0) (zl1 : zI_pl l1) (zl2 : zAr l2 64 ml2) (zl3 : zR l3) (zl4 : ex_c2 l4 = false ∧ l4 < 1099511627776) (k : some (137438953473, (zM n (zWf b f g))) = some r) : k7_86 V ST d (zCl AL V ST ex_km d) (zRn AL V ST ex_km d kt_7) (zP [zf b l0, zf b l1, zf b l2, enc l3, l4]) [] (zM n (zWf b f g)) = some r := by
  unfold k7_86
  exact zr_return.trans k
theorem zs_7_80 (h : zOk b n f) {l0 : Nat} {l1 : Nat} {l2 : Nat} {ml2 : Nat} {l3 : Int} {l4 : Int} (zl0 : zI_fl l0) (zl1 : zI_pl l1) (zl2 : zAr l2 64 ml2) (zl3 : zR l3) (zl4 : zR l4) (k : zRn AL V ST ex_km d kt_7 7 (zP [zf b l0, zf b l1, zf b l2, enc (nz (l3 + 1)), enc l4]) [] (zM n (zWf b f g)) = some r) : k7_80 V ST d (zCl AL V ST ex_km d) (zRn AL V ST ex_km d kt_7) (zP [zf b l0, zf b l1, zf b l2, enc l3, enc l4]) [] (zM n (zWf b f g)) = some r := by
  unfold k7_80
  refine (zr_iinc (w := zf b l2) (x := l3) (i' := 1) (vs' := [zf b l0, zf b l1, zf b l2, enc (nz (l3 + 1)), enc l4]) rfl (zf_c2 h _) (Nat.lt_trans (zf_l h _) (by decide)) rfl rfl (by decide) rfl).trans ?_
  exact (zr_goto).trans k
theorem zs_7_49 (h : zOk b n f) {l0 : Nat} {l1 : Nat} {l2 : Nat} {ml2 : Nat} {l3 : Int} {l4 : Nat} {s0 : Int} {s1 : Int} (zl0 : zI_fl l0) (zl1 : zI_pl l1) (zl2 : zAr l2 64 ml2) (zl3 : zR l3) (zl4 : ex_c2 l4 = false ∧ l4 < 1099511627776) (zs0 : zR s0) (zs1 : zR s1) (k : (if 0 ≤ l3 ∧ l3 < 8 then (if 0 ≤ l3 ∧ l3 < 8 then (if 0 ≤ l3 ∧ l3 < 8 then (if 0 ≤ l3 ∧ l3 < ml2 then zTh (zCl AL V ST ex_km d 6 [zf b l0, enc (nz (g (l1 + 1) l3)), enc (nz (g (l1 + 2) l3)), enc (nz (g (l1 + 3) l3)), enc l3, enc (nz (g l2 l3)), enc (zor s1 s0)] (zM n (zWf b f g))) (zM n (zWf b f g)) [] (fun S M => k7_80 V ST d (zCl AL V ST ex_km d) (zRn AL V ST ex_km d kt_7) (zP [zf b l0, zf b l1, zf b l2, enc l3, enc (zor s1 s0)]) S M) else none) else none) else none) else none) = some r) : k7_49 V ST d (zCl AL V ST ex_km d) (zRn AL V ST ex_km d kt_7) (zP [zf b l0, zf b l1, zf b l2, enc l3, l4]) [enc s0, enc s1] (zM n (zWf b f g)) = some r := by
  unfold k7_49
  refine (zr_ior).trans ?_
  refine (zr_istore (w := enc l3) (vs' := [zf b l0, zf b l1, zf b l2, enc l3, enc (zor s1 s0)]) rfl (enc_c2 _) (Nat.lt_trans (enc_lt _) (by decide)) (by decide) rfl (enc_lt _)).trans ?_
  refine (zr_aload (v := zf b l0) rfl (zf_tA h _)).trans ?_
  refine (zr_aload (v := zf b l1) rfl (zf_tA h _)).trans ?_
  refine (zr_gfr h (tr_pl_x zl1)).trans ?_
  refine (zr_iload (v := enc l3) rfl (enc_lt _)).trans ?_
  by_cases c1 : 0 ≤ l3 ∧ l3 < 8
  · rw [if_pos c1] at k
    refine (zr_iald h (ta_pl_x zl1) c1.1 (by have := c1.2; omega)).trans ?_
    refine (zr_aload (v := zf b l1) rfl (zf_tA h _)).trans ?_
    refine (zr_gfr h (tr_pl_y zl1)).trans ?_
    refine (zr_iload (v := enc l3) rfl (enc_lt _)).trans ?_
    by_cases c2 : 0 ≤ l3 ∧ l3 < 8
    · rw [if_pos c2] at k
      refine (zr_iald h (ta_pl_y zl1) c2.1 (by have := c2.2; omega)).trans ?_
      refine (zr_aload (v := zf b l1) rfl (zf_tA h _)).trans ?_
      refine (zr_gfr h (tr_pl_f zl1)).trans ?_
      refine (zr_iload (v := enc l3) rfl (enc_lt _)).trans ?_
      by_cases c3 : 0 ≤ l3 ∧ l3 < 8
      · rw [if_pos c3] at k
        refine (zr_iald h (ta_pl_f zl1) c3.1 (by have := c3.2; omega)).trans ?_
        refine (zr_iload (v := enc l3) rfl (enc_lt _)).trans ?_
        refine (zr_aload (v := zf b l2) rfl (zf_tA h _)).trans ?_
        refine (zr_iload (v := enc l3) rfl (enc_lt _)).trans ?_
        by_cases c4 : 0 ≤ l3 ∧ l3 < ml2
        · rw [if_pos c4] at k
          refine (zr_iald h zl2 c4.1 (by have := c4.2; omega)).trans ?_
          refine (zr_iload (v := enc (zor s1 s0)) rfl (enc_lt _)).trans ?_
          refine zr_invV h [enc (zor s1 s0), enc (nz (g l2 l3)), enc l3, enc (nz (g (l1 + 3) l3)), enc (nz (g (l1 + 2) l3)), enc (nz (g (l1 + 1) l3))] rfl (tk_fl zl0) (zA_cons (enc_l _) (zA_cons (enc_l _) (zA_cons (enc_l _) (zA_cons (enc_l _) (zA_cons (enc_l _) (zA_cons (enc_l _) zA_nil)))))) (zA_nil) (by decide) ?_
          exact k
        · rw [if_neg c4] at k; cases k
      · rw [if_neg c3] at k; cases k
    · rw [if_neg c2] at k; cases k
  · rw [if_neg c1] at k; cases k
theorem zs_7_46 (h : zOk b n f) {l0 : Nat} {l1 : Nat} {l2 : Nat} {ml2 : Nat} {l3 : Int} {l4 : Nat} {s0 : Int} {s1 : Int} (zl0 : zI_fl l0) (zl1 : zI_pl l1) (zl2 : zAr l2 64 ml2) (zl3 : zR l3) (zl4 : ex_c2 l4 = false ∧ l4 < 1099511627776) (zs0 : zR s0) (zs1 : zR s1) (k : zTh (zCl AL V ST ex_km d 11 [enc s0] (zM n (zWf b f g))) (zM n (zWf b f g)) [enc s1] (fun S M => k7_49 V ST d (zCl AL V ST ex_km d) (zRn AL V ST ex_km d kt_7) (zP [zf b l0, zf b l1, zf b l2, enc l3, l4]) S M) = some r) : k7_46 V ST d (zCl AL V ST ex_km d) (zRn AL V ST ex_km d kt_7) (zP [zf b l0, zf b l1, zf b l2, enc l3, l4]) [enc s0, enc s1] (zM n (zWf b f g)) = some r := by
  unfold k7_46
  refine zr_invS [enc s0] rfl (zA_cons (enc_l _) zA_nil) (zA_cons (enc_l _) zA_nil) (by decide) ?_
  exact k
theorem zs_7_45 (h : zOk b n f) {l0 : Nat} {l1 : Nat} {l2 : Nat} {ml2 : Nat} {l3 : Int} {l4 : Nat} {s0 : Int} (zl0 : zI_fl l0) (zl1 : zI_pl l1) (zl2 : zAr l2 64 ml2) (zl3 : zR l3) (zl4 : ex_c2 l4 = false ∧ l4 < 1099511627776) (zs0 : zR s0) (k : k7_46 V ST d (zCl AL V ST ex_km d) (zRn AL V ST ex_km d kt_7) (zP [zf b l0, zf b l1, zf b l2, enc l3, l4]) [enc 4, enc s0] (zM n (zWf b f g)) = some r) : k7_45 V ST d (zCl AL V ST ex_km d) (zRn AL V ST ex_km d kt_7) (zP [zf b l0, zf b l1, zf b l2, enc l3, l4]) [enc s0] (zM n (zWf b f g)) = some r := by
  unfold k7_45
  refine (zr_pshi 4 rfl).trans ?_
  exact k
theorem zs_7_35 (h : zOk b n f) {l0 : Nat} {l1 : Nat} {l2 : Nat} {ml2 : Nat} {l3 : Int} {l4 : Nat} {s0 : Int} (zl0 : zI_fl l0) (zl1 : zI_pl l1) (zl2 : zAr l2 64 ml2) (zl3 : zR l3) (zl4 : ex_c2 l4 = false ∧ l4 < 1099511627776) (zs0 : zR s0) (k : (if nz (Int.tmod l3 2) = 0 then zRn AL V ST ex_km d kt_7 46 (zP [zf b l0, zf b l1, zf b l2, enc l3, l4]) [enc 3, enc s0] (zM n (zWf b f g)) else zRn AL V ST ex_km d kt_7 45 (zP [zf b l0, zf b l1, zf b l2, enc l3, l4]) [enc s0] (zM n (zWf b f g))) = some r) : k7_35 V ST d (zCl AL V ST ex_km d) (zRn AL V ST ex_km d kt_7) (zP [zf b l0, zf b l1, zf b l2, enc l3, l4]) [enc s0] (zM n (zWf b f g)) = some r := by
  unfold k7_35
  refine (zr_iload (v := enc l3) rfl (enc_lt _)).trans ?_
  refine (zr_pshi 2 rfl).trans ?_
  refine (zr_rem (zl3) ((by unfold zR; omega)) (by decide)).trans ?_
  by_cases c1 : nz (Int.tmod l3 2) = 0
  · rw [if_pos c1] at k
    refine (zr_if_ne_n (nz_R _) c1).trans ?_
    refine (zr_pshi 3 rfl).trans ?_
    exact (zr_goto).trans k
  · rw [if_neg c1] at k
    exact (zr_if_ne_t (nz_R _) c1).trans k
theorem zs_7_32 (h : zOk b n f) {l0 : Nat} {l1 : Nat} {l2 : Nat} {ml2 : Nat} {l3 : Int} {l4 : Nat} {s0 : Int} (zl0 : zI_fl l0) (zl1 : zI_pl l1) (zl2 : zAr l2 64 ml2) (zl3 : zR l3) (zl4 : ex_c2 l4 = false ∧ l4 < 1099511627776) (zs0 : zR s0) (k : zTh (zCl AL V ST ex_km d 11 [enc s0] (zM n (zWf b f g))) (zM n (zWf b f g)) [] (fun S M => k7_35 V ST d (zCl AL V ST ex_km d) (zRn AL V ST ex_km d kt_7) (zP [zf b l0, zf b l1, zf b l2, enc l3, l4]) S M) = some r) : k7_32 V ST d (zCl AL V ST ex_km d) (zRn AL V ST ex_km d kt_7) (zP [zf b l0, zf b l1, zf b l2, enc l3, l4]) [enc s0] (zM n (zWf b f g)) = some r := by
  unfold k7_32
  refine zr_invS [enc s0] rfl (zA_cons (enc_l _) zA_nil) (zA_nil) (by decide) ?_
  exact k
theorem zs_7_31 (h : zOk b n f) {l0 : Nat} {l1 : Nat} {l2 : Nat} {ml2 : Nat} {l3 : Int} {l4 : Nat} (zl0 : zI_fl l0) (zl1 : zI_pl l1) (zl2 : zAr l2 64 ml2) (zl3 : zR l3) (zl4 : ex_c2 l4 = false ∧ l4 < 1099511627776) (k : k7_32 V ST d (zCl AL V ST ex_km d) (zRn AL V ST ex_km d kt_7) (zP [zf b l0, zf b l1, zf b l2, enc l3, l4]) [enc 2] (zM n (zWf b f g)) = some r) : k7_31 V ST d (zCl AL V ST ex_km d) (zRn AL V ST ex_km d kt_7) (zP [zf b l0, zf b l1, zf b l2, enc l3, l4]) [] (zM n (zWf b f g)) = some r := by
  unfold k7_31
  refine (zr_pshi 2 rfl).trans ?_
  exact k
theorem zs_7_7 (h : zOk b n f) {l0 : Nat} {l1 : Nat} {l2 : Nat} {ml2 : Nat} {l3 : Int} {l4 : Nat} (zl0 : zI_fl l0) (zl1 : zI_pl l1) (zl2 : zAr l2 64 ml2) (zl3 : zR l3) (zl4 : ex_c2 l4 = false ∧ l4 < 1099511627776) (k : (if l3 < 8 then (if l3 < (ml2 : Int) then (if nz (Int.tmod (nz (Int.tdiv l3 2)) 2) = 0 then zRn AL V ST ex_km d kt_7 32 (zP [zf b l0, zf b l1, zf b l2, enc l3, l4]) [enc 1] (zM n (zWf b f g)) else zRn AL V ST ex_km d kt_7 31 (zP [zf b l0, zf b l1, zf b l2, enc l3, l4]) [] (zM n (zWf b f g))) else zRn AL V ST ex_km d kt_7 86 (zP [zf b l0, zf b l1, zf b l2, enc l3, l4]) [] (zM n (zWf b f g))) else zRn AL V ST ex_km d kt_7 86 (zP [zf b l0, zf b l1, zf b l2, enc l3, l4]) [] (zM n (zWf b f g))) = some r) : k7_7 V ST d (zCl AL V ST ex_km d) (zRn AL V ST ex_km d kt_7) (zP [zf b l0, zf b l1, zf b l2, enc l3, l4]) [] (zM n (zWf b f g)) = some r := by
  unfold k7_7
  refine (zr_iload (v := enc l3) rfl (enc_lt _)).trans ?_
  refine (zr_pshi 8 rfl).trans ?_
  by_cases c1 : l3 < 8
  · rw [if_pos c1] at k
    refine (zr_icmp_ge_n (zl3) ((by unfold zR; omega)) c1).trans ?_
    refine (zr_iload (v := enc l3) rfl (enc_lt _)).trans ?_
    refine (zr_aload (v := zf b l2) rfl (zf_tA h _)).trans ?_
    refine (zr_alen h zl2 (by decide)).trans ?_
    by_cases c2 : l3 < (ml2 : Int)
    · rw [if_pos c2] at k
      refine (zr_icmp_ge_n (zl3) ((zAr_R zl2)) c2).trans ?_
      refine (zr_iload (v := enc l3) rfl (enc_lt _)).trans ?_
      refine (zr_pshi 2 rfl).trans ?_
      refine (zr_div (zl3) ((by unfold zR; omega)) (by decide)).trans ?_
      refine (zr_pshi 2 rfl).trans ?_
      refine (zr_rem (nz_R _) ((by unfold zR; omega)) (by decide)).trans ?_
      by_cases c3 : nz (Int.tmod (nz (Int.tdiv l3 2)) 2) = 0
      · rw [if_pos c3] at k
        refine (zr_if_ne_n (nz_R _) c3).trans ?_
        refine (zr_pshi 1 rfl).trans ?_
        exact (zr_goto).trans k
      · rw [if_neg c3] at k
        exact (zr_if_ne_t (nz_R _) c3).trans k
    · rw [if_neg c2] at k
      exact (zr_icmp_ge_t (zl3) ((zAr_R zl2)) (Int.not_lt.mp c2)).trans k
  · rw [if_neg c1] at k
    exact (zr_icmp_ge_t (zl3) ((by unfold zR; omega)) (Int.not_lt.mp c1)).trans k
theorem zs_7_0 (h : zOk b n f) {l0 : Nat} {l1 : Nat} {l2 : Nat} {ml2 : Nat} (zl0 : zI_fl l0) (zl1 : zI_pl l1) (zl2 : zAr l2 64 ml2) (k : k7_7 V ST d (zCl AL V ST ex_km d) (zRn AL V ST ex_km d kt_7) (zP [zf b l0, zf b l1, zf b l2, enc 0, 137438953472]) [] (zM n (zWf b f (upd g l0 14 0))) = some r) : k7_0 V ST d (zCl AL V ST ex_km d) (zRn AL V ST ex_km d kt_7) (zP [zf b l0, zf b l1, zf b l2, 137438953472, 137438953472]) [] (zM n (zWf b f g)) = some r := by
  unfold k7_0
  refine (zr_aload (v := zf b l0) rfl (zf_tA h _)).trans ?_
  refine (zr_pshi 0 rfl).trans ?_
  refine (zr_pfi h (ti_fl_count zl0)).trans ?_
  refine (zr_pshi 0 rfl).trans ?_
  refine (zr_istore (w := zf b l2) (vs' := [zf b l0, zf b l1, zf b l2, enc 0, 137438953472]) rfl (zf_c2 h _) (Nat.lt_trans (zf_l h _) (by decide)) (by decide) rfl (enc_lt _)).trans ?_
  exact k
theorem zs_8_65 (h : zOk b n f) {l0 : Nat} {l1 : Nat} {l2 : Int} {l3 : Nat} (zl0 : zI_fl l0) (zl1 : zI_pl l1) (zl2 : zR l2) (zl3 : ex_c2 l3 = false ∧ l3 < 1099511627776) (k : some (137438953473, (zM n (zWf b f g))) = some r) : k8_65 V ST d (zCl AL V ST ex_km d) (zRn AL V ST ex_km d kt_8) (zP [zf b l0, zf b l1, enc l2, l3]) [] (zM n (zWf b f g)) = some r := by
  unfold k8_65
  exact zr_return.trans k
theorem zs_8_59 (h : zOk b n f) {l0 : Nat} {l1 : Nat} {l2 : Int} {l3 : Int} (zl0 : zI_fl l0) (zl1 : zI_pl l1) (zl2 : zR l2) (zl3 : zR l3) (k : zRn AL V ST ex_km d kt_8 2 (zP [zf b l0, zf b l1, enc (nz (l2 + 1)), enc l3]) [] (zM n (zWf b f g)) = some r) : k8_59 V ST d (zCl AL V ST ex_km d) (zRn AL V ST ex_km d kt_8) (zP [zf b l0, zf b l1, enc l2, enc l3]) [] (zM n (zWf b f g)) = some r := by
  unfold k8_59
  refine (zr_iinc (w := zf b l1) (x := l2) (i' := 1) (vs' := [zf b l0, zf b l1, enc (nz (l2 + 1)), enc l3]) rfl (zf_c2 h _) (Nat.lt_trans (zf_l h _) (by decide)) rfl rfl (by decide) rfl).trans ?_
  exact (zr_goto).trans k
theorem zs_8_30 (h : zOk b n f) {l0 : Nat} {l1 : Nat} {l2 : Int} {l3 : Nat} {s0 : Int} (zl0 : zI_fl l0) (zl1 : zI_pl l1) (zl2 : zR l2) (zl3 : ex_c2 l3 = false ∧ l3 < 1099511627776) (zs0 : zR s0) (k : (if 0 ≤ l2 ∧ l2 < 8 then (if 0 ≤ l2 ∧ l2 < 8 then (if 0 ≤ l2 ∧ l2 < 8 then zTh (zCl AL V ST ex_km d 6 [zf b l0, enc (nz (g (l1 + 1) l2)), enc (nz (g (l1 + 2) l2)), enc (nz (g (l1 + 3) l2)), enc (nz (8 + l2)), enc 3, enc s0] (zM n (zWf b f g))) (zM n (zWf b f g)) [] (fun S M => k8_59 V ST d (zCl AL V ST ex_km d) (zRn AL V ST ex_km d kt_8) (zP [zf b l0, zf b l1, enc l2, enc s0]) S M) else none) else none) else none) = some r) : k8_30 V ST d (zCl AL V ST ex_km d) (zRn AL V ST ex_km d kt_8) (zP [zf b l0, zf b l1, enc l2, l3]) [enc s0] (zM n (zWf b f g)) = some r := by
  unfold k8_30
  refine (zr_istore (w := enc l2) (vs' := [zf b l0, zf b l1, enc l2, enc s0]) rfl (enc_c2 _) (Nat.lt_trans (enc_lt _) (by decide)) (by decide) rfl (enc_lt _)).trans ?_
  refine (zr_aload (v := zf b l0) rfl (zf_tA h _)).trans ?_
  refine (zr_aload (v := zf b l1) rfl (zf_tA h _)).trans ?_
  refine (zr_gfr h (tr_pl_x zl1)).trans ?_
  refine (zr_iload (v := enc l2) rfl (enc_lt _)).trans ?_
  by_cases c1 : 0 ≤ l2 ∧ l2 < 8
  · rw [if_pos c1] at k
    refine (zr_iald h (ta_pl_x zl1) c1.1 (by have := c1.2; omega)).trans ?_
    refine (zr_aload (v := zf b l1) rfl (zf_tA h _)).trans ?_
    refine (zr_gfr h (tr_pl_y zl1)).trans ?_
    refine (zr_iload (v := enc l2) rfl (enc_lt _)).trans ?_
    by_cases c2 : 0 ≤ l2 ∧ l2 < 8
    · rw [if_pos c2] at k
      refine (zr_iald h (ta_pl_y zl1) c2.1 (by have := c2.2; omega)).trans ?_
      refine (zr_aload (v := zf b l1) rfl (zf_tA h _)).trans ?_
      refine (zr_gfr h (tr_pl_f zl1)).trans ?_
      refine (zr_iload (v := enc l2) rfl (enc_lt _)).trans ?_
      by_cases c3 : 0 ≤ l2 ∧ l2 < 8
      · rw [if_pos c3] at k
        refine (zr_iald h (ta_pl_f zl1) c3.1 (by have := c3.2; omega)).trans ?_
        refine (zr_pshi 8 rfl).trans ?_
        refine (zr_iload (v := enc l2) rfl (enc_lt _)).trans ?_
        refine (zr_iadd).trans ?_
        refine (zr_pshi 3 rfl).trans ?_
        refine (zr_iload (v := enc s0) rfl (enc_lt _)).trans ?_
        refine zr_invV h [enc s0, enc 3, enc (nz (8 + l2)), enc (nz (g (l1 + 3) l2)), enc (nz (g (l1 + 2) l2)), enc (nz (g (l1 + 1) l2))] rfl (tk_fl zl0) (zA_cons (enc_l _) (zA_cons (enc_l _) (zA_cons (enc_l _) (zA_cons (enc_l _) (zA_cons (enc_l _) (zA_cons (enc_l _) zA_nil)))))) (zA_nil) (by decide) ?_
        exact k
      · rw [if_neg c3] at k; cases k
    · rw [if_neg c2] at k; cases k
  · rw [if_neg c1] at k; cases k
theorem zs_8_27 (h : zOk b n f) {l0 : Nat} {l1 : Nat} {l2 : Int} {l3 : Nat} {s0 : Int} (zl0 : zI_fl l0) (zl1 : zI_pl l1) (zl2 : zR l2) (zl3 : ex_c2 l3 = false ∧ l3 < 1099511627776) (zs0 : zR s0) (k : zTh (zCl AL V ST ex_km d 11 [enc s0] (zM n (zWf b f g))) (zM n (zWf b f g)) [] (fun S M => k8_30 V ST d (zCl AL V ST ex_km d) (zRn AL V ST ex_km d kt_8) (zP [zf b l0, zf b l1, enc l2, l3]) S M) = some r) : k8_27 V ST d (zCl AL V ST ex_km d) (zRn AL V ST ex_km d kt_8) (zP [zf b l0, zf b l1, enc l2, l3]) [enc s0] (zM n (zWf b f g)) = some r := by
  unfold k8_27
  refine zr_invS [enc s0] rfl (zA_cons (enc_l _) zA_nil) (zA_nil) (by decide) ?_
  exact k
theorem zs_8_26 (h : zOk b n f) {l0 : Nat} {l1 : Nat} {l2 : Int} {l3 : Nat} (zl0 : zI_fl l0) (zl1 : zI_pl l1) (zl2 : zR l2) (zl3 : ex_c2 l3 = false ∧ l3 < 1099511627776) (k : k8_27 V ST d (zCl AL V ST ex_km d) (zRn AL V ST ex_km d kt_8) (zP [zf b l0, zf b l1, enc l2, l3]) [enc 4] (zM n (zWf b f g)) = some r) : k8_26 V ST d (zCl AL V ST ex_km d) (zRn AL V ST ex_km d kt_8) (zP [zf b l0, zf b l1, enc l2, l3]) [] (zM n (zWf b f g)) = some r := by
  unfold k8_26
  refine (zr_pshi 4 rfl).trans ?_
  exact k
theorem zs_8_2 (h : zOk b n f) {l0 : Nat} {l1 : Nat} {l2 : Int} {l3 : Nat} (zl0 : zI_fl l0) (zl1 : zI_pl l1) (zl2 : zR l2) (zl3 : ex_c2 l3 = false ∧ l3 < 1099511627776) (k : (if l2 < nz (g l1 3) then (if l2 < 8 then (if nz (Int.tmod l2 2) = 0 then zRn AL V ST ex_km d kt_8 27 (zP [zf b l0, zf b l1, enc l2, l3]) [enc 3] (zM n (zWf b f g)) else zRn AL V ST ex_km d kt_8 26 (zP [zf b l0, zf b l1, enc l2, l3]) [] (zM n (zWf b f g))) else zRn AL V ST ex_km d kt_8 65 (zP [zf b l0, zf b l1, enc l2, l3]) [] (zM n (zWf b f g))) else zRn AL V ST ex_km d kt_8 65 (zP [zf b l0, zf b l1, enc l2, l3]) [] (zM n (zWf b f g))) = some r) : k8_2 V ST d (zCl AL V ST ex_km d) (zRn AL V ST ex_km d kt_8) (zP [zf b l0, zf b l1, enc l2, l3]) [] (zM n (zWf b f g)) = some r := by
  unfold k8_2
  refine (zr_iload (v := enc l2) rfl (enc_lt _)).trans ?_
  refine (zr_aload (v := zf b l1) rfl (zf_tA h _)).trans ?_
  refine (zr_gfi h (ti_pl_count zl1)).trans ?_
  by_cases c1 : l2 < nz (g l1 3)
  · rw [if_pos c1] at k
    refine (zr_icmp_ge_n (zl2) (nz_R _) c1).trans ?_
    refine (zr_iload (v := enc l2) rfl (enc_lt _)).trans ?_
    refine (zr_pshi 8 rfl).trans ?_
    by_cases c2 : l2 < 8
    · rw [if_pos c2] at k
      refine (zr_icmp_ge_n (zl2) ((by unfold zR; omega)) c2).trans ?_
      refine (zr_iload (v := enc l2) rfl (enc_lt _)).trans ?_
      refine (zr_pshi 2 rfl).trans ?_
      refine (zr_rem (zl2) ((by unfold zR; omega)) (by decide)).trans ?_
      by_cases c3 : nz (Int.tmod l2 2) = 0
      · rw [if_pos c3] at k
        refine (zr_if_ne_n (nz_R _) c3).trans ?_
        refine (zr_pshi 3 rfl).trans ?_
        exact (zr_goto).trans k
      · rw [if_neg c3] at k
        exact (zr_if_ne_t (nz_R _) c3).trans k
    · rw [if_neg c2] at k
      exact (zr_icmp_ge_t (zl2) ((by unfold zR; omega)) (Int.not_lt.mp c2)).trans k
  · rw [if_neg c1] at k
    exact (zr_icmp_ge_t (zl2) (nz_R _) (Int.not_lt.mp c1)).trans k
theorem zs_8_0 (h : zOk b n f) {l0 : Nat} {l1 : Nat} (zl0 : zI_fl l0) (zl1 : zI_pl l1) (k : k8_2 V ST d (zCl AL V ST ex_km d) (zRn AL V ST ex_km d kt_8) (zP [zf b l0, zf b l1, enc 0, 137438953472]) [] (zM n (zWf b f g)) = some r) : k8_0 V ST d (zCl AL V ST ex_km d) (zRn AL V ST ex_km d kt_8) (zP [zf b l0, zf b l1, 137438953472, 137438953472]) [] (zM n (zWf b f g)) = some r := by
  unfold k8_0
  refine (zr_pshi 0 rfl).trans ?_
  refine (zr_istore (w := zf b l1) (vs' := [zf b l0, zf b l1, enc 0, 137438953472]) rfl (zf_c2 h _) (Nat.lt_trans (zf_l h _) (by decide)) (by decide) rfl (enc_lt _)).trans ?_
  exact k
theorem zs_9_14 (h : zOk b n f) {l0 : Nat} {l1 : Nat} {s0 : Int} {s1 : Nat} (zl0 : zI_fl l0) (zl1 : zI_pl l1) (zs0 : zR s0) (zs1 : zI_fl s1) (k : some (137438953473, (zM n (zWf b f (upd g s1 14 s0)))) = some r) : k9_14 V ST d (zCl AL V ST ex_km d) (zRn AL V ST ex_km d kt_9) (zP [zf b l0, zf b l1]) [enc s0, zf b s1] (zM n (zWf b f g)) = some r := by
  unfold k9_14
  refine (zr_pfi h (ti_fl_count zs1)).trans ?_
  exact zr_return.trans k
theorem zs_9_0 (h : zOk b n f) {l0 : Nat} {l1 : Nat} (zl0 : zI_fl l0) (zl1 : zI_pl l1) (k : zTh (zCl AL V ST ex_km d 162 [enc 0, enc (nz ((nz (g l0 14)) - (nz (g l1 3))))] (zM n (zWf b f g))) (zM n (zWf b f g)) [zf b l0] (fun S M => k9_14 V ST d (zCl AL V ST ex_km d) (zRn AL V ST ex_km d kt_9) (zP [zf b l0, zf b l1]) S M) = some r) : k9_0 V ST d (zCl AL V ST ex_km d) (zRn AL V ST ex_km d kt_9) (zP [zf b l0, zf b l1]) [] (zM n (zWf b f g)) = some r := by
  unfold k9_0
  refine (zr_aload (v := zf b l0) rfl (zf_tA h _)).trans ?_
  refine (zr_pshi 0 rfl).trans ?_
  refine (zr_aload (v := zf b l0) rfl (zf_tA h _)).trans ?_
  refine (zr_gfi h (ti_fl_count zl0)).trans ?_
  refine (zr_aload (v := zf b l1) rfl (zf_tA h _)).trans ?_
  refine (zr_gfi h (ti_pl_count zl1)).trans ?_
  refine (zr_isub).trans ?_
  refine zr_invS [enc (nz ((nz (g l0 14)) - (nz (g l1 3)))), enc 0] rfl (zA_cons (enc_l _) (zA_cons (enc_l _) zA_nil)) (zA_cons (zf_l h _) zA_nil) (by decide) ?_
  exact k
theorem zs_10_169 (h : zOk b n f) {l0 : Nat} {l1 : Nat} {l2 : Int} {l3 : Int} {l4 : Int} {l5 : Int} {l6 : Int} {l7 : Int} {l8 : Int} (zl0 : zI_fl l0) (zl1 : zI_fl l1) (zl2 : zR l2) (zl3 : zR l3) (zl4 : zR l4) (zl5 : zR l5) (zl6 : zR l6) (zl7 : zR l7) (zl8 : zR l8) (k : some (enc 1, (zM n (zWf b f g))) = some r) : k10_169 V ST d (zCl AL V ST ex_km d) (zRn AL V ST ex_km d kt_10) (zP [zf b l0, zf b l1, enc l2, enc l3, enc l4, enc l5, enc l6, enc l7, enc l8]) [] (zM n (zWf b f g)) = some r := by
  unfold k10_169
  refine (zr_pshi 1 rfl).trans ?_
  exact (zr_breturn (by decide)).trans k
theorem zs_10_150 (h : zOk b n f) {l0 : Nat} {l1 : Nat} {l2 : Int} {l3 : Int} {l4 : Int} {l5 : Int} {l6 : Int} {l7 : Int} {l8 : Int} {s0 : Int} {s1 : Int} {s2 : Nat} (zl0 : zI_fl l0) (zl1 : zI_fl l1) (zl2 : zR l2) (zl3 : zR l3) (zl4 : zR l4) (zl5 : zR l5) (zl6 : zR l6) (zl7 : zR l7) (zl8 : zR l8) (zs0 : zR s0) (zs1 : zR s1) (zs2 : zI_fl s2) (k : (if 0 ≤ l2 ∧ l2 < 16 then (if 0 ≤ l2 ∧ l2 < 16 then zTh (zCl AL V ST ex_km d 6 [zf b s2, enc s1, enc s0, enc (nz (g (l1 + 3) l2)), enc (nz (g (l1 + 4) l2)), enc l7, enc l8] (zM n (zWf b f g))) (zM n (zWf b f g)) [] (fun S M => k10_169 V ST d (zCl AL V ST ex_km d) (zRn AL V ST ex_km d kt_10) (zP [zf b l0, zf b l1, enc l2, enc l3, enc l4, enc l5, enc l6, enc l7, enc l8]) S M) else none) else none) = some r) : k10_150 V ST d (zCl AL V ST ex_km d) (zRn AL V ST ex_km d kt_10) (zP [zf b l0, zf b l1, enc l2, enc l3, enc l4, enc l5, enc l6, enc l7, enc l8]) [enc s0, enc s1, zf b s2] (zM n (zWf b f g)) = some r := by
  unfold k10_150
  refine (zr_aload (v := zf b l1) rfl (zf_tA h _)).trans ?_
  refine (zr_gfr h (tr_fl_f zl1)).trans ?_
  refine (zr_iload (v := enc l2) rfl (enc_lt _)).trans ?_
  by_cases c1 : 0 ≤ l2 ∧ l2 < 16
  · rw [if_pos c1] at k
    refine (zr_iald h (ta_fl_f zl1) c1.1 (by have := c1.2; omega)).trans ?_
    refine (zr_aload (v := zf b l1) rfl (zf_tA h _)).trans ?_
    refine (zr_gfr h (tr_fl_number zl1)).trans ?_
    refine (zr_iload (v := enc l2) rfl (enc_lt _)).trans ?_
    by_cases c2 : 0 ≤ l2 ∧ l2 < 16
    · rw [if_pos c2] at k
      refine (zr_iald h (ta_fl_number zl1) c2.1 (by have := c2.2; omega)).trans ?_
      refine (zr_iload (v := enc l7) rfl (enc_lt _)).trans ?_
      refine (zr_iload (v := enc l8) rfl (enc_lt _)).trans ?_
      refine zr_invV h [enc l8, enc l7, enc (nz (g (l1 + 4) l2)), enc (nz (g (l1 + 3) l2)), enc s0, enc s1] rfl (tk_fl zs2) (zA_cons (enc_l _) (zA_cons (enc_l _) (zA_cons (enc_l _) (zA_cons (enc_l _) (zA_cons (enc_l _) (zA_cons (enc_l _) zA_nil)))))) (zA_nil) (by decide) ?_
      exact k
    · rw [if_neg c2] at k; cases k
  · rw [if_neg c1] at k; cases k
theorem zs_10_146 (h : zOk b n f) {l0 : Nat} {l1 : Nat} {l2 : Int} {l3 : Int} {l4 : Int} {l5 : Int} {l6 : Int} {l7 : Int} {l8 : Int} {s0 : Int} {s1 : Nat} (zl0 : zI_fl l0) (zl1 : zI_fl l1) (zl2 : zR l2) (zl3 : zR l3) (zl4 : zR l4) (zl5 : zR l5) (zl6 : zR l6) (zl7 : zR l7) (zl8 : zR l8) (zs0 : zR s0) (zs1 : zI_fl s1) (k : k10_150 V ST d (zCl AL V ST ex_km d) (zRn AL V ST ex_km d kt_10) (zP [zf b l0, zf b l1, enc l2, enc l3, enc l4, enc l5, enc l6, enc l7, enc l8]) [enc (nz (Int.tdiv l6 2)), enc s0, zf b s1] (zM n (zWf b f g)) = some r) : k10_146 V ST d (zCl AL V ST ex_km d) (zRn AL V ST ex_km d kt_10) (zP [zf b l0, zf b l1, enc l2, enc l3, enc l4, enc l5, enc l6, enc l7, enc l8]) [enc s0, zf b s1] (zM n (zWf b f g)) = some r := by
  unfold k10_146
  refine (zr_iload (v := enc l6) rfl (enc_lt _)).trans ?_
  refine (zr_pshi 2 rfl).trans ?_
  refine (zr_div (zl6) ((by unfold zR; omega)) (by decide)).trans ?_
  exact k
theorem zs_10_136 (h : zOk b n f) {l0 : Nat} {l1 : Nat} {l2 : Int} {l3 : Int} {l4 : Int} {l5 : Int} {l6 : Int} {l7 : Int} {l8 : Int} {s0 : Int} {s1 : Nat} (zl0 : zI_fl l0) (zl1 : zI_fl l1) (zl2 : zR l2) (zl3 : zR l3) (zl4 : zR l4) (zl5 : zR l5) (zl6 : zR l6) (zl7 : zR l7) (zl8 : zR l8) (zs0 : zR s0) (zs1 : zI_fl s1) (k : (if l4 = 0 then zRn AL V ST ex_km d kt_10 146 (zP [zf b l0, zf b l1, enc l2, enc l3, enc l4, enc l5, enc l6, enc l7, enc l8]) [enc s0, zf b s1] (zM n (zWf b f g)) else zRn AL V ST ex_km d kt_10 150 (zP [zf b l0, zf b l1, enc l2, enc l3, enc l4, enc l5, enc l6, enc l7, enc l8]) [enc l6, enc s0, zf b s1] (zM n (zWf b f g))) = some r) : k10_136 V ST d (zCl AL V ST ex_km d) (zRn AL V ST ex_km d kt_10) (zP [zf b l0, zf b l1, enc l2, enc l3, enc l4, enc l5, enc l6, enc l7, enc l8]) [enc s0, zf b s1] (zM n (zWf b f g)) = some r := by
  unfold k10_136
  refine (zr_iload (v := enc l4) rfl (enc_lt _)).trans ?_
  by_cases c1 : l4 = 0
  · rw [if_pos c1] at k
    exact (zr_if_eq_t (zl4) c1).trans k
  · rw [if_neg c1] at k
    refine (zr_if_eq_n (zl4) c1).trans ?_
    refine (zr_iload (v := enc l6) rfl (enc_lt _)).trans ?_
    exact (zr_goto).trans k
theorem zs_10_134 (h : zOk b n f) {l0 : Nat} {l1 : Nat} {l2 : Int} {l3 : Int} {l4 : Int} {l5 : Int} {l6 : Int} {l7 : Int} {l8 : Int} {s0 : Nat} (zl0 : zI_fl l0) (zl1 : zI_fl l1) (zl2 : zR l2) (zl3 : zR l3) (zl4 : zR l4) (zl5 : zR l5) (zl6 : zR l6) (zl7 : zR l7) (zl8 : zR l8) (zs0 : zI_fl s0) (k : k10_136 V ST d (zCl AL V ST ex_km d) (zRn AL V ST ex_km d kt_10) (zP [zf b l0, zf b l1, enc l2, enc l3, enc l4, enc l5, enc l6, enc l7, enc l8]) [enc l5, zf b s0] (zM n (zWf b f g)) = some r) : k10_134 V ST d (zCl AL V ST ex_km d) (zRn AL V ST ex_km d kt_10) (zP [zf b l0, zf b l1, enc l2, enc l3, enc l4, enc l5, enc l6, enc l7, enc l8]) [zf b s0] (zM n (zWf b f g)) = some r := by
  unfold k10_134
  refine (zr_iload (v := enc l5) rfl (enc_lt _)).trans ?_
  exact k
theorem zs_10_104 (h : zOk b n f) {l0 : Nat} {l1 : Nat} {l2 : Int} {l3 : Int} {l4 : Int} {l5 : Int} {l6 : Int} {s0 : Int} (zl0 : zI_fl l0) (zl1 : zI_fl l1) (zl2 : zR l2) (zl3 : zR l3) (zl4 : zR l4) (zl5 : zR l5) (zl6 : zR l6) (zs0 : zR s0) (k : (if 0 ≤ l2 ∧ l2 < 16 then (if 0 ≤ l3 ∧ l3 < 16 then (if l4 = 0 then zRn AL V ST ex_km d kt_10 134 (zP [zf b l0, zf b l1, enc l2, enc l3, enc l4, enc l5, enc l6, enc s0, enc (zand (nz (g (l1 + 6) l2)) (nz (g (l1 + 6) l3)))]) [zf b l0] (zM n (zWf b f g)) else zRn AL V ST ex_km d kt_10 136 (zP [zf b l0, zf b l1, enc l2, enc l3, enc l4, enc l5, enc l6, enc s0, enc (zand (nz (g (l1 + 6) l2)) (nz (g (l1 + 6) l3)))]) [enc (nz (Int.tdiv l5 2)), zf b l0] (zM n (zWf b f g))) else none) else none) = some r) : k10_104 V ST d (zCl AL V ST ex_km d) (zRn AL V ST ex_km d kt_10) (zP [zf b l0, zf b l1, enc l2, enc l3, enc l4, enc l5, enc l6, 137438953472, 137438953472]) [enc s0] (zM n (zWf b f g)) = some r := by
  unfold k10_104
  refine (zr_istore (w := enc l6) (vs' := [zf b l0, zf b l1, enc l2, enc l3, enc l4, enc l5, enc l6, enc s0, 137438953472]) rfl (enc_c2 _) (Nat.lt_trans (enc_lt _) (by decide)) (by decide) rfl (enc_lt _)).trans ?_
  refine (zr_aload (v := zf b l1) rfl (zf_tA h _)).trans ?_
  refine (zr_gfr h (tr_fl_groups zl1)).trans ?_
  refine (zr_iload (v := enc l2) rfl (enc_lt _)).trans ?_
  by_cases c1 : 0 ≤ l2 ∧ l2 < 16
  · rw [if_pos c1] at k
    refine (zr_iald h (ta_fl_groups zl1) c1.1 (by have := c1.2; omega)).trans ?_
    refine (zr_aload (v := zf b l1) rfl (zf_tA h _)).trans ?_
    refine (zr_gfr h (tr_fl_groups zl1)).trans ?_
    refine (zr_iload (v := enc l3) rfl (enc_lt _)).trans ?_
    by_cases c2 : 0 ≤ l3 ∧ l3 < 16
    · rw [if_pos c2] at k
      refine (zr_iald h (ta_fl_groups zl1) c2.1 (by have := c2.2; omega)).trans ?_
      refine (zr_iand).trans ?_
      refine (zr_istore (w := enc s0) (vs' := [zf b l0, zf b l1, enc l2, enc l3, enc l4, enc l5, enc l6, enc s0, enc (zand (nz (g (l1 + 6) l2)) (nz (g (l1 + 6) l3)))]) rfl (enc_c2 _) (Nat.lt_trans (enc_lt _) (by decide)) (by decide) rfl (enc_lt _)).trans ?_
      refine (zr_aload (v := zf b l0) rfl (zf_tA h _)).trans ?_
      refine (zr_iload (v := enc l4) rfl (enc_lt _)).trans ?_
      by_cases c3 : l4 = 0
      · rw [if_pos c3] at k
        exact (zr_if_eq_t (zl4) c3).trans k
      · rw [if_neg c3] at k
        refine (zr_if_eq_n (zl4) c3).trans ?_
        refine (zr_iload (v := enc l5) rfl (enc_lt _)).trans ?_
        refine (zr_pshi 2 rfl).trans ?_
        refine (zr_div (zl5) ((by unfold zR; omega)) (by decide)).trans ?_
        exact (zr_goto).trans k
    · rw [if_neg c2] at k; cases k
  · rw [if_neg c1] at k; cases k
theorem zs_10_69 (h : zOk b n f) {l0 : Nat} {l1 : Nat} {l2 : Int} {l3 : Int} {l4 : Int} {l5 : Int} {l6 : Int} (zl0 : zI_fl l0) (zl1 : zI_fl l1) (zl2 : zR l2) (zl3 : zR l3) (zl4 : zR l4) (zl5 : zR l5) (zl6 : zR l6) (k : (if 0 ≤ nz (g l0 14) ∧ nz (g l0 14) < 16 then (if 0 ≤ nz ((upd g (l0 + 12) (nz (g l0 14)) l2) l0 14) ∧ nz ((upd g (l0 + 12) (nz (g l0 14)) l2) l0 14) < 16 then (if 0 ≤ l2 ∧ l2 < 16 then (if 0 ≤ l3 ∧ l3 < 16 then zTh (zCl AL V ST ex_km d 163 [enc (nz ((upd (upd g (l0 + 12) (nz (g l0 14)) l2) (l0 + 13) (nz ((upd g (l0 + 12) (nz (g l0 14)) l2) l0 14)) l3) (l1 + 5) l2)), enc (nz ((upd (upd g (l0 + 12) (nz (g l0 14)) l2) (l0 + 13) (nz ((upd g (l0 + 12) (nz (g l0 14)) l2) l0 14)) l3) (l1 + 5) l3))] (zM n (zWf b f (upd (upd g (l0 + 12) (nz (g l0 14)) l2) (l0 + 13) (nz ((upd g (l0 + 12) (nz (g l0 14)) l2) l0 14)) l3)))) (zM n (zWf b f (upd (upd g (l0 + 12) (nz (g l0 14)) l2) (l0 + 13) (nz ((upd g (l0 + 12) (nz (g l0 14)) l2) l0 14)) l3))) [] (fun S M => k10_104 V ST d (zCl AL V ST ex_km d) (zRn AL V ST ex_km d kt_10) (zP [zf b l0, zf b l1, enc l2, enc l3, enc l4, enc l5, enc l6, 137438953472, 137438953472]) S M) else none) else none) else none) else none) = some r) : k10_69 V ST d (zCl AL V ST ex_km d) (zRn AL V ST ex_km d kt_10) (zP [zf b l0, zf b l1, enc l2, enc l3, enc l4, enc l5, enc l6, 137438953472, 137438953472]) [] (zM n (zWf b f g)) = some r := by
  unfold k10_69
  refine (zr_aload (v := zf b l0) rfl (zf_tA h _)).trans ?_
  refine (zr_gfr h (tr_fl_lead zl0)).trans ?_
  refine (zr_aload (v := zf b l0) rfl (zf_tA h _)).trans ?_
  refine (zr_gfi h (ti_fl_count zl0)).trans ?_
  refine (zr_iload (v := enc l2) rfl (enc_lt _)).trans ?_
  by_cases c1 : 0 ≤ nz (g l0 14) ∧ nz (g l0 14) < 16
  · rw [if_pos c1] at k
    refine (zr_iast h (ta_fl_lead zl0) c1.1 (by have := c1.2; omega)).trans ?_
    refine (zr_aload (v := zf b l0) rfl (zf_tA h _)).trans ?_
    refine (zr_gfr h (tr_fl_trail zl0)).trans ?_
    refine (zr_aload (v := zf b l0) rfl (zf_tA h _)).trans ?_
    refine (zr_gfi h (ti_fl_count zl0)).trans ?_
    refine (zr_iload (v := enc l3) rfl (enc_lt _)).trans ?_
    by_cases c2 : 0 ≤ nz ((upd g (l0 + 12) (nz (g l0 14)) l2) l0 14) ∧ nz ((upd g (l0 + 12) (nz (g l0 14)) l2) l0 14) < 16
    · rw [if_pos c2] at k
      refine (zr_iast h (ta_fl_trail zl0) c2.1 (by have := c2.2; omega)).trans ?_
      refine (zr_aload (v := zf b l1) rfl (zf_tA h _)).trans ?_
      refine (zr_gfr h (tr_fl_ability zl1)).trans ?_
      refine (zr_iload (v := enc l2) rfl (enc_lt _)).trans ?_
      by_cases c3 : 0 ≤ l2 ∧ l2 < 16
      · rw [if_pos c3] at k
        refine (zr_iald h (ta_fl_ability zl1) c3.1 (by have := c3.2; omega)).trans ?_
        refine (zr_aload (v := zf b l1) rfl (zf_tA h _)).trans ?_
        refine (zr_gfr h (tr_fl_ability zl1)).trans ?_
        refine (zr_iload (v := enc l3) rfl (enc_lt _)).trans ?_
        by_cases c4 : 0 ≤ l3 ∧ l3 < 16
        · rw [if_pos c4] at k
          refine (zr_iald h (ta_fl_ability zl1) c4.1 (by have := c4.2; omega)).trans ?_
          refine zr_invS [enc (nz ((upd (upd g (l0 + 12) (nz (g l0 14)) l2) (l0 + 13) (nz ((upd g (l0 + 12) (nz (g l0 14)) l2) l0 14)) l3) (l1 + 5) l3)), enc (nz ((upd (upd g (l0 + 12) (nz (g l0 14)) l2) (l0 + 13) (nz ((upd g (l0 + 12) (nz (g l0 14)) l2) l0 14)) l3) (l1 + 5) l2))] rfl (zA_cons (enc_l _) (zA_cons (enc_l _) zA_nil)) (zA_nil) (by decide) ?_
          exact k
        · rw [if_neg c4] at k; cases k
      · rw [if_neg c3] at k; cases k
    · rw [if_neg c2] at k; cases k
  · rw [if_neg c1] at k; cases k
theorem zs_10_67 (h : zOk b n f) {l0 : Nat} {l1 : Nat} {l2 : Int} {l3 : Int} {l4 : Int} {l5 : Int} {l6 : Int} (zl0 : zI_fl l0) (zl1 : zI_fl l1) (zl2 : zR l2) (zl3 : zR l3) (zl4 : zR l4) (zl5 : zR l5) (zl6 : zR l6) (k : some (enc 0, (zM n (zWf b f g))) = some r) : k10_67 V ST d (zCl AL V ST ex_km d) (zRn AL V ST ex_km d kt_10) (zP [zf b l0, zf b l1, enc l2, enc l3, enc l4, enc l5, enc l6, 137438953472, 137438953472]) [] (zM n (zWf b f g)) = some r := by
  unfold k10_67
  refine (zr_pshi 0 rfl).trans ?_
  exact (zr_breturn (by decide)).trans k
theorem zs_10_62 (h : zOk b n f) {l0 : Nat} {l1 : Nat} {l2 : Int} {l3 : Int} {l4 : Int} {l5 : Int} {l6 : Int} {s0 : Int} (zl0 : zI_fl l0) (zl1 : zI_fl l1) (zl2 : zR l2) (zl3 : zR l3) (zl4 : zR l4) (zl5 : zR l5) (zl6 : zR l6) (zs0 : zR s0) (k : (if nz (Int.tmod s0 2) = 0 then zRn AL V ST ex_km d kt_10 69 (zP [zf b l0, zf b l1, enc l2, enc l3, enc l4, enc l5, enc l6, 137438953472, 137438953472]) [] (zM n (zWf b f g)) else k10_67 V ST d (zCl AL V ST ex_km d) (zRn AL V ST ex_km d kt_10) (zP [zf b l0, zf b l1, enc l2, enc l3, enc l4, enc l5, enc l6, 137438953472, 137438953472]) [] (zM n (zWf b f g))) = some r) : k10_62 V ST d (zCl AL V ST ex_km d) (zRn AL V ST ex_km d kt_10) (zP [zf b l0, zf b l1, enc l2, enc l3, enc l4, enc l5, enc l6, 137438953472, 137438953472]) [enc s0] (zM n (zWf b f g)) = some r := by
  unfold k10_62
  refine (zr_pshi 2 rfl).trans ?_
  refine (zr_rem (zs0) ((by unfold zR; omega)) (by decide)).trans ?_
  by_cases c1 : nz (Int.tmod s0 2) = 0
  · rw [if_pos c1] at k
    exact (zr_if_eq_t (nz_R _) c1).trans k
  · rw [if_neg c1] at k
    refine (zr_if_eq_n (nz_R _) c1).trans ?_
    exact k
theorem zs_10_60 (h : zOk b n f) {l0 : Nat} {l1 : Nat} {l2 : Int} {l3 : Int} {l4 : Int} {l5 : Int} {l6 : Int} (zl0 : zI_fl l0) (zl1 : zI_fl l1) (zl2 : zR l2) (zl3 : zR l3) (zl4 : zR l4) (zl5 : zR l5) (zl6 : zR l6) (k : k10_62 V ST d (zCl AL V ST ex_km d) (zRn AL V ST ex_km d kt_10) (zP [zf b l0, zf b l1, enc l2, enc l3, enc l4, enc l5, enc l6, 137438953472, 137438953472]) [enc l6] (zM n (zWf b f g)) = some r) : k10_60 V ST d (zCl AL V ST ex_km d) (zRn AL V ST ex_km d kt_10) (zP [zf b l0, zf b l1, enc l2, enc l3, enc l4, enc l5, enc l6, 137438953472, 137438953472]) [] (zM n (zWf b f g)) = some r := by
  unfold k10_60
  refine (zr_iload (v := enc l6) rfl (enc_lt _)).trans ?_
  exact k
theorem zs_10_0 (h : zOk b n f) {l0 : Nat} {l1 : Nat} {l2 : Int} {l3 : Int} {l4 : Int} (zl0 : zI_fl l0) (zl1 : zI_fl l1) (zl2 : zR l2) (zl3 : zR l3) (zl4 : zR l4) (k : (if 0 ≤ l2 ∧ l2 < 16 then (if 0 ≤ l3 ∧ l3 < 16 then (if 0 ≤ l2 ∧ l2 < 16 then (if 0 ≤ l3 ∧ l3 < 16 then (if nz (g l0 14) < 0 then zRn AL V ST ex_km d kt_10 67 (zP [zf b l0, zf b l1, enc l2, enc l3, enc l4, enc (nz (Int.tdiv (nz ((nz (g (l1 + 1) l2)) + (nz (g (l1 + 1) l3)))) 2)), enc (nz (Int.tdiv (nz ((nz (g (l1 + 2) l2)) + (nz (g (l1 + 2) l3)))) 2)), 137438953472, 137438953472]) [] (zM n (zWf b f g)) else (if nz (g l0 14) < 16 then (if l4 = 0 then zRn AL V ST ex_km d kt_10 60 (zP [zf b l0, zf b l1, enc l2, enc l3, enc l4, enc (nz (Int.tdiv (nz ((nz (g (l1 + 1) l2)) + (nz (g (l1 + 1) l3)))) 2)), enc (nz (Int.tdiv (nz ((nz (g (l1 + 2) l2)) + (nz (g (l1 + 2) l3)))) 2)), 137438953472, 137438953472]) [] (zM n (zWf b f g)) else zRn AL V ST ex_km d kt_10 62 (zP [zf b l0, zf b l1, enc l2, enc l3, enc l4, enc (nz (Int.tdiv (nz ((nz (g (l1 + 1) l2)) + (nz (g (l1 + 1) l3)))) 2)), enc (nz (Int.tdiv (nz ((nz (g (l1 + 2) l2)) + (nz (g (l1 + 2) l3)))) 2)), 137438953472, 137438953472]) [enc (nz (Int.tdiv (nz ((nz (g (l1 + 1) l2)) + (nz (g (l1 + 1) l3)))) 2))] (zM n (zWf b f g))) else zRn AL V ST ex_km d kt_10 67 (zP [zf b l0, zf b l1, enc l2, enc l3, enc l4, enc (nz (Int.tdiv (nz ((nz (g (l1 + 1) l2)) + (nz (g (l1 + 1) l3)))) 2)), enc (nz (Int.tdiv (nz ((nz (g (l1 + 2) l2)) + (nz (g (l1 + 2) l3)))) 2)), 137438953472, 137438953472]) [] (zM n (zWf b f g)))) else none) else none) else none) else none) = some r) : k10_0 V ST d (zCl AL V ST ex_km d) (zRn AL V ST ex_km d kt_10) (zP [zf b l0, zf b l1, enc l2, enc l3, enc l4, 137438953472, 137438953472, 137438953472, 137438953472]) [] (zM n (zWf b f g)) = some r := by
  unfold k10_0
  refine (zr_aload (v := zf b l1) rfl (zf_tA h _)).trans ?_
  refine (zr_gfr h (tr_fl_x zl1)).trans ?_
  refine (zr_iload (v := enc l2) rfl (enc_lt _)).trans ?_
  by_cases c1 : 0 ≤ l2 ∧ l2 < 16
  · rw [if_pos c1] at k
    refine (zr_iald h (ta_fl_x zl1) c1.1 (by have := c1.2; omega)).trans ?_
    refine (zr_aload (v := zf b l1) rfl (zf_tA h _)).trans ?_
    refine (zr_gfr h (tr_fl_x zl1)).trans ?_
    refine (zr_iload (v := enc l3) rfl (enc_lt _)).trans ?_
    by_cases c2 : 0 ≤ l3 ∧ l3 < 16
    · rw [if_pos c2] at k
      refine (zr_iald h (ta_fl_x zl1) c2.1 (by have := c2.2; omega)).trans ?_
      refine (zr_iadd).trans ?_
      refine (zr_pshi 2 rfl).trans ?_
      refine (zr_div (nz_R _) ((by unfold zR; omega)) (by decide)).trans ?_
      refine (zr_istore (w := enc l4) (vs' := [zf b l0, zf b l1, enc l2, enc l3, enc l4, enc (nz (Int.tdiv (nz ((nz (g (l1 + 1) l2)) + (nz (g (l1 + 1) l3)))) 2)), 137438953472, 137438953472, 137438953472]) rfl (enc_c2 _) (Nat.lt_trans (enc_lt _) (by decide)) (by decide) rfl (enc_lt _)).trans ?_
      refine (zr_aload (v := zf b l1) rfl (zf_tA h _)).trans ?_
      refine (zr_gfr h (tr_fl_y zl1)).trans ?_
      refine (zr_iload (v := enc l2) rfl (enc_lt _)).trans ?_
      by_cases c3 : 0 ≤ l2 ∧ l2 < 16
      · rw [if_pos c3] at k
        refine (zr_iald h (ta_fl_y zl1) c3.1 (by have := c3.2; omega)).trans ?_
        refine (zr_aload (v := zf b l1) rfl (zf_tA h _)).trans ?_
        refine (zr_gfr h (tr_fl_y zl1)).trans ?_
        refine (zr_iload (v := enc l3) rfl (enc_lt _)).trans ?_
        by_cases c4 : 0 ≤ l3 ∧ l3 < 16
        · rw [if_pos c4] at k
          refine (zr_iald h (ta_fl_y zl1) c4.1 (by have := c4.2; omega)).trans ?_
          refine (zr_iadd).trans ?_
          refine (zr_pshi 2 rfl).trans ?_
          refine (zr_div (nz_R _) ((by unfold zR; omega)) (by decide)).trans ?_
          refine (zr_istore (w := enc (nz (Int.tdiv (nz ((nz (g (l1 + 1) l2)) + (nz (g (l1 + 1) l3)))) 2))) (vs' := [zf b l0, zf b l1, enc l2, enc l3, enc l4, enc (nz (Int.tdiv (nz ((nz (g (l1 + 1) l2)) + (nz (g (l1 + 1) l3)))) 2)), enc (nz (Int.tdiv (nz ((nz (g (l1 + 2) l2)) + (nz (g (l1 + 2) l3)))) 2)), 137438953472, 137438953472]) rfl (enc_c2 _) (Nat.lt_trans (enc_lt _) (by decide)) (by decide) rfl (enc_lt _)).trans ?_
          refine (zr_aload (v := zf b l0) rfl (zf_tA h _)).trans ?_
          refine (zr_gfi h (ti_fl_count zl0)).trans ?_
          by_cases c5 : nz (g l0 14) < 0
          · rw [if_pos c5] at k
            exact (zr_if_lt_t (nz_R _) c5).trans k
          · rw [if_neg c5] at k
            refine (zr_if_lt_n (nz_R _) (Int.not_lt.mp c5)).trans ?_
            refine (zr_aload (v := zf b l0) rfl (zf_tA h _)).trans ?_
            refine (zr_gfi h (ti_fl_count zl0)).trans ?_
            refine (zr_pshi 16 rfl).trans ?_
            by_cases c6 : nz (g l0 14) < 16
            · rw [if_pos c6] at k
              refine (zr_icmp_ge_n (nz_R _) ((by unfold zR; omega)) c6).trans ?_
              refine (zr_iload (v := enc l4) rfl (enc_lt _)).trans ?_
              by_cases c7 : l4 = 0
              · rw [if_pos c7] at k
                exact (zr_if_eq_t (zl4) c7).trans k
              · rw [if_neg c7] at k
                refine (zr_if_eq_n (zl4) c7).trans ?_
                refine (zr_iload (v := enc (nz (Int.tdiv (nz ((nz (g (l1 + 1) l2)) + (nz (g (l1 + 1) l3)))) 2))) rfl (enc_lt _)).trans ?_
                exact (zr_goto).trans k
            · rw [if_neg c6] at k
              exact (zr_icmp_ge_t (nz_R _) ((by unfold zR; omega)) (Int.not_lt.mp c6)).trans k
        · rw [if_neg c4] at k; cases k
      · rw [if_neg c3] at k; cases k
    · rw [if_neg c2] at k; cases k
  · rw [if_neg c1] at k; cases k
theorem zs_11_0 (h : zOk b n f) {l0 : Int} (zl0 : zR l0) (k : (if 0 ≤ l0 ∧ l0 < 32 then some (enc (zshl 1 l0), (zM n (zWf b f g))) else none) = some r) : k11_0 V ST d (zCl AL V ST ex_km d) (zRn AL V ST ex_km d kt_11) (zP [enc l0]) [] (zM n (zWf b f g)) = some r := by
  unfold k11_0
  refine (zr_pshi 1 rfl).trans ?_
  refine (zr_iload (v := enc l0) rfl (enc_lt _)).trans ?_
  by_cases c1 : 0 ≤ l0 ∧ l0 < 32
  · rw [if_pos c1] at k
    refine (zr_ishl c1).trans ?_
    exact zr_ireturn.trans k
  · rw [if_neg c1] at k; cases k
theorem zs_12_54 (h : zOk b n f) {l0 : Nat} {l1 : Int} {l2 : Int} {l3 : Int} {l4 : Int} {s0 : Int} (zl0 : zI_fl l0) (zl1 : zR l1) (zl2 : zR l2) (zl3 : zR l3) (zl4 : zR l4) (zs0 : zR s0) (k : (if s0 = 0 ∨ s0 = 1 then some (enc s0, (zM n (zWf b f g))) else none) = some r) : k12_54 V ST d (zCl AL V ST ex_km d) (zRn AL V ST ex_km d kt_12) (zP [zf b l0, enc l1, enc l2, enc l3, enc l4]) [enc s0] (zM n (zWf b f g)) = some r := by
  unfold k12_54
  by_cases c1 : s0 = 0 ∨ s0 = 1
  · rw [if_pos c1] at k
    exact (zr_breturn c1).trans k
  · rw [if_neg c1] at k; cases k
theorem zs_12_53 (h : zOk b n f) {l0 : Nat} {l1 : Int} {l2 : Int} {l3 : Int} {l4 : Int} (zl0 : zI_fl l0) (zl1 : zR l1) (zl2 : zR l2) (zl3 : zR l3) (zl4 : zR l4) (k : k12_54 V ST d (zCl AL V ST ex_km d) (zRn AL V ST ex_km d kt_12) (zP [zf b l0, enc l1, enc l2, enc l3, enc l4]) [enc 0] (zM n (zWf b f g)) = some r) : k12_53 V ST d (zCl AL V ST ex_km d) (zRn AL V ST ex_km d kt_12) (zP [zf b l0, enc l1, enc l2, enc l3, enc l4]) [] (zM n (zWf b f g)) = some r := by
  unfold k12_53
  refine (zr_pshi 0 rfl).trans ?_
  exact k
theorem zs_12_0 (h : zOk b n f) (hST : ∀ s, 1 ≤ s → s < 169 → ST s = ex_st s) {l0 : Nat} {l1 : Int} {l2 : Int} {l3 : Int} (zl0 : zI_fl l0) (zl1 : zR l1) (zl2 : zR l2) (zl3 : zR l3) (k : (if 0 ≤ l1 ∧ l1 < 16 then (if 0 ≤ l2 ∧ l2 < 16 then (if 0 ≤ zand l3 3 ∧ zand l3 3 < 4 then (if 0 ≤ l1 ∧ l1 < 16 then (if 0 ≤ l2 ∧ l2 < 16 then (if 0 ≤ zand l3 3 ∧ zand l3 3 < 4 then (if 0 < nz ((nz ((nz ((nz (g (l0 + 1) l1)) - (nz (g (l0 + 1) l2)))) * (sa_STEP_X (zand l3 3)))) + (nz ((nz ((nz (g (l0 + 2) l1)) - (nz (g (l0 + 2) l2)))) * (sa_STEP_Y (zand l3 3))))) then zRn AL V ST ex_km d kt_12 54 (zP [zf b l0, enc l1, enc l2, enc l3, enc (zand l3 3)]) [enc 1] (zM n (zWf b f g)) else zRn AL V ST ex_km d kt_12 53 (zP [zf b l0, enc l1, enc l2, enc l3, enc (zand l3 3)]) [] (zM n (zWf b f g))) else none) else none) else none) else none) else none) else none) = some r) : k12_0 V ST d (zCl AL V ST ex_km d) (zRn AL V ST ex_km d kt_12) (zP [zf b l0, enc l1, enc l2, enc l3, 137438953472]) [] (zM n (zWf b f g)) = some r := by
  unfold k12_0
  refine (zr_iload (v := enc l3) rfl (enc_lt _)).trans ?_
  refine (zr_pshi 3 rfl).trans ?_
  refine (zr_iand).trans ?_
  refine (zr_istore (w := enc l3) (vs' := [zf b l0, enc l1, enc l2, enc l3, enc (zand l3 3)]) rfl (enc_c2 _) (Nat.lt_trans (enc_lt _) (by decide)) (by decide) rfl (enc_lt _)).trans ?_
  refine (zr_aload (v := zf b l0) rfl (zf_tA h _)).trans ?_
  refine (zr_gfr h (tr_fl_x zl0)).trans ?_
  refine (zr_iload (v := enc l1) rfl (enc_lt _)).trans ?_
  by_cases c1 : 0 ≤ l1 ∧ l1 < 16
  · rw [if_pos c1] at k
    refine (zr_iald h (ta_fl_x zl0) c1.1 (by have := c1.2; omega)).trans ?_
    refine (zr_aload (v := zf b l0) rfl (zf_tA h _)).trans ?_
    refine (zr_gfr h (tr_fl_x zl0)).trans ?_
    refine (zr_iload (v := enc l2) rfl (enc_lt _)).trans ?_
    by_cases c2 : 0 ≤ l2 ∧ l2 < 16
    · rw [if_pos c2] at k
      refine (zr_iald h (ta_fl_x zl0) c2.1 (by have := c2.2; omega)).trans ?_
      refine (zr_isub).trans ?_
      refine (zr_psh).trans ?_
      refine (zr_iload (v := enc (zand l3 3)) rfl (enc_lt _)).trans ?_
      by_cases c3 : 0 ≤ zand l3 3 ∧ zand l3 3 < 4
      · rw [if_pos c3] at k
        refine (zr_iaS (s := 9) (m := 4) ((hST 9 (by decide) (by decide)).symm ▸ (by decide +kernel : ex_get (ex_st 9) 0 = 64 + 256 * 4)) (by decide) c3.1 (by have := c3.2; omega) (by rw [hST 9 (by decide) (by decide)]; exact sa_STEP_X_E c3.1 c3.2) (by decide)).trans ?_
        refine (zr_imul).trans ?_
        refine (zr_aload (v := zf b l0) rfl (zf_tA h _)).trans ?_
        refine (zr_gfr h (tr_fl_y zl0)).trans ?_
        refine (zr_iload (v := enc l1) rfl (enc_lt _)).trans ?_
        by_cases c4 : 0 ≤ l1 ∧ l1 < 16
        · rw [if_pos c4] at k
          refine (zr_iald h (ta_fl_y zl0) c4.1 (by have := c4.2; omega)).trans ?_
          refine (zr_aload (v := zf b l0) rfl (zf_tA h _)).trans ?_
          refine (zr_gfr h (tr_fl_y zl0)).trans ?_
          refine (zr_iload (v := enc l2) rfl (enc_lt _)).trans ?_
          by_cases c5 : 0 ≤ l2 ∧ l2 < 16
          · rw [if_pos c5] at k
            refine (zr_iald h (ta_fl_y zl0) c5.1 (by have := c5.2; omega)).trans ?_
            refine (zr_isub).trans ?_
            refine (zr_psh).trans ?_
            refine (zr_iload (v := enc (zand l3 3)) rfl (enc_lt _)).trans ?_
            by_cases c6 : 0 ≤ zand l3 3 ∧ zand l3 3 < 4
            · rw [if_pos c6] at k
              refine (zr_iaS (s := 10) (m := 4) ((hST 10 (by decide) (by decide)).symm ▸ (by decide +kernel : ex_get (ex_st 10) 0 = 64 + 256 * 4)) (by decide) c6.1 (by have := c6.2; omega) (by rw [hST 10 (by decide) (by decide)]; exact sa_STEP_Y_E c6.1 c6.2) (by decide)).trans ?_
              refine (zr_imul).trans ?_
              refine (zr_iadd).trans ?_
              by_cases c7 : 0 < nz ((nz ((nz ((nz (g (l0 + 1) l1)) - (nz (g (l0 + 1) l2)))) * (sa_STEP_X (zand l3 3)))) + (nz ((nz ((nz (g (l0 + 2) l1)) - (nz (g (l0 + 2) l2)))) * (sa_STEP_Y (zand l3 3)))))
              · rw [if_pos c7] at k
                refine (zr_if_le_n (nz_R _) c7).trans ?_
                refine (zr_pshi 1 rfl).trans ?_
                exact (zr_goto).trans k
              · rw [if_neg c7] at k
                exact (zr_if_le_t (nz_R _) (Int.not_lt.mp c7)).trans k
            · rw [if_neg c6] at k; cases k
          · rw [if_neg c5] at k; cases k
        · rw [if_neg c4] at k; cases k
      · rw [if_neg c3] at k; cases k
    · rw [if_neg c2] at k; cases k
  · rw [if_neg c1] at k; cases k
theorem zs_13_40 (h : zOk b n f) {l0 : Nat} {l1 : Int} (zl0 : zI_fl l0) (zl1 : zR l1) (k : some (137438953473, (zM n (zWf b f g))) = some r) : k13_40 V ST d (zCl AL V ST ex_km d) (zRn AL V ST ex_km d kt_13) (zP [zf b l0, enc l1]) [] (zM n (zWf b f g)) = some r := by
  unfold k13_40
  exact zr_return.trans k
theorem zs_13_2 (h : zOk b n f) {l0 : Nat} {l1 : Int} (zl0 : zI_fl l0) (zl1 : zR l1) (k : (if l1 < nz (g l0 14) then (if 0 ≤ l1 ∧ l1 < 16 then (if 0 ≤ l1 ∧ l1 < 16 then (if 0 ≤ l1 ∧ l1 < 16 then (if 0 ≤ l1 ∧ l1 < 16 then zRn AL V ST ex_km d kt_13 2 (zP [zf b l0, enc (nz (l1 + 1))]) [] (zM n (zWf b f (upd (upd g (l0 + 7) l1 (nz (g (l0 + 1) l1))) (l0 + 8) l1 (nz ((upd g (l0 + 7) l1 (nz (g (l0 + 1) l1))) (l0 + 2) l1))))) else none) else none) else none) else none) else zRn AL V ST ex_km d kt_13 40 (zP [zf b l0, enc l1]) [] (zM n (zWf b f g))) = some r) : k13_2 V ST d (zCl AL V ST ex_km d) (zRn AL V ST ex_km d kt_13) (zP [zf b l0, enc l1]) [] (zM n (zWf b f g)) = some r := by
  unfold k13_2
  refine (zr_iload (v := enc l1) rfl (enc_lt _)).trans ?_
  refine (zr_aload (v := zf b l0) rfl (zf_tA h _)).trans ?_
  refine (zr_gfi h (ti_fl_count zl0)).trans ?_
  by_cases c1 : l1 < nz (g l0 14)
  · rw [if_pos c1] at k
    refine (zr_icmp_ge_n (zl1) (nz_R _) c1).trans ?_
    refine (zr_aload (v := zf b l0) rfl (zf_tA h _)).trans ?_
    refine (zr_gfr h (tr_fl_wasX zl0)).trans ?_
    refine (zr_iload (v := enc l1) rfl (enc_lt _)).trans ?_
    refine (zr_aload (v := zf b l0) rfl (zf_tA h _)).trans ?_
    refine (zr_gfr h (tr_fl_x zl0)).trans ?_
    refine (zr_iload (v := enc l1) rfl (enc_lt _)).trans ?_
    by_cases c2 : 0 ≤ l1 ∧ l1 < 16
    · rw [if_pos c2] at k
      refine (zr_iald h (ta_fl_x zl0) c2.1 (by have := c2.2; omega)).trans ?_
      by_cases c3 : 0 ≤ l1 ∧ l1 < 16
      · rw [if_pos c3] at k
        refine (zr_iast h (ta_fl_wasX zl0) c3.1 (by have := c3.2; omega)).trans ?_
        refine (zr_aload (v := zf b l0) rfl (zf_tA h _)).trans ?_
        refine (zr_gfr h (tr_fl_wasY zl0)).trans ?_
        refine (zr_iload (v := enc l1) rfl (enc_lt _)).trans ?_
        refine (zr_aload (v := zf b l0) rfl (zf_tA h _)).trans ?_
        refine (zr_gfr h (tr_fl_y zl0)).trans ?_
        refine (zr_iload (v := enc l1) rfl (enc_lt _)).trans ?_
        by_cases c4 : 0 ≤ l1 ∧ l1 < 16
        · rw [if_pos c4] at k
          refine (zr_iald h (ta_fl_y zl0) c4.1 (by have := c4.2; omega)).trans ?_
          by_cases c5 : 0 ≤ l1 ∧ l1 < 16
          · rw [if_pos c5] at k
            refine (zr_iast h (ta_fl_wasY zl0) c5.1 (by have := c5.2; omega)).trans ?_
            refine (zr_iinc (w := zf b l0) (x := l1) (i' := 1) (vs' := [zf b l0, enc (nz (l1 + 1))]) rfl (zf_c2 h _) (Nat.lt_trans (zf_l h _) (by decide)) rfl rfl (by decide) rfl).trans ?_
            exact (zr_goto).trans k
          · rw [if_neg c5] at k; cases k
        · rw [if_neg c4] at k; cases k
      · rw [if_neg c3] at k; cases k
    · rw [if_neg c2] at k; cases k
  · rw [if_neg c1] at k
    exact (zr_icmp_ge_t (zl1) (nz_R _) (Int.not_lt.mp c1)).trans k
theorem zs_13_0 (h : zOk b n f) {l0 : Nat} (zl0 : zI_fl l0) (k : k13_2 V ST d (zCl AL V ST ex_km d) (zRn AL V ST ex_km d kt_13) (zP [zf b l0, enc 0]) [] (zM n (zWf b f g)) = some r) : k13_0 V ST d (zCl AL V ST ex_km d) (zRn AL V ST ex_km d kt_13) (zP [zf b l0, 137438953472]) [] (zM n (zWf b f g)) = some r := by
  unfold k13_0
  refine (zr_pshi 0 rfl).trans ?_
  refine (zr_istore (w := zf b l0) (vs' := [zf b l0, enc 0]) rfl (zf_c2 h _) (Nat.lt_trans (zf_l h _) (by decide)) (by decide) rfl (enc_lt _)).trans ?_
  exact k
theorem zs_14_0 (h : zOk b n f) (hST : ∀ s, 1 ≤ s → s < 169 → ST s = ex_st s) {l0 : Nat} {l1 : Int} {l2 : Int} {l3 : Int} (zl0 : zI_fl l0) (zl1 : zR l1) (zl2 : zR l2) (zl3 : zR l3) (k : (if 0 ≤ l1 ∧ l1 < 16 then (if 0 ≤ zand l2 3 ∧ zand l2 3 < 4 then (if 0 ≤ l1 ∧ l1 < 16 then (if 0 ≤ l1 ∧ l1 < 16 then (if 0 ≤ zand l2 3 ∧ zand l2 3 < 4 then (if 0 ≤ l1 ∧ l1 < 16 then some (137438953473, (zM n (zWf b f (upd (upd g (l0 + 1) l1 (nz ((nz (g (l0 + 1) l1)) + (nz (l3 * (sa_STEP_X (zand l2 3))))))) (l0 + 2) l1 (nz ((nz ((upd g (l0 + 1) l1 (nz ((nz (g (l0 + 1) l1)) + (nz (l3 * (sa_STEP_X (zand l2 3))))))) (l0 + 2) l1)) + (nz (l3 * (sa_STEP_Y (zand l2 3)))))))))) else none) else none) else none) else none) else none) else none) = some r) : k14_0 V ST d (zCl AL V ST ex_km d) (zRn AL V ST ex_km d kt_14) (zP [zf b l0, enc l1, enc l2, enc l3, 137438953472]) [] (zM n (zWf b f g)) = some r := by
  unfold k14_0
  refine (zr_iload (v := enc l2) rfl (enc_lt _)).trans ?_
  refine (zr_pshi 3 rfl).trans ?_
  refine (zr_iand).trans ?_
  refine (zr_istore (w := enc l3) (vs' := [zf b l0, enc l1, enc l2, enc l3, enc (zand l2 3)]) rfl (enc_c2 _) (Nat.lt_trans (enc_lt _) (by decide)) (by decide) rfl (enc_lt _)).trans ?_
  refine (zr_aload (v := zf b l0) rfl (zf_tA h _)).trans ?_
  refine (zr_gfr h (tr_fl_x zl0)).trans ?_
  refine (zr_iload (v := enc l1) rfl (enc_lt _)).trans ?_
  refine (zr_dup2 (enc_c2 _) (zf_c2 h _)).trans ?_
  by_cases c1 : 0 ≤ l1 ∧ l1 < 16
  · rw [if_pos c1] at k
    refine (zr_iald h (ta_fl_x zl0) c1.1 (by have := c1.2; omega)).trans ?_
    refine (zr_iload (v := enc l3) rfl (enc_lt _)).trans ?_
    refine (zr_psh).trans ?_
    refine (zr_iload (v := enc (zand l2 3)) rfl (enc_lt _)).trans ?_
    by_cases c2 : 0 ≤ zand l2 3 ∧ zand l2 3 < 4
    · rw [if_pos c2] at k
      refine (zr_iaS (s := 9) (m := 4) ((hST 9 (by decide) (by decide)).symm ▸ (by decide +kernel : ex_get (ex_st 9) 0 = 64 + 256 * 4)) (by decide) c2.1 (by have := c2.2; omega) (by rw [hST 9 (by decide) (by decide)]; exact sa_STEP_X_E c2.1 c2.2) (by decide)).trans ?_
      refine (zr_imul).trans ?_
      refine (zr_iadd).trans ?_
      by_cases c3 : 0 ≤ l1 ∧ l1 < 16
      · rw [if_pos c3] at k
        refine (zr_iast h (ta_fl_x zl0) c3.1 (by have := c3.2; omega)).trans ?_
        refine (zr_aload (v := zf b l0) rfl (zf_tA h _)).trans ?_
        refine (zr_gfr h (tr_fl_y zl0)).trans ?_
        refine (zr_iload (v := enc l1) rfl (enc_lt _)).trans ?_
        refine (zr_dup2 (enc_c2 _) (zf_c2 h _)).trans ?_
        by_cases c4 : 0 ≤ l1 ∧ l1 < 16
        · rw [if_pos c4] at k
          refine (zr_iald h (ta_fl_y zl0) c4.1 (by have := c4.2; omega)).trans ?_
          refine (zr_iload (v := enc l3) rfl (enc_lt _)).trans ?_
          refine (zr_psh).trans ?_
          refine (zr_iload (v := enc (zand l2 3)) rfl (enc_lt _)).trans ?_
          by_cases c5 : 0 ≤ zand l2 3 ∧ zand l2 3 < 4
          · rw [if_pos c5] at k
            refine (zr_iaS (s := 10) (m := 4) ((hST 10 (by decide) (by decide)).symm ▸ (by decide +kernel : ex_get (ex_st 10) 0 = 64 + 256 * 4)) (by decide) c5.1 (by have := c5.2; omega) (by rw [hST 10 (by decide) (by decide)]; exact sa_STEP_Y_E c5.1 c5.2) (by decide)).trans ?_
            refine (zr_imul).trans ?_
            refine (zr_iadd).trans ?_
            by_cases c6 : 0 ≤ l1 ∧ l1 < 16
            · rw [if_pos c6] at k
              refine (zr_iast h (ta_fl_y zl0) c6.1 (by have := c6.2; omega)).trans ?_
              exact zr_return.trans k
            · rw [if_neg c6] at k; cases k
          · rw [if_neg c5] at k; cases k
        · rw [if_neg c4] at k; cases k
      · rw [if_neg c3] at k; cases k
    · rw [if_neg c2] at k; cases k
  · rw [if_neg c1] at k; cases k
theorem zs_15_33 (h : zOk b n f) {l0 : Nat} {l1 : Int} {l2 : Int} (zl0 : zI_fl l0) (zl1 : zR l1) (zl2 : zR l2) (k : some (137438953473, (zM n (zWf b f g))) = some r) : k15_33 V ST d (zCl AL V ST ex_km d) (zRn AL V ST ex_km d kt_15) (zP [zf b l0, enc l1, enc l2]) [] (zM n (zWf b f g)) = some r := by
  unfold k15_33
  exact zr_return.trans k
theorem zs_15_0 (h : zOk b n f) {l0 : Nat} {l1 : Int} {l2 : Int} (zl0 : zI_fl l0) (zl1 : zR l1) (zl2 : zR l2) (k : (if 0 ≤ l1 ∧ l1 < 16 then (if 0 ≤ l1 ∧ l1 < 16 then (if nz ((upd g (l0 + 3) l1 (zand (nz ((nz (g (l0 + 3) l1)) + l2)) 3)) l0 15) = 0 then zRn AL V ST ex_km d kt_15 33 (zP [zf b l0, enc l1, enc l2]) [] (zM n (zWf b f (upd g (l0 + 3) l1 (zand (nz ((nz (g (l0 + 3) l1)) + l2)) 3)))) else (if 0 ≤ l1 ∧ l1 < 16 then (if 0 ≤ l1 ∧ l1 < 16 then k15_33 V ST d (zCl AL V ST ex_km d) (zRn AL V ST ex_km d kt_15) (zP [zf b l0, enc l1, enc l2]) [] (zM n (zWf b f (upd (upd g (l0 + 3) l1 (zand (nz ((nz (g (l0 + 3) l1)) + l2)) 3)) (l0 + 9) l1 (nz ((nz ((upd g (l0 + 3) l1 (zand (nz ((nz (g (l0 + 3) l1)) + l2)) 3)) (l0 + 9) l1)) + l2))))) else none) else none)) else none) else none) = some r) : k15_0 V ST d (zCl AL V ST ex_km d) (zRn AL V ST ex_km d kt_15) (zP [zf b l0, enc l1, enc l2]) [] (zM n (zWf b f g)) = some r := by
  unfold k15_0
  refine (zr_aload (v := zf b l0) rfl (zf_tA h _)).trans ?_
  refine (zr_gfr h (tr_fl_f zl0)).trans ?_
  refine (zr_iload (v := enc l1) rfl (enc_lt _)).trans ?_
  refine (zr_aload (v := zf b l0) rfl (zf_tA h _)).trans ?_
  refine (zr_gfr h (tr_fl_f zl0)).trans ?_
  refine (zr_iload (v := enc l1) rfl (enc_lt _)).trans ?_
  by_cases c1 : 0 ≤ l1 ∧ l1 < 16
  · rw [if_pos c1] at k
    refine (zr_iald h (ta_fl_f zl0) c1.1 (by have := c1.2; omega)).trans ?_
    refine (zr_iload (v := enc l2) rfl (enc_lt _)).trans ?_
    refine (zr_iadd).trans ?_
    refine (zr_pshi 3 rfl).trans ?_
    refine (zr_iand).trans ?_
    by_cases c2 : 0 ≤ l1 ∧ l1 < 16
    · rw [if_pos c2] at k
      refine (zr_iast h (ta_fl_f zl0) c2.1 (by have := c2.2; omega)).trans ?_
      refine (zr_aload (v := zf b l0) rfl (zf_tA h _)).trans ?_
      refine (zr_gfi h (ti_fl_isCounting zl0)).trans ?_
      by_cases c3 : nz ((upd g (l0 + 3) l1 (zand (nz ((nz (g (l0 + 3) l1)) + l2)) 3)) l0 15) = 0
      · rw [if_pos c3] at k
        exact (zr_if_eq_t (nz_R _) c3).trans k
      · rw [if_neg c3] at k
        refine (zr_if_eq_n (nz_R _) c3).trans ?_
        refine (zr_aload (v := zf b l0) rfl (zf_tA h _)).trans ?_
        refine (zr_gfr h (tr_fl_turns zl0)).trans ?_
        refine (zr_iload (v := enc l1) rfl (enc_lt _)).trans ?_
        refine (zr_dup2 (enc_c2 _) (zf_c2 h _)).trans ?_
        by_cases c4 : 0 ≤ l1 ∧ l1 < 16
        · rw [if_pos c4] at k
          refine (zr_iald h (ta_fl_turns zl0) c4.1 (by have := c4.2; omega)).trans ?_
          refine (zr_iload (v := enc l2) rfl (enc_lt _)).trans ?_
          refine (zr_iadd).trans ?_
          by_cases c5 : 0 ≤ l1 ∧ l1 < 16
          · rw [if_pos c5] at k
            refine (zr_iast h (ta_fl_turns zl0) c5.1 (by have := c5.2; omega)).trans ?_
            exact k
          · rw [if_neg c5] at k; cases k
        · rw [if_neg c4] at k; cases k
    · rw [if_neg c2] at k; cases k
  · rw [if_neg c1] at k; cases k
theorem zs_16_53 (h : zOk b n f) {l0 : Nat} {l1 : Int} {l2 : Int} {l3 : Int} {l4 : Int} {l5 : Int} {l6 : Int} (zl0 : zI_fl l0) (zl1 : zR l1) (zl2 : zR l2) (zl3 : zR l3) (zl4 : zR l4) (zl5 : zR l5) (zl6 : zR l6) (k : some (137438953473, (zM n (zWf b f g))) = some r) : k16_53 V ST d (zCl AL V ST ex_km d) (zRn AL V ST ex_km d kt_16) (zP [zf b l0, enc l1, enc l2, enc l3, enc l4, enc l5, enc l6]) [] (zM n (zWf b f g)) = some r := by
  unfold k16_53
  exact zr_return.trans k
theorem zs_16_0 (h : zOk b n f) {l0 : Nat} {l1 : Int} {l2 : Int} {l3 : Int} {l4 : Int} (zl0 : zI_fl l0) (zl1 : zR l1) (zl2 : zR l2) (zl3 : zR l3) (zl4 : zR l4) (k : (if 0 ≤ l1 ∧ l1 < 16 then (if 0 ≤ l1 ∧ l1 < 16 then (if 0 ≤ l1 ∧ l1 < 16 then (if 0 ≤ l1 ∧ l1 < 16 then zTh (zCl AL V ST ex_km d 15 [zf b l0, enc l1, enc l4] (zM n (zWf b f (upd (upd g (l0 + 1) l1 (nz (l2 + (nz (l4 * (nz ((nz (g (l0 + 2) l1)) - l3))))))) (l0 + 2) l1 (nz (l3 - (nz (l4 * (nz ((nz (g (l0 + 1) l1)) - l2)))))))))) (zM n (zWf b f (upd (upd g (l0 + 1) l1 (nz (l2 + (nz (l4 * (nz ((nz (g (l0 + 2) l1)) - l3))))))) (l0 + 2) l1 (nz (l3 - (nz (l4 * (nz ((nz (g (l0 + 1) l1)) - l2))))))))) [] (fun S M => k16_53 V ST d (zCl AL V ST ex_km d) (zRn AL V ST ex_km d kt_16) (zP [zf b l0, enc l1, enc l2, enc l3, enc l4, enc (nz ((nz (g (l0 + 1) l1)) - l2)), enc (nz ((nz (g (l0 + 2) l1)) - l3))]) S M) else none) else none) else none) else none) = some r) : k16_0 V ST d (zCl AL V ST ex_km d) (zRn AL V ST ex_km d kt_16) (zP [zf b l0, enc l1, enc l2, enc l3, enc l4, 137438953472, 137438953472]) [] (zM n (zWf b f g)) = some r := by
  unfold k16_0
  refine (zr_aload (v := zf b l0) rfl (zf_tA h _)).trans ?_
  refine (zr_gfr h (tr_fl_x zl0)).trans ?_
  refine (zr_iload (v := enc l1) rfl (enc_lt _)).trans ?_
  by_cases c1 : 0 ≤ l1 ∧ l1 < 16
  · rw [if_pos c1] at k
    refine (zr_iald h (ta_fl_x zl0) c1.1 (by have := c1.2; omega)).trans ?_
    refine (zr_iload (v := enc l2) rfl (enc_lt _)).trans ?_
    refine (zr_isub).trans ?_
    refine (zr_istore (w := enc l4) (vs' := [zf b l0, enc l1, enc l2, enc l3, enc l4, enc (nz ((nz (g (l0 + 1) l1)) - l2)), 137438953472]) rfl (enc_c2 _) (Nat.lt_trans (enc_lt _) (by decide)) (by decide) rfl (enc_lt _)).trans ?_
    refine (zr_aload (v := zf b l0) rfl (zf_tA h _)).trans ?_
    refine (zr_gfr h (tr_fl_y zl0)).trans ?_
    refine (zr_iload (v := enc l1) rfl (enc_lt _)).trans ?_
    by_cases c2 : 0 ≤ l1 ∧ l1 < 16
    · rw [if_pos c2] at k
      refine (zr_iald h (ta_fl_y zl0) c2.1 (by have := c2.2; omega)).trans ?_
      refine (zr_iload (v := enc l3) rfl (enc_lt _)).trans ?_
      refine (zr_isub).trans ?_
      refine (zr_istore (w := enc (nz ((nz (g (l0 + 1) l1)) - l2))) (vs' := [zf b l0, enc l1, enc l2, enc l3, enc l4, enc (nz ((nz (g (l0 + 1) l1)) - l2)), enc (nz ((nz (g (l0 + 2) l1)) - l3))]) rfl (enc_c2 _) (Nat.lt_trans (enc_lt _) (by decide)) (by decide) rfl (enc_lt _)).trans ?_
      refine (zr_aload (v := zf b l0) rfl (zf_tA h _)).trans ?_
      refine (zr_gfr h (tr_fl_x zl0)).trans ?_
      refine (zr_iload (v := enc l1) rfl (enc_lt _)).trans ?_
      refine (zr_iload (v := enc l2) rfl (enc_lt _)).trans ?_
      refine (zr_iload (v := enc l4) rfl (enc_lt _)).trans ?_
      refine (zr_iload (v := enc (nz ((nz (g (l0 + 2) l1)) - l3))) rfl (enc_lt _)).trans ?_
      refine (zr_imul).trans ?_
      refine (zr_iadd).trans ?_
      by_cases c3 : 0 ≤ l1 ∧ l1 < 16
      · rw [if_pos c3] at k
        refine (zr_iast h (ta_fl_x zl0) c3.1 (by have := c3.2; omega)).trans ?_
        refine (zr_aload (v := zf b l0) rfl (zf_tA h _)).trans ?_
        refine (zr_gfr h (tr_fl_y zl0)).trans ?_
        refine (zr_iload (v := enc l1) rfl (enc_lt _)).trans ?_
        refine (zr_iload (v := enc l3) rfl (enc_lt _)).trans ?_
        refine (zr_iload (v := enc l4) rfl (enc_lt _)).trans ?_
        refine (zr_iload (v := enc (nz ((nz (g (l0 + 1) l1)) - l2))) rfl (enc_lt _)).trans ?_
        refine (zr_imul).trans ?_
        refine (zr_isub).trans ?_
        by_cases c4 : 0 ≤ l1 ∧ l1 < 16
        · rw [if_pos c4] at k
          refine (zr_iast h (ta_fl_y zl0) c4.1 (by have := c4.2; omega)).trans ?_
          refine (zr_aload (v := zf b l0) rfl (zf_tA h _)).trans ?_
          refine (zr_iload (v := enc l1) rfl (enc_lt _)).trans ?_
          refine (zr_iload (v := enc l4) rfl (enc_lt _)).trans ?_
          refine zr_invV h [enc l4, enc l1] rfl (tk_fl zl0) (zA_cons (enc_l _) (zA_cons (enc_l _) zA_nil)) (zA_nil) (by decide) ?_
          exact k
        · rw [if_neg c4] at k; cases k
      · rw [if_neg c3] at k; cases k
    · rw [if_neg c2] at k; cases k
  · rw [if_neg c1] at k; cases k
theorem zs_17_0 (h : zOk b n f) {l0 : Nat} {l1 : Int} {l2 : Int} (zl0 : zI_fl l0) (zl1 : zR l1) (zl2 : zR l2) (k : (if 0 ≤ l1 ∧ l1 < 16 then (if 0 ≤ l1 ∧ l1 < 16 then (if 0 ≤ l2 ∧ l2 < 16 then (if 0 ≤ l1 ∧ l1 < 16 then (if 0 ≤ l2 ∧ l2 < 16 then (if 0 ≤ l1 ∧ l1 < 16 then (if 0 ≤ l2 ∧ l2 < 16 then (if 0 ≤ l2 ∧ l2 < 16 then some (137438953473, (zM n (zWf b f (upd (upd (upd (upd g (l0 + 1) l1 (nz (g (l0 + 1) l2))) (l0 + 2) l1 (nz ((upd g (l0 + 1) l1 (nz (g (l0 + 1) l2))) (l0 + 2) l2))) (l0 + 1) l2 (nz (g (l0 + 1) l1))) (l0 + 2) l2 (nz (g (l0 + 2) l1)))))) else none) else none) else none) else none) else none) else none) else none) else none) = some r) : k17_0 V ST d (zCl AL V ST ex_km d) (zRn AL V ST ex_km d kt_17) (zP [zf b l0, enc l1, enc l2, 137438953472, 137438953472]) [] (zM n (zWf b f g)) = some r := by
  unfold k17_0
  refine (zr_aload (v := zf b l0) rfl (zf_tA h _)).trans ?_
  refine (zr_gfr h (tr_fl_x zl0)).trans ?_
  refine (zr_iload (v := enc l1) rfl (enc_lt _)).trans ?_
  by_cases c1 : 0 ≤ l1 ∧ l1 < 16
  · rw [if_pos c1] at k
    refine (zr_iald h (ta_fl_x zl0) c1.1 (by have := c1.2; omega)).trans ?_
    refine (zr_istore (w := enc l2) (vs' := [zf b l0, enc l1, enc l2, enc (nz (g (l0 + 1) l1)), 137438953472]) rfl (enc_c2 _) (Nat.lt_trans (enc_lt _) (by decide)) (by decide) rfl (enc_lt _)).trans ?_
    refine (zr_aload (v := zf b l0) rfl (zf_tA h _)).trans ?_
    refine (zr_gfr h (tr_fl_y zl0)).trans ?_
    refine (zr_iload (v := enc l1) rfl (enc_lt _)).trans ?_
    by_cases c2 : 0 ≤ l1 ∧ l1 < 16
    · rw [if_pos c2] at k
      refine (zr_iald h (ta_fl_y zl0) c2.1 (by have := c2.2; omega)).trans ?_
      refine (zr_istore (w := enc (nz (g (l0 + 1) l1))) (vs' := [zf b l0, enc l1, enc l2, enc (nz (g (l0 + 1) l1)), enc (nz (g (l0 + 2) l1))]) rfl (enc_c2 _) (Nat.lt_trans (enc_lt _) (by decide)) (by decide) rfl (enc_lt _)).trans ?_
      refine (zr_aload (v := zf b l0) rfl (zf_tA h _)).trans ?_
      refine (zr_gfr h (tr_fl_x zl0)).trans ?_
      refine (zr_iload (v := enc l1) rfl (enc_lt _)).trans ?_
      refine (zr_aload (v := zf b l0) rfl (zf_tA h _)).trans ?_
      refine (zr_gfr h (tr_fl_x zl0)).trans ?_
      refine (zr_iload (v := enc l2) rfl (enc_lt _)).trans ?_
      by_cases c3 : 0 ≤ l2 ∧ l2 < 16
      · rw [if_pos c3] at k
        refine (zr_iald h (ta_fl_x zl0) c3.1 (by have := c3.2; omega)).trans ?_
        by_cases c4 : 0 ≤ l1 ∧ l1 < 16
        · rw [if_pos c4] at k
          refine (zr_iast h (ta_fl_x zl0) c4.1 (by have := c4.2; omega)).trans ?_
          refine (zr_aload (v := zf b l0) rfl (zf_tA h _)).trans ?_
          refine (zr_gfr h (tr_fl_y zl0)).trans ?_
          refine (zr_iload (v := enc l1) rfl (enc_lt _)).trans ?_
          refine (zr_aload (v := zf b l0) rfl (zf_tA h _)).trans ?_
          refine (zr_gfr h (tr_fl_y zl0)).trans ?_
          refine (zr_iload (v := enc l2) rfl (enc_lt _)).trans ?_
          by_cases c5 : 0 ≤ l2 ∧ l2 < 16
          · rw [if_pos c5] at k
            refine (zr_iald h (ta_fl_y zl0) c5.1 (by have := c5.2; omega)).trans ?_
            by_cases c6 : 0 ≤ l1 ∧ l1 < 16
            · rw [if_pos c6] at k
              refine (zr_iast h (ta_fl_y zl0) c6.1 (by have := c6.2; omega)).trans ?_
              refine (zr_aload (v := zf b l0) rfl (zf_tA h _)).trans ?_
              refine (zr_gfr h (tr_fl_x zl0)).trans ?_
              refine (zr_iload (v := enc l2) rfl (enc_lt _)).trans ?_
              refine (zr_iload (v := enc (nz (g (l0 + 1) l1))) rfl (enc_lt _)).trans ?_
              by_cases c7 : 0 ≤ l2 ∧ l2 < 16
              · rw [if_pos c7] at k
                refine (zr_iast h (ta_fl_x zl0) c7.1 (by have := c7.2; omega)).trans ?_
                refine (zr_aload (v := zf b l0) rfl (zf_tA h _)).trans ?_
                refine (zr_gfr h (tr_fl_y zl0)).trans ?_
                refine (zr_iload (v := enc l2) rfl (enc_lt _)).trans ?_
                refine (zr_iload (v := enc (nz (g (l0 + 2) l1))) rfl (enc_lt _)).trans ?_
                by_cases c8 : 0 ≤ l2 ∧ l2 < 16
                · rw [if_pos c8] at k
                  refine (zr_iast h (ta_fl_y zl0) c8.1 (by have := c8.2; omega)).trans ?_
                  exact zr_return.trans k
                · rw [if_neg c8] at k; cases k
              · rw [if_neg c7] at k; cases k
            · rw [if_neg c6] at k; cases k
          · rw [if_neg c5] at k; cases k
        · rw [if_neg c4] at k; cases k
      · rw [if_neg c3] at k; cases k
    · rw [if_neg c2] at k; cases k
  · rw [if_neg c1] at k; cases k
theorem zs_18_16 (h : zOk b n f) {l0 : Nat} {l1 : Int} {l2 : Int} (zl0 : zI_fl l0) (zl1 : zR l1) (zl2 : zR l2) (k : (if 0 ≤ l1 ∧ l1 < 16 then some (137438953473, (zM n (zWf b f (upd g (l0 + 11) l1 l2)))) else none) = some r) : k18_16 V ST d (zCl AL V ST ex_km d) (zRn AL V ST ex_km d kt_18) (zP [zf b l0, enc l1, enc l2]) [] (zM n (zWf b f g)) = some r := by
  unfold k18_16
  refine (zr_aload (v := zf b l0) rfl (zf_tA h _)).trans ?_
  refine (zr_gfr h (tr_fl_lastHand zl0)).trans ?_
  refine (zr_iload (v := enc l1) rfl (enc_lt _)).trans ?_
  refine (zr_iload (v := enc l2) rfl (enc_lt _)).trans ?_
  by_cases c1 : 0 ≤ l1 ∧ l1 < 16
  · rw [if_pos c1] at k
    refine (zr_iast h (ta_fl_lastHand zl0) c1.1 (by have := c1.2; omega)).trans ?_
    exact zr_return.trans k
  · rw [if_neg c1] at k; cases k
theorem zs_18_0 (h : zOk b n f) {l0 : Nat} {l1 : Int} {l2 : Int} (zl0 : zI_fl l0) (zl1 : zR l1) (zl2 : zR l2) (k : (if 0 ≤ l1 ∧ l1 < 16 then (if nz (g (l0 + 10) l1) = 0 then (if 0 ≤ l1 ∧ l1 < 16 then k18_16 V ST d (zCl AL V ST ex_km d) (zRn AL V ST ex_km d kt_18) (zP [zf b l0, enc l1, enc l2]) [] (zM n (zWf b f (upd g (l0 + 10) l1 l2))) else none) else zRn AL V ST ex_km d kt_18 16 (zP [zf b l0, enc l1, enc l2]) [] (zM n (zWf b f g))) else none) = some r) : k18_0 V ST d (zCl AL V ST ex_km d) (zRn AL V ST ex_km d kt_18) (zP [zf b l0, enc l1, enc l2]) [] (zM n (zWf b f g)) = some r := by
  unfold k18_0
  refine (zr_aload (v := zf b l0) rfl (zf_tA h _)).trans ?_
  refine (zr_gfr h (tr_fl_firstHand zl0)).trans ?_
  refine (zr_iload (v := enc l1) rfl (enc_lt _)).trans ?_
  by_cases c1 : 0 ≤ l1 ∧ l1 < 16
  · rw [if_pos c1] at k
    refine (zr_iald h (ta_fl_firstHand zl0) c1.1 (by have := c1.2; omega)).trans ?_
    by_cases c2 : nz (g (l0 + 10) l1) = 0
    · rw [if_pos c2] at k
      refine (zr_if_ne_n (nz_R _) c2).trans ?_
      refine (zr_aload (v := zf b l0) rfl (zf_tA h _)).trans ?_
      refine (zr_gfr h (tr_fl_firstHand zl0)).trans ?_
      refine (zr_iload (v := enc l1) rfl (enc_lt _)).trans ?_
      refine (zr_iload (v := enc l2) rfl (enc_lt _)).trans ?_
      by_cases c3 : 0 ≤ l1 ∧ l1 < 16
      · rw [if_pos c3] at k
        refine (zr_iast h (ta_fl_firstHand zl0) c3.1 (by have := c3.2; omega)).trans ?_
        exact k
      · rw [if_neg c3] at k; cases k
    · rw [if_neg c2] at k
      exact (zr_if_ne_t (nz_R _) c2).trans k
  · rw [if_neg c1] at k; cases k
theorem zs_19_114 (h : zOk b n f) {l0 : Nat} {l1 : Int} {l2 : Int} (zl0 : zI_fl l0) (zl1 : zR l1) (zl2 : zR l2) (k : some (enc l1, (zM n (zWf b f g))) = some r) : k19_114 V ST d (zCl AL V ST ex_km d) (zRn AL V ST ex_km d kt_19) (zP [zf b l0, enc l1, enc l2]) [] (zM n (zWf b f g)) = some r := by
  unfold k19_114
  refine (zr_iload (v := enc l1) rfl (enc_lt _)).trans ?_
  exact zr_ireturn.trans k
theorem zs_19_108 (h : zOk b n f) {l0 : Nat} {l1 : Int} {l2 : Int} (zl0 : zI_fl l0) (zl1 : zR l1) (zl2 : zR l2) (k : zRn AL V ST ex_km d kt_19 70 (zP [zf b l0, enc l1, enc (nz (l2 + 1))]) [] (zM n (zWf b f g)) = some r) : k19_108 V ST d (zCl AL V ST ex_km d) (zRn AL V ST ex_km d kt_19) (zP [zf b l0, enc l1, enc l2]) [] (zM n (zWf b f g)) = some r := by
  unfold k19_108
  refine (zr_iinc (w := enc l1) (x := l2) (i' := 1) (vs' := [zf b l0, enc l1, enc (nz (l2 + 1))]) rfl (enc_c2 _) (Nat.lt_trans (enc_lt _) (by decide)) rfl rfl (by decide) rfl).trans ?_
  exact (zr_goto).trans k
theorem zs_19_97 (h : zOk b n f) {l0 : Nat} {l1 : Int} {l2 : Int} {s0 : Int} (zl0 : zI_fl l0) (zl1 : zR l1) (zl2 : zR l2) (zs0 : zR s0) (k : (if 1 < s0 then (if 0 ≤ l2 ∧ l2 < 16 then k19_108 V ST d (zCl AL V ST ex_km d) (zRn AL V ST ex_km d kt_19) (zP [zf b l0, enc (nz (g (l0 + 4) l2)), enc l2]) [] (zM n (zWf b f g)) else none) else zRn AL V ST ex_km d kt_19 108 (zP [zf b l0, enc l1, enc l2]) [] (zM n (zWf b f g))) = some r) : k19_97 V ST d (zCl AL V ST ex_km d) (zRn AL V ST ex_km d kt_19) (zP [zf b l0, enc l1, enc l2]) [enc s0] (zM n (zWf b f g)) = some r := by
  unfold k19_97
  refine (zr_pshi 1 rfl).trans ?_
  by_cases c1 : 1 < s0
  · rw [if_pos c1] at k
    refine (zr_icmp_le_n (zs0) ((by unfold zR; omega)) c1).trans ?_
    refine (zr_aload (v := zf b l0) rfl (zf_tA h _)).trans ?_
    refine (zr_gfr h (tr_fl_number zl0)).trans ?_
    refine (zr_iload (v := enc l2) rfl (enc_lt _)).trans ?_
    by_cases c2 : 0 ≤ l2 ∧ l2 < 16
    · rw [if_pos c2] at k
      refine (zr_iald h (ta_fl_number zl0) c2.1 (by have := c2.2; omega)).trans ?_
      refine (zr_istore (w := zf b l0) (vs' := [zf b l0, enc (nz (g (l0 + 4) l2)), enc l2]) rfl (zf_c2 h _) (Nat.lt_trans (zf_l h _) (by decide)) (by decide) rfl (enc_lt _)).trans ?_
      exact k
    · rw [if_neg c2] at k; cases k
  · rw [if_neg c1] at k
    exact (zr_icmp_le_t (zs0) ((by unfold zR; omega)) (Int.not_lt.mp c1)).trans k
theorem zs_19_92 (h : zOk b n f) {l0 : Nat} {l1 : Int} {l2 : Int} (zl0 : zI_fl l0) (zl1 : zR l1) (zl2 : zR l2) (k : zTh (zCl AL V ST ex_km d 22 [zf b l0, enc l2] (zM n (zWf b f g))) (zM n (zWf b f g)) [] (fun S M => k19_97 V ST d (zCl AL V ST ex_km d) (zRn AL V ST ex_km d kt_19) (zP [zf b l0, enc l1, enc l2]) S M) = some r) : k19_92 V ST d (zCl AL V ST ex_km d) (zRn AL V ST ex_km d kt_19) (zP [zf b l0, enc l1, enc l2]) [] (zM n (zWf b f g)) = some r := by
  unfold k19_92
  refine (zr_aload (v := zf b l0) rfl (zf_tA h _)).trans ?_
  refine (zr_iload (v := enc l2) rfl (enc_lt _)).trans ?_
  refine zr_invV h [enc l2] rfl (tk_fl zl0) (zA_cons (enc_l _) zA_nil) (zA_nil) (by decide) ?_
  exact k
theorem zs_19_70 (h : zOk b n f) {l0 : Nat} {l1 : Int} {l2 : Int} (zl0 : zI_fl l0) (zl1 : zR l1) (zl2 : zR l2) (k : (if l2 < nz (g l0 14) then (if l1 < 0 then zRn AL V ST ex_km d kt_19 92 (zP [zf b l0, enc l1, enc l2]) [] (zM n (zWf b f g)) else (if 0 ≤ l2 ∧ l2 < 16 then (if nz (g (l0 + 4) l2) < l1 then k19_92 V ST d (zCl AL V ST ex_km d) (zRn AL V ST ex_km d kt_19) (zP [zf b l0, enc l1, enc l2]) [] (zM n (zWf b f g)) else zRn AL V ST ex_km d kt_19 108 (zP [zf b l0, enc l1, enc l2]) [] (zM n (zWf b f g))) else none)) else zRn AL V ST ex_km d kt_19 114 (zP [zf b l0, enc l1, enc l2]) [] (zM n (zWf b f g))) = some r) : k19_70 V ST d (zCl AL V ST ex_km d) (zRn AL V ST ex_km d kt_19) (zP [zf b l0, enc l1, enc l2]) [] (zM n (zWf b f g)) = some r := by
  unfold k19_70
  refine (zr_iload (v := enc l2) rfl (enc_lt _)).trans ?_
  refine (zr_aload (v := zf b l0) rfl (zf_tA h _)).trans ?_
  refine (zr_gfi h (ti_fl_count zl0)).trans ?_
  by_cases c1 : l2 < nz (g l0 14)
  · rw [if_pos c1] at k
    refine (zr_icmp_ge_n (zl2) (nz_R _) c1).trans ?_
    refine (zr_iload (v := enc l1) rfl (enc_lt _)).trans ?_
    by_cases c2 : l1 < 0
    · rw [if_pos c2] at k
      exact (zr_if_lt_t (zl1) c2).trans k
    · rw [if_neg c2] at k
      refine (zr_if_lt_n (zl1) (Int.not_lt.mp c2)).trans ?_
      refine (zr_aload (v := zf b l0) rfl (zf_tA h _)).trans ?_
      refine (zr_gfr h (tr_fl_number zl0)).trans ?_
      refine (zr_iload (v := enc l2) rfl (enc_lt _)).trans ?_
      by_cases c3 : 0 ≤ l2 ∧ l2 < 16
      · rw [if_pos c3] at k
        refine (zr_iald h (ta_fl_number zl0) c3.1 (by have := c3.2; omega)).trans ?_
        refine (zr_iload (v := enc l1) rfl (enc_lt _)).trans ?_
        by_cases c4 : nz (g (l0 + 4) l2) < l1
        · rw [if_pos c4] at k
          refine (zr_icmp_ge_n (nz_R _) (zl1) c4).trans ?_
          exact k
        · rw [if_neg c4] at k
          exact (zr_icmp_ge_t (nz_R _) (zl1) (Int.not_lt.mp c4)).trans k
      · rw [if_neg c3] at k; cases k
  · rw [if_neg c1] at k
    exact (zr_icmp_ge_t (zl2) (nz_R _) (Int.not_lt.mp c1)).trans k
theorem zs_19_66 (h : zOk b n f) {l0 : Nat} {l1 : Int} (zl0 : zI_fl l0) (zl1 : zR l1) (k : k19_70 V ST d (zCl AL V ST ex_km d) (zRn AL V ST ex_km d kt_19) (zP [zf b l0, enc (-1), enc 0]) [] (zM n (zWf b f g)) = some r) : k19_66 V ST d (zCl AL V ST ex_km d) (zRn AL V ST ex_km d kt_19) (zP [zf b l0, enc l1, 137438953472]) [] (zM n (zWf b f g)) = some r := by
  unfold k19_66
  refine (zr_pshi (-1) rfl).trans ?_
  refine (zr_istore (w := zf b l0) (vs' := [zf b l0, enc (-1), 137438953472]) rfl (zf_c2 h _) (Nat.lt_trans (zf_l h _) (by decide)) (by decide) rfl (enc_lt _)).trans ?_
  refine (zr_pshi 0 rfl).trans ?_
  refine (zr_istore (w := enc (-1)) (vs' := [zf b l0, enc (-1), enc 0]) rfl (enc_c2 _) (Nat.lt_trans (enc_lt _) (by decide)) (by decide) rfl (enc_lt _)).trans ?_
  exact k
theorem zs_19_60 (h : zOk b n f) {l0 : Nat} {l1 : Int} (zl0 : zI_fl l0) (zl1 : zR l1) (k : zRn AL V ST ex_km d kt_19 29 (zP [zf b l0, enc (nz (l1 + 1)), 137438953472]) [] (zM n (zWf b f g)) = some r) : k19_60 V ST d (zCl AL V ST ex_km d) (zRn AL V ST ex_km d kt_19) (zP [zf b l0, enc l1, 137438953472]) [] (zM n (zWf b f g)) = some r := by
  unfold k19_60
  refine (zr_iinc (w := zf b l0) (x := l1) (i' := 1) (vs' := [zf b l0, enc (nz (l1 + 1)), 137438953472]) rfl (zf_c2 h _) (Nat.lt_trans (zf_l h _) (by decide)) rfl rfl (by decide) rfl).trans ?_
  exact (zr_goto).trans k
theorem zs_19_29 (h : zOk b n f) {l0 : Nat} {l1 : Int} (zl0 : zI_fl l0) (zl1 : zR l1) (k : (if l1 < nz (g l0 14) then (if 0 ≤ l1 ∧ l1 < 16 then (if nz (g (l0 + 14) l1) = 0 then zRn AL V ST ex_km d kt_19 60 (zP [zf b l0, enc l1, 137438953472]) [] (zM n (zWf b f g)) else (if 0 ≤ l1 ∧ l1 < 16 then zTh (zCl AL V ST ex_km d 14 [zf b l0, enc l1, enc (nz ((nz (g (l0 + 3) l1)) + 3)), enc 1] (zM n (zWf b f g))) (zM n (zWf b f g)) [] (fun S M => k19_60 V ST d (zCl AL V ST ex_km d) (zRn AL V ST ex_km d kt_19) (zP [zf b l0, enc l1, 137438953472]) S M) else none)) else none) else zRn AL V ST ex_km d kt_19 66 (zP [zf b l0, enc l1, 137438953472]) [] (zM n (zWf b f g))) = some r) : k19_29 V ST d (zCl AL V ST ex_km d) (zRn AL V ST ex_km d kt_19) (zP [zf b l0, enc l1, 137438953472]) [] (zM n (zWf b f g)) = some r := by
  unfold k19_29
  refine (zr_iload (v := enc l1) rfl (enc_lt _)).trans ?_
  refine (zr_aload (v := zf b l0) rfl (zf_tA h _)).trans ?_
  refine (zr_gfi h (ti_fl_count zl0)).trans ?_
  by_cases c1 : l1 < nz (g l0 14)
  · rw [if_pos c1] at k
    refine (zr_icmp_ge_n (zl1) (nz_R _) c1).trans ?_
    refine (zr_aload (v := zf b l0) rfl (zf_tA h _)).trans ?_
    refine (zr_gfr h (tr_fl_passing zl0)).trans ?_
    refine (zr_iload (v := enc l1) rfl (enc_lt _)).trans ?_
    by_cases c2 : 0 ≤ l1 ∧ l1 < 16
    · rw [if_pos c2] at k
      refine (zr_bald h (ta_fl_passing zl0) c2.1 (by have := c2.2; omega)).trans ?_
      by_cases c3 : nz (g (l0 + 14) l1) = 0
      · rw [if_pos c3] at k
        exact (zr_if_eq_t (nz_R _) c3).trans k
      · rw [if_neg c3] at k
        refine (zr_if_eq_n (nz_R _) c3).trans ?_
        refine (zr_aload (v := zf b l0) rfl (zf_tA h _)).trans ?_
        refine (zr_iload (v := enc l1) rfl (enc_lt _)).trans ?_
        refine (zr_aload (v := zf b l0) rfl (zf_tA h _)).trans ?_
        refine (zr_gfr h (tr_fl_f zl0)).trans ?_
        refine (zr_iload (v := enc l1) rfl (enc_lt _)).trans ?_
        by_cases c4 : 0 ≤ l1 ∧ l1 < 16
        · rw [if_pos c4] at k
          refine (zr_iald h (ta_fl_f zl0) c4.1 (by have := c4.2; omega)).trans ?_
          refine (zr_pshi 3 rfl).trans ?_
          refine (zr_iadd).trans ?_
          refine (zr_pshi 1 rfl).trans ?_
          refine zr_invV h [enc 1, enc (nz ((nz (g (l0 + 3) l1)) + 3)), enc l1] rfl (tk_fl zl0) (zA_cons (enc_l _) (zA_cons (enc_l _) (zA_cons (enc_l _) zA_nil))) (zA_nil) (by decide) ?_
          exact k
        · rw [if_neg c4] at k; cases k
    · rw [if_neg c2] at k; cases k
  · rw [if_neg c1] at k
    exact (zr_icmp_ge_t (zl1) (nz_R _) (Int.not_lt.mp c1)).trans k
theorem zs_19_27 (h : zOk b n f) {l0 : Nat} {l1 : Int} (zl0 : zI_fl l0) (zl1 : zR l1) (k : k19_29 V ST d (zCl AL V ST ex_km d) (zRn AL V ST ex_km d kt_19) (zP [zf b l0, enc 0, 137438953472]) [] (zM n (zWf b f g)) = some r) : k19_27 V ST d (zCl AL V ST ex_km d) (zRn AL V ST ex_km d kt_19) (zP [zf b l0, enc l1, 137438953472]) [] (zM n (zWf b f g)) = some r := by
  unfold k19_27
  refine (zr_pshi 0 rfl).trans ?_
  refine (zr_istore (w := zf b l0) (vs' := [zf b l0, enc 0, 137438953472]) rfl (zf_c2 h _) (Nat.lt_trans (zf_l h _) (by decide)) (by decide) rfl (enc_lt _)).trans ?_
  exact k
theorem zs_19_20 (h : zOk b n f) {l0 : Nat} {l1 : Int} {s0 : Int} {s1 : Int} {s2 : Nat} (zl0 : zI_fl l0) (zl1 : zR l1) (zs0 : zR s0) (zs1 : zR s1) (zs2 : zAr s2 65 16) (k : (if 0 ≤ s1 ∧ s1 < 16 then (if s0 = 0 ∨ s0 = 1 then zRn AL V ST ex_km d kt_19 2 (zP [zf b l0, enc (nz (l1 + 1)), 137438953472]) [] (zM n (zWf b f (upd g s2 s1 s0))) else none) else none) = some r) : k19_20 V ST d (zCl AL V ST ex_km d) (zRn AL V ST ex_km d kt_19) (zP [zf b l0, enc l1, 137438953472]) [enc s0, enc s1, zf b s2] (zM n (zWf b f g)) = some r := by
  unfold k19_20
  by_cases c1 : 0 ≤ s1 ∧ s1 < 16
  · rw [if_pos c1] at k
    by_cases c2 : s0 = 0 ∨ s0 = 1
    · rw [if_pos c2] at k
      refine (zr_bast h zs2 c1.1 (by have := c1.2; omega) c2).trans ?_
      refine (zr_iinc (w := zf b l0) (x := l1) (i' := 1) (vs' := [zf b l0, enc (nz (l1 + 1)), 137438953472]) rfl (zf_c2 h _) (Nat.lt_trans (zf_l h _) (by decide)) rfl rfl (by decide) rfl).trans ?_
      exact (zr_goto).trans k
    · rw [if_neg c2] at k; cases k
  · rw [if_neg c1] at k; cases k
theorem zs_19_2 (h : zOk b n f) {l0 : Nat} {l1 : Int} (zl0 : zI_fl l0) (zl1 : zR l1) (k : (if l1 < nz (g l0 14) then zTh (zCl AL V ST ex_km d 20 [zf b l0, enc l1] (zM n (zWf b f g))) (zM n (zWf b f g)) [enc l1, zf b (l0 + 14)] (fun S M => k19_20 V ST d (zCl AL V ST ex_km d) (zRn AL V ST ex_km d kt_19) (zP [zf b l0, enc l1, 137438953472]) S M) else zRn AL V ST ex_km d kt_19 27 (zP [zf b l0, enc l1, 137438953472]) [] (zM n (zWf b f g))) = some r) : k19_2 V ST d (zCl AL V ST ex_km d) (zRn AL V ST ex_km d kt_19) (zP [zf b l0, enc l1, 137438953472]) [] (zM n (zWf b f g)) = some r := by
  unfold k19_2
  refine (zr_iload (v := enc l1) rfl (enc_lt _)).trans ?_
  refine (zr_aload (v := zf b l0) rfl (zf_tA h _)).trans ?_
  refine (zr_gfi h (ti_fl_count zl0)).trans ?_
  by_cases c1 : l1 < nz (g l0 14)
  · rw [if_pos c1] at k
    refine (zr_icmp_ge_n (zl1) (nz_R _) c1).trans ?_
    refine (zr_aload (v := zf b l0) rfl (zf_tA h _)).trans ?_
    refine (zr_gfr h (tr_fl_passing zl0)).trans ?_
    refine (zr_iload (v := enc l1) rfl (enc_lt _)).trans ?_
    refine (zr_aload (v := zf b l0) rfl (zf_tA h _)).trans ?_
    refine (zr_iload (v := enc l1) rfl (enc_lt _)).trans ?_
    refine zr_invV h [enc l1] rfl (tk_fl zl0) (zA_cons (enc_l _) zA_nil) (zA_cons (enc_l _) (zA_cons (zf_l h _) zA_nil)) (by decide) ?_
    exact k
  · rw [if_neg c1] at k
    exact (zr_icmp_ge_t (zl1) (nz_R _) (Int.not_lt.mp c1)).trans k
theorem zs_19_0 (h : zOk b n f) {l0 : Nat} (zl0 : zI_fl l0) (k : k19_2 V ST d (zCl AL V ST ex_km d) (zRn AL V ST ex_km d kt_19) (zP [zf b l0, enc 0, 137438953472]) [] (zM n (zWf b f g)) = some r) : k19_0 V ST d (zCl AL V ST ex_km d) (zRn AL V ST ex_km d kt_19) (zP [zf b l0, 137438953472, 137438953472]) [] (zM n (zWf b f g)) = some r := by
  unfold k19_0
  refine (zr_pshi 0 rfl).trans ?_
  refine (zr_istore (w := zf b l0) (vs' := [zf b l0, enc 0, 137438953472]) rfl (zf_c2 h _) (Nat.lt_trans (zf_l h _) (by decide)) (by decide) rfl (enc_lt _)).trans ?_
  exact k
theorem zs_20_111 (h : zOk b n f) {l0 : Nat} {l1 : Int} {l2 : Int} {l3 : Int} {l4 : Int} {s0 : Int} (zl0 : zI_fl l0) (zl1 : zR l1) (zl2 : zR l2) (zl3 : zR l3) (zl4 : zR l4) (zs0 : zR s0) (k : (if s0 = 0 ∨ s0 = 1 then some (enc s0, (zM n (zWf b f g))) else none) = some r) : k20_111 V ST d (zCl AL V ST ex_km d) (zRn AL V ST ex_km d kt_20) (zP [zf b l0, enc l1, enc l2, enc l3, enc l4]) [enc s0] (zM n (zWf b f g)) = some r := by
  unfold k20_111
  by_cases c1 : s0 = 0 ∨ s0 = 1
  · rw [if_pos c1] at k
    exact (zr_breturn c1).trans k
  · rw [if_neg c1] at k; cases k
theorem zs_20_110 (h : zOk b n f) {l0 : Nat} {l1 : Int} {l2 : Int} {l3 : Int} {l4 : Int} (zl0 : zI_fl l0) (zl1 : zR l1) (zl2 : zR l2) (zl3 : zR l3) (zl4 : zR l4) (k : k20_111 V ST d (zCl AL V ST ex_km d) (zRn AL V ST ex_km d kt_20) (zP [zf b l0, enc l1, enc l2, enc l3, enc l4]) [enc 0] (zM n (zWf b f g)) = some r) : k20_110 V ST d (zCl AL V ST ex_km d) (zRn AL V ST ex_km d kt_20) (zP [zf b l0, enc l1, enc l2, enc l3, enc l4]) [] (zM n (zWf b f g)) = some r := by
  unfold k20_110
  refine (zr_pshi 0 rfl).trans ?_
  exact k
theorem zs_20_103 (h : zOk b n f) {l0 : Nat} {l1 : Int} {l2 : Int} {l3 : Int} {l4 : Int} {s0 : Int} (zl0 : zI_fl l0) (zl1 : zR l1) (zl2 : zR l2) (zl3 : zR l3) (zl4 : zR l4) (zs0 : zR s0) (k : (if s0 = 0 then zRn AL V ST ex_km d kt_20 110 (zP [zf b l0, enc l1, enc l2, enc l3, enc l4]) [] (zM n (zWf b f g)) else zRn AL V ST ex_km d kt_20 111 (zP [zf b l0, enc l1, enc l2, enc l3, enc l4]) [enc 1] (zM n (zWf b f g))) = some r) : k20_103 V ST d (zCl AL V ST ex_km d) (zRn AL V ST ex_km d kt_20) (zP [zf b l0, enc l1, enc l2, enc l3, enc l4]) [enc s0] (zM n (zWf b f g)) = some r := by
  unfold k20_103
  by_cases c1 : s0 = 0
  · rw [if_pos c1] at k
    exact (zr_if_eq_t (zs0) c1).trans k
  · rw [if_neg c1] at k
    refine (zr_if_eq_n (zs0) c1).trans ?_
    refine (zr_pshi 1 rfl).trans ?_
    exact (zr_goto).trans k
theorem zs_20_95 (h : zOk b n f) {l0 : Nat} {l1 : Int} {l2 : Int} {l3 : Int} {l4 : Int} {s0 : Int} (zl0 : zI_fl l0) (zl1 : zR l1) (zl2 : zR l2) (zl3 : zR l3) (zl4 : zR l4) (zs0 : zR s0) (k : (if s0 = 0 then zRn AL V ST ex_km d kt_20 110 (zP [zf b l0, enc l1, enc l2, enc l3, enc l4]) [] (zM n (zWf b f g)) else zTh (zCl AL V ST ex_km d 21 [zf b l0, enc l2] (zM n (zWf b f g))) (zM n (zWf b f g)) [] (fun S M => k20_103 V ST d (zCl AL V ST ex_km d) (zRn AL V ST ex_km d kt_20) (zP [zf b l0, enc l1, enc l2, enc l3, enc l4]) S M)) = some r) : k20_95 V ST d (zCl AL V ST ex_km d) (zRn AL V ST ex_km d kt_20) (zP [zf b l0, enc l1, enc l2, enc l3, enc l4]) [enc s0] (zM n (zWf b f g)) = some r := by
  unfold k20_95
  by_cases c1 : s0 = 0
  · rw [if_pos c1] at k
    exact (zr_if_eq_t (zs0) c1).trans k
  · rw [if_neg c1] at k
    refine (zr_if_eq_n (zs0) c1).trans ?_
    refine (zr_aload (v := zf b l0) rfl (zf_tA h _)).trans ?_
    refine (zr_iload (v := enc l2) rfl (enc_lt _)).trans ?_
    refine zr_invV h [enc l2] rfl (tk_fl zl0) (zA_cons (enc_l _) zA_nil) (zA_nil) (by decide) ?_
    exact k
theorem zs_20_66 (h : zOk b n f) {l0 : Nat} {l1 : Int} {l2 : Int} {l3 : Int} {l4 : Int} (zl0 : zI_fl l0) (zl1 : zR l1) (zl2 : zR l2) (zl3 : zR l3) (zl4 : zR l4) (k : (if l3 = 1 then (if 0 ≤ l2 ∧ l2 < 16 then (if 0 ≤ l1 ∧ l1 < 16 then (if nz (g (l0 + 3) l2) = zand (nz ((nz (g (l0 + 3) l1)) + 2)) 3 then zTh (zCl AL V ST ex_km d 21 [zf b l0, enc l1] (zM n (zWf b f g))) (zM n (zWf b f g)) [] (fun S M => k20_95 V ST d (zCl AL V ST ex_km d) (zRn AL V ST ex_km d kt_20) (zP [zf b l0, enc l1, enc l2, enc l3, enc l4]) S M) else zRn AL V ST ex_km d kt_20 110 (zP [zf b l0, enc l1, enc l2, enc l3, enc l4]) [] (zM n (zWf b f g))) else none) else none) else zRn AL V ST ex_km d kt_20 110 (zP [zf b l0, enc l1, enc l2, enc l3, enc l4]) [] (zM n (zWf b f g))) = some r) : k20_66 V ST d (zCl AL V ST ex_km d) (zRn AL V ST ex_km d kt_20) (zP [zf b l0, enc l1, enc l2, enc l3, enc l4]) [] (zM n (zWf b f g)) = some r := by
  unfold k20_66
  refine (zr_iload (v := enc l3) rfl (enc_lt _)).trans ?_
  refine (zr_pshi 1 rfl).trans ?_
  by_cases c1 : l3 = 1
  · rw [if_pos c1] at k
    refine (zr_icmp_ne_n (zl3) ((by unfold zR; omega)) c1).trans ?_
    refine (zr_aload (v := zf b l0) rfl (zf_tA h _)).trans ?_
    refine (zr_gfr h (tr_fl_f zl0)).trans ?_
    refine (zr_iload (v := enc l2) rfl (enc_lt _)).trans ?_
    by_cases c2 : 0 ≤ l2 ∧ l2 < 16
    · rw [if_pos c2] at k
      refine (zr_iald h (ta_fl_f zl0) c2.1 (by have := c2.2; omega)).trans ?_
      refine (zr_aload (v := zf b l0) rfl (zf_tA h _)).trans ?_
      refine (zr_gfr h (tr_fl_f zl0)).trans ?_
      refine (zr_iload (v := enc l1) rfl (enc_lt _)).trans ?_
      by_cases c3 : 0 ≤ l1 ∧ l1 < 16
      · rw [if_pos c3] at k
        refine (zr_iald h (ta_fl_f zl0) c3.1 (by have := c3.2; omega)).trans ?_
        refine (zr_pshi 2 rfl).trans ?_
        refine (zr_iadd).trans ?_
        refine (zr_pshi 3 rfl).trans ?_
        refine (zr_iand).trans ?_
        by_cases c4 : nz (g (l0 + 3) l2) = zand (nz ((nz (g (l0 + 3) l1)) + 2)) 3
        · rw [if_pos c4] at k
          refine (zr_icmp_ne_n (nz_R _) (nz_R _) c4).trans ?_
          refine (zr_aload (v := zf b l0) rfl (zf_tA h _)).trans ?_
          refine (zr_iload (v := enc l1) rfl (enc_lt _)).trans ?_
          refine zr_invV h [enc l1] rfl (tk_fl zl0) (zA_cons (enc_l _) zA_nil) (zA_nil) (by decide) ?_
          exact k
        · rw [if_neg c4] at k
          exact (zr_icmp_ne_t (nz_R _) (nz_R _) c4).trans k
      · rw [if_neg c3] at k; cases k
    · rw [if_neg c2] at k; cases k
  · rw [if_neg c1] at k
    exact (zr_icmp_ne_t (zl3) ((by unfold zR; omega)) c1).trans k
theorem zs_20_60 (h : zOk b n f) {l0 : Nat} {l1 : Int} {l2 : Int} {l3 : Int} {l4 : Int} (zl0 : zI_fl l0) (zl1 : zR l1) (zl2 : zR l2) (zl3 : zR l3) (zl4 : zR l4) (k : zRn AL V ST ex_km d kt_20 7 (zP [zf b l0, enc l1, enc l2, enc l3, enc (nz (l4 + 1))]) [] (zM n (zWf b f g)) = some r) : k20_60 V ST d (zCl AL V ST ex_km d) (zRn AL V ST ex_km d kt_20) (zP [zf b l0, enc l1, enc l2, enc l3, enc l4]) [] (zM n (zWf b f g)) = some r := by
  unfold k20_60
  refine (zr_iinc (w := enc l3) (x := l4) (i' := 1) (vs' := [zf b l0, enc l1, enc l2, enc l3, enc (nz (l4 + 1))]) rfl (enc_c2 _) (Nat.lt_trans (enc_lt _) (by decide)) rfl rfl (by decide) rfl).trans ?_
  exact (zr_goto).trans k
theorem zs_20_7 (h : zOk b n f) {l0 : Nat} {l1 : Int} {l2 : Int} {l3 : Int} {l4 : Int} (zl0 : zI_fl l0) (zl1 : zR l1) (zl2 : zR l2) (zl3 : zR l3) (zl4 : zR l4) (k : (if l4 < nz (g l0 14) then (if l4 = l1 then zRn AL V ST ex_km d kt_20 60 (zP [zf b l0, enc l1, enc l2, enc l3, enc l4]) [] (zM n (zWf b f g)) else (if 0 ≤ l4 ∧ l4 < 16 then (if 0 ≤ l1 ∧ l1 < 16 then (if nz (g (l0 + 1) l4) = nz (g (l0 + 1) l1) then (if 0 ≤ l4 ∧ l4 < 16 then (if 0 ≤ l1 ∧ l1 < 16 then (if nz (g (l0 + 2) l4) = nz (g (l0 + 2) l1) then k20_60 V ST d (zCl AL V ST ex_km d) (zRn AL V ST ex_km d kt_20) (zP [zf b l0, enc l1, enc l4, enc (nz (l3 + 1)), enc l4]) [] (zM n (zWf b f g)) else zRn AL V ST ex_km d kt_20 60 (zP [zf b l0, enc l1, enc l2, enc l3, enc l4]) [] (zM n (zWf b f g))) else none) else none) else zRn AL V ST ex_km d kt_20 60 (zP [zf b l0, enc l1, enc l2, enc l3, enc l4]) [] (zM n (zWf b f g))) else none) else none)) else zRn AL V ST ex_km d kt_20 66 (zP [zf b l0, enc l1, enc l2, enc l3, enc l4]) [] (zM n (zWf b f g))) = some r) : k20_7 V ST d (zCl AL V ST ex_km d) (zRn AL V ST ex_km d kt_20) (zP [zf b l0, enc l1, enc l2, enc l3, enc l4]) [] (zM n (zWf b f g)) = some r := by
  unfold k20_7
  refine (zr_iload (v := enc l4) rfl (enc_lt _)).trans ?_
  refine (zr_aload (v := zf b l0) rfl (zf_tA h _)).trans ?_
  refine (zr_gfi h (ti_fl_count zl0)).trans ?_
  by_cases c1 : l4 < nz (g l0 14)
  · rw [if_pos c1] at k
    refine (zr_icmp_ge_n (zl4) (nz_R _) c1).trans ?_
    refine (zr_iload (v := enc l4) rfl (enc_lt _)).trans ?_
    refine (zr_iload (v := enc l1) rfl (enc_lt _)).trans ?_
    by_cases c2 : l4 = l1
    · rw [if_pos c2] at k
      exact (zr_icmp_eq_t (zl4) (zl1) c2).trans k
    · rw [if_neg c2] at k
      refine (zr_icmp_eq_n (zl4) (zl1) c2).trans ?_
      refine (zr_aload (v := zf b l0) rfl (zf_tA h _)).trans ?_
      refine (zr_gfr h (tr_fl_x zl0)).trans ?_
      refine (zr_iload (v := enc l4) rfl (enc_lt _)).trans ?_
      by_cases c3 : 0 ≤ l4 ∧ l4 < 16
      · rw [if_pos c3] at k
        refine (zr_iald h (ta_fl_x zl0) c3.1 (by have := c3.2; omega)).trans ?_
        refine (zr_aload (v := zf b l0) rfl (zf_tA h _)).trans ?_
        refine (zr_gfr h (tr_fl_x zl0)).trans ?_
        refine (zr_iload (v := enc l1) rfl (enc_lt _)).trans ?_
        by_cases c4 : 0 ≤ l1 ∧ l1 < 16
        · rw [if_pos c4] at k
          refine (zr_iald h (ta_fl_x zl0) c4.1 (by have := c4.2; omega)).trans ?_
          by_cases c5 : nz (g (l0 + 1) l4) = nz (g (l0 + 1) l1)
          · rw [if_pos c5] at k
            refine (zr_icmp_ne_n (nz_R _) (nz_R _) c5).trans ?_
            refine (zr_aload (v := zf b l0) rfl (zf_tA h _)).trans ?_
            refine (zr_gfr h (tr_fl_y zl0)).trans ?_
            refine (zr_iload (v := enc l4) rfl (enc_lt _)).trans ?_
            by_cases c6 : 0 ≤ l4 ∧ l4 < 16
            · rw [if_pos c6] at k
              refine (zr_iald h (ta_fl_y zl0) c6.1 (by have := c6.2; omega)).trans ?_
              refine (zr_aload (v := zf b l0) rfl (zf_tA h _)).trans ?_
              refine (zr_gfr h (tr_fl_y zl0)).trans ?_
              refine (zr_iload (v := enc l1) rfl (enc_lt _)).trans ?_
              by_cases c7 : 0 ≤ l1 ∧ l1 < 16
              · rw [if_pos c7] at k
                refine (zr_iald h (ta_fl_y zl0) c7.1 (by have := c7.2; omega)).trans ?_
                by_cases c8 : nz (g (l0 + 2) l4) = nz (g (l0 + 2) l1)
                · rw [if_pos c8] at k
                  refine (zr_icmp_ne_n (nz_R _) (nz_R _) c8).trans ?_
                  refine (zr_iload (v := enc l4) rfl (enc_lt _)).trans ?_
                  refine (zr_istore (w := enc l1) (vs' := [zf b l0, enc l1, enc l4, enc l3, enc l4]) rfl (enc_c2 _) (Nat.lt_trans (enc_lt _) (by decide)) (by decide) rfl (enc_lt _)).trans ?_
                  refine (zr_iinc (w := enc l4) (x := l3) (i' := 1) (vs' := [zf b l0, enc l1, enc l4, enc (nz (l3 + 1)), enc l4]) rfl (enc_c2 _) (Nat.lt_trans (enc_lt _) (by decide)) rfl rfl (by decide) rfl).trans ?_
                  exact k
                · rw [if_neg c8] at k
                  exact (zr_icmp_ne_t (nz_R _) (nz_R _) c8).trans k
              · rw [if_neg c7] at k; cases k
            · rw [if_neg c6] at k; cases k
          · rw [if_neg c5] at k
            exact (zr_icmp_ne_t (nz_R _) (nz_R _) c5).trans k
        · rw [if_neg c4] at k; cases k
      · rw [if_neg c3] at k; cases k
  · rw [if_neg c1] at k
    exact (zr_icmp_ge_t (zl4) (nz_R _) (Int.not_lt.mp c1)).trans k
theorem zs_20_0 (h : zOk b n f) {l0 : Nat} {l1 : Int} (zl0 : zI_fl l0) (zl1 : zR l1) (k : k20_7 V ST d (zCl AL V ST ex_km d) (zRn AL V ST ex_km d kt_20) (zP [zf b l0, enc l1, enc (-1), enc 0, enc 0]) [] (zM n (zWf b f g)) = some r) : k20_0 V ST d (zCl AL V ST ex_km d) (zRn AL V ST ex_km d kt_20) (zP [zf b l0, enc l1, 137438953472, 137438953472, 137438953472]) [] (zM n (zWf b f g)) = some r := by
  unfold k20_0
  refine (zr_pshi (-1) rfl).trans ?_
  refine (zr_istore (w := enc l1) (vs' := [zf b l0, enc l1, enc (-1), 137438953472, 137438953472]) rfl (enc_c2 _) (Nat.lt_trans (enc_lt _) (by decide)) (by decide) rfl (enc_lt _)).trans ?_
  refine (zr_pshi 0 rfl).trans ?_
  refine (zr_istore (w := enc (-1)) (vs' := [zf b l0, enc l1, enc (-1), enc 0, 137438953472]) rfl (enc_c2 _) (Nat.lt_trans (enc_lt _) (by decide)) (by decide) rfl (enc_lt _)).trans ?_
  refine (zr_pshi 0 rfl).trans ?_
  refine (zr_istore (w := enc 0) (vs' := [zf b l0, enc l1, enc (-1), enc 0, enc 0]) rfl (enc_c2 _) (Nat.lt_trans (enc_lt _) (by decide)) (by decide) rfl (enc_lt _)).trans ?_
  exact k
theorem zs_21_35 (h : zOk b n f) {l0 : Nat} {l1 : Int} {s0 : Int} (zl0 : zI_fl l0) (zl1 : zR l1) (zs0 : zR s0) (k : (if s0 = 0 ∨ s0 = 1 then some (enc s0, (zM n (zWf b f g))) else none) = some r) : k21_35 V ST d (zCl AL V ST ex_km d) (zRn AL V ST ex_km d kt_21) (zP [zf b l0, enc l1]) [enc s0] (zM n (zWf b f g)) = some r := by
  unfold k21_35
  by_cases c1 : s0 = 0 ∨ s0 = 1
  · rw [if_pos c1] at k
    exact (zr_breturn c1).trans k
  · rw [if_neg c1] at k; cases k
theorem zs_21_34 (h : zOk b n f) {l0 : Nat} {l1 : Int} (zl0 : zI_fl l0) (zl1 : zR l1) (k : k21_35 V ST d (zCl AL V ST ex_km d) (zRn AL V ST ex_km d kt_21) (zP [zf b l0, enc l1]) [enc 0] (zM n (zWf b f g)) = some r) : k21_34 V ST d (zCl AL V ST ex_km d) (zRn AL V ST ex_km d kt_21) (zP [zf b l0, enc l1]) [] (zM n (zWf b f g)) = some r := by
  unfold k21_34
  refine (zr_pshi 0 rfl).trans ?_
  exact k
theorem zs_21_30 (h : zOk b n f) {l0 : Nat} {l1 : Int} (zl0 : zI_fl l0) (zl1 : zR l1) (k : zRn AL V ST ex_km d kt_21 35 (zP [zf b l0, enc l1]) [enc 1] (zM n (zWf b f g)) = some r) : k21_30 V ST d (zCl AL V ST ex_km d) (zRn AL V ST ex_km d kt_21) (zP [zf b l0, enc l1]) [] (zM n (zWf b f g)) = some r := by
  unfold k21_30
  refine (zr_pshi 1 rfl).trans ?_
  exact (zr_goto).trans k
theorem zs_21_0 (h : zOk b n f) {l0 : Nat} {l1 : Int} (zl0 : zI_fl l0) (zl1 : zR l1) (k : (if 0 ≤ l1 ∧ l1 < 16 then (if 0 ≤ l1 ∧ l1 < 16 then (if nz (g (l0 + 1) l1) = nz (g (l0 + 7) l1) then (if 0 ≤ l1 ∧ l1 < 16 then (if 0 ≤ l1 ∧ l1 < 16 then (if nz (g (l0 + 2) l1) = nz (g (l0 + 8) l1) then zRn AL V ST ex_km d kt_21 34 (zP [zf b l0, enc l1]) [] (zM n (zWf b f g)) else k21_30 V ST d (zCl AL V ST ex_km d) (zRn AL V ST ex_km d kt_21) (zP [zf b l0, enc l1]) [] (zM n (zWf b f g))) else none) else none) else zRn AL V ST ex_km d kt_21 30 (zP [zf b l0, enc l1]) [] (zM n (zWf b f g))) else none) else none) = some r) : k21_0 V ST d (zCl AL V ST ex_km d) (zRn AL V ST ex_km d kt_21) (zP [zf b l0, enc l1]) [] (zM n (zWf b f g)) = some r := by
  unfold k21_0
  refine (zr_aload (v := zf b l0) rfl (zf_tA h _)).trans ?_
  refine (zr_gfr h (tr_fl_x zl0)).trans ?_
  refine (zr_iload (v := enc l1) rfl (enc_lt _)).trans ?_
  by_cases c1 : 0 ≤ l1 ∧ l1 < 16
  · rw [if_pos c1] at k
    refine (zr_iald h (ta_fl_x zl0) c1.1 (by have := c1.2; omega)).trans ?_
    refine (zr_aload (v := zf b l0) rfl (zf_tA h _)).trans ?_
    refine (zr_gfr h (tr_fl_wasX zl0)).trans ?_
    refine (zr_iload (v := enc l1) rfl (enc_lt _)).trans ?_
    by_cases c2 : 0 ≤ l1 ∧ l1 < 16
    · rw [if_pos c2] at k
      refine (zr_iald h (ta_fl_wasX zl0) c2.1 (by have := c2.2; omega)).trans ?_
      by_cases c3 : nz (g (l0 + 1) l1) = nz (g (l0 + 7) l1)
      · rw [if_pos c3] at k
        refine (zr_icmp_ne_n (nz_R _) (nz_R _) c3).trans ?_
        refine (zr_aload (v := zf b l0) rfl (zf_tA h _)).trans ?_
        refine (zr_gfr h (tr_fl_y zl0)).trans ?_
        refine (zr_iload (v := enc l1) rfl (enc_lt _)).trans ?_
        by_cases c4 : 0 ≤ l1 ∧ l1 < 16
        · rw [if_pos c4] at k
          refine (zr_iald h (ta_fl_y zl0) c4.1 (by have := c4.2; omega)).trans ?_
          refine (zr_aload (v := zf b l0) rfl (zf_tA h _)).trans ?_
          refine (zr_gfr h (tr_fl_wasY zl0)).trans ?_
          refine (zr_iload (v := enc l1) rfl (enc_lt _)).trans ?_
          by_cases c5 : 0 ≤ l1 ∧ l1 < 16
          · rw [if_pos c5] at k
            refine (zr_iald h (ta_fl_wasY zl0) c5.1 (by have := c5.2; omega)).trans ?_
            by_cases c6 : nz (g (l0 + 2) l1) = nz (g (l0 + 8) l1)
            · rw [if_pos c6] at k
              exact (zr_icmp_eq_t (nz_R _) (nz_R _) c6).trans k
            · rw [if_neg c6] at k
              refine (zr_icmp_eq_n (nz_R _) (nz_R _) c6).trans ?_
              exact k
          · rw [if_neg c5] at k; cases k
        · rw [if_neg c4] at k; cases k
      · rw [if_neg c3] at k
        exact (zr_icmp_ne_t (nz_R _) (nz_R _) c3).trans k
    · rw [if_neg c2] at k; cases k
  · rw [if_neg c1] at k; cases k
theorem zs_22_51 (h : zOk b n f) {l0 : Nat} {l1 : Int} {l2 : Int} {l3 : Int} (zl0 : zI_fl l0) (zl1 : zR l1) (zl2 : zR l2) (zl3 : zR l3) (k : some (enc l2, (zM n (zWf b f g))) = some r) : k22_51 V ST d (zCl AL V ST ex_km d) (zRn AL V ST ex_km d kt_22) (zP [zf b l0, enc l1, enc l2, enc l3]) [] (zM n (zWf b f g)) = some r := by
  unfold k22_51
  refine (zr_iload (v := enc l2) rfl (enc_lt _)).trans ?_
  exact zr_ireturn.trans k
theorem zs_22_45 (h : zOk b n f) {l0 : Nat} {l1 : Int} {l2 : Int} {l3 : Int} (zl0 : zI_fl l0) (zl1 : zR l1) (zl2 : zR l2) (zl3 : zR l3) (k : zRn AL V ST ex_km d kt_22 4 (zP [zf b l0, enc l1, enc l2, enc (nz (l3 + 1))]) [] (zM n (zWf b f g)) = some r) : k22_45 V ST d (zCl AL V ST ex_km d) (zRn AL V ST ex_km d kt_22) (zP [zf b l0, enc l1, enc l2, enc l3]) [] (zM n (zWf b f g)) = some r := by
  unfold k22_45
  refine (zr_iinc (w := enc l2) (x := l3) (i' := 1) (vs' := [zf b l0, enc l1, enc l2, enc (nz (l3 + 1))]) rfl (enc_c2 _) (Nat.lt_trans (enc_lt _) (by decide)) rfl rfl (by decide) rfl).trans ?_
  exact (zr_goto).trans k
theorem zs_22_4 (h : zOk b n f) {l0 : Nat} {l1 : Int} {l2 : Int} {l3 : Int} (zl0 : zI_fl l0) (zl1 : zR l1) (zl2 : zR l2) (zl3 : zR l3) (k : (if l3 < nz (g l0 14) then (if 0 ≤ l3 ∧ l3 < 16 then (if 0 ≤ l1 ∧ l1 < 16 then (if nz (g (l0 + 1) l3) = nz (g (l0 + 1) l1) then (if 0 ≤ l3 ∧ l3 < 16 then (if 0 ≤ l1 ∧ l1 < 16 then (if nz (g (l0 + 2) l3) = nz (g (l0 + 2) l1) then k22_45 V ST d (zCl AL V ST ex_km d) (zRn AL V ST ex_km d kt_22) (zP [zf b l0, enc l1, enc (nz (l2 + 1)), enc l3]) [] (zM n (zWf b f g)) else zRn AL V ST ex_km d kt_22 45 (zP [zf b l0, enc l1, enc l2, enc l3]) [] (zM n (zWf b f g))) else none) else none) else zRn AL V ST ex_km d kt_22 45 (zP [zf b l0, enc l1, enc l2, enc l3]) [] (zM n (zWf b f g))) else none) else none) else zRn AL V ST ex_km d kt_22 51 (zP [zf b l0, enc l1, enc l2, enc l3]) [] (zM n (zWf b f g))) = some r) : k22_4 V ST d (zCl AL V ST ex_km d) (zRn AL V ST ex_km d kt_22) (zP [zf b l0, enc l1, enc l2, enc l3]) [] (zM n (zWf b f g)) = some r := by
  unfold k22_4
  refine (zr_iload (v := enc l3) rfl (enc_lt _)).trans ?_
  refine (zr_aload (v := zf b l0) rfl (zf_tA h _)).trans ?_
  refine (zr_gfi h (ti_fl_count zl0)).trans ?_
  by_cases c1 : l3 < nz (g l0 14)
  · rw [if_pos c1] at k
    refine (zr_icmp_ge_n (zl3) (nz_R _) c1).trans ?_
    refine (zr_aload (v := zf b l0) rfl (zf_tA h _)).trans ?_
    refine (zr_gfr h (tr_fl_x zl0)).trans ?_
    refine (zr_iload (v := enc l3) rfl (enc_lt _)).trans ?_
    by_cases c2 : 0 ≤ l3 ∧ l3 < 16
    · rw [if_pos c2] at k
      refine (zr_iald h (ta_fl_x zl0) c2.1 (by have := c2.2; omega)).trans ?_
      refine (zr_aload (v := zf b l0) rfl (zf_tA h _)).trans ?_
      refine (zr_gfr h (tr_fl_x zl0)).trans ?_
      refine (zr_iload (v := enc l1) rfl (enc_lt _)).trans ?_
      by_cases c3 : 0 ≤ l1 ∧ l1 < 16
      · rw [if_pos c3] at k
        refine (zr_iald h (ta_fl_x zl0) c3.1 (by have := c3.2; omega)).trans ?_
        by_cases c4 : nz (g (l0 + 1) l3) = nz (g (l0 + 1) l1)
        · rw [if_pos c4] at k
          refine (zr_icmp_ne_n (nz_R _) (nz_R _) c4).trans ?_
          refine (zr_aload (v := zf b l0) rfl (zf_tA h _)).trans ?_
          refine (zr_gfr h (tr_fl_y zl0)).trans ?_
          refine (zr_iload (v := enc l3) rfl (enc_lt _)).trans ?_
          by_cases c5 : 0 ≤ l3 ∧ l3 < 16
          · rw [if_pos c5] at k
            refine (zr_iald h (ta_fl_y zl0) c5.1 (by have := c5.2; omega)).trans ?_
            refine (zr_aload (v := zf b l0) rfl (zf_tA h _)).trans ?_
            refine (zr_gfr h (tr_fl_y zl0)).trans ?_
            refine (zr_iload (v := enc l1) rfl (enc_lt _)).trans ?_
            by_cases c6 : 0 ≤ l1 ∧ l1 < 16
            · rw [if_pos c6] at k
              refine (zr_iald h (ta_fl_y zl0) c6.1 (by have := c6.2; omega)).trans ?_
              by_cases c7 : nz (g (l0 + 2) l3) = nz (g (l0 + 2) l1)
              · rw [if_pos c7] at k
                refine (zr_icmp_ne_n (nz_R _) (nz_R _) c7).trans ?_
                refine (zr_iinc (w := enc l1) (x := l2) (i' := 1) (vs' := [zf b l0, enc l1, enc (nz (l2 + 1)), enc l3]) rfl (enc_c2 _) (Nat.lt_trans (enc_lt _) (by decide)) rfl rfl (by decide) rfl).trans ?_
                exact k
              · rw [if_neg c7] at k
                exact (zr_icmp_ne_t (nz_R _) (nz_R _) c7).trans k
            · rw [if_neg c6] at k; cases k
          · rw [if_neg c5] at k; cases k
        · rw [if_neg c4] at k
          exact (zr_icmp_ne_t (nz_R _) (nz_R _) c4).trans k
      · rw [if_neg c3] at k; cases k
    · rw [if_neg c2] at k; cases k
  · rw [if_neg c1] at k
    exact (zr_icmp_ge_t (zl3) (nz_R _) (Int.not_lt.mp c1)).trans k
theorem zs_22_0 (h : zOk b n f) {l0 : Nat} {l1 : Int} (zl0 : zI_fl l0) (zl1 : zR l1) (k : k22_4 V ST d (zCl AL V ST ex_km d) (zRn AL V ST ex_km d kt_22) (zP [zf b l0, enc l1, enc 0, enc 0]) [] (zM n (zWf b f g)) = some r) : k22_0 V ST d (zCl AL V ST ex_km d) (zRn AL V ST ex_km d kt_22) (zP [zf b l0, enc l1, 137438953472, 137438953472]) [] (zM n (zWf b f g)) = some r := by
  unfold k22_0
  refine (zr_pshi 0 rfl).trans ?_
  refine (zr_istore (w := enc l1) (vs' := [zf b l0, enc l1, enc 0, 137438953472]) rfl (enc_c2 _) (Nat.lt_trans (enc_lt _) (by decide)) (by decide) rfl (enc_lt _)).trans ?_
  refine (zr_pshi 0 rfl).trans ?_
  refine (zr_istore (w := enc 0) (vs' := [zf b l0, enc l1, enc 0, enc 0]) rfl (enc_c2 _) (Nat.lt_trans (enc_lt _) (by decide)) (by decide) rfl (enc_lt _)).trans ?_
  exact k
theorem zs_23_135 (h : zOk b n f) {l0 : Nat} {l1 : Nat} {l2 : Int} {l3 : Int} {l4 : Int} {l5 : Nat} {l6 : Nat} {l7 : Nat} (zl0 : zI_fl l0) (zl1 : zI_fl l1) (zl2 : zR l2) (zl3 : zR l3) (zl4 : zR l4) (zl5 : ex_c2 l5 = false ∧ l5 < 1099511627776) (zl6 : ex_c2 l6 = false ∧ l6 < 1099511627776) (zl7 : ex_c2 l7 = false ∧ l7 < 1099511627776) (k : some (137438953473, (zM n (zWf b f g))) = some r) : k23_135 V ST d (zCl AL V ST ex_km d) (zRn AL V ST ex_km d kt_23) (zP [zf b l0, zf b l1, enc l2, enc l3, enc l4, l5, l6, l7]) [] (zM n (zWf b f g)) = some r := by
  unfold k23_135
  exact zr_return.trans k
theorem zs_23_129 (h : zOk b n f) {l0 : Nat} {l1 : Nat} {l2 : Int} {l3 : Int} {l4 : Int} {l5 : Int} {l6 : Int} {l7 : Int} (zl0 : zI_fl l0) (zl1 : zI_fl l1) (zl2 : zR l2) (zl3 : zR l3) (zl4 : zR l4) (zl5 : zR l5) (zl6 : zR l6) (zl7 : zR l7) (k : zRn AL V ST ex_km d kt_23 3 (zP [zf b l0, zf b l1, enc l2, enc l3, enc (nz (l4 + 1)), enc l5, enc l6, enc l7]) [] (zM n (zWf b f g)) = some r) : k23_129 V ST d (zCl AL V ST ex_km d) (zRn AL V ST ex_km d kt_23) (zP [zf b l0, zf b l1, enc l2, enc l3, enc l4, enc l5, enc l6, enc l7]) [] (zM n (zWf b f g)) = some r := by
  unfold k23_129
  refine (zr_iinc (w := enc l3) (x := l4) (i' := 1) (vs' := [zf b l0, zf b l1, enc l2, enc l3, enc (nz (l4 + 1)), enc l5, enc l6, enc l7]) rfl (enc_c2 _) (Nat.lt_trans (enc_lt _) (by decide)) rfl rfl (by decide) rfl).trans ?_
  exact (zr_goto).trans k
theorem zs_23_107 (h : zOk b n f) {l0 : Nat} {l1 : Nat} {l2 : Int} {l3 : Int} {l4 : Int} {l5 : Int} {l6 : Int} {l7 : Int} (zl0 : zI_fl l0) (zl1 : zI_fl l1) (zl2 : zR l2) (zl3 : zR l3) (zl4 : zR l4) (zl5 : zR l5) (zl6 : zR l6) (zl7 : zR l7) (k : (if 0 ≤ l4 ∧ l4 < 16 then zTh (zCl AL V ST ex_km d 24 [zf b l0, zf b l1, enc l4, enc (nz (g (l1 + 13) l4)), enc l5, enc l6, enc (nz (l7 + 2))] (zM n (zWf b f g))) (zM n (zWf b f g)) [] (fun S M => k23_129 V ST d (zCl AL V ST ex_km d) (zRn AL V ST ex_km d kt_23) (zP [zf b l0, zf b l1, enc l2, enc l3, enc l4, enc l5, enc l6, enc l7]) S M) else none) = some r) : k23_107 V ST d (zCl AL V ST ex_km d) (zRn AL V ST ex_km d kt_23) (zP [zf b l0, zf b l1, enc l2, enc l3, enc l4, enc l5, enc l6, enc l7]) [] (zM n (zWf b f g)) = some r := by
  unfold k23_107
  refine (zr_aload (v := zf b l0) rfl (zf_tA h _)).trans ?_
  refine (zr_aload (v := zf b l1) rfl (zf_tA h _)).trans ?_
  refine (zr_iload (v := enc l4) rfl (enc_lt _)).trans ?_
  refine (zr_aload (v := zf b l1) rfl (zf_tA h _)).trans ?_
  refine (zr_gfr h (tr_fl_trail zl1)).trans ?_
  refine (zr_iload (v := enc l4) rfl (enc_lt _)).trans ?_
  by_cases c1 : 0 ≤ l4 ∧ l4 < 16
  · rw [if_pos c1] at k
    refine (zr_iald h (ta_fl_trail zl1) c1.1 (by have := c1.2; omega)).trans ?_
    refine (zr_iload (v := enc l5) rfl (enc_lt _)).trans ?_
    refine (zr_iload (v := enc l6) rfl (enc_lt _)).trans ?_
    refine (zr_iload (v := enc l7) rfl (enc_lt _)).trans ?_
    refine (zr_pshi 2 rfl).trans ?_
    refine (zr_iadd).trans ?_
    refine zr_invV h [enc (nz (l7 + 2)), enc l6, enc l5, enc (nz (g (l1 + 13) l4)), enc l4, zf b l1] rfl (tk_fl zl0) (zA_cons (enc_l _) (zA_cons (enc_l _) (zA_cons (enc_l _) (zA_cons (enc_l _) (zA_cons (enc_l _) (zA_cons (zf_l h _) zA_nil)))))) (zA_nil) (by decide) ?_
    exact k
  · rw [if_neg c1] at k; cases k
theorem zs_23_85 (h : zOk b n f) {l0 : Nat} {l1 : Nat} {l2 : Int} {l3 : Int} {l4 : Int} {l5 : Int} {l6 : Int} {l7 : Nat} {s0 : Int} (zl0 : zI_fl l0) (zl1 : zI_fl l1) (zl2 : zR l2) (zl3 : zR l3) (zl4 : zR l4) (zl5 : zR l5) (zl6 : zR l6) (zl7 : ex_c2 l7 = false ∧ l7 < 1099511627776) (zs0 : zR s0) (k : (if 0 ≤ l4 ∧ l4 < 16 then zTh (zCl AL V ST ex_km d 24 [zf b l0, zf b l1, enc l4, enc (nz (g (l1 + 12) l4)), enc l5, enc l6, enc s0] (zM n (zWf b f g))) (zM n (zWf b f g)) [] (fun S M => k23_107 V ST d (zCl AL V ST ex_km d) (zRn AL V ST ex_km d kt_23) (zP [zf b l0, zf b l1, enc l2, enc l3, enc l4, enc l5, enc l6, enc s0]) S M) else none) = some r) : k23_85 V ST d (zCl AL V ST ex_km d) (zRn AL V ST ex_km d kt_23) (zP [zf b l0, zf b l1, enc l2, enc l3, enc l4, enc l5, enc l6, l7]) [enc s0] (zM n (zWf b f g)) = some r := by
  unfold k23_85
  refine (zr_istore (w := enc l6) (vs' := [zf b l0, zf b l1, enc l2, enc l3, enc l4, enc l5, enc l6, enc s0]) rfl (enc_c2 _) (Nat.lt_trans (enc_lt _) (by decide)) (by decide) rfl (enc_lt _)).trans ?_
  refine (zr_aload (v := zf b l0) rfl (zf_tA h _)).trans ?_
  refine (zr_aload (v := zf b l1) rfl (zf_tA h _)).trans ?_
  refine (zr_iload (v := enc l4) rfl (enc_lt _)).trans ?_
  refine (zr_aload (v := zf b l1) rfl (zf_tA h _)).trans ?_
  refine (zr_gfr h (tr_fl_lead zl1)).trans ?_
  refine (zr_iload (v := enc l4) rfl (enc_lt _)).trans ?_
  by_cases c1 : 0 ≤ l4 ∧ l4 < 16
  · rw [if_pos c1] at k
    refine (zr_iald h (ta_fl_lead zl1) c1.1 (by have := c1.2; omega)).trans ?_
    refine (zr_iload (v := enc l5) rfl (enc_lt _)).trans ?_
    refine (zr_iload (v := enc l6) rfl (enc_lt _)).trans ?_
    refine (zr_iload (v := enc s0) rfl (enc_lt _)).trans ?_
    refine zr_invV h [enc s0, enc l6, enc l5, enc (nz (g (l1 + 12) l4)), enc l4, zf b l1] rfl (tk_fl zl0) (zA_cons (enc_l _) (zA_cons (enc_l _) (zA_cons (enc_l _) (zA_cons (enc_l _) (zA_cons (enc_l _) (zA_cons (zf_l h _) zA_nil)))))) (zA_nil) (by decide) ?_
    exact k
  · rw [if_neg c1] at k; cases k
theorem zs_23_76 (h : zOk b n f) {l0 : Nat} {l1 : Nat} {l2 : Int} {l3 : Int} {l4 : Int} {l5 : Int} {l6 : Int} {l7 : Nat} (zl0 : zI_fl l0) (zl1 : zI_fl l1) (zl2 : zR l2) (zl3 : zR l3) (zl4 : zR l4) (zl5 : zR l5) (zl6 : zR l6) (zl7 : ex_c2 l7 = false ∧ l7 < 1099511627776) (k : (if 0 ≤ l4 ∧ l4 < 16 then k23_85 V ST d (zCl AL V ST ex_km d) (zRn AL V ST ex_km d kt_23) (zP [zf b l0, zf b l1, enc l2, enc l3, enc l4, enc l5, enc l6, l7]) [enc (nz ((nz (g (l1 + 3) l4)) + 3))] (zM n (zWf b f g)) else none) = some r) : k23_76 V ST d (zCl AL V ST ex_km d) (zRn AL V ST ex_km d kt_23) (zP [zf b l0, zf b l1, enc l2, enc l3, enc l4, enc l5, enc l6, l7]) [] (zM n (zWf b f g)) = some r := by
  unfold k23_76
  refine (zr_aload (v := zf b l1) rfl (zf_tA h _)).trans ?_
  refine (zr_gfr h (tr_fl_f zl1)).trans ?_
  refine (zr_iload (v := enc l4) rfl (enc_lt _)).trans ?_
  by_cases c1 : 0 ≤ l4 ∧ l4 < 16
  · rw [if_pos c1] at k
    refine (zr_iald h (ta_fl_f zl1) c1.1 (by have := c1.2; omega)).trans ?_
    refine (zr_pshi 3 rfl).trans ?_
    refine (zr_iadd).trans ?_
    exact k
  · rw [if_neg c1] at k; cases k
theorem zs_23_60 (h : zOk b n f) {l0 : Nat} {l1 : Nat} {l2 : Int} {l3 : Int} {l4 : Int} {l5 : Int} {l6 : Nat} {l7 : Nat} {s0 : Int} (zl0 : zI_fl l0) (zl1 : zI_fl l1) (zl2 : zR l2) (zl3 : zR l3) (zl4 : zR l4) (zl5 : zR l5) (zl6 : ex_c2 l6 = false ∧ l6 < 1099511627776) (zl7 : ex_c2 l7 = false ∧ l7 < 1099511627776) (zs0 : zR s0) (k : (if l2 = 0 then zRn AL V ST ex_km d kt_23 76 (zP [zf b l0, zf b l1, enc l2, enc l3, enc l4, enc l5, enc s0, l7]) [] (zM n (zWf b f g)) else (if 0 ≤ l4 ∧ l4 < 16 then zRn AL V ST ex_km d kt_23 85 (zP [zf b l0, zf b l1, enc l2, enc l3, enc l4, enc l5, enc s0, l7]) [enc (nz (g (l1 + 3) l4))] (zM n (zWf b f g)) else none)) = some r) : k23_60 V ST d (zCl AL V ST ex_km d) (zRn AL V ST ex_km d kt_23) (zP [zf b l0, zf b l1, enc l2, enc l3, enc l4, enc l5, l6, l7]) [enc s0] (zM n (zWf b f g)) = some r := by
  unfold k23_60
  refine (zr_istore (w := enc l5) (vs' := [zf b l0, zf b l1, enc l2, enc l3, enc l4, enc l5, enc s0, l7]) rfl (enc_c2 _) (Nat.lt_trans (enc_lt _) (by decide)) (by decide) rfl (enc_lt _)).trans ?_
  refine (zr_iload (v := enc l2) rfl (enc_lt _)).trans ?_
  by_cases c1 : l2 = 0
  · rw [if_pos c1] at k
    exact (zr_if_eq_t (zl2) c1).trans k
  · rw [if_neg c1] at k
    refine (zr_if_eq_n (zl2) c1).trans ?_
    refine (zr_aload (v := zf b l1) rfl (zf_tA h _)).trans ?_
    refine (zr_gfr h (tr_fl_f zl1)).trans ?_
    refine (zr_iload (v := enc l4) rfl (enc_lt _)).trans ?_
    by_cases c2 : 0 ≤ l4 ∧ l4 < 16
    · rw [if_pos c2] at k
      refine (zr_iald h (ta_fl_f zl1) c2.1 (by have := c2.2; omega)).trans ?_
      exact (zr_goto).trans k
    · rw [if_neg c2] at k; cases k
theorem zs_23_51 (h : zOk b n f) {l0 : Nat} {l1 : Nat} {l2 : Int} {l3 : Int} {l4 : Int} {l5 : Int} {l6 : Nat} {l7 : Nat} (zl0 : zI_fl l0) (zl1 : zI_fl l1) (zl2 : zR l2) (zl3 : zR l3) (zl4 : zR l4) (zl5 : zR l5) (zl6 : ex_c2 l6 = false ∧ l6 < 1099511627776) (zl7 : ex_c2 l7 = false ∧ l7 < 1099511627776) (k : (if 0 ≤ l4 ∧ l4 < 16 then k23_60 V ST d (zCl AL V ST ex_km d) (zRn AL V ST ex_km d kt_23) (zP [zf b l0, zf b l1, enc l2, enc l3, enc l4, enc l5, l6, l7]) [enc (nz (2 * (nz (g (l1 + 2) l4))))] (zM n (zWf b f g)) else none) = some r) : k23_51 V ST d (zCl AL V ST ex_km d) (zRn AL V ST ex_km d kt_23) (zP [zf b l0, zf b l1, enc l2, enc l3, enc l4, enc l5, l6, l7]) [] (zM n (zWf b f g)) = some r := by
  unfold k23_51
  refine (zr_pshi 2 rfl).trans ?_
  refine (zr_aload (v := zf b l1) rfl (zf_tA h _)).trans ?_
  refine (zr_gfr h (tr_fl_y zl1)).trans ?_
  refine (zr_iload (v := enc l4) rfl (enc_lt _)).trans ?_
  by_cases c1 : 0 ≤ l4 ∧ l4 < 16
  · rw [if_pos c1] at k
    refine (zr_iald h (ta_fl_y zl1) c1.1 (by have := c1.2; omega)).trans ?_
    refine (zr_imul).trans ?_
    exact k
  · rw [if_neg c1] at k; cases k
theorem zs_23_35 (h : zOk b n f) {l0 : Nat} {l1 : Nat} {l2 : Int} {l3 : Int} {l4 : Int} {l5 : Nat} {l6 : Nat} {l7 : Nat} {s0 : Int} (zl0 : zI_fl l0) (zl1 : zI_fl l1) (zl2 : zR l2) (zl3 : zR l3) (zl4 : zR l4) (zl5 : ex_c2 l5 = false ∧ l5 < 1099511627776) (zl6 : ex_c2 l6 = false ∧ l6 < 1099511627776) (zl7 : ex_c2 l7 = false ∧ l7 < 1099511627776) (zs0 : zR s0) (k : (if l3 = 0 then zRn AL V ST ex_km d kt_23 51 (zP [zf b l0, zf b l1, enc l2, enc l3, enc l4, enc s0, l6, l7]) [] (zM n (zWf b f g)) else (if 0 ≤ l4 ∧ l4 < 16 then zRn AL V ST ex_km d kt_23 60 (zP [zf b l0, zf b l1, enc l2, enc l3, enc l4, enc s0, l6, l7]) [enc (nz (g (l1 + 2) l4))] (zM n (zWf b f g)) else none)) = some r) : k23_35 V ST d (zCl AL V ST ex_km d) (zRn AL V ST ex_km d kt_23) (zP [zf b l0, zf b l1, enc l2, enc l3, enc l4, l5, l6, l7]) [enc s0] (zM n (zWf b f g)) = some r := by
  unfold k23_35
  refine (zr_istore (w := enc l4) (vs' := [zf b l0, zf b l1, enc l2, enc l3, enc l4, enc s0, l6, l7]) rfl (enc_c2 _) (Nat.lt_trans (enc_lt _) (by decide)) (by decide) rfl (enc_lt _)).trans ?_
  refine (zr_iload (v := enc l3) rfl (enc_lt _)).trans ?_
  by_cases c1 : l3 = 0
  · rw [if_pos c1] at k
    exact (zr_if_eq_t (zl3) c1).trans k
  · rw [if_neg c1] at k
    refine (zr_if_eq_n (zl3) c1).trans ?_
    refine (zr_aload (v := zf b l1) rfl (zf_tA h _)).trans ?_
    refine (zr_gfr h (tr_fl_y zl1)).trans ?_
    refine (zr_iload (v := enc l4) rfl (enc_lt _)).trans ?_
    by_cases c2 : 0 ≤ l4 ∧ l4 < 16
    · rw [if_pos c2] at k
      refine (zr_iald h (ta_fl_y zl1) c2.1 (by have := c2.2; omega)).trans ?_
      exact (zr_goto).trans k
    · rw [if_neg c2] at k; cases k
theorem zs_23_28 (h : zOk b n f) {l0 : Nat} {l1 : Nat} {l2 : Int} {l3 : Int} {l4 : Int} {l5 : Nat} {l6 : Nat} {l7 : Nat} (zl0 : zI_fl l0) (zl1 : zI_fl l1) (zl2 : zR l2) (zl3 : zR l3) (zl4 : zR l4) (zl5 : ex_c2 l5 = false ∧ l5 < 1099511627776) (zl6 : ex_c2 l6 = false ∧ l6 < 1099511627776) (zl7 : ex_c2 l7 = false ∧ l7 < 1099511627776) (k : (if 0 ≤ l4 ∧ l4 < 16 then k23_35 V ST d (zCl AL V ST ex_km d) (zRn AL V ST ex_km d kt_23) (zP [zf b l0, zf b l1, enc l2, enc l3, enc l4, l5, l6, l7]) [enc (nz (g (l1 + 1) l4))] (zM n (zWf b f g)) else none) = some r) : k23_28 V ST d (zCl AL V ST ex_km d) (zRn AL V ST ex_km d kt_23) (zP [zf b l0, zf b l1, enc l2, enc l3, enc l4, l5, l6, l7]) [] (zM n (zWf b f g)) = some r := by
  unfold k23_28
  refine (zr_aload (v := zf b l1) rfl (zf_tA h _)).trans ?_
  refine (zr_gfr h (tr_fl_x zl1)).trans ?_
  refine (zr_iload (v := enc l4) rfl (enc_lt _)).trans ?_
  by_cases c1 : 0 ≤ l4 ∧ l4 < 16
  · rw [if_pos c1] at k
    refine (zr_iald h (ta_fl_x zl1) c1.1 (by have := c1.2; omega)).trans ?_
    exact k
  · rw [if_neg c1] at k; cases k
theorem zs_23_3 (h : zOk b n f) {l0 : Nat} {l1 : Nat} {l2 : Int} {l3 : Int} {l4 : Int} {l5 : Nat} {l6 : Nat} {l7 : Nat} (zl0 : zI_fl l0) (zl1 : zI_fl l1) (zl2 : zR l2) (zl3 : zR l3) (zl4 : zR l4) (zl5 : ex_c2 l5 = false ∧ l5 < 1099511627776) (zl6 : ex_c2 l6 = false ∧ l6 < 1099511627776) (zl7 : ex_c2 l7 = false ∧ l7 < 1099511627776) (k : (if l4 < nz (g l1 14) then (if l3 = 0 then zRn AL V ST ex_km d kt_23 28 (zP [zf b l0, zf b l1, enc l2, enc l3, enc l4, l5, l6, l7]) [] (zM n (zWf b f g)) else (if 0 ≤ l4 ∧ l4 < 16 then zRn AL V ST ex_km d kt_23 35 (zP [zf b l0, zf b l1, enc l2, enc l3, enc l4, l5, l6, l7]) [enc (nz (2 * (nz (g (l1 + 1) l4))))] (zM n (zWf b f g)) else none)) else zRn AL V ST ex_km d kt_23 135 (zP [zf b l0, zf b l1, enc l2, enc l3, enc l4, l5, l6, l7]) [] (zM n (zWf b f g))) = some r) : k23_3 V ST d (zCl AL V ST ex_km d) (zRn AL V ST ex_km d kt_23) (zP [zf b l0, zf b l1, enc l2, enc l3, enc l4, l5, l6, l7]) [] (zM n (zWf b f g)) = some r := by
  unfold k23_3
  refine (zr_iload (v := enc l4) rfl (enc_lt _)).trans ?_
  refine (zr_aload (v := zf b l1) rfl (zf_tA h _)).trans ?_
  refine (zr_gfi h (ti_fl_count zl1)).trans ?_
  by_cases c1 : l4 < nz (g l1 14)
  · rw [if_pos c1] at k
    refine (zr_icmp_ge_n (zl4) (nz_R _) c1).trans ?_
    refine (zr_iload (v := enc l3) rfl (enc_lt _)).trans ?_
    by_cases c2 : l3 = 0
    · rw [if_pos c2] at k
      exact (zr_if_eq_t (zl3) c2).trans k
    · rw [if_neg c2] at k
      refine (zr_if_eq_n (zl3) c2).trans ?_
      refine (zr_pshi 2 rfl).trans ?_
      refine (zr_aload (v := zf b l1) rfl (zf_tA h _)).trans ?_
      refine (zr_gfr h (tr_fl_x zl1)).trans ?_
      refine (zr_iload (v := enc l4) rfl (enc_lt _)).trans ?_
      by_cases c3 : 0 ≤ l4 ∧ l4 < 16
      · rw [if_pos c3] at k
        refine (zr_iald h (ta_fl_x zl1) c3.1 (by have := c3.2; omega)).trans ?_
        refine (zr_imul).trans ?_
        exact (zr_goto).trans k
      · rw [if_neg c3] at k; cases k
  · rw [if_neg c1] at k
    exact (zr_icmp_ge_t (zl4) (nz_R _) (Int.not_lt.mp c1)).trans k
theorem zs_23_0 (h : zOk b n f) {l0 : Nat} {l1 : Nat} {l2 : Int} {l3 : Int} (zl0 : zI_fl l0) (zl1 : zI_fl l1) (zl2 : zR l2) (zl3 : zR l3) (k : k23_3 V ST d (zCl AL V ST ex_km d) (zRn AL V ST ex_km d kt_23) (zP [zf b l0, zf b l1, enc l2, enc l3, enc 0, 137438953472, 137438953472, 137438953472]) [] (zM n (zWf b f g)) = some r) : k23_0 V ST d (zCl AL V ST ex_km d) (zRn AL V ST ex_km d kt_23) (zP [zf b l0, zf b l1, enc l2, enc l3, 137438953472, 137438953472, 137438953472, 137438953472]) [] (zM n (zWf b f g)) = some r := by
  unfold k23_0
  refine (zr_pshi 0 rfl).trans ?_
  refine (zr_istore (w := enc l3) (vs' := [zf b l0, zf b l1, enc l2, enc l3, enc 0, 137438953472, 137438953472, 137438953472]) rfl (enc_c2 _) (Nat.lt_trans (enc_lt _) (by decide)) (by decide) rfl (enc_lt _)).trans ?_
  exact k
theorem zs_24_82 (h : zOk b n f) {l0 : Nat} {l1 : Nat} {l2 : Int} {l3 : Int} {l4 : Int} {l5 : Int} {l6 : Int} (zl0 : zI_fl l0) (zl1 : zI_fl l1) (zl2 : zR l2) (zl3 : zR l3) (zl4 : zR l4) (zl5 : zR l5) (zl6 : zR l6) (k : some (137438953473, (zM n (zWf b f g))) = some r) : k24_82 V ST d (zCl AL V ST ex_km d) (zRn AL V ST ex_km d kt_24) (zP [zf b l0, zf b l1, enc l2, enc l3, enc l4, enc l5, enc l6]) [] (zM n (zWf b f g)) = some r := by
  unfold k24_82
  exact zr_return.trans k
theorem zs_24_71 (h : zOk b n f) {l0 : Nat} {l1 : Nat} {l2 : Int} {l3 : Int} {l4 : Int} {l5 : Int} {l6 : Int} (zl0 : zI_fl l0) (zl1 : zI_fl l1) (zl2 : zR l2) (zl3 : zR l3) (zl4 : zR l4) (zl5 : zR l5) (zl6 : zR l6) (k : (if 0 ≤ l2 ∧ l2 < 16 then zTh (zCl AL V ST ex_km d 18 [zf b l0, enc l3, enc (nz (g (l1 + 11) l2))] (zM n (zWf b f g))) (zM n (zWf b f g)) [] (fun S M => k24_82 V ST d (zCl AL V ST ex_km d) (zRn AL V ST ex_km d kt_24) (zP [zf b l0, zf b l1, enc l2, enc l3, enc l4, enc l5, enc l6]) S M) else none) = some r) : k24_71 V ST d (zCl AL V ST ex_km d) (zRn AL V ST ex_km d kt_24) (zP [zf b l0, zf b l1, enc l2, enc l3, enc l4, enc l5, enc l6]) [] (zM n (zWf b f g)) = some r := by
  unfold k24_71
  refine (zr_aload (v := zf b l0) rfl (zf_tA h _)).trans ?_
  refine (zr_iload (v := enc l3) rfl (enc_lt _)).trans ?_
  refine (zr_aload (v := zf b l1) rfl (zf_tA h _)).trans ?_
  refine (zr_gfr h (tr_fl_lastHand zl1)).trans ?_
  refine (zr_iload (v := enc l2) rfl (enc_lt _)).trans ?_
  by_cases c1 : 0 ≤ l2 ∧ l2 < 16
  · rw [if_pos c1] at k
    refine (zr_iald h (ta_fl_lastHand zl1) c1.1 (by have := c1.2; omega)).trans ?_
    refine zr_invV h [enc (nz (g (l1 + 11) l2)), enc l3] rfl (tk_fl zl0) (zA_cons (enc_l _) (zA_cons (enc_l _) zA_nil)) (zA_nil) (by decide) ?_
    exact k
  · rw [if_neg c1] at k; cases k
theorem zs_24_24 (h : zOk b n f) {l0 : Nat} {l1 : Nat} {l2 : Int} {l3 : Int} {l4 : Int} {l5 : Int} {l6 : Int} (zl0 : zI_fl l0) (zl1 : zI_fl l1) (zl2 : zR l2) (zl3 : zR l3) (zl4 : zR l4) (zl5 : zR l5) (zl6 : zR l6) (k : (if 0 ≤ l2 ∧ l2 < 16 then (if 0 ≤ l3 ∧ l3 < 16 then (if 0 ≤ l3 ∧ l3 < 16 then (if 0 ≤ l2 ∧ l2 < 16 then (if 0 ≤ l3 ∧ l3 < 16 then (if 0 ≤ l2 ∧ l2 < 16 then (if nz ((upd (upd g (l0 + 3) l3 (nz (g (l1 + 3) l2))) (l0 + 9) l3 (nz ((nz ((upd g (l0 + 3) l3 (nz (g (l1 + 3) l2))) (l0 + 9) l3)) + (nz ((upd g (l0 + 3) l3 (nz (g (l1 + 3) l2))) (l1 + 9) l2))))) (l1 + 10) l2) = 0 then zRn AL V ST ex_km d kt_24 82 (zP [zf b l0, zf b l1, enc l2, enc l3, enc l4, enc l5, enc l6]) [] (zM n (zWf b f (upd (upd g (l0 + 3) l3 (nz (g (l1 + 3) l2))) (l0 + 9) l3 (nz ((nz ((upd g (l0 + 3) l3 (nz (g (l1 + 3) l2))) (l0 + 9) l3)) + (nz ((upd g (l0 + 3) l3 (nz (g (l1 + 3) l2))) (l1 + 9) l2))))))) else (if 0 ≤ l2 ∧ l2 < 16 then zTh (zCl AL V ST ex_km d 18 [zf b l0, enc l3, enc (nz ((upd (upd g (l0 + 3) l3 (nz (g (l1 + 3) l2))) (l0 + 9) l3 (nz ((nz ((upd g (l0 + 3) l3 (nz (g (l1 + 3) l2))) (l0 + 9) l3)) + (nz ((upd g (l0 + 3) l3 (nz (g (l1 + 3) l2))) (l1 + 9) l2))))) (l1 + 10) l2))] (zM n (zWf b f (upd (upd g (l0 + 3) l3 (nz (g (l1 + 3) l2))) (l0 + 9) l3 (nz ((nz ((upd g (l0 + 3) l3 (nz (g (l1 + 3) l2))) (l0 + 9) l3)) + (nz ((upd g (l0 + 3) l3 (nz (g (l1 + 3) l2))) (l1 + 9) l2)))))))) (zM n (zWf b f (upd (upd g (l0 + 3) l3 (nz (g (l1 + 3) l2))) (l0 + 9) l3 (nz ((nz ((upd g (l0 + 3) l3 (nz (g (l1 + 3) l2))) (l0 + 9) l3)) + (nz ((upd g (l0 + 3) l3 (nz (g (l1 + 3) l2))) (l1 + 9) l2))))))) [] (fun S M => k24_71 V ST d (zCl AL V ST ex_km d) (zRn AL V ST ex_km d kt_24) (zP [zf b l0, zf b l1, enc l2, enc l3, enc l4, enc l5, enc l6]) S M) else none)) else none) else none) else none) else none) else none) else none) = some r) : k24_24 V ST d (zCl AL V ST ex_km d) (zRn AL V ST ex_km d kt_24) (zP [zf b l0, zf b l1, enc l2, enc l3, enc l4, enc l5, enc l6]) [] (zM n (zWf b f g)) = some r := by
  unfold k24_24
  refine (zr_aload (v := zf b l0) rfl (zf_tA h _)).trans ?_
  refine (zr_gfr h (tr_fl_f zl0)).trans ?_
  refine (zr_iload (v := enc l3) rfl (enc_lt _)).trans ?_
  refine (zr_aload (v := zf b l1) rfl (zf_tA h _)).trans ?_
  refine (zr_gfr h (tr_fl_f zl1)).trans ?_
  refine (zr_iload (v := enc l2) rfl (enc_lt _)).trans ?_
  by_cases c1 : 0 ≤ l2 ∧ l2 < 16
  · rw [if_pos c1] at k
    refine (zr_iald h (ta_fl_f zl1) c1.1 (by have := c1.2; omega)).trans ?_
    by_cases c2 : 0 ≤ l3 ∧ l3 < 16
    · rw [if_pos c2] at k
      refine (zr_iast h (ta_fl_f zl0) c2.1 (by have := c2.2; omega)).trans ?_
      refine (zr_aload (v := zf b l0) rfl (zf_tA h _)).trans ?_
      refine (zr_gfr h (tr_fl_turns zl0)).trans ?_
      refine (zr_iload (v := enc l3) rfl (enc_lt _)).trans ?_
      refine (zr_dup2 (enc_c2 _) (zf_c2 h _)).trans ?_
      by_cases c3 : 0 ≤ l3 ∧ l3 < 16
      · rw [if_pos c3] at k
        refine (zr_iald h (ta_fl_turns zl0) c3.1 (by have := c3.2; omega)).trans ?_
        refine (zr_aload (v := zf b l1) rfl (zf_tA h _)).trans ?_
        refine (zr_gfr h (tr_fl_turns zl1)).trans ?_
        refine (zr_iload (v := enc l2) rfl (enc_lt _)).trans ?_
        by_cases c4 : 0 ≤ l2 ∧ l2 < 16
        · rw [if_pos c4] at k
          refine (zr_iald h (ta_fl_turns zl1) c4.1 (by have := c4.2; omega)).trans ?_
          refine (zr_iadd).trans ?_
          by_cases c5 : 0 ≤ l3 ∧ l3 < 16
          · rw [if_pos c5] at k
            refine (zr_iast h (ta_fl_turns zl0) c5.1 (by have := c5.2; omega)).trans ?_
            refine (zr_aload (v := zf b l1) rfl (zf_tA h _)).trans ?_
            refine (zr_gfr h (tr_fl_firstHand zl1)).trans ?_
            refine (zr_iload (v := enc l2) rfl (enc_lt _)).trans ?_
            by_cases c6 : 0 ≤ l2 ∧ l2 < 16
            · rw [if_pos c6] at k
              refine (zr_iald h (ta_fl_firstHand zl1) c6.1 (by have := c6.2; omega)).trans ?_
              by_cases c7 : nz ((upd (upd g (l0 + 3) l3 (nz (g (l1 + 3) l2))) (l0 + 9) l3 (nz ((nz ((upd g (l0 + 3) l3 (nz (g (l1 + 3) l2))) (l0 + 9) l3)) + (nz ((upd g (l0 + 3) l3 (nz (g (l1 + 3) l2))) (l1 + 9) l2))))) (l1 + 10) l2) = 0
              · rw [if_pos c7] at k
                exact (zr_if_eq_t (nz_R _) c7).trans k
              · rw [if_neg c7] at k
                refine (zr_if_eq_n (nz_R _) c7).trans ?_
                refine (zr_aload (v := zf b l0) rfl (zf_tA h _)).trans ?_
                refine (zr_iload (v := enc l3) rfl (enc_lt _)).trans ?_
                refine (zr_aload (v := zf b l1) rfl (zf_tA h _)).trans ?_
                refine (zr_gfr h (tr_fl_firstHand zl1)).trans ?_
                refine (zr_iload (v := enc l2) rfl (enc_lt _)).trans ?_
                by_cases c8 : 0 ≤ l2 ∧ l2 < 16
                · rw [if_pos c8] at k
                  refine (zr_iald h (ta_fl_firstHand zl1) c8.1 (by have := c8.2; omega)).trans ?_
                  refine zr_invV h [enc (nz ((upd (upd g (l0 + 3) l3 (nz (g (l1 + 3) l2))) (l0 + 9) l3 (nz ((nz ((upd g (l0 + 3) l3 (nz (g (l1 + 3) l2))) (l0 + 9) l3)) + (nz ((upd g (l0 + 3) l3 (nz (g (l1 + 3) l2))) (l1 + 9) l2))))) (l1 + 10) l2)), enc l3] rfl (tk_fl zl0) (zA_cons (enc_l _) (zA_cons (enc_l _) zA_nil)) (zA_nil) (by decide) ?_
                  exact k
                · rw [if_neg c8] at k; cases k
            · rw [if_neg c6] at k; cases k
          · rw [if_neg c5] at k; cases k
        · rw [if_neg c4] at k; cases k
      · rw [if_neg c3] at k; cases k
    · rw [if_neg c2] at k; cases k
  · rw [if_neg c1] at k; cases k
theorem zs_24_0 (h : zOk b n f) {l0 : Nat} {l1 : Nat} {l2 : Int} {l3 : Int} {l4 : Int} {l5 : Int} {l6 : Int} (zl0 : zI_fl l0) (zl1 : zI_fl l1) (zl2 : zR l2) (zl3 : zR l3) (zl4 : zR l4) (zl5 : zR l5) (zl6 : zR l6) (k : (if 0 ≤ l3 ∧ l3 < 16 then (if 0 ≤ l3 ∧ l3 < 16 then zTh (zCl AL V ST ex_km d 14 [zf b l0, enc l3, enc l6, enc 1] (zM n (zWf b f (upd (upd g (l0 + 1) l3 l4) (l0 + 2) l3 l5)))) (zM n (zWf b f (upd (upd g (l0 + 1) l3 l4) (l0 + 2) l3 l5))) [] (fun S M => k24_24 V ST d (zCl AL V ST ex_km d) (zRn AL V ST ex_km d kt_24) (zP [zf b l0, zf b l1, enc l2, enc l3, enc l4, enc l5, enc l6]) S M) else none) else none) = some r) : k24_0 V ST d (zCl AL V ST ex_km d) (zRn AL V ST ex_km d kt_24) (zP [zf b l0, zf b l1, enc l2, enc l3, enc l4, enc l5, enc l6]) [] (zM n (zWf b f g)) = some r := by
  unfold k24_0
  refine (zr_aload (v := zf b l0) rfl (zf_tA h _)).trans ?_
  refine (zr_gfr h (tr_fl_x zl0)).trans ?_
  refine (zr_iload (v := enc l3) rfl (enc_lt _)).trans ?_
  refine (zr_iload (v := enc l4) rfl (enc_lt _)).trans ?_
  by_cases c1 : 0 ≤ l3 ∧ l3 < 16
  · rw [if_pos c1] at k
    refine (zr_iast h (ta_fl_x zl0) c1.1 (by have := c1.2; omega)).trans ?_
    refine (zr_aload (v := zf b l0) rfl (zf_tA h _)).trans ?_
    refine (zr_gfr h (tr_fl_y zl0)).trans ?_
    refine (zr_iload (v := enc l3) rfl (enc_lt _)).trans ?_
    refine (zr_iload (v := enc l5) rfl (enc_lt _)).trans ?_
    by_cases c2 : 0 ≤ l3 ∧ l3 < 16
    · rw [if_pos c2] at k
      refine (zr_iast h (ta_fl_y zl0) c2.1 (by have := c2.2; omega)).trans ?_
      refine (zr_aload (v := zf b l0) rfl (zf_tA h _)).trans ?_
      refine (zr_iload (v := enc l3) rfl (enc_lt _)).trans ?_
      refine (zr_iload (v := enc l6) rfl (enc_lt _)).trans ?_
      refine (zr_pshi 1 rfl).trans ?_
      refine zr_invV h [enc 1, enc l6, enc l3] rfl (tk_fl zl0) (zA_cons (enc_l _) (zA_cons (enc_l _) (zA_cons (enc_l _) zA_nil))) (zA_nil) (by decide) ?_
      exact k
    · rw [if_neg c2] at k; cases k
  · rw [if_neg c1] at k; cases k
theorem zs_26_35 (h : zOk b n f) {l1 : Int} (zl1 : zR l1) (k : some (137438953473, (zM n (zWf b f (upd (upd g 182 3 0) 182 4 0)))) = some r) : k26_35 V ST d (zCl AL V ST ex_km d) (zRn AL V ST ex_km d kt_26) (zP [zf b 182, enc l1]) [] (zM n (zWf b f g)) = some r := by
  unfold k26_35
  refine (zr_aload (v := zf b 182) rfl (zf_tA h _)).trans ?_
  refine (zr_pshi 0 rfl).trans ?_
  refine (zr_pfi h (ti_flow_breaks rfl)).trans ?_
  refine (zr_aload (v := zf b 182) rfl (zf_tA h _)).trans ?_
  refine (zr_pshi 0 rfl).trans ?_
  refine (zr_pfi h (ti_flow_clashCount rfl)).trans ?_
  exact zr_return.trans k
theorem zs_26_2 (h : zOk b n f) {l1 : Int} (zl1 : zR l1) (k : (if l1 < 8 then (if 0 ≤ l1 ∧ l1 < 8 then (if 0 ≤ l1 ∧ l1 < 8 then (if 0 ≤ l1 ∧ l1 < 8 then zRn AL V ST ex_km d kt_26 2 (zP [zf b 182, enc (nz (l1 + 1))]) [] (zM n (zWf b f (upd (upd (upd g 183 l1 0) 184 l1 0) 185 l1 0))) else none) else none) else none) else zRn AL V ST ex_km d kt_26 35 (zP [zf b 182, enc l1]) [] (zM n (zWf b f g))) = some r) : k26_2 V ST d (zCl AL V ST ex_km d) (zRn AL V ST ex_km d kt_26) (zP [zf b 182, enc l1]) [] (zM n (zWf b f g)) = some r := by
  unfold k26_2
  refine (zr_iload (v := enc l1) rfl (enc_lt _)).trans ?_
  refine (zr_pshi 8 rfl).trans ?_
  by_cases c1 : l1 < 8
  · rw [if_pos c1] at k
    refine (zr_icmp_ge_n (zl1) ((by unfold zR; omega)) c1).trans ?_
    refine (zr_aload (v := zf b 182) rfl (zf_tA h _)).trans ?_
    refine (zr_gfr h (tr_flow_lastTurns rfl)).trans ?_
    refine (zr_iload (v := enc l1) rfl (enc_lt _)).trans ?_
    refine (zr_pshi 0 rfl).trans ?_
    by_cases c2 : 0 ≤ l1 ∧ l1 < 8
    · rw [if_pos c2] at k
      refine (zr_iast h (ta_flow_lastTurns rfl) c2.1 (by have := c2.2; omega)).trans ?_
      refine (zr_aload (v := zf b 182) rfl (zf_tA h _)).trans ?_
      refine (zr_gfr h (tr_flow_flowing rfl)).trans ?_
      refine (zr_iload (v := enc l1) rfl (enc_lt _)).trans ?_
      refine (zr_pshi 0 rfl).trans ?_
      by_cases c3 : 0 ≤ l1 ∧ l1 < 8
      · rw [if_pos c3] at k
        refine (zr_iast h (ta_flow_flowing rfl) c3.1 (by have := c3.2; omega)).trans ?_
        refine (zr_aload (v := zf b 182) rfl (zf_tA h _)).trans ?_
        refine (zr_gfr h (tr_flow_hands rfl)).trans ?_
        refine (zr_iload (v := enc l1) rfl (enc_lt _)).trans ?_
        refine (zr_pshi 0 rfl).trans ?_
        by_cases c4 : 0 ≤ l1 ∧ l1 < 8
        · rw [if_pos c4] at k
          refine (zr_iast h (ta_flow_hands rfl) c4.1 (by have := c4.2; omega)).trans ?_
          refine (zr_iinc (w := zf b 182) (x := l1) (i' := 1) (vs' := [zf b 182, enc (nz (l1 + 1))]) rfl (zf_c2 h _) (Nat.lt_trans (zf_l h _) (by decide)) rfl rfl (by decide) rfl).trans ?_
          exact (zr_goto).trans k
        · rw [if_neg c4] at k; cases k
      · rw [if_neg c3] at k; cases k
    · rw [if_neg c2] at k; cases k
  · rw [if_neg c1] at k
    exact (zr_icmp_ge_t (zl1) ((by unfold zR; omega)) (Int.not_lt.mp c1)).trans k
end
end
