noncomputable section
/-! one turn of the boxes' loop where nobody stands -/
theorem bx_Fmk {M w n xs ys : Nat} (hM : M < 2 ^ (40 * ex_get M 0)) (h3 : 3 ≤ ex_get M 0) (h0 : ex_get M 0 ≤ 200001) (h1 : ex_get M 1 ≤ 1000000) (h2 : ex_get M 2 ≤ 100000000) (hF : bx_F M w n xs ys) (hw : w + 5 ≤ ex_get M 0) (hx : xs + 1 + n ≤ ex_get M 0) (hy : ys + 1 + n ≤ ex_get M 0) : bx_F (ex_mk M (ex_blk 64 4 0) 4 (ex_get M 0)) w n xs ys := by
  have hg : ∀ j, 3 ≤ j → j < ex_get M 0 → ex_get (ex_mk M (ex_blk 64 4 0) 4 (ex_get M 0)) j = ex_get M j := fun j a1 a2 => by
    rw [ex_mk_get hM h3 (by omega) (by omega) (by omega), if_neg (by omega), if_neg (by omega), if_neg (by omega), if_pos a2]
  obtain ⟨⟨w1, w2⟩, f1, f2, f3, f4, f5, ⟨x1, x2⟩, ⟨y1, y2⟩, f6, f7, f8, f9, f10, f11⟩ := hF
  refine ⟨⟨w1, w2⟩, ?_, ?_, f3, ?_, ?_, ⟨x1, x2⟩, ⟨y1, y2⟩, ?_, ?_, ?_, ?_, fun k hk => ?_, fun k hk => ?_⟩
  · rw [hg _ (by omega) (by omega)]; exact f1
  · rw [hg _ (by omega) (by omega)]; exact f2
  · rw [hg _ (by omega) (by omega)]; exact f4
  · rw [hg _ (by omega) (by omega)]; exact f5
  · rw [hg _ (by omega) (by omega)]; exact f6
  · rw [hg _ (by omega) (by omega)]; exact f7
  · rw [hg _ (by omega) (by omega)]; exact f8
  · rw [hg _ (by omega) (by omega)]; exact f9
  · rw [hg _ (by omega) (by omega)]; exact f10 k hk
  · rw [hg _ (by omega) (by omega)]; exact f11 k hk
theorem bx_blk : ex_get (ex_blk 64 4 0) 0 = 1088 ∧ ex_blk 64 4 0 < 2 ^ (40 * 5) ∧ ∀ k, k < 4 → ex_get (ex_blk 64 4 0) (k + 1) = 0 := by decide +kernel
theorem bx_turn {V : ex_V} {ST : Nat → Nat} {d : Nat} {call : Nat → List Nat → Nat → ex_R} {L M w i0 s a0 bx by_ u6 u7 u8 u9 : Nat} (hM : M < 2 ^ (40 * ex_get M 0)) (h3 : 3 ≤ ex_get M 0) (h0 : ex_get M 0 ≤ 200001) (h1 : ex_get M 1 ≤ 1000000) (h2 : ex_get M 2 ≤ 100000000)
    (hw : 3 ≤ w) (hwt : w < ex_get M 0) (hk : ex_get M w % 256 = 14) (hs : s < 4294967296) (hbx : bx < 4294967296) (hby : by_ < 4294967296) (hle : ex_bi by_ ≤ 2147483708)
    (hL : bx_L L [8589934592 + w, i0, s, a0, bx, by_, u6, u7, u8, u9])
    (hc : call 175 [8589934592 + w, bx, by_] (ex_mk M (ex_blk 64 4 0) 4 (ex_get M 0)) = some (4294967295, ex_mk M (ex_blk 64 4 0) 4 (ex_get M 0))) :
    ∃ Le, bx_L Le [8589934592 + w, i0, s, a0, bx, Nat.mod (Nat.add by_ 1) 4294967296, 8589934592 + ex_get M 0, 0, 0, 4294967295] ∧ ∀ ex, bx_R V ST d call ex kt_237 6 28 L [] M = ex 28 Le [] (ex_set (ex_mk M (ex_blk 64 4 0) 4 (ex_get M 0)) (ex_get M 0 + (0 + 1)) 4294967295) := by
  generalize ht : ex_get M 0 = t at *
  have hg := ex_mk_get (B := ex_blk 64 4 0) (n := 4) hM h3 (by omega) (by omega) (by omega)
  have gt : ex_get (ex_mk M (ex_blk 64 4 0) 4 t) t = 1088 := by
    rw [hg, if_neg (by omega), if_neg (by omega), if_neg (by omega), if_neg (by omega), Nat.sub_self]; exact bx_blk.1
  have gw : ex_get (ex_mk M (ex_blk 64 4 0) 4 t) w % 256 = 14 := by
    rw [hg, if_neg (by omega), if_neg (by omega), if_neg (by omega), if_pos (by omega)]; exact hk
  generalize hM1 : ex_mk M (ex_blk 64 4 0) 4 t = M1 at *
  have tf : ex_tA (8589934592 + w) = true := ex_tA_iff.mpr (by omega)
  have tc : ex_tA (8589934592 + t) = true := ex_tA_iff.mpr (by omega)
  have b0 : ex_bi 0 = 2147483648 := by decide
  have b1 : ex_bi 1 = 2147483649 := by decide
  have b4 : ex_bi 4 = 2147483652 := by decide
  have b60 : ex_bi 60 = 2147483708 := by decide
  have hL1 := bx_set (n := 6) (v := 8589934592 + t) hL (by omega)
  have hL2 := bx_set (n := 7) (v := 1) hL1 (by omega)
  have hL3 := bx_set (n := 8) (v := 0) hL2 (by omega)
  have hL4 := bx_set (n := 9) (v := 4294967295) hL3 (by omega)
  have hL5 := bx_set (n := 7) (v := 0) hL4 (by omega)
  have hL6 := bx_set (n := 8) (v := 1) hL5 (by omega)
  have hL7 := bx_set (n := 8) (v := 0) hL6 (by omega)
  have hL8 := bx_set (n := 8) (v := 0) hL7 (by omega)
  have hmd : Nat.mod (Nat.add by_ 1) 4294967296 < 4294967296 := Nat.mod_lt _ (by decide)
  have hL9 := bx_set (n := 5) (v := Nat.mod (Nat.add by_ 1) 4294967296) hL8 (by omega)
  refine ⟨_, hL9, fun ex => ?_⟩
  rw [bx_Rs (n := 5) (show kt_237 28 = some k237_28 from rfl)]
  unfold k237_28
  refine (bx_iload hL rfl hby).trans ?_
  refine bx_psh.trans ?_
  refine (bx_icmp_gt hby (by decide) (by rw [b60]; exact hle)).trans ?_
  refine bx_psh.trans ?_
  refine (bx_newarr (by decide) (by omega) (by omega) h1 h2).trans ?_
  rw [ht, hM1]
  refine (bx_astore (n := 5) hL rfl (by omega) tc).trans ?_
  refine bx_psh.trans ?_
  refine (bx_istore (n := 6) hL1 rfl (by omega) (by decide)).trans ?_
  refine bx_psh.trans ?_
  refine (bx_istore (n := 7) hL2 rfl (by decide) (by decide)).trans ?_
  unfold k237_46
  refine (bx_iload hL3 rfl (by decide)).trans ?_
  refine bx_psh.trans ?_
  refine (bx_icmp_ge (by decide) (by decide) (by rw [b0, b4]; decide)).trans ?_
  refine (bx_iload hL3 rfl (by decide)).trans ?_
  refine bx_if_eq1.trans ?_
  refine (bx_aload hL3 rfl tf).trans ?_
  refine (bx_iload hL3 rfl hbx).trans ?_
  refine (bx_iload hL3 rfl hs).trans ?_
  refine (bx_iload hL3 rfl (by decide)).trans ?_
  refine bx_psh.trans ?_
  refine (bx_rem0 (aux := 0)).trans ?_
  refine (bx_mul0 hs).trans ?_
  refine (bx_add0 hbx).trans ?_
  refine (bx_iload hL3 rfl hby).trans ?_
  refine (bx_iload hL3 rfl hs).trans ?_
  refine (bx_iload hL3 rfl (by decide)).trans ?_
  refine bx_psh.trans ?_
  refine (bx_div0 (aux := 0)).trans ?_
  refine (bx_mul0 hs).trans ?_
  refine (bx_add0 hby).trans ?_
  refine (bx_inv3 hbx hby hw (by omega) gw hc (by decide)).trans ?_
  refine (bx_istore (n := 8) hL3 rfl (by decide) (by decide)).trans ?_
  refine (bx_iload hL4 rfl (by decide)).trans ?_
  refine bx_psh.trans ?_
  refine (bx_icmp_eq_t (by decide)).trans ?_
  rw [bx_Rs (n := 4) (show kt_237 105 = some k237_105 from rfl)]
  unfold k237_105
  refine bx_psh.trans ?_
  unfold k237_106
  refine (bx_istore (n := 6) hL4 rfl (by omega) (by decide)).trans ?_
  refine (bx_aload hL5 rfl tc).trans ?_
  refine (bx_iload hL5 rfl (by decide)).trans ?_
  refine (bx_iload hL5 rfl (by decide)).trans ?_
  refine (bx_iastore (by omega) (by omega) (by rw [gt]) (by rw [gt]; decide) (by decide)).trans ?_
  refine (bx_iinc (n := 7) hL5 rfl (by decide) rfl (by decide)).trans ?_
  refine bx_goto.trans ?_
  rw [show Nat.mod (Nat.add 0 1) 4294967296 = 1 from rfl]
  rw [bx_Rs (n := 3) (show kt_237 46 = some k237_46 from rfl)]
  unfold k237_46
  refine (bx_iload hL6 rfl (by decide)).trans ?_
  refine bx_psh.trans ?_
  refine (bx_icmp_ge (by decide) (by decide) (by rw [b1, b4]; decide)).trans ?_
  refine (bx_iload hL6 rfl (by decide)).trans ?_
  refine bx_if_eq_t.trans ?_
  rw [bx_Rs (n := 2) (show kt_237 121 = some k237_121 from rfl)]
  unfold k237_121
  refine bx_psh.trans ?_
  refine (bx_istore (n := 7) hL6 rfl (by decide) (by decide)).trans ?_
  unfold k237_124
  refine (bx_iload hL7 rfl (by decide)).trans ?_
  refine bx_psh.trans ?_
  refine (bx_icmp_ge (by decide) (by decide) (by rw [b0, b4]; decide)).trans ?_
  refine (bx_iload hL7 rfl (by decide)).trans ?_
  refine bx_if_eq_t.trans ?_
  rw [bx_Rs (n := 1) (show kt_237 156 = some k237_156 from rfl)]
  unfold k237_156
  refine bx_psh.trans ?_
  refine (bx_istore (n := 7) hL7 rfl (by decide) (by decide)).trans ?_
  unfold k237_159
  refine (bx_iload hL8 rfl (by decide)).trans ?_
  refine bx_psh.trans ?_
  refine (bx_icmp_ge (by decide) (by decide) (by rw [b0, b4]; decide)).trans ?_
  refine (bx_iload hL8 rfl (by decide)).trans ?_
  refine bx_if_eq_t.trans ?_
  rw [bx_Rs (n := 0) (show kt_237 196 = some k237_196 from rfl)]
  unfold k237_196
  refine (bx_iinc (n := 4) hL8 rfl (by omega) rfl hby).trans ?_
  exact bx_goto
end
