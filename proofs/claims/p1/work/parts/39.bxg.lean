noncomputable section
section
variable {E : ex_G} {b : Nat} {H0 : Heap} {p : Program} {l : Launch} {e : Env} {R : Room} {s : State} {m : MethodId} {args : Array Value} {below : List Frame} {meth : Method} {c : Code} {mc ms : Nat} {rM : Nat × Nat}
/-- a frame's state, with less told of its locals and store -/
theorem bx_SR {Hs : Heap} {G Gc : List Nat} {ad adc : Nat → Nat} {L Lc L2 v M Mc M2 m : Nat} {ls : Array Slot} {st : List Value} {H Hq : Heap} {locs : List Loc} {G0 G1 : List Nat} {ad0 ad1 : Nat → Nat} (hq : ex_SR E b H0 Hs G1 ad1 10 Gc adc Lc [] Mc ls st H locs) (h0 : ex_Rep E b G ad M Hq) (hs : ∀ w ∈ G, w ∈ Gc) (hG0 : ∀ w ∈ G0, w ∈ G ∧ adc w = ad0 w)
    (hm : ∀ j, 3 ≤ j → j < ex_get M 0 → ex_get Mc j = ex_get M j) (hok : ∀ i, i < 10 → ex_okc G (ex_get L i)) (hL : ∀ i, i < 5 → ex_get Lc i = ex_get L i) (hL5 : ex_get Lc 5 = v) (hv : ex_okc G v) (hw : bx_Lw L L2 v) (hM : bx_Mw M M2 m) : ex_SR E b H0 Hs G0 ad0 10 G adc L2 [] M2 ls st H locs := by
  obtain ⟨q1, q2, q3, q4, q5, q6, q7, q8⟩ := hq
  obtain ⟨w1, w2, w3⟩ := hw
  obtain ⟨m1, m2, m3⟩ := hM
  have h3 : 3 ≤ ex_get M 0 := h0.2.2.2.2.2.2.1.1
  refine ⟨⟨q1.1, q1.2.1, fun i hi hne => ?_⟩, fun i hi => ?_, q3, (fun x hx => nomatch hx), bx_sub q5 h0 hs hm m1 (bx_lt m1 h3 h0.2.2.2.2.2.1), hG0, q7, q8⟩
  · have h6 : i < 6 := Nat.lt_of_not_le fun z => hne (w3 i z hi)
    have e : ex_get L2 i = ex_get Lc i := by
      by_cases a : i < 5
      · rw [w1 i a, hL i a]
      · have : i = 5 := by omega
        subst this
        rw [w2, hL5]
    rw [e] at hne ⊢
    exact q1.2.2 i hi hne
  · by_cases a : i < 5
    · rw [w1 i a]; exact hok i hi
    · by_cases a5 : i = 5
      · subst a5; rw [w2]; exact hv
      · rw [w3 i (by omega) hi]; exact ex_okc_ge (by decide)
/-- m empty places -/
theorem bx_go {V : ex_V} {ST : Nat → Nat} {d : Nat} (hl : l.stackTraces = false) (hV : ex_VOK E V) (hCW : ex_CW ex_Xc) (hCT : ex_CT) (hd : 1 ≤ d)
    (b1 : p.tables.exec = Jvm.exec) (b2 : c.code = (ex_inf 237).2.1) (b3 : c.maxLocals = 10) (b4 : ex_Wd ex_Xc E b ST H0 s) (b5 : va_S (fun q => b ≤ q) H0 s.heap []) (b6 : s.vm.findClass (ex_inf 237).1.cls = some m.cls) (b7 : ∀ w ∈ ex_TT ex_Xc.2.2, w.before args s = true) (b8 : meth.sig.returnType = (ex_inf 237).2.2.2.1) (b9 : meth.name = (ex_inf 237).1.name) (b10 : meth.locks = false) (b11 : R = ex_rm d mc ms) (b12 : c.exceptionTable.toList = tableOf (ex_hh (ex_inf 237)))
    {exj : Nat → ex_K} (kj : ∀ (G0 : List Nat) (ad0 : Nat → Nat) t, ex_Z E b H0 G0 ad0 10 p l e R s m args below meth c mc ms rM (exj t) t) {w n xs ys sp bx : Nat} (hsp : sp < 4294967296) (hbx : bx < 4294967296) :
    ∀ k lo L M L2 M2, bx_F M w n xs ys → w + 5 ≤ ex_get M 0 → xs + 1 + n ≤ ex_get M 0 → ys + 1 + n ≤ ex_get M 0 → ex_get M 0 ≤ 200001 → ex_get M 1 + k ≤ 1000000 → ex_get M 2 + 4 * k ≤ 100000000 →
      ex_get L 0 = 8589934592 + w → ex_get L 2 = sp → ex_get L 4 = bx → ex_get L 5 = ex_bi lo → 2147483500 ≤ lo → lo + k ≤ 2147483709 →
      (∀ j, j < n → ex_get M (xs + (j + 1)) ≠ bx ∨ ex_bi (ex_get M (ys + (j + 1))) < lo ∨ lo + k ≤ ex_bi (ex_get M (ys + (j + 1)))) →
      bx_Lw L L2 (ex_bi (lo + k)) → bx_Mw M M2 k → exj 28 L2 [] M2 = some rM → ∀ (G0 : List Nat) (ad0 : Nat → Nat), ex_A E b H0 G0 ad0 10 p l e R s m args below meth c mc ms rM L [] M 28 := by
  have x0 : ∀ lo, lo < 4294967296 → ex_bi lo < 4294967296 := fun lo h => by
    by_cases a : lo < 2147483648
    · rw [show ex_bi lo = lo + 2147483648 from ex_xhb a]; omega
    · rw [show ex_bi lo = lo - 2147483648 from ex_xhb2 h (by omega)]; omega
  intro k
  induction k with
  | zero =>
    intro lo L M L2 M2 hF _ _ _ _ _ _ g0 g2 g4 g5 l1 l2 hno hL hM h G0 ad0
    obtain ⟨⟨t1, t2⟩, hw⟩ := kj G0 ad0 28 L2 [] M2 h
    have hm1 : ex_get M2 1 = ex_get M 1 := hM.2.1
    have hm2 : ex_get M2 2 = ex_get M 2 := hM.2.2
    rw [hm1] at t1 hw
    rw [hm2] at t2 hw
    refine ⟨⟨t1, t2⟩, fun G ad ls st H locs cells slots q hc hs => ?_⟩
    have hok := q.2.1
    refine hw G ad ls st H locs cells slots (bx_SR q q.2.2.2.2.1 (fun _ h => h) q.2.2.2.2.2.1 (fun _ _ _ => rfl) hok (fun _ _ => rfl) (v := ex_bi (lo + 0)) g5 (ex_okc_lt (Nat.lt_trans (x0 _ (by omega)) (by decide))) hL hM) hc hs
  | succ k ih =>
    intro lo L M L2 M2 hF s1 s2 s3 s4 s5 s6 g0 g2 g4 g5 l1 l2 hno hL hM h G0 ad0
    obtain ⟨n1, n2, n3⟩ := bx_next l1 (show lo < 2147483709 by omega)
    obtain ⟨d', rfl⟩ : ∃ d', d = d' + 1 := ⟨d - 1, by omega⟩
    -- the state behind one turn
    have hL1 := bx_upL (L := L) (v := ex_bi (lo + 1)) (Nat.lt_trans (x0 _ (by omega)) (by decide))
    generalize hL1e : ex_set (ex_set (ex_set (ex_set (ex_set L 5 (ex_bi (lo + 1))) 6 137438953472) 7 137438953472) 8 137438953472) 9 137438953472 = L1 at hL1
    have hM1 := bx_upM (M := M) (m := 1) (by omega) (by omega)
    generalize hM1e : ex_set (ex_set M 1 (ex_get M 1 + 1)) 2 (ex_get M 2 + 4 * 1) = M1 at hM1
    have e0 : ex_get M1 0 = ex_get M 0 := hM1.1 0 (by decide) (by decide)
    have hF1 : bx_F M1 w n xs ys := by
      obtain ⟨⟨w1, w2⟩, f1, f2, f3, f4, f5, ⟨x1, x2⟩, ⟨y1, y2⟩, f6, f7, f8, f9, f10, f11⟩ := hF
      have hg : ∀ j, 3 ≤ j → ex_get M1 j = ex_get M j := fun j hj => hM1.1 j (by omega) (by omega)
      refine ⟨⟨w1, w2⟩, ?_, ?_, f3, ?_, ?_, ⟨x1, x2⟩, ⟨y1, y2⟩, ?_, ?_, ?_, ?_, fun k hk => ?_, fun k hk => ?_⟩
      · rw [hg _ (by omega)]; exact f1
      · rw [hg _ (by omega)]; exact f2
      · rw [hg _ (by omega)]; exact f4
      · rw [hg _ (by omega)]; exact f5
      · rw [hg _ (by omega)]; exact f6
      · rw [hg _ (by omega)]; exact f7
      · rw [hg _ (by omega)]; exact f8
      · rw [hg _ (by omega)]; exact f9
      · rw [hg _ (by omega)]; exact f10 k hk
      · rw [hg _ (by omega)]; exact f11 k hk
    have hrec := ih (lo + 1) L1 M1 L2 M2 hF1 (by rw [e0]; exact s1) (by rw [e0]; exact s2) (by rw [e0]; exact s3) (by rw [e0]; exact s4) (by rw [hM1.2.1]; omega) (by rw [hM1.2.2]; omega) (by rw [hL1.1 0 (by decide)]; exact g0) (by rw [hL1.1 2 (by decide)]; exact g2) (by rw [hL1.1 4 (by decide)]; exact g4) hL1.2.1 (by omega) (by omega)
      (fun j hj => by
        have f := hF.1.1
        have fx := hF.2.2.2.2.2.2.1.1
        have fy := hF.2.2.2.2.2.2.2.1.1
        rw [hM1.1 _ (by omega) (by omega), hM1.1 _ (by omega) (by omega)]
        rcases hno j hj with z | z | z
        · exact Or.inl z
        · exact Or.inr (Or.inl (by omega))
        · exact Or.inr (Or.inr (by omega)))
      ⟨fun i hi => (hL.1 i hi).trans (hL1.1 i hi).symm, by rw [hL.2.1]; congr 1; omega, hL.2.2⟩
      ⟨fun j a1 a2 => (hM.1 j a1 a2).trans (hM1.1 j a1 a2).symm, by rw [hM.2.1, hM1.2.1]; omega, by rw [hM.2.2, hM1.2.2]; omega⟩ h
    obtain ⟨⟨t1, t2⟩, -⟩ := hrec G0 ad0
    have hm1 : ex_get M1 1 = ex_get M 1 + 1 := hM1.2.1
    have hm2 : ex_get M1 2 = ex_get M 2 + 4 := hM1.2.2
    refine ⟨⟨by omega, by omega⟩, fun G ad ls st H locs cells slots q hc hs => ?_⟩
    have hok := q.2.1
    have hRep := q.2.2.2.2.1
    have hMlt := hRep.2.2.2.2.2.1
    have h3 := hRep.2.2.2.2.2.2.1.1
    have hFm := bx_Fmk hMlt h3 s4 (by omega) (by omega) hF s1 s2 s3
    have hg := ex_mk_get (B := ex_blk 64 4 0) (n := 4) hMlt h3 (by omega) (by omega) (by omega)
    have fx := hF.2.2.2.2.2.2.1.1
    have fy := hF.2.2.2.2.2.2.2.1.1
    have fw := hF.1.1
    have hcn := bx_atC (ST := ST) (E := E) (b := b) (H0 := H0) hl hV hCW hCT (d := d') hFm hbx (py := ex_bi lo) n2 (fun j hj => by
      rw [hg, if_neg (by omega), if_neg (by omega), if_neg (by omega), if_pos (by omega), hg, if_neg (by omega), if_neg (by omega), if_neg (by omega), if_pos (by omega)]
      rcases hno j hj with z | z
      · exact Or.inl z
      · refine Or.inr fun y => ?_
        rw [y, n3] at z
        omega)
    generalize hMa : ex_mk M (ex_blk 64 4 0) 4 (ex_get M 0) = Ma at hFm hg hcn
    have hend : ∀ j, ex_get (ex_set Ma (ex_get M 0 + (0 + 1)) 4294967295) j = if j = ex_get M 0 + (0 + 1) then 4294967295 else ex_get Ma j := fun j => ex_get_set (by decide) j
    obtain ⟨Le, hLe, hrun⟩ := bx_turn (V := V) (ST := ST) (d := d' + 1) (i0 := ex_get L 1) (a0 := ex_get L 3) (u6 := ex_get L 6) (u7 := ex_get L 7) (u8 := ex_get L 8) (u9 := ex_get L 9) (call := fun mm as M' => if mm = 175 ∧ as = [8589934592 + w, bx, ex_bi lo] ∧ M' = Ma then some (4294967295, Ma) else none) hMlt h3 s4 (by omega) (by omega) fw (by omega) hF.2.1 hsp hbx n2 (by rw [n3]; omega)
      (by
        intro i v hv
        have hi : i < 10 := (List.getElem?_eq_some_iff.mp hv).1
        have : i = 0 ∨ i = 1 ∨ i = 2 ∨ i = 3 ∨ i = 4 ∨ i = 5 ∨ i = 6 ∨ i = 7 ∨ i = 8 ∨ i = 9 := by omega
        rcases this with rfl | rfl | rfl | rfl | rfl | rfl | rfl | rfl | rfl | rfl
        · rw [g0]; exact Option.some.inj hv
        · exact Option.some.inj hv
        · rw [g2]; exact Option.some.inj hv
        · exact Option.some.inj hv
        · rw [g4]; exact Option.some.inj hv
        · rw [g5]; exact Option.some.inj hv
        · exact Option.some.inj hv
        · exact Option.some.inj hv
        · exact Option.some.inj hv
        · exact Option.some.inj hv)
      (by rw [hMa]; exact if_pos ⟨rfl, rfl, rfl⟩)
    rw [hMa] at hrun
    generalize hMe : ex_set Ma (ex_get M 0 + (0 + 1)) 4294967295 = Me at hend hrun
    have hMe1 : ex_get Me 1 = ex_get M1 1 := by rw [hend, if_neg (by omega), hg, hm1]; rfl
    have hMe2 : ex_get Me 2 = ex_get M1 2 := by rw [hend, if_neg (by omega), hg, hm2]; show 4 + ex_get M 2 = _; omega
    have hMej : ∀ j, 3 ≤ j → j < ex_get M 0 → ex_get Me j = ex_get M j := fun j a1 a2 => by
      rw [hend, if_neg (by omega), hg, if_neg (by omega), if_neg (by omega), if_neg (by omega), if_pos a2]
    have hz := bx_RZ (X := ex_Xc) (inf := ex_inf) (V := V) (ST := ST) (E := E) (b := b) (H0 := H0) (rM := rM) (call := fun mm as M' => if mm = 175 ∧ as = [8589934592 + w, bx, ex_bi lo] ∧ M' = Ma then some (4294967295, Ma) else none) (ex := fun t L' S' M' => if t = 28 ∧ L' = Le ∧ S' = [] ∧ M' = Me then some rM else none) (G0 := G) (ad0 := ad) (ex_snf hl hV hCW hCT mk237 ktE_237) b1 b2 b3 b4 b5 b6 b7 b8 b9 b10 b11 b12
      (by
        intro mid' as M' rM' hh
        (try dsimp only at hh)
        split at hh
        · rename_i hc3
          obtain ⟨rfl, rfl, rfl⟩ := hc3
          cases hh
          exact ⟨d', rfl, hcn⟩
        · cases hh)
      (by
        intro t L' S' M' hh
        (try dsimp only at hh)
        split at hh
        · rename_i hc4
          obtain ⟨rfl, rfl, rfl, rfl⟩ := hc4
          obtain ⟨⟨u1, u2⟩, hw⟩ := hrec G ad
          refine ⟨⟨by rw [hMe1]; exact u1, by rw [hMe2]; exact u2⟩, fun Gc adc ls' st' H' locs' cells' slots' q' hc' hs' => ?_⟩
          rw [hMe1] at hc'
          rw [hMe2] at hs'
          refine hw G adc ls' st' H' locs' cells' slots' (bx_SR q' hRep (fun w hw => (q'.2.2.2.2.2.1 w hw).1) (fun w hw => ⟨hw, (q'.2.2.2.2.2.1 w hw).2⟩) hMej hok (fun i hi => ?_) (v := ex_bi (lo + 1)) ?_ (ex_okc_lt (Nat.lt_trans (x0 _ (by omega)) (by decide))) hL1 hM1) hc' hs'
          · have : i = 0 ∨ i = 1 ∨ i = 2 ∨ i = 3 ∨ i = 4 := by omega
            rcases this with rfl | rfl | rfl | rfl | rfl
            · rw [g0]; exact hLe 0 _ rfl
            · exact hLe 1 _ rfl
            · rw [g2]; exact hLe 2 _ rfl
            · exact hLe 3 _ rfl
            · rw [g4]; exact hLe 4 _ rfl
          · rw [← n1]; exact hLe 5 _ rfl
        · cases hh) 6 28
    have hA := hz L [] M (by rw [hrun]; exact if_pos ⟨rfl, rfl, rfl, rfl⟩)
    have hG := q.2.2.2.2.2.1
    refine bx_mono (fun a s o t h => ?_) (fun x s t h => ?_) (hA.2 G ad ls st H locs cells slots ⟨q.1, q.2.1, q.2.2.1, q.2.2.2.1, hRep, fun w hw => ⟨hw, rfl⟩, q.2.2.2.2.2.2.1, q.2.2.2.2.2.2.2⟩ hc hs)
    · obtain ⟨G1, ad1, h1, h2⟩ := h
      exact ⟨G1, ad1, fun w hw => ⟨(h1 w (hG w hw).1).1, (h1 w (hG w hw).1).2.trans (hG w hw).2⟩, h2⟩
    · obtain ⟨G1, ad1, h1, h2⟩ := h
      exact ⟨G1, ad1, fun w hw => ⟨(h1 w (hG w hw).1).1, (h1 w (hG w hw).1).2.trans (hG w hw).2⟩, h2⟩
end
end
