/-! rows of rows -/
noncomputable def ex_mnaR (k : Nat → Nat → ex_R) (c m : Nat) : Nat → Nat → Nat → ex_R := Nat.rec (fun _ M => k c M) (fun _ ih i M => ex_alloc M (ex_blk 64 m 0) m (fun c2 M => ih (Nat.succ i) (ex_set M (Nat.add (Nat.sub c 8589934592) (Nat.succ i)) c2)))
theorem ex_mk_3 {M B n t j : Nat} (h1 : t + 1 + n < 1099511627776) (h2 : ex_get M 1 + 1 < 1099511627776) (h3 : n + ex_get M 2 < 1099511627776) (hM : M < 2 ^ (40 * t)) (ht : 3 ≤ t) : ex_get (ex_mk M B n t) 0 = t + 1 + n := by
  rw [ex_mk_get hM ht h1 h2 h3, if_neg (by decide), if_neg (by decide), if_pos rfl]
section
variable {E : ex_G} {b : Nat} {rM : Nat × Nat}
theorem ex_mna_rep {k : Nat → Nat → ex_R} {c w m n : Nat} (hc : c = 8589934592 + w) (hw3 : 3 ≤ w) (hm : m ≤ 1000) (hn : n ≤ 1000) : ∀ (r i M : Nat), i + r = n → ex_mnaR k c m r i M = some rM →
    ∃ M', k c M' = some rM ∧ ex_get M' 1 = ex_get M 1 + r ∧ ex_get M' 2 = ex_get M 2 + r * m ∧
      ∀ (U : State) (G : List Nat) (ad : Nat → Nat), b ≤ U.heap.size → w ∈ G → ex_kd M w = 71 → ex_n M w = n → ad w = U.heap.size → ex_Rep E b G ad M (Jvm.Free.Multi.fill U (E.2.1 71) (E.2.1 64) n m (.int 0) i).heap →
        ∃ G' ad', (∀ g ∈ G, g ∈ G' ∧ ad' g = ad g) ∧ ex_Rep E b G' ad' M' (Jvm.Free.Multi.fill U (E.2.1 71) (E.2.1 64) n m (.int 0) n).heap := by
  intro r
  induction r with
  | zero =>
    intro i M hi h
    have hi : i = n := by omega
    subst hi
    exact ⟨M, h, by omega, by omega, fun U G ad _ _ _ _ _ hR => ⟨G, ad, fun g hg => ⟨hg, rfl⟩, hR⟩⟩
  | succ r ih =>
    intro i M hi h
    have h : ex_alloc M (ex_blk 64 m 0) m (fun c2 M => ex_mnaR k c m r (Nat.succ i) (ex_set M (Nat.add (Nat.sub c 8589934592) (Nat.succ i)) c2)) = some rM := h
    obtain ⟨b0, b1, b2, h⟩ := ex_alloc_inv h
    have ew : Nat.add (Nat.sub c 8589934592) (Nat.succ i) = w + 1 + i := by subst hc; show (8589934592 + w - 8589934592) + (i + 1) = _; omega
    rw [ew] at h
    obtain ⟨B1, B2, B3⟩ := ex_arr (kd := 64) (n := m) (z := 0) (ty := .int) (by omega) (by omega) rfl
    generalize hB : ex_blk 64 m 0 = B at h B1 B2 B3
    obtain ⟨m1, m2⟩ := ex_mk_c (M := M) (B := B) (n := m) (t := ex_get M 0) (by omega) (by omega) (by omega)
    have hcv : 8589934592 + ex_get M 0 < 1099511627776 := by omega
    obtain ⟨M', e1, e2, e3, e4⟩ := ih (i + 1) _ (by omega) h
    have g1 : ∀ j, j < 3 → ex_get (ex_set (ex_mk M B m (ex_get M 0)) (w + 1 + i) (8589934592 + ex_get M 0)) j = ex_get (ex_mk M B m (ex_get M 0)) j := fun j hj => by rw [ex_get_set hcv, if_neg (by omega)]
    rw [g1 1 (by decide), m1] at e2
    rw [g1 2 (by decide), m2] at e3
    refine ⟨M', e1, by omega, by rw [e3, Nat.succ_mul]; omega, fun U G ad hb hw hk hnn had hR => ?_⟩
    obtain ⟨f1, f2, -, -⟩ := Jvm.Free.Multi.fill_facts U (E.2.1 71) (E.2.1 64) n m (.int 0) i
    generalize hF : Jvm.Free.Multi.fill U (E.2.1 71) (E.2.1 64) n m (.int 0) i = F at *
    have hM := hR.2.2.2.2.2.1
    have ht3 := hR.2.2.2.2.2.2.1.1
    have hg := ex_mk_get (B := B) (n := m) hM ht3 (by omega) (by omega) (by omega)
    have ek0 : ex_get B 0 % 256 = 64 := by rw [B2]; omega
    have en0 : ex_get B 0 / 256 = m := by rw [B2]; omega
    have hnew := ex_Rep.new (H' := F.heap.push (Jvm.Free.Multi.innerC (E.2.1 64) m (.int 0))) hR (q := F.heap.size) (B := B) (n := m) (by omega) (by omega) (by omega) B1 en0 (fun j hj => by rw [B3 j hj]; exact ex_okc_lt (by decide)) (Nat.le_refl _) (by omega) (fun a ha => by rw [Array.getElem?_push, if_neg (Nat.ne_of_lt ha)]) (by
      unfold ex_Ob ex_kd ex_n
      have e0 : ex_get (ex_mk M B m (ex_get M 0)) (ex_get M 0) = ex_get B 0 := by rw [hg, if_neg (by omega), if_neg (by omega), if_neg (by omega), if_neg (by omega), Nat.sub_self]
      have ek : ∀ k, ex_get (ex_mk M B m (ex_get M 0)) (ex_get M 0 + 1 + k) = ex_get B (k + 1) := fun k => by rw [hg, if_neg (by omega), if_neg (by omega), if_neg (by omega), if_neg (by omega), show ex_get M 0 + 1 + k - ex_get M 0 = k + 1 by omega]
      rw [e0, ek0, en0]
      simp only [ek, if_pos]
      refine ⟨fun z => absurd z (by decide), fun _ => ?_⟩
      rw [Array.getElem?_push_size]
      show some (Jvm.Free.Multi.innerC (E.2.1 64) m (.int 0)) = _
      unfold Jvm.Free.Multi.innerC
      rw [arrV_new]
      refine congrArg some (arrV_cong (fun j hj => ?_))
      rw [B3 j hj]
      rfl)
    obtain ⟨hR1, had1⟩ := hnew
    have hwt : w ≠ ex_get M 0 := fun e => by have := hR.2.2.2.1 w hw; omega
    have hadt : (fun z => if z = ex_get M 0 then F.heap.size else ad z) (ex_get M 0) = F.heap.size := if_pos rfl
    generalize (fun z => if z = ex_get M 0 then F.heap.size else ad z) = ad1 at hR1 had1 hadt
    have hw1 : w ∈ G ++ [ex_get M 0] := List.mem_append.mpr (Or.inl hw)
    have hwlt : w < ex_get M 0 := by have := hR.2.2.2.1 w hw; omega
    have hmw : ex_get (ex_mk M B m (ex_get M 0)) w = ex_get M w := by rw [hg, if_neg (by omega), if_neg (by omega), if_neg (by omega), if_pos hwlt]
    have hk1 : ex_kd (ex_mk M B m (ex_get M 0)) w = 71 := by unfold ex_kd at hk ⊢; rw [hmw]; exact hk
    have hn1 : ex_n (ex_mk M B m (ex_get M 0)) w = n := by unfold ex_n at hnn ⊢; rw [hmw]; exact hnn
    have hcw := (hR1.1 w hw1).2 (by omega)
    rw [hk1, hn1, had1 w hw, had, Array.getElem?_push, if_neg (by omega), f2] at hcw
    have hcw := Option.some.inj hcw
    have hok : ex_okc (G ++ [ex_get M 0]) (8589934592 + ex_get M 0) := fun _ _ => by rw [Nat.add_sub_cancel_left]; exact List.mem_append.mpr (Or.inr (List.mem_singleton.mpr rfl))
    have hR2 := hR1.setA (H' := (Jvm.Free.Multi.fill U (E.2.1 71) (E.2.1 64) n m (.int 0) (i + 1)).heap) hw1 (k := i) (c := 8589934592 + ex_get M 0) (by rw [hn1]; omega) (by rw [hk1]; decide) hcv hok (by
      rw [hk1, hn1, had1 w hw, had, ex_v_D (by omega) (by omega), Nat.add_sub_cancel_left, hadt, ← hcw, f1]
      exact (Jvm.Free.Multi.fill_facts U (E.2.1 71) (E.2.1 64) n m (.int 0) (i + 1)).2.1) (fun q hq => by
      rw [had1 w hw, had] at hq
      show (((Jvm.Free.Multi.fill U (E.2.1 71) (E.2.1 64) n m (.int 0) i).pushCell (Jvm.Free.Multi.innerC (E.2.1 64) m (.int 0))).setCell U.heap.size _).heap[q]? = _
      rw [State.heap_setCell_other (Ne.symm hq), hF]
      rfl)
    have hk2 : ex_kd (ex_set (ex_mk M B m (ex_get M 0)) (w + 1 + i) (8589934592 + ex_get M 0)) w = 71 := by unfold ex_kd at hk1 ⊢; rw [ex_get_set hcv, if_neg (by omega)]; exact hk1
    have hn2 : ex_n (ex_set (ex_mk M B m (ex_get M 0)) (w + 1 + i) (8589934592 + ex_get M 0)) w = n := by unfold ex_n at hn1 ⊢; rw [ex_get_set hcv, if_neg (by omega)]; exact hn1
    obtain ⟨G', ad', z1, z2⟩ := e4 U _ ad1 hb hw1 hk2 hn2 ((had1 w hw).trans had) hR2
    exact ⟨G', ad', fun g hg => ⟨(z1 g (List.mem_append.mpr (Or.inl hg))).1, ((z1 g (List.mem_append.mpr (Or.inl hg))).2).trans (had1 g hg)⟩, z2⟩
theorem ex_mna_inv {n m M : Nat} {k : Nat → Nat → ex_R} (h : ex_mna n m M k = some rM) : ex_alloc M (ex_blk 71 n 4294967296) n (fun c M => ex_mnaR k c m n 0 M) = some rM := h
end
section
variable {E : ex_G} {b : Nat} {H0 : Heap} {G0 : List Nat} {ad0 : Nat → Nat} {nL : Nat} {p : Program} {l : Launch} {e : Env} {R : Room} {s : State} {m : MethodId} {args : Array Value} {below : List Frame} {meth : Method} {c : Code} {mc ms : Nat} {rM : Nat × Nat} {cc : ByteArray} {pc : Nat} {nx : ex_K}
theorem z_mna {ST : Nat → Nat} {own : String} {index : Nat} (hx : p.tables.exec = Jvm.exec) (hb : c.code = cc) (hW : ex_Wo E b ST H0 args s) (hmc : mc ≤ R.cells) (hms : ms ≤ R.slots) (hown : s.vm.findClass own = some m.cls)
    (hclink : (Cond.classLink own index "[[I").before args s = true) (hover : (Cond.arrayOver (.array .int)).before args s = true) (harr : (Cond.arrayClass .int).before args s = true) (hd : decode cc pc = .ok (.multianewarray index 2, 4)) (k : ex_Z E b H0 G0 ad0 nL p l e R s m args below meth c mc ms rM nx (pc + 4)) : ex_Z E b H0 G0 ad0 nL p l e R s m args below meth c mc ms rM (fun L S M => (@List.rec Nat (fun _ => ex_R) none (fun m T_0 _ => (@List.rec Nat (fun _ => ex_R) none (fun n T _ => (@Bool.rec (fun _ => ex_R) (none) ((@Bool.rec (fun _ => ex_R) (none) ((@Bool.rec (fun _ => ex_R) (none) (ex_mna n m M (fun c M => nx L (c :: T) M)) (Nat.ble 3 (ex_get M 0)))) (Nat.ble m 1000))) (Nat.ble n 1000))) T_0)) S)) pc := by
  intro L S M h
  obtain ⟨mm, T1, rfl, h⟩ := ex_ls1 h
  obtain ⟨n, T, rfl, h⟩ := ex_ls1 h
  obtain ⟨h1, h⟩ := ex_br1 h
  obtain ⟨h2, h⟩ := ex_br1 h
  have h1 := Nat.le_of_ble_eq_true h1
  have h2 := Nat.le_of_ble_eq_true h2
  obtain ⟨ht3, h⟩ := ex_br1 h
  have ht3 := Nat.le_of_ble_eq_true ht3
  obtain ⟨b0, b1, b2, h⟩ := ex_alloc_inv (ex_mna_inv h)
  obtain ⟨B1, B2, B3⟩ := ex_arr (kd := 71) (n := n) (z := 4294967296) (ty := .array .int) (by omega) (by omega) rfl
  generalize hB : ex_blk 71 n 4294967296 = B at h B1 B2 B3
  obtain ⟨m1, m2⟩ := ex_mk_c (M := M) (B := B) (n := n) (t := ex_get M 0) (by omega) (by omega) (by omega)
  have hnm : n * mm ≤ 1000 * 1000 := Nat.mul_le_mul h1 h2
  obtain ⟨M', e1, e2, e3, e4⟩ := ex_mna_rep (E := E) (b := b) rfl ht3 h2 h1 n 0 _ (by omega) h
  obtain ⟨hm, hw⟩ := k _ _ M' e1
  rw [m1] at e2
  rw [m2] at e3
  refine ⟨⟨by omega, by omega⟩, fun G ad ls st H locs cells slots q hc hs => ?_⟩
  have hst := q.2.2.1
  subst hst
  rw [List.map_cons, List.map_cons, ex_v_n (show n < 4294967296 by omega), ex_v_n (show mm < 4294967296 by omega)]
  have hcn : (nI n).toNatClampNeg = n := nI_clamp (by omega)
  have hcm : (nI mm).toNatClampNeg = mm := nI_clamp (by omega)
  intro T' hT' X
  have eII : "[" ++ (FieldType.array .int).toString = "[[I" := by decide +kernel
  obtain ⟨vm₁, cA, comp, -, fA, fC, -, -, X', step⟩ := X.multianewarray2F (ty := .int) hx hown (by rw [eII]; exact hclink) hover harr (g := F0 m pc ls (.int (nI mm) :: .int (nI n) :: T.map (ex_v E ad))) rfl (by rw [hb]; exact hd) rfl (nI_pos (by omega)) (nI_pos (by omega)) (by rw [hcn]; omega) (by rw [hcm]; show mm * 4 ≤ _; omega) (by rw [hcm]; omega) rfl rfl (by rw [hcn]; omega) (by rw [hcn, hcm]; omega)
  have hA : cA = E.2.1 71 := Option.some.inj (fA.symm.trans ((hW.2.2.2.1 71 (by omega) (by omega)).2 (by omega)))
  have hC : comp = E.2.1 64 := Option.some.inj (fC.symm.trans ((hW.2.2.2.1 64 (by omega) (by omega)).2 (by omega)))
  subst hA
  subst hC
  rw [hcn, hcm] at X' step
  have hUh : (T'.setVm vm₁).heap = H := hT'
  generalize T'.setVm vm₁ = U at X' step hUh
  have hdv : defaultValue FieldType.int = .int 0 := rfl
  rw [hdv] at X' step
  -- the outer row
  have hR := q.2.2.2.2.1
  have hS := q.2.2.2.2.2.2.1
  have hM := hR.2.2.2.2.2.1
  have hg := ex_mk_get (B := B) (n := n) hM ht3 (by omega) (by omega) (by omega)
  have ek0 : ex_get B 0 % 256 = 71 := by rw [B2]; omega
  have en0 : ex_get B 0 / 256 = n := by rw [B2]; omega
  have hbU : b ≤ U.heap.size := by rw [hUh]; have := hS.1; have := hW.1; omega
  have hnew := ex_Rep.new (H' := (Jvm.Free.Multi.fill U (E.2.1 71) (E.2.1 64) n mm (.int 0) 0).heap) hR (q := U.heap.size) (B := B) (n := n) (by omega) (by omega) (by omega) B1 en0 (fun j hj => by rw [B3 j hj]; exact ex_okc_lt (show (4294967296 : Nat) < 8589934592 by decide)) (by rw [hUh]; exact Nat.le_refl _) (by rw [← hUh]; exact hbU) (fun a ha => by rw [← hUh] at ha ⊢; exact Jvm.Free.Multi.fill_old U _ _ _ _ _ ha 0) (by
    unfold ex_Ob ex_kd ex_n
    have e0 : ex_get (ex_mk M B n (ex_get M 0)) (ex_get M 0) = ex_get B 0 := by rw [hg, if_neg (by omega), if_neg (by omega), if_neg (by omega), if_neg (by omega), Nat.sub_self]
    have ek : ∀ k, ex_get (ex_mk M B n (ex_get M 0)) (ex_get M 0 + 1 + k) = ex_get B (k + 1) := fun k => by rw [hg, if_neg (by omega), if_neg (by omega), if_neg (by omega), if_neg (by omega), show ex_get M 0 + 1 + k - ex_get M 0 = k + 1 by omega]
    rw [e0, ek0, en0]
    simp only [ek, if_pos]
    refine ⟨fun z => absurd z (by decide), fun _ => ?_⟩
    rw [(Jvm.Free.Multi.fill_facts U (E.2.1 71) (E.2.1 64) n mm (.int 0) 0).2.1]
    show some ({ cls := E.2.1 71, slots := Array.replicate n .null, vm := .none } : Cell) = _
    rw [arrV_new]
    refine congrArg some (arrV_cong (fun j hj => ?_))
    rw [B3 j hj]
    rfl)
  obtain ⟨hR1, had1⟩ := hnew
  have hadt : (fun z => if z = ex_get M 0 then U.heap.size else ad z) (ex_get M 0) = U.heap.size := if_pos rfl
  generalize (fun z => if z = ex_get M 0 then U.heap.size else ad z) = ad1 at hR1 had1 hadt
  have hw1 : ex_get M 0 ∈ G ++ [ex_get M 0] := List.mem_append.mpr (Or.inr (List.mem_singleton.mpr rfl))
  have hh : ex_get (ex_mk M B n (ex_get M 0)) (ex_get M 0) = ex_get B 0 := by rw [hg, if_neg (by omega), if_neg (by omega), if_neg (by omega), if_neg (by omega), Nat.sub_self]
  obtain ⟨G', ad', z1, z2⟩ := e4 U _ ad1 hbU hw1 (by unfold ex_kd; rw [hh]; exact ek0) (by unfold ex_n; rw [hh]; exact en0) hadt hR1
  obtain ⟨f1, -⟩ := Jvm.Free.Multi.fill_facts U (E.2.1 71) (E.2.1 64) n mm (.int 0) n
  have q' := ex_ext q (T := T) (fun z hz => List.mem_cons_of_mem _ (List.mem_cons_of_mem _ hz)) z2 (fun g hg => ⟨(z1 g (List.mem_append.mpr (Or.inl hg))).1, ((z1 g (List.mem_append.mpr (Or.inl hg))).2).trans (had1 g hg)⟩) (by rw [f1, hUh]; omega) (fun a ha => by rw [← hUh] at ha ⊢; exact Jvm.Free.Multi.fill_old U _ _ _ _ _ ha n) (x := 8589934592 + ex_get M 0) (fun _ _ => by rw [Nat.add_sub_cancel_left]; exact (z1 _ hw1).1)
  rw [ex_v_D (by omega) (by omega), Nat.add_sub_cancel_left, (z1 _ hw1).2, hadt, hUh] at q'
  obtain ⟨t, a1, b1'⟩ := hw G' ad' ls _ _ locs (cells + 1 + n) (slots + n + n * mm) q' (by omega) (by omega) _ rfl X'
  exact ⟨t, step t (by rw [hT']; exact a1), b1'⟩
end
