/-! calls, by their kinds -/
section
variable {E : ex_G} {b : Nat} {H0 : Heap} {G0 : List Nat} {ad0 : Nat → Nat} {nL : Nat} {p : Program} {l : Launch} {e : Env} {R : Room} {s : State} {m : MethodId} {args : Array Value} {below : List Frame} {meth : Method} {c : Code} {mc ms : Nat} {rM : Nat × Nat} {cc : ByteArray} {pc : Nat} {nx : ex_K}
theorem ex_runS {X : ex_X} {ST : Nat → Nat} {y : MethodName} {bytes : ByteArray} {maxL d' n index : Nat} {ret : Option FieldType} {own : String} {as T : List Nat} {M : Nat} {rM' : Nat × Nat} {G : List Nat} {ad : Nat → Nat} {L : Nat} {ls : Array Slot} {H : Heap} {locs : List Loc} {cells slots : Nat} (hx : p.tables.exec = Jvm.exec) (hb : c.code = cc) (hml : c.maxLocals = nL) (hE : ex_svR E) (hW : ex_Wo E b ST H0 args s) (hWd : ex_Wd X E b ST H0 s) (hown : s.vm.findClass own = some m.cls) (hT : ∀ w ∈ ex_TT X.2.2, w.before args s = true) (hR : R = ex_rm (d' + 1) mc ms) (hmL : maxL ≤ 81) (hC : ex_Cn l X E b ST H0 (y, bytes, maxL, ret, none) d' as M rM') (hn : as.length = n) (hlt : ∀ a ∈ as, a < 1099511627776) (hrs : ex_rsum T ≤ 8) (q : ex_SR E b H0 s.heap G0 ad0 nL G ad L (as.reverse ++ T) M ls ((as.reverse ++ T).map (ex_v E ad)) H locs) (u1 : cells + (ex_get rM'.2 1 - ex_get M 1) ≤ mc) (u2 : slots + (ex_get rM'.2 2 - ex_get M 2) ≤ ms)
    (hcw : ex_cw (y, bytes, maxL, ret, none) ∈ ex_TT X.2.2) (w1 : Cond.methodLink own index y ∈ ex_TT X.2.2) (w2 : Cond.static y ∈ ex_TT X.2.2) (w3 : Cond.initialized y.cls ∈ ex_TT X.2.2)
    (hd : y.cls ≠ "java/lang/invoke/MethodHandle" ∧ y.cls ≠ "java/lang/invoke/VarHandle" ∧ (parseMethodDescriptor y.desc).map (fun d => d.parameters.length) = some n) (hdg : decode cc pc = .ok (.invokestatic index, 3)) : ex_RunN 3 p l e R s m args below meth c H locs cells slots (ex_get rM'.2 1 - ex_get M 1) (ex_get rM'.2 2 - ex_get M 2) (F0 m pc ls ((as.reverse ++ T).map (ex_v E ad))) (T.map (ex_v E ad)) (ex_Qc E b G ad rM' #[]) (ex_XC E b G ad rM') (fun q => b ≤ q) := by
  have hM := hC G ad (fun a ha => q.2.2.2.1 a (List.mem_append.mpr (Or.inl (List.mem_reverse.mpr ha)))) hlt
  have hsum := ex_catr (E := E) (ad := ad) hE.one T
  have hPc : ∀ U : State, U.heap = H → s.WarmedH U.vm → ex_Pc X E b ST H0 G ad as M (as.map (ex_v E ad)).toArray U := fun U hU hWm => ⟨rfl, by rw [hU]; exact q.2.2.2.2.1, hWd.moved hWm, by rw [hU]; exact ⟨q.2.2.2.2.2.2.1.1, q.2.2.2.2.2.2.1.2.1, fun z hz => absurd hz List.not_mem_nil⟩⟩
  subst hR
  have hroom : (ex_rm d' (ex_get rM'.2 1 - ex_get M 1) (ex_get rM'.2 2 - ex_get M 2)).frames + 1 ≤ (ex_rm (d' + 1) mc ms).frames ∧ 8 + (maxL + 11) + (ex_rm d' (ex_get rM'.2 1 - ex_get M 1) (ex_get rM'.2 2 - ex_get M 2)).locals ≤ (ex_rm (d' + 1) mc ms).locals := by
    refine ⟨by show d' + 1 + 1 ≤ d' + 1 + 1; omega, ?_⟩
    show 8 + (maxL + 11) + (100 * d' + 100) ≤ 100 * (d' + 1) + 100
    omega
  have hG : GoodIn (ex_TT X.2.2) (va_wsS own index y (ex_cw (y, bytes, maxL, ret, none) :: ex_TT X.2.2)) := ex_good w1 (ex_good w2 (ex_good w3 (ex_good hcw ex_TTgood)))
  have hrun := vx_runS (e := e) (cells := cells) (slots := slots) (locs := locs) (H := H) (meth := meth) (below := below) (rest := T.map (ex_v E ad)) (As := as.map (ex_v E ad)) (g := F0 m pc ls ((as.reverse ++ T).map (ex_v E ad))) ⟨hx, hb, hml, hown, hT⟩ hM (va_cwS (args := args) (s := s) n hT hG rfl rfl rfl hd hroom) ⟨ex_Pc.blind, hPc⟩ rfl (by rw [List.length_map]; exact hn) q.1.1 (by show (as.reverse ++ T).map (ex_v E ad) = _; rw [List.map_append, List.map_reverse]) (by rw [hsum]; show 2 * 0 + _ ≤ 8; omega) hdg ⟨u1, u2⟩
  exact hrun
theorem ex_runSX {X : ex_X} {ST : Nat → Nat} {y : MethodName} {bytes : ByteArray} {maxL d' n index : Nat} {ret : Option FieldType} {own : String} {as T : List Nat} {M : Nat} {rM' : Nat × Nat} {G : List Nat} {ad : Nat → Nat} {L : Nat} {ls : Array Slot} {H : Heap} {locs : List Loc} {cells slots : Nat} {hh : List (Nat × Nat × Nat × Nat)} (hx : p.tables.exec = Jvm.exec) (hb : c.code = cc) (hml : c.maxLocals = nL) (hE : ex_svR E) (hW : ex_Wo E b ST H0 args s) (hWd : ex_Wd X E b ST H0 s) (hown : s.vm.findClass own = some m.cls) (hT : ∀ w ∈ ex_TT X.2.2, w.before args s = true) (hR : R = ex_rm (d' + 1) mc ms) (hmL : maxL ≤ 81) (hC : ex_Cn l X E b ST H0 (y, bytes, maxL, ret, (some hh)) d' as M rM') (hn : as.length = n) (hlt : ∀ a ∈ as, a < 1099511627776) (hrs : ex_rsum T ≤ 8) (q : ex_SR E b H0 s.heap G0 ad0 nL G ad L (as.reverse ++ T) M ls ((as.reverse ++ T).map (ex_v E ad)) H locs) (u1 : cells + (ex_get rM'.2 1 - ex_get M 1) ≤ mc) (u2 : slots + (ex_get rM'.2 2 - ex_get M 2) ≤ ms)
    (hcw : ex_cw (y, bytes, maxL, ret, (some hh)) ∈ ex_TT X.2.2) (w1 : Cond.methodLink own index y ∈ ex_TT X.2.2) (w2 : Cond.static y ∈ ex_TT X.2.2) (w3 : Cond.initialized y.cls ∈ ex_TT X.2.2)
    (hd : y.cls ≠ "java/lang/invoke/MethodHandle" ∧ y.cls ≠ "java/lang/invoke/VarHandle" ∧ (parseMethodDescriptor y.desc).map (fun d => d.parameters.length) = some n) (hdg : decode cc pc = .ok (.invokestatic index, 3)) : ex_RunN 3 p l e R s m args below meth c H locs cells slots (ex_get rM'.2 1 - ex_get M 1) (ex_get rM'.2 2 - ex_get M 2) (F0 m pc ls ((as.reverse ++ T).map (ex_v E ad))) (T.map (ex_v E ad)) (ex_Qc E b G ad rM' #[]) (ex_XC E b G ad rM') (fun q => b ≤ q) := by
  have hM := hC G ad (fun a ha => q.2.2.2.1 a (List.mem_append.mpr (Or.inl (List.mem_reverse.mpr ha)))) hlt
  have hsum := ex_catr (E := E) (ad := ad) hE.one T
  have hPc : ∀ U : State, U.heap = H → s.WarmedH U.vm → ex_Pc X E b ST H0 G ad as M (as.map (ex_v E ad)).toArray U := fun U hU hWm => ⟨rfl, by rw [hU]; exact q.2.2.2.2.1, hWd.moved hWm, by rw [hU]; exact ⟨q.2.2.2.2.2.2.1.1, q.2.2.2.2.2.2.1.2.1, fun z hz => absurd hz List.not_mem_nil⟩⟩
  subst hR
  have hroom : (ex_rm d' (ex_get rM'.2 1 - ex_get M 1) (ex_get rM'.2 2 - ex_get M 2)).frames + 1 ≤ (ex_rm (d' + 1) mc ms).frames ∧ 8 + (maxL + 11) + (ex_rm d' (ex_get rM'.2 1 - ex_get M 1) (ex_get rM'.2 2 - ex_get M 2)).locals ≤ (ex_rm (d' + 1) mc ms).locals := by
    refine ⟨by show d' + 1 + 1 ≤ d' + 1 + 1; omega, ?_⟩
    show 8 + (maxL + 11) + (100 * d' + 100) ≤ 100 * (d' + 1) + 100
    omega
  have hG : GoodIn (ex_TT X.2.2) (va_wsS own index y (ex_cw (y, bytes, maxL, ret, (some hh)) :: ex_TT X.2.2)) := ex_good w1 (ex_good w2 (ex_good w3 (ex_good hcw ex_TTgood)))
  have hrun := vx_runSX (e := e) (cells := cells) (slots := slots) (locs := locs) (H := H) (meth := meth) (below := below) (rest := T.map (ex_v E ad)) (As := as.map (ex_v E ad)) (g := F0 m pc ls ((as.reverse ++ T).map (ex_v E ad))) ⟨hx, hb, hml, hown, hT⟩ hM (vx_cwSW (args := args) (s := s) n hT hG rfl rfl rfl hd hroom) ⟨ex_Pc.blind, hPc⟩ rfl (by rw [List.length_map]; exact hn) q.1.1 (by show (as.reverse ++ T).map (ex_v E ad) = _; rw [List.map_append, List.map_reverse]) (by rw [hsum]; show 2 * 0 + _ ≤ 8; omega) hdg ⟨u1, u2⟩
  exact hrun
theorem ex_runV {X : ex_X} {ST : Nat → Nat} {y : MethodName} {bytes : ByteArray} {maxL d' n index : Nat} {ret : Option FieldType} {own : String} {as T : List Nat} {M : Nat} {rM' : Nat × Nat} {G : List Nat} {ad : Nat → Nat} {L : Nat} {ls : Array Slot} {H : Heap} {locs : List Loc} {cells slots : Nat} {rk : Nat} {r : vw_C} (hx : p.tables.exec = Jvm.exec) (hb : c.code = cc) (hml : c.maxLocals = nL) (hE : ex_svR E) (hW : ex_Wo E b ST H0 args s) (hWd : ex_Wd X E b ST H0 s) (hown : s.vm.findClass own = some m.cls) (hT : ∀ w ∈ ex_TT X.2.2, w.before args s = true) (hR : R = ex_rm (d' + 1) mc ms) (hmL : maxL ≤ 81) (hC : ex_Cn l X E b ST H0 (y, bytes, maxL, ret, none) d' as M rM') (hn : as.length = n + 1) (hrecv : ∃ x as', as = x :: as' ∧ ex_isR x = true ∧ ex_hd ST M x % 256 = rk) (hrk : rk < 64) (hr : ex_cl[rk]? = some r) (hlt : ∀ a ∈ as, a < 1099511627776) (hrs : ex_rsum T ≤ 8) (q : ex_SR E b H0 s.heap G0 ad0 nL G ad L (as.reverse ++ T) M ls ((as.reverse ++ T).map (ex_v E ad)) H locs) (u1 : cells + (ex_get rM'.2 1 - ex_get M 1) ≤ mc) (u2 : slots + (ex_get rM'.2 2 - ex_get M 2) ≤ ms)
    (hcw : ex_cw (y, bytes, maxL, ret, none) ∈ ex_TT X.2.2) (w1 : Cond.methodLink own index y ∈ ex_TT X.2.2) (w2 : Cond.instanceMethod y ∈ ex_TT X.2.2) (w3 : Cond.selects r.1 y y ∈ ex_TT X.2.2) (w4 : Cond.initialized r.1 ∈ ex_TT X.2.2)
    (hd : y.cls = r.1 ∧ y.cls ≠ "java/lang/invoke/MethodHandle" ∧ y.cls ≠ "java/lang/invoke/VarHandle" ∧ (parseMethodDescriptor y.desc).map (fun d => d.parameters.length) = some n) (hdg : decode cc pc = .ok (.invokevirtual index, 3)) : ex_RunN 3 p l e R s m args below meth c H locs cells slots (ex_get rM'.2 1 - ex_get M 1) (ex_get rM'.2 2 - ex_get M 2) (F0 m pc ls ((as.reverse ++ T).map (ex_v E ad))) (T.map (ex_v E ad)) (ex_Qc E b G ad rM' #[]) (ex_XC E b G ad rM') (fun q => b ≤ q) := by
  obtain ⟨x, as', rfl, hxr, hxk⟩ := hrecv
  have hM := hC G ad (fun a ha => q.2.2.2.1 a (List.mem_append.mpr (Or.inl (List.mem_reverse.mpr ha)))) hlt
  have hsum := ex_catr (E := E) (ad := ad) hE.one T
  have hxin : x ∈ (x :: as').reverse ++ T := List.mem_append.mpr (Or.inl (List.mem_reverse.mpr List.mem_cons_self))
  obtain ⟨a, ea, hcellR⟩ := ex_recv (X := X) hW q.2.2.2.2.1 q.2.2.2.2.2.2.1 hxr (q.2.2.2.1 x hxin) hrk hxk hr
  have hargs : ((x :: as').map (ex_v E ad)).toArray = (Value.ref a :: as'.map (ex_v E ad)).toArray := by rw [List.map_cons, ea]
  have hPc : ∀ U : State, U.heap = H → s.WarmedH U.vm → ex_Pc X E b ST H0 G ad (x :: as') M (Value.ref a :: as'.map (ex_v E ad)).toArray U := fun U hU hWm => ⟨hargs.symm, by rw [hU]; exact q.2.2.2.2.1, hWd.moved hWm, by rw [hU]; exact ⟨q.2.2.2.2.2.2.1.1, q.2.2.2.2.2.2.1.2.1, fun z hz => absurd hz List.not_mem_nil⟩⟩
  subst hR
  have hstk : (F0 m pc ls (((x :: as').reverse ++ T).map (ex_v E ad))).stack = (as'.map (ex_v E ad)).reverse ++ .ref a :: T.map (ex_v E ad) := by
    show ((x :: as').reverse ++ T).map (ex_v E ad) = _
    rw [List.map_append, List.reverse_cons, List.map_append, List.map_reverse, List.append_assoc]
    congr 1
    rw [← ea]; rfl
  have hroom : (ex_rm d' (ex_get rM'.2 1 - ex_get M 1) (ex_get rM'.2 2 - ex_get M 2)).frames + 1 ≤ (ex_rm (d' + 1) mc ms).frames ∧ 8 + (maxL + 11) + (ex_rm d' (ex_get rM'.2 1 - ex_get M 1) (ex_get rM'.2 2 - ex_get M 2)).locals ≤ (ex_rm (d' + 1) mc ms).locals := by
    refine ⟨by show d' + 1 + 1 ≤ d' + 1 + 1; omega, ?_⟩
    show 8 + (maxL + 11) + (100 * d' + 100) ≤ 100 * (d' + 1) + 100
    omega
  have hG : GoodIn (ex_TT X.2.2) (wsV own index r.1 y (ex_cw (y, bytes, maxL, ret, none) :: ex_TT X.2.2)) := ex_good w1 (ex_good w2 (ex_good w3 (ex_good w4 (ex_good hcw ex_TTgood))))
  have hrun := vx_runV (e := e) (cells := cells) (slots := slots) (locs := locs) (H := H) (meth := meth) (below := below) (rest := T.map (ex_v E ad)) (As := as'.map (ex_v E ad)) (g := F0 m pc ls (((x :: as').reverse ++ T).map (ex_v E ad))) ⟨hx, hb, hml, hown, hT⟩ hM (cwV (args := args) (s := s) n hT hG rfl rfl rfl hd hroom) ⟨ex_Pc.blind, hcellR, hPc⟩ rfl (by rw [List.length_map]; rw [List.length_cons] at hn; omega) q.1.1 hstk (by rw [hsum]; show 2 * 0 + _ ≤ 8; omega) hdg ⟨u1, u2⟩
  exact hrun
theorem ex_runVX {X : ex_X} {ST : Nat → Nat} {y : MethodName} {bytes : ByteArray} {maxL d' n index : Nat} {ret : Option FieldType} {own : String} {as T : List Nat} {M : Nat} {rM' : Nat × Nat} {G : List Nat} {ad : Nat → Nat} {L : Nat} {ls : Array Slot} {H : Heap} {locs : List Loc} {cells slots : Nat} {hh : List (Nat × Nat × Nat × Nat)} {rk : Nat} {r : vw_C} (hx : p.tables.exec = Jvm.exec) (hb : c.code = cc) (hml : c.maxLocals = nL) (hE : ex_svR E) (hW : ex_Wo E b ST H0 args s) (hWd : ex_Wd X E b ST H0 s) (hown : s.vm.findClass own = some m.cls) (hT : ∀ w ∈ ex_TT X.2.2, w.before args s = true) (hR : R = ex_rm (d' + 1) mc ms) (hmL : maxL ≤ 81) (hC : ex_Cn l X E b ST H0 (y, bytes, maxL, ret, (some hh)) d' as M rM') (hn : as.length = n + 1) (hrecv : ∃ x as', as = x :: as' ∧ ex_isR x = true ∧ ex_hd ST M x % 256 = rk) (hrk : rk < 64) (hr : ex_cl[rk]? = some r) (hlt : ∀ a ∈ as, a < 1099511627776) (hrs : ex_rsum T ≤ 8) (q : ex_SR E b H0 s.heap G0 ad0 nL G ad L (as.reverse ++ T) M ls ((as.reverse ++ T).map (ex_v E ad)) H locs) (u1 : cells + (ex_get rM'.2 1 - ex_get M 1) ≤ mc) (u2 : slots + (ex_get rM'.2 2 - ex_get M 2) ≤ ms)
    (hcw : ex_cw (y, bytes, maxL, ret, (some hh)) ∈ ex_TT X.2.2) (w1 : Cond.methodLink own index y ∈ ex_TT X.2.2) (w2 : Cond.instanceMethod y ∈ ex_TT X.2.2) (w3 : Cond.selects r.1 y y ∈ ex_TT X.2.2) (w4 : Cond.initialized r.1 ∈ ex_TT X.2.2)
    (hd : y.cls = r.1 ∧ y.cls ≠ "java/lang/invoke/MethodHandle" ∧ y.cls ≠ "java/lang/invoke/VarHandle" ∧ (parseMethodDescriptor y.desc).map (fun d => d.parameters.length) = some n) (hdg : decode cc pc = .ok (.invokevirtual index, 3)) : ex_RunN 3 p l e R s m args below meth c H locs cells slots (ex_get rM'.2 1 - ex_get M 1) (ex_get rM'.2 2 - ex_get M 2) (F0 m pc ls ((as.reverse ++ T).map (ex_v E ad))) (T.map (ex_v E ad)) (ex_Qc E b G ad rM' #[]) (ex_XC E b G ad rM') (fun q => b ≤ q) := by
  obtain ⟨x, as', rfl, hxr, hxk⟩ := hrecv
  have hM := hC G ad (fun a ha => q.2.2.2.1 a (List.mem_append.mpr (Or.inl (List.mem_reverse.mpr ha)))) hlt
  have hsum := ex_catr (E := E) (ad := ad) hE.one T
  have hxin : x ∈ (x :: as').reverse ++ T := List.mem_append.mpr (Or.inl (List.mem_reverse.mpr List.mem_cons_self))
  obtain ⟨a, ea, hcellR⟩ := ex_recv (X := X) hW q.2.2.2.2.1 q.2.2.2.2.2.2.1 hxr (q.2.2.2.1 x hxin) hrk hxk hr
  have hargs : ((x :: as').map (ex_v E ad)).toArray = (Value.ref a :: as'.map (ex_v E ad)).toArray := by rw [List.map_cons, ea]
  have hPc : ∀ U : State, U.heap = H → s.WarmedH U.vm → ex_Pc X E b ST H0 G ad (x :: as') M (Value.ref a :: as'.map (ex_v E ad)).toArray U := fun U hU hWm => ⟨hargs.symm, by rw [hU]; exact q.2.2.2.2.1, hWd.moved hWm, by rw [hU]; exact ⟨q.2.2.2.2.2.2.1.1, q.2.2.2.2.2.2.1.2.1, fun z hz => absurd hz List.not_mem_nil⟩⟩
  subst hR
  have hstk : (F0 m pc ls (((x :: as').reverse ++ T).map (ex_v E ad))).stack = (as'.map (ex_v E ad)).reverse ++ .ref a :: T.map (ex_v E ad) := by
    show ((x :: as').reverse ++ T).map (ex_v E ad) = _
    rw [List.map_append, List.reverse_cons, List.map_append, List.map_reverse, List.append_assoc]
    congr 1
    rw [← ea]; rfl
  have hroom : (ex_rm d' (ex_get rM'.2 1 - ex_get M 1) (ex_get rM'.2 2 - ex_get M 2)).frames + 1 ≤ (ex_rm (d' + 1) mc ms).frames ∧ 8 + (maxL + 11) + (ex_rm d' (ex_get rM'.2 1 - ex_get M 1) (ex_get rM'.2 2 - ex_get M 2)).locals ≤ (ex_rm (d' + 1) mc ms).locals := by
    refine ⟨by show d' + 1 + 1 ≤ d' + 1 + 1; omega, ?_⟩
    show 8 + (maxL + 11) + (100 * d' + 100) ≤ 100 * (d' + 1) + 100
    omega
  have hG : GoodIn (ex_TT X.2.2) (wsV own index r.1 y (ex_cw (y, bytes, maxL, ret, (some hh)) :: ex_TT X.2.2)) := ex_good w1 (ex_good w2 (ex_good w3 (ex_good w4 (ex_good hcw ex_TTgood))))
  have hrun := vx_runVX (e := e) (cells := cells) (slots := slots) (locs := locs) (H := H) (meth := meth) (below := below) (rest := T.map (ex_v E ad)) (As := as'.map (ex_v E ad)) (g := F0 m pc ls (((x :: as').reverse ++ T).map (ex_v E ad))) ⟨hx, hb, hml, hown, hT⟩ hM (vx_cwVW (args := args) (s := s) n hT hG rfl rfl rfl hd hroom) ⟨ex_Pc.blind, hcellR, hPc⟩ rfl (by rw [List.length_map]; rw [List.length_cons] at hn; omega) q.1.1 hstk (by rw [hsum]; show 2 * 0 + _ ≤ 8; omega) hdg ⟨u1, u2⟩
  exact hrun
theorem ex_runF {X : ex_X} {ST : Nat → Nat} {y : MethodName} {bytes : ByteArray} {maxL d' n index : Nat} {ret : Option FieldType} {own : String} {as T : List Nat} {M : Nat} {rM' : Nat × Nat} {G : List Nat} {ad : Nat → Nat} {L : Nat} {ls : Array Slot} {H : Heap} {locs : List Loc} {cells slots : Nat} {rk count : Nat} {r : vw_C} {x0 : MethodName} (hx : p.tables.exec = Jvm.exec) (hb : c.code = cc) (hml : c.maxLocals = nL) (hE : ex_svR E) (hW : ex_Wo E b ST H0 args s) (hWd : ex_Wd X E b ST H0 s) (hown : s.vm.findClass own = some m.cls) (hT : ∀ w ∈ ex_TT X.2.2, w.before args s = true) (hR : R = ex_rm (d' + 1) mc ms) (hmL : maxL ≤ 81) (hC : ex_Cn l X E b ST H0 (y, bytes, maxL, ret, none) d' as M rM') (hn : as.length = n + 1) (hrecv : ∃ x as', as = x :: as' ∧ ex_isR x = true ∧ ex_hd ST M x % 256 = rk) (hrk : rk < 64) (hr : ex_cl[rk]? = some r) (hlt : ∀ a ∈ as, a < 1099511627776) (hrs : ex_rsum T ≤ 8) (q : ex_SR E b H0 s.heap G0 ad0 nL G ad L (as.reverse ++ T) M ls ((as.reverse ++ T).map (ex_v E ad)) H locs) (u1 : cells + (ex_get rM'.2 1 - ex_get M 1) ≤ mc) (u2 : slots + (ex_get rM'.2 2 - ex_get M 2) ≤ ms)
    (hcw : ex_cw (y, bytes, maxL, ret, none) ∈ ex_TT X.2.2) (w1 : Cond.methodLink own index x0 ∈ ex_TT X.2.2) (w2 : Cond.selects r.1 x0 y ∈ ex_TT X.2.2) (w3 : Cond.instanceMethod y ∈ ex_TT X.2.2) (w4 : Cond.initialized y.cls ∈ ex_TT X.2.2) (hF : (r.1, x0, y) ∈ X.2.1)
    (hd : x0.cls ≠ "java/lang/invoke/MethodHandle" ∧ x0.cls ≠ "java/lang/invoke/VarHandle" ∧ (parseMethodDescriptor x0.desc).map (fun d => d.parameters.length) = some n) (hdg : decode cc pc = .ok (.invokeinterface index count, 5)) : ex_RunN 5 p l e R s m args below meth c H locs cells slots (ex_get rM'.2 1 - ex_get M 1) (ex_get rM'.2 2 - ex_get M 2) (F0 m pc ls ((as.reverse ++ T).map (ex_v E ad))) (T.map (ex_v E ad)) (ex_Qc E b G ad rM' #[]) (ex_XC E b G ad rM') (fun q => b ≤ q) := by
  obtain ⟨x, as', rfl, hxr, hxk⟩ := hrecv
  have hM := hC G ad (fun a ha => q.2.2.2.1 a (List.mem_append.mpr (Or.inl (List.mem_reverse.mpr ha)))) hlt
  have hsum := ex_catr (E := E) (ad := ad) hE.one T
  have hxin : x ∈ (x :: as').reverse ++ T := List.mem_append.mpr (Or.inl (List.mem_reverse.mpr List.mem_cons_self))
  obtain ⟨a, ea, hcellR⟩ := ex_recv (X := X) hW q.2.2.2.2.1 q.2.2.2.2.2.2.1 hxr (q.2.2.2.1 x hxin) hrk hxk hr
  have hargs : ((x :: as').map (ex_v E ad)).toArray = (Value.ref a :: as'.map (ex_v E ad)).toArray := by rw [List.map_cons, ea]
  have hPc : ∀ U : State, U.heap = H → s.WarmedH U.vm → ex_Pc X E b ST H0 G ad (x :: as') M (Value.ref a :: as'.map (ex_v E ad)).toArray U := fun U hU hWm => ⟨hargs.symm, by rw [hU]; exact q.2.2.2.2.1, hWd.moved hWm, by rw [hU]; exact ⟨q.2.2.2.2.2.2.1.1, q.2.2.2.2.2.2.1.2.1, fun z hz => absurd hz List.not_mem_nil⟩⟩
  subst hR
  have hstk : (F0 m pc ls (((x :: as').reverse ++ T).map (ex_v E ad))).stack = (as'.map (ex_v E ad)).reverse ++ .ref a :: T.map (ex_v E ad) := by
    show ((x :: as').reverse ++ T).map (ex_v E ad) = _
    rw [List.map_append, List.reverse_cons, List.map_append, List.map_reverse, List.append_assoc]
    congr 1
    rw [← ea]; rfl
  have hroom : (ex_rm d' (ex_get rM'.2 1 - ex_get M 1) (ex_get rM'.2 2 - ex_get M 2)).frames + 1 ≤ (ex_rm (d' + 1) mc ms).frames ∧ 8 + (maxL + 11) + (ex_rm d' (ex_get rM'.2 1 - ex_get M 1) (ex_get rM'.2 2 - ex_get M 2)).locals ≤ (ex_rm (d' + 1) mc ms).locals := by
    refine ⟨by show d' + 1 + 1 ≤ d' + 1 + 1; omega, ?_⟩
    show 8 + (maxL + 11) + (100 * d' + 100) ≤ 100 * (d' + 1) + 100
    omega
  have hG : GoodIn (ex_TT X.2.2) (va_wsF own index r.1 x0 y (ex_cw (y, bytes, maxL, ret, none) :: ex_TT X.2.2)) := ex_good w1 (ex_good w2 (ex_good w3 (ex_good w4 (ex_good hcw ex_TTgood))))
  have hat : ClassAt s r.1 (E.1.1 rk) := (hW.2.2.1 _ _ hr).1.2
  have hrun := vx_runF (e := e) (cells := cells) (slots := slots) (locs := locs) (H := H) (meth := meth) (below := below) (rest := T.map (ex_v E ad)) (As := as'.map (ex_v E ad)) (g := F0 m pc ls (((x :: as').reverse ++ T).map (ex_v E ad))) hat ⟨hx, hb, hml, hown, hT⟩ hM (va_cwF (args := args) (s := s) n hT hG rfl rfl rfl (hWd.2.2.2.2.2.2.2.2.2.1 _ hF).2 hd hroom) ⟨ex_Pc.blind, hcellR, hPc⟩ rfl (by rw [List.length_map]; rw [List.length_cons] at hn; omega) q.1.1 hstk (by rw [hsum]; show 2 * 0 + _ ≤ 8; omega) hdg ⟨u1, u2⟩
  exact hrun
theorem ex_runFW {X : ex_X} {ST : Nat → Nat} {y : MethodName} {bytes : ByteArray} {maxL d' n index : Nat} {ret : Option FieldType} {own : String} {as T : List Nat} {M : Nat} {rM' : Nat × Nat} {G : List Nat} {ad : Nat → Nat} {L : Nat} {ls : Array Slot} {H : Heap} {locs : List Loc} {cells slots : Nat} {hh : List (Nat × Nat × Nat × Nat)} {rk count : Nat} {r : vw_C} {x0 : MethodName} (hx : p.tables.exec = Jvm.exec) (hb : c.code = cc) (hml : c.maxLocals = nL) (hE : ex_svR E) (hW : ex_Wo E b ST H0 args s) (hWd : ex_Wd X E b ST H0 s) (hown : s.vm.findClass own = some m.cls) (hT : ∀ w ∈ ex_TT X.2.2, w.before args s = true) (hR : R = ex_rm (d' + 1) mc ms) (hmL : maxL ≤ 81) (hC : ex_Cn l X E b ST H0 (y, bytes, maxL, ret, (some hh)) d' as M rM') (hn : as.length = n + 1) (hrecv : ∃ x as', as = x :: as' ∧ ex_isR x = true ∧ ex_hd ST M x % 256 = rk) (hrk : rk < 64) (hr : ex_cl[rk]? = some r) (hlt : ∀ a ∈ as, a < 1099511627776) (hrs : ex_rsum T ≤ 8) (q : ex_SR E b H0 s.heap G0 ad0 nL G ad L (as.reverse ++ T) M ls ((as.reverse ++ T).map (ex_v E ad)) H locs) (u1 : cells + (ex_get rM'.2 1 - ex_get M 1) ≤ mc) (u2 : slots + (ex_get rM'.2 2 - ex_get M 2) ≤ ms)
    (hcw : ex_cw (y, bytes, maxL, ret, (some hh)) ∈ ex_TT X.2.2) (w1 : Cond.methodLink own index x0 ∈ ex_TT X.2.2) (w2 : Cond.selects r.1 x0 y ∈ ex_TT X.2.2) (w3 : Cond.instanceMethod y ∈ ex_TT X.2.2) (w4 : Cond.initialized y.cls ∈ ex_TT X.2.2) (hF : (r.1, x0, y) ∈ X.2.1)
    (hd : x0.cls ≠ "java/lang/invoke/MethodHandle" ∧ x0.cls ≠ "java/lang/invoke/VarHandle" ∧ (parseMethodDescriptor x0.desc).map (fun d => d.parameters.length) = some n) (hdg : decode cc pc = .ok (.invokeinterface index count, 5)) : ex_RunN 5 p l e R s m args below meth c H locs cells slots (ex_get rM'.2 1 - ex_get M 1) (ex_get rM'.2 2 - ex_get M 2) (F0 m pc ls ((as.reverse ++ T).map (ex_v E ad))) (T.map (ex_v E ad)) (ex_Qc E b G ad rM' #[]) (ex_XC E b G ad rM') (fun q => b ≤ q) := by
  obtain ⟨x, as', rfl, hxr, hxk⟩ := hrecv
  have hM := hC G ad (fun a ha => q.2.2.2.1 a (List.mem_append.mpr (Or.inl (List.mem_reverse.mpr ha)))) hlt
  have hsum := ex_catr (E := E) (ad := ad) hE.one T
  have hxin : x ∈ (x :: as').reverse ++ T := List.mem_append.mpr (Or.inl (List.mem_reverse.mpr List.mem_cons_self))
  obtain ⟨a, ea, hcellR⟩ := ex_recv (X := X) hW q.2.2.2.2.1 q.2.2.2.2.2.2.1 hxr (q.2.2.2.1 x hxin) hrk hxk hr
  have hargs : ((x :: as').map (ex_v E ad)).toArray = (Value.ref a :: as'.map (ex_v E ad)).toArray := by rw [List.map_cons, ea]
  have hPc : ∀ U : State, U.heap = H → s.WarmedH U.vm → ex_Pc X E b ST H0 G ad (x :: as') M (Value.ref a :: as'.map (ex_v E ad)).toArray U := fun U hU hWm => ⟨hargs.symm, by rw [hU]; exact q.2.2.2.2.1, hWd.moved hWm, by rw [hU]; exact ⟨q.2.2.2.2.2.2.1.1, q.2.2.2.2.2.2.1.2.1, fun z hz => absurd hz List.not_mem_nil⟩⟩
  subst hR
  have hstk : (F0 m pc ls (((x :: as').reverse ++ T).map (ex_v E ad))).stack = (as'.map (ex_v E ad)).reverse ++ .ref a :: T.map (ex_v E ad) := by
    show ((x :: as').reverse ++ T).map (ex_v E ad) = _
    rw [List.map_append, List.reverse_cons, List.map_append, List.map_reverse, List.append_assoc]
    congr 1
    rw [← ea]; rfl
  have hroom : (ex_rm d' (ex_get rM'.2 1 - ex_get M 1) (ex_get rM'.2 2 - ex_get M 2)).frames + 1 ≤ (ex_rm (d' + 1) mc ms).frames ∧ 8 + (maxL + 11) + (ex_rm d' (ex_get rM'.2 1 - ex_get M 1) (ex_get rM'.2 2 - ex_get M 2)).locals ≤ (ex_rm (d' + 1) mc ms).locals := by
    refine ⟨by show d' + 1 + 1 ≤ d' + 1 + 1; omega, ?_⟩
    show 8 + (maxL + 11) + (100 * d' + 100) ≤ 100 * (d' + 1) + 100
    omega
  have hG : GoodIn (ex_TT X.2.2) (va_wsF own index r.1 x0 y (ex_cw (y, bytes, maxL, ret, (some hh)) :: ex_TT X.2.2)) := ex_good w1 (ex_good w2 (ex_good w3 (ex_good w4 (ex_good hcw ex_TTgood))))
  have hat : ClassAt s r.1 (E.1.1 rk) := (hW.2.2.1 _ _ hr).1.2
  have hrun := vx_runFW (e := e) (cells := cells) (slots := slots) (locs := locs) (H := H) (meth := meth) (below := below) (rest := T.map (ex_v E ad)) (As := as'.map (ex_v E ad)) (g := F0 m pc ls (((x :: as').reverse ++ T).map (ex_v E ad))) hat ⟨hx, hb, hml, hown, hT⟩ hM (va_cwFW (args := args) (s := s) n hT hG rfl rfl rfl (hWd.2.2.2.2.2.2.2.2.2.1 _ hF).2 hd hroom) ⟨ex_Pc.blind, hcellR, hPc⟩ rfl (by rw [List.length_map]; rw [List.length_cons] at hn; omega) q.1.1 hstk (by rw [hsum]; show 2 * 0 + _ ≤ 8; omega) hdg ⟨u1, u2⟩
  exact hrun
theorem ex_runI {X : ex_X} {ST : Nat → Nat} {y : MethodName} {bytes : ByteArray} {maxL d' n index : Nat} {own : String} {as T : List Nat} {M : Nat} {rM' : Nat × Nat} {G : List Nat} {ad : Nat → Nat} {L : Nat} {ls : Array Slot} {H : Heap} {locs : List Loc} {cells slots : Nat} (hx : p.tables.exec = Jvm.exec) (hb : c.code = cc) (hml : c.maxLocals = nL) (hE : ex_svR E) (hW : ex_Wo E b ST H0 args s) (hWd : ex_Wd X E b ST H0 s) (hown : s.vm.findClass own = some m.cls) (hT : ∀ w ∈ ex_TT X.2.2, w.before args s = true) (hR : R = ex_rm (d' + 1) mc ms) (hmL : maxL ≤ 81) (hC : ex_Cn l X E b ST H0 (y, bytes, maxL, none, none) d' as M rM') (hn : as.length = n + 1) (hrecv : ∃ x as', as = x :: as' ∧ ex_isD x = true ∧ True) (hlt : ∀ a ∈ as, a < 1099511627776) (hrs : ex_rsum T ≤ 8) (q : ex_SR E b H0 s.heap G0 ad0 nL G ad L (as.reverse ++ T) M ls ((as.reverse ++ T).map (ex_v E ad)) H locs) (u1 : cells + (ex_get rM'.2 1 - ex_get M 1) ≤ mc) (u2 : slots + (ex_get rM'.2 2 - ex_get M 2) ≤ ms)
    (hcw : ex_cw (y, bytes, maxL, none, none) ∈ ex_TT X.2.2) (w1 : Cond.methodLink own index y ∈ ex_TT X.2.2) (w2 : Cond.instanceMethod y ∈ ex_TT X.2.2) (w3 : Cond.initialized y.cls ∈ ex_TT X.2.2) (hy1 : y.name = "<init>")
    (hd : y.cls ≠ "java/lang/invoke/MethodHandle" ∧ y.cls ≠ "java/lang/invoke/VarHandle" ∧ (parseMethodDescriptor y.desc).map (fun d => d.parameters.length) = some n) (hdg : decode cc pc = .ok (.invokespecial index, 3)) : ex_RunN 3 p l e R s m args below meth c H locs cells slots (ex_get rM'.2 1 - ex_get M 1) (ex_get rM'.2 2 - ex_get M 2) (F0 m pc ls ((as.reverse ++ T).map (ex_v E ad))) (T.map (ex_v E ad)) (ex_Qc E b G ad rM' #[]) (ex_XC E b G ad rM') (fun q => b ≤ q) := by
  obtain ⟨x, as', rfl, hxr, hxk⟩ := hrecv
  have hM := hC G ad (fun a ha => q.2.2.2.1 a (List.mem_append.mpr (Or.inl (List.mem_reverse.mpr ha)))) hlt
  have hsum := ex_catr (E := E) (ad := ad) hE.one T
  have hxin : x ∈ (x :: as').reverse ++ T := List.mem_append.mpr (Or.inl (List.mem_reverse.mpr List.mem_cons_self))
  have hxd := ex_isD_iff.mp hxr
  obtain ⟨a, ea⟩ : ∃ a, ex_v E ad x = .ref a := ⟨_, ex_v_D (by omega) hxd.2⟩
  have hargs : ((x :: as').map (ex_v E ad)).toArray = (Value.ref a :: as'.map (ex_v E ad)).toArray := by rw [List.map_cons, ea]
  have hPc : ∀ U : State, U.heap = H → s.WarmedH U.vm → ex_Pc X E b ST H0 G ad (x :: as') M (Value.ref a :: as'.map (ex_v E ad)).toArray U := fun U hU hWm => ⟨hargs.symm, by rw [hU]; exact q.2.2.2.2.1, hWd.moved hWm, by rw [hU]; exact ⟨q.2.2.2.2.2.2.1.1, q.2.2.2.2.2.2.1.2.1, fun z hz => absurd hz List.not_mem_nil⟩⟩
  subst hR
  have hstk : (F0 m pc ls (((x :: as').reverse ++ T).map (ex_v E ad))).stack = (as'.map (ex_v E ad)).reverse ++ .ref a :: T.map (ex_v E ad) := by
    show ((x :: as').reverse ++ T).map (ex_v E ad) = _
    rw [List.map_append, List.reverse_cons, List.map_append, List.map_reverse, List.append_assoc]
    congr 1
    rw [← ea]; rfl
  have hroom : (ex_rm d' (ex_get rM'.2 1 - ex_get M 1) (ex_get rM'.2 2 - ex_get M 2)).frames + 1 ≤ (ex_rm (d' + 1) mc ms).frames ∧ 8 + (maxL + 11) + (ex_rm d' (ex_get rM'.2 1 - ex_get M 1) (ex_get rM'.2 2 - ex_get M 2)).locals ≤ (ex_rm (d' + 1) mc ms).locals := by
    refine ⟨by show d' + 1 + 1 ≤ d' + 1 + 1; omega, ?_⟩
    show 8 + (maxL + 11) + (100 * d' + 100) ≤ 100 * (d' + 1) + 100
    omega
  have hrun := vx_runI (e := e) (cells := cells) (slots := slots) (locs := locs) (H := H) (meth := meth) (below := below) (rest := T.map (ex_v E ad)) (As := as'.map (ex_v E ad)) (b := a) (g := F0 m pc ls (((x :: as').reverse ++ T).map (ex_v E ad))) ⟨hx, hb, hml, hown, hT⟩ hM (cwI (args := args) (s := s) n hT (ex_good hcw ex_TTgood) rfl rfl rfl (hT _ w3) (hT _ w1) (hT _ w2) hy1 hd hroom) ⟨ex_Pc.blind, hPc⟩ rfl (by rw [List.length_map]; rw [List.length_cons] at hn; omega) q.1.1 hstk (by rw [hsum]; show 2 * 0 + _ ≤ 8; omega) hdg ⟨u1, u2⟩
  exact hrun
theorem ex_runIN {X : ex_X} {ST : Nat → Nat} {y : MethodName} {bytes : ByteArray} {maxL d' n index : Nat} {own : String} {as T : List Nat} {M : Nat} {rM' : Nat × Nat} {G : List Nat} {ad : Nat → Nat} {L : Nat} {ls : Array Slot} {H : Heap} {locs : List Loc} {cells slots : Nat} {host : String} (hx : p.tables.exec = Jvm.exec) (hb : c.code = cc) (hml : c.maxLocals = nL) (hE : ex_svR E) (hW : ex_Wo E b ST H0 args s) (hWd : ex_Wd X E b ST H0 s) (hown : s.vm.findClass own = some m.cls) (hT : ∀ w ∈ ex_TT X.2.2, w.before args s = true) (hR : R = ex_rm (d' + 1) mc ms) (hmL : maxL ≤ 81) (hC : ex_Cn l X E b ST H0 (y, bytes, maxL, none, none) d' as M rM') (hn : as.length = n + 1) (hrecv : ∃ x as', as = x :: as' ∧ ex_isD x = true ∧ True) (hlt : ∀ a ∈ as, a < 1099511627776) (hrs : ex_rsum T ≤ 8) (q : ex_SR E b H0 s.heap G0 ad0 nL G ad L (as.reverse ++ T) M ls ((as.reverse ++ T).map (ex_v E ad)) H locs) (u1 : cells + (ex_get rM'.2 1 - ex_get M 1) ≤ mc) (u2 : slots + (ex_get rM'.2 2 - ex_get M 2) ≤ ms)
    (hcw : ex_cw (y, bytes, maxL, none, none) ∈ ex_TT X.2.2) (w1 : Cond.methodLinkNest own index y host ∈ ex_TN) (w2 : Cond.instanceMethod y ∈ ex_TT X.2.2) (w3 : Cond.initialized y.cls ∈ ex_TT X.2.2) (hy1 : y.name = "<init>")
    (hd : y.cls ≠ "java/lang/invoke/MethodHandle" ∧ y.cls ≠ "java/lang/invoke/VarHandle" ∧ (parseMethodDescriptor y.desc).map (fun d => d.parameters.length) = some n) (hdg : decode cc pc = .ok (.invokespecial index, 3)) : ex_RunN 3 p l e R s m args below meth c H locs cells slots (ex_get rM'.2 1 - ex_get M 1) (ex_get rM'.2 2 - ex_get M 2) (F0 m pc ls ((as.reverse ++ T).map (ex_v E ad))) (T.map (ex_v E ad)) (ex_Qc E b G ad rM' #[]) (ex_XC E b G ad rM') (fun q => b ≤ q) := by
  obtain ⟨x, as', rfl, hxr, hxk⟩ := hrecv
  have hM := hC G ad (fun a ha => q.2.2.2.1 a (List.mem_append.mpr (Or.inl (List.mem_reverse.mpr ha)))) hlt
  have hsum := ex_catr (E := E) (ad := ad) hE.one T
  have hxin : x ∈ (x :: as').reverse ++ T := List.mem_append.mpr (Or.inl (List.mem_reverse.mpr List.mem_cons_self))
  have hxd := ex_isD_iff.mp hxr
  obtain ⟨a, ea⟩ : ∃ a, ex_v E ad x = .ref a := ⟨_, ex_v_D (by omega) hxd.2⟩
  have hargs : ((x :: as').map (ex_v E ad)).toArray = (Value.ref a :: as'.map (ex_v E ad)).toArray := by rw [List.map_cons, ea]
  have hPc : ∀ U : State, U.heap = H → s.WarmedH U.vm → ex_Pc X E b ST H0 G ad (x :: as') M (Value.ref a :: as'.map (ex_v E ad)).toArray U := fun U hU hWm => ⟨hargs.symm, by rw [hU]; exact q.2.2.2.2.1, hWd.moved hWm, by rw [hU]; exact ⟨q.2.2.2.2.2.2.1.1, q.2.2.2.2.2.2.1.2.1, fun z hz => absurd hz List.not_mem_nil⟩⟩
  subst hR
  have hstk : (F0 m pc ls (((x :: as').reverse ++ T).map (ex_v E ad))).stack = (as'.map (ex_v E ad)).reverse ++ .ref a :: T.map (ex_v E ad) := by
    show ((x :: as').reverse ++ T).map (ex_v E ad) = _
    rw [List.map_append, List.reverse_cons, List.map_append, List.map_reverse, List.append_assoc]
    congr 1
    rw [← ea]; rfl
  have hroom : (ex_rm d' (ex_get rM'.2 1 - ex_get M 1) (ex_get rM'.2 2 - ex_get M 2)).frames + 1 ≤ (ex_rm (d' + 1) mc ms).frames ∧ 8 + (maxL + 11) + (ex_rm d' (ex_get rM'.2 1 - ex_get M 1) (ex_get rM'.2 2 - ex_get M 2)).locals ≤ (ex_rm (d' + 1) mc ms).locals := by
    refine ⟨by show d' + 1 + 1 ≤ d' + 1 + 1; omega, ?_⟩
    show 8 + (maxL + 11) + (100 * d' + 100) ≤ 100 * (d' + 1) + 100
    omega
  have hrun := vx_runIN (e := e) (cells := cells) (slots := slots) (locs := locs) (H := H) (meth := meth) (below := below) (rest := T.map (ex_v E ad)) (As := as'.map (ex_v E ad)) (b := a) (g := F0 m pc ls (((x :: as').reverse ++ T).map (ex_v E ad))) ⟨hx, hb, hml, hown, hT⟩ hM (⟨va_cnB (args := args) (s := s) n hT (ex_good hcw ex_TTgood) rfl rfl rfl (hWd.2.2.2.2.1 _ w1) (hT _ w3) hd hroom, hy1, hT _ w2⟩) ⟨ex_Pc.blind, hPc⟩ rfl (by rw [List.length_map]; rw [List.length_cons] at hn; omega) q.1.1 hstk (by rw [hsum]; show 2 * 0 + _ ≤ 8; omega) hdg ⟨u1, u2⟩
  exact hrun
end
