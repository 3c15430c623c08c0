/-! a method's evaluation is the machine's: by induction on fuel -/
theorem ex_ofW {l : Launch} {y : MethodName} {ws ws' : List Cond} {rm : Room} {Pc : Array Value → State → Prop} {Qc : Array Value → State → Outcome → State → Prop} {XC : String → State → State → Prop} {mc ms : Nat} {free : Addr → Prop} {cc : ByteArray} {maxL : Nat} {ret : Option FieldType}
    (hy : plainFor y = true) (hw : ws = Cond.code y cc maxL ret :: ws')
    (body : ∀ p e s m args below meth c s₁, BodyLoose p l y (headSpec ws rm) cc maxL ret e s m args below meth c s₁ → c.maxLocals = maxL → (∀ x ∈ c.exceptionTable.toList, False) → Pc args s →
      W p l e (headSpec ws rm).room s m args below meth c s.heap [] 0 0 (vx_MQ below Qc XC args s mc ms free) (entryFrame m args maxL)) : vx_Met l y ws rm Pc Qc XC mc ms free := by
  refine MetFree.of_bodySF (code := cc) (maxLocals := maxL) (ret := ret) hy ?_ ?_
  · intro args s m h hn
    obtain ⟨meth, c, h1, h2, h3, h4, h5, h6, -, -⟩ := Cond.code_spec hn (atoms_spec (ws := ws) h _ (by rw [hw]; exact List.mem_cons_self))
    exact ⟨meth, c, h1, h2, h3, h4, h5, h6⟩
  · intro p e s m args below meth c s₁ B hml hP _
    have hh0 : s₁.heap = s.heap := by rw [B.state]; rfl
    have ht : ∀ x ∈ c.exceptionTable.toList, False := by
      obtain ⟨meth9, c9, h1, h2, -, -, -, -, h7, -⟩ := Cond.code_spec B.named (atoms_spec (ws := ws) B.pre _ (by rw [hw]; exact List.mem_cons_self))
      cases Option.some.inj (h1.symm.trans B.method)
      cases Option.some.inj (h2.symm.trans (Stand.of_body B).code)
      intro x hx
      rw [Array.isEmpty_iff.mp h7] at hx
      cases hx
    obtain ⟨t, a1, o, b1, b2, b3⟩ := body p e s m args below meth c s₁ B hml ht hP s₁ hh0 (Stand.of_body B)
    exact ⟨t, o, a1, b1, b2, b3⟩
theorem ex_ofWH {l : Launch} {y : MethodName} {ws ws' : List Cond} {rm : Room} {Pc : Array Value → State → Prop} {Qc : Array Value → State → Outcome → State → Prop} {XC : String → State → State → Prop} {mc ms : Nat} {free : Addr → Prop} {cc : ByteArray} {maxL : Nat} {ret : Option FieldType} {hh : List (Nat × Nat × Nat × Nat)}
    (hy : plainFor y = true) (hw : ws = Cond.codeWith y cc maxL ret hh :: ws')
    (body : ∀ p e s m args below meth c s₁, BodyLoose p l y (headSpec ws rm) cc maxL ret e s m args below meth c s₁ → c.maxLocals = maxL → Pc args s →
      W p l e (headSpec ws rm).room s m args below meth c s.heap [] 0 0 (vx_MQ below Qc XC args s mc ms free) (entryFrame m args maxL)) : vx_Met l y ws rm Pc Qc XC mc ms free := by
  refine MetFree.of_bodySF (code := cc) (maxLocals := maxL) (ret := ret) hy ?_ ?_
  · intro args s m h hn
    obtain ⟨m9, meth, c, hn9, h1, h2, h3, h4, -, h5, h6, -⟩ := Cond.codeWith_spec (atoms_spec (ws := ws) h _ (by rw [hw]; exact List.mem_cons_self))
    cases hn.symm.trans hn9
    exact ⟨meth, c, h1, h2, h3, h4, h5, h6⟩
  · intro p e s m args below meth c s₁ B hml hP _
    have hh0 : s₁.heap = s.heap := by rw [B.state]; rfl
    obtain ⟨t, a1, o, b1, b2, b3⟩ := body p e s m args below meth c s₁ B hml hP s₁ hh0 (Stand.of_body B)
    exact ⟨t, o, a1, b1, b2, b3⟩
def ex_hh (q : ex_I) : List (Nat × Nat × Nat × Nat) := match q.2.2.2.2 with | none => [] | some hh => hh
def ex_MOK (X : ex_X) (q : ex_I) (inf : Nat → ex_I) (z : Nat × Nat × Nat × ex_H × ex_CD) : Prop :=
  q.2.2.1 = z.1 ∧ (∀ j, j < z.1 → ex_get z.2.1 j = 137438953472) ∧ plainFor q.1 = true ∧ (∀ t, ex_BK X inf q.1.cls q.1.name q.2.1 z.1 z.2.2.1 q.2.2.2.1 (z.2.2.2.2 t) t) ∧ ex_HO X (ex_TT X.2.2) q.1.cls z.2.2.2.1 (ex_hh q)
def ex_FR (l : Launch) (X : ex_X) (inf : Nat → ex_I) (V : ex_V) (ST : Nat → Nat) (MI : ex_MI) (E : ex_G) (b : Nat) (H0 : Heap) (fuel : Nat) : Prop :=
  ∀ (d mid : Nat) (z : Nat × Nat × Nat × ex_H × ex_CD), MI mid = some z → ∀ (G0 : List Nat) (ad0 : Nat → Nat) (p : Program) (e : Env) (R : Room) (s : State) (m : MethodId) (args : Array Value) (below : List Frame) (meth : Method) (c : Code) (mc ms : Nat) (rM : Nat × Nat),
    p.tables.exec = Jvm.exec → c.code = (inf mid).2.1 → c.maxLocals = z.1 → ex_Wd X E b ST H0 s → va_S (fun q => b ≤ q) H0 s.heap [] → s.vm.findClass (inf mid).1.cls = some m.cls → (∀ w ∈ ex_TT X.2.2, w.before args s = true) → meth.sig.returnType = (inf mid).2.2.2.1 → meth.name = (inf mid).1.name → meth.locks = false → R = ex_rm d mc ms → c.exceptionTable.toList = tableOf (ex_hh (inf mid)) →
    ∀ pc, ex_Z E b H0 G0 ad0 z.1 p l e R s m args below meth c mc ms rM (ex_run V ST ex_cB ex_cN MI fuel d z.2.2.1 z.2.2.2.1 z.2.2.2.2 pc) pc
/-- from the rows of a body to its method's contract -/
theorem ex_met {l : Launch} {X : ex_X} {inf : Nat → ex_I} {V : ex_V} {ST : Nat → Nat} {MI : ex_MI} {E : ex_G} {b : Nat} {H0 : Heap} {fuel : Nat} (hF : ex_FR l X inf V ST MI E b H0 fuel) {d mid : Nat} {z : Nat × Nat × Nat × ex_H × ex_CD} (hz : MI mid = some z) (hOK : ex_MOK X (inf mid) inf z) {as : List Nat} {M : Nat} {rM : Nat × Nat}
    (hn : ex_rsum as ≤ z.1) (h : ex_run V ST ex_cB ex_cN MI fuel d z.2.2.1 z.2.2.2.1 z.2.2.2.2 0 (ex_pack as 0 z.2.1) [] M = some rM) : ex_Cn l X E b ST H0 (inf mid) d as M rM := by
  intro G0 ad0 hk hlt
  have hF := hF d mid z hz G0 ad0
  obtain ⟨o1, o2, o3, o4, o5⟩ := hOK
  have body : ∀ (p : Program) (e : Env) (s : State) (m : MethodId) (args : Array Value) (below : List Frame) (meth : Method) (c : Code), p.tables.exec = Jvm.exec → c.code = (inf mid).2.1 → c.maxLocals = (inf mid).2.2.1 → s.vm.findClass (inf mid).1.cls = some m.cls → (∀ w ∈ ex_TT X.2.2, w.before args s = true) → meth.sig.returnType = (inf mid).2.2.2.1 → meth.name = (inf mid).1.name → meth.locks = false → c.exceptionTable.toList = tableOf (ex_hh (inf mid)) →
      ex_Pc X E b ST H0 G0 ad0 as M args s → W p l e (ex_rm d (ex_get rM.2 1 - ex_get M 1) (ex_get rM.2 2 - ex_get M 2)) s m args below meth c s.heap [] 0 0 (vx_MQ below (ex_Qc E b G0 ad0 rM) (ex_XC E b G0 ad0 rM) args s (ex_get rM.2 1 - ex_get M 1) (ex_get rM.2 2 - ex_get M 2) (fun q => b ≤ q)) (entryFrame m args (inf mid).2.2.1) := by
    intro p e s m args below meth c b1 b2 b3 b4 b5 b6 b7 b8 b9 hP
    obtain ⟨p1, p2, p3, p4⟩ := hP
    have hZ := hF p e (ex_rm d (ex_get rM.2 1 - ex_get M 1) (ex_get rM.2 2 - ex_get M 2)) s m args below meth c (ex_get rM.2 1 - ex_get M 1) (ex_get rM.2 2 - ex_get M 2) rM b1 b2 (b3.trans o1) p3 p4 b4 b5 b6 b7 b8 rfl b9 0 _ _ _ h
    obtain ⟨⟨m1, m2⟩, hw⟩ := hZ
    obtain ⟨ls, e1, e2, e3⟩ := ex_entry (E := E) (G := G0) (ad := ad0) p3.1.2.one m hn o2 hlt hk
    rw [show entryFrame m args (inf mid).2.2.1 = F0 m 0 ls [] by rw [o1, p1]; exact e1]
    refine hw G0 ad0 ls [] s.heap [] 0 0 ⟨e2, e3, rfl, (fun x hx => nomatch hx), p2, fun w hw => ⟨hw, rfl⟩, p4, ?_⟩ (by omega) (by omega)
    exact ⟨Nat.le_refl _, fun _ _ _ => rfl, fun x hx => nomatch hx⟩
  generalize hq : inf mid = q at *
  obtain ⟨y, bytes, maxL, ret, _ | hh⟩ := q
  · refine ex_ofW (cc := bytes) (maxL := maxL) (ret := ret) o3 rfl fun p e s m args below meth c s₁ B hml hno hP => ?_
    have hts := atoms_spec (ws := Cond.code y bytes maxL ret :: ex_TT X.2.2) B.pre
    exact body p e s m args below meth c B.exec B.bytes hml (findClass_of_methodNamed B.named) (fun w hw => hts w (List.mem_cons_of_mem _ hw)) B.returns (name_of_methodNamed B.named B.method).1 B.notSynchronized (List.eq_nil_iff_forall_not_mem.mpr (fun x hx => hno x hx)) hP
  · refine ex_ofWH (cc := bytes) (maxL := maxL) (ret := ret) (hh := hh) o3 rfl fun p e s m args below meth c s₁ B hml hP => ?_
    have hts := atoms_spec (ws := Cond.codeWith y bytes maxL ret hh :: ex_TT X.2.2) B.pre
    exact body p e s m args below meth c B.exec B.bytes hml (findClass_of_methodNamed B.named) (fun w hw => hts w (List.mem_cons_of_mem _ hw)) B.returns (name_of_methodNamed B.named B.method).1 B.notSynchronized (vx_table (x := y) B (hts _ List.mem_cons_self)) hP
theorem ex_runZ {l : Launch} {X : ex_X} {inf : Nat → ex_I} {V : ex_V} {ST : Nat → Nat} {MI : ex_MI} {E : ex_G} {b : Nat} {H0 : Heap} (hl : l.stackTraces = false) (hV : ex_VOK E V) (hCW : ex_CW X) (hCT : ex_CT) (hMI : ∀ mid z, MI mid = some z → ex_MOK X (inf mid) inf z) : ∀ fuel, ex_FR l X inf V ST MI E b H0 fuel := by
  intro fuel
  induction fuel with
  | zero => intro d mid z hz G0 ad0 p e R s m args below meth c mc ms rM _ _ _ _ _ _ _ _ _ _ _ _ pc L S M h; exact nomatch (show (none : ex_R) = some rM from h)
  | succ fuel ih =>
    intro d mid z hz G0 ad0 p e R s m args below meth c mc ms rM b1 b2 b3 b4 b5 b6 b7 b8 b9 b10 b11 b12 pc
    obtain ⟨o1, o2, o3, o4, o5⟩ := hMI mid z hz
    have kj := ih d mid z hz G0 ad0 p e R s m args below meth c mc ms rM b1 b2 b3 b4 b5 b6 b7 b8 b9 b10 b11 b12
    refine ex_seqZ (X := X) (inf := inf) (own := (inf mid).1.cls) (mn := (inf mid).1.name) (cc := (inf mid).2.1) (ret := (inf mid).2.2.2.1) (hh := ex_hh (inf mid)) (rt := z.2.2.1) (d := d) (hs := z.2.2.2.1) (bt := z.2.2.2.2)
      (call := fun m as M => @Nat.rec (fun _ => ex_R) none (fun d' _ => @Option.rec (Nat × Nat × Nat × ex_H × ex_CD) (fun _ => ex_R) none (fun q => @Bool.rec (fun _ => ex_R) none (ex_run V ST ex_cB ex_cN MI fuel d' q.2.2.1 q.2.2.2.1 q.2.2.2.2 0 (ex_pack as 0 q.2.1) [] M) (Nat.ble (ex_rsum as) q.1)) (MI m)) d)
      (exj := ex_run V ST ex_cB ex_cN MI fuel d z.2.2.1 z.2.2.2.1 z.2.2.2.2) b1 b2 b3 hV b4 b5 b6 b7 hl b8 b9 b10 b11 b12 o5 hCW hCT ?_ ?_ ?_ kj (z.2.2.2.2 pc) pc (o4 pc)
    · intro mid' as M' rM' h
      cases d with
      | zero => exact nomatch (show (none : ex_R) = some rM' from h)
      | succ d' =>
        have h : @Option.rec (Nat × Nat × Nat × ex_H × ex_CD) (fun _ => ex_R) none (fun q => @Bool.rec (fun _ => ex_R) none (ex_run V ST ex_cB ex_cN MI fuel d' q.2.2.1 q.2.2.2.1 q.2.2.2.2 0 (ex_pack as 0 q.2.1) [] M') (Nat.ble (ex_rsum as) q.1)) (MI mid') = some rM' := h
        obtain ⟨z', hz', h⟩ := ex_op1 h
        obtain ⟨hle, h⟩ := ex_br1 h
        exact ⟨d', rfl, ex_met ih hz' (hMI mid' z' hz') (Nat.le_of_ble_eq_true hle) h⟩
    · intro t n k ax r ht
      have hbk := o4 t
      rw [ht] at hbk
      obtain g | ⟨⟨-, g2, g3⟩, -⟩ := hbk
      · cases g
      exact ⟨of_decide_eq_true g3, g2⟩
    · intro t n k ax r ht
      have hbk := o4 t
      rw [ht] at hbk
      obtain g | ⟨⟨-, g2, g3⟩, -⟩ := hbk
      · cases g
      exact ⟨of_decide_eq_true g3, g2⟩
/-- a call that was evaluated -/
theorem ex_callZ {l : Launch} {X : ex_X} {inf : Nat → ex_I} {V : ex_V} {ST : Nat → Nat} {MI : ex_MI} {E : ex_G} {b : Nat} {H0 : Heap} (hl : l.stackTraces = false) (hV : ex_VOK E V) (hCW : ex_CW X) (hCT : ex_CT) (hMI : ∀ mid z, MI mid = some z → ex_MOK X (inf mid) inf z) {fuel d mid : Nat} {as : List Nat} {M : Nat} {rM : Nat × Nat}
    (h : ex_call V ST ex_cB ex_cN MI fuel d mid as M = some rM) : ex_Cn l X E b ST H0 (inf mid) d as M rM := by
  unfold ex_call at h
  obtain ⟨z, hz, h⟩ := ex_op1 h
  obtain ⟨hle, h⟩ := ex_br1 h
  exact ex_met (ex_runZ hl hV hCW hCT hMI fuel) hz (hMI mid z hz) (Nat.le_of_ble_eq_true hle) h
