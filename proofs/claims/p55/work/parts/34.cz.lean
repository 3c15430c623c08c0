noncomputable section
/-! the quicker run is the machine's -/
def ex_SND (l : Launch) (X : ex_X) (inf : Nat → ex_I) (V : ex_V) (ST : Nat → Nat) (E : ex_G) (b : Nat) (H0 : Heap) (mid nL : Nat) (kt : Nat → Option ex_C) : Prop :=
  ∀ (d : Nat) (call : Nat → List Nat → Nat → ex_R) (exj : Nat → ex_K) (p : Program) (e : Env) (R : Room) (s : State) (m : MethodId) (args : Array Value) (below : List Frame) (meth : Method) (c : Code) (mc ms : Nat) (rM : Nat × Nat),
    p.tables.exec = Jvm.exec → c.code = (inf mid).2.1 → c.maxLocals = nL → ex_Wd X E b ST H0 s → va_S (fun q => b ≤ q) H0 s.heap [] → s.vm.findClass (inf mid).1.cls = some m.cls → (∀ w ∈ ex_TT X.2.2, w.before args s = true) → meth.sig.returnType = (inf mid).2.2.2.1 → meth.name = (inf mid).1.name → meth.locks = false → R = ex_rm d mc ms → c.exceptionTable.toList = tableOf (ex_hh (inf mid)) →
    (∀ mid' as M' rM', call mid' as M' = some rM' → ∃ d', d = d' + 1 ∧ ex_Cn l X E b ST H0 (inf mid') d' as M' rM') →
    (∀ (G0 : List Nat) (ad0 : Nat → Nat) t, ex_Z E b H0 G0 ad0 nL p l e R s m args below meth c mc ms rM (exj t) t) →
    ∀ (G0 : List Nat) (ad0 : Nat → Nat) t c', kt t = some c' → ex_Z E b H0 G0 ad0 nL p l e R s m args below meth c mc ms rM (c' V ST d call exj) t
/-- as ex_SND, what had been given held fast -/
def ex_SNF (l : Launch) (X : ex_X) (inf : Nat → ex_I) (V : ex_V) (ST : Nat → Nat) (E : ex_G) (b : Nat) (H0 : Heap) (mid nL : Nat) (kt : Nat → Option ex_C) : Prop :=
  ∀ (d : Nat) (call : Nat → List Nat → Nat → ex_R) (exj : Nat → ex_K) (p : Program) (e : Env) (R : Room) (s : State) (m : MethodId) (args : Array Value) (below : List Frame) (meth : Method) (c : Code) (mc ms : Nat) (rM : Nat × Nat),
    p.tables.exec = Jvm.exec → c.code = (inf mid).2.1 → c.maxLocals = nL → ex_Wd X E b ST H0 s → va_S (fun q => b ≤ q) H0 s.heap [] → s.vm.findClass (inf mid).1.cls = some m.cls → (∀ w ∈ ex_TT X.2.2, w.before args s = true) → meth.sig.returnType = (inf mid).2.2.2.1 → meth.name = (inf mid).1.name → meth.locks = false → R = ex_rm d mc ms → c.exceptionTable.toList = tableOf (ex_hh (inf mid)) →
    (∀ mid' as M' rM', call mid' as M' = some rM' → ∃ d', d = d' + 1 ∧ ex_Cn l X E b ST H0 (inf mid') d' as M' rM') →
    ∀ (G0 : List Nat) (ad0 : Nat → Nat), (∀ t, ex_Z E b H0 G0 ad0 nL p l e R s m args below meth c mc ms rM (exj t) t) →
    ∀ t c', kt t = some c' → ex_Z E b H0 G0 ad0 nL p l e R s m args below meth c mc ms rM (c' V ST d call exj) t
/-- a method whose blocks are the evaluator's -/
theorem ex_snf {l : Launch} {X : ex_X} {inf : Nat → ex_I} {V : ex_V} {ST : Nat → Nat} {E : ex_G} {b : Nat} {H0 : Heap} (hl : l.stackTraces = false) (hV : ex_VOK E V) (hCW : ex_CW X) (hCT : ex_CT) {mid : Nat} {z : Nat × Nat × Nat × ex_H × ex_CD} (hOK : ex_MOK X (inf mid) inf z) {kt : Nat → Option ex_C} (hk : ex_CTT z.2.2.1 z.2.2.2.1 z.2.2.2.2 kt z.2.2.2.2) : ex_SNF l X inf V ST E b H0 mid z.1 kt := by
  intro d call exj p e R s m args below meth c mc ms rM b1 b2 b3 b4 b5 b6 b7 b8 b9 b10 b11 b12 hcall G0 ad0 kj t c' hc'
  obtain ⟨o1, o2, o3, o4, o5⟩ := hOK
  rw [hk t c' hc']
  refine ex_seqZ (X := X) (inf := inf) (own := (inf mid).1.cls) (mn := (inf mid).1.name) (cc := (inf mid).2.1) (ret := (inf mid).2.2.2.1) (hh := ex_hh (inf mid)) (rt := z.2.2.1) (d := d) (hs := z.2.2.2.1) (bt := z.2.2.2.2)
      (call := call) (exj := exj) b1 b2 b3 hV b4 b5 b6 b7 hl b8 b9 b10 b11 b12 o5 hCW hCT hcall ?_ ?_ kj (z.2.2.2.2 t) t (o4 t)
  · intro t n k ax r ht
    have hbk := o4 t
    rw [ht] at hbk
    obtain g | ⟨⟨-, g2, g3⟩, -⟩ := hbk
    · cases g
    exact ⟨of_decide_eq_true g3, g2⟩
  · intro t n k ax r ht
    have hbk := o4 t
    rw [ht] at hbk
    obtain g | ⟨⟨-, g2, g3⟩, -⟩ := hbk
    · cases g
    exact ⟨of_decide_eq_true g3, g2⟩
theorem ex_SNF.nd {l : Launch} {X : ex_X} {inf : Nat → ex_I} {V : ex_V} {ST : Nat → Nat} {E : ex_G} {b : Nat} {H0 : Heap} {mid nL : Nat} {kt : Nat → Option ex_C} (h : ex_SNF l X inf V ST E b H0 mid nL kt) : ex_SND l X inf V ST E b H0 mid nL kt := fun d call exj p e R s m args below meth c mc ms rM b1 b2 b3 b4 b5 b6 b7 b8 b9 b10 b11 b12 hcall kj G0 ad0 => h d call exj p e R s m args below meth c mc ms rM b1 b2 b3 b4 b5 b6 b7 b8 b9 b10 b11 b12 hcall G0 ad0 (kj G0 ad0)
theorem ex_snd {l : Launch} {X : ex_X} {inf : Nat → ex_I} {V : ex_V} {ST : Nat → Nat} {E : ex_G} {b : Nat} {H0 : Heap} (hl : l.stackTraces = false) (hV : ex_VOK E V) (hCW : ex_CW X) (hCT : ex_CT) {mid : Nat} {z : Nat × Nat × Nat × ex_H × ex_CD} (hOK : ex_MOK X (inf mid) inf z) {kt : Nat → Option ex_C} (hk : ex_CTT z.2.2.1 z.2.2.2.1 z.2.2.2.2 kt z.2.2.2.2) : ex_SND l X inf V ST E b H0 mid z.1 kt := (ex_snf hl hV hCW hCT hOK hk).nd
/-- from what is judged of a body to its method's contract -/
theorem cx_met {l : Launch} {X : ex_X} {inf : Nat → ex_I} {ST : Nat → Nat} {E : ex_G} {b : Nat} {H0 : Heap} {d mid : Nat} {z : Nat × Nat × Nat × ex_H × ex_CD} {K : ex_K} (hOK : ex_MOK X (inf mid) inf z)
    (hF : ∀ (G0 : List Nat) (ad0 : Nat → Nat) (p : Program) (e : Env) (R : Room) (s : State) (m : MethodId) (args : Array Value) (below : List Frame) (meth : Method) (c : Code) (mc ms : Nat) (rM : Nat × Nat),
    p.tables.exec = Jvm.exec → c.code = (inf mid).2.1 → c.maxLocals = z.1 → ex_Wd X E b ST H0 s → va_S (fun q => b ≤ q) H0 s.heap [] → s.vm.findClass (inf mid).1.cls = some m.cls → (∀ w ∈ ex_TT X.2.2, w.before args s = true) → meth.sig.returnType = (inf mid).2.2.2.1 → meth.name = (inf mid).1.name → meth.locks = false → R = ex_rm d mc ms → c.exceptionTable.toList = tableOf (ex_hh (inf mid)) →
    ex_Z E b H0 G0 ad0 z.1 p l e R s m args below meth c mc ms rM K 0) {as : List Nat} {M : Nat} {rM : Nat × Nat}
    (hn : ex_rsum as ≤ z.1) (h : K (ex_pack as 0 z.2.1) [] M = some rM) : ex_Cn l X E b ST H0 (inf mid) d as M rM := by
  intro G0 ad0 hk hlt
  have hF := hF G0 ad0
  obtain ⟨o1, o2, o3, o4, o5⟩ := hOK
  have body : ∀ (p : Program) (e : Env) (s : State) (m : MethodId) (args : Array Value) (below : List Frame) (meth : Method) (c : Code), p.tables.exec = Jvm.exec → c.code = (inf mid).2.1 → c.maxLocals = (inf mid).2.2.1 → s.vm.findClass (inf mid).1.cls = some m.cls → (∀ w ∈ ex_TT X.2.2, w.before args s = true) → meth.sig.returnType = (inf mid).2.2.2.1 → meth.name = (inf mid).1.name → meth.locks = false → c.exceptionTable.toList = tableOf (ex_hh (inf mid)) →
      ex_Pc X E b ST H0 G0 ad0 as M args s → W p l e (ex_rm d (ex_get rM.2 1 - ex_get M 1) (ex_get rM.2 2 - ex_get M 2)) s m args below meth c s.heap [] 0 0 (vx_MQ below (ex_Qc E b G0 ad0 rM) (ex_XC E b G0 ad0 rM) args s (ex_get rM.2 1 - ex_get M 1) (ex_get rM.2 2 - ex_get M 2) (fun q => b ≤ q)) (entryFrame m args (inf mid).2.2.1) := by
    intro p e s m args below meth c b1 b2 b3 b4 b5 b6 b7 b8 b9 hP
    obtain ⟨p1, p2, p3, p4⟩ := hP
    have hZ := hF p e (ex_rm d (ex_get rM.2 1 - ex_get M 1) (ex_get rM.2 2 - ex_get M 2)) s m args below meth c (ex_get rM.2 1 - ex_get M 1) (ex_get rM.2 2 - ex_get M 2) rM b1 b2 (b3.trans o1) p3 p4 b4 b5 b6 b7 b8 rfl b9 _ _ _ h
    obtain ⟨⟨m1, m2⟩, hw⟩ := hZ
    obtain ⟨ls, e1, e2, e3⟩ := ex_entry (E := E) (G := G0) (ad := ad0) p3.1.2.one m hn o2 hlt hk
    rw [show entryFrame m args (inf mid).2.2.1 = F0 m 0 ls [] by rw [o1, p1]; exact e1]
    refine hw G0 ad0 ls [] s.heap [] 0 0 ⟨e2, e3, rfl, (fun x hx => nomatch hx), p2, fun w hw => ⟨hw, rfl⟩, p4, ?_⟩ (by omega) (by omega)
    exact ⟨Nat.le_refl _, fun _ _ _ => rfl, fun x hx => nomatch hx⟩
  generalize hq : inf mid = q at *
  obtain ⟨y, bytes, maxL, ret, _ | hh⟩ := q
  · refine ex_ofW (cc := bytes) (maxL := maxL) (ret := ret) o3 rfl fun p e s m args below meth c s₁ B hml hno hP => ?_
    have hts := atoms_spec (ws := Cond.code y bytes maxL ret :: ex_TT X.2.2) B.pre
    exact body p e s m args below meth c B.exec B.bytes hml (findClass_of_methodNamed B.named) (fun w hw => hts w (List.mem_cons_of_mem _ hw)) B.returns (name_of_methodNamed B.named B.method).1 B.notSynchronized (List.eq_nil_iff_forall_not_mem.mpr (fun x hx => hno x hx)) hP
  · refine ex_ofWH (cc := bytes) (maxL := maxL) (ret := ret) (hh := hh) o3 rfl fun p e s m args below meth c s₁ B hml hP => ?_
    have hts := atoms_spec (ws := Cond.codeWith y bytes maxL ret hh :: ex_TT X.2.2) B.pre
    exact body p e s m args below meth c B.exec B.bytes hml (findClass_of_methodNamed B.named) (fun w hw => hts w (List.mem_cons_of_mem _ hw)) B.returns (name_of_methodNamed B.named B.method).1 B.notSynchronized (vx_table (x := y) B (hts _ List.mem_cons_self)) hP
/-- a table of methods that can be run -/
def ex_KOK (l : Launch) (X : ex_X) (inf : Nat → ex_I) (V : ex_V) (ST : Nat → Nat) (E : ex_G) (b : Nat) (H0 : Heap) (MK : ex_MK) : Prop :=
  ∀ mid q, MK mid = some q → (∃ z, ex_MOK X (inf mid) inf z ∧ z.1 = q.1 ∧ z.2.1 = q.2.1) ∧ ex_SND l X inf V ST E b H0 mid q.1 q.2.2
def ex_AOK (l : Launch) (X : ex_X) (inf : Nat → ex_I) (ST : Nat → Nat) (E : ex_G) (b : Nat) (H0 : Heap) (AL : ex_AL) : Prop :=
  ∀ d m as M rM, AL d m as M = some (some rM) → ex_Cn l X E b ST H0 (inf m) d as M rM
def cx_FR (l : Launch) (X : ex_X) (inf : Nat → ex_I) (AL : ex_AL) (V : ex_V) (ST : Nat → Nat) (MK : ex_MK) (E : ex_G) (b : Nat) (H0 : Heap) (fuel : Nat) : Prop :=
  ∀ (d mid : Nat) (q : Nat × Nat × (Nat → Option ex_C)), MK mid = some q → ∀ (G0 : List Nat) (ad0 : Nat → Nat) (p : Program) (e : Env) (R : Room) (s : State) (m : MethodId) (args : Array Value) (below : List Frame) (meth : Method) (c : Code) (mc ms : Nat) (rM : Nat × Nat),
    p.tables.exec = Jvm.exec → c.code = (inf mid).2.1 → c.maxLocals = q.1 → ex_Wd X E b ST H0 s → va_S (fun q => b ≤ q) H0 s.heap [] → s.vm.findClass (inf mid).1.cls = some m.cls → (∀ w ∈ ex_TT X.2.2, w.before args s = true) → meth.sig.returnType = (inf mid).2.2.2.1 → meth.name = (inf mid).1.name → meth.locks = false → R = ex_rm d mc ms → c.exceptionTable.toList = tableOf (ex_hh (inf mid)) →
    ∀ pc, ex_Z E b H0 G0 ad0 q.1 p l e R s m args below meth c mc ms rM (cx_run AL V ST MK fuel d q.2.2 pc) pc
theorem cx_runZ {l : Launch} {X : ex_X} {inf : Nat → ex_I} {AL : ex_AL} {V : ex_V} {ST : Nat → Nat} {MK : ex_MK} {E : ex_G} {b : Nat} {H0 : Heap} (hA : ex_AOK l X inf ST E b H0 AL) (hMK : ex_KOK l X inf V ST E b H0 MK) : ∀ fuel, cx_FR l X inf AL V ST MK E b H0 fuel := by
  intro fuel
  induction fuel with
  | zero => intro d mid z hz G0 ad0 p e R s m args below meth c mc ms rM _ _ _ _ _ _ _ _ _ _ _ _ pc L S M h; exact nomatch (show (none : ex_R) = some rM from h)
  | succ fuel ih =>
    intro d mid q hq G0 ad0 p e R s m args below meth c mc ms rM b1 b2 b3 b4 b5 b6 b7 b8 b9 b10 b11 b12 pc
    have kj := fun G0 ad0 => ih d mid q hq G0 ad0 p e R s m args below meth c mc ms rM b1 b2 b3 b4 b5 b6 b7 b8 b9 b10 b11 b12
    obtain ⟨-, hS⟩ := hMK mid q hq
    intro L S M h
    have h : @Option.rec ex_C (fun _ => ex_R) none (fun c => c V ST d
      (fun m as M => @Nat.rec (fun _ => ex_R) none (fun d' _ => @Option.rec ex_R (fun _ => ex_R) (@Option.rec (Nat × Nat × (Nat → Option ex_C)) (fun _ => ex_R) none (fun q => @Bool.rec (fun _ => ex_R) none (cx_run AL V ST MK fuel d' q.2.2 0 (g_pack as 0 q.2.1) [] M) (Nat.ble (ex_rsum as) q.1)) (MK m)) (fun r => r) (AL d' m as M)) d)
      (cx_run AL V ST MK fuel d q.2.2) L S M) (q.2.2 pc) = some rM := h
    obtain ⟨c', hc', h⟩ := ex_op1 h
    refine hS d _ (cx_run AL V ST MK fuel d q.2.2) p e R s m args below meth c mc ms rM b1 b2 b3 b4 b5 b6 b7 b8 b9 b10 b11 b12 ?_ kj G0 ad0 pc c' hc' L S M h
    intro mid' as M' rM' h
    cases d with
    | zero => exact nomatch (show (none : ex_R) = some rM' from h)
    | succ d' =>
      refine ⟨d', rfl, ?_⟩
      have h : @Option.rec ex_R (fun _ => ex_R) (@Option.rec (Nat × Nat × (Nat → Option ex_C)) (fun _ => ex_R) none (fun q => @Bool.rec (fun _ => ex_R) none (cx_run AL V ST MK fuel d' q.2.2 0 (g_pack as 0 q.2.1) [] M') (Nat.ble (ex_rsum as) q.1)) (MK mid')) (fun r => r) (AL d' mid' as M') = some rM' := h
      cases ha : AL d' mid' as M' with
      | some r =>
        rw [ha] at h
        have h : r = some rM' := h
        exact hA d' mid' as M' rM' (by rw [ha, h])
      | none =>
        rw [ha] at h
        have h : @Option.rec (Nat × Nat × (Nat → Option ex_C)) (fun _ => ex_R) none (fun q => @Bool.rec (fun _ => ex_R) none (cx_run AL V ST MK fuel d' q.2.2 0 (g_pack as 0 q.2.1) [] M') (Nat.ble (ex_rsum as) q.1)) (MK mid') = some rM' := h
        obtain ⟨q', hq', h⟩ := ex_op1 h
        obtain ⟨hle, h⟩ := ex_br1 h
        obtain ⟨⟨z', hz1, hz2, hz3⟩, -⟩ := hMK mid' q' hq'
        rw [g_packE, ← hz3] at h
        refine cx_met hz1 (K := cx_run AL V ST MK fuel d' q'.2.2 0) ?_ (by rw [hz2]; exact Nat.le_of_ble_eq_true hle) h
        intro G0 ad0 p e R s m args below meth c mc ms rM c1 c2 c3 c4 c5 c6 c7 c8 c9 c10 c11 c12
        rw [hz2] at c3 ⊢
        exact ih d' mid' q' hq' G0 ad0 p e R s m args below meth c mc ms rM c1 c2 c3 c4 c5 c6 c7 c8 c9 c10 c11 c12 0
/-- no call is answered otherwise -/
theorem ex_AOK0 {l : Launch} {X : ex_X} {inf : Nat → ex_I} {ST : Nat → Nat} {E : ex_G} {b : Nat} {H0 : Heap} : ex_AOK l X inf ST E b H0 (fun _ _ _ _ => none) := fun _ _ _ _ _ h => nomatch h
end
