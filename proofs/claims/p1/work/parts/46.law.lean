noncomputable section
/-! THE CLAIM OUT OF ONE WALK OF THE LAW'S BODY. Your part is whole_start (and what it stands on); all else here is the same for every law, but numbers. -/
def R_law : String := "CallerhallLaw"
def lw_P (b : Addr) (xs : List Int32) (args : Array Value) (s : State) : Prop := args = #[.ref b] ∧ s.IntsAt b xs ∧ xs.length ≤ 6 ∧ (Jvm.Cond.and given_1 narrow_1).before args s = true
/-- what a walk over the start with the record d0 says of its end, said of the start itself -/
theorem lw_closed {s t : State} {o : Outcome} {d0 : Drawn} {L : List Loc} {k n : Nat} (hd0 : s.drawn.sameBut d0 lw_cs) (hv : ∃ v, o = .returned v) (hW : (s.setDrawn d0).WarmedH t.vm) (hs : (s.setDrawn d0).sameButNew ({ t with vm := s.vm } : State) L k n) : State.butDraws s t lw_cs (fun t1 => Framed s o t1 L k n) := by
  have h2 : t.drawn = d0 := congrArg State.drawn hs.1
  refine ⟨⟨hv, hW, State.sameButNew.setDrawn hs s.drawn⟩, ?_, by decide⟩
  rw [h2]
  exact hd0
def lw_Q (_ : Array Value) (s : State) (o : Outcome) (t : State) : Prop := o = .returned (some (.int 1)) ∧ State.butDraws s t lw_cs (fun t1 => Framed s o t1 [] 600006 7302039)
def lw_Z (below : List Frame) (a : Array Value) (s : State) : State → Prop := fun t => ∃ o, t.status = .running ∧ Ended t below o ∧ lw_Q a s o t
/-- the law's own end, with 1 on the stack, nothing written that was there before, its room as the claim has it; d0: the record of draws at this point (at the entry s.drawn: begin with 'refine W.base ?_' and 'have hd0 := Drawn.sameBut.refl s.drawn lw_cs') -/
theorem lw_ret {p : Program} {l : Launch} {e : Env} {s : State} {m : MethodId} {below : List Frame} {meth : Method} {c : Code} {b : Nat} {d0 : Drawn} (hd0 : s.drawn.sameBut d0 lw_cs) (hx : p.tables.exec = Jvm.exec) (hb : c.code = code) (hr : meth.sig.returnType = ret) (hlocks : meth.locks = false) {pc : Nat} {H : Heap} {ls : Array Slot} (hdg : decode code pc = .ok (.ireturn, 1)) : W p l e room_1 (s.setDrawn d0) m #[Value.ref b] below meth c H [] 600006 7302039 (lw_Z below #[Value.ref b] s) (F0 m pc ls [.int 1]) := by
  intro T hT X
  obtain ⟨fs, hret, hrun, hended, hW, hframe⟩ := X.leave (v := some (.int 1)) (hlocks := hlocks) (fun h => by rw [hr] at h; cases h)
  have hmeth' : T.vm.method? m = some meth := X.method'
  refine ⟨T.setFrames fs, ?_, .returned (some (.int 1)), hrun, hended, rfl, lw_closed hd0 ⟨_, rfl⟩ hW hframe⟩
  jvm_step X.here [X.here.top, hx, hb, hdg, hmeth', hr, ret, narrow_b1]
  (try refine ⟨rfl, ?_⟩); (try refine ⟨rfl, ?_⟩)
  first | (intro acts; rw [hret _ acts rfl rfl rfl]) | rw [hret _ _ rfl rfl rfl]
  exact Steps.refl _
/-- what holds at the law's entry: the machine, the code, the tables' words (any of lw_tbl by 'hts w (by decide +kernel)'), the script of L ints xs at the cell b, what the Statement gives of the start (any of its parts by flat_of_before) -/
def lw_At (p : Program) (s : State) (m : MethodId) (meth : Method) (c : Code) (b L : Nat) (xs : Nat → Int32) : Prop :=
  p.tables.exec = Jvm.exec ∧ c.code = code ∧ meth.sig.returnType = ret ∧ c.maxLocals = 10 ∧ s.vm.findClass R_law = some m.cls ∧ (∀ w ∈ lw_tbl, w.before #[Value.ref b] s = true) ∧ va_X b L xs s s.heap ∧ b < s.heap.size ∧ meth.locks = false ∧ (Jvm.Cond.and given_1 narrow_1).before #[Value.ref b] s = true ∧ meth.name = "law" ∧ c.exceptionTable.toList = []
/-- the law's end: nothing more is told of the store -/
def lx_M : Nat := 3 + 600006 * 1099511627776 + 7302039 * 1208925819614629174706176
def lx_r : Nat × Nat := (1, lx_M)
theorem lx_M_ok : ex_get lx_M 0 = 3 ∧ ex_get lx_M 1 = 600006 ∧ ex_get lx_M 2 = 7302039 ∧ lx_M < 2 ^ (40 * 3) := by decide +kernel
theorem lx_room {s : State} {pl : Platform} (h : s.hasRoom pl room_1 = true) : s.hasRoom pl (ex_rm 943 600006 7302039) = true := by
  have e1 : room_1.frames = 2048 := rfl
  have e2 : room_1.locals = 94400 := rfl
  have e3 : room_1.cells = 600006 := rfl
  have e4 : room_1.slots = 7302039 := rfl
  have f1 : (ex_rm 943 600006 7302039).frames = 944 := rfl
  have f2 : (ex_rm 943 600006 7302039).locals = 94400 := rfl
  have f3 : (ex_rm 943 600006 7302039).cells = 600006 := rfl
  have f4 : (ex_rm 943 600006 7302039).slots = 7302039 := rfl
  unfold State.hasRoom at h ⊢
  simp only [Bool.and_eq_true, decide_eq_true_eq] at h ⊢
  rw [e1, e2, e3, e4] at h
  rw [f1, f2, f3, f4]
  obtain ⟨⟨⟨⟨h1, h2, h3, h4, h5, h6⟩, h7⟩, h8⟩, h9⟩ := h
  exact ⟨⟨⟨⟨h1, by omega, by omega, h4, h5, h6⟩, h7⟩, h8⟩, h9⟩
section
variable {p : Program} {e : Env} {s : State} {m : MethodId} {below : List Frame} {meth : Method} {c : Code} {l : Launch} {b L : Nat} {xs : Nat → Int32}
abbrev lx_W (p : Program) (l : Launch) (e : Env) (s : State) (m : MethodId) (b : Nat) (below : List Frame) (meth : Method) (c : Code) (E : ex_G) (rM : Nat × Nat) (pc L : Nat) (M : Nat) : Prop :=
  ∀ (G : List Nat) (ad : Nat → Nat) (ls : Array Slot) (st : List Value) (H : Heap) (locs : List Loc) (cells slots : Nat), ex_SR E s.heap.size s.heap s.heap [] id 10 G ad L [] M ls st H locs → cells + ex_get rM.2 1 ≤ 600006 + ex_get M 1 → slots + ex_get rM.2 2 ≤ 7302039 + ex_get M 2 →
    W p l e (ex_rm 943 600006 7302039) s m #[Value.ref b] below meth c H locs cells slots (vx_MQ below (ex_Qc E s.heap.size [] id rM) (ex_XC E s.heap.size [] id rM) #[Value.ref b] s 600006 7302039 (fun q => s.heap.size ≤ q)) (F0 m pc ls st)
/-- what is known of the law's frame -/
def lx_F (l : Launch) (p : Program) (s : State) (m : MethodId) (meth : Method) (c : Code) (b : Nat) : Prop :=
  p.tables.exec = Jvm.exec ∧ c.code = (ex_inf 389).2.1 ∧ c.maxLocals = 10 ∧ s.vm.findClass (ex_inf 389).1.cls = some m.cls ∧ (∀ w ∈ ex_TT ex_Xc.2.2, w.before #[Value.ref b] s = true) ∧ meth.sig.returnType = (ex_inf 389).2.2.2.1 ∧ meth.name = (ex_inf 389).1.name ∧ meth.locks = false ∧ c.exceptionTable.toList = tableOf (ex_hh (ex_inf 389)) ∧ l.stackTraces = false
/-- a run from a place of the law's body -/
theorem lx_run {E : ex_G} {O : Nat} {V : ex_V} {AL : ex_AL} {fuel pc L M : Nat} {rM : Nat × Nat} (hF : lx_F l p s m meth c b) (hW : ex_Wd ex_Xc E s.heap.size (xw_S O) s.heap s) (hV : ex_VOK E V) (hA : ex_AOK l ex_Xc ex_inf (xw_S O) E s.heap.size s.heap AL)
    (h : cx_run AL V (xw_S O) ex_km fuel 943 kt_389 pc L [] M = some rM) (hr1 : rM.1 = 1) (hr2 : ex_get rM.2 1 ≤ 600006) (hr3 : ex_get rM.2 2 ≤ 7302039) : ex_get M 1 ≤ 600006 ∧ ex_get M 2 ≤ 7302039 ∧ lx_W p l e s m b below meth c E lx_r pc L M := by
  obtain ⟨f1, f2, f3, f4, f5, f6, f7, f8, f9, f10⟩ := hF
  obtain ⟨g0, g1, g2, g3⟩ := lx_M_ok
  have hZ := cx_runZ hA (ex_kmOK f10 hV ex_CWc ex_CTc) fuel 943 389 (10, 322781234761157141529836892652242159722405802138225160364490522150877966779508785944832409556761102436233010035262750720, kt_389) rfl [] id p e (ex_rm 943 600006 7302039) s m #[Value.ref b] below meth c 600006 7302039 rM f1 f2 f3 hW va_S.rf f4 f5 f6 f7 f8 rfl f9 pc L [] M h
  obtain ⟨⟨z1, z2⟩, hw⟩ := hZ
  refine ⟨by omega, by omega, fun G ad ls st H locs cells slots q hc hs => ?_⟩
  have hc : cells + ex_get lx_M 1 ≤ 600006 + ex_get M 1 := hc
  have hs : slots + ex_get lx_M 2 ≤ 7302039 + ex_get M 2 := hs
  rw [g1] at hc
  rw [g2] at hs
  refine bx_mono (fun a s o t h => ?_) (fun x s t h => ?_) (hw G ad ls st H locs cells slots q (by omega) (by omega))
  · obtain ⟨G1, ad1, -, -, h3, -, h5⟩ := h
    refine ⟨[], id, (fun w hw => nomatch hw), ⟨(fun w hw => nomatch hw), (fun w hw => nomatch hw), (fun w hw => nomatch hw), (fun w hw => nomatch hw), (fun w hw => nomatch hw), ?_, ?_, (fun w hw => nomatch hw)⟩, h3, by decide, Or.inr ⟨by decide, ex_okc_lt (by decide), ?_⟩⟩
    · show lx_M < 2 ^ (40 * ex_get lx_M 0)
      rw [g0]; exact g3
    · show 3 ≤ ex_get lx_M 0 ∧ ex_get lx_M 0 < 2147483648
      rw [g0]; decide
    · rcases h5 with ⟨h5, -⟩ | ⟨-, -, h5⟩
      · rw [hr1] at h5; cases h5
      · rw [h5, hr1]
        rw [ex_v_n (by decide), show lx_r.1 = 1 from rfl, ex_v_n (by decide)]
  · obtain ⟨G1, ad1, -, -, -, h4, -⟩ := h
    rw [hr1] at h4
    exact absurd h4 (by decide)
end
end
