/-! rows of references; casts; switches; static fields; returns -/
section
variable {E : ex_G} {b : Nat} {H0 : Heap} {G0 : List Nat} {ad0 : Nat → Nat} {nL : Nat} {p : Program} {l : Launch} {e : Env} {R : Room} {s : State} {m : MethodId} {args : Array Value} {below : List Frame} {meth : Method} {c : Code} {mc ms : Nat} {rM : Nat × Nat} {cc : ByteArray} {pc : Nat} {nx : ex_K}
/-- a row of references is made -/
theorem ex_anewF {aux n : Nat} {T : List Nat} {L M : Nat} {k : ex_Z E b H0 G0 ad0 nL p l e R s m args below meth c mc ms rM nx (pc + 3)} (hb0 : H0.size = b) (hn : n ≤ 100000) (ha : aux = 70 ∨ aux = 71) (h : ex_alloc M (ex_blk aux n 4294967296) n (fun c M => nx L (c :: T) M) = some rM) :
    (ex_get M 1 + 1 ≤ ex_get rM.2 1 ∧ n + ex_get M 2 ≤ ex_get rM.2 2) ∧ ∀ (S : List Nat) (G : List Nat) (ad : Nat → Nat) (ls : Array Slot) (st : List Value) (H : Heap) (locs : List Loc) (cells slots : Nat), (∀ z ∈ T, z ∈ S) → ex_SR E b H0 s.heap G0 ad0 nL G ad L S M ls st H locs → cells + ex_get rM.2 1 ≤ mc + ex_get M 1 → slots + ex_get rM.2 2 ≤ ms + ex_get M 2 → 
      W p l e R s m args below meth c (H.push { cls := E.2.1 aux, slots := Array.replicate n .null, vm := .none }) locs (cells + 1) (slots + n) (vx_MQ below (ex_Qc E b G0 ad0 rM) (ex_XC E b G0 ad0 rM) args s mc ms (fun q => b ≤ q)) (F0 m (pc + 3) ls (.ref H.size :: T.map (ex_v E ad))) := by
  obtain ⟨b0, b1, b2, h⟩ := ex_alloc_inv h
  have hw := k _ _ _ h
  have hz : (4294967296 : Nat) = ex_dv (ex_ty aux) := by rcases ha with rfl | rfl <;> rfl
  obtain ⟨B1, B2, B3⟩ := ex_arr (kd := aux) (n := n) (ty := ex_ty aux) (by omega) hn hz
  obtain ⟨m1, m2⟩ := ex_mk_c (M := M) (B := ex_blk aux n 4294967296) (n := n) (t := ex_get M 0) (by omega) (by omega) (by omega)
  have hm := hw.1
  rw [m1, m2] at hm
  refine ⟨hm, fun S G ad ls st H locs cells slots hT q hc hs => ?_⟩
  have e0 : ex_get (ex_blk aux n 4294967296) 0 % 256 = aux := by rw [B2]; omega
  have e1 : ex_get (ex_blk aux n 4294967296) 0 / 256 = n := by rw [B2]; omega
  have f1 : (H.push ({ cls := E.2.1 aux, slots := Array.replicate n .null, vm := .none } : Cell))[H.size]? = some (arrV (E.2.1 aux) n (fun _ => .null)) := by rw [Array.getElem?_push_size, ← arrV_new]
  refine ex_fin hw q hT b0 b1 b2 (by omega) hb0 B1 e1 (fun k hk => by rw [B3 k hk]; exact (ex_dv_ok (E := E) (ad := ad) (ex_ty aux)).2.1 G) hc hs (by rw [Array.size_push]) (fun a ha => by rw [Array.getElem?_push, if_neg (Nat.ne_of_lt ha)]) (fun z => absurd z (by omega)) (fun _ => ?_)
  rw [e0, f1]
  refine congrArg some (arrV_cong (fun k hk => ?_))
  rw [B3 k hk, (ex_dv_ok (ex_ty aux)).1]
  rcases ha with rfl | rfl <;> rfl
theorem z_anewO {ST : Nat → Nat} {own : String} {index : Nat} (hx : p.tables.exec = Jvm.exec) (hb : c.code = cc) (hW : ex_Wo E b ST H0 args s) (hown : s.vm.findClass own = some m.cls) (hmc : mc ≤ R.cells) (hms : ms ≤ R.slots)
    (hclink : (Cond.classLink own index "java/lang/Object").before args s = true) (hover : (Cond.arrayOver (.object "java/lang/Object")).before args s = true)
    (hd : decode cc pc = .ok (.anewarray index, 3)) (k : ex_Z E b H0 G0 ad0 nL p l e R s m args below meth c mc ms rM nx (pc + 3)) {aux : Nat} (ha : aux = 70) : ex_Z E b H0 G0 ad0 nL p l e R s m args below meth c mc ms rM (fun L S M => (@List.rec Nat (fun _ => ex_R) none (fun n T _ => (@Bool.rec (fun _ => ex_R) (none) (ex_alloc M (ex_blk aux n 4294967296) n (fun c M => nx L (c :: T) M)) (Nat.ble n 100000))) S)) pc := by
  subst ha
  intro L S M h
  obtain ⟨n, T, rfl, h⟩ := ex_ls1 h
  obtain ⟨h1, h⟩ := ex_br1 h
  have h1 := Nat.le_of_ble_eq_true h1
  obtain ⟨hm, hw⟩ := ex_anewF (k := k) hW.1 h1 (Or.inl rfl) h
  refine ⟨⟨by omega, by omega⟩, fun G ad ls st H locs cells slots q hc hs => ?_⟩
  have hst := q.2.2.1
  subst hst
  rw [List.map_cons, ex_v_n (show n < 4294967296 by omega)]
  have hcl : (nI n).toNatClampNeg = n := nI_clamp (by omega)
  refine W.anew hx hb hown hclink hover rfl hd rfl (nI_pos (by omega)) (by rw [hcl]; omega) (by omega) (by rw [hcl]; omega) fun cA kA comp f1 f2 f3 f4 => ?_
  have hcA : cA = E.2.1 70 := by
    obtain ⟨-, -, -, -, -, g⟩ := ((hW.2.2.2.1 70 (by omega) (by omega)).2 (by omega))
    exact Option.some.inj (f1.symm.trans g)
  rw [hcl, hcA]
  exact hw _ G ad ls _ H locs cells slots (fun z hz => List.mem_cons_of_mem _ hz) q hc hs
theorem z_anewA {ST : Nat → Nat} {own : String} {index : Nat} (hx : p.tables.exec = Jvm.exec) (hb : c.code = cc) (hW : ex_Wo E b ST H0 args s) (hown : s.vm.findClass own = some m.cls) (hmc : mc ≤ R.cells) (hms : ms ≤ R.slots)
    (hclink : (Cond.classLink own index "[I").before args s = true) (hover : (Cond.arrayOver (.array .int)).before args s = true)
    (hd : decode cc pc = .ok (.anewarray index, 3)) (k : ex_Z E b H0 G0 ad0 nL p l e R s m args below meth c mc ms rM nx (pc + 3)) {aux : Nat} (ha : aux = 71) : ex_Z E b H0 G0 ad0 nL p l e R s m args below meth c mc ms rM (fun L S M => (@List.rec Nat (fun _ => ex_R) none (fun n T _ => (@Bool.rec (fun _ => ex_R) (none) (ex_alloc M (ex_blk aux n 4294967296) n (fun c M => nx L (c :: T) M)) (Nat.ble n 100000))) S)) pc := by
  subst ha
  intro L S M h
  obtain ⟨n, T, rfl, h⟩ := ex_ls1 h
  obtain ⟨h1, h⟩ := ex_br1 h
  have h1 := Nat.le_of_ble_eq_true h1
  obtain ⟨hm, hw⟩ := ex_anewF (k := k) hW.1 h1 (Or.inr rfl) h
  refine ⟨⟨by omega, by omega⟩, fun G ad ls st H locs cells slots q hc hs => ?_⟩
  have hst := q.2.2.1
  subst hst
  rw [List.map_cons, ex_v_n (show n < 4294967296 by omega)]
  have hcl : (nI n).toNatClampNeg = n := nI_clamp (by omega)
  have eI : (FieldType.array .int).toString = "[I" := by decide +kernel
  refine W.anewA (t := .int) hx hb hown (by rw [eI]; exact hclink) hover rfl hd rfl (nI_pos (by omega)) (by rw [hcl]; omega) (by omega) (by rw [hcl]; omega) fun cA kA comp f1 f2 f3 f4 => ?_
  have hcA : cA = E.2.1 71 := Option.some.inj (f1.symm.trans ((hW.2.2.2.1 71 (by omega) (by omega)).2 (by omega)))
  rw [hcl, hcA]
  exact hw _ G ad ls _ H locs cells slots (fun z hz => List.mem_cons_of_mem _ hz) q hc hs
/-! branches on references -/
theorem ex_b255 {x : Nat} (h : Nat.beq x 255 = false) : x ≠ 255 := fun e => by subst e; cases h
theorem z_ifnull {ST : Nat → Nat} {exj : Nat → ex_K} {off : Int} {aux : Nat} (hx : p.tables.exec = Jvm.exec) (hb : c.code = cc) (hW : ex_Wo E b ST H0 args s) (hd : decode cc pc = .ok (.ifnull off, 3)) (ht : (pc : Int) + off = (aux : Int)) (kj : ex_Z E b H0 G0 ad0 nL p l e R s m args below meth c mc ms rM (exj aux) aux) (k : ex_Z E b H0 G0 ad0 nL p l e R s m args below meth c mc ms rM nx (pc + 3)) : ex_Z E b H0 G0 ad0 nL p l e R s m args below meth c mc ms rM (fun L S M => (@List.rec Nat (fun _ => ex_R) none (fun a T _ => (@Bool.rec (fun _ => ex_R) ((@Bool.rec (fun _ => ex_R) (none) ((@Bool.rec (fun _ => ex_R) (nx L T M) (none) (Nat.beq (Nat.mod (ex_hd ST M a) 256) 255))) (ex_isR a))) (exj aux L T M) (Nat.beq a 4294967296))) S)) pc := by
  intro L S M h
  obtain ⟨x, T, rfl, h⟩ := ex_ls1 h
  rcases ex_br2 h with ⟨h1, h⟩ | ⟨-, h⟩
  · have h1 : x = 4294967296 := Nat.eq_of_beq_eq_true h1
    subst h1
    obtain ⟨hm, hw⟩ := kj _ _ M h
    refine ⟨hm, fun G ad ls st H locs cells slots q hc hs => ?_⟩
    have hst := q.2.2.1
    subst hst
    rw [List.map_cons, ex_v_0]
    exact lv_ifnullN hx hb hd ht (hw G ad ls _ H locs cells slots (q.stk rfl (fun z hz => q.2.2.2.1 z (List.mem_cons_of_mem _ hz))) hc hs)
  · obtain ⟨h1, h⟩ := ex_br1 h
    obtain ⟨h2, h⟩ := ex_br0 h
    obtain ⟨hm, hw⟩ := k _ _ M h
    refine ⟨hm, fun G ad ls st H locs cells slots q hc hs => ?_⟩
    obtain ⟨O, a, e1, -⟩ := ex_rd hW q.2.2.2.2.1 q.2.2.2.2.2.2.1 h1 (q.2.2.2.1 x List.mem_cons_self) (ex_b255 h2)
    have hst := q.2.2.1
    subst hst
    rw [List.map_cons, e1]
    exact lv_ifnull hx hb hd (hw G ad ls _ H locs cells slots (q.stk rfl (fun z hz => q.2.2.2.1 z (List.mem_cons_of_mem _ hz))) hc hs)
theorem z_ifnonnull {ST : Nat → Nat} {exj : Nat → ex_K} {off : Int} {aux : Nat} (hx : p.tables.exec = Jvm.exec) (hb : c.code = cc) (hW : ex_Wo E b ST H0 args s) (hd : decode cc pc = .ok (.ifnonnull off, 3)) (ht : (pc : Int) + off = (aux : Int)) (kj : ex_Z E b H0 G0 ad0 nL p l e R s m args below meth c mc ms rM (exj aux) aux) (k : ex_Z E b H0 G0 ad0 nL p l e R s m args below meth c mc ms rM nx (pc + 3)) : ex_Z E b H0 G0 ad0 nL p l e R s m args below meth c mc ms rM (fun L S M => (@List.rec Nat (fun _ => ex_R) none (fun a T _ => (@Bool.rec (fun _ => ex_R) ((@Bool.rec (fun _ => ex_R) (none) ((@Bool.rec (fun _ => ex_R) (exj aux L T M) (none) (Nat.beq (Nat.mod (ex_hd ST M a) 256) 255))) (ex_isR a))) (nx L T M) (Nat.beq a 4294967296))) S)) pc := by
  intro L S M h
  obtain ⟨x, T, rfl, h⟩ := ex_ls1 h
  rcases ex_br2 h with ⟨h1, h⟩ | ⟨-, h⟩
  · have h1 : x = 4294967296 := Nat.eq_of_beq_eq_true h1
    subst h1
    obtain ⟨hm, hw⟩ := k _ _ M h
    refine ⟨hm, fun G ad ls st H locs cells slots q hc hs => ?_⟩
    have hst := q.2.2.1
    subst hst
    rw [List.map_cons, ex_v_0]
    exact lv_ifnonnullN hx hb hd (hw G ad ls _ H locs cells slots (q.stk rfl (fun z hz => q.2.2.2.1 z (List.mem_cons_of_mem _ hz))) hc hs)
  · obtain ⟨h1, h⟩ := ex_br1 h
    obtain ⟨h2, h⟩ := ex_br0 h
    obtain ⟨hm, hw⟩ := kj _ _ M h
    refine ⟨hm, fun G ad ls st H locs cells slots q hc hs => ?_⟩
    obtain ⟨O, a, e1, -⟩ := ex_rd hW q.2.2.2.2.1 q.2.2.2.2.2.2.1 h1 (q.2.2.2.1 x List.mem_cons_self) (ex_b255 h2)
    have hst := q.2.2.1
    subst hst
    rw [List.map_cons, e1]
    exact lv_ifnonnull hx hb hd ht (hw G ad ls _ H locs cells slots (q.stk rfl (fun z hz => q.2.2.2.1 z (List.mem_cons_of_mem _ hz))) hc hs)
/-- which references are one -/
theorem ex_same {ST : Nat → Nat} {G : List Nat} {ad : Nat → Nat} {M : Nat} {H : Heap} {locs : List Loc} {x y : Nat} (hW : ex_Wo E b ST H0 args s) (hR : ex_Rep E b G ad M H) (hS : va_S (fun q => b ≤ q) H0 H locs) (h1 : ex_isR x = true) (h2 : ex_isR y = true) (k1 : ex_okc G x) (k2 : ex_okc G y) (n1 : ex_hd ST M x % 256 ≠ 255) (n2 : ex_hd ST M y % 256 ≠ 255)
    (hd : (@Bool.rec (fun _ => Bool) ((@Bool.rec (fun _ => Bool) (Nat.beq x y) (true) (ex_isD y))) (true) (ex_isD x)) = true) : ∃ ra rb, ex_v E ad x = va_rf (some ra) ∧ ex_v E ad y = va_rf (some rb) ∧ (some ra = some rb ↔ x = y) := by
  obtain ⟨O, ra, e1, -, -, -, -, a1⟩ := ex_rd hW hR hS h1 k1 n1
  obtain ⟨O', rb, e2, -, -, -, -, a2⟩ := ex_rd hW hR hS h2 k2 n2
  refine ⟨ra, rb, e1, e2, fun e => ?_, fun e => ?_⟩
  · cases e
    have hx := ex_isR_iff.mp h1
    have hy := ex_isR_iff.mp h2
    by_cases d1 : x < 17179869184
    · have g1 : x - 8589934592 ∈ G := k1 hx.1 d1
      have v1 : ra = ad (x - 8589934592) := by rw [ex_v_D hx.1 d1] at e1; cases e1; rfl
      by_cases d2 : y < 17179869184
      · have g2 : y - 8589934592 ∈ G := k2 hy.1 d2
        have v2 : ra = ad (y - 8589934592) := by rw [ex_v_D hy.1 d2] at e2; cases e2; rfl
        have := hR.2.1 _ g1 _ g2 (v1.symm.trans v2)
        omega
      · have := a2 (by omega)
        have := hR.2.2.1 _ g1
        omega
    · by_cases d2 : y < 17179869184
      · have g2 : y - 8589934592 ∈ G := k2 hy.1 d2
        have v2 : ra = ad (y - 8589934592) := by rw [ex_v_D hy.1 d2] at e2; cases e2; rfl
        have := a1 (by omega)
        have := hR.2.2.1 _ g2
        omega
      · have n1 : ¬ ex_isD x = true := fun z => by have := ex_isD_iff.mp z; omega
        have n2 : ¬ ex_isD y = true := fun z => by have := ex_isD_iff.mp z; omega
        rw [ex_bB, if_neg n1, ex_bB, if_neg n2] at hd
        exact Nat.eq_of_beq_eq_true hd
  · subst e
    rw [e1] at e2; cases e2; rfl
theorem z_acmp {ST : Nat → Nat} {exj : Nat → ex_K} {cd : ClassFile.ACond} {off : Int} {aux : Nat} (hx : p.tables.exec = Jvm.exec) (hb : c.code = cc) (hW : ex_Wo E b ST H0 args s) (hd : decode cc pc = .ok (.if_acmp cd off, 3)) (ht : (pc : Int) + off = (aux : Int)) (kj : ex_Z E b H0 G0 ad0 nL p l e R s m args below meth c mc ms rM (exj aux) aux) (k : ex_Z E b H0 G0 ad0 nL p l e R s m args below meth c mc ms rM nx (pc + 3)) : ex_Z E b H0 G0 ad0 nL p l e R s m args below meth c mc ms rM (fun L S M => (@List.rec Nat (fun _ => ex_R) none (fun b T_0 _ => (@List.rec Nat (fun _ => ex_R) none (fun a T _ => (@Bool.rec (fun _ => ex_R) (none) ((@Bool.rec (fun _ => ex_R) (none) ((@Bool.rec (fun _ => ex_R) ((@Bool.rec (fun _ => ex_R) ((@Bool.rec (fun _ => ex_R) (none) (@ClassFile.ACond.rec (fun _ => ex_R) ((@Bool.rec (fun _ => ex_R) (nx L T M) (exj aux L T M) (Nat.beq a b))) ((@Bool.rec (fun _ => ex_R) (exj aux L T M) (nx L T M) (Nat.beq a b))) cd) ((@Bool.rec (fun _ => Bool) ((@Bool.rec (fun _ => Bool) (Nat.beq a b) (true) (ex_isD b))) (true) (ex_isD a))))) (none) (Nat.beq (Nat.mod (ex_hd ST M b) 256) 255))) (none) (Nat.beq (Nat.mod (ex_hd ST M a) 256) 255))) (ex_isR b))) (ex_isR a))) T_0)) S)) pc := by
  intro L S M h
  obtain ⟨y, T1, rfl, h⟩ := ex_ls1 h
  obtain ⟨x, T, rfl, h⟩ := ex_ls1 h
  obtain ⟨h1, h⟩ := ex_br1 h
  obtain ⟨h2, h⟩ := ex_br1 h
  obtain ⟨h3, h⟩ := ex_br0 h
  obtain ⟨h4, h⟩ := ex_br0 h
  obtain ⟨h5, h⟩ := ex_br1 h
  have sub : ∀ z ∈ T, z ∈ y :: x :: T := fun z hz => List.mem_cons_of_mem _ (List.mem_cons_of_mem _ hz)
  cases cd with
  | eq =>
    have h : @Bool.rec (fun _ => ex_R) (nx L T M) (exj aux L T M) (Nat.beq x y) = some rM := h
    have hm : ex_get M 1 ≤ ex_get rM.2 1 ∧ ex_get M 2 ≤ ex_get rM.2 2 := by
      rcases ex_br2 h with ⟨-, h⟩ | ⟨-, h⟩
      · exact (kj _ _ M h).1
      · exact (k _ _ M h).1
    refine ⟨hm, fun G ad ls st H locs cells slots q hc hs => ?_⟩
    obtain ⟨ra, rb, e1, e2, e3⟩ := ex_same hW q.2.2.2.2.1 q.2.2.2.2.2.2.1 h1 h2 (q.2.2.2.1 x (List.mem_cons_of_mem _ List.mem_cons_self)) (q.2.2.2.1 y List.mem_cons_self) (ex_b255 h3) (ex_b255 h4) h5
    have hst := q.2.2.1
    subst hst
    have q' := q.stk (S' := T) rfl (fun z hz => q.2.2.2.1 z (sub z hz))
    rw [List.map_cons, List.map_cons, e1, e2]
    refine lv_acmp_eq hx hb hd ht (fun z => ?_) (fun z => ?_)
    · rcases ex_br2 h with ⟨-, h⟩ | ⟨w, -⟩
      · exact (kj _ _ M h).2 G ad ls _ H locs cells slots q' hc hs
      · exact absurd (e3.mp z) (Nat.ne_of_beq_eq_false w)
    · rcases ex_br2 h with ⟨w, -⟩ | ⟨-, h⟩
      · exact absurd (e3.mpr (Nat.eq_of_beq_eq_true w)) z
      · exact (k _ _ M h).2 G ad ls _ H locs cells slots q' hc hs
  | ne =>
    have h : @Bool.rec (fun _ => ex_R) (exj aux L T M) (nx L T M) (Nat.beq x y) = some rM := h
    have hm : ex_get M 1 ≤ ex_get rM.2 1 ∧ ex_get M 2 ≤ ex_get rM.2 2 := by
      rcases ex_br2 h with ⟨-, h⟩ | ⟨-, h⟩
      · exact (k _ _ M h).1
      · exact (kj _ _ M h).1
    refine ⟨hm, fun G ad ls st H locs cells slots q hc hs => ?_⟩
    obtain ⟨ra, rb, e1, e2, e3⟩ := ex_same hW q.2.2.2.2.1 q.2.2.2.2.2.2.1 h1 h2 (q.2.2.2.1 x (List.mem_cons_of_mem _ List.mem_cons_self)) (q.2.2.2.1 y List.mem_cons_self) (ex_b255 h3) (ex_b255 h4) h5
    have hst := q.2.2.1
    subst hst
    have q' := q.stk (S' := T) rfl (fun z hz => q.2.2.2.1 z (sub z hz))
    rw [List.map_cons, List.map_cons, e1, e2]
    refine lv_acmp_ne hx hb hd ht (fun z => ?_) (fun z => ?_)
    · rcases ex_br2 h with ⟨w, -⟩ | ⟨-, h⟩
      · exact absurd (e3.mpr (Nat.eq_of_beq_eq_true w)) z
      · exact (kj _ _ M h).2 G ad ls _ H locs cells slots q' hc hs
    · rcases ex_br2 h with ⟨-, h⟩ | ⟨w, -⟩
      · exact (k _ _ M h).2 G ad ls _ H locs cells slots q' hc hs
      · exact absurd (e3.mp z) (Nat.ne_of_beq_eq_false w)
/-- a cast; nm: the class that is named, C: the cell's -/
theorem z_checkcast {ST : Nat → Nat} {own nm : String} {index aux : Nat} {r : vw_C} (hx : p.tables.exec = Jvm.exec) (hb : c.code = cc) (hW : ex_Wo E b ST H0 args s) (hown : s.vm.findClass own = some m.cls) (ha : aux < 64) (hr : ex_cl[aux]? = some r)
    (hlink : (Cond.classLink own index nm).before args s = true) (hcs : (Cond.castable r.1 nm).before args s = true) (hd : decode cc pc = .ok (.checkcast index, 3)) (k : ex_Z E b H0 G0 ad0 nL p l e R s m args below meth c mc ms rM nx (pc + 3)) : ex_Z E b H0 G0 ad0 nL p l e R s m args below meth c mc ms rM (fun L S M => (@List.rec Nat (fun _ => ex_R) none (fun c T _ => (@Bool.rec (fun _ => ex_R) ((@Bool.rec (fun _ => ex_R) (none) ((@Bool.rec (fun _ => ex_R) (none) (nx L S M) (Nat.beq (Nat.mod (ex_hd ST M c) 256) aux))) ((@Bool.rec (fun _ => Bool) (ex_isR c) (ex_isD c) (Nat.ble 64 aux))))) (nx L S M) (Nat.beq c 4294967296))) S)) pc := by
  intro L S M h
  obtain ⟨x, T, rfl, h⟩ := ex_ls1 h
  rcases ex_br2 h with ⟨h1, h⟩ | ⟨-, h⟩
  · have h1 : x = 4294967296 := Nat.eq_of_beq_eq_true h1
    subst h1
    obtain ⟨hm, hw⟩ := k _ _ M h
    refine ⟨hm, fun G ad ls st H locs cells slots q hc hs => ?_⟩
    have hst := q.2.2.1
    subst hst
    have := hw G ad ls _ H locs cells slots q hc hs
    rw [List.map_cons, ex_v_0] at this ⊢
    exact lv_castN hx hb hd this
  · obtain ⟨h1, h⟩ := ex_br1 h
    obtain ⟨h2, h⟩ := ex_br1 h
    have h2 : ex_hd ST M x % 256 = aux := Nat.eq_of_beq_eq_true h2
    have h1 : ex_isR x = true := by
      rw [ex_bB, if_neg (fun z => by have := Nat.le_of_ble_eq_true z; omega)] at h1; exact h1
    obtain ⟨hm, hw⟩ := k _ _ M h
    refine ⟨hm, fun G ad ls st H locs cells slots q hc hs => ?_⟩
    obtain ⟨O, a, e1, ⟨cell, c1, c2, c3, c4, -⟩, e2, -⟩ := ex_rd hW q.2.2.2.2.1 q.2.2.2.2.2.2.1 h1 (q.2.2.2.1 x List.mem_cons_self) (by omega)
    obtain ⟨r', g1, -, g3, -⟩ := c4 (by omega)
    rw [← e2, h2] at g1 g3
    obtain ⟨c0, t0, f1, f2, f3⟩ := Cond.castable_spec hcs
    have hcc : c0 = cell.cls := by rw [g3]; exact Option.some.inj (f1.symm.trans (hW.2.2.1 _ _ hr).1.2.1)
    subst hcc
    have hst := q.2.2.1
    subst hst
    have := hw G ad ls _ H locs cells slots q hc hs
    rw [List.map_cons, e1] at this ⊢
    intro T' hT' X
    obtain ⟨vm', X', st⟩ := X.checkcastYes hx hown hlink (by rw [hT']; exact c1) c3 f2 f3 (g := F0 m pc ls (.ref a :: T.map (ex_v E ad))) rfl rfl (by rw [hb]; exact hd)
    obtain ⟨t, a1, b1⟩ := this (T'.setVm vm') hT' X'
    exact ⟨t, st t a1, b1⟩
theorem z_checkcastA {ST : Nat → Nat} {own nm : String} {index aux : Nat} (hx : p.tables.exec = Jvm.exec) (hb : c.code = cc) (hW : ex_Wo E b ST H0 args s) (hown : s.vm.findClass own = some m.cls) (ha : 64 ≤ aux) (hf : s.vm.findClass nm = some (E.2.1 aux))
    (hlink : (Cond.classLink own index nm).before args s = true) (hd : decode cc pc = .ok (.checkcast index, 3)) (k : ex_Z E b H0 G0 ad0 nL p l e R s m args below meth c mc ms rM nx (pc + 3)) : ex_Z E b H0 G0 ad0 nL p l e R s m args below meth c mc ms rM (fun L S M => (@List.rec Nat (fun _ => ex_R) none (fun c T _ => (@Bool.rec (fun _ => ex_R) ((@Bool.rec (fun _ => ex_R) (none) ((@Bool.rec (fun _ => ex_R) (none) (nx L S M) (Nat.beq (Nat.mod (ex_hd ST M c) 256) aux))) ((@Bool.rec (fun _ => Bool) (ex_isR c) (ex_isD c) (Nat.ble 64 aux))))) (nx L S M) (Nat.beq c 4294967296))) S)) pc := by
  intro L S M h
  obtain ⟨x, T, rfl, h⟩ := ex_ls1 h
  rcases ex_br2 h with ⟨h1, h⟩ | ⟨-, h⟩
  · have h1 : x = 4294967296 := Nat.eq_of_beq_eq_true h1
    subst h1
    obtain ⟨hm, hw⟩ := k _ _ M h
    refine ⟨hm, fun G ad ls st H locs cells slots q hc hs => ?_⟩
    have hst := q.2.2.1
    subst hst
    have := hw G ad ls _ H locs cells slots q hc hs
    rw [List.map_cons, ex_v_0] at this ⊢
    exact lv_castN hx hb hd this
  · obtain ⟨h1, h⟩ := ex_br1 h
    obtain ⟨h2, h⟩ := ex_br1 h
    have h2 : ex_hd ST M x % 256 = aux := Nat.eq_of_beq_eq_true h2
    have h1 : ex_isD x = true := by
      rw [ex_bB, if_pos (Nat.ble_eq.mpr ha)] at h1; exact h1
    have hxd := ex_isD_iff.mp h1
    obtain ⟨hm, hw⟩ := k _ _ M h
    refine ⟨hm, fun G ad ls st H locs cells slots q hc hs => ?_⟩
    have hD : x - 8589934592 ∈ G := q.2.2.2.1 x List.mem_cons_self (by omega) hxd.2
    have e2 : ex_kd M (x - 8589934592) = aux := by rw [← h2, ex_hdD (by omega)]; rfl
    have hcell := (q.2.2.2.2.1.1 _ hD).2 (by omega)
    rw [e2] at hcell
    have hst := q.2.2.1
    subst hst
    have := hw G ad ls _ H locs cells slots q hc hs
    rw [List.map_cons, ex_v_D (by omega) hxd.2] at this ⊢
    intro T' hT' X
    obtain ⟨vm', X', st⟩ := X.checkcastYes hx hown hlink (by rw [hT']; exact hcell) rfl hf (va_asg _ _) (g := F0 m pc ls (.ref (ad (x - 8589934592)) :: T.map (ex_v E ad))) rfl rfl (by rw [hb]; exact hd)
    obtain ⟨t, a1, b1⟩ := this (T'.setVm vm') hT' X'
    exact ⟨t, st t a1, b1⟩
end
