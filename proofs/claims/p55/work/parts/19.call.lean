/-! calls: what stands behind them -/
def ex_HO (X : ex_X) (Ts : List Cond) (own : String) : ex_H → List (Nat × Nat × Nat × Nat) → Prop
  | [], [] => True
  | a :: hs, x :: hh => (x.1 = a.1 ∧ x.2.1 = a.2.1 ∧ x.2.2.1 = a.2.2.1 ∧ x.2.2.2 ≠ 0 ∧ a.2.2.1 ≠ 0) ∧ Cond.classLink own x.2.2.2 (ex_xn a.2.2.2) ∈ Ts ∧ Cond.castable (ex_xn a.2.2.2) (ex_xn a.2.2.2) ∈ ex_TN ∧ (∀ j, 1 ≤ j → j ≤ 6 → j ≠ a.2.2.2 → (ex_xn j, ex_xn a.2.2.2) ∈ X.1) ∧ ex_HO X Ts own hs hh
  | _, _ => False
theorem ex_hand_cons {a : Nat × Nat × Nat × Nat} {hs : ex_H} {pc e : Nat} : ex_hand (a :: hs) pc e = bif Nat.ble a.1 pc && Nat.blt pc a.2.1 && Nat.beq a.2.2.2 e then a.2.2.1 else ex_hand hs pc e := rfl
theorem ex_cov_cons {a : Nat × Nat × Nat × Nat} {hs : ex_H} {pc : Nat} : ex_cov (a :: hs) pc = bif Nat.ble a.1 pc && Nat.blt pc a.2.1 then true else ex_cov hs pc := rfl
theorem ex_covers {x : ExceptionTableEntry} {pc : Nat} : covers x pc = (decide (x.startPc ≤ pc) && decide (pc < x.endPc)) := by
  first | rfl | (unfold covers; rfl) | simp [covers]
theorem ex_cvb {a b pc : Nat} : (Nat.ble a pc && Nat.blt pc b) = (decide (a ≤ pc) && decide (pc < b)) := by
  congr 1
  · exact Bool.eq_iff_iff.mpr (by rw [Nat.ble_eq, decide_eq_true_eq])
  · exact Bool.eq_iff_iff.mpr (by rw [Nat.blt_eq, decide_eq_true_eq])
theorem ex_cov_no {X : ex_X} {Ts : List Cond} {own : String} {pc : Nat} : ∀ {hs : ex_H} {hh : List (Nat × Nat × Nat × Nat)}, ex_HO X Ts own hs hh → ex_cov hs pc = false → ∀ x ∈ tableOf hh, covers x pc = false
  | [], [], _, _, x, hx => nomatch hx
  | a :: hs, y :: hh, h, hc, x, hx => by
    rw [ex_cov_cons] at hc
    obtain ⟨⟨h1, h2, -⟩, -, -, -, h3⟩ := h
    cases hb : (Nat.ble a.1 pc && Nat.blt pc a.2.1) with
    | true => rw [hb] at hc; cases hc
    | false =>
      rw [hb] at hc
      rcases List.mem_cons.mp hx with e | hx
      · subst e
        rw [ex_covers]
        show (decide (y.1 ≤ pc) && decide (pc < y.2.1)) = false
        rw [h1, h2, ← ex_cvb]; exact hb
      · exact ex_cov_no h3 hc x hx
/-- the row that catches -/
theorem ex_hand_row {X : ex_X} {Ts : List Cond} {own : String} {pc e t : Nat} {s : State} {args : Array Value} (hT : ∀ w ∈ Ts, w.before args s = true) (hX : ∀ q ∈ X.1, va_Nc q.1 q.2 s) (hN : ∀ w ∈ ex_TN, va_Nw w s) (e1 : 1 ≤ e) (e6 : e ≤ 6) : ∀ {hs : ex_H} {hh : List (Nat × Nat × Nat × Nat)}, ex_HO X Ts own hs hh → ex_hand hs pc e = t + 1 →
    ∃ (pre : List ExceptionTableEntry) (x : ExceptionTableEntry) (suf : List ExceptionTableEntry), tableOf hh = pre ++ x :: suf ∧ (∀ z ∈ pre, covers z pc = false ∨ (z.catchType ≠ 0 ∧ ∃ nm : String, (Cond.classLink own z.catchType nm).before args s = true ∧ va_Nc (ex_xn e) nm s)) ∧ covers x pc = true ∧ x.catchType ≠ 0 ∧
      (Cond.classLink own x.catchType (ex_xn e)).before args s = true ∧ (Cond.castable (ex_xn e) (ex_xn e)).before args s = true ∧ x.handlerPc = t + 1
  | [], [], _, h => by cases h
  | a :: hs, y :: hh, h, hc => by
    rw [ex_hand_cons] at hc
    obtain ⟨⟨h1, h2, h3, h4, h5⟩, h6, h7, h8, h9⟩ := h
    have hcv : covers (⟨y.1, y.2.1, y.2.2.1, y.2.2.2⟩ : ExceptionTableEntry) pc = (Nat.ble a.1 pc && Nat.blt pc a.2.1) := by
      rw [ex_covers]
      show (decide (y.1 ≤ pc) && decide (pc < y.2.1)) = _
      rw [h1, h2, ← ex_cvb]
    cases hb : (Nat.ble a.1 pc && Nat.blt pc a.2.1) with
    | false =>
      rw [hb] at hc hcv
      obtain ⟨pre, x, suf, g1, g2, g3⟩ := ex_hand_row hT hX hN e1 e6 h9 hc
      refine ⟨_ :: pre, x, suf, by show _ :: tableOf hh = _; rw [g1]; rfl, fun z hz => ?_, g3⟩
      rcases List.mem_cons.mp hz with e | hz
      · subst e; exact Or.inl hcv
      · exact g2 z hz
    | true =>
      rw [hb] at hc hcv
      cases he : Nat.beq a.2.2.2 e with
      | true =>
        rw [he] at hc
        have he := Nat.eq_of_beq_eq_true he
        have hc : a.2.2.1 = t + 1 := hc
        rw [he] at h6 h7
        exact ⟨[], ⟨y.1, y.2.1, y.2.2.1, y.2.2.2⟩, tableOf hh, rfl, (fun z hz => absurd hz List.not_mem_nil), hcv, h4, hT _ h6, va_Nw.use rfl (hN _ h7), h3.trans hc⟩
      | false =>
        rw [he] at hc
        have hc : ex_hand hs pc e = t + 1 := hc
        obtain ⟨pre, x, suf, g1, g2, g3⟩ := ex_hand_row hT hX hN e1 e6 h9 hc
        refine ⟨_ :: pre, x, suf, by show _ :: tableOf hh = _; rw [g1]; rfl, fun z hz => ?_, g3⟩
        rcases List.mem_cons.mp hz with e' | hz
        · subst e'
          exact Or.inr ⟨h4, _, hT _ h6, hX _ (h8 e e1 e6 (fun z => Nat.ne_of_beq_eq_false he z.symm))⟩
        · exact g2 z hz
/-- a run of a callee, its instruction n bytes long -/
def ex_RunN (n : Nat) (p : Program) (l : Launch) (e : Env) (R : Room) (s : State) (m : MethodId) (args : Array Value) (below : List Frame) (meth : Method) (c : Code) (H : Heap) (locs : List Loc) (cells slots mc ms : Nat) (g : JFrame) (rest : List Value) (Qa : State → Outcome → State → Prop) (XC : String → State → State → Prop) (free : Addr → Prop) : Prop :=
  ∀ T : State, T.heap = H → Stand p l e R s m args below meth c T locs cells slots →
    (∃ (v : Option Value) (st₀ t T' : State) (L : List Loc), st₀.heap = H ∧ Stand p l e R s m args below meth c T' (locs ++ L) (cells + mc) (slots + ms) ∧ (∀ q ∈ L, free q.base) ∧ T'.heap = t.heap ∧ T'.vm = t.vm ∧ Qa st₀ (.returned v) t ∧
      Goes p e below T g T' { g with pc := g.pc + n, stack := v.toList ++ rest }) ∨
    (∃ (q : Addr) (st₀ t T' : State) (L : List Loc) (E : String) (ce : Cell), st₀.heap = H ∧ Stand p l e R s m args below meth c T' (locs ++ L) (cells + mc) (slots + ms) ∧ (∀ z ∈ L, free z.base) ∧ T'.heap = t.heap ∧ T'.vm = t.vm ∧ XC E st₀ t ∧ t.heap[q]? = some ce ∧ ce.vm = .none ∧ s.vm.findClass E = some ce.cls ∧
      Steps p.tables e below (T.setTop g) ((T'.setTop { g with stack := rest }).pushFrame (.throwing q)))
theorem ex_LR.st1u {E : ex_G} {ad : Nat → Nat} {nL L n : Nat} {w : Value} {ls' : Array Slot} (hp : n = 0 ∨ (ex_v E ad (ex_get L (n - 1))).category ≠ 2)
    (h : lv_has ls' nL ((n, w) :: (ex_lvl E ad nL L).filter (fun q => !(q.1 == n) && !(q.1 + 1 == n && q.2.category == 2)))) : ex_LR E ad nL (ex_set L n 137438953472) ls' := by
  refine ⟨h.1, h.2.1, fun i hi hu => ?_⟩
  rw [ex_get_set (by decide)] at hu ⊢
  by_cases e : i = n
  · rw [if_pos e] at hu; exact absurd rfl hu
  · rw [if_neg e] at hu ⊢
    refine h.2.2 _ (List.mem_cons_of_mem _ (List.mem_filter.mpr ⟨ex_lvl_mem hi hu, ?_⟩))
    simp only [Bool.and_eq_true, Bool.not_eq_true', beq_eq_false_iff_ne, ne_eq, Bool.and_eq_false_iff]
    refine ⟨e, ?_⟩
    rcases hp with hp | hp
    · exact Or.inl (by omega)
    · by_cases q : i + 1 = n
      · right
        subst q
        exact hp
      · exact Or.inl q
section
variable {E : ex_G} {b : Nat} {H0 : Heap} {G0 : List Nat} {ad0 : Nat → Nat} {nL : Nat} {p : Program} {l : Launch} {e : Env} {R : Room} {s : State} {m : MethodId} {args : Array Value} {below : List Frame} {meth : Method} {c : Code} {mc ms : Nat} {rM : Nat × Nat} {cc : ByteArray} {pc : Nat} {nx : ex_K}
theorem ex_ext2 {G G' : List Nat} {ad ad' : Nat → Nat} {L M M' : Nat} {S T : List Nat} {ls : Array Slot} {st : List Value} {H H' : Heap} {locs locs' : List Loc} (q : ex_SR E b H0 s.heap G0 ad0 nL G ad L S M ls st H locs) (hT : ∀ z ∈ T, z ∈ S) (hR : ex_Rep E b G' ad' M' H') (hsub : ∀ w ∈ G, w ∈ G' ∧ ad' w = ad w)
    (h7 : va_S (fun q => b ≤ q) H0 H' locs') (h8 : va_S (fun q => b ≤ q) s.heap H' locs') : ex_SR E b H0 s.heap G0 ad0 nL G' ad' L T M' ls (T.map (ex_v E ad)) H' locs' := by
  obtain ⟨q1, q2, -, q4, q5, q6, -, -⟩ := q
  have hv : ∀ z, ex_okc G z → ex_v E ad' z = ex_v E ad z := fun z hz => ex_v_ad hz (fun w hw => (hsub w hw).2)
  have hs' : ∀ w ∈ G, w ∈ G' := fun w h => (hsub w h).1
  refine ⟨⟨q1.1, q1.2.1, fun i hi hu => ?_⟩, fun i hi => (q2 i hi).mono hs', ?_, fun z hz => (q4 z (hT z hz)).mono hs', hR, fun w hw => ⟨hs' w (q6 w hw).1, (hsub w (q6 w hw).1).2.trans (q6 w hw).2⟩, h7, h8⟩
  · rw [hv _ (q2 i hi)]; exact q1.2.2 i hi hu
  · exact List.map_congr_left (fun z hz => (hv z (q4 z (hT z hz))).symm)
theorem ex_bif {k : Bool} {X : ex_R} {r : Nat × Nat} (h : (bif k then X else none) = some r) : k = true ∧ X = some r := by
  cases k with
  | true => exact ⟨rfl, h⟩
  | false => cases h
/-- a handler begins -/
theorem z_ctch {exj : Nat → ex_K} {bt : ex_CD} (hx : p.tables.exec = Jvm.exec) (hb : c.code = cc) (hE : ex_svR E)
    (hB1 : ∀ t n k ax r, bt t = (.astore n, k, ax) :: r → n < nL ∧ decode cc t = .ok (.astore n, 2)) (hB2 : ∀ t (n : Fin 4) k ax r, bt t = (.astore_n n, k, ax) :: r → n.val < nL ∧ decode cc t = .ok (.astore_n n, 1)) (kj : ∀ t, ex_Z E b H0 G0 ad0 nL p l e R s m args below meth c mc ms rM (exj t) t)
    {t L M : Nat} (h : ex_ctch exj bt t L M = some rM) : (ex_get M 1 ≤ ex_get rM.2 1 ∧ ex_get M 2 ≤ ex_get rM.2 2) ∧ ∀ (G : List Nat) (ad : Nat → Nat) (ls : Array Slot) (H : Heap) (locs : List Loc) (cells slots x : Nat), ex_SR E b H0 s.heap G0 ad0 nL G ad L [] M ls [] H locs → cells + ex_get rM.2 1 ≤ mc + ex_get M 1 → slots + ex_get rM.2 2 ≤ ms + ex_get M 2 →
      W p l e R s m args below meth c H locs cells slots (vx_MQ below (ex_Qc E b G0 ad0 rM) (ex_XC E b G0 ad0 rM) args s mc ms (fun q => b ≤ q)) (F0 m t ls [.ref x]) := by
  unfold ex_ctch at h
  split at h
  · rename_i n k ax r hbt
    obtain ⟨a1, h⟩ := ex_bif h
    have a1 : ax = t + 2 := Nat.eq_of_beq_eq_true a1
    subst a1
    obtain ⟨hn, hd⟩ := hB1 _ _ _ _ _ hbt
    obtain ⟨hp, h3⟩ := ex_st1_inv h
    obtain ⟨hm, hw⟩ := kj _ _ _ M h3
    refine ⟨hm, fun G ad ls H locs cells slots x q hc hs => ?_⟩
    refine lv_astore hx hb hd q.1.has hn rfl fun ls' hl' => ?_
    exact hw G ad ls' [] H locs cells slots (q.loc (ex_LR.st1u (ex_pv hE.one hp) hl') (ex_okL (by decide) (ex_okc_ge (by decide)) q.2.1) rfl (fun z hz => nomatch hz)) hc hs
  · rename_i n k ax r hbt
    obtain ⟨a1, h⟩ := ex_bif h
    have a1 : ax = t + 1 := Nat.eq_of_beq_eq_true a1
    subst a1
    obtain ⟨hn, hd⟩ := hB2 _ _ _ _ _ hbt
    obtain ⟨hp, h3⟩ := ex_st1_inv h
    obtain ⟨hm, hw⟩ := kj _ _ _ M h3
    refine ⟨hm, fun G ad ls H locs cells slots x q hc hs => ?_⟩
    refine lv_astore_n hx hb hd rfl q.1.has hn rfl fun ls' hl' => ?_
    exact hw G ad ls' [] H locs cells slots (q.loc (ex_LR.st1u (ex_pv hE.one hp) hl') (ex_okL (by decide) (ex_okc_ge (by decide)) q.2.1) rfl (fun z hz => nomatch hz)) hc hs
  · cases h
/-- behind a call -/
theorem z_aft {X : ex_X} {ST : Nat → Nat} {Ts : List Cond} {own : String} {hs : ex_H} {hh : List (Nat × Nat × Nat × Nat)} {exj : Nat → ex_K} {bt : ex_CD} {n : Nat} {rM' : Nat × Nat} {L M : Nat} {S T : List Nat} (hx : p.tables.exec = Jvm.exec) (hb : c.code = cc) (hE : ex_svR E) (hWd : ex_Wd X E b ST H0 s) (hown : s.vm.findClass own = some m.cls) (hT : ∀ w ∈ Ts, w.before args s = true) (hlk : meth.locks = false)
    (hexc : c.exceptionTable.toList = tableOf hh) (hHO : ex_HO X Ts own hs hh)
    (hB1 : ∀ t n k ax r, bt t = (.astore n, k, ax) :: r → n < nL ∧ decode cc t = .ok (.astore n, 2)) (hB2 : ∀ t (n : Fin 4) k ax r, bt t = (.astore_n n, k, ax) :: r → n.val < nL ∧ decode cc t = .ok (.astore_n n, 1)) (kj : ∀ t, ex_Z E b H0 G0 ad0 nL p l e R s m args below meth c mc ms rM (exj t) t) (k : ex_Z E b H0 G0 ad0 nL p l e R s m args below meth c mc ms rM nx (pc + n))
    (hTS : ∀ z ∈ T, z ∈ S) (h : ex_aft hs bt exj pc nx L T M rM' = some rM) :
    (ex_get M 1 ≤ ex_get rM.2 1 ∧ ex_get M 2 ≤ ex_get rM.2 2) ∧ ∀ (G : List Nat) (ad : Nat → Nat) (ls : Array Slot) (st : List Value) (H : Heap) (locs : List Loc) (cells slots : Nat) (A : Array Value), ex_SR E b H0 s.heap G0 ad0 nL G ad L S M ls st H locs → cells + ex_get rM.2 1 ≤ mc + ex_get M 1 → slots + ex_get rM.2 2 ≤ ms + ex_get M 2 →
      (cells + (ex_get rM'.2 1 - ex_get M 1) ≤ mc → slots + (ex_get rM'.2 2 - ex_get M 2) ≤ ms → ex_RunN n p l e R s m args below meth c H locs cells slots (ex_get rM'.2 1 - ex_get M 1) (ex_get rM'.2 2 - ex_get M 2) (F0 m pc ls st) (T.map (ex_v E ad)) (ex_Qc E b G ad rM' A) (ex_XC E b G ad rM') (fun q => b ≤ q)) →
      W p l e R s m args below meth c H locs cells slots (vx_MQ below (ex_Qc E b G0 ad0 rM) (ex_XC E b G0 ad0 rM) args s mc ms (fun q => b ≤ q)) (F0 m pc ls st) := by
  unfold ex_aft at h
  obtain ⟨g1, h⟩ := ex_br1 h
  obtain ⟨g2, h⟩ := ex_br1 h
  have g1 := Nat.le_of_ble_eq_true g1
  have g2 := Nat.le_of_ble_eq_true g2
  -- what each end gives
  have key : (ex_get rM'.2 1 ≤ ex_get rM.2 1 ∧ ex_get rM'.2 2 ≤ ex_get rM.2 2) ∧
      (∀ (G' : List Nat) (ad' : Nat → Nat) (ls : Array Slot) (H' : Heap) (locs' : List Loc) (cells slots : Nat), rM'.1 < 549755813888 → ex_SR E b H0 s.heap G0 ad0 nL G' ad' L T rM'.2 ls (T.map (ex_v E ad')) H' locs' → cells + ex_get rM.2 1 ≤ mc + ex_get rM'.2 1 → slots + ex_get rM.2 2 ≤ ms + ex_get rM'.2 2 → ∀ v : Option Value, ((rM'.1 = 137438953473 ∧ v = none) ∨ (rM'.1 ≠ 137438953473 ∧ ex_okc G' rM'.1 ∧ v = some (ex_v E ad' rM'.1))) →
        W p l e R s m args below meth c H' locs' cells slots (vx_MQ below (ex_Qc E b G0 ad0 rM) (ex_XC E b G0 ad0 rM) args s mc ms (fun q => b ≤ q)) (F0 m (pc + n) ls (v.toList ++ T.map (ex_v E ad')))) ∧
      (∀ (G' : List Nat) (ad' : Nat → Nat) (ls : Array Slot) (H' : Heap) (locs' : List Loc) (cells slots : Nat) (q : Addr) (ce : Cell), 549755813888 ≤ rM'.1 → ex_SR E b H0 s.heap G0 ad0 nL G' ad' L T rM'.2 ls (T.map (ex_v E ad')) H' locs' → cells + ex_get rM.2 1 ≤ mc + ex_get rM'.2 1 → slots + ex_get rM.2 2 ≤ ms + ex_get rM'.2 2 → H'[q]? = some ce → ce.vm = .none → s.vm.findClass (ex_xn (rM'.1 - 549755813888)) = some ce.cls →
        vx_W p l e R s m args below meth c H' locs' cells slots (vx_MQ below (ex_Qc E b G0 ad0 rM) (ex_XC E b G0 ad0 rM) args s mc ms (fun q => b ≤ q)) (F0 m pc ls (T.map (ex_v E ad'))) q) := by
    rcases ex_br2 h with ⟨i1, h⟩ | ⟨i1, h⟩
    · have i1 := Nat.le_of_ble_eq_true i1
      obtain ⟨i2, h⟩ := ex_br1 h
      obtain ⟨i3, h⟩ := ex_br1 h
      have i2 := Nat.le_of_ble_eq_true i2
      have i3 := Nat.le_of_ble_eq_true i3
      generalize hhd : ex_hand hs pc (Nat.sub rM'.1 549755813888) = hd at h
      cases hd with
      | zero =>
        obtain ⟨i4, h⟩ := ex_br0 h
        have h := Option.some.inj h
        subst h
        refine ⟨⟨Nat.le_refl _, Nat.le_refl _⟩, fun _ _ _ _ _ _ _ z => absurd z (by omega), fun G' ad' ls H' locs' cells slots q ce _ sr hc hs' e1 e2 e3 => ?_⟩
        refine vx_out (E := ex_xn (rM'.1 - 549755813888)) (by rw [hexc]; exact ex_cov_no hHO i4) hlk e1 e2 e3 (fun t ht _ => ?_) (fun z hz => sr.2.2.2.2.2.2.2.2.2 z hz) (by omega) (by omega)
        exact ⟨G', ad', sr.2.2.2.2.2.1, by rw [ht]; exact sr.2.2.2.2.1, sr.2.2.2.2.2.2.2.F ht, i1, rfl⟩
      | succ t =>
        have h : ex_ctch exj bt (t + 1) L rM'.2 = some rM := h
        obtain ⟨m1, w1⟩ := z_ctch hx hb hE hB1 hB2 kj h
        refine ⟨m1, fun _ _ _ _ _ _ _ z => absurd z (by omega), fun G' ad' ls H' locs' cells slots q ce _ sr hc hs' e1 e2 e3 => ?_⟩
        obtain ⟨pre, x, suf, p1, p2, p3, p4, p5, p6, p7⟩ := ex_hand_row hT hWd.2.2.2.2.2.1 hWd.2.2.2.2.1 (show 1 ≤ rM'.1 - 549755813888 by omega) (show rM'.1 - 549755813888 ≤ 6 by omega) hHO hhd
        refine vx_catch hown pre x suf (hexc.trans p1) p2 p3 p4 p5 p6 e1 e2 e3 ?_
        rw [p7]
        exact w1 G' ad' ls H' locs' cells slots q (sr.stk (S' := []) rfl (fun z hz => nomatch hz)) hc hs'
    · have i1 : rM'.1 < 549755813888 := Nat.lt_of_not_le fun z => by rw [show Nat.ble 549755813888 rM'.1 = true from Nat.ble_eq.mpr z] at i1; cases i1
      rcases ex_br2 h with ⟨i2, h⟩ | ⟨i2, h⟩
      · have i2 : rM'.1 = 137438953473 := Nat.eq_of_beq_eq_true i2
        obtain ⟨m1, w1⟩ := k _ _ _ h
        refine ⟨m1, fun G' ad' ls H' locs' cells slots _ sr hc hs' v hv => ?_, fun _ _ _ _ _ _ _ _ _ z => absurd z (by omega)⟩
        rcases hv with ⟨-, rfl⟩ | ⟨z, -⟩
        · exact w1 G' ad' ls _ H' locs' cells slots sr hc hs'
        · exact absurd i2 z
      · have i2 : rM'.1 ≠ 137438953473 := Nat.ne_of_beq_eq_false i2
        obtain ⟨m1, w1⟩ := k _ _ _ h
        refine ⟨m1, fun G' ad' ls H' locs' cells slots _ sr hc hs' v hv => ?_, fun _ _ _ _ _ _ _ _ _ z => absurd z (by omega)⟩
        rcases hv with ⟨z, -⟩ | ⟨-, hk, rfl⟩
        · exact absurd z i2
        · exact w1 G' ad' ls _ H' locs' cells slots (sr.stk (S' := rM'.1 :: T) rfl (ex_okS hk sr.2.2.2.1)) hc hs'
  obtain ⟨⟨n1, n2⟩, kr, kx⟩ := key
  refine ⟨⟨by omega, by omega⟩, fun G ad ls st H locs cells slots A q hc hs' run => ?_⟩
  have run := run (by omega) (by omega)
  intro T0 hT0 X0
  rcases run T0 hT0 X0 with ⟨v, st₀, t, T', Lc, r1, r2, r3, r4, r5, r6, r7⟩ | ⟨qa, st₀, t, T', Lc, E', ce, r1, r2, r3, r4, r5, r6, r7, r8, r9, r10⟩
  · obtain ⟨G', ad', z1, z2, z3, z4, z5⟩ := r6
    obtain ⟨-, k2, k3⟩ := vx_keep (A0 := fun q => b ≤ q) (A1 := fun q => b ≤ q) r1 r4 q.2.2.2.2.2.2.1 (fun _ _ h => h) (fun _ h => h) r3 z3
    obtain ⟨-, -, k4⟩ := vx_keep (A0 := fun q => b ≤ q) (A1 := fun q => b ≤ q) r1 r4 q.2.2.2.2.2.2.2 (fun _ _ h => h) (fun _ h => h) r3 z3
    have sr := ex_ext2 q hTS (by rw [r4]; exact z2) z1 k3 k4
    have e1 : T.map (ex_v E ad) = T.map (ex_v E ad') := List.map_congr_left fun z hz => (ex_v_ad (q.2.2.2.1 z (hTS z hz)) (fun w hw => (z1 w hw).2)).symm
    rw [e1] at sr r7
    obtain ⟨t2, a1, b1⟩ := kr G' ad' ls T'.heap (locs ++ Lc) (cells + (ex_get rM'.2 1 - ex_get M 1)) (slots + (ex_get rM'.2 2 - ex_get M 2)) z4 sr (by omega) (by omega) v (by
      rcases z5 with ⟨y1, y2⟩ | ⟨y1, y2, y3⟩
      · exact Or.inl ⟨y1, by cases y2; rfl⟩
      · exact Or.inr ⟨y1, y2, by cases y3; rfl⟩) T' rfl r2
    exact ⟨t2, r7 t2 a1, b1⟩
  · obtain ⟨G', ad', z1, z2, z3, z4, z5⟩ := r6
    obtain ⟨-, k2, k3⟩ := vx_keep (A0 := fun q => b ≤ q) (A1 := fun q => b ≤ q) r1 r4 q.2.2.2.2.2.2.1 (fun _ _ h => h) (fun _ h => h) r3 z3
    obtain ⟨-, -, k4⟩ := vx_keep (A0 := fun q => b ≤ q) (A1 := fun q => b ≤ q) r1 r4 q.2.2.2.2.2.2.2 (fun _ _ h => h) (fun _ h => h) r3 z3
    have sr := ex_ext2 q hTS (by rw [r4]; exact z2) z1 k3 k4
    have e1 : T.map (ex_v E ad) = T.map (ex_v E ad') := List.map_congr_left fun z hz => (ex_v_ad (q.2.2.2.1 z (hTS z hz)) (fun w hw => (z1 w hw).2)).symm
    rw [e1] at sr r10
    rw [z5] at r9
    obtain ⟨t2, a1, b1⟩ := kx G' ad' ls T'.heap (locs ++ Lc) (cells + (ex_get rM'.2 1 - ex_get M 1)) (slots + (ex_get rM'.2 2 - ex_get M 2)) qa ce z4 sr (by omega) (by omega) (by rw [r4]; exact r7) r8 r9 T' rfl r2
    exact ⟨t2, r10.trans a1, b1⟩
end
