/-! clones; rows of rows -/
theorem ex_land {a b k : Nat} : ex_get (a &&& b) k = ex_get a k &&& ex_get b k := by
  apply Nat.eq_of_testBit_eq; intro i
  rw [Nat.testBit_and, ex_tb, ex_tb, ex_tb, Nat.testBit_and]
  cases decide (i < 40) <;> simp
theorem ex_lt32 {a : Nat} (h : a < 1099511627776) (h2 : a &&& 1095216660480 = 0) : a < 4294967296 := by
  show a < 2 ^ 32
  apply Nat.lt_pow_two_of_testBit
  intro i hi
  by_cases h40 : i < 40
  · have := congrArg (fun z => Nat.testBit z i) h2
    simp only [Nat.testBit_and, Nat.zero_testBit] at this
    have e : Nat.testBit 1095216660480 i = true := by
      rcases (show i = 32 ∨ i = 33 ∨ i = 34 ∨ i = 35 ∨ i = 36 ∨ i = 37 ∨ i = 38 ∨ i = 39 by omega) with rfl | rfl | rfl | rfl | rfl | rfl | rfl | rfl <;> decide +kernel
    rw [e, Bool.and_true] at this
    exact this
  · exact Nat.testBit_lt_two_pow (Nat.lt_of_lt_of_le (show a < 2 ^ 40 from h) (Nat.pow_le_pow_right (by decide) (by omega)))
theorem ex_landI {X Y : Nat} (h : Nat.beq (Nat.land X Y) 0 = true) (j : Nat) : ex_get X j &&& ex_get Y j = 0 := by
  have h : X &&& Y = 0 := Nat.eq_of_beq_eq_true h
  rw [← ex_land, h]; exact ex_get_ge (t := 0) (by decide) (Nat.zero_le _)
theorem ex_sh40 (B j : Nat) : ex_get (Nat.shiftRight B 40) j = ex_get B (j + 1) := by
  have := ex_shO (M := B) (w := 1) (k := j)
  rw [Nat.mul_one] at this
  rw [Nat.add_comm]
  exact this
theorem ex_cln_inv {n B M : Nat} {k : Nat → Nat → ex_R} {r : Nat × Nat} (h : ex_cln n B M k = some r) : (∀ j, j < n → ex_get B (j + 1) &&& 1095216660480 = 0) ∧ n ≤ 100000 ∧ ex_alloc M B n k = some r := by
  unfold ex_cln at h
  obtain ⟨h4, h⟩ := ex_br1 h
  obtain ⟨h5, h⟩ := ex_br1 h
  have h5 := Nat.le_of_ble_eq_true h5
  refine ⟨fun j hj => ?_, h5, h⟩
  have := ex_landI h4 j
  rw [ex_sh40, ex_sh40, ex_get_new (by decide) (by omega) (by decide) (j + 1) (by omega), if_neg (by omega)] at this
  exact this
section
variable {E : ex_G} {b : Nat} {H0 : Heap} {G0 : List Nat} {ad0 : Nat → Nat} {nL : Nat} {p : Program} {l : Launch} {e : Env} {R : Room} {s : State} {m : MethodId} {args : Array Value} {below : List Frame} {meth : Method} {c : Code} {mc ms : Nat} {rM : Nat × Nat} {cc : ByteArray} {pc : Nat} {nx : ex_K}
theorem ex_ext {G G' : List Nat} {ad ad' : Nat → Nat} {L M M' : Nat} {S T : List Nat} {ls : Array Slot} {st : List Value} {H H' : Heap} {locs : List Loc} (q : ex_SR E b H0 s.heap G0 ad0 nL G ad L S M ls st H locs) (hT : ∀ z ∈ T, z ∈ S) (hR : ex_Rep E b G' ad' M' H') (hsub : ∀ w ∈ G, w ∈ G' ∧ ad' w = ad w) (hz : H.size ≤ H'.size) (ho : ∀ a : Nat, a < H.size → H'[a]? = H[a]?) {x : Nat} (hx : ex_okc G' x) :
    ex_SR E b H0 s.heap G0 ad0 nL G' ad' L (x :: T) M' ls (ex_v E ad' x :: T.map (ex_v E ad)) H' locs := by
  obtain ⟨q1, q2, -, q4, q5, q6, q7, q8⟩ := q
  have hv : ∀ z, ex_okc G z → ex_v E ad' z = ex_v E ad z := fun z hz => ex_v_ad hz (fun w hw => (hsub w hw).2)
  have hs' : ∀ w ∈ G, w ∈ G' := fun w h => (hsub w h).1
  refine ⟨⟨q1.1, q1.2.1, fun i hi hu => ?_⟩, fun i hi => (q2 i hi).mono hs', ?_, ?_, hR, fun w hw => ⟨hs' w (q6 w hw).1, (hsub w (q6 w hw).1).2.trans (q6 w hw).2⟩, ?_, ?_⟩
  · rw [hv _ (q2 i hi)]; exact q1.2.2 i hi hu
  · rw [List.map_cons]
    congr 1
    exact List.map_congr_left (fun z hz => (hv z (q4 z (hT z hz))).symm)
  · exact ex_okS hx (fun z hz => (q4 z (hT z hz)).mono hs')
  · exact ⟨Nat.le_trans q7.1 hz, fun x h1 h2 => (ho x (Nat.lt_of_lt_of_le h1 q7.1)).trans (q7.2.1 x h1 h2), q7.2.2⟩
  · exact ⟨Nat.le_trans q8.1 hz, fun x h1 h2 => (ho x (Nat.lt_of_lt_of_le h1 q8.1)).trans (q8.2.1 x h1 h2), q8.2.2⟩
theorem z_clone {ST : Nat → Nat} {own : String} {index : Nat} (hx : p.tables.exec = Jvm.exec) (hb : c.code = cc) (hml : c.maxLocals = nL) (hW : ex_Wo E b ST H0 args s) (hE : ex_svR E) (hmc : mc ≤ R.cells) (hms : ms ≤ R.slots) (hown : s.vm.findClass own = some m.cls)
    (hlink : (Cond.methodLink own index ⟨"[I", "clone", "()Ljava/lang/Object;"⟩).before args s = true) (hsame : (Cond.sameMethod "[I" "java/lang/Object" "clone" "()Ljava/lang/Object;").before args s = true)
    (hnat : (Cond.native ⟨"java/lang/Object", "clone", "()Ljava/lang/Object;"⟩).before args s = true) (hinst : (Cond.instanceMethod ⟨"java/lang/Object", "clone", "()Ljava/lang/Object;"⟩).before args s = true)
    (hsel : (Cond.selects "[I" ⟨"[I", "clone", "()Ljava/lang/Object;"⟩ ⟨"java/lang/Object", "clone", "()Ljava/lang/Object;"⟩).before args s = true) (hcl : (Cond.castable "[I" "java/lang/Cloneable").before args s = true)
    (hframes : 1 ≤ R.frames) (hlocals : 22 ≤ R.locals) (hd : decode cc pc = .ok (.invokevirtual index, 3)) (k : ex_Z E b H0 G0 ad0 nL p l e R s m args below meth c mc ms rM nx (pc + 3)) : ex_Z E b H0 G0 ad0 nL p l e R s m args below meth c mc ms rM (ex_clnS nx) pc := by
  intro L S M h
  unfold ex_clnS at h
  obtain ⟨x, T, rfl, h⟩ := ex_ls1 h
  with_reducible obtain ⟨h1, h⟩ := ex_br1 h
  with_reducible obtain ⟨h2, h⟩ := ex_br1 h
  with_reducible obtain ⟨h3, h⟩ := ex_br1 h
  have hxd := ex_isD_iff.mp h1
  generalize hw0 : Nat.sub x 8589934592 = w at h2 h
  have hw0' : x - 8589934592 = w := hw0
  have h2 : ex_get M w % 256 = 64 := Nat.eq_of_beq_eq_true h2
  generalize hn0 : Nat.div (ex_get M w) 256 = n at h
  have hn0' : ex_get M w / 256 = n := hn0
  generalize hB0 : Nat.mod (Nat.shiftRight M (Nat.mul 40 w)) (Nat.pow 2 (Nat.mul 40 (Nat.succ n))) = B at h
  have hB0' : M >>> (40 * w) % 2 ^ (40 * (n + 1)) = B := hB0
  obtain ⟨h4, h5, h⟩ := ex_cln_inv h
  obtain ⟨b0, b1, b2, h⟩ := ex_alloc_inv h
  have hBl : B < 2 ^ (40 * (n + 1)) := by rw [← hB0']; exact Nat.mod_lt _ (Nat.two_pow_pos _)
  have hBg : ∀ j, j < n + 1 → ex_get B j = ex_get M (w + j) := fun j hj => by rw [← hB0', ex_get_part hj]
  have hBi : ∀ j, j < n → ex_get B (j + 1) < 4294967296 := fun j hj => by
    exact ex_lt32 (ex_get_lt _ _) (h4 j hj)
  have hw := k _ _ _ h
  obtain ⟨m1, m2⟩ := ex_mk_c (M := M) (B := B) (n := n) (t := ex_get M 0) (by omega) (by omega) (by omega)
  have hm := hw.1
  rw [m1, m2] at hm
  refine ⟨⟨by omega, by omega⟩, fun G ad ls st H locs cells slots q hc hs => ?_⟩
  have hst := q.2.2.1
  subst hst
  have hD : w ∈ G := by have := q.2.2.2.1 x List.mem_cons_self (by omega) hxd.2; rw [hw0'] at this; exact this
  have hcell := (q.2.2.2.2.1.1 w hD).2 (show 64 ≤ ex_kd M w by unfold ex_kd; omega)
  have ek : ex_kd M w = 64 := h2
  have en : ex_n M w = n := hn0'
  rw [ek, en] at hcell
  have hsum := ex_catr (E := E) (ad := ad) hE.one T
  have h3 := Nat.le_of_ble_eq_true h3
  rw [List.map_cons, ex_v_D (by omega) hxd.2, hw0']
  obtain ⟨c0, t0', f1, f2, f3⟩ := Cond.castable_spec hcl
  have hnm : s.vm.findClass "[I" = some (E.2.1 64) := ((hW.2.2.2.1 64 (by omega) (by omega)).2 (by omega))
  cases hnm.symm.trans f1
  have e0 : ex_get B 0 % 256 = 64 := by rw [hBg 0 (by omega), Nat.add_zero]; exact h2
  have e1 : ex_get B 0 / 256 = n := by rw [hBg 0 (by omega), Nat.add_zero]; exact hn0'
  have hfin : W p l e R s m args below meth c (H.push (arrV (E.2.1 64) n (fun j => ex_v E ad (ex_get M (w + 1 + j))))) locs (cells + 1) (slots + n) (vx_MQ below (ex_Qc E b G0 ad0 rM) (ex_XC E b G0 ad0 rM) args s mc ms (fun q => b ≤ q)) (F0 m (pc + 3) ls (.ref H.size :: T.map (ex_v E ad))) := by
    refine ex_fin hw q (fun z hz => List.mem_cons_of_mem _ hz) b0 b1 b2 (by omega) hW.1 hBl e1 (fun k hk => ex_okc_lt (by have := hBi k hk; omega)) hc hs (by rw [Array.size_push]) (fun a ha => by rw [Array.getElem?_push, if_neg (Nat.ne_of_lt ha)]) (fun z => absurd z (by omega)) (fun _ => ?_)
    rw [e0, Array.getElem?_push_size]
    exact congrArg some (arrV_cong (fun j hj => by rw [hBg (j + 1) (by omega), show w + (j + 1) = w + 1 + j by omega]))
  intro T' hT' X
  obtain ⟨-, kA, hkA, comp, hkind⟩ := State.isArrayOf_alike X.warmed.alike ((hW.2.2.2.1 64 (by omega) (by omega)).1 0 (fun _ => .null))
  obtain ⟨-, kS, hkS, compS, hkindS⟩ := (hW.2.2.2.1 64 (by omega) (by omega)).1 0 (fun _ => .null)
  obtain ⟨vm', X', st⟩ := X.cloneArray hx hown hlink hsame hnat hinst hsel (a := ad w) (cell := arrV (E.2.1 64) n (fun j => ex_v E ad (ex_get M (w + 1 + j)))) (by rw [hT']; exact hcell) (fun k h => by cases h) (fun h => by cases h) hnm f2 f3
    (fun i v hv => by
      have hk' : T'.vm.classes[E.2.1 64]? = some kA := hkA
      have hi : i < n := by
        rcases Nat.lt_or_ge i n with z | z
        · exact z
        · rw [Array.getElem?_eq_none (by rw [arrV_size]; omega)] at hv; cases hv
      rw [arrV_read _ _ hi] at hv
      cases hv
      have hi2 := hBi i hi
      rw [hBg (i + 1) (by omega), show w + (i + 1) = w + 1 + i by omega] at hi2
      rw [ex_v_n hi2]
      show State.fitsSlot T' (E.2.1 64) .none i _ = true
      simp [State.fitsSlot, State.slotType?, hk', hkind, ex_ty, fits])
    (g := F0 m pc ls (.ref (ad w) :: T.map (ex_v E ad))) rfl (by rw [hml]; exact q.1.1) rfl (by rw [hb]; exact hd) hframes (by rw [hsum]; show 2 * 0 + _ + 14 ≤ _; omega) (by omega) (by rw [arrV_size]; omega) (hloader := Vm.clonesLoader_of_array hkS hkindS)
  have eC : ({ cls := (arrV (E.2.1 64) n (fun j => ex_v E ad (ex_get M (w + 1 + j)))).cls, slots := (arrV (E.2.1 64) n (fun j => ex_v E ad (ex_get M (w + 1 + j)))).slots } : Cell) = arrV (E.2.1 64) n (fun j => ex_v E ad (ex_get M (w + 1 + j))) := rfl
  rw [eC, arrV_size] at X'
  rw [eC] at st
  obtain ⟨t, a1, b1'⟩ := hfin ((T'.setVm vm').pushCell (arrV (E.2.1 64) n (fun j => ex_v E ad (ex_get M (w + 1 + j))))) (by rw [← hT']; rfl) X'
  exact ⟨t, st t (by rw [hT']; exact a1), b1'⟩
end
