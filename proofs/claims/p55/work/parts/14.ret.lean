/-! switches; returns; Object's constructor; clones; rows of rows -/
section
variable {E : ex_G} {b : Nat} {H0 : Heap} {G0 : List Nat} {ad0 : Nat → Nat} {nL : Nat} {p : Program} {l : Launch} {e : Env} {R : Room} {s : State} {m : MethodId} {args : Array Value} {below : List Frame} {meth : Method} {c : Code} {mc ms : Nat} {rM : Nat × Nat} {cc : ByteArray} {pc : Nat} {nx : ex_K}
theorem z_tableswitch {exj : Nat → ex_K} {dflt hi : Int} {offs : Array Int} {ln aux : Nat} (hx : p.tables.exec = Jvm.exec) (hb : c.code = cc) (hd : decode cc pc = .ok (.tableswitch dflt 0 hi offs, ln)) (h0 : (pc : Int) + dflt = (ex_get aux 0 : Int)) (h1 : ex_get aux 1 = 0) (h2 : hi + 1 = (ex_get aux 2 : Int)) (h3 : ex_get aux 2 < 2147483648)
    (h4 : ∀ i, i < ex_get aux 2 → ∃ off, offs[i]? = some off ∧ (pc : Int) + off = (ex_get aux (3 + i) : Int)) (kj : ∀ t, ex_Z E b H0 G0 ad0 nL p l e R s m args below meth c mc ms rM (exj t) t) : ex_Z E b H0 G0 ad0 nL p l e R s m args below meth c mc ms rM (fun L S M => (@List.rec Nat (fun _ => ex_R) none (fun a T _ => (@Bool.rec (fun _ => ex_R) (none) ((@Bool.rec (fun _ => ex_R) (exj (ex_get aux 0) L T M) ((@Bool.rec (fun _ => ex_R) (exj (ex_get aux (Nat.add 3 (Nat.sub (ex_bi a) (ex_bi (ex_get aux 1))))) L T M) (exj (ex_get aux 0) L T M) (Nat.ble (Nat.add (ex_bi (ex_get aux 1)) (ex_get aux 2)) (ex_bi a)))) (Nat.ble (ex_bi (ex_get aux 1)) (ex_bi a)))) (ex_isI a))) S)) pc := by
  intro L S M h
  obtain ⟨x, T, rfl, h⟩ := ex_ls1 h
  obtain ⟨g1, h⟩ := ex_br1 h
  have hx32 : x < 4294967296 := by have := Nat.le_of_ble_eq_true g1; omega
  have e0 : ex_bi (ex_get aux 1) = 2147483648 := by rw [h1]; rfl
  rw [e0] at h
  have hB : ex_bi x = if x < 2147483648 then x + 2147483648 else x - 2147483648 := by
    show x ^^^ 2147483648 = _
    split
    · exact ex_xhb (by assumption)
    · exact ex_xhb2 hx32 (by omega)
  have hti := ex_ti hx32
  have out : (x : Nat) < 2147483648 ∧ ex_get aux 2 ≤ x ∨ 2147483648 ≤ x → exj (ex_get aux 0) L T M = some rM → ex_A E b H0 G0 ad0 nL p l e R s m args below meth c mc ms rM L (x :: T) M pc := fun hc h => by
    obtain ⟨hm, hw⟩ := kj _ _ _ M h
    refine ⟨hm, fun G ad ls st H locs cells slots q hcc hs => ?_⟩
    have hst := q.2.2.1
    subst hst
    rw [List.map_cons, ex_v_n hx32]
    refine lv_tableOut hx hb hd ?_ h0 (hw G ad ls _ H locs cells slots (q.stk rfl (fun z hz => q.2.2.2.1 z (List.mem_cons_of_mem _ hz))) hcc hs)
    rw [hti]
    rcases hc with ⟨a1, a2⟩ | a1
    · rw [if_pos a1]; omega
    · rw [if_neg (by omega)]; omega
  rcases ex_br2 h with ⟨g2, h⟩ | ⟨g2, h⟩
  · have g2 := Nat.le_of_ble_eq_true g2
    have hlt : x < 2147483648 := by rw [hB] at g2; split at g2 <;> omega
    rw [if_pos hlt] at hB
    rw [hB] at h
    rcases ex_br2 h with ⟨g3, h⟩ | ⟨g3, h⟩
    · have g3 : 2147483648 + ex_get aux 2 ≤ x + 2147483648 := Nat.le_of_ble_eq_true g3
      exact out (Or.inl ⟨hlt, by omega⟩) h
    · have g3 : ¬ 2147483648 + ex_get aux 2 ≤ x + 2147483648 := fun z => by rw [show Nat.ble (Nat.add 2147483648 (ex_get aux 2)) (x + 2147483648) = true from Nat.ble_eq.mpr z] at g3; cases g3
      have hi : x < ex_get aux 2 := by omega
      obtain ⟨off, o1, o2⟩ := h4 x hi
      have e3 : Nat.add 3 (Nat.sub (x + 2147483648) 2147483648) = 3 + x := by show 3 + (x + 2147483648 - 2147483648) = _; omega
      rw [e3] at h
      obtain ⟨hm, hw⟩ := kj _ _ _ M h
      refine ⟨hm, fun G ad ls st H locs cells slots q hcc hs => ?_⟩
      have hst := q.2.2.1
      subst hst
      rw [List.map_cons, ex_v_n hx32]
      refine lv_tableIn (off := off) hx hb hd ?_ ?_ ?_ o2 (hw G ad ls _ H locs cells slots (q.stk rfl (fun z hz => q.2.2.2.1 z (List.mem_cons_of_mem _ hz))) hcc hs)
      · rw [hti, if_pos hlt]; omega
      · rw [hti, if_pos hlt]; omega
      · rw [hti, if_pos hlt, show ((x : Int) - 0).toNat = x by omega]; exact o1
  · have g2 : ¬ 2147483648 ≤ ex_bi x := fun z => by rw [show Nat.ble 2147483648 (ex_bi x) = true from Nat.ble_eq.mpr z] at g2; cases g2
    refine out (Or.inr ?_) h
    rw [hB] at g2; split at g2 <;> omega
/-- what a return owes -/
theorem ex_end {G : List Nat} {ad : Nat → Nat} {L : Nat} {S : List Nat} {M : Nat} {ls : Array Slot} {st : List Value} {H : Heap} {locs : List Loc} {v : Nat} (hr : rM = (v, M)) (q : ex_SR E b H0 s.heap G0 ad0 nL G ad L S M ls st H locs) (hv : v < 549755813888) (hv2 : v ≠ 137438953473) (hk : ex_okc G v) : ∀ t : State, t.heap = H → s.WarmedH t.vm → ex_Qc E b G0 ad0 rM args s (.returned (some (ex_v E ad v))) t := fun t ht _ => by
  subst hr
  exact ⟨G, ad, q.2.2.2.2.2.1, by rw [ht]; exact q.2.2.2.2.1, q.2.2.2.2.2.2.2.F ht, hv, Or.inr ⟨hv2, hk, rfl⟩⟩
theorem z_ireturn {V : ex_V} {rt : Nat} {ty : FieldType} (hx : p.tables.exec = Jvm.exec) (hb : c.code = cc) (hV : ex_VOK E V) (hE : ex_svR E) (hr : meth.sig.returnType = some ty) (htc : ex_tc rt ty = true) (hlk : meth.locks = false) (hd : decode cc pc = .ok (.ireturn, 1)) : ex_Z E b H0 G0 ad0 nL p l e R s m args below meth c mc ms rM (fun L S M => (@List.rec Nat (fun _ => ex_R) none (fun v T _ => (@List.rec Nat (fun _ => ex_R) ((@Bool.rec (fun _ => ex_R) (none) ((@Bool.rec (fun _ => ex_R) (none) ((@Bool.rec (fun _ => ex_R) (none) ((@Bool.rec (fun _ => ex_R) (some (v, M)) (none) (Nat.beq rt 3))) (Nat.ble rt 4))) (ex_fit V rt v))) (ex_tI v))) (fun _ _ _ => none) T)) S)) pc := by
  intro L S M h
  obtain ⟨v, T, rfl, h⟩ := ex_ls1 h
  obtain ⟨rfl, h⟩ := ex_ls0 h
  obtain ⟨h1, h⟩ := ex_br1 h
  with_reducible obtain ⟨h2, h⟩ := ex_br1 h
  obtain ⟨h3, h⟩ := ex_br1 h
  obtain ⟨h4, h⟩ := ex_br0 h
  have h := (Option.some.inj h).symm
  refine ⟨by rw [h]; exact ⟨Nat.le_refl _, Nat.le_refl _⟩, fun G ad ls st H locs cells slots q hc hs => ?_⟩
  have hst := q.2.2.1
  subst hst
  have hv := ex_I_lt h1
  have hn := (ex_fit_ok (ad := ad) hV hE htc h2).1
  have he := ex_end (args := args) h q (by omega) (by omega) (q.2.2.2.1 v List.mem_cons_self)
  rw [List.map_cons, List.map_nil]
  rw [ex_v_I h1] at hn he ⊢
  rw [h] at hc hs
  refine vx_ret (W.widen (Nat.le_of_add_le_add_right hc) (Nat.le_of_add_le_add_right hs) (W.zret hx hb hr hn he (fun z hz => q.2.2.2.2.2.2.2.2.2 z hz) hd hlk))
theorem z_lreturn {rt : Nat} (hx : p.tables.exec = Jvm.exec) (hb : c.code = cc) (hr : rt = 3 → meth.sig.returnType = some .long) (hlk : meth.locks = false) (hd : decode cc pc = .ok (.lreturn, 1)) : ex_Z E b H0 G0 ad0 nL p l e R s m args below meth c mc ms rM (fun L S M => (@List.rec Nat (fun _ => ex_R) none (fun v T _ => (@List.rec Nat (fun _ => ex_R) ((@Bool.rec (fun _ => ex_R) (none) ((@Bool.rec (fun _ => ex_R) (none) (some (v, M)) (Nat.beq rt 3))) (ex_tL v))) (fun _ _ _ => none) T)) S)) pc := by
  intro L S M h
  obtain ⟨v, T, rfl, h⟩ := ex_ls1 h
  obtain ⟨rfl, h⟩ := ex_ls0 h
  obtain ⟨h1, h⟩ := ex_br1 h
  obtain ⟨h2, h⟩ := ex_br1 h
  have h := (Option.some.inj h).symm
  refine ⟨by rw [h]; exact ⟨Nat.le_refl _, Nat.le_refl _⟩, fun G ad ls st H locs cells slots q hc hs => ?_⟩
  have hst := q.2.2.1
  subst hst
  have hv := ex_tL_iff.mp h1
  have he := ex_end (args := args) h q (by omega) (by omega) (q.2.2.2.1 v List.mem_cons_self)
  rw [List.map_cons, List.map_nil]
  rw [ex_v_L h1] at he ⊢
  rw [h] at hc hs
  exact vx_ret (W.widen (Nat.le_of_add_le_add_right hc) (Nat.le_of_add_le_add_right hs) (W.lret hx hb (hr (Nat.eq_of_beq_eq_true h2)) he (fun z hz => q.2.2.2.2.2.2.2.2.2 z hz) hd hlk))
theorem z_areturn {rt : Nat} {ty : FieldType} (hx : p.tables.exec = Jvm.exec) (hb : c.code = cc) (hE : ex_svR E) (hr : rt = 5 → meth.sig.returnType = some ty ∧ ((∃ n, ty = .object n) ∨ ∃ t, ty = .array t)) (hlk : meth.locks = false) (hd : decode cc pc = .ok (.areturn, 1)) : ex_Z E b H0 G0 ad0 nL p l e R s m args below meth c mc ms rM (fun L S M => (@List.rec Nat (fun _ => ex_R) none (fun v T _ => (@List.rec Nat (fun _ => ex_R) ((@Bool.rec (fun _ => ex_R) (none) ((@Bool.rec (fun _ => ex_R) (none) (some (v, M)) (Nat.beq rt 5))) (ex_tA v))) (fun _ _ _ => none) T)) S)) pc := by
  intro L S M h
  obtain ⟨v, T, rfl, h⟩ := ex_ls1 h
  obtain ⟨rfl, h⟩ := ex_ls0 h
  obtain ⟨h1, h⟩ := ex_br1 h
  obtain ⟨h2, h⟩ := ex_br1 h
  have h := (Option.some.inj h).symm
  refine ⟨by rw [h]; exact ⟨Nat.le_refl _, Nat.le_refl _⟩, fun G ad ls st H locs cells slots q hc hs => ?_⟩
  have hst := q.2.2.1
  subst hst
  have hv := ex_tA_iff.mp h1
  have he := ex_end (args := args) h q (by omega) (by omega) (q.2.2.2.1 v List.mem_cons_self)
  rw [List.map_cons, List.map_nil]
  rw [h] at hc hs
  obtain ⟨r1, r2⟩ := hr (Nat.eq_of_beq_eq_true h2)
  exact vx_ret (W.widen (Nat.le_of_add_le_add_right hc) (Nat.le_of_add_le_add_right hs) (W.aret hx hb r1 r2 (ex_v_A hE h1) he (fun z hz => q.2.2.2.2.2.2.2.2.2 z hz) hd hlk))
theorem z_freturn {rt : Nat} (hx : p.tables.exec = Jvm.exec) (hb : c.code = cc) (hr : rt = 7 → meth.sig.returnType = some .float) (hlk : meth.locks = false) (hd : decode cc pc = .ok (.freturn, 1)) : ex_Z E b H0 G0 ad0 nL p l e R s m args below meth c mc ms rM (fun L S M => (@List.rec Nat (fun _ => ex_R) none (fun v T _ => (@List.rec Nat (fun _ => ex_R) ((@Bool.rec (fun _ => ex_R) (none) ((@Bool.rec (fun _ => ex_R) (none) (some (v, M)) (Nat.beq rt 7))) (ex_tF v))) (fun _ _ _ => none) T)) S)) pc := by
  intro L S M h
  obtain ⟨v, T, rfl, h⟩ := ex_ls1 h
  obtain ⟨rfl, h⟩ := ex_ls0 h
  obtain ⟨h1, h⟩ := ex_br1 h
  obtain ⟨h2, h⟩ := ex_br1 h
  have h := (Option.some.inj h).symm
  refine ⟨by rw [h]; exact ⟨Nat.le_refl _, Nat.le_refl _⟩, fun G ad ls st H locs cells slots q hc hs => ?_⟩
  have hst := q.2.2.1
  subst hst
  have hv : v = 34359738368 := Nat.eq_of_beq_eq_true h1
  have he := ex_end (args := args) h q (by omega) (by omega) (q.2.2.2.1 v List.mem_cons_self)
  rw [List.map_cons, List.map_nil]
  rw [ex_v_Ff h1] at he ⊢
  rw [h] at hc hs
  exact vx_ret (W.widen (Nat.le_of_add_le_add_right hc) (Nat.le_of_add_le_add_right hs) (W.fret hx hb (hr (Nat.eq_of_beq_eq_true h2)) he (fun z hz => q.2.2.2.2.2.2.2.2.2 z hz) hd hlk))
theorem z_dreturn {rt : Nat} (hx : p.tables.exec = Jvm.exec) (hb : c.code = cc) (hr : rt = 8 → meth.sig.returnType = some .double) (hlk : meth.locks = false) (hd : decode cc pc = .ok (.dreturn, 1)) : ex_Z E b H0 G0 ad0 nL p l e R s m args below meth c mc ms rM (fun L S M => (@List.rec Nat (fun _ => ex_R) none (fun v T _ => (@List.rec Nat (fun _ => ex_R) ((@Bool.rec (fun _ => ex_R) (none) ((@Bool.rec (fun _ => ex_R) (none) (some (v, M)) (Nat.beq rt 8))) (ex_tD v))) (fun _ _ _ => none) T)) S)) pc := by
  intro L S M h
  obtain ⟨v, T, rfl, h⟩ := ex_ls1 h
  obtain ⟨rfl, h⟩ := ex_ls0 h
  obtain ⟨h1, h⟩ := ex_br1 h
  obtain ⟨h2, h⟩ := ex_br1 h
  have h := (Option.some.inj h).symm
  refine ⟨by rw [h]; exact ⟨Nat.le_refl _, Nat.le_refl _⟩, fun G ad ls st H locs cells slots q hc hs => ?_⟩
  have hst := q.2.2.1
  subst hst
  have hv := ex_tD_iff.mp h1
  have he := ex_end (args := args) h q (by omega) (by omega) (q.2.2.2.1 v List.mem_cons_self)
  rw [List.map_cons, List.map_nil]
  rw [ex_v_Dd h1] at he ⊢
  rw [h] at hc hs
  exact vx_ret (W.widen (Nat.le_of_add_le_add_right hc) (Nat.le_of_add_le_add_right hs) (W.dret hx hb (hr (Nat.eq_of_beq_eq_true h2)) he (fun z hz => q.2.2.2.2.2.2.2.2.2 z hz) hd hlk))
theorem z_return {rt : Nat} (hx : p.tables.exec = Jvm.exec) (hb : c.code = cc) (hr : rt = 15 → meth.sig.returnType = none) (hlk : meth.locks = false) (hd : decode cc pc = .ok (.return_, 1)) : ex_Z E b H0 G0 ad0 nL p l e R s m args below meth c mc ms rM (fun L S M => (@List.rec Nat (fun _ => ex_R) ((@Bool.rec (fun _ => ex_R) (none) (some (137438953473, M)) (Nat.beq rt 15))) (fun _ _ _ => none) S)) pc := by
  intro L S M h
  obtain ⟨rfl, h⟩ := ex_ls0 h
  obtain ⟨h2, h⟩ := ex_br1 h
  have h := (Option.some.inj h).symm
  refine ⟨by rw [h]; exact ⟨Nat.le_refl _, Nat.le_refl _⟩, fun G ad ls st H locs cells slots q hc hs => ?_⟩
  have hst := q.2.2.1
  subst hst
  rw [List.map_nil]
  have he : ∀ t : State, t.heap = H → s.WarmedH t.vm → ex_Qc E b G0 ad0 rM args s (.returned none) t := fun t ht _ => by
    subst h
    exact ⟨G, ad, q.2.2.2.2.2.1, by rw [ht]; exact q.2.2.2.2.1, q.2.2.2.2.2.2.2.F ht, show (137438953473 : Nat) < 549755813888 by decide, Or.inl ⟨rfl, rfl⟩⟩
  rw [h] at hc hs
  exact vx_ret (W.widen (Nat.le_of_add_le_add_right hc) (Nat.le_of_add_le_add_right hs) (W.vret hx hb (hr (Nat.eq_of_beq_eq_true h2)) he (fun z hz => q.2.2.2.2.2.2.2.2.2 z hz) hd hlk))
/-- Object's constructor -/
theorem z_objInit {own : String} {index : Nat} (hx : p.tables.exec = Jvm.exec) (hb : c.code = cc) (hE : ex_svR E) (hown : s.vm.findClass own = some m.cls) (hml : c.maxLocals = nL) (hlink : (Cond.methodLink own index Lib.objectInit).before args s = true) (hinst : (Cond.instanceMethod Lib.objectInit).before args s = true) (hcode : (Cond.code Lib.objectInit ⟨#[0xb1]⟩ 1 none).before args s = true)
    (hR : 1 ≤ R.frames) (hd : decode cc pc = .ok (.invokespecial index, 3)) (hRl : 2 * 0 + 8 + 12 ≤ R.locals) (k : ex_Z E b H0 G0 ad0 nL p l e R s m args below meth c mc ms rM nx (pc + 3)) : ex_Z E b H0 G0 ad0 nL p l e R s m args below meth c mc ms rM (fun L S M => (@List.rec Nat (fun _ => ex_R) none (fun c T _ => (@Bool.rec (fun _ => ex_R) (none) ((@Bool.rec (fun _ => ex_R) (none) (nx L T M) (Nat.ble (ex_rsum T) 8))) (ex_isD c))) S)) pc := by
  intro L S M h
  obtain ⟨x, T, rfl, h⟩ := ex_ls1 h
  obtain ⟨h1, h⟩ := ex_br1 h
  obtain ⟨h2, h⟩ := ex_br1 h
  obtain ⟨hm, hw⟩ := k _ _ M h
  refine ⟨hm, fun G ad ls st H locs cells slots q hc hs => ?_⟩
  have hst := q.2.2.1
  subst hst
  have hsum := ex_catr (E := E) (ad := ad) hE.one T
  have h2 := Nat.le_of_ble_eq_true h2
  have hxd := ex_isD_iff.mp h1
  rw [List.map_cons, ex_v_D (by omega) hxd.2]
  refine W.objInit hx hb hown hlink hinst hcode (g := F0 m pc ls (.ref (ad (x - 8589934592)) :: T.map (ex_v E ad))) rfl (by rw [hml]; exact q.1.1) rfl hd hR (by rw [hsum]; show 2 * 0 + _ + _ ≤ _; omega) ?_
  exact hw G ad ls _ H locs cells slots (q.stk rfl (fun z hz => q.2.2.2.1 z (List.mem_cons_of_mem _ hz))) hc hs
end
