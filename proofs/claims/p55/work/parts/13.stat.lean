/-! stores of references; static fields; switches; returns; clones; rows of rows -/
/-- the world's second half: castable classes, static fields, String constants -/
def ex_W2 (E : ex_G) (b : Nat) (H0 : Heap) (args : Array Value) (s : State) : Prop :=
  (∀ (k : Nat) (q : vw_C), ex_cl[k]? = some q → (Cond.castable q.1 "java/lang/Object").before args s = true) ∧
  (∀ kd, 64 ≤ kd → kd ≤ 71 → (Cond.castable ("[" ++ (ex_ty kd).toString) "java/lang/Object").before args s = true) ∧
  (Cond.arrayOver (.array .int)).before args s = true ∧
  (∀ q ∈ ex_sfl, va_Z q.1 q.2.1 q.2.2.1 (ex_v E id q.2.2.2) (fun a => b ≤ a) s H0) ∧
  (∀ q ∈ ex_srl, ∃ a, E.2.2.1 (q.2.2.2 - 17179869184) = .ref a ∧ vk_R q.1 q.2.1 q.2.2.1 a s)
theorem ex_v_nd {E : ex_G} {ad ad' : Nat → Nat} {c : Nat} (h : c < 8589934592 ∨ 17179869184 ≤ c) : ex_v E ad' c = ex_v E ad c :=
  ex_v_ad (G := []) (fun a b => by omega) (fun w hw => nomatch hw)
theorem ex_aaT {ST : Nat → Nat} {M k v : Nat} (h : (@Bool.rec (fun _ => Bool) ((@Bool.rec (fun _ => Bool) (false) ((@Bool.rec (fun _ => Bool) (false) (Nat.beq (Nat.mod (ex_get M (Nat.sub v 8589934592)) 256) 64) (ex_isD v))) (Nat.beq k 71))) ((@Bool.rec (fun _ => Bool) ((@Bool.rec (fun _ => Bool) (false) ((@Bool.rec (fun _ => Bool) ((@Bool.rec (fun _ => Bool) (false) ((@Bool.rec (fun _ => Bool) (false) (Nat.ble (Nat.mod (ex_hd ST M v) 256) 71) (Nat.ble 64 (Nat.mod (ex_hd ST M v) 256)))) (ex_isD v))) (true) (Nat.ble (Nat.mod (ex_hd ST M v) 256) 19))) (ex_isR v))) (true) (Nat.beq v 4294967296))) (Nat.beq k 70)) = true) : (k = 70 ∧ v = 4294967296) ∨ (ex_isR v = true ∧ k = 70 ∧ (ex_hd ST M v % 256 < 20 ∨ (ex_isD v = true ∧ 64 ≤ ex_hd ST M v % 256 ∧ ex_hd ST M v % 256 ≤ 71))) ∨ (ex_isD v = true ∧ k = 71 ∧ ex_get M (v - 8589934592) % 256 = 64) := by
  simp only [ex_bB, Nat.beq_eq, Nat.ble_eq] at h
  by_cases h1 : k = 70
  · rw [if_pos h1] at h
    by_cases h2 : v = 4294967296
    · exact Or.inl ⟨h1, h2⟩
    · rw [if_neg h2] at h
      by_cases h3 : ex_isR v = true
      · rw [if_pos h3] at h
        by_cases h4 : Nat.mod (ex_hd ST M v) 256 ≤ 19
        · exact Or.inr (Or.inl ⟨h3, h1, Or.inl (Nat.lt_succ_of_le h4)⟩)
        · rw [if_neg h4] at h
          by_cases h5 : ex_isD v = true
          · rw [if_pos h5] at h
            by_cases h6 : 64 ≤ Nat.mod (ex_hd ST M v) 256
            · rw [if_pos h6] at h
              exact Or.inr (Or.inl ⟨h3, h1, Or.inr ⟨h5, h6, Nat.le_of_ble_eq_true h⟩⟩)
            · rw [if_neg h6] at h; cases h
          · rw [if_neg h5] at h; cases h
      · rw [if_neg h3] at h; cases h
  · rw [if_neg h1] at h
    by_cases h2 : k = 71
    · rw [if_pos h2] at h
      by_cases h5 : ex_isD v = true
      · rw [if_pos h5] at h
        exact Or.inr (Or.inr ⟨h5, h2, Nat.eq_of_beq_eq_true h⟩)
      · rw [if_neg h5] at h; cases h
    · rw [if_neg h2] at h; cases h
section
variable {E : ex_G} {b : Nat} {H0 : Heap} {G0 : List Nat} {ad0 : Nat → Nat} {nL : Nat} {p : Program} {l : Launch} {e : Env} {R : Room} {s : State} {m : MethodId} {args : Array Value} {below : List Frame} {meth : Method} {c : Code} {mc ms : Nat} {rM : Nat × Nat} {cc : ByteArray} {pc : Nat} {nx : ex_K}
theorem ex_tyS (kd : Nat) (h1 : 64 ≤ kd) (h2 : kd ≤ 71) {cA : ClassId} (h : va_RA s cA (ex_ty kd)) : s.vm.findClass ("[" ++ (ex_ty kd).toString) = some cA := by
  rcases (show kd = 64 ∨ kd = 65 ∨ kd = 66 ∨ kd = 67 ∨ kd = 68 ∨ kd = 69 ∨ kd = 70 ∨ kd = 71 by omega) with rfl | rfl | rfl | rfl | rfl | rfl | rfl | rfl <;> first | exact h | (obtain ⟨-, -, -, -, -, g⟩ := h; exact g)
/-- the class of a cell that a reference names -/
theorem ex_clsOf {ST : Nat → Nat} {G : List Nat} {ad : Nat → Nat} {M : Nat} {H : Heap} {locs : List Loc} {x : Nat} (hW : ex_Wo E b ST H0 args s) (h2 : ex_W2 E b H0 args s) (hR : ex_Rep E b G ad M H) (hS : va_S (fun q => b ≤ q) H0 H locs) (hx : ex_isR x = true) (hok : ex_okc G x) (hk : ex_hd ST M x % 256 < 20 ∨ (ex_isD x = true ∧ 64 ≤ ex_hd ST M x % 256 ∧ ex_hd ST M x % 256 ≤ 71)) :
    ∃ (a : Nat) (cell : Cell), ex_v E ad x = .ref a ∧ H[a]? = some cell ∧ cell.vm.isStatics = false ∧ ∃ (nm : String) (kv : Class), s.vm.findClass nm = some cell.cls ∧ s.vm.classes[cell.cls]? = some kv ∧ (Cond.castable nm "java/lang/Object").before args s = true := by
  by_cases hl : ex_hd ST M x % 256 < 20
  · obtain ⟨O, a, e1, ⟨cell, c1, c2, c3, c4, -⟩, e2, -⟩ := ex_rd hW hR hS hx hok (by omega)
    rw [e2] at hl
    obtain ⟨r, g1, -, g3, -⟩ := c4 (by omega)
    obtain ⟨⟨-, hf, kC, hkC, -⟩, -⟩ := hW.2.2.1 _ _ g1
    rw [← g3] at hf hkC
    exact ⟨a, cell, e1, c1, c3, r.1, kC, hf, hkC, h2.1 _ _ g1⟩
  · obtain ⟨hd, k1, k2⟩ := hk.resolve_left hl
    have hxd := ex_isD_iff.mp hd
    have hD : x - 8589934592 ∈ G := hok (by omega) hxd.2
    have e2 : ex_hd ST M x % 256 = ex_kd M (x - 8589934592) := by rw [ex_hdD (by omega)]; rfl
    rw [e2] at k1 k2
    have hcell := (hR.1 _ hD).2 k1
    generalize ex_kd M (x - 8589934592) = kd at k1 k2 hcell
    have hA := ((hW.2.2.2.1 kd k1 (by omega)).2 (by omega))
    have hf := ex_tyS kd k1 k2 hA
    obtain ⟨kC, hkC, -⟩ := Vm.findClass_spec hf
    exact ⟨_, _, ex_v_D (by omega) hxd.2, hcell, rfl, _, kC, hf, hkC, h2.2.1 _ k1 k2⟩
theorem z_aastore {ST : Nat → Nat} (hx : p.tables.exec = Jvm.exec) (hb : c.code = cc) (hW : ex_Wo E b ST H0 args s) (h2w : ex_W2 E b H0 args s) (hd : decode cc pc = .ok (.aastore, 1)) (k : ex_Z E b H0 G0 ad0 nL p l e R s m args below meth c mc ms rM nx (pc + 1)) : ex_Z E b H0 G0 ad0 nL p l e R s m args below meth c mc ms rM (ex_ast (fun k => (@Bool.rec (fun _ => Bool) (Nat.beq k 71) (true) (Nat.beq k 70))) (fun M k v => (@Bool.rec (fun _ => Bool) ((@Bool.rec (fun _ => Bool) (false) ((@Bool.rec (fun _ => Bool) (false) (Nat.beq (Nat.mod (ex_get M (Nat.sub v 8589934592)) 256) 64) (ex_isD v))) (Nat.beq k 71))) ((@Bool.rec (fun _ => Bool) ((@Bool.rec (fun _ => Bool) (false) ((@Bool.rec (fun _ => Bool) ((@Bool.rec (fun _ => Bool) (false) ((@Bool.rec (fun _ => Bool) (false) (Nat.ble (Nat.mod (ex_hd ST M v) 256) 71) (Nat.ble 64 (Nat.mod (ex_hd ST M v) 256)))) (ex_isD v))) (true) (Nat.ble (Nat.mod (ex_hd ST M v) 256) 19))) (ex_isR v))) (true) (Nat.beq v 4294967296))) (Nat.beq k 70))) nx) pc := by
  refine z_ast (fun k h => ?_) (fun M k v h => ?_) (fun {G ad M H locs cells slots ls rest Q a i n kk v f} q5 q7 hvk h2 h4 hcell hn hn2 kk2 => ?_) k
  · rw [ex_bB] at h
    by_cases e : Nat.beq k 70 = true
    · have := Nat.eq_of_beq_eq_true e; omega
    · rw [if_neg e] at h; have := Nat.eq_of_beq_eq_true h; omega
  · rcases ex_aaT h with ⟨-, rfl⟩ | ⟨hr, -⟩ | ⟨hr, -⟩
    · decide
    · have := ex_isR_iff.mp hr; omega
    · have := ex_isD_iff.mp hr; omega
  · have hcl : (nI i).toNatClampNeg = i := nI_clamp (by omega)
    have hin : ¬ (nI i < 0 ∨ (arrV (E.2.1 kk) n f).slots.size ≤ (nI i).toNatClampNeg) := fun z => by
      rw [arrV_size, hcl] at z
      rcases z with z | z
      · exact nI_pos (by omega) z
      · omega
    rcases ex_aaT h4 with ⟨rfl, rfl⟩ | ⟨hr, rfl, hk⟩ | ⟨hr, rfl, hk⟩
    · rw [ex_v_0]
      refine va_WaastN (C := "java/lang/Object") hx hb hcell ((hW.2.2.2.1 70 (by omega) (by omega)).1 _ _) (fun z => by cases z) hin rfl rfl hd (fun H' e1 e2 e3 => ?_)
      rw [hcl] at e1 ⊢
      exact kk2 H' (by rw [ex_v_0]; exact e1) e2 e3
    · obtain ⟨av, cv, v1, v2, v3, nm, kv, v4, v5, v6⟩ := ex_clsOf hW h2w q5 q7 hr hvk hk
      obtain ⟨c0, t0, f1, f2, f3⟩ := Cond.castable_spec v6
      cases v4.symm.trans f1
      obtain ⟨kA, comp, g1, g2, g3, -⟩ := ((hW.2.2.2.1 70 (by omega) (by omega)).2 (by omega))
      cases f2.symm.trans g3
      obtain ⟨kC, hkC, -⟩ := Vm.findClass_spec f2
      rw [v1]
      refine W.aast hx hb hcell (fun q z => by cases z) (fun z => by cases z) g1 g2 rfl hkC ⟨fun z => hin (Or.inl z), Nat.not_le.mp fun z => hin (Or.inr z)⟩ v2 (fun q z => by rw [z] at v3; cases v3) v5 f3 rfl rfl hd (fun H' e1 e2 e3 => ?_)
      rw [hcl] at e1 ⊢
      exact kk2 H' (by rw [v1]; exact e1) e2 e3
    · have hxd := ex_isD_iff.mp hr
      have hD : v - 8589934592 ∈ G := hvk (by omega) hxd.2
      have hkd : ex_kd M (v - 8589934592) = 64 := hk
      have hcv := (q5.1 _ hD).2 (by omega)
      rw [hkd] at hcv
      obtain ⟨comp, cA, kA, hcomp, hidx, hkA, hkindA, hnameA⟩ := arrayOverA_spec h2w.2.2.1
      have hf71 := ((hW.2.2.2.1 71 (by omega) (by omega)).2 (by omega))
      have hcA : cA = E.2.1 71 := Option.some.inj (hnameA.symm.trans hf71)
      subst hcA
      have hf64 : s.vm.findClass (FieldType.array .int).toString = some (E.2.1 64) := ((hW.2.2.2.1 64 (by omega) (by omega)).2 (by omega))
      cases hcomp.symm.trans hf64
      obtain ⟨kC, hkC, -⟩ := Vm.findClass_spec hcomp
      rw [ex_v_D (by omega) hxd.2]
      refine W.aast hx hb hcell (fun q z => by cases z) (fun z => by cases z) hkA hkindA rfl hkC ⟨fun z => hin (Or.inl z), Nat.not_le.mp fun z => hin (Or.inr z)⟩ hcv (fun q z => by cases z) hkC (va_asg _ _) rfl rfl hd (fun H' e1 e2 e3 => ?_)
      rw [hcl] at e1 ⊢
      exact kk2 H' (by rw [ex_v_D (by omega) hxd.2]; exact e1) e2 e3
/-- a static field that was read off at the start -/
theorem z_getstatic {own ref nf df : String} {index aux : Nat} (hx : p.tables.exec = Jvm.exec) (hb : c.code = cc) (h2w : ex_W2 E b H0 args s) (hH0 : H0.size = b) (hown : s.vm.findClass own = some m.cls) (hq : (ref, nf, df, aux) ∈ ex_sfl) (ha : aux < 8589934592 ∨ 17179869184 ≤ aux)
    (hlink : (Cond.fieldLink own index ref nf df).before args s = true) (hd : decode cc pc = .ok (.getstatic index, 3)) (k : ex_Z E b H0 G0 ad0 nL p l e R s m args below meth c mc ms rM nx (pc + 3)) : ex_Z E b H0 G0 ad0 nL p l e R s m args below meth c mc ms rM (ex_psh nx aux) pc := by
  intro L S M h
  obtain ⟨hm, hw⟩ := k _ _ M h
  refine ⟨hm, fun G ad ls st H locs cells slots q hc hs => ?_⟩
  obtain ⟨cf, kf, fi, f, a, cell, h1, h2, h3, h4, h5, h6, h7, h8⟩ := h2w.2.2.2.1 _ hq
  have hS := q.2.2.2.2.2.2.1
  have hst := q.2.2.1
  refine W.gets hx hb hown hlink h1 h2 h3 h4 (by rw [hS.2.1 a (Array.getElem?_eq_some_iff.mp h5).1 h8]; exact h5) (fun e => by rw [e] at h6; cases h6) h7 rfl hd ?_
  exact hw G ad ls _ H locs cells slots (q.stk (by rw [hst, List.map_cons]; exact congrArg (fun z => z :: List.map (ex_v E ad) S) (ex_v_nd (c := aux) (ad' := id) (ad := ad) ha)) (ex_okS (fun z1 z2 => by omega) q.2.2.2.1)) hc hs
theorem z_getstaticN {own ref nf df host : String} {index aux : Nat} (hx : p.tables.exec = Jvm.exec) (hb : c.code = cc) (h2w : ex_W2 E b H0 args s) (hH0 : H0.size = b) (hown : s.vm.findClass own = some m.cls) (hq : (ref, nf, df, aux) ∈ ex_sfl) (ha : aux < 8589934592 ∨ 17179869184 ≤ aux)
    (hlink : (Cond.fieldLinkNest own index ref nf df host).before args s = true) (hd : decode cc pc = .ok (.getstatic index, 3)) (k : ex_Z E b H0 G0 ad0 nL p l e R s m args below meth c mc ms rM nx (pc + 3)) : ex_Z E b H0 G0 ad0 nL p l e R s m args below meth c mc ms rM (ex_psh nx aux) pc := by
  intro L S M h
  obtain ⟨hm, hw⟩ := k _ _ M h
  refine ⟨hm, fun G ad ls st H locs cells slots q hc hs => ?_⟩
  obtain ⟨cf, kf, fi, f, a, cell, h1, h2, h3, h4, h5, h6, h7, h8⟩ := h2w.2.2.2.1 _ hq
  have hS := q.2.2.2.2.2.2.1
  have hst := q.2.2.1
  refine va_WgetsN hx hb hown hlink h1 h2 h3 h4 (by rw [hS.2.1 a (Array.getElem?_eq_some_iff.mp h5).1 h8]; exact h5) (fun e => by rw [e] at h6; cases h6) h7 rfl hd ?_
  exact hw G ad ls _ H locs cells slots (q.stk (by rw [hst, List.map_cons]; exact congrArg (fun z => z :: List.map (ex_v E ad) S) (ex_v_nd (c := aux) (ad' := id) (ad := ad) ha)) (ex_okS (fun z1 z2 => by omega) q.2.2.2.1)) hc hs
theorem z_ldcS {own tx : String} {index aux : Nat} (hx : p.tables.exec = Jvm.exec) (hb : c.code = cc) (h2w : ex_W2 E b H0 args s) (hown : s.vm.findClass own = some m.cls) (hq : (own, index, tx, aux) ∈ ex_srl) (ha : 17179869184 ≤ aux ∧ aux < 34359738368) (hd : decode cc pc = .ok (.ldc index, 2)) (k : ex_Z E b H0 G0 ad0 nL p l e R s m args below meth c mc ms rM nx (pc + 2)) : ex_Z E b H0 G0 ad0 nL p l e R s m args below meth c mc ms rM (ex_psh nx aux) pc := by
  intro L S M h
  obtain ⟨hm, hw⟩ := k _ _ M h
  refine ⟨hm, fun G ad ls st H locs cells slots q hc hs => ?_⟩
  obtain ⟨a, h1, h2⟩ := h2w.2.2.2.2 _ hq
  have hst := q.2.2.1
  have h2' := h2.2
  refine va_ldcS hx hb hown h2 hd ?_
  exact hw G ad ls _ H locs cells slots (q.stk (by rw [hst, List.map_cons, ex_v_S ha.1 ha.2, h1]) (ex_okS (fun z1 z2 => by omega) q.2.2.2.1)) hc hs
theorem z_ldc_wS {own tx : String} {index aux : Nat} (hx : p.tables.exec = Jvm.exec) (hb : c.code = cc) (h2w : ex_W2 E b H0 args s) (hown : s.vm.findClass own = some m.cls) (hq : (own, index, tx, aux) ∈ ex_srl) (ha : 17179869184 ≤ aux ∧ aux < 34359738368) (hd : decode cc pc = .ok (.ldc_w index, 3)) (k : ex_Z E b H0 G0 ad0 nL p l e R s m args below meth c mc ms rM nx (pc + 3)) : ex_Z E b H0 G0 ad0 nL p l e R s m args below meth c mc ms rM (ex_psh nx aux) pc := by
  intro L S M h
  obtain ⟨hm, hw⟩ := k _ _ M h
  refine ⟨hm, fun G ad ls st H locs cells slots q hc hs => ?_⟩
  obtain ⟨a, h1, h2⟩ := h2w.2.2.2.2 _ hq
  have hst := q.2.2.1
  intro T hT X
  obtain ⟨t, a1, b1⟩ := hw G ad ls (.ref a :: st) H locs cells slots (q.stk (by rw [hst, List.map_cons, ex_v_S ha.1 ha.2, h1]) (ex_okS (fun z1 z2 => by omega) q.2.2.2.1)) hc hs T hT X
  exact ⟨t, X.ldcStringW hx hown (text := tx) (a := a) h2.1 h2.2 (g := F0 m pc ls st) rfl (by rw [hb]; exact hd) t a1, b1⟩
end
