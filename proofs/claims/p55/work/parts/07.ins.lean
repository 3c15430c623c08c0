/-! instructions on locals, stack and numbers -/
section
variable {E : ex_G} {b : Nat} {H0 : Heap} {G0 : List Nat} {ad0 : Nat → Nat} {nL : Nat} {p : Program} {l : Launch} {e : Env} {R : Room} {s : State} {m : MethodId} {args : Array Value} {below : List Frame} {meth : Method} {c : Code} {mc ms : Nat} {rM : Nat × Nat} {cc : ByteArray} {pc : Nat} {nx : ex_K}
/-- sv: statics are references -/
def ex_svR (E : ex_G) : Prop := ∀ j, E.2.2.1 j = .null ∨ ∃ a, E.2.2.1 j = .ref a
theorem ex_svR.one {E : ex_G} (h : ex_svR E) : ex_sv1 E := fun j => by rcases h j with h | ⟨a, h⟩ <;> rw [h] <;> rfl
theorem ex_v_A {E : ex_G} (hE : ex_svR E) {ad : Nat → Nat} {v : Nat} (h : ex_tA v = true) : ex_v E ad v = .null ∨ ∃ a, ex_v E ad v = .ref a := by
  rcases ex_tA_iff.mp h with rfl | ⟨h1, h2⟩
  · exact Or.inl rfl
  · by_cases h3 : v < 17179869184
    · exact Or.inr ⟨_, ex_v_D h1 h3⟩
    · rw [ex_v_S (by omega) h2]; exact hE _
theorem ex_st1_inv {nx : ex_K} {L n v : Nat} {S : List Nat} {M : Nat} {r : Nat × Nat} (h : ex_st1 nx L n v S M = some r) : (n = 0 ∨ ex_c2 (ex_get L (n - 1)) = false) ∧ nx (ex_set L n v) S M = some r := by
  cases n with
  | zero => exact ⟨Or.inl rfl, h⟩
  | succ k =>
    obtain ⟨h1, h2⟩ := ex_br0 h
    exact ⟨Or.inr h1, h2⟩
theorem ex_pv {E : ex_G} (hE : ex_sv1 E) {ad : Nat → Nat} {L n : Nat} (h : n = 0 ∨ ex_c2 (ex_get L (n - 1)) = false) : n = 0 ∨ (ex_v E ad (ex_get L (n - 1))).category ≠ 2 := by
  rcases h with h | h
  · exact Or.inl h
  · right; rw [ex_cat1 hE h]; decide
theorem z_iload {n : Nat} (hx : p.tables.exec = Jvm.exec) (hb : c.code = cc) (hn : n < nL) (hd : decode cc pc = .ok (.iload n, 2)) (k : ex_Z E b H0 G0 ad0 nL p l e R s m args below meth c mc ms rM nx (pc + 2)) : ex_Z E b H0 G0 ad0 nL p l e R s m args below meth c mc ms rM (ex_ld ex_tI nx n) pc := by
  intro L S M h
  obtain ⟨h1, h2⟩ := ex_br1 h
  obtain ⟨hm, hw⟩ := k L _ M h2
  refine ⟨hm, fun G ad ls st H locs cells slots q hc hs => ?_⟩
  have hl := q.1.2.2 _ hn (by intro e; rw [e] at h1; exact absurd h1 (by decide))
  rw [ex_v_I h1] at hl
  refine lv_iload hx hb hd hl ?_
  exact hw G ad ls _ H locs cells slots (q.stk (by rw [List.map_cons, ex_v_I h1, q.2.2.1]) (ex_okS (q.2.1 _ hn) q.2.2.2.1)) hc hs
theorem z_iload_n {n : Fin 4} (hx : p.tables.exec = Jvm.exec) (hb : c.code = cc) (hn : n.val < nL) (hd : decode cc pc = .ok (.iload_n n, 1)) (k : ex_Z E b H0 G0 ad0 nL p l e R s m args below meth c mc ms rM nx (pc + 1)) : ex_Z E b H0 G0 ad0 nL p l e R s m args below meth c mc ms rM (ex_ld ex_tI nx n.val) pc := by
  intro L S M h
  obtain ⟨h1, h2⟩ := ex_br1 h
  obtain ⟨hm, hw⟩ := k L _ M h2
  refine ⟨hm, fun G ad ls st H locs cells slots q hc hs => ?_⟩
  have hl := q.1.2.2 _ hn (by intro e; rw [e] at h1; exact absurd h1 (by decide))
  rw [ex_v_I h1] at hl
  refine lv_iload_n hx hb hd rfl hl ?_
  exact hw G ad ls _ H locs cells slots (q.stk (by rw [List.map_cons, ex_v_I h1, q.2.2.1]) (ex_okS (q.2.1 _ hn) q.2.2.2.1)) hc hs
theorem z_lload {n : Nat} (hx : p.tables.exec = Jvm.exec) (hb : c.code = cc) (hn : n < nL) (hd : decode cc pc = .ok (.lload n, 2)) (k : ex_Z E b H0 G0 ad0 nL p l e R s m args below meth c mc ms rM nx (pc + 2)) : ex_Z E b H0 G0 ad0 nL p l e R s m args below meth c mc ms rM (ex_ld ex_tL nx n) pc := by
  intro L S M h
  obtain ⟨h1, h2⟩ := ex_br1 h
  obtain ⟨hm, hw⟩ := k L _ M h2
  refine ⟨hm, fun G ad ls st H locs cells slots q hc hs => ?_⟩
  have hl := q.1.2.2 _ hn (by intro e; rw [e] at h1; exact absurd h1 (by decide))
  rw [ex_v_L h1] at hl
  refine lv_lload hx hb hd hl ?_
  exact hw G ad ls _ H locs cells slots (q.stk (by rw [List.map_cons, ex_v_L h1, q.2.2.1]) (ex_okS (q.2.1 _ hn) q.2.2.2.1)) hc hs
theorem z_lload_n {n : Fin 4} (hx : p.tables.exec = Jvm.exec) (hb : c.code = cc) (hn : n.val < nL) (hd : decode cc pc = .ok (.lload_n n, 1)) (k : ex_Z E b H0 G0 ad0 nL p l e R s m args below meth c mc ms rM nx (pc + 1)) : ex_Z E b H0 G0 ad0 nL p l e R s m args below meth c mc ms rM (ex_ld ex_tL nx n.val) pc := by
  intro L S M h
  obtain ⟨h1, h2⟩ := ex_br1 h
  obtain ⟨hm, hw⟩ := k L _ M h2
  refine ⟨hm, fun G ad ls st H locs cells slots q hc hs => ?_⟩
  have hl := q.1.2.2 _ hn (by intro e; rw [e] at h1; exact absurd h1 (by decide))
  rw [ex_v_L h1] at hl
  refine lv_lload_n hx hb hd rfl hl ?_
  exact hw G ad ls _ H locs cells slots (q.stk (by rw [List.map_cons, ex_v_L h1, q.2.2.1]) (ex_okS (q.2.1 _ hn) q.2.2.2.1)) hc hs
theorem ex_v_Dd {E : ex_G} {ad : Nat → Nat} {v : Nat} (h : ex_tD v = true) : ex_v E ad v = .double (if v = 34359738369 then 0 else 4620693217682128896) := by
  rcases ex_tD_iff.mp h with rfl | rfl <;> rfl
theorem z_dload {n : Nat} (hx : p.tables.exec = Jvm.exec) (hb : c.code = cc) (hn : n < nL) (hd : decode cc pc = .ok (.dload n, 2)) (k : ex_Z E b H0 G0 ad0 nL p l e R s m args below meth c mc ms rM nx (pc + 2)) : ex_Z E b H0 G0 ad0 nL p l e R s m args below meth c mc ms rM (ex_ld ex_tD nx n) pc := by
  intro L S M h
  obtain ⟨h1, h2⟩ := ex_br1 h
  obtain ⟨hm, hw⟩ := k L _ M h2
  refine ⟨hm, fun G ad ls st H locs cells slots q hc hs => ?_⟩
  have hl := q.1.2.2 _ hn (by intro e; rw [e] at h1; exact absurd h1 (by decide))
  rw [ex_v_Dd h1] at hl
  refine lv_dload hx hb hd hl ?_
  exact hw G ad ls _ H locs cells slots (q.stk (by rw [List.map_cons, ex_v_Dd h1, q.2.2.1]) (ex_okS (q.2.1 _ hn) q.2.2.2.1)) hc hs
theorem z_dload_n {n : Fin 4} (hx : p.tables.exec = Jvm.exec) (hb : c.code = cc) (hn : n.val < nL) (hd : decode cc pc = .ok (.dload_n n, 1)) (k : ex_Z E b H0 G0 ad0 nL p l e R s m args below meth c mc ms rM nx (pc + 1)) : ex_Z E b H0 G0 ad0 nL p l e R s m args below meth c mc ms rM (ex_ld ex_tD nx n.val) pc := by
  intro L S M h
  obtain ⟨h1, h2⟩ := ex_br1 h
  obtain ⟨hm, hw⟩ := k L _ M h2
  refine ⟨hm, fun G ad ls st H locs cells slots q hc hs => ?_⟩
  have hl := q.1.2.2 _ hn (by intro e; rw [e] at h1; exact absurd h1 (by decide))
  rw [ex_v_Dd h1] at hl
  refine lv_dload_n hx hb hd rfl hl ?_
  exact hw G ad ls _ H locs cells slots (q.stk (by rw [List.map_cons, ex_v_Dd h1, q.2.2.1]) (ex_okS (q.2.1 _ hn) q.2.2.2.1)) hc hs
theorem z_aload {n : Nat} (hx : p.tables.exec = Jvm.exec) (hb : c.code = cc) (hE : ex_svR E) (hn : n < nL) (hd : decode cc pc = .ok (.aload n, 2)) (k : ex_Z E b H0 G0 ad0 nL p l e R s m args below meth c mc ms rM nx (pc + 2)) : ex_Z E b H0 G0 ad0 nL p l e R s m args below meth c mc ms rM (ex_ld ex_tA nx n) pc := by
  intro L S M h
  obtain ⟨h1, h2⟩ := ex_br1 h
  obtain ⟨hm, hw⟩ := k L _ M h2
  refine ⟨hm, fun G ad ls st H locs cells slots q hc hs => ?_⟩
  have hl := q.1.2.2 _ hn (by intro e; rw [e] at h1; exact absurd h1 (by decide))
  have hq := hw G ad ls _ H locs cells slots (q.stk (S' := ex_get L n :: S) rfl (ex_okS (q.2.1 _ hn) q.2.2.2.1)) hc hs
  rw [List.map_cons, ← q.2.2.1] at hq
  rcases ex_v_A hE (ad := ad) h1 with e1 | ⟨a, e1⟩
  · rw [e1] at hl hq
    exact lv_aloadN hx hb hd hl hq
  · rw [e1] at hl hq
    exact lv_aload hx hb hd hl hq
theorem z_aload_n {n : Fin 4} (hx : p.tables.exec = Jvm.exec) (hb : c.code = cc) (hE : ex_svR E) (hn : n.val < nL) (hd : decode cc pc = .ok (.aload_n n, 1)) (k : ex_Z E b H0 G0 ad0 nL p l e R s m args below meth c mc ms rM nx (pc + 1)) : ex_Z E b H0 G0 ad0 nL p l e R s m args below meth c mc ms rM (ex_ld ex_tA nx n.val) pc := by
  intro L S M h
  obtain ⟨h1, h2⟩ := ex_br1 h
  obtain ⟨hm, hw⟩ := k L _ M h2
  refine ⟨hm, fun G ad ls st H locs cells slots q hc hs => ?_⟩
  have hl := q.1.2.2 _ hn (by intro e; rw [e] at h1; exact absurd h1 (by decide))
  have hq := hw G ad ls _ H locs cells slots (q.stk (S' := ex_get L n.val :: S) rfl (ex_okS (q.2.1 _ hn) q.2.2.2.1)) hc hs
  rw [List.map_cons, ← q.2.2.1] at hq
  rcases ex_v_A hE (ad := ad) h1 with e1 | ⟨a, e1⟩
  · rw [e1] at hl hq
    exact lv_aload_nN hx hb hd rfl hl hq
  · rw [e1] at hl hq
    exact lv_aload_n hx hb hd rfl hl hq
theorem z_istore {n : Nat} (hx : p.tables.exec = Jvm.exec) (hb : c.code = cc) (hE : ex_svR E) (hn : n < nL) (hd : decode cc pc = .ok (.istore n, 2)) (k : ex_Z E b H0 G0 ad0 nL p l e R s m args below meth c mc ms rM nx (pc + 2)) : ex_Z E b H0 G0 ad0 nL p l e R s m args below meth c mc ms rM (ex_sti ex_tI nx n) pc := by
  intro L S M h
  obtain ⟨v, T, rfl, h⟩ := ex_ls1 h
  obtain ⟨h1, h2⟩ := ex_br1 h
  obtain ⟨hp, h3⟩ := ex_st1_inv h2
  obtain ⟨hm, hw⟩ := k _ _ M h3
  refine ⟨hm, fun G ad ls st H locs cells slots q hc hs => ?_⟩
  have hst := q.2.2.1
  subst hst
  have hok : ex_okc G v := ex_okc_lt (ex_I_lt h1).2
  have hT : ∀ x ∈ T, ex_okc G x := fun x hx => q.2.2.2.1 x (List.mem_cons_of_mem _ hx)
  rw [List.map_cons, ex_v_I h1]
  refine lv_istore hx hb hd q.1.has hn rfl (fun ls' hl' => ?_)
  exact hw G ad ls' _ H locs cells slots (q.loc (ex_LR.st1 (ex_I_lt h1).1 (ex_pv hE.one hp) (by rw [ex_v_I h1]; exact hl')) (ex_okL (ex_I_lt h1).1 hok q.2.1) rfl hT) hc hs
theorem z_istore_n {n : Fin 4} (hx : p.tables.exec = Jvm.exec) (hb : c.code = cc) (hE : ex_svR E) (hn : n.val < nL) (hd : decode cc pc = .ok (.istore_n n, 1)) (k : ex_Z E b H0 G0 ad0 nL p l e R s m args below meth c mc ms rM nx (pc + 1)) : ex_Z E b H0 G0 ad0 nL p l e R s m args below meth c mc ms rM (ex_sti ex_tI nx n.val) pc := by
  intro L S M h
  obtain ⟨v, T, rfl, h⟩ := ex_ls1 h
  obtain ⟨h1, h2⟩ := ex_br1 h
  obtain ⟨hp, h3⟩ := ex_st1_inv h2
  obtain ⟨hm, hw⟩ := k _ _ M h3
  refine ⟨hm, fun G ad ls st H locs cells slots q hc hs => ?_⟩
  have hst := q.2.2.1
  subst hst
  have hok : ex_okc G v := ex_okc_lt (ex_I_lt h1).2
  have hT : ∀ x ∈ T, ex_okc G x := fun x hx => q.2.2.2.1 x (List.mem_cons_of_mem _ hx)
  rw [List.map_cons, ex_v_I h1]
  refine lv_istore_n hx hb hd rfl q.1.has hn rfl (fun ls' hl' => ?_)
  exact hw G ad ls' _ H locs cells slots (q.loc (ex_LR.st1 (ex_I_lt h1).1 (ex_pv hE.one hp) (by rw [ex_v_I h1]; exact hl')) (ex_okL (ex_I_lt h1).1 hok q.2.1) rfl hT) hc hs
theorem z_lstore {n : Nat} (hx : p.tables.exec = Jvm.exec) (hb : c.code = cc) (hE : ex_svR E) (hn : n + 1 < nL) (hd : decode cc pc = .ok (.lstore n, 2)) (k : ex_Z E b H0 G0 ad0 nL p l e R s m args below meth c mc ms rM nx (pc + 2)) : ex_Z E b H0 G0 ad0 nL p l e R s m args below meth c mc ms rM (ex_stl ex_tL nx n) pc := by
  intro L S M h
  obtain ⟨v, T, rfl, h⟩ := ex_ls1 h
  obtain ⟨h1, h2⟩ := ex_br1 h
  obtain ⟨hp, h3⟩ := ex_st1_inv h2
  have h3 : nx (ex_set (ex_set L n v) (n + 1) 137438953472) T M = some rM := h3
  obtain ⟨hm, hw⟩ := k _ _ M h3
  refine ⟨hm, fun G ad ls st H locs cells slots q hc hs => ?_⟩
  have hst := q.2.2.1
  subst hst
  have hok : ex_okc G v := ex_okc_ge (ex_L_lt h1).2
  have hT : ∀ x ∈ T, ex_okc G x := fun x hx => q.2.2.2.1 x (List.mem_cons_of_mem _ hx)
  rw [List.map_cons, ex_v_L h1]
  refine lv_lstore hx hb hd q.1.has hn rfl (fun ls' hl' => ?_)
  exact hw G ad ls' _ H locs cells slots (q.loc (ex_LR.st2 (ex_L_lt h1).1 (ex_pv hE.one hp) (by rw [ex_v_L h1]; exact hl')) (ex_okL (by decide) (ex_okc_ge (by decide)) (ex_okL (ex_L_lt h1).1 hok q.2.1)) rfl hT) hc hs
theorem z_lstore_n {n : Fin 4} (hx : p.tables.exec = Jvm.exec) (hb : c.code = cc) (hE : ex_svR E) (hn : n.val + 1 < nL) (hd : decode cc pc = .ok (.lstore_n n, 1)) (k : ex_Z E b H0 G0 ad0 nL p l e R s m args below meth c mc ms rM nx (pc + 1)) : ex_Z E b H0 G0 ad0 nL p l e R s m args below meth c mc ms rM (ex_stl ex_tL nx n.val) pc := by
  intro L S M h
  obtain ⟨v, T, rfl, h⟩ := ex_ls1 h
  obtain ⟨h1, h2⟩ := ex_br1 h
  obtain ⟨hp, h3⟩ := ex_st1_inv h2
  have h3 : nx (ex_set (ex_set L n.val v) (n.val + 1) 137438953472) T M = some rM := h3
  obtain ⟨hm, hw⟩ := k _ _ M h3
  refine ⟨hm, fun G ad ls st H locs cells slots q hc hs => ?_⟩
  have hst := q.2.2.1
  subst hst
  have hok : ex_okc G v := ex_okc_ge (ex_L_lt h1).2
  have hT : ∀ x ∈ T, ex_okc G x := fun x hx => q.2.2.2.1 x (List.mem_cons_of_mem _ hx)
  rw [List.map_cons, ex_v_L h1]
  refine lv_lstore_n hx hb hd rfl q.1.has hn rfl (fun ls' hl' => ?_)
  exact hw G ad ls' _ H locs cells slots (q.loc (ex_LR.st2 (ex_L_lt h1).1 (ex_pv hE.one hp) (by rw [ex_v_L h1]; exact hl')) (ex_okL (by decide) (ex_okc_ge (by decide)) (ex_okL (ex_L_lt h1).1 hok q.2.1)) rfl hT) hc hs
theorem ex_D_lt {v : Nat} (h : ex_tD v = true) : v < 1099511627776 ∧ 17179869184 ≤ v := by have := ex_tD_iff.mp h; omega
theorem ex_v_Ff {E : ex_G} {ad : Nat → Nat} {v : Nat} (h : ex_tF v = true) : ex_v E ad v = .float 0 := by
  have : v = 34359738368 := Nat.eq_of_beq_eq_true h
  rw [this]; rfl
theorem ex_F_lt {v : Nat} (h : ex_tF v = true) : v < 1099511627776 ∧ 17179869184 ≤ v := by have : v = 34359738368 := Nat.eq_of_beq_eq_true h; omega
theorem z_dstore {n : Nat} (hx : p.tables.exec = Jvm.exec) (hb : c.code = cc) (hE : ex_svR E) (hn : n + 1 < nL) (hd : decode cc pc = .ok (.dstore n, 2)) (k : ex_Z E b H0 G0 ad0 nL p l e R s m args below meth c mc ms rM nx (pc + 2)) : ex_Z E b H0 G0 ad0 nL p l e R s m args below meth c mc ms rM (ex_stl ex_tD nx n) pc := by
  intro L S M h
  obtain ⟨v, T, rfl, h⟩ := ex_ls1 h
  obtain ⟨h1, h2⟩ := ex_br1 h
  obtain ⟨hp, h3⟩ := ex_st1_inv h2
  have h3 : nx (ex_set (ex_set L n v) (n + 1) 137438953472) T M = some rM := h3
  obtain ⟨hm, hw⟩ := k _ _ M h3
  refine ⟨hm, fun G ad ls st H locs cells slots q hc hs => ?_⟩
  have hst := q.2.2.1
  subst hst
  have hok : ex_okc G v := ex_okc_ge (ex_D_lt h1).2
  have hT : ∀ x ∈ T, ex_okc G x := fun x hx => q.2.2.2.1 x (List.mem_cons_of_mem _ hx)
  rw [List.map_cons, ex_v_Dd h1]
  refine lv_dstore hx hb hd q.1.has hn rfl (fun ls' hl' => ?_)
  exact hw G ad ls' _ H locs cells slots (q.loc (ex_LR.st2 (ex_D_lt h1).1 (ex_pv hE.one hp) (by rw [ex_v_Dd h1]; exact hl')) (ex_okL (by decide) (ex_okc_ge (by decide)) (ex_okL (ex_D_lt h1).1 hok q.2.1)) rfl hT) hc hs
theorem z_dstore_n {n : Fin 4} (hx : p.tables.exec = Jvm.exec) (hb : c.code = cc) (hE : ex_svR E) (hn : n.val + 1 < nL) (hd : decode cc pc = .ok (.dstore_n n, 1)) (k : ex_Z E b H0 G0 ad0 nL p l e R s m args below meth c mc ms rM nx (pc + 1)) : ex_Z E b H0 G0 ad0 nL p l e R s m args below meth c mc ms rM (ex_stl ex_tD nx n.val) pc := by
  intro L S M h
  obtain ⟨v, T, rfl, h⟩ := ex_ls1 h
  obtain ⟨h1, h2⟩ := ex_br1 h
  obtain ⟨hp, h3⟩ := ex_st1_inv h2
  have h3 : nx (ex_set (ex_set L n.val v) (n.val + 1) 137438953472) T M = some rM := h3
  obtain ⟨hm, hw⟩ := k _ _ M h3
  refine ⟨hm, fun G ad ls st H locs cells slots q hc hs => ?_⟩
  have hst := q.2.2.1
  subst hst
  have hok : ex_okc G v := ex_okc_ge (ex_D_lt h1).2
  have hT : ∀ x ∈ T, ex_okc G x := fun x hx => q.2.2.2.1 x (List.mem_cons_of_mem _ hx)
  rw [List.map_cons, ex_v_Dd h1]
  refine lv_dstore_n hx hb hd rfl q.1.has hn rfl (fun ls' hl' => ?_)
  exact hw G ad ls' _ H locs cells slots (q.loc (ex_LR.st2 (ex_D_lt h1).1 (ex_pv hE.one hp) (by rw [ex_v_Dd h1]; exact hl')) (ex_okL (by decide) (ex_okc_ge (by decide)) (ex_okL (ex_D_lt h1).1 hok q.2.1)) rfl hT) hc hs
theorem z_fstore {n : Nat} (hx : p.tables.exec = Jvm.exec) (hb : c.code = cc) (hE : ex_svR E) (hn : n < nL) (hd : decode cc pc = .ok (.fstore n, 2)) (k : ex_Z E b H0 G0 ad0 nL p l e R s m args below meth c mc ms rM nx (pc + 2)) : ex_Z E b H0 G0 ad0 nL p l e R s m args below meth c mc ms rM (ex_sti ex_tF nx n) pc := by
  intro L S M h
  obtain ⟨v, T, rfl, h⟩ := ex_ls1 h
  obtain ⟨h1, h2⟩ := ex_br1 h
  obtain ⟨hp, h3⟩ := ex_st1_inv h2
  obtain ⟨hm, hw⟩ := k _ _ M h3
  refine ⟨hm, fun G ad ls st H locs cells slots q hc hs => ?_⟩
  have hst := q.2.2.1
  subst hst
  have hok : ex_okc G v := ex_okc_ge (ex_F_lt h1).2
  have hT : ∀ x ∈ T, ex_okc G x := fun x hx => q.2.2.2.1 x (List.mem_cons_of_mem _ hx)
  rw [List.map_cons, ex_v_Ff h1]
  refine lv_fstore hx hb hd q.1.has hn rfl (fun ls' hl' => ?_)
  exact hw G ad ls' _ H locs cells slots (q.loc (ex_LR.st1 (ex_F_lt h1).1 (ex_pv hE.one hp) (by rw [ex_v_Ff h1]; exact hl')) (ex_okL (ex_F_lt h1).1 hok q.2.1) rfl hT) hc hs
theorem z_fstore_n {n : Fin 4} (hx : p.tables.exec = Jvm.exec) (hb : c.code = cc) (hE : ex_svR E) (hn : n.val < nL) (hd : decode cc pc = .ok (.fstore_n n, 1)) (k : ex_Z E b H0 G0 ad0 nL p l e R s m args below meth c mc ms rM nx (pc + 1)) : ex_Z E b H0 G0 ad0 nL p l e R s m args below meth c mc ms rM (ex_sti ex_tF nx n.val) pc := by
  intro L S M h
  obtain ⟨v, T, rfl, h⟩ := ex_ls1 h
  obtain ⟨h1, h2⟩ := ex_br1 h
  obtain ⟨hp, h3⟩ := ex_st1_inv h2
  obtain ⟨hm, hw⟩ := k _ _ M h3
  refine ⟨hm, fun G ad ls st H locs cells slots q hc hs => ?_⟩
  have hst := q.2.2.1
  subst hst
  have hok : ex_okc G v := ex_okc_ge (ex_F_lt h1).2
  have hT : ∀ x ∈ T, ex_okc G x := fun x hx => q.2.2.2.1 x (List.mem_cons_of_mem _ hx)
  rw [List.map_cons, ex_v_Ff h1]
  refine lv_fstore_n hx hb hd rfl q.1.has hn rfl (fun ls' hl' => ?_)
  exact hw G ad ls' _ H locs cells slots (q.loc (ex_LR.st1 (ex_F_lt h1).1 (ex_pv hE.one hp) (by rw [ex_v_Ff h1]; exact hl')) (ex_okL (ex_F_lt h1).1 hok q.2.1) rfl hT) hc hs
theorem z_astore {n : Nat} (hx : p.tables.exec = Jvm.exec) (hb : c.code = cc) (hE : ex_svR E) (hn : n < nL) (hd : decode cc pc = .ok (.astore n, 2)) (k : ex_Z E b H0 G0 ad0 nL p l e R s m args below meth c mc ms rM nx (pc + 2)) : ex_Z E b H0 G0 ad0 nL p l e R s m args below meth c mc ms rM (ex_sti ex_tA nx n) pc := by
  intro L S M h
  obtain ⟨v, T, rfl, h⟩ := ex_ls1 h
  obtain ⟨h1, h2⟩ := ex_br1 h
  obtain ⟨hp, h3⟩ := ex_st1_inv h2
  obtain ⟨hm, hw⟩ := k _ _ M h3
  refine ⟨hm, fun G ad ls st H locs cells slots q hc hs => ?_⟩
  have hst := q.2.2.1
  subst hst
  have hok : ex_okc G v := q.2.2.2.1 v List.mem_cons_self
  have hT : ∀ x ∈ T, ex_okc G x := fun x hx => q.2.2.2.1 x (List.mem_cons_of_mem _ hx)
  have fin : ∀ ls', lv_has ls' nL ((n, ex_v E ad v) :: (ex_lvl E ad nL L).filter (fun q => !(q.1 == n) && !(q.1 + 1 == n && q.2.category == 2))) → W p l e R s m args below meth c H locs cells slots (vx_MQ below (ex_Qc E b G0 ad0 rM) (ex_XC E b G0 ad0 rM) args s mc ms (fun q => b ≤ q)) (F0 m (pc + 2) ls' (T.map (ex_v E ad))) := fun ls' hl' =>
    hw G ad ls' _ H locs cells slots (q.loc (ex_LR.st1 (ex_A_lt h1) (ex_pv hE.one hp) hl') (ex_okL (ex_A_lt h1) hok q.2.1) rfl hT) hc hs
  rw [List.map_cons]
  rcases ex_v_A hE (ad := ad) h1 with e1 | ⟨a, e1⟩
  · rw [e1] at fin ⊢
    exact lv_astoreN hx hb hd q.1.has hn rfl fin
  · rw [e1] at fin ⊢
    exact lv_astore hx hb hd q.1.has hn rfl fin
theorem z_astore_n {n : Fin 4} (hx : p.tables.exec = Jvm.exec) (hb : c.code = cc) (hE : ex_svR E) (hn : n.val < nL) (hd : decode cc pc = .ok (.astore_n n, 1)) (k : ex_Z E b H0 G0 ad0 nL p l e R s m args below meth c mc ms rM nx (pc + 1)) : ex_Z E b H0 G0 ad0 nL p l e R s m args below meth c mc ms rM (ex_sti ex_tA nx n.val) pc := by
  intro L S M h
  obtain ⟨v, T, rfl, h⟩ := ex_ls1 h
  obtain ⟨h1, h2⟩ := ex_br1 h
  obtain ⟨hp, h3⟩ := ex_st1_inv h2
  obtain ⟨hm, hw⟩ := k _ _ M h3
  refine ⟨hm, fun G ad ls st H locs cells slots q hc hs => ?_⟩
  have hst := q.2.2.1
  subst hst
  have hok : ex_okc G v := q.2.2.2.1 v List.mem_cons_self
  have hT : ∀ x ∈ T, ex_okc G x := fun x hx => q.2.2.2.1 x (List.mem_cons_of_mem _ hx)
  have fin : ∀ ls', lv_has ls' nL ((n.val, ex_v E ad v) :: (ex_lvl E ad nL L).filter (fun q => !(q.1 == n.val) && !(q.1 + 1 == n.val && q.2.category == 2))) → W p l e R s m args below meth c H locs cells slots (vx_MQ below (ex_Qc E b G0 ad0 rM) (ex_XC E b G0 ad0 rM) args s mc ms (fun q => b ≤ q)) (F0 m (pc + 1) ls' (T.map (ex_v E ad))) := fun ls' hl' =>
    hw G ad ls' _ H locs cells slots (q.loc (ex_LR.st1 (ex_A_lt h1) (ex_pv hE.one hp) hl') (ex_okL (ex_A_lt h1) hok q.2.1) rfl hT) hc hs
  rw [List.map_cons]
  rcases ex_v_A hE (ad := ad) h1 with e1 | ⟨a, e1⟩
  · rw [e1] at fin ⊢
    exact lv_astore_nN hx hb hd rfl q.1.has hn rfl fin
  · rw [e1] at fin ⊢
    exact lv_astore_n hx hb hd rfl q.1.has hn rfl fin
theorem z_iconst {n : Int} {aux : Nat} (hx : p.tables.exec = Jvm.exec) (hb : c.code = cc) (ha : aux < 4294967296) (hv : Int32.ofInt n = nI aux) (hd : decode cc pc = .ok (.iconst n, 1)) (k : ex_Z E b H0 G0 ad0 nL p l e R s m args below meth c mc ms rM nx (pc + 1)) : ex_Z E b H0 G0 ad0 nL p l e R s m args below meth c mc ms rM (ex_psh nx aux) pc := by
  intro L S M h
  obtain ⟨hm, hw⟩ := k L _ M h
  refine ⟨hm, fun G ad ls st H locs cells slots q hc hs => ?_⟩
  have hq := hw G ad ls _ H locs cells slots (q.stk (S' := aux :: S) rfl (ex_okS (ex_okc_lt (by omega)) q.2.2.2.1)) hc hs
  rw [List.map_cons, ← q.2.2.1] at hq
  rw [ex_v_n ha] at hq
  exact lv_iconst hx hb hd hv hq
theorem z_bipush {n : Int} {aux : Nat} (hx : p.tables.exec = Jvm.exec) (hb : c.code = cc) (ha : aux < 4294967296) (hv : (Int8.ofInt n).toInt32 = nI aux) (hd : decode cc pc = .ok (.bipush n, 2)) (k : ex_Z E b H0 G0 ad0 nL p l e R s m args below meth c mc ms rM nx (pc + 2)) : ex_Z E b H0 G0 ad0 nL p l e R s m args below meth c mc ms rM (ex_psh nx aux) pc := by
  intro L S M h
  obtain ⟨hm, hw⟩ := k L _ M h
  refine ⟨hm, fun G ad ls st H locs cells slots q hc hs => ?_⟩
  have hq := hw G ad ls _ H locs cells slots (q.stk (S' := aux :: S) rfl (ex_okS (ex_okc_lt (by omega)) q.2.2.2.1)) hc hs
  rw [List.map_cons, ← q.2.2.1] at hq
  rw [ex_v_n ha] at hq
  exact lv_bipush hx hb hd hv hq
theorem z_sipush {n : Int} {aux : Nat} (hx : p.tables.exec = Jvm.exec) (hb : c.code = cc) (ha : aux < 4294967296) (hv : (Int16.ofInt n).toInt32 = nI aux) (hd : decode cc pc = .ok (.sipush n, 3)) (k : ex_Z E b H0 G0 ad0 nL p l e R s m args below meth c mc ms rM nx (pc + 3)) : ex_Z E b H0 G0 ad0 nL p l e R s m args below meth c mc ms rM (ex_psh nx aux) pc := by
  intro L S M h
  obtain ⟨hm, hw⟩ := k L _ M h
  refine ⟨hm, fun G ad ls st H locs cells slots q hc hs => ?_⟩
  have hq := hw G ad ls _ H locs cells slots (q.stk (S' := aux :: S) rfl (ex_okS (ex_okc_lt (by omega)) q.2.2.2.1)) hc hs
  rw [List.map_cons, ← q.2.2.1] at hq
  rw [ex_v_n ha] at hq
  exact lv_sipush hx hb hd hv hq
theorem z_lconst {n : Fin 2} {aux : Nat} (hx : p.tables.exec = Jvm.exec) (hb : c.code = cc) (ha : ex_isL aux = true) (hv : Int64.ofNat (n : Nat) = ex_lv E aux) (hd : decode cc pc = .ok (.lconst n, 1)) (k : ex_Z E b H0 G0 ad0 nL p l e R s m args below meth c mc ms rM nx (pc + 1)) : ex_Z E b H0 G0 ad0 nL p l e R s m args below meth c mc ms rM (ex_psh nx aux) pc := by
  intro L S M h
  obtain ⟨hm, hw⟩ := k L _ M h
  refine ⟨hm, fun G ad ls st H locs cells slots q hc hs => ?_⟩
  have hq := hw G ad ls _ H locs cells slots (q.stk (S' := aux :: S) rfl (ex_okS (ex_okc_ge (by have := ex_isL_iff.mp ha; omega)) q.2.2.2.1)) hc hs
  rw [List.map_cons, ← q.2.2.1] at hq
  rw [ex_v_L (ex_tL_iff.mpr (Or.inl (ex_isL_iff.mp ha)))] at hq
  exact lv_lconst hx hb hd hv hq
theorem z_fconst  (hx : p.tables.exec = Jvm.exec) (hb : c.code = cc) (hd : decode cc pc = .ok (.fconst 0, 1)) (k : ex_Z E b H0 G0 ad0 nL p l e R s m args below meth c mc ms rM nx (pc + 1)) : ex_Z E b H0 G0 ad0 nL p l e R s m args below meth c mc ms rM (ex_psh nx 34359738368) pc := by
  intro L S M h
  obtain ⟨hm, hw⟩ := k L _ M h
  refine ⟨hm, fun G ad ls st H locs cells slots q hc hs => ?_⟩
  have hq := hw G ad ls _ H locs cells slots (q.stk (S' := 34359738368 :: S) rfl (ex_okS (ex_okc_ge (by decide)) q.2.2.2.1)) hc hs
  rw [List.map_cons, ← q.2.2.1] at hq
  exact lv_fconst0 hx hb hd (by rw [show FP.fconst0 = 0 by decide +kernel]; exact hq)
theorem z_aconst_null  (hx : p.tables.exec = Jvm.exec) (hb : c.code = cc) (hd : decode cc pc = .ok (.aconst_null, 1)) (k : ex_Z E b H0 G0 ad0 nL p l e R s m args below meth c mc ms rM nx (pc + 1)) : ex_Z E b H0 G0 ad0 nL p l e R s m args below meth c mc ms rM (ex_psh nx 4294967296) pc := by
  intro L S M h
  obtain ⟨hm, hw⟩ := k L _ M h
  refine ⟨hm, fun G ad ls st H locs cells slots q hc hs => ?_⟩
  have hq := hw G ad ls _ H locs cells slots (q.stk (S' := 4294967296 :: S) rfl (ex_okS (ex_okc_lt (by decide)) q.2.2.2.1)) hc hs
  rw [List.map_cons, ← q.2.2.1] at hq
  exact lv_null hx hb hd hq
theorem z_ldcI {own : String} {index aux : Nat} (hx : p.tables.exec = Jvm.exec) (hb : c.code = cc) (hown : s.vm.findClass own = some m.cls) (ha : aux < 4294967296) (hcn : (Jvm.Cond.constant own index (nI aux)).before args s = true) (hd : decode cc pc = .ok (.ldc index, 2)) (k : ex_Z E b H0 G0 ad0 nL p l e R s m args below meth c mc ms rM nx (pc + 2)) : ex_Z E b H0 G0 ad0 nL p l e R s m args below meth c mc ms rM (ex_psh nx aux) pc := by
  intro L S M h
  obtain ⟨hm, hw⟩ := k L _ M h
  refine ⟨hm, fun G ad ls st H locs cells slots q hc hs => ?_⟩
  have hq := hw G ad ls _ H locs cells slots (q.stk (S' := aux :: S) rfl (ex_okS (ex_okc_lt (by omega)) q.2.2.2.1)) hc hs
  rw [List.map_cons, ← q.2.2.1] at hq
  rw [ex_v_n ha] at hq
  exact lv_ldc hx hb hown hcn hd hq
theorem z_ldc_wI {own : String} {index aux : Nat} (hx : p.tables.exec = Jvm.exec) (hb : c.code = cc) (hown : s.vm.findClass own = some m.cls) (ha : aux < 4294967296) (hcn : (Jvm.Cond.constant own index (nI aux)).before args s = true) (hd : decode cc pc = .ok (.ldc_w index, 3)) (k : ex_Z E b H0 G0 ad0 nL p l e R s m args below meth c mc ms rM nx (pc + 3)) : ex_Z E b H0 G0 ad0 nL p l e R s m args below meth c mc ms rM (ex_psh nx aux) pc := by
  intro L S M h
  obtain ⟨hm, hw⟩ := k L _ M h
  refine ⟨hm, fun G ad ls st H locs cells slots q hc hs => ?_⟩
  have hq := hw G ad ls _ H locs cells slots (q.stk (S' := aux :: S) rfl (ex_okS (ex_okc_lt (by omega)) q.2.2.2.1)) hc hs
  rw [List.map_cons, ← q.2.2.1] at hq
  rw [ex_v_n ha] at hq
  exact lv_ldcw hx hb hown hcn hd hq
theorem z_ldc2_wL {own : String} {index aux : Nat} (hx : p.tables.exec = Jvm.exec) (hb : c.code = cc) (hown : s.vm.findClass own = some m.cls) (ha : ex_isL aux = true) (hcn : (Jvm.Cond.constantLong own index (ex_lv E aux)).before args s = true) (hd : decode cc pc = .ok (.ldc2_w index, 3)) (k : ex_Z E b H0 G0 ad0 nL p l e R s m args below meth c mc ms rM nx (pc + 3)) : ex_Z E b H0 G0 ad0 nL p l e R s m args below meth c mc ms rM (ex_psh nx aux) pc := by
  intro L S M h
  obtain ⟨hm, hw⟩ := k L _ M h
  refine ⟨hm, fun G ad ls st H locs cells slots q hc hs => ?_⟩
  have hq := hw G ad ls _ H locs cells slots (q.stk (S' := aux :: S) rfl (ex_okS (ex_okc_ge (by have := ex_isL_iff.mp ha; omega)) q.2.2.2.1)) hc hs
  rw [List.map_cons, ← q.2.2.1] at hq
  rw [ex_v_L (ex_tL_iff.mpr (Or.inl (ex_isL_iff.mp ha)))] at hq
  exact lv_ldc2 hx hb hown hcn hd hq
theorem z_ldc2_wD {own : String} {index : Nat} (hx : p.tables.exec = Jvm.exec) (hb : c.code = cc) (hown : s.vm.findClass own = some m.cls) (hcn : (Jvm.Cond.constantDouble own index 4620693217682128896).before args s = true) (hd : decode cc pc = .ok (.ldc2_w index, 3)) (k : ex_Z E b H0 G0 ad0 nL p l e R s m args below meth c mc ms rM nx (pc + 3)) : ex_Z E b H0 G0 ad0 nL p l e R s m args below meth c mc ms rM (ex_psh nx 34359738370) pc := by
  intro L S M h
  obtain ⟨hm, hw⟩ := k L _ M h
  refine ⟨hm, fun G ad ls st H locs cells slots q hc hs => ?_⟩
  have hq := hw G ad ls _ H locs cells slots (q.stk (S' := 34359738370 :: S) rfl (ex_okS (ex_okc_ge (by decide)) q.2.2.2.1)) hc hs
  rw [List.map_cons, ← q.2.2.1] at hq
  exact lv_ldc2d hx hb hown hcn hd hq
theorem z_iinc {n aux : Nat} {z : Int} (hx : p.tables.exec = Jvm.exec) (hb : c.code = cc) (hE : ex_svR E) (hn : n < nL) (ha : Int32.ofInt z = nI aux) (hd : decode cc pc = .ok (.iinc n z, 3)) (k : ex_Z E b H0 G0 ad0 nL p l e R s m args below meth c mc ms rM nx (pc + 3)) :
    ex_Z E b H0 G0 ad0 nL p l e R s m args below meth c mc ms rM (fun L S M => (@Bool.rec (fun _ => ex_R) (none) (ex_st1 nx L n (Nat.mod (Nat.add (ex_get L n) aux) 4294967296) S M) (Nat.ble (ex_get L n) 4294967295))) pc := by
  intro L S M h
  obtain ⟨h1, h2⟩ := ex_br1 h
  have h1 := Nat.le_of_ble_eq_true h1
  obtain ⟨hp, h3⟩ := ex_st1_inv h2
  obtain ⟨hm, hw⟩ := k _ _ M h3
  refine ⟨hm, fun G ad ls st H locs cells slots q hc hs => ?_⟩
  have hlt : Nat.mod (Nat.add (ex_get L n) aux) 4294967296 < 4294967296 := Nat.mod_lt _ (by decide)
  have hlm := ex_lvl_mem (E := E) (ad := ad) hn (show ex_get L n ≠ 137438953472 by omega)
  rw [ex_v_n (by omega)] at hlm
  obtain ⟨kk, hkk⟩ := List.getElem?_of_mem hlm
  refine lv_iinc (v := nI (Nat.mod (Nat.add (ex_get L n) aux) 4294967296)) hx hb hd q.1.has hkk (by rw [ha, ex_add]) hn rfl (fun ls' hl' => ?_)
  exact hw G ad ls' _ H locs cells slots (q.loc (ex_LR.st1 (by omega) (ex_pv hE.one hp) (by rw [ex_v_n hlt]; exact hl')) (ex_okL (by omega) (ex_okc_lt (by omega)) q.2.1) q.2.2.1 q.2.2.2.1) hc hs
/-- an int operation of two, by its row -/
theorem z_bin {V : ex_V} {op : Nat} {g : Nat → Nat → Nat} {f : Int32 → Int32 → Int32} (hV : ex_VOK E V) (P : Int32 → Prop)
    (row : ∀ {x y : Int32} {H : Heap} {locs : List Loc} {cells slots : Nat} {ls : Array Slot} {rest : List Value} {Q : State → Prop}, P y → W p l e R s m args below meth c H locs cells slots Q (F0 m (pc + 1) ls (.int (f x y) :: rest)) → W p l e R s m args below meth c H locs cells slots Q (F0 m pc ls (.int y :: .int x :: rest)))
    (hg : ∀ a b : Nat, a < 4294967296 → b < 4294967296 → P (nI b) → nI (g a b) = f (nI a) (nI b) ∧ g a b < 4294967296)
    (ht : ∀ a b r, ex_told E op a b r → P (ex_iv E b) ∧ ex_iv E r = f (ex_iv E a) (ex_iv E b)) (k : ex_Z E b H0 G0 ad0 nL p l e R s m args below meth c mc ms rM nx (pc + 1))
    {L : Nat} {S : List Nat} {M : Nat} (hPn : ∀ (z : Nat) (T : List Nat), S = z :: T → z < 4294967296 → P (nI z)) (hI : ∀ z ∈ S.take 2, ex_tI z = true) (h : ex_bin V op g nx L S M = some rM) :
    ex_A E b H0 G0 ad0 nL p l e R s m args below meth c mc ms rM L S M pc := by
  obtain ⟨y, T1, rfl, h⟩ := ex_ls1 h
  obtain ⟨x, T, rfl, h⟩ := ex_ls1 h
  have hy : ex_tI y = true := hI y (by simp)
  have hx' : ex_tI x = true := hI x (by simp)
  have told : ∀ r, ex_told E op x y r → ex_tI r = true → nx L (r :: T) M = some rM → ex_A E b H0 G0 ad0 nL p l e R s m args below meth c mc ms rM L (y :: x :: T) M pc := by
    intro r hr hri hk
    obtain ⟨hm, hw⟩ := k _ _ M hk
    refine ⟨hm, fun G ad ls st H locs cells slots q hc hs => ?_⟩
    have hst := q.2.2.1
    subst hst
    have hT : ∀ z ∈ T, ex_okc G z := fun z hz => q.2.2.2.1 z (List.mem_cons_of_mem _ (List.mem_cons_of_mem _ hz))
    rw [List.map_cons, List.map_cons, ex_v_I hx', ex_v_I hy]
    obtain ⟨t1, t2⟩ := ht _ _ _ hr
    refine row t1 ?_
    rw [← t2]
    exact hw G ad ls _ H locs cells slots (q.stk (by rw [List.map_cons, ex_v_I hri]) (ex_okS (ex_okc_lt (ex_I_lt hri).2) hT)) hc hs
  have tl : ex_tld V (ex_key op x y) nx L T M = some rM → ex_A E b H0 G0 ad0 nL p l e R s m args below meth c mc ms rM L (y :: x :: T) M pc := fun h => by
    obtain ⟨r, hr, h2⟩ := ex_op1 h
    obtain ⟨h3, h4⟩ := ex_br1 h2
    exact told r (hV.2 _ _ _ _ (ex_I_lt hx').1 (ex_I_lt hy).1 hr) h3 h4
  rcases ex_br2 h with ⟨h1, h⟩ | ⟨h1, h⟩
  · rcases ex_br2 h with ⟨h2, h⟩ | ⟨h2, h⟩
    · have h1 := Nat.le_of_ble_eq_true h1
      have h2 := Nat.le_of_ble_eq_true h2
      have hP := hPn y _ rfl (by omega)
      obtain ⟨g1, g2⟩ := hg x y (by omega) (by omega) hP
      obtain ⟨hm, hw⟩ := k _ _ M h
      refine ⟨hm, fun G ad ls st H locs cells slots q hc hs => ?_⟩
      have hst := q.2.2.1
      subst hst
      have hT : ∀ z ∈ T, ex_okc G z := fun z hz => q.2.2.2.1 z (List.mem_cons_of_mem _ (List.mem_cons_of_mem _ hz))
      rw [List.map_cons, List.map_cons, ex_v_n (show x < 4294967296 by omega), ex_v_n (show y < 4294967296 by omega)]
      refine row hP ?_
      rw [← g1]
      exact hw G ad ls _ H locs cells slots (q.stk (by rw [List.map_cons, ex_v_n g2]) (ex_okS (ex_okc_lt (by omega)) hT)) hc hs
    · exact tl h
  · exact tl h
end
