/-! checked operations; fields of a nest's members; words by their places -/
theorem ex_tI_n {a : Nat} (h : Nat.ble a 4294967295 = true) : ex_tI a = true := ex_tI_iff.mpr (Or.inl (by have := Nat.le_of_ble_eq_true h; omega))
theorem ex_bin2_inv {V : ex_V} {op : Nat} {g : Nat → Nat → Nat} {nx : ex_K} {L : Nat} {S : List Nat} {M : Nat} {r : Nat × Nat} (h : ex_bin2 V op g nx L S M = some r) : (∀ z ∈ S.take 2, ex_tI z = true) ∧ ex_bin V op g nx L S M = some r := by
  unfold ex_bin2 at h
  obtain ⟨y, T1, e1, h1⟩ := ex_ls1 h
  subst e1
  obtain ⟨x, T, e2, h2⟩ := ex_ls1 h1
  subst e2
  have two : ex_tI x = true → ex_tI y = true → ∀ z ∈ (y :: x :: T).take 2, ex_tI z = true := fun h1 h2 z hz => by
    rcases List.mem_cons.mp hz with e | hz
    · subst e; exact h2
    · rcases List.mem_cons.mp hz with e | hz
      · subst e; exact h1
      · exact nomatch hz
  have show1 : ex_bin V op g nx L (y :: x :: T) M = @Bool.rec (fun _ => ex_R) (ex_tld V (ex_key op x y) nx L T M) (@Bool.rec (fun _ => ex_R) (ex_tld V (ex_key op x y) nx L T M) (nx L (g x y :: T) M) (Nat.ble y 4294967295)) (Nat.ble x 4294967295) := rfl
  rw [show1]
  clear h h1 show1
  cases hx : Nat.ble x 4294967295 with
  | true =>
    rw [hx] at h2
    cases hy : Nat.ble y 4294967295 with
    | true => rw [hy] at h2; exact ⟨two (ex_tI_n hx) (ex_tI_n hy), h2⟩
    | false =>
      rw [hy] at h2
      obtain ⟨h3, h4⟩ := ex_br1 h2
      exact ⟨two (ex_tI_n hx) h3, h4⟩
  | false =>
    rw [hx] at h2
    obtain ⟨h3, h4⟩ := ex_br1 h2
    obtain ⟨h5, h6⟩ := ex_br1 h4
    exact ⟨two h3 h5, h6⟩
theorem ex_un2_inv {V : ex_V} {op : Nat} {g : Nat → Nat} {nx : ex_K} {L : Nat} {S : List Nat} {M : Nat} {r : Nat × Nat} (h : ex_un2 V op g nx L S M = some r) : (∀ z ∈ S.take 1, ex_tI z = true) ∧ ex_un V op g nx L S M = some r := by
  unfold ex_un2 at h
  obtain ⟨x, T, e1, h2⟩ := ex_ls1 h
  subst e1
  have one : ex_tI x = true → ∀ z ∈ (x :: T).take 1, ex_tI z = true := fun h1 z hz => by
    rcases List.mem_cons.mp hz with e | hz
    · subst e; exact h1
    · exact nomatch hz
  have show1 : ex_un V op g nx L (x :: T) M = @Bool.rec (fun _ => ex_R) (ex_tld V (ex_key op x 0) nx L T M) (nx L (g x :: T) M) (Nat.ble x 4294967295) := rfl
  rw [show1]
  clear h show1
  cases hx : Nat.ble x 4294967295 with
  | true => rw [hx] at h2; exact ⟨one (ex_tI_n hx), h2⟩
  | false =>
    rw [hx] at h2
    obtain ⟨h3, h4⟩ := ex_br1 h2
    exact ⟨one h3, h4⟩
section
variable {E : ex_G} {b : Nat} {H0 : Heap} {G0 : List Nat} {ad0 : Nat → Nat} {nL : Nat} {p : Program} {l : Launch} {e : Env} {R : Room} {s : State} {m : MethodId} {args : Array Value} {below : List Frame} {meth : Method} {c : Code} {mc ms : Nat} {rM : Nat × Nat} {cc : ByteArray} {pc : Nat} {nx : ex_K}
theorem y_iadd {V : ex_V} (hx : p.tables.exec = Jvm.exec) (hb : c.code = cc) (hV : ex_VOK E V) (hd : decode cc pc = .ok (.iadd, 1)) (k : ex_Z E b H0 G0 ad0 nL p l e R s m args below meth c mc ms rM nx (pc + 1)) : ex_Z E b H0 G0 ad0 nL p l e R s m args below meth c mc ms rM (ex_bin2 V 3 (fun a b => Nat.mod (Nat.add a b) 4294967296) nx) pc := by
  intro L S M h
  obtain ⟨hI, h⟩ := ex_bin2_inv h
  exact z_iadd hx hb hV hd k hI h
theorem y_isub {V : ex_V} (hx : p.tables.exec = Jvm.exec) (hb : c.code = cc) (hV : ex_VOK E V) (hd : decode cc pc = .ok (.isub, 1)) (k : ex_Z E b H0 G0 ad0 nL p l e R s m args below meth c mc ms rM nx (pc + 1)) : ex_Z E b H0 G0 ad0 nL p l e R s m args below meth c mc ms rM (ex_bin2 V 4 (fun a b => Nat.mod (Nat.add a (Nat.sub 4294967296 b)) 4294967296) nx) pc := by
  intro L S M h
  obtain ⟨hI, h⟩ := ex_bin2_inv h
  exact z_isub hx hb hV hd k hI h
theorem y_imul {V : ex_V} (hx : p.tables.exec = Jvm.exec) (hb : c.code = cc) (hV : ex_VOK E V) (hd : decode cc pc = .ok (.imul, 1)) (k : ex_Z E b H0 G0 ad0 nL p l e R s m args below meth c mc ms rM nx (pc + 1)) : ex_Z E b H0 G0 ad0 nL p l e R s m args below meth c mc ms rM (ex_bin2 V 5 (fun a b => Nat.mod (Nat.mul a b) 4294967296) nx) pc := by
  intro L S M h
  obtain ⟨hI, h⟩ := ex_bin2_inv h
  exact z_imul hx hb hV hd k hI h
theorem y_iand {V : ex_V} (hx : p.tables.exec = Jvm.exec) (hb : c.code = cc) (hV : ex_VOK E V) (hd : decode cc pc = .ok (.iand, 1)) (k : ex_Z E b H0 G0 ad0 nL p l e R s m args below meth c mc ms rM nx (pc + 1)) : ex_Z E b H0 G0 ad0 nL p l e R s m args below meth c mc ms rM (ex_bin2 V 6 Nat.land nx) pc := by
  intro L S M h
  obtain ⟨hI, h⟩ := ex_bin2_inv h
  exact z_iand hx hb hV hd k hI h
theorem y_ior {V : ex_V} (hx : p.tables.exec = Jvm.exec) (hb : c.code = cc) (hV : ex_VOK E V) (hd : decode cc pc = .ok (.ior, 1)) (k : ex_Z E b H0 G0 ad0 nL p l e R s m args below meth c mc ms rM nx (pc + 1)) : ex_Z E b H0 G0 ad0 nL p l e R s m args below meth c mc ms rM (ex_bin2 V 7 Nat.lor nx) pc := by
  intro L S M h
  obtain ⟨hI, h⟩ := ex_bin2_inv h
  exact z_ior hx hb hV hd k hI h
theorem y_ixor {V : ex_V} (hx : p.tables.exec = Jvm.exec) (hb : c.code = cc) (hV : ex_VOK E V) (hd : decode cc pc = .ok (.ixor, 1)) (k : ex_Z E b H0 G0 ad0 nL p l e R s m args below meth c mc ms rM nx (pc + 1)) : ex_Z E b H0 G0 ad0 nL p l e R s m args below meth c mc ms rM (ex_bin2 V 8 Nat.xor nx) pc := by
  intro L S M h
  obtain ⟨hI, h⟩ := ex_bin2_inv h
  exact z_ixor hx hb hV hd k hI h
theorem y_idiv {V : ex_V} (hx : p.tables.exec = Jvm.exec) (hb : c.code = cc) (hV : ex_VOK E V) (hd : decode cc pc = .ok (.idiv, 1)) (k : ex_Z E b H0 G0 ad0 nL p l e R s m args below meth c mc ms rM nx (pc + 1)) : ex_Z E b H0 G0 ad0 nL p l e R s m args below meth c mc ms rM (fun L S M => (@List.rec Nat (fun _ => ex_R) none (fun z T _ => (@Bool.rec (fun _ => ex_R) (ex_bin2 V 9 ex_div nx L S M) (none) (Nat.beq z 0))) S)) pc := by
  intro L S M h
  obtain ⟨z, T, rfl, h1⟩ := ex_ls1 h
  obtain ⟨h0, h2⟩ := ex_br0 h1
  obtain ⟨hI, h3⟩ := ex_bin2_inv h2
  refine z_idiv hx hb hV hd k hI (L := L) (M := M) ?_
  show @Bool.rec (fun _ => ex_R) (ex_bin V 9 ex_div nx L (z :: T) M) none (Nat.beq z 0) = some rM
  rw [h0]; exact h3
theorem y_irem {V : ex_V} (hx : p.tables.exec = Jvm.exec) (hb : c.code = cc) (hV : ex_VOK E V) (hd : decode cc pc = .ok (.irem, 1)) (k : ex_Z E b H0 G0 ad0 nL p l e R s m args below meth c mc ms rM nx (pc + 1)) : ex_Z E b H0 G0 ad0 nL p l e R s m args below meth c mc ms rM (fun L S M => (@List.rec Nat (fun _ => ex_R) none (fun z T _ => (@Bool.rec (fun _ => ex_R) (ex_bin2 V 10 ex_rem nx L S M) (none) (Nat.beq z 0))) S)) pc := by
  intro L S M h
  obtain ⟨z, T, rfl, h1⟩ := ex_ls1 h
  obtain ⟨h0, h2⟩ := ex_br0 h1
  obtain ⟨hI, h3⟩ := ex_bin2_inv h2
  refine z_irem hx hb hV hd k hI (L := L) (M := M) ?_
  show @Bool.rec (fun _ => ex_R) (ex_bin V 10 ex_rem nx L (z :: T) M) none (Nat.beq z 0) = some rM
  rw [h0]; exact h3
theorem y_ineg {V : ex_V} (hx : p.tables.exec = Jvm.exec) (hb : c.code = cc) (hV : ex_VOK E V) (hd : decode cc pc = .ok (.ineg, 1)) (k : ex_Z E b H0 G0 ad0 nL p l e R s m args below meth c mc ms rM nx (pc + 1)) : ex_Z E b H0 G0 ad0 nL p l e R s m args below meth c mc ms rM (ex_un2 V 11 ex_ng nx) pc := by
  intro L S M h
  obtain ⟨hI, h⟩ := ex_un2_inv h
  exact z_ineg hx hb hV hd k hI h
theorem y_i2c {V : ex_V} (hx : p.tables.exec = Jvm.exec) (hb : c.code = cc) (hV : ex_VOK E V) (hd : decode cc pc = .ok (.i2c, 1)) (k : ex_Z E b H0 G0 ad0 nL p l e R s m args below meth c mc ms rM nx (pc + 1)) : ex_Z E b H0 G0 ad0 nL p l e R s m args below meth c mc ms rM (ex_un2 V 12 (fun a => Nat.mod a 65536) nx) pc := by
  intro L S M h
  obtain ⟨hI, h⟩ := ex_un2_inv h
  exact z_i2c hx hb hV hd k hI h
theorem y_i2b {V : ex_V} (hx : p.tables.exec = Jvm.exec) (hb : c.code = cc) (hV : ex_VOK E V) (hd : decode cc pc = .ok (.i2b, 1)) (k : ex_Z E b H0 G0 ad0 nL p l e R s m args below meth c mc ms rM nx (pc + 1)) : ex_Z E b H0 G0 ad0 nL p l e R s m args below meth c mc ms rM (ex_un2 V 13 (fun a => (@Bool.rec (fun _ => Nat) (Nat.add (Nat.mod a 256) 4294967040) (Nat.mod a 256) (Nat.ble (Nat.mod a 256) 127))) nx) pc := by
  intro L S M h
  obtain ⟨hI, h⟩ := ex_un2_inv h
  exact z_i2b hx hb hV hd k hI h
/-- a field is read; ref: the class by whose name it is called -/
theorem z_getfieldN {ST : Nat → Nat} {own ref host : String} {index aux : Nat} {r : vw_C} (hx : p.tables.exec = Jvm.exec) (hb : c.code = cc) (hW : ex_Wo E b ST H0 args s) (hown : s.vm.findClass own = some m.cls) (hr : ex_cl[aux / 64 % 64]? = some r) (hk : aux % 64 < r.2.2)
    (hlink : (Cond.fieldLinkNest own index ref (r.2.1 (aux % 64)).2.1 (r.2.1 (aux % 64)).2.2.1 host).before args s = true) (hsame : ∀ x, s.fieldFound? (r.2.1 (aux % 64)).1 (r.2.1 (aux % 64)).2.1 (r.2.1 (aux % 64)).2.2.1 = some x → s.fieldFound? ref (r.2.1 (aux % 64)).2.1 (r.2.1 (aux % 64)).2.2.1 = some x)
    (hd : decode cc pc = .ok (.getfield index, 3)) (k : ex_Z E b H0 G0 ad0 nL p l e R s m args below meth c mc ms rM nx (pc + 3)) : ex_Z E b H0 G0 ad0 nL p l e R s m args below meth c mc ms rM (ex_gf ST aux nx) pc := by
  intro L S M h
  obtain ⟨x, T, rfl, h⟩ := ex_ls1 h
  obtain ⟨h1, h⟩ := ex_br1 h
  obtain ⟨h2, h⟩ := ex_br1 h
  obtain ⟨hm, hw⟩ := k _ _ M h
  refine ⟨hm, fun G ad ls st H locs cells slots q hc hs => ?_⟩
  obtain ⟨q1, q2, rfl, q4, q5, q6, q7, q8⟩ := q
  have hx0 : ex_okc G x := q4 x List.mem_cons_self
  have h2' : ex_hd ST M x % 256 = aux / 64 % 64 := Nat.eq_of_beq_eq_true h2
  obtain ⟨O, a, e1, ⟨cell, c1, c2, -, c4, -⟩, e2, e3, e4, -⟩ := ex_rd hW q5 q7 h1 hx0 (by omega)
  rw [e2] at h2'
  obtain ⟨r', g1, g2, g3, g4⟩ := c4 (by omega)
  rw [h2', hr] at g1
  cases g1
  obtain ⟨⟨hS, hfc, kC, hkC, hkind⟩, hin⟩ := hW.2.2.1 _ _ hr
  obtain ⟨cf, kf, fi, f, hi, hsl⟩ := hS (aux % 64) hk
  rw [List.map_cons, e1]
  refine va_Wgetf (v := ex_v E ad (ex_sl ST M x (aux % 64))) hx hb hown hlink (hsame _ hi) (u_facts hfc hkC (u_lays (ws := u_ws r.1 r.2.1 r.2.2) hin (fun _ h => h) hk) hi).1 c1 c2 ?_ rfl rfl hd ?_
  · rw [hsl, ← h2', g4 _ (by omega), e3]
  · exact hw G ad ls _ H locs cells slots ⟨q1, q2, rfl, ex_okS (by show ex_okc G (ex_sl ST M x (aux % 64)); rw [e3]; exact e4 _ (by omega)) (fun z hz => q4 z (List.mem_cons_of_mem _ hz)), q5, q6, q7, q8⟩ hc hs
end
/-! words by their places -/
theorem ex_tt {sel : List MethodName} {w : Cond} {L : List Cond} (hL : ∀ w ∈ L, w ∈ tables_1) (i : Nat) (h : L[i]? = some w) (g : goodWord w = true) : w ∈ ex_TT sel := List.mem_append.mpr (Or.inl (List.mem_filter.mpr ⟨hL w (List.mem_of_getElem? h), g⟩))
theorem ex_twn {w : Cond} {L : List Cond} (hL : ∀ w ∈ L, w ∈ tables_1) (i : Nat) (h : L[i]? = some w) (g : ex_isN w = true) : w ∈ ex_TN := List.mem_filter.mpr ⟨hL w (List.mem_of_getElem? h), g⟩
theorem ex_ts {sel : List MethodName} {y : MethodName} (i : Nat) (h : sel[i]? = some y) : Cond.selects y.cls y y ∈ ex_TT sel := List.mem_append.mpr (Or.inr (List.mem_map.mpr ⟨y, List.mem_of_getElem? h, rfl⟩))
theorem ex_q1 : ∀ w ∈ tables_1_1, w ∈ tables_1 := fun w h => List.mem_append.mpr (Or.inl h)
theorem ex_q2 : ∀ w ∈ tables_1_2, w ∈ tables_1 := fun w h => (List.mem_append.mpr (Or.inr (List.mem_append.mpr (Or.inl h))))
theorem ex_q3 : ∀ w ∈ tables_1_3, w ∈ tables_1 := fun w h => (List.mem_append.mpr (Or.inr (List.mem_append.mpr (Or.inr (List.mem_append.mpr (Or.inl h))))))
theorem ex_q4 : ∀ w ∈ tables_1_4, w ∈ tables_1 := fun w h => (List.mem_append.mpr (Or.inr (List.mem_append.mpr (Or.inr (List.mem_append.mpr (Or.inr (List.mem_append.mpr (Or.inl h))))))))
theorem ex_q5 : ∀ w ∈ tables_1_5, w ∈ tables_1 := fun w h => (List.mem_append.mpr (Or.inr (List.mem_append.mpr (Or.inr (List.mem_append.mpr (Or.inr (List.mem_append.mpr (Or.inr (List.mem_append.mpr (Or.inl h))))))))))
theorem ex_q6 : ∀ w ∈ tables_1_6, w ∈ tables_1 := fun w h => (List.mem_append.mpr (Or.inr (List.mem_append.mpr (Or.inr (List.mem_append.mpr (Or.inr (List.mem_append.mpr (Or.inr (List.mem_append.mpr (Or.inr (List.mem_append.mpr (Or.inl h))))))))))))
theorem ex_q7 : ∀ w ∈ tables_1_7, w ∈ tables_1 := fun w h => (List.mem_append.mpr (Or.inr (List.mem_append.mpr (Or.inr (List.mem_append.mpr (Or.inr (List.mem_append.mpr (Or.inr (List.mem_append.mpr (Or.inr (List.mem_append.mpr (Or.inr (List.mem_append.mpr (Or.inl h))))))))))))))
theorem ex_q8 : ∀ w ∈ tables_1_8, w ∈ tables_1 := fun w h => (List.mem_append.mpr (Or.inr (List.mem_append.mpr (Or.inr (List.mem_append.mpr (Or.inr (List.mem_append.mpr (Or.inr (List.mem_append.mpr (Or.inr (List.mem_append.mpr (Or.inr (List.mem_append.mpr (Or.inr (List.mem_append.mpr (Or.inl h))))))))))))))))
theorem ex_q9 : ∀ w ∈ tables_1_9, w ∈ tables_1 := fun w h => (List.mem_append.mpr (Or.inr (List.mem_append.mpr (Or.inr (List.mem_append.mpr (Or.inr (List.mem_append.mpr (Or.inr (List.mem_append.mpr (Or.inr (List.mem_append.mpr (Or.inr (List.mem_append.mpr (Or.inr (List.mem_append.mpr (Or.inr (List.mem_append.mpr (Or.inl h))))))))))))))))))
theorem ex_q10 : ∀ w ∈ tables_1_10, w ∈ tables_1 := fun w h => (List.mem_append.mpr (Or.inr (List.mem_append.mpr (Or.inr (List.mem_append.mpr (Or.inr (List.mem_append.mpr (Or.inr (List.mem_append.mpr (Or.inr (List.mem_append.mpr (Or.inr (List.mem_append.mpr (Or.inr (List.mem_append.mpr (Or.inr (List.mem_append.mpr (Or.inr (List.mem_append.mpr (Or.inl h))))))))))))))))))))
theorem ex_q11 : ∀ w ∈ tables_1_11, w ∈ tables_1 := fun w h => (List.mem_append.mpr (Or.inr (List.mem_append.mpr (Or.inr (List.mem_append.mpr (Or.inr (List.mem_append.mpr (Or.inr (List.mem_append.mpr (Or.inr (List.mem_append.mpr (Or.inr (List.mem_append.mpr (Or.inr (List.mem_append.mpr (Or.inr (List.mem_append.mpr (Or.inr (List.mem_append.mpr (Or.inr h))))))))))))))))))))
