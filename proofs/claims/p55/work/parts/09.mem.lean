/-! instructions on cells -/
/-- what a row's kind holds -/
def ex_ty : Nat → FieldType
  | 64 => .int | 65 => .boolean | 66 => .char | 67 => .long | 68 => .double | 69 => .byte | 70 => .object "java/lang/Object" | 71 => .array .int | _ => .object "java/lang/Character"
/-- a cell that can be read: by its packed words O -/
def ex_RO (E : ex_G) (ad : Nat → Nat) (s : State) (O : Nat) (H : Heap) (a : Nat) : Prop :=
  ∃ cell : Cell, H[a]? = some cell ∧ cell.vm ≠ .unknown ∧ cell.vm.isStatics = false ∧
    (ex_get O 0 % 256 < 64 → ∃ r : vw_C, ex_cl[ex_get O 0 % 256]? = some r ∧ ex_get O 0 / 256 = r.2.2 ∧ cell.cls = E.1.1 (ex_get O 0 % 256) ∧ ∀ k, k < ex_get O 0 / 256 → cell.slots[E.1.2 (ex_get O 0 % 256) k]? = some (ex_v E ad (ex_get O (k + 1)))) ∧
    (64 ≤ ex_get O 0 % 256 → ex_get O 0 % 256 ≤ 72 → s.isArrayOf cell (ex_ty (ex_get O 0 % 256)) ∧ ex_get O 0 / 256 ≤ cell.slots.size ∧ cell.slots.size.toInt32 = Int32.ofNat (ex_get O 0 / 256) ∧ ex_get O 0 / 256 < 2147483648 ∧ ∀ j, j < ex_get O 0 / 256 → cell.slots[j]? = some (ex_v E ad (ex_get O (j + 1))))
/-- the world of a frame's start: the classes, the rows' classes, the cells that stood before -/
def ex_Wo (E : ex_G) (b : Nat) (ST : Nat → Nat) (H0 : Heap) (args : Array Value) (s : State) : Prop :=
  H0.size = b ∧ ex_svR E ∧
  (∀ (k : Nat) (q : vw_C), ex_cl[k]? = some q → u_Kn s q.1 q.2.1 q.2.2 (E.1.1 k) (E.1.2 k) ∧ ∀ w ∈ u_ws q.1 q.2.1 q.2.2, w.before args s = true) ∧
  (∀ kd, 64 ≤ kd → kd ≤ 72 → ArrOfT s (E.2.1 kd) (ex_ty kd) ∧ (kd ≤ 71 → va_RA s (E.2.1 kd) (ex_ty kd))) ∧
  (∀ j, ex_get (ST j) 0 % 256 ≠ 255 → ∃ a, a < b ∧ E.2.2.1 j = .ref a ∧ (∀ k, k < ex_get (ST j) 0 / 256 → ∀ ad ad', ex_v E ad (ex_get (ST j) (k + 1)) = ex_v E ad' (ex_get (ST j) (k + 1))) ∧ (∀ k, k < ex_get (ST j) 0 / 256 → ∀ G, ex_okc G (ex_get (ST j) (k + 1))) ∧ ∀ ad, ex_RO E ad s (ST j) H0 a)
section
variable {E : ex_G} {b : Nat} {H0 : Heap} {G0 : List Nat} {ad0 : Nat → Nat} {nL : Nat} {p : Program} {l : Launch} {e : Env} {R : Room} {s : State} {m : MethodId} {args : Array Value} {below : List Frame} {meth : Method} {c : Code} {mc ms : Nat} {rM : Nat × Nat} {cc : ByteArray} {pc : Nat} {nx : ex_K}
theorem ex_hdS {ST : Nat → Nat} {M x : Nat} (h : 17179869184 ≤ x) : ex_hd ST M x = ex_get (ST (x - 17179869184)) 0 := by
  unfold ex_hd; rw [ex_bN, if_pos (Nat.ble_eq.mpr h)]; rfl
theorem ex_slS {ST : Nat → Nat} {M x k : Nat} (h : 17179869184 ≤ x) : ex_sl ST M x k = ex_get (ST (x - 17179869184)) (k + 1) := by
  unfold ex_sl; rw [ex_bN, if_pos (Nat.ble_eq.mpr h)]; rfl
theorem ex_hdD {ST : Nat → Nat} {M x : Nat} (h : ¬ 17179869184 ≤ x) : ex_hd ST M x = ex_get M (x - 8589934592) := by
  unfold ex_hd; rw [ex_bN, if_neg (fun z => h (Nat.ble_eq.mp z))]; rfl
theorem ex_slD {ST : Nat → Nat} {M x k : Nat} (h : ¬ 17179869184 ≤ x) : ex_sl ST M x k = ex_get M ((x - 8589934592) + (k + 1)) := by
  unfold ex_sl; rw [ex_bN, if_neg (fun z => h (Nat.ble_eq.mp z))]; rfl
theorem ex_shO {M w k : Nat} : ex_get (M >>> (40 * w)) k = ex_get M (w + k) := by
  apply Nat.eq_of_testBit_eq; intro i
  rw [ex_tb, ex_tb, Nat.testBit_shiftRight]
  rw [show 40 * w + (40 * k + i) = 40 * (w + k) + i by omega]
theorem ex_ObR {ST : Nat → Nat} {ad : Nat → Nat} {M : Nat} {H : Heap} {w : Nat} (hW : ex_Wo E b ST H0 args s) (hob : ex_Ob E ad M H w) (hn : ex_get M w / 256 < 2147483648) : ex_RO E ad s (M >>> (40 * w)) H (ad w) := by
  have h0 : ex_get (M >>> (40 * w)) 0 = ex_get M w := by rw [ex_shO, Nat.add_zero]
  have hk1 : ∀ k, ex_get (M >>> (40 * w)) (k + 1) = ex_get M (w + 1 + k) := fun k => by rw [ex_shO, show w + (k + 1) = w + 1 + k by omega]
  unfold ex_Ob ex_kd ex_n at hob
  unfold ex_RO
  rw [h0]
  simp only [hk1]
  rcases Nat.lt_or_ge (ex_get M w % 256) 64 with q | q
  · obtain ⟨r, g1, g2, cell, g3, g4, g5, g6⟩ := hob.1 q
    have v1 : cell.vm ≠ .unknown := by rw [g5]; exact (fun z => by cases z)
    have v2 : cell.vm.isStatics = false := by rw [g5]; rfl
    exact ⟨cell, g3, v1, v2, fun _ => ⟨r, g1, g2, g4, g6⟩, fun z => absurd z (by omega)⟩
  · have hb2 := hob.2 q
    refine ⟨_, hb2, (fun z => by cases z), rfl, fun z => absurd z (by omega), fun _ q2 => ?_⟩
    refine ⟨(hW.2.2.2.1 _ q q2).1 _ _, by rw [arrV_size]; exact Nat.le_refl _, by rw [arrV_size] <;> rfl, hn, fun j hj => ?_⟩
    rw [arrV_read _ _ hj]
/-- a reference that is read -/
theorem ex_rd {ST : Nat → Nat} {G : List Nat} {ad : Nat → Nat} {M : Nat} {H : Heap} {locs : List Loc} {x : Nat} (hW : ex_Wo E b ST H0 args s) (hR : ex_Rep E b G ad M H) (hS : va_S (fun q => b ≤ q) H0 H locs) (hx : ex_isR x = true) (hok : ex_okc G x) (hk : ex_hd ST M x % 256 ≠ 255) :
    ∃ (O a : Nat), ex_v E ad x = .ref a ∧ ex_RO E ad s O H a ∧ ex_hd ST M x = ex_get O 0 ∧ (∀ k, ex_sl ST M x k = ex_get O (k + 1)) ∧ (∀ k, k < ex_get O 0 / 256 → ex_okc G (ex_get O (k + 1))) ∧ (17179869184 ≤ x → a < b) := by
  have hx' := ex_isR_iff.mp hx
  by_cases h : 17179869184 ≤ x
  · have e1 : ex_hd ST M x = ex_get (ST (x - 17179869184)) 0 := ex_hdS h
    have e2 : ∀ k, ex_sl ST M x k = ex_get (ST (x - 17179869184)) (k + 1) := fun k => ex_slS h
    rw [e1] at hk
    obtain ⟨a, ha, hsv, -, hokk, hro⟩ := hW.2.2.2.2 _ hk
    refine ⟨ST (x - 17179869184), a, by rw [ex_v_S h hx'.2, hsv], ?_, e1, e2, fun k hk => hokk k hk G, fun _ => ha⟩
    obtain ⟨cell, c1, c2⟩ := hro ad
    exact ⟨cell, by rw [hS.2.1 a (by rw [hW.1]; exact ha) (by omega)]; exact c1, c2⟩
  · have hD : x - 8589934592 ∈ G := hok hx'.1 (by omega)
    generalize hw : x - 8589934592 = w at hD
    have e1 : ex_hd ST M x = ex_get M w := by rw [ex_hdD h, hw]
    have e2 : ∀ k, ex_sl ST M x k = ex_get M (w + 1 + k) := fun k => by rw [ex_slD h, hw, show w + (k + 1) = w + 1 + k by omega]
    have hO : ∀ k, ex_get (M >>> (40 * w)) k = ex_get M (w + k) := fun k => ex_shO
    obtain ⟨r1, -, -, r4, -, -, r7, r8⟩ := hR
    have hob := r1 w hD
    have hn := r4 w hD
    unfold ex_n at hn
    refine ⟨M >>> (40 * w), ad w, by rw [ex_v_D hx'.1 (by omega), hw], ex_ObR hW hob (by omega), by rw [e1, hO, Nat.add_zero], fun k => by rw [e2, hO, show w + (k + 1) = w + 1 + k by omega], fun k hk => ?_, fun z => absurd z h⟩
    rw [hO, Nat.add_zero] at hk
    have := r8 w hD k hk
    rw [hO, show w + (k + 1) = w + 1 + k by omega]
    exact this
/-- reading a place of a row -/
theorem z_ald {ST : Nat → Nat} {kd t : Nat → Bool} {P : FieldType → Prop} (hW : ex_Wo E b ST H0 args s) (hP : ∀ k, kd k = true → 64 ≤ k ∧ k ≤ 72 ∧ P (ex_ty k))
    (row : ∀ {ty : FieldType} {a : Addr} {cell : Cell} {j : Int32} {v : Value} {H : Heap} {locs : List Loc} {cells slots : Nat} {ls : Array Slot} {rest : List Value} {Q : State → Prop}, P ty → H[a]? = some cell → s.isArrayOf cell ty → cell.vm ≠ .unknown → ¬ (j < 0 ∨ cell.slots.size ≤ j.toNatClampNeg) → cell.slots[j.toNatClampNeg]? = some v → W p l e R s m args below meth c H locs cells slots Q (F0 m (pc + 1) ls (v :: rest)) → W p l e R s m args below meth c H locs cells slots Q (F0 m pc ls (.int j :: .ref a :: rest)))
    (k : ex_Z E b H0 G0 ad0 nL p l e R s m args below meth c mc ms rM nx (pc + 1)) : ex_Z E b H0 G0 ad0 nL p l e R s m args below meth c mc ms rM (ex_ald ST kd t nx) pc := by
  intro L S M h
  obtain ⟨i, T1, rfl, h⟩ := ex_ls1 h
  obtain ⟨x, T, rfl, h⟩ := ex_ls1 h
  obtain ⟨h1, h⟩ := ex_br1 h
  obtain ⟨h2, h⟩ := ex_br1 h
  obtain ⟨h3, h⟩ := ex_br1 h
  obtain ⟨h4, h⟩ := ex_br1 h
  obtain ⟨hm, hw⟩ := k _ _ M h
  refine ⟨hm, fun G ad ls st H locs cells slots q hc hs => ?_⟩
  obtain ⟨q1, q2, rfl, q4, q5, q6, q7, q8⟩ := q
  obtain ⟨k1, k2, k3⟩ := hP _ h2
  have hx : ex_okc G x := q4 x (List.mem_cons_of_mem _ List.mem_cons_self)
  have h3 : i + 1 ≤ ex_hd ST M x / 256 := Nat.le_of_ble_eq_true h3
  have k1' : 64 ≤ ex_hd ST M x % 256 := k1
  have k2' : ex_hd ST M x % 256 ≤ 72 := k2
  obtain ⟨O, a, e1, ⟨cell, c1, c2, -, -, c5⟩, e2, e3, e4, -⟩ := ex_rd hW q5 q7 h1 hx (by omega)
  rw [e2] at h3 k1' k2'
  obtain ⟨d1, d2, -, d4, d5⟩ := c5 k1' k2'
  have hi : i < 4294967296 := by omega
  have hcl : (nI i).toNatClampNeg = i := nI_clamp (by omega)
  rw [List.map_cons, List.map_cons, ex_v_n hi, e1]
  refine row (v := ex_v E ad (ex_sl ST M x i)) (by rw [← e2]; exact k3) c1 d1 c2 (fun z => ?_) (by rw [hcl, e3]; exact d5 i (by omega)) ?_
  · rcases z with z | z
    · exact nI_pos (by omega) z
    · rw [hcl] at z; omega
  · exact hw G ad ls _ H locs cells slots ⟨q1, q2, rfl, ex_okS (by rw [e3]; exact e4 i (by omega)) (fun z hz => q4 z (List.mem_cons_of_mem _ (List.mem_cons_of_mem _ hz))), q5, q6, q7, q8⟩ hc hs
theorem z_iaload {ST : Nat → Nat} (hx : p.tables.exec = Jvm.exec) (hb : c.code = cc) (hW : ex_Wo E b ST H0 args s) (hd : decode cc pc = .ok (.iaload, 1)) (k : ex_Z E b H0 G0 ad0 nL p l e R s m args below meth c mc ms rM nx (pc + 1)) : ex_Z E b H0 G0 ad0 nL p l e R s m args below meth c mc ms rM (ex_ald ST (fun k => Nat.beq k 64) ex_tI nx) pc :=
  z_ald (P := fun ty => ty = .int) hW (fun k h => by have e : k = 64 := Nat.eq_of_beq_eq_true h; subst e; exact ⟨by omega, by omega, rfl⟩) (fun e h1 h2 h3 h4 h5 k => by subst e; exact W.iald hx hb h1 h2 h3 h4 h5 rfl rfl hd k) k
theorem z_caload {ST : Nat → Nat} (hx : p.tables.exec = Jvm.exec) (hb : c.code = cc) (hW : ex_Wo E b ST H0 args s) (hd : decode cc pc = .ok (.caload, 1)) (k : ex_Z E b H0 G0 ad0 nL p l e R s m args below meth c mc ms rM nx (pc + 1)) : ex_Z E b H0 G0 ad0 nL p l e R s m args below meth c mc ms rM (ex_ald ST (fun k => Nat.beq k 66) ex_tI nx) pc :=
  z_ald (P := fun ty => ty = .char) hW (fun k h => by have e : k = 66 := Nat.eq_of_beq_eq_true h; subst e; exact ⟨by omega, by omega, rfl⟩) (fun e h1 h2 h3 h4 h5 k => by subst e; exact W.cald hx hb h1 h2 h3 h4 h5 rfl rfl hd k) k
theorem z_laload {ST : Nat → Nat} (hx : p.tables.exec = Jvm.exec) (hb : c.code = cc) (hW : ex_Wo E b ST H0 args s) (hd : decode cc pc = .ok (.laload, 1)) (k : ex_Z E b H0 G0 ad0 nL p l e R s m args below meth c mc ms rM nx (pc + 1)) : ex_Z E b H0 G0 ad0 nL p l e R s m args below meth c mc ms rM (ex_ald ST (fun k => Nat.beq k 67) ex_isL nx) pc :=
  z_ald (P := fun ty => ty = .long) hW (fun k h => by have e : k = 67 := Nat.eq_of_beq_eq_true h; subst e; exact ⟨by omega, by omega, rfl⟩) (fun e h1 h2 h3 h4 h5 k => by subst e; exact W.lald hx hb h1 h2 h3 h4 h5 rfl rfl hd k) k
theorem z_baload {ST : Nat → Nat} (hx : p.tables.exec = Jvm.exec) (hb : c.code = cc) (hW : ex_Wo E b ST H0 args s) (hd : decode cc pc = .ok (.baload, 1)) (k : ex_Z E b H0 G0 ad0 nL p l e R s m args below meth c mc ms rM nx (pc + 1)) : ex_Z E b H0 G0 ad0 nL p l e R s m args below meth c mc ms rM (ex_ald ST (fun k => (@Bool.rec (fun _ => Bool) (Nat.beq k 69) (true) (Nat.beq k 65))) ex_isI nx) pc :=
  z_ald (P := fun ty => ty = .boolean ∨ ty = .byte) hW (fun k h => by
    rw [ex_bB] at h
    by_cases e : Nat.beq k 65 = true
    · have e : k = 65 := Nat.eq_of_beq_eq_true e
      subst e; exact ⟨by omega, by omega, Or.inl rfl⟩
    · rw [if_neg e] at h
      have e : k = 69 := Nat.eq_of_beq_eq_true h
      subst e; exact ⟨by omega, by omega, Or.inr rfl⟩) (fun e h1 h2 h3 h4 h5 k => by
    rcases e with e | e
    · subst e; exact W.zald hx hb h1 h2 h3 h4 h5 rfl rfl hd k
    · subst e; exact W.bald hx hb h1 h2 h3 h4 h5 rfl rfl hd k) k
theorem z_aaload {ST : Nat → Nat} (hx : p.tables.exec = Jvm.exec) (hb : c.code = cc) (hW : ex_Wo E b ST H0 args s) (hd : decode cc pc = .ok (.aaload, 1)) (k : ex_Z E b H0 G0 ad0 nL p l e R s m args below meth c mc ms rM nx (pc + 1)) : ex_Z E b H0 G0 ad0 nL p l e R s m args below meth c mc ms rM (ex_ald ST (fun k => (@Bool.rec (fun _ => Bool) (false) (Nat.ble k 72) (Nat.ble 70 k))) ex_tA nx) pc :=
  z_ald (P := fun ty => ty.isReference = true) hW (fun k h => by
    rw [ex_bB] at h
    by_cases e : Nat.ble 70 k = true
    · rw [if_pos e] at h
      have e := Nat.le_of_ble_eq_true e
      have h := Nat.le_of_ble_eq_true h
      refine ⟨by omega, h, ?_⟩
      rcases (show k = 70 ∨ k = 71 ∨ k = 72 by omega) with rfl | rfl | rfl <;> rfl
    · rw [if_neg e] at h; cases h) (fun e h1 h2 h3 h4 h5 k => W.aald hx hb h1 h2 e h3 h4 h5 rfl rfl hd k) k
theorem z_arraylength {ST : Nat → Nat} (hx : p.tables.exec = Jvm.exec) (hb : c.code = cc) (hW : ex_Wo E b ST H0 args s) (hd : decode cc pc = .ok (.arraylength, 1)) (k : ex_Z E b H0 G0 ad0 nL p l e R s m args below meth c mc ms rM nx (pc + 1)) : ex_Z E b H0 G0 ad0 nL p l e R s m args below meth c mc ms rM (fun L S M => (@List.rec Nat (fun _ => ex_R) none (fun c T _ => (@Bool.rec (fun _ => ex_R) (none) ((@Bool.rec (fun _ => ex_R) (none) (nx L (Nat.div (ex_hd ST M c) 256 :: T) M) ((@Bool.rec (fun _ => Bool) (false) (Nat.ble (Nat.mod (ex_hd ST M c) 256) 72) (Nat.ble 64 (Nat.mod (ex_hd ST M c) 256)))))) (ex_isR c))) S)) pc := by
  intro L S M h
  obtain ⟨x, T, rfl, h⟩ := ex_ls1 h
  obtain ⟨h1, h⟩ := ex_br1 h
  obtain ⟨h2, h⟩ := ex_br1 h
  obtain ⟨hm, hw⟩ := k _ _ M h
  refine ⟨hm, fun G ad ls st H locs cells slots q hc hs => ?_⟩
  obtain ⟨q1, q2, rfl, q4, q5, q6, q7, q8⟩ := q
  have hx0 : ex_okc G x := q4 x List.mem_cons_self
  have h2' : 64 ≤ ex_hd ST M x % 256 ∧ ex_hd ST M x % 256 ≤ 72 := by
    rw [ex_bB] at h2
    by_cases e : Nat.ble 64 (Nat.mod (ex_hd ST M x) 256) = true
    · rw [if_pos e] at h2
      exact ⟨Nat.le_of_ble_eq_true e, Nat.le_of_ble_eq_true h2⟩
    · rw [if_neg e] at h2; cases h2
  obtain ⟨O, a, e1, ⟨cell, c1, c2, -, -, c5⟩, e2, e3, e4, -⟩ := ex_rd hW q5 q7 h1 hx0 (by omega)
  rw [e2] at h2'
  obtain ⟨d1, d2, d3, d4, d5⟩ := c5 h2'.1 h2'.2
  rw [List.map_cons, e1]
  refine W.alen (n := nI (ex_hd ST M x / 256)) hx hb c1 d1 (by rw [e2]; exact d3) rfl rfl hd ?_
  exact hw G ad ls _ H locs cells slots ⟨q1, q2, by rw [List.map_cons, ex_v_n (show Nat.div (ex_hd ST M x) 256 < 4294967296 by show ex_hd ST M x / 256 < _; rw [e2]; omega)]; rfl, ex_okS (ex_okc_lt (by show ex_hd ST M x / 256 < _; rw [e2]; omega)) (fun z hz => q4 z (List.mem_cons_of_mem _ hz)), q5, q6, q7, q8⟩ hc hs
/-- a field is read; ref: the class by whose name it is called -/
theorem z_getfield {ST : Nat → Nat} {own ref : String} {index aux : Nat} {r : vw_C} (hx : p.tables.exec = Jvm.exec) (hb : c.code = cc) (hW : ex_Wo E b ST H0 args s) (hown : s.vm.findClass own = some m.cls) (hr : ex_cl[aux / 64 % 64]? = some r) (hk : aux % 64 < r.2.2)
    (hlink : (Cond.fieldLink own index ref (r.2.1 (aux % 64)).2.1 (r.2.1 (aux % 64)).2.2.1).before args s = true) (hsame : ∀ x, s.fieldFound? (r.2.1 (aux % 64)).1 (r.2.1 (aux % 64)).2.1 (r.2.1 (aux % 64)).2.2.1 = some x → s.fieldFound? ref (r.2.1 (aux % 64)).2.1 (r.2.1 (aux % 64)).2.2.1 = some x)
    (hd : decode cc pc = .ok (.getfield index, 3)) (k : ex_Z E b H0 G0 ad0 nL p l e R s m args below meth c mc ms rM nx (pc + 3)) : ex_Z E b H0 G0 ad0 nL p l e R s m args below meth c mc ms rM (ex_gf ST aux nx) pc := by
  intro L S M h
  obtain ⟨x, T, rfl, h⟩ := ex_ls1 h
  obtain ⟨h1, h⟩ := ex_br1 h
  obtain ⟨h2, h⟩ := ex_br1 h
  obtain ⟨hm, hw⟩ := k _ _ M h
  refine ⟨hm, fun G ad ls st H locs cells slots q hc hs => ?_⟩
  obtain ⟨q1, q2, rfl, q4, q5, q6, q7, q8⟩ := q
  have hx0 : ex_okc G x := q4 x List.mem_cons_self
  have h2' : ex_hd ST M x % 256 = aux / 64 % 64 := Nat.eq_of_beq_eq_true h2
  obtain ⟨O, a, e1, ⟨cell, c1, c2, -, c4, -⟩, e2, e3, e4, -⟩ := ex_rd hW q5 q7 h1 hx0 (by omega)
  rw [e2] at h2'
  obtain ⟨r', g1, g2, g3, g4⟩ := c4 (by omega)
  rw [h2', hr] at g1
  cases g1
  obtain ⟨⟨hS, hfc, kC, hkC, hkind⟩, hin⟩ := hW.2.2.1 _ _ hr
  obtain ⟨cf, kf, fi, f, hi, hsl⟩ := hS (aux % 64) hk
  rw [List.map_cons, e1]
  refine W.getf (v := ex_v E ad (ex_sl ST M x (aux % 64))) hx hb hown hlink (hsame _ hi) (u_facts hfc hkC (u_lays (ws := u_ws r.1 r.2.1 r.2.2) hin (fun _ h => h) hk) hi).1 c1 c2 ?_ rfl rfl hd ?_
  · rw [hsl, ← h2', g4 _ (by omega), e3]
  · exact hw G ad ls _ H locs cells slots ⟨q1, q2, rfl, ex_okS (by show ex_okc G (ex_sl ST M x (aux % 64)); rw [e3]; exact e4 _ (by omega)) (fun z hz => q4 z (List.mem_cons_of_mem _ hz)), q5, q6, q7, q8⟩ hc hs
end
