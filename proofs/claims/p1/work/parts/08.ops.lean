/-! operations, branches, returns -/
section
variable {E : ex_G} {b : Nat} {H0 : Heap} {G0 : List Nat} {ad0 : Nat → Nat} {nL : Nat} {p : Program} {l : Launch} {e : Env} {R : Room} {s : State} {m : MethodId} {args : Array Value} {below : List Frame} {meth : Method} {c : Code} {mc ms : Nat} {rM : Nat × Nat} {cc : ByteArray} {pc : Nat} {nx : ex_K}
theorem z_iadd {V : ex_V} (hx : p.tables.exec = Jvm.exec) (hb : c.code = cc) (hV : ex_VOK E V) (hd : decode cc pc = .ok (.iadd, 1)) (k : ex_Z E b H0 G0 ad0 nL p l e R s m args below meth c mc ms rM nx (pc + 1)) {L : Nat} {S : List Nat} {M : Nat} (hI : ∀ z ∈ S.take 2, ex_tI z = true) (h : ex_bin V 3 (fun a b => Nat.mod (Nat.add a b) 4294967296) nx L S M = some rM) : ex_A E b H0 G0 ad0 nL p l e R s m args below meth c mc ms rM L S M pc :=
  z_bin (op := 3) (f := (· + ·)) hV (fun _ => True) (fun _ k => lv_iadd hx hb hd k) (fun a b _ _ _ => ⟨ex_add a b, Nat.mod_lt _ (by decide)⟩) (fun _ _ _ h => ⟨trivial, h⟩) k (fun _ _ _ _ => trivial) hI h
theorem z_isub {V : ex_V} (hx : p.tables.exec = Jvm.exec) (hb : c.code = cc) (hV : ex_VOK E V) (hd : decode cc pc = .ok (.isub, 1)) (k : ex_Z E b H0 G0 ad0 nL p l e R s m args below meth c mc ms rM nx (pc + 1)) {L : Nat} {S : List Nat} {M : Nat} (hI : ∀ z ∈ S.take 2, ex_tI z = true) (h : ex_bin V 4 (fun a b => Nat.mod (Nat.add a (Nat.sub 4294967296 b)) 4294967296) nx L S M = some rM) : ex_A E b H0 G0 ad0 nL p l e R s m args below meth c mc ms rM L S M pc :=
  z_bin (op := 4) (f := (· - ·)) hV (fun _ => True) (fun _ k => lv_isub hx hb hd k) (fun a b _ hb _ => ⟨ex_sub hb, Nat.mod_lt _ (by decide)⟩) (fun _ _ _ h => ⟨trivial, h⟩) k (fun _ _ _ _ => trivial) hI h
theorem z_imul {V : ex_V} (hx : p.tables.exec = Jvm.exec) (hb : c.code = cc) (hV : ex_VOK E V) (hd : decode cc pc = .ok (.imul, 1)) (k : ex_Z E b H0 G0 ad0 nL p l e R s m args below meth c mc ms rM nx (pc + 1)) {L : Nat} {S : List Nat} {M : Nat} (hI : ∀ z ∈ S.take 2, ex_tI z = true) (h : ex_bin V 5 (fun a b => Nat.mod (Nat.mul a b) 4294967296) nx L S M = some rM) : ex_A E b H0 G0 ad0 nL p l e R s m args below meth c mc ms rM L S M pc :=
  z_bin (op := 5) (f := (· * ·)) hV (fun _ => True) (fun _ k => lv_imul hx hb hd k) (fun a b _ _ _ => ⟨ex_mul a b, Nat.mod_lt _ (by decide)⟩) (fun _ _ _ h => ⟨trivial, h⟩) k (fun _ _ _ _ => trivial) hI h
theorem z_iand {V : ex_V} (hx : p.tables.exec = Jvm.exec) (hb : c.code = cc) (hV : ex_VOK E V) (hd : decode cc pc = .ok (.iand, 1)) (k : ex_Z E b H0 G0 ad0 nL p l e R s m args below meth c mc ms rM nx (pc + 1)) {L : Nat} {S : List Nat} {M : Nat} (hI : ∀ z ∈ S.take 2, ex_tI z = true) (h : ex_bin V 6 Nat.land nx L S M = some rM) : ex_A E b H0 G0 ad0 nL p l e R s m args below meth c mc ms rM L S M pc :=
  z_bin (op := 6) (f := (· &&& ·)) hV (fun _ => True) (fun _ k => lv_iand hx hb hd k) (fun a b ha hb _ => ex_and ha hb) (fun _ _ _ h => ⟨trivial, h⟩) k (fun _ _ _ _ => trivial) hI h
theorem z_ior {V : ex_V} (hx : p.tables.exec = Jvm.exec) (hb : c.code = cc) (hV : ex_VOK E V) (hd : decode cc pc = .ok (.ior, 1)) (k : ex_Z E b H0 G0 ad0 nL p l e R s m args below meth c mc ms rM nx (pc + 1)) {L : Nat} {S : List Nat} {M : Nat} (hI : ∀ z ∈ S.take 2, ex_tI z = true) (h : ex_bin V 7 Nat.lor nx L S M = some rM) : ex_A E b H0 G0 ad0 nL p l e R s m args below meth c mc ms rM L S M pc :=
  z_bin (op := 7) (f := (· ||| ·)) hV (fun _ => True) (fun _ k => lv_ior hx hb hd k) (fun a b ha hb _ => ex_or ha hb) (fun _ _ _ h => ⟨trivial, h⟩) k (fun _ _ _ _ => trivial) hI h
theorem z_ixor {V : ex_V} (hx : p.tables.exec = Jvm.exec) (hb : c.code = cc) (hV : ex_VOK E V) (hd : decode cc pc = .ok (.ixor, 1)) (k : ex_Z E b H0 G0 ad0 nL p l e R s m args below meth c mc ms rM nx (pc + 1)) {L : Nat} {S : List Nat} {M : Nat} (hI : ∀ z ∈ S.take 2, ex_tI z = true) (h : ex_bin V 8 Nat.xor nx L S M = some rM) : ex_A E b H0 G0 ad0 nL p l e R s m args below meth c mc ms rM L S M pc :=
  z_bin (op := 8) (f := (· ^^^ ·)) hV (fun _ => True) (fun _ k => lv_ixor hx hb hd k) (fun a b ha hb _ => ex_xor ha hb) (fun _ _ _ h => ⟨trivial, h⟩) k (fun _ _ _ _ => trivial) hI h
theorem z_idiv {V : ex_V} (hx : p.tables.exec = Jvm.exec) (hb : c.code = cc) (hV : ex_VOK E V) (hd : decode cc pc = .ok (.idiv, 1)) (k : ex_Z E b H0 G0 ad0 nL p l e R s m args below meth c mc ms rM nx (pc + 1)) {L : Nat} {S : List Nat} {M : Nat} (hI : ∀ z ∈ S.take 2, ex_tI z = true)
    (h : (fun L S M => (@List.rec Nat (fun _ => ex_R) none (fun z T _ => (@Bool.rec (fun _ => ex_R) (ex_bin V 9 ex_div nx L S M) (none) (Nat.beq z 0))) S)) L S M = some rM) : ex_A E b H0 G0 ad0 nL p l e R s m args below meth c mc ms rM L S M pc := by
  obtain ⟨z, T, rfl, h⟩ := ex_ls1 h
  obtain ⟨h0, h⟩ := ex_br0 h
  have hz : z ≠ 0 := fun q => by rw [q] at h0; cases h0
  refine z_bin (op := 9) (f := (· / ·)) hV (fun y => ¬ y = 0) (fun hP k => lv_idiv hx hb hd hP k) (fun a b ha hb hP => ex_divE ha hb (fun q => hP (by rw [q]; rfl))) (fun _ _ _ h => h) k (fun w T' e hw => ?_) hI h
  cases e
  exact fun q => hz (ex_ni hw (by decide) q)
theorem z_irem {V : ex_V} (hx : p.tables.exec = Jvm.exec) (hb : c.code = cc) (hV : ex_VOK E V) (hd : decode cc pc = .ok (.irem, 1)) (k : ex_Z E b H0 G0 ad0 nL p l e R s m args below meth c mc ms rM nx (pc + 1)) {L : Nat} {S : List Nat} {M : Nat} (hI : ∀ z ∈ S.take 2, ex_tI z = true)
    (h : (fun L S M => (@List.rec Nat (fun _ => ex_R) none (fun z T _ => (@Bool.rec (fun _ => ex_R) (ex_bin V 10 ex_rem nx L S M) (none) (Nat.beq z 0))) S)) L S M = some rM) : ex_A E b H0 G0 ad0 nL p l e R s m args below meth c mc ms rM L S M pc := by
  obtain ⟨z, T, rfl, h⟩ := ex_ls1 h
  obtain ⟨h0, h⟩ := ex_br0 h
  have hz : z ≠ 0 := fun q => by rw [q] at h0; cases h0
  refine z_bin (op := 10) (f := (fun x y => x - x / y * y)) hV (fun y => ¬ y = 0) (fun hP k => lv_irem hx hb hd hP k) (fun a b ha hb hP => ex_remE ha hb (fun q => hP (by rw [q]; rfl))) (fun _ _ _ h => h) k (fun w T' e hw => ?_) hI h
  cases e
  exact fun q => hz (ex_ni hw (by decide) q)
/-- shifts -/
theorem z_bn {ok : Nat → Nat → Bool} {g : Nat → Nat → Nat} {f : Int32 → Int32 → Int32}
    (row : ∀ {x y : Int32} {H : Heap} {locs : List Loc} {cells slots : Nat} {ls : Array Slot} {rest : List Value} {Q : State → Prop}, W p l e R s m args below meth c H locs cells slots Q (F0 m (pc + 1) ls (.int (f x y) :: rest)) → W p l e R s m args below meth c H locs cells slots Q (F0 m pc ls (.int y :: .int x :: rest)))
    (hg : ∀ a b : Nat, a < 4294967296 → b < 4294967296 → ok a b = true → nI (g a b) = f (nI a) (nI b) ∧ g a b < 4294967296) (k : ex_Z E b H0 G0 ad0 nL p l e R s m args below meth c mc ms rM nx (pc + 1)) : ex_Z E b H0 G0 ad0 nL p l e R s m args below meth c mc ms rM (ex_bn ok g nx) pc := by
  intro L S M h
  obtain ⟨y, T1, rfl, h⟩ := ex_ls1 h
  obtain ⟨x, T, rfl, h⟩ := ex_ls1 h
  obtain ⟨h1, h⟩ := ex_br1 h
  obtain ⟨h2, h⟩ := ex_br1 h
  obtain ⟨h3, h⟩ := ex_br1 h
  have h1 := Nat.le_of_ble_eq_true h1
  have h2 := Nat.le_of_ble_eq_true h2
  obtain ⟨g1, g2⟩ := hg x y (by omega) (by omega) h3
  obtain ⟨hm, hw⟩ := k _ _ M h
  refine ⟨hm, fun G ad ls st H locs cells slots q hc hs => ?_⟩
  have hst := q.2.2.1
  subst hst
  have hT : ∀ z ∈ T, ex_okc G z := fun z hz => q.2.2.2.1 z (List.mem_cons_of_mem _ (List.mem_cons_of_mem _ hz))
  rw [List.map_cons, List.map_cons, ex_v_n (show x < 4294967296 by omega), ex_v_n (show y < 4294967296 by omega)]
  refine row ?_
  rw [← g1]
  exact hw G ad ls _ H locs cells slots (q.stk (by rw [List.map_cons, ex_v_n g2]) (ex_okS (ex_okc_lt (by omega)) hT)) hc hs
theorem ex_sh31 : ∀ b, b < 32 → ((nI b &&& 31).toBitVec.smod 32).toNat = b := by decide +kernel
theorem z_ishl (hx : p.tables.exec = Jvm.exec) (hb : c.code = cc) (hd : decode cc pc = .ok (.ishl, 1)) (k : ex_Z E b H0 G0 ad0 nL p l e R s m args below meth c mc ms rM nx (pc + 1)) : ex_Z E b H0 G0 ad0 nL p l e R s m args below meth c mc ms rM (ex_bn (fun _ b => Nat.ble b 31) (fun a b => Nat.mod (Nat.shiftLeft a b) 4294967296) nx) pc := by
  refine z_bn (f := fun x y => x <<< (y &&& 31)) (fun k => lv_ishl hx hb hd k) (fun a b ha hb h => ⟨?_, Nat.mod_lt _ (by decide)⟩) k
  have hb31 : b < 32 := by have := Nat.le_of_ble_eq_true h; omega
  apply Int32.toBitVec_inj.mp
  apply BitVec.eq_of_toNat_eq
  rw [pk_shl _ _ b (ex_sh31 b hb31), ex_tn ha, ex_tn (Nat.mod_lt _ (by decide))]
  show (a <<< b) % 4294967296 = _
  rw [Nat.shiftLeft_eq]
theorem z_ishr (hx : p.tables.exec = Jvm.exec) (hb : c.code = cc) (hd : decode cc pc = .ok (.ishr, 1)) (k : ex_Z E b H0 G0 ad0 nL p l e R s m args below meth c mc ms rM nx (pc + 1)) : ex_Z E b H0 G0 ad0 nL p l e R s m args below meth c mc ms rM (ex_bn (fun a b => (@Bool.rec (fun _ => Bool) (false) (Nat.ble a 2147483647) (Nat.ble b 31))) Nat.shiftRight nx) pc := by
  refine z_bn (f := fun x y => x >>> (y &&& 31)) (fun k => lv_ishr hx hb hd k) (fun a b ha hb h => ?_) k
  rw [ex_bB] at h
  have hb31 : b < 32 := by
    rcases Nat.lt_or_ge b 32 with q | q
    · exact q
    · rw [if_neg (by rw [Nat.ble_eq]; omega)] at h; cases h
  rw [if_pos (Nat.ble_eq.mpr (by omega))] at h
  have h := Nat.le_of_ble_eq_true h
  refine ⟨?_, Nat.lt_of_le_of_lt (by show a >>> b ≤ a; rw [Nat.shiftRight_eq_div_pow]; exact Nat.div_le_self _ _) ha⟩
  show nI (a >>> b) = nI a >>> (nI b &&& 31)
  rw [pk_shrN (by omega) _ b (ex_sh31 b hb31), Nat.shiftRight_eq_div_pow]
/-- an int operation of one -/
theorem z_un {V : ex_V} {op : Nat} {g : Nat → Nat} {f : Int32 → Int32} (hV : ex_VOK E V)
    (row : ∀ {x : Int32} {H : Heap} {locs : List Loc} {cells slots : Nat} {ls : Array Slot} {rest : List Value} {Q : State → Prop}, W p l e R s m args below meth c H locs cells slots Q (F0 m (pc + 1) ls (.int (f x) :: rest)) → W p l e R s m args below meth c H locs cells slots Q (F0 m pc ls (.int x :: rest)))
    (hg : ∀ a : Nat, a < 4294967296 → nI (g a) = f (nI a) ∧ g a < 4294967296) (ht : ∀ a r, ex_told E op a 0 r → ex_iv E r = f (ex_iv E a)) (k : ex_Z E b H0 G0 ad0 nL p l e R s m args below meth c mc ms rM nx (pc + 1))
    {L : Nat} {S : List Nat} {M : Nat} (hI : ∀ z ∈ S.take 1, ex_tI z = true) (h : ex_un V op g nx L S M = some rM) : ex_A E b H0 G0 ad0 nL p l e R s m args below meth c mc ms rM L S M pc := by
  obtain ⟨x, T, rfl, h⟩ := ex_ls1 h
  have hx' : ex_tI x = true := hI x (by simp)
  rcases ex_br2 h with ⟨h1, h⟩ | ⟨h1, h⟩
  · have h1 := Nat.le_of_ble_eq_true h1
    obtain ⟨g1, g2⟩ := hg x (by omega)
    obtain ⟨hm, hw⟩ := k _ _ M h
    refine ⟨hm, fun G ad ls st H locs cells slots q hc hs => ?_⟩
    have hst := q.2.2.1
    subst hst
    have hT : ∀ z ∈ T, ex_okc G z := fun z hz => q.2.2.2.1 z (List.mem_cons_of_mem _ hz)
    rw [List.map_cons, ex_v_n (show x < 4294967296 by omega)]
    refine row ?_
    rw [← g1]
    exact hw G ad ls _ H locs cells slots (q.stk (by rw [List.map_cons, ex_v_n g2]) (ex_okS (ex_okc_lt (by omega)) hT)) hc hs
  · obtain ⟨r, hr, h2⟩ := ex_op1 h
    obtain ⟨hri, h4⟩ := ex_br1 h2
    obtain ⟨hm, hw⟩ := k _ _ M h4
    refine ⟨hm, fun G ad ls st H locs cells slots q hc hs => ?_⟩
    have hst := q.2.2.1
    subst hst
    have hT : ∀ z ∈ T, ex_okc G z := fun z hz => q.2.2.2.1 z (List.mem_cons_of_mem _ hz)
    rw [List.map_cons, ex_v_I hx']
    refine row ?_
    rw [← ht _ _ (hV.2 _ _ _ _ hr)]
    exact hw G ad ls _ H locs cells slots (q.stk (by rw [List.map_cons, ex_v_I hri]) (ex_okS (ex_okc_lt (ex_I_lt hri).2) hT)) hc hs
theorem z_ineg {V : ex_V} (hx : p.tables.exec = Jvm.exec) (hb : c.code = cc) (hV : ex_VOK E V) (hd : decode cc pc = .ok (.ineg, 1)) (k : ex_Z E b H0 G0 ad0 nL p l e R s m args below meth c mc ms rM nx (pc + 1)) {L : Nat} {S : List Nat} {M : Nat} (hI : ∀ z ∈ S.take 1, ex_tI z = true) (h : ex_un V 11 ex_ng nx L S M = some rM) : ex_A E b H0 G0 ad0 nL p l e R s m args below meth c mc ms rM L S M pc :=
  z_un (op := 11) (f := fun x => -x) hV (fun k => lv_ineg hx hb hd k) (fun a ha => ⟨ex_neg (Nat.le_of_lt ha), Nat.mod_lt _ (by decide)⟩) (fun _ _ h => h) k hI h
theorem z_i2c {V : ex_V} (hx : p.tables.exec = Jvm.exec) (hb : c.code = cc) (hV : ex_VOK E V) (hd : decode cc pc = .ok (.i2c, 1)) (k : ex_Z E b H0 G0 ad0 nL p l e R s m args below meth c mc ms rM nx (pc + 1)) {L : Nat} {S : List Nat} {M : Nat} (hI : ∀ z ∈ S.take 1, ex_tI z = true) (h : ex_un V 12 (fun a => Nat.mod a 65536) nx L S M = some rM) : ex_A E b H0 G0 ad0 nL p l e R s m args below meth c mc ms rM L S M pc := by
  refine z_un (op := 12) (f := fun x => (x.toUInt32 % 65536).toInt32) hV (fun k => lv_i2c hx hb hd rfl k) (fun a ha => ⟨?_, Nat.lt_trans (Nat.mod_lt _ (by decide)) (by decide)⟩) (fun _ _ h => h) k hI h
  show nI (a % 65536) = _
  rw [pk_char, ex_tn ha]
theorem z_i2b {V : ex_V} (hx : p.tables.exec = Jvm.exec) (hb : c.code = cc) (hV : ex_VOK E V) (hd : decode cc pc = .ok (.i2b, 1)) (k : ex_Z E b H0 G0 ad0 nL p l e R s m args below meth c mc ms rM nx (pc + 1)) {L : Nat} {S : List Nat} {M : Nat} (hI : ∀ z ∈ S.take 1, ex_tI z = true)
    (h : ex_un V 13 (fun a => (@Bool.rec (fun _ => Nat) (Nat.add (Nat.mod a 256) 4294967040) (Nat.mod a 256) (Nat.ble (Nat.mod a 256) 127))) nx L S M = some rM) : ex_A E b H0 G0 ad0 nL p l e R s m args below meth c mc ms rM L S M pc := by
  refine z_un (op := 13) (f := fun x => x.toInt8.toInt32) hV (fun k => lv_i2b hx hb hd rfl k) (fun a ha => ?_) (fun _ _ h => h) k hI h
  have hm : a % 256 < 256 := Nat.mod_lt _ (by decide)
  rw [ex_i2bE, ex_bN]
  show nI (if Nat.ble (a % 256) 127 = true then a % 256 else a % 256 + 4294967040) = _ ∧ (if Nat.ble (a % 256) 127 = true then a % 256 else a % 256 + 4294967040) < 4294967296
  rw [Nat.ble_eq]
  refine ⟨rfl, ?_⟩
  split <;> omega
/-- one value for n, by its row -/
theorem z_one {n : Nat} {S T : List Nat} {r : Nat} {L M : Nat} (hT : ∀ z ∈ T, z ∈ S) (hr : ∀ G, (∀ z ∈ S, ex_okc G z) → ex_okc G r) (k : ex_Z E b H0 G0 ad0 nL p l e R s m args below meth c mc ms rM nx (pc + n)) (h : nx L (r :: T) M = some rM)
    (row : ∀ {ad : Nat → Nat} {H : Heap} {locs : List Loc} {cells slots : Nat} {ls : Array Slot} {Q : State → Prop}, W p l e R s m args below meth c H locs cells slots Q (F0 m (pc + n) ls (ex_v E ad r :: T.map (ex_v E ad))) → W p l e R s m args below meth c H locs cells slots Q (F0 m pc ls (S.map (ex_v E ad)))) : ex_A E b H0 G0 ad0 nL p l e R s m args below meth c mc ms rM L S M pc := by
  obtain ⟨hm, hw⟩ := k _ _ M h
  refine ⟨hm, fun G ad ls st H locs cells slots q hc hs => ?_⟩
  have hst := q.2.2.1
  subst hst
  refine row ?_
  exact hw G ad ls _ H locs cells slots (q.stk rfl (ex_okS (hr G q.2.2.2.1) (fun z hz => q.2.2.2.1 z (hT z hz)))) hc hs
theorem z_i2l (hx : p.tables.exec = Jvm.exec) (hb : c.code = cc) (hd : decode cc pc = .ok (.i2l, 1)) (k : ex_Z E b H0 G0 ad0 nL p l e R s m args below meth c mc ms rM nx (pc + 1)) :
    ex_Z E b H0 G0 ad0 nL p l e R s m args below meth c mc ms rM (fun L S M => (@List.rec Nat (fun _ => ex_R) none (fun a T _ => (@Bool.rec (fun _ => ex_R) ((@Bool.rec (fun _ => ex_R) ((@Bool.rec (fun _ => ex_R) (none) ((@Bool.rec (fun _ => ex_R) (none) (nx L (Nat.add 64424509439 a :: T) M) (Nat.ble a 4295032832))) (ex_tI a))) (nx L (Nat.add 408021893120 a :: T) M) (Nat.ble a 4294967295))) (nx L (Nat.add 412316860416 a :: T) M) (Nat.ble a 2147483647))) S)) pc := by
  intro L S M h
  obtain ⟨a, T, rfl, h⟩ := ex_ls1 h
  have sub : ∀ z ∈ T, z ∈ a :: T := fun z hz => List.mem_cons_of_mem _ hz
  have big : ∀ r : Nat, 412316860416 - 4294967296 ≤ r → r ≤ 412316860416 + 4294967296 → (r = a + 412316860416 ∧ a < 2147483648 ∨ (r + 4294967296 = a + 412316860416 ∧ 2147483648 ≤ a ∧ a < 4294967296)) → nx L (r :: T) M = some rM → ex_A E b H0 G0 ad0 nL p l e R s m args below meth c mc ms rM L (a :: T) M pc := fun r r1 r2 hr h => by
    have hl : ex_isL r = true := ex_isL_iff.mpr (by omega)
    have ha : a < 4294967296 := by omega
    refine z_one sub (fun G _ => ex_okc_ge (by omega)) k h (fun k => ?_)
    rw [List.map_cons, ex_v_n ha]
    rw [ex_v_L (ex_tL_iff.mpr (Or.inl (ex_isL_iff.mp hl)))] at k
    refine lv_i2l hx hb hd (Int64.toInt_inj.mp ?_) k
    rw [Int32.toInt_toInt64, ex_lvL hl, ex_ti ha]
    split <;> omega
  rcases ex_br2 h with ⟨h1, h⟩ | ⟨h1, h⟩
  · have h1 := Nat.le_of_ble_eq_true h1
    exact big (412316860416 + a) (by omega) (by omega) (Or.inl ⟨Nat.add_comm _ _, by omega⟩) h
  · have h1' : ¬ a ≤ 2147483647 := fun q => by rw [Nat.ble_eq_true_of_le q] at h1; cases h1
    rcases ex_br2 h with ⟨h2, h⟩ | ⟨h2, h⟩
    · have h2 := Nat.le_of_ble_eq_true h2
      exact big (408021893120 + a) (by omega) (by omega) (Or.inr ⟨by omega, by omega, by omega⟩) h
    · obtain ⟨h3, h⟩ := ex_br1 h
      obtain ⟨h4, h⟩ := ex_br1 h
      have h4 := Nat.le_of_ble_eq_true h4
      have h2' : ¬ a ≤ 4294967295 := fun q => by rw [Nat.ble_eq_true_of_le q] at h2; cases h2
      have h3' := ex_tI_iff.mp h3
      have hh : nx L ((64424509439 + a) :: T) M = some rM := h
      refine z_one sub (fun G _ => ex_okc_ge (by omega)) k hh (fun k => ?_)
      rw [List.map_cons, ex_v_I h3]
      have e : (64424509439 + a) - 68719476736 = a - 4294967297 := by omega
      have hr : 68719476736 ≤ 64424509439 + a ∧ 64424509439 + a ≤ 68719542271 := by omega
      rw [ex_v_L (ex_tL_iff.mpr (Or.inr hr))] at k
      refine lv_i2l hx hb hd ?_ k
      unfold ex_iv ex_lv
      rw [if_neg (by omega), if_pos hr, e]
end
