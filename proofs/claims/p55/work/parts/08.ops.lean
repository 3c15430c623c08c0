/-! operations, branches, returns -/
section
variable {E : ex_G} {b : Nat} {H0 : Heap} {G0 : List Nat} {ad0 : Nat → Nat} {nL : Nat} {p : Program} {l : Launch} {e : Env} {R : Room} {s : State} {m : MethodId} {args : Array Value} {below : List Frame} {meth : Method} {c : Code} {mc ms : Nat} {rM : Nat × Nat} {cc : ByteArray} {pc : Nat} {nx : ex_K}
theorem z_iadd {V : ex_V} (hx : p.tables.exec = Jvm.exec) (hb : c.code = cc) (hV : ex_VOK E V) (hd : decode cc pc = .ok (.iadd, 1)) (k : ex_Z E b H0 G0 ad0 nL p l e R s m args below meth c mc ms rM nx (pc + 1)) {L : Nat} {S : List Nat} {M : Nat} (hI : ∀ z ∈ S.take 2, ex_tI z = true) (h : ex_bin V 3 (fun a b => Nat.mod (Nat.add a b) 4294967296) nx L S M = some rM) : ex_A E b H0 G0 ad0 nL p l e R s m args below meth c mc ms rM L S M pc :=
  z_bin (op := 3) (f := (· + ·)) hV (fun _ => True) (fun _ k => lv_iadd hx hb hd k) (fun a b _ _ _ => ⟨ex_add a b, Nat.mod_lt _ (by decide)⟩) (fun _ _ _ h => ⟨trivial, h⟩) k (fun _ _ _ _ => trivial) hI h
theorem z_isub {V : ex_V} (hx : p.tables.exec = Jvm.exec) (hb : c.code = cc) (hV : ex_VOK E V) (hd : decode cc pc = .ok (.isub, 1)) (k : ex_Z E b H0 G0 ad0 nL p l e R s m args below meth c mc ms rM nx (pc + 1)) {L : Nat} {S : List Nat} {M : Nat} (hI : ∀ z ∈ S.take 2, ex_tI z = true) (h : ex_bin V 4 (fun a b => Nat.mod (Nat.add a (Nat.sub 4294967296 b)) 4294967296) nx L S M = some rM) : ex_A E b H0 G0 ad0 nL p l e R s m args below meth c mc ms rM L S M pc :=
  z_bin (op := 4) (f := (· - ·)) hV (fun _ => True) (fun _ k => lv_isub hx hb hd k) (fun a b _ hb _ => ⟨ex_sub hb, Nat.mod_lt _ (by decide)⟩) (fun _ _ _ h => ⟨trivial, h⟩) k (fun _ _ _ _ => trivial) hI h
theorem z_imul {V : ex_V} (hx : p.tables.exec = Jvm.exec) (hb : c.code = cc) (hV : ex_VOK E V) (hd : decode cc pc = .ok (.imul, 1)) (k : ex_Z E b H0 G0 ad0 nL p l e R s m args below meth c mc ms rM nx (pc + 1)) {L : Nat} {S : List Nat} {M : Nat} (hI : ∀ z ∈ S.take 2, ex_tI z = true) (h : ex_bin V 5 (fun a b => Nat.mod (Nat.mul a b) 4294967296) nx L S M = some rM) : ex_A E b H0 G0 ad0 nL p l e R s m args below meth c mc ms rM L S M pc :=
  z_bin (op := 5) (f := (· * ·)) hV (fun _ => True) (fun _ k => lv_imul hx hb hd k) (fun a b _ _ _ => ⟨ex_mul a b, Nat.mod_lt _ (by decide)⟩) (fun _ _ _ h => ⟨trivial, h⟩) k (fun _ _ _ _ => trivial) hI h
theorem z_iand {V : ex_V} (hx : p.tables.exec = Jvm.exec) (hb : c.code = cc) (hV : ex_VOK E V) (hd : decode cc pc = .ok (.iand, 1)) (k : ex_Z E b H0 G0 ad0 nL p l e R s m args below meth c mc ms rM nx (pc + 1)) {L : Nat} {S : List Nat} {M : Nat} (hI : ∀ z ∈ S.take 2, ex_tI z = true) (h : ex_bin V 6 Nat.land nx L S M = some rM) : ex_A E b H0 G0 ad0 nL p l e R s m args below meth c mc ms rM L S M pc :=
  z_bin (op := 6) (f := (· &&& ·)) hV (fun _ => True) (fun _ k => lv_iand hx hb hd k) (fun a b ha hb _ => ex_and ha hb) (fun _ _ _ h => ⟨trivial, h⟩) k (fun _ _ _ _ => trivial) hI h
theorem z_ior {V : ex_V} (hx : p.tables.exec = Jvm.exec) (hb : c.code = cc) (hV : ex_VOK E V) (hd : decode cc pc = .ok (.ior, 1)) (k : ex_Z E b H0 G0 ad0 nL p l e R s m args below meth c mc ms rM nx (pc + 1)) {L : Nat} {S : List Nat} {M : Nat} (hI : ∀ z ∈ S.take 2, ex_tI z = true) (h : ex_bin V 7 Nat.lor nx L S M = some rM) : ex_A E b H0 G0 ad0 nL p l e R s m args below meth c mc ms rM L S M pc :=
  z_bin (op := 7) (f := (· ||| ·)) hV (fun _ => True) (fun _ k => lv_ior hx hb hd k) (fun a b ha hb _ => ex_or ha hb) (fun _ _ _ h => ⟨trivial, h⟩) k (fun _ _ _ _ => trivial) hI h
theorem z_ixor {V : ex_V} (hx : p.tables.exec = Jvm.exec) (hb : c.code = cc) (hV : ex_VOK E V) (hd : decode cc pc = .ok (.ixor, 1)) (k : ex_Z E b H0 G0 ad0 nL p l e R s m args below meth c mc ms rM nx (pc + 1)) {L : Nat} {S : List Nat} {M : Nat} (hI : ∀ z ∈ S.take 2, ex_tI z = true) (h : ex_bin V 8 Nat.xor nx L S M = some rM) : ex_A E b H0 G0 ad0 nL p l e R s m args below meth c mc ms rM L S M pc :=
  z_bin (op := 8) (f := (· ^^^ ·)) hV (fun _ => True) (fun _ k => lv_ixor hx hb hd k) (fun a b ha hb _ => ex_xor ha hb) (fun _ _ _ h => ⟨trivial, h⟩) k (fun _ _ _ _ => trivial) hI h
theorem z_idiv {V : ex_V} (hx : p.tables.exec = Jvm.exec) (hb : c.code = cc) (hV : ex_VOK E V) (hd : decode cc pc = .ok (.idiv, 1)) (k : ex_Z E b H0 G0 ad0 nL p l e R s m args below meth c mc ms rM nx (pc + 1)) {L : Nat} {S : List Nat} {M : Nat} (hI : ∀ z ∈ S.take 2, ex_tI z = true)
    (h : (fun L S M => (@List.rec Nat (fun _ => ex_R) none (fun z T _ => (@Bool.rec (fun _ => ex_R) (ex_bin V 9 ex_div nx L S M) (none) (Nat.beq z 0))) S)) L S M = some rM) : ex_A E b H0 G0 ad0 nL p l e R s m args below meth c mc ms rM L S M pc := by
  obtain ⟨z, T, rfl, h⟩ := ex_ls1 h
  obtain ⟨h0, h⟩ := ex_br0 h
  have hz : z ≠ 0 := fun q => by rw [q] at h0; cases h0
  refine z_bin (op := 9) (f := (· / ·)) hV (fun y => ¬ y = 0) (fun hP k => lv_idiv hx hb hd hP k) (fun a b ha hb hP => ex_divE ha hb (fun q => hP (by rw [q]; rfl))) (fun _ _ _ h => h) k (fun w T' e hw => ?_) hI h
  cases e
  exact fun q => hz (ex_ni hw (by decide) q)
theorem z_irem {V : ex_V} (hx : p.tables.exec = Jvm.exec) (hb : c.code = cc) (hV : ex_VOK E V) (hd : decode cc pc = .ok (.irem, 1)) (k : ex_Z E b H0 G0 ad0 nL p l e R s m args below meth c mc ms rM nx (pc + 1)) {L : Nat} {S : List Nat} {M : Nat} (hI : ∀ z ∈ S.take 2, ex_tI z = true)
    (h : (fun L S M => (@List.rec Nat (fun _ => ex_R) none (fun z T _ => (@Bool.rec (fun _ => ex_R) (ex_bin V 10 ex_rem nx L S M) (none) (Nat.beq z 0))) S)) L S M = some rM) : ex_A E b H0 G0 ad0 nL p l e R s m args below meth c mc ms rM L S M pc := by
  obtain ⟨z, T, rfl, h⟩ := ex_ls1 h
  obtain ⟨h0, h⟩ := ex_br0 h
  have hz : z ≠ 0 := fun q => by rw [q] at h0; cases h0
  refine z_bin (op := 10) (f := (fun x y => x - x / y * y)) hV (fun y => ¬ y = 0) (fun hP k => lv_irem hx hb hd hP k) (fun a b ha hb hP => ex_remE ha hb (fun q => hP (by rw [q]; rfl))) (fun _ _ _ h => h) k (fun w T' e hw => ?_) hI h
  cases e
  exact fun q => hz (ex_ni hw (by decide) q)
/-- shifts -/
theorem z_bn {ok : Nat → Nat → Bool} {g : Nat → Nat → Nat} {f : Int32 → Int32 → Int32}
    (row : ∀ {x y : Int32} {H : Heap} {locs : List Loc} {cells slots : Nat} {ls : Array Slot} {rest : List Value} {Q : State → Prop}, W p l e R s m args below meth c H locs cells slots Q (F0 m (pc + 1) ls (.int (f x y) :: rest)) → W p l e R s m args below meth c H locs cells slots Q (F0 m pc ls (.int y :: .int x :: rest)))
    (hg : ∀ a b : Nat, a < 4294967296 → b < 4294967296 → ok a b = true → nI (g a b) = f (nI a) (nI b) ∧ g a b < 4294967296) (k : ex_Z E b H0 G0 ad0 nL p l e R s m args below meth c mc ms rM nx (pc + 1)) : ex_Z E b H0 G0 ad0 nL p l e R s m args below meth c mc ms rM (ex_bn ok g nx) pc := by
  intro L S M h
  obtain ⟨y, T1, rfl, h⟩ := ex_ls1 h
  obtain ⟨x, T, rfl, h⟩ := ex_ls1 h
  obtain ⟨h1, h⟩ := ex_br1 h
  obtain ⟨h2, h⟩ := ex_br1 h
  obtain ⟨h3, h⟩ := ex_br1 h
  have h1 := Nat.le_of_ble_eq_true h1
  have h2 := Nat.le_of_ble_eq_true h2
  obtain ⟨g1, g2⟩ := hg x y (by omega) (by omega) h3
  obtain ⟨hm, hw⟩ := k _ _ M h
  refine ⟨hm, fun G ad ls st H locs cells slots q hc hs => ?_⟩
  have hst := q.2.2.1
  subst hst
  have hT : ∀ z ∈ T, ex_okc G z := fun z hz => q.2.2.2.1 z (List.mem_cons_of_mem _ (List.mem_cons_of_mem _ hz))
  rw [List.map_cons, List.map_cons, ex_v_n (show x < 4294967296 by omega), ex_v_n (show y < 4294967296 by omega)]
  refine row ?_
  rw [← g1]
  exact hw G ad ls _ H locs cells slots (q.stk (by rw [List.map_cons, ex_v_n g2]) (ex_okS (ex_okc_lt (by omega)) hT)) hc hs
theorem ex_sh31 : ∀ b, b < 32 → ((nI b &&& 31).toBitVec.smod 32).toNat = b := by decide +kernel
theorem z_ishl (hx : p.tables.exec = Jvm.exec) (hb : c.code = cc) (hd : decode cc pc = .ok (.ishl, 1)) (k : ex_Z E b H0 G0 ad0 nL p l e R s m args below meth c mc ms rM nx (pc + 1)) : ex_Z E b H0 G0 ad0 nL p l e R s m args below meth c mc ms rM (ex_bn (fun _ b => Nat.ble b 31) (fun a b => Nat.mod (Nat.shiftLeft a b) 4294967296) nx) pc := by
  refine z_bn (f := fun x y => x <<< (y &&& 31)) (fun k => lv_ishl hx hb hd k) (fun a b ha hb h => ⟨?_, Nat.mod_lt _ (by decide)⟩) k
  have hb31 : b < 32 := by have := Nat.le_of_ble_eq_true h; omega
  apply Int32.toBitVec_inj.mp
  apply BitVec.eq_of_toNat_eq
  rw [pk_shl _ _ b (ex_sh31 b hb31), ex_tn ha]
  refine (ex_tn (n := Nat.mod (Nat.shiftLeft a b) 4294967296) (Nat.mod_lt _ (by decide))).trans ?_
  show (a <<< b) % 4294967296 = _
  rw [Nat.shiftLeft_eq]
theorem z_ishr (hx : p.tables.exec = Jvm.exec) (hb : c.code = cc) (hd : decode cc pc = .ok (.ishr, 1)) (k : ex_Z E b H0 G0 ad0 nL p l e R s m args below meth c mc ms rM nx (pc + 1)) : ex_Z E b H0 G0 ad0 nL p l e R s m args below meth c mc ms rM (ex_bn (fun a b => (@Bool.rec (fun _ => Bool) (false) (Nat.ble a 2147483647) (Nat.ble b 31))) Nat.shiftRight nx) pc := by
  refine z_bn (f := fun x y => x >>> (y &&& 31)) (fun k => lv_ishr hx hb hd k) (fun a b ha hb h => ?_) k
  rw [ex_bB] at h
  have hb31 : b < 32 := by
    rcases Nat.lt_or_ge b 32 with q | q
    · exact q
    · rw [if_neg (by rw [Nat.ble_eq]; omega)] at h; cases h
  rw [if_pos (Nat.ble_eq.mpr (by omega))] at h
  have h := Nat.le_of_ble_eq_true h
  refine ⟨?_, Nat.lt_of_le_of_lt (by show a >>> b ≤ a; rw [Nat.shiftRight_eq_div_pow]; exact Nat.div_le_self _ _) ha⟩
  show nI (a >>> b) = nI a >>> (nI b &&& 31)
  rw [pk_shrN (by omega) _ b (ex_sh31 b hb31), Nat.shiftRight_eq_div_pow]
/-- an int operation of one -/
theorem z_un {V : ex_V} {op : Nat} {g : Nat → Nat} {f : Int32 → Int32} (hV : ex_VOK E V)
    (row : ∀ {x : Int32} {H : Heap} {locs : List Loc} {cells slots : Nat} {ls : Array Slot} {rest : List Value} {Q : State → Prop}, W p l e R s m args below meth c H locs cells slots Q (F0 m (pc + 1) ls (.int (f x) :: rest)) → W p l e R s m args below meth c H locs cells slots Q (F0 m pc ls (.int x :: rest)))
    (hg : ∀ a : Nat, a < 4294967296 → nI (g a) = f (nI a) ∧ g a < 4294967296) (ht : ∀ a r, ex_told E op a 0 r → ex_iv E r = f (ex_iv E a)) (k : ex_Z E b H0 G0 ad0 nL p l e R s m args below meth c mc ms rM nx (pc + 1))
    {L : Nat} {S : List Nat} {M : Nat} (hI : ∀ z ∈ S.take 1, ex_tI z = true) (h : ex_un V op g nx L S M = some rM) : ex_A E b H0 G0 ad0 nL p l e R s m args below meth c mc ms rM L S M pc := by
  obtain ⟨x, T, rfl, h⟩ := ex_ls1 h
  have hx' : ex_tI x = true := hI x (by simp)
  rcases ex_br2 h with ⟨h1, h⟩ | ⟨h1, h⟩
  · have h1 := Nat.le_of_ble_eq_true h1
    obtain ⟨g1, g2⟩ := hg x (by omega)
    obtain ⟨hm, hw⟩ := k _ _ M h
    refine ⟨hm, fun G ad ls st H locs cells slots q hc hs => ?_⟩
    have hst := q.2.2.1
    subst hst
    have hT : ∀ z ∈ T, ex_okc G z := fun z hz => q.2.2.2.1 z (List.mem_cons_of_mem _ hz)
    rw [List.map_cons, ex_v_n (show x < 4294967296 by omega)]
    refine row ?_
    rw [← g1]
    exact hw G ad ls _ H locs cells slots (q.stk (by rw [List.map_cons, ex_v_n g2]) (ex_okS (ex_okc_lt (by omega)) hT)) hc hs
  · obtain ⟨r, hr, h2⟩ := ex_op1 h
    obtain ⟨hri, h4⟩ := ex_br1 h2
    obtain ⟨hm, hw⟩ := k _ _ M h4
    refine ⟨hm, fun G ad ls st H locs cells slots q hc hs => ?_⟩
    have hst := q.2.2.1
    subst hst
    have hT : ∀ z ∈ T, ex_okc G z := fun z hz => q.2.2.2.1 z (List.mem_cons_of_mem _ hz)
    rw [List.map_cons, ex_v_I hx']
    refine row ?_
    rw [← ht _ _ (hV.2 _ _ _ _ (ex_I_lt hx').1 (by decide) hr)]
    exact hw G ad ls _ H locs cells slots (q.stk (by rw [List.map_cons, ex_v_I hri]) (ex_okS (ex_okc_lt (ex_I_lt hri).2) hT)) hc hs
theorem z_ineg {V : ex_V} (hx : p.tables.exec = Jvm.exec) (hb : c.code = cc) (hV : ex_VOK E V) (hd : decode cc pc = .ok (.ineg, 1)) (k : ex_Z E b H0 G0 ad0 nL p l e R s m args below meth c mc ms rM nx (pc + 1)) {L : Nat} {S : List Nat} {M : Nat} (hI : ∀ z ∈ S.take 1, ex_tI z = true) (h : ex_un V 11 ex_ng nx L S M = some rM) : ex_A E b H0 G0 ad0 nL p l e R s m args below meth c mc ms rM L S M pc :=
  z_un (op := 11) (f := fun x => -x) hV (fun k => lv_ineg hx hb hd k) (fun a ha => ⟨ex_neg (Nat.le_of_lt ha), Nat.mod_lt _ (by decide)⟩) (fun _ _ h => h) k hI h
theorem z_i2c {V : ex_V} (hx : p.tables.exec = Jvm.exec) (hb : c.code = cc) (hV : ex_VOK E V) (hd : decode cc pc = .ok (.i2c, 1)) (k : ex_Z E b H0 G0 ad0 nL p l e R s m args below meth c mc ms rM nx (pc + 1)) {L : Nat} {S : List Nat} {M : Nat} (hI : ∀ z ∈ S.take 1, ex_tI z = true) (h : ex_un V 12 (fun a => Nat.mod a 65536) nx L S M = some rM) : ex_A E b H0 G0 ad0 nL p l e R s m args below meth c mc ms rM L S M pc := by
  refine z_un (op := 12) (f := fun x => (x.toUInt32 % 65536).toInt32) hV (fun k => lv_i2c hx hb hd rfl k) (fun a ha => ⟨?_, Nat.lt_trans (Nat.mod_lt _ (by decide)) (by decide)⟩) (fun _ _ h => h) k hI h
  show nI (a % 65536) = _
  rw [pk_char, ex_tn ha]
theorem z_i2b {V : ex_V} (hx : p.tables.exec = Jvm.exec) (hb : c.code = cc) (hV : ex_VOK E V) (hd : decode cc pc = .ok (.i2b, 1)) (k : ex_Z E b H0 G0 ad0 nL p l e R s m args below meth c mc ms rM nx (pc + 1)) {L : Nat} {S : List Nat} {M : Nat} (hI : ∀ z ∈ S.take 1, ex_tI z = true)
    (h : ex_un V 13 (fun a => (@Bool.rec (fun _ => Nat) (Nat.add (Nat.mod a 256) 4294967040) (Nat.mod a 256) (Nat.ble (Nat.mod a 256) 127))) nx L S M = some rM) : ex_A E b H0 G0 ad0 nL p l e R s m args below meth c mc ms rM L S M pc := by
  refine z_un (op := 13) (f := fun x => x.toInt8.toInt32) hV (fun k => lv_i2b hx hb hd rfl k) (fun a ha => ?_) (fun _ _ h => h) k hI h
  have hm : a % 256 < 256 := Nat.mod_lt _ (by decide)
  rw [ex_i2bE, ex_bN]
  show nI (if Nat.ble (a % 256) 127 = true then a % 256 else a % 256 + 4294967040) = _ ∧ (if Nat.ble (a % 256) 127 = true then a % 256 else a % 256 + 4294967040) < 4294967296
  by_cases h7 : a % 256 ≤ 127
  · rw [if_pos (Nat.ble_eq.mpr h7), if_pos h7]
    exact ⟨rfl, by omega⟩
  · rw [if_neg (fun q => h7 (Nat.ble_eq.mp q)), if_neg h7]
    exact ⟨rfl, by omega⟩
/-- one value for n, by its row -/
theorem z_one {n : Nat} {S T : List Nat} {r : Nat} {L M : Nat} (hT : ∀ z ∈ T, z ∈ S) (hr : ∀ G, (∀ z ∈ S, ex_okc G z) → ex_okc G r) (k : ex_Z E b H0 G0 ad0 nL p l e R s m args below meth c mc ms rM nx (pc + n)) (h : nx L (r :: T) M = some rM)
    (row : ∀ {ad : Nat → Nat} {H : Heap} {locs : List Loc} {cells slots : Nat} {ls : Array Slot} {Q : State → Prop}, W p l e R s m args below meth c H locs cells slots Q (F0 m (pc + n) ls (ex_v E ad r :: T.map (ex_v E ad))) → W p l e R s m args below meth c H locs cells slots Q (F0 m pc ls (S.map (ex_v E ad)))) : ex_A E b H0 G0 ad0 nL p l e R s m args below meth c mc ms rM L S M pc := by
  obtain ⟨hm, hw⟩ := k _ _ M h
  refine ⟨hm, fun G ad ls st H locs cells slots q hc hs => ?_⟩
  have hst := q.2.2.1
  subst hst
  refine row ?_
  exact hw G ad ls _ H locs cells slots (q.stk rfl (ex_okS (hr G q.2.2.2.1) (fun z hz => q.2.2.2.1 z (hT z hz)))) hc hs
theorem z_i2l (hx : p.tables.exec = Jvm.exec) (hb : c.code = cc) (hd : decode cc pc = .ok (.i2l, 1)) (k : ex_Z E b H0 G0 ad0 nL p l e R s m args below meth c mc ms rM nx (pc + 1)) :
    ex_Z E b H0 G0 ad0 nL p l e R s m args below meth c mc ms rM (fun L S M => (@List.rec Nat (fun _ => ex_R) none (fun a T _ => (@Bool.rec (fun _ => ex_R) ((@Bool.rec (fun _ => ex_R) ((@Bool.rec (fun _ => ex_R) (none) ((@Bool.rec (fun _ => ex_R) (none) (nx L (Nat.add 64424509439 a :: T) M) (Nat.ble a 4295032832))) (ex_tI a))) (nx L (Nat.add 408021893120 a :: T) M) (Nat.ble a 4294967295))) (nx L (Nat.add 412316860416 a :: T) M) (Nat.ble a 2147483647))) S)) pc := by
  intro L S M h
  obtain ⟨a, T, rfl, h⟩ := ex_ls1 h
  have sub : ∀ z ∈ T, z ∈ a :: T := fun z hz => List.mem_cons_of_mem _ hz
  have big : ∀ r : Nat, 412316860416 - 4294967296 ≤ r → r ≤ 412316860416 + 4294967296 → (r = a + 412316860416 ∧ a < 2147483648 ∨ (r + 4294967296 = a + 412316860416 ∧ 2147483648 ≤ a ∧ a < 4294967296)) → nx L (r :: T) M = some rM → ex_A E b H0 G0 ad0 nL p l e R s m args below meth c mc ms rM L (a :: T) M pc := fun r r1 r2 hr h => by
    have hl : ex_isL r = true := ex_isL_iff.mpr (by omega)
    have ha : a < 4294967296 := by omega
    refine z_one sub (fun G _ => ex_okc_ge (by omega)) k h (fun k => ?_)
    rw [List.map_cons, ex_v_n ha]
    rw [ex_v_L (ex_tL_iff.mpr (Or.inl (ex_isL_iff.mp hl)))] at k
    refine lv_i2l hx hb hd (Int64.toInt_inj.mp ?_) k
    rw [Int32.toInt_toInt64, ex_lvL hl, ex_ti ha]
    split <;> omega
  rcases ex_br2 h with ⟨h1, h⟩ | ⟨h1, h⟩
  · have h1 := Nat.le_of_ble_eq_true h1
    exact big (412316860416 + a) (by omega) (by omega) (Or.inl ⟨Nat.add_comm _ _, by omega⟩) h
  · have h1' : ¬ a ≤ 2147483647 := fun q => by rw [Nat.ble_eq_true_of_le q] at h1; cases h1
    rcases ex_br2 h with ⟨h2, h⟩ | ⟨h2, h⟩
    · have h2 := Nat.le_of_ble_eq_true h2
      exact big (408021893120 + a) (by omega) (by omega) (Or.inr ⟨by omega, by omega, by omega⟩) h
    · obtain ⟨h3, h⟩ := ex_br1 h
      obtain ⟨h4, h⟩ := ex_br1 h
      have h4 := Nat.le_of_ble_eq_true h4
      have h2' : ¬ a ≤ 4294967295 := fun q => by rw [Nat.ble_eq_true_of_le q] at h2; cases h2
      have h3' := ex_tI_iff.mp h3
      have hh : nx L ((64424509439 + a) :: T) M = some rM := h
      refine z_one sub (fun G _ => ex_okc_ge (by omega)) k hh (fun k => ?_)
      rw [List.map_cons, ex_v_I h3]
      have e : (64424509439 + a) - 68719476736 = a - 4294967297 := by omega
      have hr : 68719476736 ≤ 64424509439 + a ∧ 64424509439 + a ≤ 68719542271 := by omega
      rw [ex_v_L (ex_tL_iff.mpr (Or.inr hr))] at k
      refine lv_i2l hx hb hd ?_ k
      unfold ex_iv ex_lv
      rw [if_neg (by omega), if_pos hr, e]
theorem z_i2d (hx : p.tables.exec = Jvm.exec) (hb : c.code = cc) (hd : decode cc pc = .ok (.i2d, 1)) (k : ex_Z E b H0 G0 ad0 nL p l e R s m args below meth c mc ms rM nx (pc + 1)) : ex_Z E b H0 G0 ad0 nL p l e R s m args below meth c mc ms rM (fun L S M => (@List.rec Nat (fun _ => ex_R) none (fun a T _ => (@Bool.rec (fun _ => ex_R) (none) (nx L (34359738369 :: T) M) (Nat.beq a 0))) S)) pc := by
  intro L S M h
  obtain ⟨a, T, rfl, h⟩ := ex_ls1 h
  obtain ⟨h1, h⟩ := ex_br1 h
  have e : a = 0 := Nat.eq_of_beq_eq_true h1
  subst e
  refine z_one (fun z hz => List.mem_cons_of_mem _ hz) (fun G _ => ex_okc_ge (by decide)) k h (fun k => ?_)
  refine lv_i2d hx hb hd ?_
  rw [show FP.i2d (nI 0) = 0 by decide +kernel]
  exact k
theorem z_l2d (hx : p.tables.exec = Jvm.exec) (hb : c.code = cc) (hd : decode cc pc = .ok (.l2d, 1)) (k : ex_Z E b H0 G0 ad0 nL p l e R s m args below meth c mc ms rM nx (pc + 1)) : ex_Z E b H0 G0 ad0 nL p l e R s m args below meth c mc ms rM (fun L S M => (@List.rec Nat (fun _ => ex_R) none (fun a T _ => (@Bool.rec (fun _ => ex_R) (none) (nx L (34359738369 :: T) M) (Nat.beq a 412316860416))) S)) pc := by
  intro L S M h
  obtain ⟨a, T, rfl, h⟩ := ex_ls1 h
  obtain ⟨h1, h⟩ := ex_br1 h
  have e : a = 412316860416 := Nat.eq_of_beq_eq_true h1
  subst e
  refine z_one (fun z hz => List.mem_cons_of_mem _ hz) (fun G _ => ex_okc_ge (by decide)) k h (fun k => ?_)
  have e0 : ∀ (ad : Nat → Nat), ex_v E ad 412316860416 = .long 0 := fun ad => by rw [ex_v_L (by decide +kernel)]; rfl
  rw [List.map_cons, e0]
  refine lv_l2d hx hb hd ?_
  rw [show FP.l2d 0 = 0 by decide +kernel]
  exact k
theorem z_ddiv (hx : p.tables.exec = Jvm.exec) (hb : c.code = cc) (hd : decode cc pc = .ok (.ddiv, 1)) (k : ex_Z E b H0 G0 ad0 nL p l e R s m args below meth c mc ms rM nx (pc + 1)) : ex_Z E b H0 G0 ad0 nL p l e R s m args below meth c mc ms rM (fun L S M => (@List.rec Nat (fun _ => ex_R) none (fun b T_0 _ => (@List.rec Nat (fun _ => ex_R) none (fun a T _ => (@Bool.rec (fun _ => ex_R) (none) ((@Bool.rec (fun _ => ex_R) (none) (nx L (34359738369 :: T) M) (Nat.beq b 34359738370))) (Nat.beq a 34359738369))) T_0)) S)) pc := by
  intro L S M h
  obtain ⟨y, T1, rfl, h⟩ := ex_ls1 h
  obtain ⟨x, T, rfl, h⟩ := ex_ls1 h
  obtain ⟨h1, h⟩ := ex_br1 h
  obtain ⟨h2, h⟩ := ex_br1 h
  have e : x = 34359738369 := Nat.eq_of_beq_eq_true h1
  have e2 : y = 34359738370 := Nat.eq_of_beq_eq_true h2
  subst e; subst e2
  refine z_one (fun z hz => List.mem_cons_of_mem _ (List.mem_cons_of_mem _ hz)) (fun G _ => ex_okc_ge (by decide)) k h (fun k => ?_)
  refine lv_ddiv hx hb hd (by unfold vf_n64; decide +kernel) ?_
  rw [show FP.ddiv 0 4620693217682128896 = 0 by decide +kernel]
  exact k
theorem z_dcmp {op : CmpOp} (hx : p.tables.exec = Jvm.exec) (hb : c.code = cc) (hd : decode cc pc = .ok (.dcmp op, 1)) (k : ex_Z E b H0 G0 ad0 nL p l e R s m args below meth c mc ms rM nx (pc + 1)) : ex_Z E b H0 G0 ad0 nL p l e R s m args below meth c mc ms rM (fun L S M => (@List.rec Nat (fun _ => ex_R) none (fun b T_0 _ => (@List.rec Nat (fun _ => ex_R) none (fun a T _ => (@Bool.rec (fun _ => ex_R) (none) ((@Bool.rec (fun _ => ex_R) (none) (nx L (0 :: T) M) (Nat.beq b 34359738369))) (Nat.beq a 34359738369))) T_0)) S)) pc := by
  intro L S M h
  obtain ⟨y, T1, rfl, h⟩ := ex_ls1 h
  obtain ⟨x, T, rfl, h⟩ := ex_ls1 h
  obtain ⟨h1, h⟩ := ex_br1 h
  obtain ⟨h2, h⟩ := ex_br1 h
  have e : x = 34359738369 := Nat.eq_of_beq_eq_true h1
  have e2 : y = 34359738369 := Nat.eq_of_beq_eq_true h2
  subst e; subst e2
  refine z_one (fun z hz => List.mem_cons_of_mem _ (List.mem_cons_of_mem _ hz)) (fun G _ => ex_okc_lt (by decide)) k h (fun k => ?_)
  refine lv_dcmp hx hb hd ?_
  rw [show Op.cmpValue (FP.dcmp 0 0) op = nI 0 by cases op <;> decide +kernel]
  exact k
theorem z_ladd (hx : p.tables.exec = Jvm.exec) (hb : c.code = cc) (hd : decode cc pc = .ok (.ladd, 1)) (k : ex_Z E b H0 G0 ad0 nL p l e R s m args below meth c mc ms rM nx (pc + 1)) : ex_Z E b H0 G0 ad0 nL p l e R s m args below meth c mc ms rM (fun L S M => (@List.rec Nat (fun _ => ex_R) none (fun b T_0 _ => (@List.rec Nat (fun _ => ex_R) none (fun a T _ => (@Bool.rec (fun _ => ex_R) (none) ((@Bool.rec (fun _ => ex_R) (none) ((@Bool.rec (fun _ => ex_R) (none) ((@Bool.rec (fun _ => ex_R) (none) (nx L (Nat.sub (Nat.add a b) 412316860416 :: T) M) (Nat.ble (Nat.add a b) 962072674303))) (Nat.ble 687194767360 (Nat.add a b)))) (ex_isL b))) (ex_isL a))) T_0)) S)) pc := by
  intro L S M h
  obtain ⟨y, T1, rfl, h⟩ := ex_ls1 h
  obtain ⟨x, T, rfl, h⟩ := ex_ls1 h
  obtain ⟨h1, h⟩ := ex_br1 h
  obtain ⟨h2, h⟩ := ex_br1 h
  obtain ⟨h3, h⟩ := ex_br1 h
  obtain ⟨h4, h⟩ := ex_br1 h
  have h1' := ex_isL_iff.mp h1
  have h2' := ex_isL_iff.mp h2
  have h3 : 687194767360 ≤ x + y := Nat.le_of_ble_eq_true h3
  have h4 : x + y ≤ 962072674303 := Nat.le_of_ble_eq_true h4
  have h : nx L ((x + y - 412316860416) :: T) M = some rM := h
  have hl : ex_isL (x + y - 412316860416) = true := ex_isL_iff.mpr (by omega)
  refine z_one (fun z hz => List.mem_cons_of_mem _ (List.mem_cons_of_mem _ hz)) (fun G _ => ex_okc_ge (by omega)) k h (fun k => ?_)
  rw [List.map_cons, List.map_cons, ex_v_L (ex_tL_iff.mpr (Or.inl h1')), ex_v_L (ex_tL_iff.mpr (Or.inl h2'))]
  rw [ex_v_L (ex_tL_iff.mpr (Or.inl (ex_isL_iff.mp hl)))] at k
  refine lv_ladd hx hb hd ?_
  rw [show ex_lv E x + ex_lv E y = ex_lv E (x + y - 412316860416) by
    unfold ex_lv
    rw [if_neg (by omega), if_neg (by omega), if_neg (by omega), ← Int64.ofInt_add, show ((x : Int) - 412316860416) + ((y : Int) - 412316860416) = ((x + y - 412316860416 : Nat) : Int) - 412316860416 by omega]]
  exact k
theorem z_lsub (hx : p.tables.exec = Jvm.exec) (hb : c.code = cc) (hd : decode cc pc = .ok (.lsub, 1)) (k : ex_Z E b H0 G0 ad0 nL p l e R s m args below meth c mc ms rM nx (pc + 1)) : ex_Z E b H0 G0 ad0 nL p l e R s m args below meth c mc ms rM (fun L S M => (@List.rec Nat (fun _ => ex_R) none (fun b T_0 _ => (@List.rec Nat (fun _ => ex_R) none (fun a T _ => (@Bool.rec (fun _ => ex_R) (none) ((@Bool.rec (fun _ => ex_R) (none) ((@Bool.rec (fun _ => ex_R) (none) ((@Bool.rec (fun _ => ex_R) (none) (nx L (Nat.sub (Nat.add a 412316860416) b :: T) M) (Nat.ble (Nat.sub (Nat.add a 412316860416) b) 549755813887))) (Nat.ble 274877906944 (Nat.sub (Nat.add a 412316860416) b)))) (ex_isL b))) (ex_isL a))) T_0)) S)) pc := by
  intro L S M h
  obtain ⟨y, T1, rfl, h⟩ := ex_ls1 h
  obtain ⟨x, T, rfl, h⟩ := ex_ls1 h
  obtain ⟨h1, h⟩ := ex_br1 h
  obtain ⟨h2, h⟩ := ex_br1 h
  obtain ⟨h3, h⟩ := ex_br1 h
  obtain ⟨h4, h⟩ := ex_br1 h
  have h1' := ex_isL_iff.mp h1
  have h2' := ex_isL_iff.mp h2
  have h3 : 274877906944 ≤ x + 412316860416 - y := Nat.le_of_ble_eq_true h3
  have h4 : x + 412316860416 - y ≤ 549755813887 := Nat.le_of_ble_eq_true h4
  have h : nx L ((x + 412316860416 - y) :: T) M = some rM := h
  have hl : ex_isL (x + 412316860416 - y) = true := ex_isL_iff.mpr (by omega)
  refine z_one (fun z hz => List.mem_cons_of_mem _ (List.mem_cons_of_mem _ hz)) (fun G _ => ex_okc_ge (by omega)) k h (fun k => ?_)
  rw [List.map_cons, List.map_cons, ex_v_L (ex_tL_iff.mpr (Or.inl h1')), ex_v_L (ex_tL_iff.mpr (Or.inl h2'))]
  rw [ex_v_L (ex_tL_iff.mpr (Or.inl (ex_isL_iff.mp hl)))] at k
  refine lv_lsub hx hb hd ?_
  rw [show ex_lv E x - ex_lv E y = ex_lv E (x + 412316860416 - y) by
    unfold ex_lv
    rw [if_neg (by omega), if_neg (by omega), if_neg (by omega), ← Int64.ofInt_sub, show ((x : Int) - 412316860416) - ((y : Int) - 412316860416) = ((x + 412316860416 - y : Nat) : Int) - 412316860416 by omega]]
  exact k
theorem ex_rnL_ok {V : ex_V} (hV : ex_VOK E V) {v : Nat} {q : Nat × Nat × List Nat} (ht : ex_tL v = true) (h : ex_rnL V v = some q) : (q.1 : Int) ≤ (ex_lv E v).toInt + 2147483648 ∧ (ex_lv E v).toInt + 2147483648 ≤ (q.2.1 : Int) := by
  unfold ex_rnL at h
  cases hi : ex_isL v with
  | true =>
    rw [hi] at h
    have h' : (bif Nat.ble 410169376768 v && Nat.ble v 414464344063 then some (Nat.sub v 410169376768, Nat.sub v 410169376768, ([] : List Nat)) else none) = some q := h
    cases hc : (Nat.ble 410169376768 v && Nat.ble v 414464344063) with
    | false => rw [hc] at h'; cases h'
    | true =>
      rw [hc] at h'
      have e : (v - 410169376768, v - 410169376768, ([] : List Nat)) = q := Option.some.inj h'
      rw [Bool.and_eq_true] at hc
      have c1 := Nat.le_of_ble_eq_true hc.1
      rw [← e, ex_lvL hi]
      dsimp only
      omega
  | false =>
    rw [hi] at h
    have h' : ex_nth V.1 (v - 68719476736) = some q := h
    obtain ⟨a1, a2, -⟩ := hV.1 _ q h'
    have hn : ¬ (274877906944 ≤ v ∧ v ≤ 549755813887) := fun z => by rw [ex_isL_iff.mpr z] at hi; cases hi
    have hr : 68719476736 ≤ v ∧ v ≤ 68719542271 := (ex_tL_iff.mp ht).resolve_left hn
    unfold ex_lv
    rw [if_pos hr, Int32.toInt_toInt64]
    have := ex_rg (E.2.2.2 (v - 68719476736))
    unfold ex_B at a1 a2
    omega
theorem z_lcmp {V : ex_V} (hx : p.tables.exec = Jvm.exec) (hb : c.code = cc) (hV : ex_VOK E V) (hd : decode cc pc = .ok (.lcmp, 1)) (k : ex_Z E b H0 G0 ad0 nL p l e R s m args below meth c mc ms rM nx (pc + 1)) : ex_Z E b H0 G0 ad0 nL p l e R s m args below meth c mc ms rM (fun L S M => (@List.rec Nat (fun _ => ex_R) none (fun b T_0 _ => (@List.rec Nat (fun _ => ex_R) none (fun a T _ => (@Bool.rec (fun _ => ex_R) (ex_lcV V a b nx L T M) ((@Bool.rec (fun _ => ex_R) ((@Bool.rec (fun _ => ex_R) (nx L (1 :: T) M) (nx L (4294967295 :: T) M) (Nat.ble a b))) (nx L (0 :: T) M) (Nat.beq a b))) ((@Bool.rec (fun _ => Bool) (false) (ex_isL b) (ex_isL a))))) T_0)) S)) pc := by
  intro L S M h
  obtain ⟨y, T1, rfl, h⟩ := ex_ls1 h
  obtain ⟨x, T, rfl, h⟩ := ex_ls1 h
  have sub : ∀ z ∈ T, z ∈ y :: x :: T := fun z hz => List.mem_cons_of_mem _ (List.mem_cons_of_mem _ hz)
  have fin : ∀ r, ex_tL x = true → ex_tL y = true → ex_tI r = true → ex_iv E r = lg_cmp (ex_lv E x) (ex_lv E y) → nx L (r :: T) M = some rM → ex_A E b H0 G0 ad0 nL p l e R s m args below meth c mc ms rM L (y :: x :: T) M pc := fun r tx ty hr he h => by
    refine z_one sub (fun G _ => ex_okc_lt (ex_I_lt hr).2) k h (fun k => ?_)
    rw [List.map_cons, List.map_cons, ex_v_L tx, ex_v_L ty]
    refine W.lcmp hx hb hd ?_
    rw [← he, ← ex_v_I (ad := _) hr]
    exact k
  have num : ∀ r, r < 4294967296 → ex_tI r = true := fun r h => ex_tI_iff.mpr (Or.inl h)
  rcases ex_br2 h with ⟨h1, h⟩ | ⟨h1, h⟩
  · rw [ex_bB] at h1
    by_cases hlx : ex_isL x = true
    · rw [if_pos hlx] at h1
      have tx := ex_tL_iff.mpr (Or.inl (ex_isL_iff.mp hlx))
      have ty := ex_tL_iff.mpr (Or.inl (ex_isL_iff.mp h1))
      have ex := ex_lvL (E := E) hlx
      have ey := ex_lvL (E := E) h1
      rcases ex_br2 h with ⟨h2, h⟩ | ⟨h2, h⟩
      · have e : x = y := Nat.eq_of_beq_eq_true h2
        refine fin 0 tx ty (num _ (by decide)) ?_ h
        rw [ex_cmpE, if_pos (by rw [e])]; rfl
      · have hne : x ≠ y := fun q => by rw [q, Nat.beq_refl] at h2; cases h2
        rcases ex_br2 h with ⟨h3, h⟩ | ⟨h3, h⟩
        · have := Nat.le_of_ble_eq_true h3
          refine fin 4294967295 tx ty (num _ (by decide)) ?_ h
          rw [ex_cmpE, if_neg (by omega), if_pos (by omega)]; rfl
        · have : ¬ x ≤ y := fun q => by rw [Nat.ble_eq_true_of_le q] at h3; cases h3
          refine fin 1 tx ty (num _ (by decide)) ?_ h
          rw [ex_cmpE, if_neg (by omega), if_neg (by omega)]; rfl
    · rw [if_neg hlx] at h1; cases h1
  · unfold ex_lcV at h
    cases ht : (ex_tL x && ex_tL y) with
    | false => rw [ht] at h; cases h
    | true =>
      rw [ht] at h
      rw [Bool.and_eq_true] at ht
      obtain ⟨tx, ty⟩ := ht
      dsimp only [cond] at h
      cases r1 : ex_rnL V x with
      | none => rw [r1] at h; cases h
      | some q1 =>
        cases r2 : ex_rnL V y with
        | none => rw [r1, r2] at h; cases h
        | some q2 =>
          rw [r1, r2] at h
          obtain ⟨a1, a2⟩ := ex_rnL_ok hV tx r1
          obtain ⟨b1, b2⟩ := ex_rnL_ok hV ty r2
          dsimp only at h
          cases c1 : Nat.blt q1.2.1 q2.1 with
          | true =>
            rw [c1] at h
            have := ex_blt.mp c1
            refine fin 4294967295 tx ty (num _ (by decide)) ?_ h
            rw [ex_cmpE, if_neg (by omega), if_pos (by omega)]; rfl
          | false =>
            rw [c1] at h
            dsimp only [cond] at h
            cases c2 : Nat.blt q2.2.1 q1.1 with
            | true =>
              rw [c2] at h
              have := ex_blt.mp c2
              refine fin 1 tx ty (num _ (by decide)) ?_ h
              rw [ex_cmpE, if_neg (by omega), if_neg (by omega)]; rfl
            | false =>
              rw [c2] at h
              dsimp only [cond] at h
              obtain ⟨r, hr, h2⟩ := ex_op1 h
              obtain ⟨h3, h4⟩ := ex_br1 h2
              exact fin r tx ty h3 (hV.2 14 x y r (ex_L_lt tx).1 (ex_L_lt ty).1 hr) h4
theorem z_dup (hx : p.tables.exec = Jvm.exec) (hb : c.code = cc) (hE : ex_sv1 E) (hd : decode cc pc = .ok (.dup, 1)) (k : ex_Z E b H0 G0 ad0 nL p l e R s m args below meth c mc ms rM nx (pc + 1)) : ex_Z E b H0 G0 ad0 nL p l e R s m args below meth c mc ms rM (fun L S M => (@List.rec Nat (fun _ => ex_R) none (fun a T _ => (@Bool.rec (fun _ => ex_R) (nx L (a :: S) M) (none) (ex_c2 a))) S)) pc := by
  intro L S M h
  obtain ⟨a, T, rfl, h⟩ := ex_ls1 h
  obtain ⟨h1, h⟩ := ex_br0 h
  refine z_one (fun z hz => hz) (fun G hG => hG a List.mem_cons_self) k h (fun k => ?_)
  exact lv_dup hx hb hd (ex_cat1 hE h1) k
theorem z_pop (hx : p.tables.exec = Jvm.exec) (hb : c.code = cc) (hE : ex_sv1 E) (hd : decode cc pc = .ok (.pop, 1)) (k : ex_Z E b H0 G0 ad0 nL p l e R s m args below meth c mc ms rM nx (pc + 1)) : ex_Z E b H0 G0 ad0 nL p l e R s m args below meth c mc ms rM (fun L S M => (@List.rec Nat (fun _ => ex_R) none (fun a T _ => (@Bool.rec (fun _ => ex_R) (nx L T M) (none) (ex_c2 a))) S)) pc := by
  intro L S M h
  obtain ⟨a, T, rfl, h⟩ := ex_ls1 h
  obtain ⟨h1, h⟩ := ex_br0 h
  obtain ⟨hm, hw⟩ := k _ _ M h
  refine ⟨hm, fun G ad ls st H locs cells slots q hc hs => ?_⟩
  have hst := q.2.2.1
  subst hst
  exact lv_pop hx hb hd (ex_cat1 hE h1) (hw G ad ls _ H locs cells slots (q.stk rfl (fun z hz => q.2.2.2.1 z (List.mem_cons_of_mem _ hz))) hc hs)
theorem z_dup_x1 (hx : p.tables.exec = Jvm.exec) (hb : c.code = cc) (hE : ex_sv1 E) (hd : decode cc pc = .ok (.dup_x1, 1)) (k : ex_Z E b H0 G0 ad0 nL p l e R s m args below meth c mc ms rM nx (pc + 1)) : ex_Z E b H0 G0 ad0 nL p l e R s m args below meth c mc ms rM (fun L S M => (@List.rec Nat (fun _ => ex_R) none (fun b T_0 _ => (@List.rec Nat (fun _ => ex_R) none (fun a T _ => (@Bool.rec (fun _ => ex_R) ((@Bool.rec (fun _ => ex_R) (nx L (b :: a :: b :: T) M) (none) (ex_c2 b))) (none) (ex_c2 a))) T_0)) S)) pc := by
  intro L S M h
  obtain ⟨y, T1, rfl, h⟩ := ex_ls1 h
  obtain ⟨x, T, rfl, h⟩ := ex_ls1 h
  obtain ⟨h1, h⟩ := ex_br0 h
  obtain ⟨h2, h⟩ := ex_br0 h
  refine z_one (T := x :: y :: T) (fun z hz => ?_) (fun G hG => hG y List.mem_cons_self) k h (fun k => ?_)
  · rcases List.mem_cons.mp hz with e | hz
    · rw [e]; exact List.mem_cons_of_mem _ List.mem_cons_self
    · rcases List.mem_cons.mp hz with e | hz
      · rw [e]; exact List.mem_cons_self
      · exact List.mem_cons_of_mem _ (List.mem_cons_of_mem _ hz)
  · exact lv_dup_x1 hx hb hd (ex_cat1 hE h2) (ex_cat1 hE h1) k
theorem z_dup2 (hx : p.tables.exec = Jvm.exec) (hb : c.code = cc) (hE : ex_sv1 E) (hd : decode cc pc = .ok (.dup2, 1)) (k : ex_Z E b H0 G0 ad0 nL p l e R s m args below meth c mc ms rM nx (pc + 1)) : ex_Z E b H0 G0 ad0 nL p l e R s m args below meth c mc ms rM (fun L S M => (@List.rec Nat (fun _ => ex_R) none (fun b T_0 _ => (@List.rec Nat (fun _ => ex_R) none (fun a T _ => (@Bool.rec (fun _ => ex_R) ((@Bool.rec (fun _ => ex_R) (nx L (b :: a :: S) M) (none) (ex_c2 b))) (none) (ex_c2 a))) T_0)) S)) pc := by
  intro L S M h
  obtain ⟨y, T1, rfl, h⟩ := ex_ls1 h
  obtain ⟨x, T, rfl, h⟩ := ex_ls1 h
  obtain ⟨h1, h⟩ := ex_br0 h
  obtain ⟨h2, h⟩ := ex_br0 h
  refine z_one (T := x :: y :: x :: T) (fun z hz => ?_) (fun G hG => hG y List.mem_cons_self) k h (fun k => ?_)
  · rcases List.mem_cons.mp hz with e | hz
    · rw [e]; exact List.mem_cons_of_mem _ List.mem_cons_self
    · exact hz
  · exact lv_dup2_11 hx hb hd (ex_cat1 hE h2) (ex_cat1 hE h1) k
/-! branches -/
theorem ex_ble_f {a b : Nat} (h : Nat.ble a b = false) : ¬ a ≤ b := fun q => by rw [Nat.ble_eq_true_of_le q] at h; cases h
/-- what a branch's number tells of its condition -/
def ex_cP (E : ex_G) (c : ClassFile.Cond) (a b : Nat) : Prop := match c with
  | .eq => ex_iv E a = ex_iv E b | .ne => ¬ ex_iv E a = ex_iv E b | .lt => ex_iv E a < ex_iv E b
  | .ge => ex_iv E b ≤ ex_iv E a | .gt => ex_iv E b < ex_iv E a | .le => ex_iv E a ≤ ex_iv E b
theorem ex_brn {o : Option Nat} {t f : ex_R} {r : Nat × Nat} (h : ex_br o t f = some r) : (o = some 0 ∧ f = some r) ∨ (∃ n, o = some (n + 1) ∧ t = some r) := by
  obtain ⟨n, hn, h⟩ := ex_op1 h
  cases n with
  | zero => exact Or.inl ⟨hn, h⟩
  | succ n => exact Or.inr ⟨n, hn, h⟩
theorem ex_nlt {x y : Int32} : ¬ x < y ↔ y ≤ x := by rw [ex_B_lt, ex_B_le]; omega
theorem ex_cnd_ok {V : ex_V} (hV : ex_VOK E V) {cd : ClassFile.Cond} {x y : Nat} {t f : ex_R} {r : Nat × Nat} (hlx : x < 1099511627776) (hly : y < 1099511627776) (h : ex_cnd V cd x y t f = some r) : (ex_cP E cd x y ∧ t = some r) ∨ (¬ ex_cP E cd x y ∧ f = some r) := by
  have slow : ex_cnV V cd x y t f = some r → (ex_cP E cd x y ∧ t = some r) ∨ (¬ ex_cP E cd x y ∧ f = some r) := by
    intro h
    have hl : ∀ {x y : Nat} {t f : ex_R}, x < 1099511627776 → y < 1099511627776 → ex_br (ex_lt V x y) t f = some r → (ex_iv E x < ex_iv E y ∧ t = some r) ∨ (¬ ex_iv E x < ex_iv E y ∧ f = some r) := fun u1 u2 h => by
      rcases ex_brn h with ⟨o, h⟩ | ⟨n, o, h⟩
      · rcases ex_lt_ok hV u1 u2 o with ⟨-, q⟩ | ⟨q, -⟩
        · exact Or.inr ⟨q, h⟩
        · cases q
      · rcases ex_lt_ok hV u1 u2 o with ⟨q, -⟩ | ⟨-, q⟩
        · cases q
        · exact Or.inl ⟨q, h⟩
    have he : ∀ {x y : Nat} {t f : ex_R}, x < 1099511627776 → y < 1099511627776 → ex_br (ex_eq V x y) t f = some r → (ex_iv E x = ex_iv E y ∧ t = some r) ∨ (¬ ex_iv E x = ex_iv E y ∧ f = some r) := fun u1 u2 h => by
      rcases ex_brn h with ⟨o, h⟩ | ⟨n, o, h⟩
      · rcases ex_eq_ok hV u1 u2 o with ⟨-, q⟩ | ⟨q, -⟩
        · exact Or.inr ⟨q, h⟩
        · cases q
      · rcases ex_eq_ok hV u1 u2 o with ⟨q, -⟩ | ⟨-, q⟩
        · cases q
        · exact Or.inl ⟨q, h⟩
    cases cd with
    | eq => exact he hlx hly h
    | ne => rcases he hlx hly h with ⟨a, b⟩ | ⟨a, b⟩
            · exact Or.inr ⟨fun q => q a, b⟩
            · exact Or.inl ⟨a, b⟩
    | lt => exact hl hlx hly h
    | ge => rcases hl hlx hly h with ⟨a, b⟩ | ⟨a, b⟩
            · exact Or.inr ⟨fun q => ex_nlt.mpr q a, b⟩
            · exact Or.inl ⟨ex_nlt.mp a, b⟩
    | gt => exact hl hly hlx h
    | le => rcases hl hly hlx h with ⟨a, b⟩ | ⟨a, b⟩
            · exact Or.inr ⟨fun q => ex_nlt.mpr q a, b⟩
            · exact Or.inl ⟨ex_nlt.mp a, b⟩
  rcases ex_br2 h with ⟨h1, h⟩ | ⟨h1, h⟩
  · rcases ex_br2 h with ⟨h2, h⟩ | ⟨h2, h⟩
    · have hx' : x < 4294967296 := by have := Nat.le_of_ble_eq_true h1; omega
      have hy' : y < 4294967296 := by have := Nat.le_of_ble_eq_true h2; omega
      have eB : ex_B (ex_iv E x) = ex_bi x := by rw [ex_iv_n hx', ex_B_n hx']
      have eB2 : ex_B (ex_iv E y) = ex_bi y := by rw [ex_iv_n hy', ex_B_n hy']
      have h : @ClassFile.Cond.rec (fun _ => ex_R) (@Bool.rec (fun _ => ex_R) f t (Nat.beq x y)) (@Bool.rec (fun _ => ex_R) t f (Nat.beq x y)) (@Bool.rec (fun _ => ex_R) t f (Nat.ble (ex_bi y) (ex_bi x))) (@Bool.rec (fun _ => ex_R) f t (Nat.ble (ex_bi y) (ex_bi x))) (@Bool.rec (fun _ => ex_R) t f (Nat.ble (ex_bi x) (ex_bi y))) (@Bool.rec (fun _ => ex_R) f t (Nat.ble (ex_bi x) (ex_bi y))) cd = some r := h
      generalize hk1 : Nat.ble (ex_bi y) (ex_bi x) = k1 at h
      generalize hk2 : Nat.ble (ex_bi x) (ex_bi y) = k2 at h
      have beq : ∀ {t f : ex_R}, (@Bool.rec (fun _ => ex_R) f t (Nat.beq x y)) = some r → (ex_iv E x = ex_iv E y ∧ t = some r) ∨ (¬ ex_iv E x = ex_iv E y ∧ f = some r) := fun h => by
        rcases ex_br2 h with ⟨q, h⟩ | ⟨q, h⟩
        · exact Or.inl ⟨by rw [Nat.eq_of_beq_eq_true q], h⟩
        · refine Or.inr ⟨fun z => ?_, h⟩
          rw [ex_iv_n hx', ex_iv_n hy'] at z
          rw [ex_ni hx' hy' z, Nat.beq_refl] at q; cases q
      have ble1 : ∀ {t f : ex_R}, (@Bool.rec (fun _ => ex_R) f t k1) = some r → (ex_iv E y ≤ ex_iv E x ∧ t = some r) ∨ (¬ ex_iv E y ≤ ex_iv E x ∧ f = some r) := fun h => by
        rcases ex_br2 h with ⟨q, h⟩ | ⟨q, h⟩
        · exact Or.inl ⟨by rw [ex_B_le, eB, eB2]; exact Nat.le_of_ble_eq_true (hk1.trans q), h⟩
        · exact Or.inr ⟨by rw [ex_B_le, eB, eB2]; exact ex_ble_f (hk1.trans q), h⟩
      have ble2 : ∀ {t f : ex_R}, (@Bool.rec (fun _ => ex_R) f t k2) = some r → (ex_iv E x ≤ ex_iv E y ∧ t = some r) ∨ (¬ ex_iv E x ≤ ex_iv E y ∧ f = some r) := fun h => by
        rcases ex_br2 h with ⟨q, h⟩ | ⟨q, h⟩
        · exact Or.inl ⟨by rw [ex_B_le, eB, eB2]; exact Nat.le_of_ble_eq_true (hk2.trans q), h⟩
        · exact Or.inr ⟨by rw [ex_B_le, eB, eB2]; exact ex_ble_f (hk2.trans q), h⟩
      cases cd with
      | eq => exact beq h
      | ne => rcases beq h with ⟨a, b⟩ | ⟨a, b⟩
              · exact Or.inr ⟨fun q => q a, b⟩
              · exact Or.inl ⟨a, b⟩
      | lt => rcases ble1 h with ⟨a, b⟩ | ⟨a, b⟩
              · exact Or.inr ⟨ex_nlt.mpr a, b⟩
              · exact Or.inl ⟨(show ex_iv E x < ex_iv E y by rw [← ex_nlt] at a; exact Classical.not_not.mp a), b⟩
      | ge => exact ble1 h
      | gt => rcases ble2 h with ⟨a, b⟩ | ⟨a, b⟩
              · exact Or.inr ⟨ex_nlt.mpr a, b⟩
              · exact Or.inl ⟨(show ex_iv E y < ex_iv E x by rw [← ex_nlt] at a; exact Classical.not_not.mp a), b⟩
      | le => exact ble2 h
    · exact slow h
  · exact slow h
/-- a branch on two ints, by its row -/
theorem z_icmp {V : ex_V} {exj : Nat → ex_K} {cd : ClassFile.Cond} {off : Int} {aux : Nat} (hx : p.tables.exec = Jvm.exec) (hb : c.code = cc) (hV : ex_VOK E V) (hd : decode cc pc = .ok (.if_icmp cd off, 3)) (ht : (pc : Int) + off = (aux : Int)) (kj : ex_Z E b H0 G0 ad0 nL p l e R s m args below meth c mc ms rM (exj aux) aux) (k : ex_Z E b H0 G0 ad0 nL p l e R s m args below meth c mc ms rM nx (pc + 3)) : ex_Z E b H0 G0 ad0 nL p l e R s m args below meth c mc ms rM (fun L S M => (@List.rec Nat (fun _ => ex_R) none (fun b T_0 _ => (@List.rec Nat (fun _ => ex_R) none (fun a T _ => (@Bool.rec (fun _ => ex_R) (none) ((@Bool.rec (fun _ => ex_R) (none) (ex_cnd V cd a b (exj aux L T M) (nx L T M)) (ex_tI b))) (ex_tI a))) T_0)) S)) pc := by
  intro L S M h
  obtain ⟨y, T1, rfl, h⟩ := ex_ls1 h
  obtain ⟨x, T, rfl, h⟩ := ex_ls1 h
  obtain ⟨h1, h⟩ := ex_br1 h
  obtain ⟨h2, h⟩ := ex_br1 h
  have sub : ∀ z ∈ T, z ∈ y :: x :: T := fun z hz => List.mem_cons_of_mem _ (List.mem_cons_of_mem _ hz)
  have hm : ex_get M 1 ≤ ex_get rM.2 1 ∧ ex_get M 2 ≤ ex_get rM.2 2 := by
    rcases ex_cnd_ok hV (ex_I_lt h1).1 (ex_I_lt h2).1 h with ⟨-, h⟩ | ⟨-, h⟩
    · exact (kj _ _ M h).1
    · exact (k _ _ M h).1
  refine ⟨hm, fun G ad ls st H locs cells slots q hc hs => ?_⟩
  have hst := q.2.2.1
  subst hst
  have q' := q.stk (S' := T) rfl (fun z hz => q.2.2.2.1 z (sub z hz))
  rw [List.map_cons, List.map_cons, ex_v_I h1, ex_v_I h2]
  have kt : ex_cP E cd x y → W p l e R s m args below meth c H locs cells slots (vx_MQ below (ex_Qc E b G0 ad0 rM) (ex_XC E b G0 ad0 rM) args s mc ms (fun q => b ≤ q)) (F0 m aux ls (T.map (ex_v E ad))) := fun z => by
    rcases ex_cnd_ok hV (ex_I_lt h1).1 (ex_I_lt h2).1 h with ⟨-, h⟩ | ⟨w, -⟩
    · exact (kj _ _ M h).2 G ad ls _ H locs cells slots q' hc hs
    · exact absurd z w
  have kf : ¬ ex_cP E cd x y → W p l e R s m args below meth c H locs cells slots (vx_MQ below (ex_Qc E b G0 ad0 rM) (ex_XC E b G0 ad0 rM) args s mc ms (fun q => b ≤ q)) (F0 m (pc + 3) ls (T.map (ex_v E ad))) := fun z => by
    rcases ex_cnd_ok hV (ex_I_lt h1).1 (ex_I_lt h2).1 h with ⟨w, -⟩ | ⟨-, h⟩
    · exact absurd w z
    · exact (k _ _ M h).2 G ad ls _ H locs cells slots q' hc hs
  cases cd with
  | eq => exact lv_icmp_eq hx hb hd ht kt kf
  | ne => exact lv_icmp_ne hx hb hd ht kt (fun z => kf (fun w => w z))
  | lt => exact lv_icmp_lt hx hb hd ht kt kf
  | ge => exact lv_icmp_ge hx hb hd ht kt kf
  | gt => exact lv_icmp_gt hx hb hd ht kt kf
  | le => exact lv_icmp_le hx hb hd ht kt kf
theorem z_ifc {V : ex_V} {exj : Nat → ex_K} {cd : ClassFile.Cond} {off : Int} {aux : Nat} (hx : p.tables.exec = Jvm.exec) (hb : c.code = cc) (hV : ex_VOK E V) (hd : decode cc pc = .ok (.ifCond cd off, 3)) (ht : (pc : Int) + off = (aux : Int)) (kj : ex_Z E b H0 G0 ad0 nL p l e R s m args below meth c mc ms rM (exj aux) aux) (k : ex_Z E b H0 G0 ad0 nL p l e R s m args below meth c mc ms rM nx (pc + 3)) : ex_Z E b H0 G0 ad0 nL p l e R s m args below meth c mc ms rM (fun L S M => (@List.rec Nat (fun _ => ex_R) none (fun a T _ => (@Bool.rec (fun _ => ex_R) (none) (ex_cnd V cd a 0 (exj aux L T M) (nx L T M)) (ex_tI a))) S)) pc := by
  intro L S M h
  obtain ⟨x, T, rfl, h⟩ := ex_ls1 h
  obtain ⟨h1, h⟩ := ex_br1 h
  have sub : ∀ z ∈ T, z ∈ x :: T := fun z hz => List.mem_cons_of_mem _ hz
  have hm : ex_get M 1 ≤ ex_get rM.2 1 ∧ ex_get M 2 ≤ ex_get rM.2 2 := by
    rcases ex_cnd_ok hV (ex_I_lt h1).1 (by decide) h with ⟨-, h⟩ | ⟨-, h⟩
    · exact (kj _ _ M h).1
    · exact (k _ _ M h).1
  refine ⟨hm, fun G ad ls st H locs cells slots q hc hs => ?_⟩
  have hst := q.2.2.1
  subst hst
  have q' := q.stk (S' := T) rfl (fun z hz => q.2.2.2.1 z (sub z hz))
  rw [List.map_cons, ex_v_I h1]
  have kt : ex_cP E cd x 0 → W p l e R s m args below meth c H locs cells slots (vx_MQ below (ex_Qc E b G0 ad0 rM) (ex_XC E b G0 ad0 rM) args s mc ms (fun q => b ≤ q)) (F0 m aux ls (T.map (ex_v E ad))) := fun z => by
    rcases ex_cnd_ok hV (ex_I_lt h1).1 (by decide) h with ⟨-, h⟩ | ⟨w, -⟩
    · exact (kj _ _ M h).2 G ad ls _ H locs cells slots q' hc hs
    · exact absurd z w
  have kf : ¬ ex_cP E cd x 0 → W p l e R s m args below meth c H locs cells slots (vx_MQ below (ex_Qc E b G0 ad0 rM) (ex_XC E b G0 ad0 rM) args s mc ms (fun q => b ≤ q)) (F0 m (pc + 3) ls (T.map (ex_v E ad))) := fun z => by
    rcases ex_cnd_ok hV (ex_I_lt h1).1 (by decide) h with ⟨w, -⟩ | ⟨-, h⟩
    · exact absurd w z
    · exact (k _ _ M h).2 G ad ls _ H locs cells slots q' hc hs
  cases cd with
  | eq => exact lv_if_eq hx hb hd ht kt kf
  | ne => exact lv_if_ne hx hb hd ht kt (fun z => kf (fun w => w z))
  | lt => exact lv_if_lt hx hb hd ht kt kf
  | ge => exact lv_if_ge hx hb hd ht kt kf
  | gt => exact lv_if_gt hx hb hd ht kt kf
  | le => exact lv_if_le hx hb hd ht kt kf
theorem z_goto {exj : Nat → ex_K} {off : Int} {aux : Nat} (hx : p.tables.exec = Jvm.exec) (hb : c.code = cc) (hd : decode cc pc = .ok (.goto off, 3)) (ht : (pc : Int) + off = (aux : Int)) (kj : ex_Z E b H0 G0 ad0 nL p l e R s m args below meth c mc ms rM (exj aux) aux) : ex_Z E b H0 G0 ad0 nL p l e R s m args below meth c mc ms rM (exj aux) pc := by
  intro L S M h
  obtain ⟨hm, hw⟩ := kj _ _ M h
  exact ⟨hm, fun G ad ls st H locs cells slots q hc hs => lv_goto hx hb hd ht (hw G ad ls st H locs cells slots q hc hs)⟩
theorem ex_v_R {E : ex_G} {ad : Nat → Nat} {v : Nat} (h : ex_isR v = true) : (∃ a, ex_v E ad v = .ref a) ∨ (17179869184 ≤ v ∧ v < 34359738368 ∧ ex_v E ad v = E.2.2.1 (v - 17179869184)) := by
  have := ex_isR_iff.mp h
  by_cases h3 : v < 17179869184
  · exact Or.inl ⟨_, ex_v_D (by omega) h3⟩
  · exact Or.inr ⟨by omega, by omega, ex_v_S (by omega) (by omega)⟩
end
