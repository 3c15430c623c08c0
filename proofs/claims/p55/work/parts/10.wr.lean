/-! instructions that write cells or make them -/
/-- a type's number -/
def ex_tc (t : Nat) (ty : FieldType) : Bool := match t, ty with
  | 0, .int => true | 1, .boolean => true | 2, .char => true | 3, .long => true | 4, .byte => true | 5, .object _ => true | 5, .array _ => true | _, _ => false
theorem ex_bytes : ∀ q, q < 128 → narrow .byte (.int (nI q)) = .int (nI q) ∧ fits .byte (.int (nI q)) = true := by decide +kernel
theorem ex_B_chr {x : Int32} (h1 : 2147483648 ≤ ex_B x) (h2 : ex_B x ≤ 2147549183) : ∃ q, q < 65536 ∧ x = nI q := by
  have := ex_rg x
  unfold ex_B at h1 h2
  refine ⟨x.toInt.toNat, by omega, Int32.toInt_inj.mp ?_⟩
  rw [nI_toInt (by omega)]; omega
theorem ex_fit_chr {E : ex_G} {V : ex_V} (hV : ex_VOK E V) {v : Nat} {ad : Nat → Nat} (h : ex_fit V 2 v = true) : (∃ q, q < 65536 ∧ ex_v E ad v = .int (nI q)) ∧ v < 8589934592 := by
  unfold ex_fit at h
  simp only [ex_bB, Nat.beq_eq] at h
  rw [if_neg (by decide), if_neg (by decide), if_neg (by decide), if_neg (by decide), if_neg (by decide), if_pos trivial] at h
  by_cases hi : ex_isI v = true
  · rw [if_pos hi, Nat.ble_eq] at h
    exact ⟨⟨v, by omega, ex_v_n (by omega)⟩, by omega⟩
  · rw [if_neg hi] at h
    by_cases hti : ex_tI v = true
    · rw [if_pos hti] at h
      cases hq : ex_rng V v with
      | none => rw [hq] at h; cases h
      | some q =>
        rw [hq] at h
        obtain ⟨a1, a2, -⟩ := ex_rng_ok hV hq
        rw [Bool.and_eq_true] at h
        have b1 := Nat.le_of_ble_eq_true h.1
        have b2 := Nat.le_of_ble_eq_true h.2
        obtain ⟨z, hz, e⟩ := ex_B_chr (x := ex_iv E v) (by omega) (by omega)
        exact ⟨⟨z, hz, by rw [ex_v_I hti, e]⟩, (ex_I_lt hti).2⟩
    · rw [if_neg hti] at h; cases h
theorem ex_fit_ok {E : ex_G} {V : ex_V} (hV : ex_VOK E V) (hE : ex_svR E) {t v : Nat} {ad : Nat → Nat} {ty : FieldType} (ht : ex_tc t ty = true) (h : ex_fit V t v = true) : narrow ty (ex_v E ad v) = ex_v E ad v ∧ fits ty (ex_v E ad v) = true ∧ v < 1099511627776 := by
  have h0 := h
  unfold ex_fit at h
  simp only [ex_bB, Nat.beq_eq] at h
  unfold ex_tc at ht
  split at ht
  · rw [if_pos rfl] at h
    rw [ex_v_I h]; exact ⟨rfl, rfl, (ex_I_lt h).1⟩
  · rw [if_neg (by decide), if_neg (by decide), if_pos rfl, Nat.ble_eq] at h
    rcases (show v = 0 ∨ v = 1 by omega) with rfl | rfl <;> exact ⟨by rw [ex_v_n (by decide)]; rfl, by rw [ex_v_n (by decide)]; rfl, by decide⟩
  · obtain ⟨⟨q, hq, e⟩, hl⟩ := ex_fit_chr (ad := ad) hV h0
    rw [e]
    exact ⟨(pk_charN hq).1, (pk_charN hq).2, by omega⟩
  · rw [if_neg (by decide), if_neg (by decide), if_neg (by decide), if_pos rfl] at h
    have h1 := ex_tL_iff.mpr (Or.inl (ex_isL_iff.mp h))
    rw [ex_v_L h1]; exact ⟨rfl, rfl, (ex_L_lt h1).1⟩
  · rw [if_neg (by decide), if_neg (by decide), if_neg (by decide), if_neg (by decide), if_pos rfl, Nat.ble_eq] at h
    rw [ex_v_n (by omega)]
    exact ⟨(ex_bytes v (by omega)).1, (ex_bytes v (by omega)).2, by omega⟩
  · rw [if_neg (by decide), if_pos rfl] at h
    rcases ex_v_A hE (ad := ad) h with e | ⟨a, e⟩ <;> rw [e] <;> exact ⟨rfl, rfl, ex_A_lt h⟩
  · rw [if_neg (by decide), if_pos rfl] at h
    rcases ex_v_A hE (ad := ad) h with e | ⟨a, e⟩ <;> rw [e] <;> exact ⟨rfl, rfl, ex_A_lt h⟩
  · cases ht
section
variable {E : ex_G} {b : Nat} {H0 : Heap} {G0 : List Nat} {ad0 : Nat → Nat} {nL : Nat} {p : Program} {l : Launch} {e : Env} {R : Room} {s : State} {m : MethodId} {args : Array Value} {below : List Frame} {meth : Method} {c : Code} {mc ms : Nat} {rM : Nat × Nat} {cc : ByteArray} {pc : Nat} {nx : ex_K}
/-- writing a place of a row -/
theorem z_ast {kd : Nat → Bool} {t : Nat → Nat → Nat → Bool} {ln : Nat} (hkd : ∀ k, kd k = true → 64 ≤ k ∧ k ≤ 72) (ht : ∀ M k v, t M k v = true → v < 1099511627776)
    (row : ∀ {G : List Nat} {ad : Nat → Nat} {M : Nat} {H : Heap} {locs : List Loc} {cells slots : Nat} {ls : Array Slot} {rest : List Value} {Q : State → Prop} {a i n kk v : Nat} {f : Nat → Value}, ex_Rep E b G ad M H → va_S (fun q => b ≤ q) H0 H locs → ex_okc G v → kd kk = true → t M kk v = true → H[a]? = some (arrV (E.2.1 kk) n f) → i < n → n < 2147483648 →
      (∀ H' : Heap, H'[a]? = some ((arrV (E.2.1 kk) n f).setSlot i (ex_v E ad v)) → H'.size = H.size → (∀ q : Nat, q ≠ a → H'[q]? = H[q]?) → W p l e R s m args below meth c H' (locs ++ [⟨a, i⟩]) cells slots Q (F0 m (pc + ln) ls rest)) → W p l e R s m args below meth c H locs cells slots Q (F0 m pc ls (ex_v E ad v :: .int (nI i) :: .ref a :: rest)))
    (k : ex_Z E b H0 G0 ad0 nL p l e R s m args below meth c mc ms rM nx (pc + ln)) : ex_Z E b H0 G0 ad0 nL p l e R s m args below meth c mc ms rM (ex_ast kd t nx) pc := by
  intro L S M h
  obtain ⟨v, T2, rfl, h⟩ := ex_ls1 h
  obtain ⟨i, T1, rfl, h⟩ := ex_ls1 h
  obtain ⟨x, T, rfl, h⟩ := ex_ls1 h
  obtain ⟨h1, h⟩ := ex_br1 h
  obtain ⟨h2, h⟩ := ex_br1 h
  obtain ⟨h3, h⟩ := ex_br1 h
  obtain ⟨h4, h⟩ := ex_br1 h
  have hx := ex_isD_iff.mp h1
  have hv := ht _ _ _ h4
  generalize hw0 : Nat.sub x 8589934592 = w at h2 h3 h4 h
  have hw0' : x - 8589934592 = w := hw0
  have h3 : i + 1 ≤ ex_get M w / 256 := Nat.le_of_ble_eq_true h3
  have h' : nx L T (ex_set M (w + 1 + i) v) = some rM := by
    have e : Nat.add w (Nat.succ i) = w + 1 + i := by show w + (i + 1) = _; omega
    rw [e] at h; exact h
  obtain ⟨hm, hw⟩ := k _ _ _ h'
  have hgs : ∀ j, j < 3 → ex_get (ex_set M (w + 1 + i) v) j = ex_get M j := fun j a => by rw [ex_get_set hv, if_neg (by omega)]
  rw [hgs 1 (by decide), hgs 2 (by decide)] at hm hw
  refine ⟨hm, fun G ad ls st H locs cells slots q hc hs => ?_⟩
  obtain ⟨q1, q2, rfl, q4, q5, q6, q7, q8⟩ := q
  have hxk : ex_okc G x := q4 x (List.mem_cons_of_mem _ (List.mem_cons_of_mem _ List.mem_cons_self))
  have hvk : ex_okc G v := q4 v List.mem_cons_self
  have hwG : w ∈ G := by have := hxk (by omega) hx.2; rw [hw0'] at this; exact this
  obtain ⟨k1, k2⟩ := hkd _ h2
  have k1' : 64 ≤ ex_kd M w := k1
  have hcell := (q5.1 w hwG).2 k1'
  have hn : i < ex_n M w := by unfold ex_n; omega
  have htop := (q5.2.2.2.1 w hwG).2
  have htl := q5.2.2.2.2.2.2.1.2
  rw [List.map_cons, List.map_cons, List.map_cons, ex_v_n (show i < 4294967296 by omega), ex_v_D (show 8589934592 ≤ x by omega) hx.2, hw0']
  refine row q5 q7 hvk h2 h4 hcell hn (by omega) (fun H' e1 e2 e3 => ?_)
  have hb0 := q5.2.2.1 w hwG
  exact hw G ad ls _ H' _ cells slots ⟨q1, q2, rfl, fun z hz => q4 z (List.mem_cons_of_mem _ (List.mem_cons_of_mem _ (List.mem_cons_of_mem _ hz))), q5.setA hwG hn k1' hv hvk e1 e3, q6, q7.put e2 e3 hb0, q8.put e2 e3 hb0⟩ hc hs
theorem z_iastore {ST : Nat → Nat} (hx : p.tables.exec = Jvm.exec) (hb : c.code = cc) (hW : ex_Wo E b ST H0 args s) (hd : decode cc pc = .ok (.iastore, 1)) (k : ex_Z E b H0 G0 ad0 nL p l e R s m args below meth c mc ms rM nx (pc + 1)) : ex_Z E b H0 G0 ad0 nL p l e R s m args below meth c mc ms rM (ex_ast (fun k => Nat.beq k 64) (fun _ _ v => ex_tI v) nx) pc := by
  refine z_ast (fun k h => by have e : k = 64 := Nat.eq_of_beq_eq_true h; subst e; exact ⟨by omega, by omega⟩) (fun _ _ v h => (ex_I_lt h).1) (fun {G ad M H locs cells slots ls rest Q a i n kk v f} q5 q7 hvk h2 h4 hcell hn hn2 kk2 => ?_) k
  have e : kk = 64 := Nat.eq_of_beq_eq_true h2
  subst e
  have hcl : (nI i).toNatClampNeg = i := nI_clamp (by omega)
  rw [ex_v_I h4]
  refine W.iast hx hb hcell ((hW.2.2.2.1 64 (by omega) (by omega)).1 _ _) (fun z => by cases z) (fun z => ?_) rfl rfl hd (fun H' e1 e2 e3 => ?_)
  · rw [arrV_size, hcl] at z
    rcases z with z | z
    · exact nI_pos (by omega) z
    · omega
  · rw [hcl] at e1 ⊢
    exact kk2 H' (by rw [ex_v_I h4]; exact e1) e2 e3
theorem z_bastore {ST : Nat → Nat} (hx : p.tables.exec = Jvm.exec) (hb : c.code = cc) (hW : ex_Wo E b ST H0 args s) (hd : decode cc pc = .ok (.bastore, 1)) (k : ex_Z E b H0 G0 ad0 nL p l e R s m args below meth c mc ms rM nx (pc + 1)) : ex_Z E b H0 G0 ad0 nL p l e R s m args below meth c mc ms rM (ex_ast (fun k => Nat.beq k 65) (fun _ _ v => Nat.ble v 1) nx) pc := by
  refine z_ast (fun k h => by have e : k = 65 := Nat.eq_of_beq_eq_true h; subst e; exact ⟨by omega, by omega⟩) (fun _ _ v h => by have := Nat.le_of_ble_eq_true h; omega) (fun {G ad M H locs cells slots ls rest Q a i n kk v f} q5 q7 hvk h2 h4 hcell hn hn2 kk2 => ?_) k
  have e : kk = 65 := Nat.eq_of_beq_eq_true h2
  subst e
  have h4 := Nat.le_of_ble_eq_true h4
  have hcl : (nI i).toNatClampNeg = i := nI_clamp (by omega)
  rw [ex_v_n (show v < 4294967296 by omega)]
  refine W.zast hx hb hcell ((hW.2.2.2.1 65 (by omega) (by omega)).1 _ _) (fun z => by cases z) (fun z => ?_) rfl rfl hd (fun H' e1 e2 e3 => ?_)
  · rw [arrV_size, hcl] at z
    rcases z with z | z
    · exact nI_pos (by omega) z
    · omega
  · rw [hcl] at e1 ⊢
    refine kk2 H' ?_ e2 e3
    rw [ex_v_n (show v < 4294967296 by omega), e1]
    have : narrow .boolean (.int (nI v)) = .int (nI v) := by rcases (show v = 0 ∨ v = 1 by omega) with rfl | rfl <;> rfl
    rw [this]
theorem z_castore {ST : Nat → Nat} {V : ex_V} (hx : p.tables.exec = Jvm.exec) (hb : c.code = cc) (hV : ex_VOK E V) (hW : ex_Wo E b ST H0 args s) (hd : decode cc pc = .ok (.castore, 1)) (k : ex_Z E b H0 G0 ad0 nL p l e R s m args below meth c mc ms rM nx (pc + 1)) : ex_Z E b H0 G0 ad0 nL p l e R s m args below meth c mc ms rM (ex_ast (fun k => Nat.beq k 66) (fun _ _ v => ex_fit V 2 v) nx) pc := by
  refine z_ast (fun k h => by have e : k = 66 := Nat.eq_of_beq_eq_true h; subst e; exact ⟨by omega, by omega⟩) (fun _ _ v h => by have := (ex_fit_chr (ad := id) hV h).2; omega) (fun {G ad M H locs cells slots ls rest Q a i n kk v f} q5 q7 hvk h2 h4 hcell hn hn2 kk2 => ?_) k
  have e : kk = 66 := Nat.eq_of_beq_eq_true h2
  subst e
  have hcl : (nI i).toNatClampNeg = i := nI_clamp (by omega)
  obtain ⟨⟨z, hz, ez⟩, -⟩ := ex_fit_chr (ad := ad) hV h4
  rw [ez]
  refine W.cast hx hb hcell ((hW.2.2.2.1 66 (by omega) (by omega)).1 _ _) (fun z => by cases z) (fun z => ?_) rfl rfl hd (fun H' e1 e2 e3 => ?_)
  · rw [arrV_size, hcl] at z
    rcases z with z | z
    · exact nI_pos (by omega) z
    · omega
  · rw [hcl] at e1 ⊢
    refine kk2 H' ?_ e2 e3
    rw [ez, e1, (pk_charN hz).1]
theorem z_lastore {ST : Nat → Nat} (hx : p.tables.exec = Jvm.exec) (hb : c.code = cc) (hW : ex_Wo E b ST H0 args s) (hd : decode cc pc = .ok (.lastore, 1)) (k : ex_Z E b H0 G0 ad0 nL p l e R s m args below meth c mc ms rM nx (pc + 1)) : ex_Z E b H0 G0 ad0 nL p l e R s m args below meth c mc ms rM (ex_ast (fun k => Nat.beq k 67) (fun _ _ v => ex_isL v) nx) pc := by
  refine z_ast (fun k h => by have e : k = 67 := Nat.eq_of_beq_eq_true h; subst e; exact ⟨by omega, by omega⟩) (fun _ _ v h => by have := ex_isL_iff.mp h; omega) (fun {G ad M H locs cells slots ls rest Q a i n kk v f} q5 q7 hvk h2 h4 hcell hn hn2 kk2 => ?_) k
  have e : kk = 67 := Nat.eq_of_beq_eq_true h2
  subst e
  have hl := ex_tL_iff.mpr (Or.inl (ex_isL_iff.mp h4))
  have hcl : (nI i).toNatClampNeg = i := nI_clamp (by omega)
  rw [ex_v_L hl]
  refine W.last hx hb hcell ((hW.2.2.2.1 67 (by omega) (by omega)).1 _ _) (fun z => by cases z) (fun z => ?_) rfl rfl hd (fun H' e1 e2 e3 => ?_)
  · rw [arrV_size, hcl] at z
    rcases z with z | z
    · exact nI_pos (by omega) z
    · omega
  · rw [hcl] at e1 ⊢
    exact kk2 H' (by rw [ex_v_L hl]; exact e1) e2 e3
/-- a field is written; fin: a final one, in its constructor -/
theorem z_putfield {V : ex_V} {ST : Nat → Nat} {own ref : String} {index aux : Nat} {r : vw_C} {ty : FieldType} (hx : p.tables.exec = Jvm.exec) (hb : c.code = cc) (hV : ex_VOK E V) (hW : ex_Wo E b ST H0 args s) (hown : s.vm.findClass own = some m.cls) (hr : ex_cl[aux / 64 % 64]? = some r) (hk : aux % 64 < r.2.2)
    (hlink : (Cond.fieldLink own index ref (r.2.1 (aux % 64)).2.1 (r.2.1 (aux % 64)).2.2.1).before args s = true) (hsame : ∀ x, s.fieldFound? (r.2.1 (aux % 64)).1 (r.2.1 (aux % 64)).2.1 (r.2.1 (aux % 64)).2.2.1 = some x → s.fieldFound? ref (r.2.1 (aux % 64)).2.1 (r.2.1 (aux % 64)).2.2.1 = some x)
    (hty : parseFieldDescriptor (r.2.1 (aux % 64)).2.2.1 = some ty) (htc : ex_tc (aux / 4096 % 16) ty = true) (tys : Nat → FieldType) (htys : ∀ k, k < r.2.2 → parseFieldDescriptor (r.2.1 k).2.2.1 = some (tys k)) (hnm : ∀ a, a < r.2.2 → ∀ b, b < r.2.2 → a ≠ b → (r.2.1 a).2.1 ≠ (r.2.1 b).2.1)
    (hfin : (r.2.1 (aux % 64)).2.2.2 = false ∨ ((r.2.1 (aux % 64)).2.2.2 = true ∧ meth.name = "<init>" ∧ (r.2.1 (aux % 64)).1 = own))
    (hd : decode cc pc = .ok (.putfield index, 3)) (k : ex_Z E b H0 G0 ad0 nL p l e R s m args below meth c mc ms rM nx (pc + 3)) : ex_Z E b H0 G0 ad0 nL p l e R s m args below meth c mc ms rM (ex_pf V aux nx) pc := by
  intro L S M h
  obtain ⟨v, T1, rfl, h⟩ := ex_ls1 h
  obtain ⟨x, T, rfl, h⟩ := ex_ls1 h
  obtain ⟨h1, h⟩ := ex_br1 h
  with_reducible obtain ⟨h2, h⟩ := ex_br1 h
  with_reducible obtain ⟨h3, h⟩ := ex_br1 h
  have hxd := ex_isD_iff.mp h1
  generalize hw0 : Nat.sub x 8589934592 = w at h2 h
  have hw0' : x - 8589934592 = w := hw0
  have h2 : ex_kd M w = aux / 64 % 64 := Nat.eq_of_beq_eq_true h2
  generalize hi0 : aux % 64 = i at *
  have h' : nx L T (ex_set M (w + 1 + i) v) = some rM := by
    have e : Nat.add w (Nat.succ (Nat.mod aux 64)) = w + 1 + i := by
      have e0 : Nat.mod aux 64 = i := hi0
      rw [e0]; show w + (i + 1) = _; omega
    rw [e] at h; exact h
  have hfit := fun ad => ex_fit_ok (ad := ad) hV hW.2.1 htc h3
  have hv := (hfit id).2.2
  obtain ⟨hm, hw⟩ := k _ _ _ h'
  have hgs : ∀ j, j < 3 → ex_get (ex_set M (w + 1 + i) v) j = ex_get M j := fun j a => by rw [ex_get_set hv, if_neg (by omega)]
  rw [hgs 1 (by decide), hgs 2 (by decide)] at hm hw
  refine ⟨hm, fun G ad ls st H locs cells slots q hc hs => ?_⟩
  obtain ⟨q1, q2, rfl, q4, q5, q6, q7, q8⟩ := q
  have hxk : ex_okc G x := q4 x (List.mem_cons_of_mem _ List.mem_cons_self)
  have hvk : ex_okc G v := q4 v List.mem_cons_self
  have hwG : w ∈ G := by have := hxk (by omega) hxd.2; rw [hw0'] at this; exact this
  obtain ⟨r', g1, g2, cell, g3, g4, g5, g6⟩ := (q5.1 w hwG).1 (by omega)
  rw [h2, hr] at g1
  cases g1
  rw [h2] at g4 g6
  rw [g2] at g6
  obtain ⟨hKn, hin⟩ := hW.2.2.1 _ _ hr
  obtain ⟨hS, hfc, kC, hkC, hkind⟩ := id hKn
  obtain ⟨cf, kf, fi, f, hi, hsl⟩ := hS i hk
  have hlays := u_lays (ws := u_ws r.1 r.2.1 r.2.2) hin (fun _ h => h) hk
  have hst := (u_facts hfc hkC hlays hi).1
  have hap : ∀ x y, x < r.2.2 → y < r.2.2 → x ≠ y → E.1.2 (aux / 64 % 64) x ≠ E.1.2 (aux / 64 % 64) y := by
    intro x y hx hy hne
    obtain ⟨_, _, _, fa, hia, ea⟩ := hS x hx
    obtain ⟨_, _, _, fb, hib, eb⟩ := hS y hy
    rw [← ea, ← eb]
    refine u_apart (u_lays (ws := u_ws r.1 r.2.1 r.2.2) hin (fun _ h => h) hx) (u_lays (ws := u_ws r.1 r.2.1 r.2.2) hin (fun _ h => h) hy) hia hib ?_
    rw [(State.fieldFound?_type hia (htys x hx)).1, (State.fieldFound?_type hib (htys y hy)).1]
    exact hnm x hx y hy hne
  obtain ⟨f1, f2, -⟩ := hfit ad
  have hb0 := q5.2.2.1 w hwG
  have hlay := hin _ (u_in_lay hk)
  have fin : ∀ H' : Heap, H'[ad w]? = some (cell.setSlot f.slot (ex_v E ad v)) → H'.size = H.size → (∀ q : Nat, q ≠ ad w → H'[q]? = H[q]?) → W p l e R s m args below meth c H' (locs ++ [⟨ad w, f.slot⟩]) cells slots (vx_MQ below (ex_Qc E b G0 ad0 rM) (ex_XC E b G0 ad0 rM) args s mc ms (fun q => b ≤ q)) (F0 m (pc + 3) ls (T.map (ex_v E ad))) := fun H' e1 e2 e3 => by
    refine hw G ad ls _ H' _ cells slots ⟨q1, q2, rfl, fun z hz => q4 z (List.mem_cons_of_mem _ (List.mem_cons_of_mem _ hz)), ?_, q6, q7.put e2 e3 hb0, q8.put e2 e3 hb0⟩ hc hs
    refine q5.setO hwG (by rw [g2]; exact hk) (by omega) hv hvk ?_ e3
    rw [h2, g2]
    rw [hsl] at e1
    exact ⟨_, e1, g4, g5, t_set g6 hap hk _⟩
  rw [List.map_cons, List.map_cons, ex_v_D (show 8589934592 ≤ x by omega) hxd.2, hw0']
  rcases hfin with hf | ⟨hf, hin2, hdecl⟩
  · unfold u_lay at hlay
    rw [if_neg (by rw [hf]; decide)] at hlay
    have h6 := u_store hfc hkC hkind hlay hi hty f1 f2
    exact W.putK hx hb (f := f) ⟨hown, hlink, ⟨_, _, _, hsame _ hi⟩, hst⟩ (by rw [g4]; exact h6) g3 g5 (by rw [hsl]; exact k2_hasslot (g6 _ hk)) rfl rfl hd fin
  · unfold u_lay at hlay
    rw [if_pos hf] at hlay
    have hcf : m.cls = cf := by
      obtain ⟨_, _, c', _, _, _, -, -, hf', -, -, -, hown2, -⟩ := Cond.laysFinal_spec hlay
      have e1 : c' = cf := by have := hi.symm.trans hf'; simp at this; exact this.1.symm
      rw [hdecl] at hown2
      rw [← e1]; exact Option.some.inj (hown.symm.trans hown2)
    have h6 := u_fits hfc hkC hkind (Or.inr hlay) hi hty f1 f2
    exact W.putFinK hx hb hown hlink (hsame _ hi) hst hcf hin2 (by rw [g4]; exact h6) g3 g5 (by rw [hsl]; exact k2_hasslot (g6 _ hk)) rfl rfl hd fin
end
