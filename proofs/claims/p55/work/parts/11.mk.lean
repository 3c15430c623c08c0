/-! instructions that make cells; returns, casts, switches -/
theorem ex_alloc_inv {M B n : Nat} {k : Nat → Nat → ex_R} {r : Nat × Nat} (h : ex_alloc M B n k = some r) : ex_get M 0 ≤ 200001 ∧ ex_get M 1 ≤ 1000000 ∧ ex_get M 2 ≤ 100000000 ∧ k (8589934592 + ex_get M 0) (ex_mk M B n (ex_get M 0)) = some r := by
  unfold ex_alloc at h
  generalize ht : ex_get M 0 = t0 at h ⊢
  cases t0 with
  | zero => cases h
  | succ t =>
    have h : (@Bool.rec (fun _ => ex_R) none (@Bool.rec (fun _ => ex_R) none (@Bool.rec (fun _ => ex_R) none (k (Nat.add 8589934593 t) (ex_set (ex_set (ex_set (Nat.xor M (Nat.shiftLeft B (Nat.mul 40 (Nat.succ t)))) 0 (Nat.add (Nat.succ t) (Nat.succ n))) 1 (Nat.succ (ex_get M 1))) 2 (Nat.add n (ex_get M 2)))) (Nat.ble (ex_get M 2) 100000000)) (Nat.ble (ex_get M 1) 1000000)) (Nat.ble t 200000)) = some r := h
    obtain ⟨h1, h⟩ := ex_br1 h
    obtain ⟨h2, h⟩ := ex_br1 h
    obtain ⟨h3, h⟩ := ex_br1 h
    have h1 := Nat.le_of_ble_eq_true h1
    have h2 := Nat.le_of_ble_eq_true h2
    have h3 := Nat.le_of_ble_eq_true h3
    refine ⟨by omega, h2, h3, ?_⟩
    have e1 : 8589934592 + (t + 1) = Nat.add 8589934593 t := by show _ = 8589934593 + t; omega
    have e2 : ex_mk M B n (t + 1) = ex_set (ex_set (ex_set (Nat.xor M (Nat.shiftLeft B (Nat.mul 40 (Nat.succ t)))) 0 (Nat.add (Nat.succ t) (Nat.succ n))) 1 (Nat.succ (ex_get M 1))) 2 (Nat.add n (ex_get M 2)) := by
      unfold ex_mk
      rw [show t + 1 + 1 + n = Nat.add (Nat.succ t) (Nat.succ n) by show _ = (t + 1) + (n + 1); omega]
      rfl
    rw [e1, e2]
    exact h
theorem ex_mk_c {M B n t : Nat} (h1 : t + 1 + n < 1099511627776) (h2 : ex_get M 1 + 1 < 1099511627776) (h3 : n + ex_get M 2 < 1099511627776) : ex_get (ex_mk M B n t) 1 = ex_get M 1 + 1 ∧ ex_get (ex_mk M B n t) 2 = n + ex_get M 2 := by
  unfold ex_mk
  refine ⟨?_, ?_⟩
  · rw [ex_get_set h3, if_neg (by decide), ex_get_set h2, if_pos rfl]
  · rw [ex_get_set h3, if_pos rfl]
section
variable {E : ex_G} {b : Nat} {H0 : Heap} {G0 : List Nat} {ad0 : Nat → Nat} {nL : Nat} {p : Program} {l : Launch} {e : Env} {R : Room} {s : State} {m : MethodId} {args : Array Value} {below : List Frame} {meth : Method} {c : Code} {mc ms : Nat} {rM : Nat × Nat} {cc : ByteArray} {pc : Nat} {nx : ex_K}
/-- behind a making -/
theorem ex_fin {B n ln : Nat} {L M : Nat} {S T : List Nat} {G : List Nat} {ad : Nat → Nat} {ls : Array Slot} {st : List Value} {H H' : Heap} {locs : List Loc} {cells slots : Nat}
    (hw : ex_A E b H0 G0 ad0 nL p l e R s m args below meth c mc ms rM L ((8589934592 + ex_get M 0) :: T) (ex_mk M B n (ex_get M 0)) (pc + ln)) (q : ex_SR E b H0 s.heap G0 ad0 nL G ad L S M ls st H locs) (hT : ∀ z ∈ T, z ∈ S) (b0 : ex_get M 0 ≤ 200001) (b1 : ex_get M 1 ≤ 1000000) (b2 : ex_get M 2 ≤ 100000000) (hn : n < 1000000000) (hb0 : H0.size = b)
    (hB : B < 2 ^ (40 * (n + 1))) (hB0 : ex_get B 0 / 256 = n) (hBk : ∀ k, k < n → ex_okc G (ex_get B (k + 1))) (hc : cells + ex_get rM.2 1 ≤ mc + ex_get M 1) (hs : slots + ex_get rM.2 2 ≤ ms + ex_get M 2)
    (hz : H'.size = H.size + 1) (ho : ∀ a : Nat, a < H.size → H'[a]? = H[a]?)
    (hk1 : ex_get B 0 % 256 < 64 → ∃ r : vw_C, ex_cl[ex_get B 0 % 256]? = some r ∧ n = r.2.2 ∧ t_OB H.size (E.1.1 (ex_get B 0 % 256)) n (E.1.2 (ex_get B 0 % 256)) H' (fun k => ex_v E ad (ex_get B (k + 1))))
    (hk2 : 64 ≤ ex_get B 0 % 256 → H'[H.size]? = some (arrV (E.2.1 (ex_get B 0 % 256)) n (fun k => ex_v E ad (ex_get B (k + 1))))) :
    W p l e R s m args below meth c H' locs (cells + 1) (slots + n) (vx_MQ below (ex_Qc E b G0 ad0 rM) (ex_XC E b G0 ad0 rM) args s mc ms (fun q => b ≤ q)) (F0 m (pc + ln) ls (.ref H.size :: T.map (ex_v E ad))) := by
  obtain ⟨q1, q2, -, q4, q5, q6, q7, q8⟩ := q
  have c1 : ex_get M 0 + 1 + n < 2147483648 := by omega
  have c2 : ex_get M 1 + 1 < 1099511627776 := by omega
  have c3 : n + ex_get M 2 < 1099511627776 := by omega
  have hM := q5.2.2.2.2.2.1
  have ht3 := q5.2.2.2.2.2.2.1.1
  have hg := ex_mk_get (B := B) (n := n) hM ht3 (by omega) c2 c3
  obtain ⟨m1, m2⟩ := ex_mk_c (M := M) (B := B) (n := n) (t := ex_get M 0) (by omega) c2 c3
  have hnew := ex_Rep.new (H' := H') q5 (q := H.size) c1 c2 c3 hB hB0 hBk (Nat.le_refl _) (by have := q7.1; omega) ho (by
    unfold ex_Ob ex_kd ex_n
    have e0 : ex_get (ex_mk M B n (ex_get M 0)) (ex_get M 0) = ex_get B 0 := by rw [hg, if_neg (by omega), if_neg (by omega), if_neg (by omega), if_neg (by omega), Nat.sub_self]
    have ek : ∀ k, ex_get (ex_mk M B n (ex_get M 0)) (ex_get M 0 + 1 + k) = ex_get B (k + 1) := fun k => by rw [hg, if_neg (by omega), if_neg (by omega), if_neg (by omega), if_neg (by omega), show ex_get M 0 + 1 + k - ex_get M 0 = k + 1 by omega]
    have hnt : ∀ w ∈ G, w ≠ ex_get M 0 := fun w hw e => by have := q5.2.2.2.1 w hw; omega
    have hvv : ∀ k, k < n → ex_v E (fun w => if w = ex_get M 0 then H.size else ad w) (ex_get B (k + 1)) = ex_v E ad (ex_get B (k + 1)) := fun k hk => ex_v_ad (hBk k hk) (fun w hw => if_neg (hnt w hw))
    rw [e0, hB0]
    simp only [ek, if_pos]
    refine ⟨fun z => ?_, fun z => ?_⟩
    · obtain ⟨r, r1, r2, r3⟩ := hk1 z
      exact ⟨r, r1, r2, r3.to (fun k hk => (hvv k hk).symm)⟩
    · rw [hk2 z]
      exact congrArg some (arrV_cong (fun k hk => (hvv k hk).symm)))
  obtain ⟨hR, had⟩ := hnew
  generalize hadn : (fun w => if w = ex_get M 0 then H.size else ad w) = ad' at hR had
  have hsub : ∀ w ∈ G, w ∈ G ++ [ex_get M 0] := fun w h => List.mem_append.mpr (Or.inl h)
  have hv : ∀ z, ex_okc G z → ex_v E ad' z = ex_v E ad z := fun z hz => ex_v_ad hz had
  have hat : ad' (ex_get M 0) = H.size := by rw [← hadn]; exact if_pos rfl
  have hgo := hw.2 (G ++ [ex_get M 0]) ad' ls (.ref H.size :: T.map (ex_v E ad)) H' locs (cells + 1) (slots + n)
  rw [m1, m2] at hgo
  refine hgo ⟨⟨q1.1, q1.2.1, fun i hi hu => ?_⟩, fun i hi => (q2 i hi).mono hsub, ?_, ?_, hR, fun w hw => ⟨hsub w (q6 w hw).1, (had w (q6 w hw).1).trans (q6 w hw).2⟩, ?_, ?_⟩ (by omega) (by omega)
  · rw [hv _ (q2 i hi)]; exact q1.2.2 i hi hu
  · rw [List.map_cons, ex_v_D (by omega) (by omega), Nat.add_sub_cancel_left, hat]
    congr 1
    exact List.map_congr_left (fun z hz => (hv z (q4 z (hT z hz))).symm)
  · refine ex_okS (fun _ _ => ?_) (fun z hz => (q4 z (hT z hz)).mono hsub)
    rw [Nat.add_sub_cancel_left]
    exact List.mem_append.mpr (Or.inr (List.mem_singleton.mpr rfl))
  · exact ⟨by have := q7.1; omega, fun x h1 h2 => (ho x (Nat.lt_of_lt_of_le h1 q7.1)).trans (q7.2.1 x h1 h2), q7.2.2⟩
  · exact ⟨by have := q8.1; omega, fun x h1 h2 => (ho x (Nat.lt_of_lt_of_le h1 q8.1)).trans (q8.2.1 x h1 h2), q8.2.2⟩
/-- a type's zero -/
def ex_dv : FieldType → Nat
  | .long => 412316860416 | .float => 34359738368 | .double => 34359738369 | .object _ => 4294967296 | .array _ => 4294967296 | _ => 0
theorem ex_dv_ok {ad : Nat → Nat} (ty : FieldType) : ex_v E ad (ex_dv ty) = defaultValue ty ∧ (∀ G, ex_okc G (ex_dv ty)) ∧ ex_dv ty < 1099511627776 := by
  cases ty with
  | long => exact ⟨by rw [show ex_dv .long = 412316860416 from rfl, ex_v_L (by decide +kernel)]; rfl, fun G => ex_okc_ge (by decide), by decide⟩
  | float => exact ⟨rfl, fun G => ex_okc_ge (by decide), by decide⟩
  | double => exact ⟨rfl, fun G => ex_okc_ge (by decide), by decide⟩
  | object n => exact ⟨rfl, fun G => ex_okc_lt (show (4294967296 : Nat) < 8589934592 by decide), show (4294967296 : Nat) < 1099511627776 by decide⟩
  | array n => exact ⟨rfl, fun G => ex_okc_lt (show (4294967296 : Nat) < 8589934592 by decide), show (4294967296 : Nat) < 1099511627776 by decide⟩
  | boolean => exact ⟨rfl, fun G => ex_okc_lt (by decide), by decide⟩
  | byte => exact ⟨rfl, fun G => ex_okc_lt (by decide), by decide⟩
  | char => exact ⟨rfl, fun G => ex_okc_lt (by decide), by decide⟩
  | short => exact ⟨rfl, fun G => ex_okc_lt (by decide), by decide⟩
  | int => exact ⟨rfl, fun G => ex_okc_lt (by decide), by decide⟩
/-- an object is made -/
theorem z_new {cB cN : Nat → Nat} {ST : Nat → Nat} {own : String} {index aux : Nat} {r : vw_C} (hx : p.tables.exec = Jvm.exec) (hb : c.code = cc) (hW : ex_Wo E b ST H0 args s) (hown : s.vm.findClass own = some m.cls) (hmc : mc ≤ R.cells) (hms : ms ≤ R.slots)
    (hr : ex_cl[aux]? = some r) (ha : aux < 64) (hclink : (Cond.classLink own index r.1).before args s = true) (hins : (Cond.instantiable r.1 r.2.2).before args s = true) (hini : (Cond.initialized r.1).before args s = true) (hN : cN aux = r.2.2) (hN2 : r.2.2 < 64)
    (tys : Nat → FieldType) (htys : ∀ k, k < r.2.2 → parseFieldDescriptor (r.2.1 k).2.2.1 = some (tys k)) (hB : cB aux < 2 ^ (40 * (r.2.2 + 1))) (hB0 : ex_get (cB aux) 0 = aux + 256 * r.2.2) (hBk : ∀ k, k < r.2.2 → ex_get (cB aux) (k + 1) = ex_dv (tys k))
    (hd : decode cc pc = .ok (.new index, 3)) (k : ex_Z E b H0 G0 ad0 nL p l e R s m args below meth c mc ms rM nx (pc + 3)) {L : Nat} {S : List Nat} {M : Nat} (h : ex_alloc M (cB aux) (cN aux) (fun c M => nx L (c :: S) M) = some rM) : ex_A E b H0 G0 ad0 nL p l e R s m args below meth c mc ms rM L S M pc := by
  rw [hN] at h
  obtain ⟨b0, b1, b2, h⟩ := ex_alloc_inv h
  have hw := k _ _ _ h
  obtain ⟨m1, m2⟩ := ex_mk_c (M := M) (B := cB aux) (n := r.2.2) (t := ex_get M 0) (by omega) (by omega) (by omega)
  have hm := hw.1
  rw [m1, m2] at hm
  refine ⟨⟨by omega, by omega⟩, fun G ad ls st H locs cells slots q hc hs => ?_⟩
  obtain ⟨hKn, hin⟩ := hW.2.2.1 _ _ hr
  have hst := q.2.2.1
  subst hst
  have e0 : ex_get (cB aux) 0 % 256 = aux := by rw [hB0]; omega
  have e1 : ex_get (cB aux) 0 / 256 = r.2.2 := by rw [hB0]; omega
  refine W.newcK hx hb hown hclink hins hini rfl hd (by omega) (by omega) hKn.2.1 rfl fun H' kC hkC f1 z1 o1 => ?_
  refine ex_fin hw q (fun z hz => hz) b0 b1 b2 (by omega) hW.1 hB e1 (fun k hk => by rw [hBk k hk]; exact (ex_dv_ok (E := E) (ad := ad) (tys k)).2.1 G) hc hs z1 o1 (fun _ => ?_) (fun z => absurd z (by omega))
  rw [e0]
  refine ⟨r, hr, rfl, (u_born tys hin (fun _ h => h) hKn hkC f1 htys).to (fun k hk => ?_)⟩
  rw [hBk k hk]; exact ((ex_dv_ok (tys k)).1).symm
/-- an array of numbers -/
theorem ex_arr {kd n z : Nat} {ty : FieldType} (hk : kd < 256) (hn : n ≤ 100000) (hz : z = ex_dv ty) : ex_blk kd n z < 2 ^ (40 * (n + 1)) ∧ ex_get (ex_blk kd n z) 0 = kd + 256 * n ∧ ∀ j, j < n → ex_get (ex_blk kd n z) (j + 1) = ex_dv ty := by
  have hzl : z < 1099511627776 := by rw [hz]; exact (ex_dv_ok (E := ((fun _ => 0, fun _ _ => 0), fun _ => 0, fun _ => .null, fun _ => 0)) (ad := id) ty).2.2
  refine ⟨ex_new_lt hk (by omega) hzl, ?_, fun j hj => ?_⟩
  · rw [ex_get_new hk (by omega) hzl 0 (by omega), if_pos rfl]
  · rw [ex_get_new hk (by omega) hzl (j + 1) (by omega), if_neg (by omega), hz]
theorem z_newarray {ST : Nat → Nat} {aux : Nat} {at' : ArrayType} (hx : p.tables.exec = Jvm.exec) (hb : c.code = cc) (hW : ex_Wo E b ST H0 args s) (hmc : mc ≤ R.cells) (hms : ms ≤ R.slots) (harr : (Cond.arrayClass (newarray.typeOf at')).before args s = true) (ha : 64 ≤ aux ∧ aux ≤ 69) (hty : newarray.typeOf at' = ex_ty aux)
    (hd : decode cc pc = .ok (.newarray at', 2)) (k : ex_Z E b H0 G0 ad0 nL p l e R s m args below meth c mc ms rM nx (pc + 2)) : ex_Z E b H0 G0 ad0 nL p l e R s m args below meth c mc ms rM (fun L S M => (@List.rec Nat (fun _ => ex_R) none (fun n T _ => (@Bool.rec (fun _ => ex_R) (none) (ex_alloc M (ex_blk aux n (ex_zero aux)) n (fun c M => nx L (c :: T) M)) (Nat.ble n 100000))) S)) pc := by
  intro L S M h
  obtain ⟨n, T, rfl, h⟩ := ex_ls1 h
  obtain ⟨h1, h⟩ := ex_br1 h
  have h1 := Nat.le_of_ble_eq_true h1
  obtain ⟨b0, b1, b2, h⟩ := ex_alloc_inv h
  have hw := k _ _ _ h
  have hz : ex_zero aux = ex_dv (ex_ty aux) := by rcases (show aux = 64 ∨ aux = 65 ∨ aux = 66 ∨ aux = 67 ∨ aux = 68 ∨ aux = 69 by omega) with rfl | rfl | rfl | rfl | rfl | rfl <;> rfl
  obtain ⟨B1, B2, B3⟩ := ex_arr (kd := aux) (n := n) (ty := ex_ty aux) (by omega) h1 hz
  obtain ⟨m1, m2⟩ := ex_mk_c (M := M) (B := ex_blk aux n (ex_zero aux)) (n := n) (t := ex_get M 0) (by omega) (by omega) (by omega)
  have hm := hw.1
  rw [m1, m2] at hm
  refine ⟨⟨by omega, by omega⟩, fun G ad ls st H locs cells slots q hc hs => ?_⟩
  have hst := q.2.2.1
  subst hst
  have e0 : ex_get (ex_blk aux n (ex_zero aux)) 0 % 256 = aux := by rw [B2]; omega
  have e1 : ex_get (ex_blk aux n (ex_zero aux)) 0 / 256 = n := by rw [B2]; omega
  rw [List.map_cons, ex_v_n (show n < 4294967296 by omega)]
  have hcl : (nI n).toNatClampNeg = n := nI_clamp (by omega)
  have hcb : componentBytes (newarray.typeOf at') ≤ 8 := by cases at' <;> decide
  refine va_newaK hx hb harr rfl hd rfl (nI_pos (by omega)) hcl (by have := Nat.mul_le_mul h1 hcb; omega) (by omega) (by omega) rfl fun H' cA f1 z1 o1 hAr hNm => ?_
  have hcA : cA = E.2.1 aux := by
    have hra := ((hW.2.2.2.1 aux ha.1 (by omega)).2 (by omega))
    rw [hty] at hNm
    have hra' : s.vm.findClass ("[" ++ (ex_ty aux).toString) = some (E.2.1 aux) := by rcases (show aux = 64 ∨ aux = 65 ∨ aux = 66 ∨ aux = 67 ∨ aux = 68 ∨ aux = 69 by omega) with rfl | rfl | rfl | rfl | rfl | rfl <;> exact hra
    exact Option.some.inj (hNm.symm.trans hra')
  refine ex_fin hw q (fun z hz => List.mem_cons_of_mem _ hz) b0 b1 b2 (by omega) hW.1 B1 e1 (fun k hk => by rw [B3 k hk]; exact (ex_dv_ok (E := E) (ad := ad) (ex_ty aux)).2.1 G) hc hs z1 o1 (fun z => absurd z (by omega)) (fun _ => ?_)
  rw [e0, f1, hcA, hty]
  refine congrArg some (arrV_cong (fun k hk => ?_))
  rw [B3 k hk]; exact ((ex_dv_ok (ex_ty aux)).1).symm
end
