/-! calls: contracts, and the rows that use them -/
def ex_rm (d mc ms : Nat) : Room := { frames := d + 1, cells := mc, slots := ms, locals := 100 * d + 100 }
def ex_Pc (X : ex_X) (E : ex_G) (b : Nat) (ST : Nat → Nat) (H0 : Heap) (G0 : List Nat) (ad0 : Nat → Nat) (as : List Nat) (M : Nat) : Array Value → State → Prop := fun a U =>
  a = (as.map (ex_v E ad0)).toArray ∧ ex_Rep E b G0 ad0 M U.heap ∧ ex_Wd X E b ST H0 U ∧ va_S (fun q => b ≤ q) H0 U.heap []
theorem ex_Pc.blind {X : ex_X} {E : ex_G} {b : Nat} {ST : Nat → Nat} {H0 : Heap} {G0 : List Nat} {ad0 : Nat → Nat} {as : List Nat} {M : Nat} : FrameBlind (ex_Pc X E b ST H0 G0 ad0 as M) := fun _ U g mk h =>
  ⟨h.1, h.2.1, ex_Wd.moved (U := U.calling g mk _) (State.WarmedH.refl U) h.2.2.1, h.2.2.2⟩
abbrev ex_I : Type := MethodName × ByteArray × Nat × Option FieldType × Option (List (Nat × Nat × Nat × Nat))
/-- the word that says a method's code -/
def ex_cw (q : ex_I) : Cond := match q.2.2.2.2 with | none => Cond.code q.1 q.2.1 q.2.2.1 q.2.2.2.1 | some hh => Cond.codeWith q.1 q.2.1 q.2.2.1 q.2.2.2.1 hh
/-- a method's contract at what was evaluated -/
def ex_Cn (l : Launch) (X : ex_X) (E : ex_G) (b : Nat) (ST : Nat → Nat) (H0 : Heap) (q : ex_I) (d : Nat) (as : List Nat) (M : Nat) (rM : Nat × Nat) : Prop :=
  ∀ (G0 : List Nat) (ad0 : Nat → Nat), (∀ a ∈ as, ex_okc G0 a) → (∀ a ∈ as, a < 1099511627776) →
    vx_Met l q.1 (ex_cw q :: ex_TT X.2.2) (ex_rm d (ex_get rM.2 1 - ex_get M 1) (ex_get rM.2 2 - ex_get M 2)) (ex_Pc X E b ST H0 G0 ad0 as M) (ex_Qc E b G0 ad0 rM) (ex_XC E b G0 ad0 rM) (ex_get rM.2 1 - ex_get M 1) (ex_get rM.2 2 - ex_get M 2) (fun q => b ≤ q)
theorem ex_TTgood {sel : List MethodName} : GoodIn (ex_TT sel) (ex_TT sel) := fun w hw => ⟨hw, by
  rcases List.mem_append.mp hw with h | h
  · exact good_of_word (List.mem_filter.mp h).2
  · obtain ⟨y, -, rfl⟩ := List.mem_map.mp h
    exact good_of_word rfl⟩
theorem ex_good {sel : List MethodName} {w : Cond} (h : w ∈ ex_TT sel) {ws : List Cond} (hw : GoodIn (ex_TT sel) ws) : GoodIn (ex_TT sel) (w :: ws) := fun w' h' => by
  rcases List.mem_cons.mp h' with e | h'
  · subst e; exact ex_TTgood _ h
  · exact hw _ h'
section
variable {E : ex_G} {b : Nat} {H0 : Heap} {G0 : List Nat} {ad0 : Nat → Nat} {nL : Nat} {p : Program} {l : Launch} {e : Env} {R : Room} {s : State} {m : MethodId} {args : Array Value} {below : List Frame} {meth : Method} {c : Code} {mc ms : Nat} {rM : Nat × Nat} {cc : ByteArray} {pc : Nat} {nx : ex_K}
/-- the class of a receiver -/
theorem ex_recv {X : ex_X} {ST : Nat → Nat} {G : List Nat} {ad : Nat → Nat} {M : Nat} {H : Heap} {locs : List Loc} {x : Nat} {r : vw_C} (hW : ex_Wo E b ST H0 args s) (hR : ex_Rep E b G ad M H) (hS : va_S (fun q => b ≤ q) H0 H locs) (hx : ex_isR x = true) (hok : ex_okc G x) {rk : Nat} (hrk : rk < 64) (hk : ex_hd ST M x % 256 = rk) (hr : ex_cl[rk]? = some r) :
    ∃ a, ex_v E ad x = .ref a ∧ ∃ cell : Cell, H[a]? = some cell ∧ cell.vm.isStatics = false ∧ s.vm.findClass r.1 = some cell.cls := by
  obtain ⟨O, a, e1, ⟨cell, c1, c2, c3, c4, -⟩, e2, -⟩ := ex_rd hW hR hS hx hok (by omega)
  obtain ⟨r', g1, -, g3, -⟩ := c4 (by omega)
  rw [← e2, hk] at g1 g3
  rw [hr] at g1
  cases g1
  exact ⟨a, e1, cell, c1, c3, by rw [g3]; exact (hW.2.2.1 _ _ hr).1.2.1⟩
/-- a call; run: what the instruction's kind gives -/
theorem z_inv {X : ex_X} {ST : Nat → Nat} {Ts : List Cond} {own : String} {hs : ex_H} {hh : List (Nat × Nat × Nat × Nat)} {exj : Nat → ex_K} {bt : ex_CD} {call : Nat → List Nat → Nat → ex_R} {n aux : Nat} (hx : p.tables.exec = Jvm.exec) (hb : c.code = cc) (hE : ex_svR E) (hWd : ex_Wd X E b ST H0 s) (hown : s.vm.findClass own = some m.cls) (hT : ∀ w ∈ Ts, w.before args s = true) (hlk : meth.locks = false)
    (hexc : c.exceptionTable.toList = tableOf hh) (hHO : ex_HO X Ts own hs hh)
    (hB1 : ∀ t n k ax r, bt t = (.astore n, k, ax) :: r → n < nL ∧ decode cc t = .ok (.astore n, 2)) (hB2 : ∀ t (n : Fin 4) k ax r, bt t = (.astore_n n, k, ax) :: r → n.val < nL ∧ decode cc t = .ok (.astore_n n, 1)) (kj : ∀ t, ex_Z E b H0 G0 ad0 nL p l e R s m args below meth c mc ms rM (exj t) t) (k : ex_Z E b H0 G0 ad0 nL p l e R s m args below meth c mc ms rM nx (pc + n))
    (run : ∀ (as T : List Nat) (M : Nat) (rM' : Nat × Nat) (G : List Nat) (ad : Nat → Nat) (L : Nat) (ls : Array Slot) (H : Heap) (locs : List Loc) (cells slots : Nat), call (aux / 8192 - 16) as M = some rM' → as.length = aux % 32 → (∀ a ∈ as, a < 1099511627776) → ex_rsum T ≤ 8 →
      (aux / 32 % 256 = 255 ∨ (aux / 32 % 256 = 254 ∧ ∃ x as', as = x :: as' ∧ ex_isD x = true ∧ True) ∨ (aux / 32 % 256 ≠ 254 ∧ ∃ x as', as = x :: as' ∧ ex_isR x = true ∧ ex_hd ST M x % 256 = aux / 32 % 256)) → ex_SR E b H0 s.heap G0 ad0 nL G ad L (as.reverse ++ T) M ls ((as.reverse ++ T).map (ex_v E ad)) H locs → cells + (ex_get rM'.2 1 - ex_get M 1) ≤ mc → slots + (ex_get rM'.2 2 - ex_get M 2) ≤ ms →
      ex_RunN n p l e R s m args below meth c H locs cells slots (ex_get rM'.2 1 - ex_get M 1) (ex_get rM'.2 2 - ex_get M 2) (F0 m pc ls ((as.reverse ++ T).map (ex_v E ad))) (T.map (ex_v E ad)) (ex_Qc E b G ad rM' #[]) (ex_XC E b G ad rM') (fun q => b ≤ q)) :
    ex_Z E b H0 G0 ad0 nL p l e R s m args below meth c mc ms rM (ex_inv hs bt ST call exj pc aux nx) pc := by
  intro L S M h
  unfold ex_inv at h
  obtain ⟨q0, h0, k1⟩ := ex_op1 h
  obtain ⟨as, T⟩ := q0
  obtain ⟨g1, k2⟩ := ex_br1 k1
  obtain ⟨g2, k3⟩ := ex_br1 k2
  obtain ⟨rM', g3, k4⟩ := ex_op1 k3
  obtain ⟨Y, y1, y2, y3, y4⟩ := ex_take_inv _ _ _ h0
  have g1 := Nat.le_of_ble_eq_true g1
  dsimp only at y1 y2 y3 g1 g2 g3 k4
  rw [List.append_nil] at y2
  have y2' : Y = as.reverse := by rw [y2, List.reverse_reverse]
  subst y2'
  subst y1
  obtain ⟨hm, hw⟩ := z_aft (T := T) (S := as.reverse ++ T) hx hb hE hWd hown hT hlk hexc hHO hB1 hB2 kj k (fun z hz => List.mem_append.mpr (Or.inr hz)) k4
  refine ⟨hm, fun G ad ls st H locs cells slots q hc hs' => ?_⟩
  refine hw G ad ls st H locs cells slots #[] q hc hs' fun u1 u2 => ?_
  have hst := q.2.2.1
  subst hst
  refine run as T M rM' G ad L ls H locs cells slots g3 (by rw [← List.length_reverse]; exact y3) (fun a ha => y4 a (List.mem_reverse.mpr ha)) g1 ?_ q u1 u2
  rw [ex_bB] at g2
  by_cases e : Nat.beq (Nat.mod (Nat.div aux 32) 256) 255 = true
  · exact Or.inl (Nat.eq_of_beq_eq_true e)
  · rw [if_neg e] at g2
    cases as with
    | nil => cases g2
    | cons x as' =>
      dsimp only at g2
      rw [ex_bB] at g2
      by_cases e3 : Nat.beq (Nat.mod (Nat.div aux 32) 256) 254 = true
      · rw [if_pos e3] at g2
        exact Or.inr (Or.inl ⟨Nat.eq_of_beq_eq_true e3, x, as', rfl, g2, trivial⟩)
      · rw [if_neg e3] at g2
        rw [ex_bB] at g2
        by_cases e2 : ex_isR x = true
        · rw [if_pos e2] at g2
          exact Or.inr (Or.inr ⟨fun z => e3 (by rw [show Nat.mod (Nat.div aux 32) 256 = 254 from z]; rfl), x, as', rfl, e2, Nat.eq_of_beq_eq_true g2⟩)
        · rw [if_neg e2] at g2; cases g2
end
