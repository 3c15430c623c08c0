noncomputable section
/-! a chain of turns; the place's dancer where nobody stands -/
def bx_R (V : ex_V) (ST : Nat → Nat) (d : Nat) (call : Nat → List Nat → Nat → ex_R) (ex : Nat → ex_K) (kt : Nat → Option ex_C) (n : Nat) : Nat → ex_K :=
  @Nat.rec (fun _ => Nat → ex_K) ex (fun _ ih t L S M => @Option.rec ex_C (fun _ => ex_R) none (fun c => c V ST d call ih L S M) (kt t)) n
theorem bx_Rs {V : ex_V} {ST : Nat → Nat} {d : Nat} {call : Nat → List Nat → Nat → ex_R} {ex : Nat → ex_K} {kt : Nat → Option ex_C} {n t : Nat} {c : ex_C} {L M : Nat} {S : List Nat} (h : kt t = some c) : bx_R V ST d call ex kt (n + 1) t L S M = c V ST d call (bx_R V ST d call ex kt n) L S M := by
  show @Option.rec ex_C (fun _ => ex_R) none (fun c => c V ST d call (bx_R V ST d call ex kt n) L S M) (kt t) = _
  rw [h]
theorem bx_RZ {l : Launch} {X : ex_X} {inf : Nat → ex_I} {V : ex_V} {ST : Nat → Nat} {E : ex_G} {b : Nat} {H0 : Heap} {mid nL : Nat} {kt : Nat → Option ex_C} (hS : ex_SNF l X inf V ST E b H0 mid nL kt)
    {d : Nat} {call : Nat → List Nat → Nat → ex_R} {ex : Nat → ex_K} {p : Program} {e : Env} {R : Room} {s : State} {m : MethodId} {args : Array Value} {below : List Frame} {meth : Method} {c : Code} {mc ms : Nat} {rM : Nat × Nat}
    (b1 : p.tables.exec = Jvm.exec) (b2 : c.code = (inf mid).2.1) (b3 : c.maxLocals = nL) (b4 : ex_Wd X E b ST H0 s) (b5 : va_S (fun q => b ≤ q) H0 s.heap []) (b6 : s.vm.findClass (inf mid).1.cls = some m.cls) (b7 : ∀ w ∈ ex_TT X.2.2, w.before args s = true) (b8 : meth.sig.returnType = (inf mid).2.2.2.1) (b9 : meth.name = (inf mid).1.name) (b10 : meth.locks = false) (b11 : R = ex_rm d mc ms) (b12 : c.exceptionTable.toList = tableOf (ex_hh (inf mid)))
    (hcall : ∀ mid' as M' rM', call mid' as M' = some rM' → ∃ d', d = d' + 1 ∧ ex_Cn l X E b ST H0 (inf mid') d' as M' rM')
    {G0 : List Nat} {ad0 : Nat → Nat} (kj : ∀ t, ex_Z E b H0 G0 ad0 nL p l e R s m args below meth c mc ms rM (ex t) t) :
    ∀ n t, ex_Z E b H0 G0 ad0 nL p l e R s m args below meth c mc ms rM (bx_R V ST d call ex kt n t) t := by
  intro n
  induction n with
  | zero => exact kj
  | succ n ih =>
    intro t L S M h
    have h : @Option.rec ex_C (fun _ => ex_R) none (fun c => c V ST d call (bx_R V ST d call ex kt n) L S M) (kt t) = some rM := h
    obtain ⟨c', hc', h⟩ := ex_op1 h
    exact hS d call (bx_R V ST d call ex kt n) p e R s m args below meth c mc ms rM b1 b2 b3 b4 b5 b6 b7 b8 b9 b10 b11 b12 hcall G0 ad0 ih t c' hc' L S M h
/-- a floor of the reference in the store: its many, and its rows of places -/
def bx_F (M w n xs ys : Nat) : Prop := (3 ≤ w ∧ w < 8589934592) ∧ ex_get M w % 256 = 14 ∧ ex_get M (w + (1 + 1)) = n ∧ n < 1000 ∧ ex_get M (w + (2 + 1)) = 8589934592 + xs ∧ ex_get M (w + (3 + 1)) = 8589934592 + ys ∧ (3 ≤ xs ∧ xs < 8589934592) ∧ (3 ≤ ys ∧ ys < 8589934592) ∧
  ex_get M xs % 256 = 64 ∧ ex_get M ys % 256 = 64 ∧ n ≤ ex_get M xs / 256 ∧ n ≤ ex_get M ys / 256 ∧ (∀ k, k < n → ex_get M (xs + (k + 1)) < 4294967296) ∧ (∀ k, k < n → ex_get M (ys + (k + 1)) < 4294967296)
theorem bx_bi {n : Nat} (h : n < 2147483648) : ex_bi n = n + 2147483648 := ex_xhb h
theorem bx_atL {V : ex_V} {ST : Nat → Nat} {d : Nat} {call : Nat → List Nat → Nat → ex_R} {ex : Nat → ex_K} {M w n xs ys px py : Nat} (hF : bx_F M w n xs ys) (hpx : px < 4294967296) (hpy : py < 4294967296) (hno : ∀ k, k < n → ex_get M (xs + (k + 1)) ≠ px ∨ ex_get M (ys + (k + 1)) ≠ py) :
    ∀ j k L, k + j = n → bx_L L [8589934592 + w, px, py, k] → bx_R V ST d call ex kt_175 (2 * j + 2) 2 L [] M = some (4294967295, M) := by
  obtain ⟨⟨w1, w2⟩, f1, f2, f3, f4, f5, ⟨x1, x2⟩, ⟨y1, y2⟩, f6, f7, f8, f9, f10, f11⟩ := hF
  have tf : ex_tA (8589934592 + w) = true := ex_tA_iff.mpr (by omega)
  intro j
  induction j with
  | zero =>
    intro k L hk hL
    rw [bx_Rs (show kt_175 2 = some k175_2 from rfl)]
    unfold k175_2
    refine (bx_iload hL rfl (by omega)).trans ?_
    refine (bx_aload hL rfl tf).trans ?_
    refine (bx_gf w1 w2 f1).trans ?_
    rw [f2]
    refine (bx_icmp_ge_t (by omega) (by omega) (by rw [bx_bi (by omega), bx_bi (by omega)]; omega)).trans ?_
    rw [bx_Rs (show kt_175 38 = some k175_38 from rfl)]
    unfold k175_38
    exact bx_ireturn (by decide)
  | succ j ih =>
    intro k L hk hL
    have hkn : k < n := by omega
    rw [show 2 * (j + 1) + 2 = (2 * j + 2) + 1 + 1 by omega, bx_Rs (show kt_175 2 = some k175_2 from rfl)]
    have hnext : bx_R V ST d call ex kt_175 (2 * j + 2 + 1) 32 L [] M = some (4294967295, M) := by
      rw [bx_Rs (show kt_175 32 = some k175_32 from rfl)]
      unfold k175_32
      refine (bx_iinc (n := 2) hL rfl (by omega) rfl (by omega)).trans ?_
      refine ih (k + 1) _ (by omega) ?_
      have := bx_set (n := 3) hL (v := k + 1) (by omega)
      rw [show Nat.mod (Nat.add k 1) 4294967296 = k + 1 from Nat.mod_eq_of_lt (show k + 1 < 4294967296 by omega)]
      exact this
    unfold k175_2
    refine (bx_iload hL rfl (by omega)).trans ?_
    refine (bx_aload hL rfl tf).trans ?_
    refine (bx_gf w1 w2 f1).trans ?_
    rw [f2]
    refine (bx_icmp_ge (by omega) (by omega) (by rw [bx_bi (by omega), bx_bi (by omega)]; omega)).trans ?_
    refine (bx_aload hL rfl tf).trans ?_
    refine (bx_gf w1 w2 f1).trans ?_
    rw [f4]
    refine (bx_iload hL rfl (by omega)).trans ?_
    refine (bx_iaload x1 x2 f6 (by omega) rfl (f10 k hkn)).trans ?_
    refine (bx_iload hL rfl hpx).trans ?_
    by_cases hx : ex_get M (xs + (k + 1)) = px
    · rw [hx]
      refine (bx_icmp_ne hpx).trans ?_
      refine (bx_aload hL rfl tf).trans ?_
      refine (bx_gf w1 w2 f1).trans ?_
      rw [f5]
      refine (bx_iload hL rfl (by omega)).trans ?_
      refine (bx_iaload y1 y2 f7 (by omega) rfl (f11 k hkn)).trans ?_
      refine (bx_iload hL rfl hpy).trans ?_
      refine (bx_icmp_ne_t (f11 k hkn) hpy ((hno k hkn).resolve_left (fun z => z hx))).trans ?_
      exact hnext
    · refine (bx_icmp_ne_t (f10 k hkn) hpx hx).trans ?_
      exact hnext
/-- where nobody stands the answer is -1, and nothing is made -/
theorem bx_atC {l : Launch} {V : ex_V} {ST : Nat → Nat} {E : ex_G} {b : Nat} {H0 : Heap} (hl : l.stackTraces = false) (hV : ex_VOK E V) (hCW : ex_CW ex_Xc) (hCT : ex_CT) {d M w n xs ys px py : Nat} (hF : bx_F M w n xs ys) (hpx : px < 4294967296) (hpy : py < 4294967296) (hno : ∀ k, k < n → ex_get M (xs + (k + 1)) ≠ px ∨ ex_get M (ys + (k + 1)) ≠ py) :
    ex_Cn l ex_Xc E b ST H0 (ex_inf 175) d [8589934592 + w, px, py] M (4294967295, M) := by
  have hw2 := hF.1.2
  refine cx_met mk175 (K := bx_R V ST d (fun _ _ _ => none) (fun _ _ _ _ => none) kt_175 (2 * n + 1 + 1) 0) ?_ ?_ ?_
  · intro G0 ad0 p e R s m args below meth c mc ms rM c1 c2 c3 c4 c5 c6 c7 c8 c9 c10 c11 c12
    exact bx_RZ (call := fun _ _ _ => none) (ex := fun _ _ _ _ => none) (ex_snf hl hV hCW hCT mk175 ktE_175) c1 c2 c3 c4 c5 c6 c7 c8 c9 c10 c11 c12 (fun _ _ _ rM' h => nomatch (show (none : ex_R) = some rM' from h)) (fun _ _ _ _ h => nomatch (show (none : ex_R) = some rM from h)) _ 0
  · simp only [ex_rsum_cons, bx_c2 (show 8589934592 + w < 34359738369 by omega), bx_c2 (show px < 34359738369 by omega), bx_c2 (show py < 34359738369 by omega)]
    exact Nat.le_of_ble_eq_true rfl
  · obtain ⟨-, o2, -⟩ := mk175
    generalize hu : (_ : Nat × Nat × Nat × ex_H × ex_CD).2.1 = u
    have hu4 : ∀ j, j < 4 → ex_get u j = 137438953472 := by subst hu; exact o2
    have hL0 : bx_L u [137438953472, 137438953472, 137438953472, 137438953472] := by
      intro i v hv
      have hi : i < 4 := (List.getElem?_eq_some_iff.mp hv).1
      rw [hu4 i hi]
      have : i = 0 ∨ i = 1 ∨ i = 2 ∨ i = 3 := by omega
      rcases this with rfl | rfl | rfl | rfl <;> exact Option.some.inj hv
    have hL1 := bx_set (n := 2) (v := py) (bx_set (n := 1) (v := px) (bx_set (n := 0) (v := 8589934592 + w) hL0 (by omega)) (by omega)) (by omega)
    have hp : ex_pack [8589934592 + w, px, py] 0 u = ex_set (ex_set (ex_set u 0 (8589934592 + w)) 1 px) 2 py := by
      simp only [ex_pack_cons, bx_c2 (show 8589934592 + w < 34359738369 by omega), bx_c2 (show px < 34359738369 by omega), bx_c2 (show py < 34359738369 by omega)]
      rfl
    rw [hp, bx_Rs (show kt_175 0 = some k175_0 from rfl)]
    unfold k175_0
    refine bx_psh.trans ?_
    refine (bx_istore (n := 2) hL1 rfl (by omega) (by decide)).trans ?_
    have h2 := bx_atL (V := V) (ST := ST) (d := d) (call := fun _ _ _ => none) (ex := fun _ _ _ _ => none) hF hpx hpy hno n 0 _ (by omega) (bx_set (n := 3) (v := 0) hL1 (by decide))
    exact (bx_Rs (show kt_175 2 = some k175_2 from rfl)).symm.trans h2
end
