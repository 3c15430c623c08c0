noncomputable section
/-! the boxes' loop with empty places passed over -/
def bx_and (a c : Bool) : Bool := @Bool.rec (fun _ => Bool) false c a
theorem bx_andE {a c : Bool} (h : bx_and a c = true) : a = true ∧ c = true := by
  cases a with
  | true => exact ⟨rfl, h⟩
  | false => cases h
/-- the next place above lo where somebody of that column stands -/
def bx_top (M xs ys bx lo : Nat) (n : Nat) : Nat → Nat :=
  @Nat.rec (fun _ => Nat → Nat) (fun t => t) (fun k ih t => ih (@Bool.rec (fun _ => Nat) t (@Bool.rec (fun _ => Nat) t (@Bool.rec (fun _ => Nat) t (ex_bi (ex_gt M (Nat.add ys (Nat.succ k)))) (Nat.ble (ex_bi (ex_gt M (Nat.add ys (Nat.succ k)))) t)) (Nat.ble lo (ex_bi (ex_gt M (Nat.add ys (Nat.succ k)))))) (Nat.beq (ex_gt M (Nat.add xs (Nat.succ k))) bx))) n
def bx_all (M xs ys bx lo hi : Nat) (n : Nat) : Bool :=
  @Nat.rec (fun _ => Bool) true (fun k ih => bx_and (Nat.ble (ex_gt M (Nat.add xs (Nat.succ k))) 4294967295) (bx_and (Nat.ble (ex_gt M (Nat.add ys (Nat.succ k))) 4294967295) (bx_and (@Bool.rec (fun _ => Bool) true (@Bool.rec (fun _ => Bool) (Nat.ble hi (ex_bi (ex_gt M (Nat.add ys (Nat.succ k))))) true (Nat.ble (Nat.succ (ex_bi (ex_gt M (Nat.add ys (Nat.succ k))))) lo)) (Nat.beq (ex_gt M (Nat.add xs (Nat.succ k))) bx)) ih))) n
theorem bx_allE {M xs ys bx lo hi : Nat} : ∀ n, bx_all M xs ys bx lo hi n = true → ∀ k, k < n → ex_get M (xs + (k + 1)) < 4294967296 ∧ ex_get M (ys + (k + 1)) < 4294967296 ∧ (ex_get M (xs + (k + 1)) ≠ bx ∨ ex_bi (ex_get M (ys + (k + 1))) < lo ∨ hi ≤ ex_bi (ex_get M (ys + (k + 1)))) := by
  intro n
  induction n with
  | zero => intro _ k hk; omega
  | succ n ih =>
    intro h k hk
    have h : bx_and (Nat.ble (ex_gt M (xs + (n + 1))) 4294967295) (bx_and (Nat.ble (ex_gt M (ys + (n + 1))) 4294967295) (bx_and (@Bool.rec (fun _ => Bool) true (@Bool.rec (fun _ => Bool) (Nat.ble hi (ex_bi (ex_gt M (ys + (n + 1))))) true (Nat.ble (Nat.succ (ex_bi (ex_gt M (ys + (n + 1))))) lo)) (Nat.beq (ex_gt M (xs + (n + 1))) bx)) (bx_all M xs ys bx lo hi n))) = true := h
    rw [ex_gtE] at h
    obtain ⟨h1, h⟩ := bx_andE h
    obtain ⟨h2, h⟩ := bx_andE h
    obtain ⟨h3, h⟩ := bx_andE h
    by_cases hkn : k = n
    · subst hkn
      have h1 := Nat.le_of_ble_eq_true h1
      have h2 := Nat.le_of_ble_eq_true h2
      refine ⟨by omega, by omega, ?_⟩
      cases hb : Nat.beq (ex_get M (xs + (k + 1))) bx with
      | false => exact Or.inl fun z => by rw [z, Nat.beq_refl] at hb; cases hb
      | true =>
        rw [hb] at h3
        refine Or.inr ?_
        cases hc : Nat.ble (Nat.succ (ex_bi (ex_get M (ys + (k + 1))))) lo with
        | true => exact Or.inl (Nat.le_of_ble_eq_true hc)
        | false =>
          rw [hc] at h3
          exact Or.inr (Nat.le_of_ble_eq_true h3)
    · exact ih h k (by omega)
/-- that places lo .. hi of the column are empty, and all is as the loop has it -/
def bx_ok (d L M w n xs ys lo hi : Nat) : Bool :=
  bx_and (Nat.ble 1 d) (bx_and (Nat.beq (ex_gt L 0) (Nat.add 8589934592 w)) (bx_and (Nat.ble 3 w) (bx_and (Nat.beq (Nat.mod (ex_gt M w) 256) 14) (bx_and (Nat.beq (ex_gt M (Nat.add w 2)) n) (bx_and (Nat.ble n 999) (bx_and (Nat.beq (ex_gt M (Nat.add w 3)) (Nat.add 8589934592 xs)) (bx_and (Nat.beq (ex_gt M (Nat.add w 4)) (Nat.add 8589934592 ys))
  (bx_and (Nat.ble 3 xs) (bx_and (Nat.ble 3 ys) (bx_and (Nat.beq (Nat.mod (ex_gt M xs) 256) 64) (bx_and (Nat.beq (Nat.mod (ex_gt M ys) 256) 64) (bx_and (Nat.ble n (Nat.div (ex_gt M xs) 256)) (bx_and (Nat.ble n (Nat.div (ex_gt M ys) 256))
  (bx_and (Nat.ble (Nat.add w 5) (ex_gt M 0)) (bx_and (Nat.ble (Nat.add (Nat.add xs 1) n) (ex_gt M 0)) (bx_and (Nat.ble (Nat.add (Nat.add ys 1) n) (ex_gt M 0)) (bx_and (Nat.ble (ex_gt M 0) 200001) (bx_and (Nat.ble (Nat.add (ex_gt M 1) (Nat.sub hi lo)) 1000000) (bx_and (Nat.ble (Nat.add (ex_gt M 2) (Nat.mul 4 (Nat.sub hi lo))) 100000000)
  (bx_and (Nat.ble (ex_gt L 2) 4294967295) (bx_and (Nat.ble (ex_gt L 4) 4294967295) (bx_and (Nat.beq (ex_gt L 5) (ex_bi lo)) (bx_and (Nat.ble 2147483500 lo) (bx_and (Nat.ble (Nat.succ lo) hi) (bx_and (Nat.ble hi 2147483709) (bx_all M xs ys (ex_gt L 4) lo hi n))))))))))))))))))))))))))
def c_box : ex_C := fun V ST d call ex L S M =>
  @List.rec Nat (fun _ => ex_R)
    ((fun (w xs ys n lo : Nat) => (fun (hi : Nat) => @Bool.rec (fun _ => ex_R) (k237_28 V ST d call ex L S M)
      (ex 28 (ex_gs (ex_gs (ex_gs (ex_gs (ex_gs L 5 (ex_bi hi)) 6 137438953472) 7 137438953472) 8 137438953472) 9 137438953472) [] (ex_gs (ex_gs M 1 (Nat.add (ex_gt M 1) (Nat.sub hi lo))) 2 (Nat.add (ex_gt M 2) (Nat.mul 4 (Nat.sub hi lo)))))
      (bx_ok d L M w n xs ys lo hi)) (bx_top M xs ys (ex_gt L 4) lo n 2147483709))
      (Nat.sub (ex_gt L 0) 8589934592) (Nat.sub (ex_gt M (Nat.add (Nat.sub (ex_gt L 0) 8589934592) 3)) 8589934592) (Nat.sub (ex_gt M (Nat.add (Nat.sub (ex_gt L 0) 8589934592) 4)) 8589934592) (ex_gt M (Nat.add (Nat.sub (ex_gt L 0) 8589934592) 2)) (ex_bi (ex_gt L 5)))
    (fun _ _ _ => k237_28 V ST d call ex L S M) S
def kb_237 : Nat → Option ex_C := fun pc => @Bool.rec (fun _ => Option ex_C) (kt_237 pc) (some c_box) (Nat.beq pc 28)
theorem bx_snd {l : Launch} {V : ex_V} {ST : Nat → Nat} {E : ex_G} {b : Nat} {H0 : Heap} (hl : l.stackTraces = false) (hV : ex_VOK E V) (hCW : ex_CW ex_Xc) (hCT : ex_CT) : ex_SND l ex_Xc ex_inf V ST E b H0 237 10 kb_237 := by
  have hN := ex_snd (V := V) (ST := ST) (E := E) (b := b) (H0 := H0) hl hV hCW hCT mk237 ktE_237
  intro d call exj p e R s m args below meth c mc ms rM b1 b2 b3 b4 b5 b6 b7 b8 b9 b10 b11 b12 hcall kj G0 ad0 t c' hc'
  have hN := hN d call exj p e R s m args below meth c mc ms rM b1 b2 b3 b4 b5 b6 b7 b8 b9 b10 b11 b12 hcall kj G0 ad0
  cases ht : Nat.beq t 28 with
  | false =>
    have hc' : @Bool.rec (fun _ => Option ex_C) (kt_237 t) (some c_box) (Nat.beq t 28) = some c' := hc'
    rw [ht] at hc'
    exact hN t c' hc'
  | true =>
    have hc' : @Bool.rec (fun _ => Option ex_C) (kt_237 t) (some c_box) (Nat.beq t 28) = some c' := hc'
    rw [ht] at hc'
    have hc' : some c_box = some c' := hc'
    cases hc'
    have ht := Nat.eq_of_beq_eq_true ht
    subst ht
    have hN := hN 28 k237_28 rfl
    intro L S M h
    cases S with
    | cons x S => exact hN L (x :: S) M h
    | nil =>
      have core : ∀ (w xs ys n lo hi : Nat), @Bool.rec (fun _ => ex_R) (k237_28 V ST d call exj L [] M)
          (exj 28 (ex_gs (ex_gs (ex_gs (ex_gs (ex_gs L 5 (ex_bi hi)) 6 137438953472) 7 137438953472) 8 137438953472) 9 137438953472) [] (ex_gs (ex_gs M 1 (Nat.add (ex_gt M 1) (Nat.sub hi lo))) 2 (Nat.add (ex_gt M 2) (Nat.mul 4 (Nat.sub hi lo)))))
          (bx_ok d L M w n xs ys lo hi) = some rM → ex_A E b H0 G0 ad0 10 p l e R s m args below meth c mc ms rM L [] M 28 := by
        intro w xs ys n lo hi h
        cases hk : bx_ok d L M w n xs ys lo hi with
        | false =>
          rw [hk] at h
          exact hN L [] M h
        | true =>
          rw [hk] at h
          unfold bx_ok at hk
          rw [ex_gtE] at hk h
          rw [ex_gsE] at h
          obtain ⟨a1, hk⟩ := bx_andE hk
          obtain ⟨a2, hk⟩ := bx_andE hk
          obtain ⟨a3, hk⟩ := bx_andE hk
          obtain ⟨a4, hk⟩ := bx_andE hk
          obtain ⟨a5, hk⟩ := bx_andE hk
          obtain ⟨a6, hk⟩ := bx_andE hk
          obtain ⟨a7, hk⟩ := bx_andE hk
          obtain ⟨a8, hk⟩ := bx_andE hk
          obtain ⟨a9, hk⟩ := bx_andE hk
          obtain ⟨a10, hk⟩ := bx_andE hk
          obtain ⟨a11, hk⟩ := bx_andE hk
          obtain ⟨a12, hk⟩ := bx_andE hk
          obtain ⟨a13, hk⟩ := bx_andE hk
          obtain ⟨a14, hk⟩ := bx_andE hk
          obtain ⟨a15, hk⟩ := bx_andE hk
          obtain ⟨a16, hk⟩ := bx_andE hk
          obtain ⟨a17, hk⟩ := bx_andE hk
          obtain ⟨a18, hk⟩ := bx_andE hk
          obtain ⟨a19, hk⟩ := bx_andE hk
          obtain ⟨a20, hk⟩ := bx_andE hk
          obtain ⟨a21, hk⟩ := bx_andE hk
          obtain ⟨a22, hk⟩ := bx_andE hk
          obtain ⟨a23, hk⟩ := bx_andE hk
          obtain ⟨a24, hk⟩ := bx_andE hk
          obtain ⟨a25, hk⟩ := bx_andE hk
          obtain ⟨a26, hk⟩ := bx_andE hk
          have a1 := Nat.le_of_ble_eq_true a1
          have a2 : ex_get L 0 = 8589934592 + w := Nat.eq_of_beq_eq_true a2
          have a3 := Nat.le_of_ble_eq_true a3
          have a4 : ex_get M w % 256 = 14 := Nat.eq_of_beq_eq_true a4
          have a5 : ex_get M (w + 2) = n := Nat.eq_of_beq_eq_true a5
          have a6 := Nat.le_of_ble_eq_true a6
          have a7 : ex_get M (w + 3) = 8589934592 + xs := Nat.eq_of_beq_eq_true a7
          have a8 : ex_get M (w + 4) = 8589934592 + ys := Nat.eq_of_beq_eq_true a8
          have a9 := Nat.le_of_ble_eq_true a9
          have a10 := Nat.le_of_ble_eq_true a10
          have a11 : ex_get M xs % 256 = 64 := Nat.eq_of_beq_eq_true a11
          have a12 : ex_get M ys % 256 = 64 := Nat.eq_of_beq_eq_true a12
          have a13 : n ≤ ex_get M xs / 256 := Nat.le_of_ble_eq_true a13
          have a14 : n ≤ ex_get M ys / 256 := Nat.le_of_ble_eq_true a14
          have a15 : w + 5 ≤ ex_get M 0 := Nat.le_of_ble_eq_true a15
          have a16 : xs + 1 + n ≤ ex_get M 0 := Nat.le_of_ble_eq_true a16
          have a17 : ys + 1 + n ≤ ex_get M 0 := Nat.le_of_ble_eq_true a17
          have a18 := Nat.le_of_ble_eq_true a18
          have a19 : ex_get M 1 + (hi - lo) ≤ 1000000 := Nat.le_of_ble_eq_true a19
          have a20 : ex_get M 2 + 4 * (hi - lo) ≤ 100000000 := Nat.le_of_ble_eq_true a20
          have a21 := Nat.le_of_ble_eq_true a21
          have a22 := Nat.le_of_ble_eq_true a22
          have a23 : ex_get L 5 = ex_bi lo := Nat.eq_of_beq_eq_true a23
          have a24 := Nat.le_of_ble_eq_true a24
          have a25 : lo + 1 ≤ hi := Nat.le_of_ble_eq_true a25
          have a26 := Nat.le_of_ble_eq_true a26
          have hall := bx_allE n hk
          have hF : bx_F M w n xs ys := ⟨⟨a3, by omega⟩, a4, a5, by omega, a7, a8, ⟨a9, by omega⟩, ⟨a10, by omega⟩, a11, a12, a13, a14, fun k hk => (hall k hk).1, fun k hk => (hall k hk).2.1⟩
          have hhi : ex_bi hi < 1099511627776 := by
            by_cases q : hi < 2147483648
            · rw [show ex_bi hi = hi + 2147483648 from ex_xhb q]; omega
            · rw [show ex_bi hi = hi - 2147483648 from ex_xhb2 (by omega) (by omega)]; omega
          refine bx_go hl hV hCW hCT a1 b1 b2 b3 b4 b5 b6 b7 b8 b9 b10 b11 b12 kj (sp := ex_get L 2) (bx := ex_get L 4) (by omega) (by omega) (hi - lo) lo L M _ _ hF a15 a16 a17 a18 a19 a20 a2 rfl rfl a23 a24 (by omega) (fun j hj => ?_) (bx_upL (v := ex_bi (lo + (hi - lo))) ?_) (bx_upM (m := hi - lo) (by omega) (by omega)) ?_ G0 ad0
          · rw [show lo + (hi - lo) = hi by omega]; exact (hall j hj).2.2
          · rw [show lo + (hi - lo) = hi by omega]; exact hhi
          · rw [show lo + (hi - lo) = hi by omega]; exact h
      exact core _ _ _ _ _ _ h
end
