noncomputable section
/-! empty places of the boxes' loop are passed over: the rows that are made there are forgotten -/
theorem bx_mono {XC XC' : String → State → State → Prop} {Qc Qc' : Array Value → State → Outcome → State → Prop} {p : Program} {l : Launch} {e : Env} {R : Room} {s : State} {m : MethodId} {args : Array Value} {below : List Frame} {meth : Method} {c : Code} {H : Heap} {locs : List Loc} {cells slots mc ms : Nat} {free : Addr → Prop} {a : Array Value} {g : JFrame}
    (hQ : ∀ a s o t, Qc a s o t → Qc' a s o t) (hX : ∀ x s t, XC x s t → XC' x s t) (k : W p l e R s m args below meth c H locs cells slots (vx_MQ below Qc XC a s mc ms free) g) : W p l e R s m args below meth c H locs cells slots (vx_MQ below Qc' XC' a s mc ms free) g := by
  intro T hT X
  obtain ⟨t, a1, o, b1, b2, b3⟩ := k T hT X
  refine ⟨t, a1, o, b1, b2, ?_⟩
  rcases b3 with ⟨h1, h2⟩ | ⟨q, h1, h2⟩
  · exact Or.inl ⟨hQ _ _ _ _ h1, h2⟩
  · refine Or.inr ⟨q, h1, ?_⟩
    unfold vx_T at h2 ⊢
    obtain ⟨E, ce, L, x1, x2⟩ := h2
    exact ⟨E, ce, L, hX _ _ _ x1, x2⟩
/-- a store over fewer cells -/
theorem bx_sub {E : ex_G} {b : Nat} {G Gc : List Nat} {ad adc : Nat → Nat} {M Mc M2 : Nat} {H Hs : Heap} (hc : ex_Rep E b Gc adc Mc H) (h0 : ex_Rep E b G ad M Hs) (hs : ∀ w ∈ G, w ∈ Gc) (hm : ∀ j, 3 ≤ j → j < ex_get M 0 → ex_get Mc j = ex_get M j) (hm2 : ∀ j, j ≠ 1 → j ≠ 2 → ex_get M2 j = ex_get M j) (hlt : M2 < 2 ^ (40 * ex_get M 0)) : ex_Rep E b G adc M2 H := by
  obtain ⟨c1, c2, c3, c4, c5, c6, c7, c8⟩ := hc
  obtain ⟨r1, r2, r3, r4, r5, r6, r7, r8⟩ := h0
  have e0 : ex_get M2 0 = ex_get M 0 := hm2 0 (by decide) (by decide)
  have en : ∀ w ∈ G, ex_n M2 w = ex_n M w := fun w hw => by unfold ex_n; rw [hm2 w (by have := (r4 w hw).1; omega) (by have := (r4 w hw).1; omega)]
  have ec : ∀ w ∈ G, ex_get Mc w = ex_get M w := fun w hw => hm w (r4 w hw).1 (by have := (r4 w hw).2; omega)
  have ecn : ∀ w ∈ G, ex_n Mc w = ex_n M w := fun w hw => by unfold ex_n; rw [ec w hw]
  refine ⟨fun w hw => ?_, fun w hw w' hw' => c2 w (hs w hw) w' (hs w' hw'), fun w hw => c3 w (hs w hw), fun w hw => ?_, fun w hw w' hw' hl => ?_, ?_, ?_, fun w hw k hk => ?_⟩
  · have g := r4 w hw
    refine (c1 w (hs w hw)).stay ?_ rfl (fun k hk => ?_) rfl
    · rw [ec w hw, hm2 w (by omega) (by omega)]
    · rw [ecn w hw] at hk
      rw [hm _ (by omega) (by omega), hm2 _ (by omega) (by omega)]
  · rw [en w hw, e0]; exact r4 w hw
  · rw [en w hw]; exact r5 w hw w' hw' hl
  · rw [e0]; exact hlt
  · rw [e0]; exact r7
  · rw [en w hw] at hk
    have g := r4 w hw
    rw [hm2 _ (by omega) (by omega)]
    exact r8 w hw k hk
theorem bx_ext {A B : Nat} (h : ∀ j, ex_get A j = ex_get B j) : A = B := by
  apply Nat.eq_of_testBit_eq
  intro i
  have t : ∀ M : Nat, M.testBit i = (ex_get M (i / 40)).testBit (i % 40) := by
    intro M
    show _ = ((M >>> (40 * (i / 40))) % 2 ^ 40).testBit (i % 40)
    rw [Nat.testBit_mod_two_pow, Nat.testBit_shiftRight, show 40 * (i / 40) + i % 40 = i by omega]
    have : i % 40 < 40 := Nat.mod_lt _ (by decide)
    simp [this]
  rw [t A, t B, h]
theorem bx_lt {M M2 T : Nat} (hm : ∀ j, j ≠ 1 → j ≠ 2 → ex_get M2 j = ex_get M j) (hT : 3 ≤ T) (h : M < 2 ^ (40 * T)) : M2 < 2 ^ (40 * T) := by
  have e : M2 = ex_set (ex_set M 1 (ex_get M2 1)) 2 (ex_get M2 2) := bx_ext fun j => by
    rw [ex_get_set (ex_get_lt M2 2)]
    by_cases a2 : j = 2
    · subst a2; rw [if_pos rfl]
    · rw [if_neg a2, ex_get_set (ex_get_lt M2 1)]
      by_cases a1 : j = 1
      · subst a1; rw [if_pos rfl]
      · rw [if_neg a1]; exact hm j a1 a2
  rw [e]
  exact ex_set_lt (ex_set_lt h (by omega) (ex_get_lt M2 1)) (by omega) (ex_get_lt M2 2)
/-- what is forgotten of the locals -/
def bx_Lw (L L2 v : Nat) : Prop := (∀ i, i < 5 → ex_get L2 i = ex_get L i) ∧ ex_get L2 5 = v ∧ ∀ i, 6 ≤ i → i < 10 → ex_get L2 i = 137438953472
/-- so many rows of four more are counted, nothing else is told -/
def bx_Mw (M M2 m : Nat) : Prop := (∀ j, j ≠ 1 → j ≠ 2 → ex_get M2 j = ex_get M j) ∧ ex_get M2 1 = ex_get M 1 + m ∧ ex_get M2 2 = ex_get M 2 + 4 * m
theorem bx_upM {M m : Nat} (h1 : ex_get M 1 + m < 1099511627776) (h2 : ex_get M 2 + 4 * m < 1099511627776) : bx_Mw M (ex_set (ex_set M 1 (ex_get M 1 + m)) 2 (ex_get M 2 + 4 * m)) m := by
  refine ⟨fun j a1 a2 => ?_, ?_, ?_⟩
  · rw [ex_get_set h2, if_neg a2, ex_get_set h1, if_neg a1]
  · rw [ex_get_set h2, if_neg (by decide), ex_get_set h1, if_pos rfl]
  · rw [ex_get_set h2, if_pos rfl]
theorem bx_upL {L v : Nat} (hv : v < 1099511627776) : bx_Lw L (ex_set (ex_set (ex_set (ex_set (ex_set L 5 v) 6 137438953472) 7 137438953472) 8 137438953472) 9 137438953472) v := by
  have g : ∀ j, ex_get (ex_set (ex_set (ex_set (ex_set (ex_set L 5 v) 6 137438953472) 7 137438953472) 8 137438953472) 9 137438953472) j = if j = 9 then 137438953472 else if j = 8 then 137438953472 else if j = 7 then 137438953472 else if j = 6 then 137438953472 else if j = 5 then v else ex_get L j := fun j => by
    rw [ex_get_set (by decide), ex_get_set (by decide), ex_get_set (by decide), ex_get_set (by decide), ex_get_set hv]
  refine ⟨fun i hi => ?_, ?_, fun i h1 h2 => ?_⟩
  · rw [g, if_neg (by omega), if_neg (by omega), if_neg (by omega), if_neg (by omega), if_neg (by omega)]
  · rw [g]; rfl
  · rw [g]
    have : i = 6 ∨ i = 7 ∨ i = 8 ∨ i = 9 := by omega
    rcases this with rfl | rfl | rfl | rfl <;> rfl
/-- the next place's number -/
theorem bx_next {lo : Nat} (h1 : 2147483500 ≤ lo) (h2 : lo < 2147483709) : Nat.mod (Nat.add (ex_bi lo) 1) 4294967296 = ex_bi (lo + 1) ∧ ex_bi lo < 4294967296 ∧ ex_bi (ex_bi lo) = lo := by
  have x1 : ∀ n, n < 2147483648 → ex_bi n = n + 2147483648 := fun n h => ex_xhb h
  have x2 : ∀ n, n < 4294967296 → 2147483648 ≤ n → ex_bi n = n - 2147483648 := fun n h h' => ex_xhb2 h h'
  by_cases a : lo < 2147483648
  · rw [x1 lo a]
    refine ⟨?_, by omega, by rw [x2 _ (by omega) (by omega)]; omega⟩
    by_cases b : lo + 1 < 2147483648
    · rw [x1 _ b]
      show (lo + 2147483648 + 1) % 4294967296 = _
      omega
    · rw [x2 _ (by omega) (by omega)]
      show (lo + 2147483648 + 1) % 4294967296 = _
      omega
  · rw [x2 lo (by omega) (by omega)]
    refine ⟨?_, by omega, by rw [x1 _ (by omega)]; omega⟩
    rw [x2 _ (by omega) (by omega)]
    show (lo - 2147483648 + 1) % 4294967296 = _
    omega
end
