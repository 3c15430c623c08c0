/-! a frame's beginning -/
theorem ex_pack_cons {a i L : Nat} {l : List Nat} : ex_pack (a :: l) i L = ex_pack l (if ex_c2 a = true then i + 2 else i + 1) (ex_set L i a) := by
  show ex_pack l (@Bool.rec (fun _ => Nat) (Nat.succ i) (Nat.add i 2) (ex_c2 a)) (ex_set L i a) = _
  rw [ex_bN]
theorem ex_rsum_cons {a : Nat} {l : List Nat} : ex_rsum (a :: l) = (if ex_c2 a = true then 2 else 1) + ex_rsum l := by
  show Nat.add (@Bool.rec (fun _ => Nat) 1 2 (ex_c2 a)) (ex_rsum l) = _
  rw [ex_bN]; rfl
theorem ex_catI {E : ex_G} (hE : ex_sv1 E) {ad : Nat → Nat} {a : Nat} : (ex_v E ad a).category = 2 ↔ ex_c2 a = true := by
  cases h : ex_c2 a with
  | true => simp [ex_cat2 h]
  | false => simp [ex_cat1 hE h]
theorem ex_pack_get {E : ex_G} (hE : ex_sv1 E) {ad : Nat → Nat} : ∀ (as : List Nat) (i L j : Nat), (∀ a ∈ as, a < 1099511627776) →
    ex_get (ex_pack as i L) j = ex_get L j ∨ (j, ex_v E ad (ex_get (ex_pack as i L) j)) ∈ lv_args i (as.map (ex_v E ad)) ∧ ex_get (ex_pack as i L) j ∈ as := by
  intro as
  induction as with
  | nil => intro i L j _; exact Or.inl rfl
  | cons a as ih =>
    intro i L j hl
    rw [ex_pack_cons]
    have hi : (if (ex_v E ad a).category = 2 then i + 2 else i + 1) = if ex_c2 a = true then i + 2 else i + 1 := by
      by_cases h : ex_c2 a = true
      · rw [if_pos h, if_pos ((ex_catI hE).mpr h)]
      · rw [if_neg h, if_neg (fun z => h ((ex_catI hE).mp z))]
    have hs : lv_args i ((a :: as).map (ex_v E ad)) = (i, ex_v E ad a) :: lv_args (if ex_c2 a = true then i + 2 else i + 1) (as.map (ex_v E ad)) := by
      rw [← hi]; rfl
    rw [hs]
    rcases ih (if ex_c2 a = true then i + 2 else i + 1) (ex_set L i a) j (fun x hx => hl x (List.mem_cons_of_mem _ hx)) with h | ⟨h1, h2⟩
    · rw [h, ex_get_set (hl a List.mem_cons_self)]
      by_cases e : j = i
      · subst e
        rw [if_pos rfl]
        exact Or.inr ⟨List.mem_cons_self, List.mem_cons_self⟩
      · rw [if_neg e]; exact Or.inl rfl
    · exact Or.inr ⟨List.mem_cons_of_mem _ h1, List.mem_cons_of_mem _ h2⟩
theorem ex_slN {E : ex_G} (hE : ex_sv1 E) {ad : Nat → Nat} (as : List Nat) : (lg_sl (as.map (ex_v E ad))).length = ex_rsum as := by
  induction as with
  | nil => rfl
  | cons a as ih =>
    have : lg_sl ((a :: as).map (ex_v E ad)) = (if (ex_v E ad a).category = 2 then [.val (ex_v E ad a), .second] else [.val (ex_v E ad a)]) ++ lg_sl (as.map (ex_v E ad)) := rfl
    rw [this, List.length_append, ih, ex_rsum_cons]
    by_cases h : ex_c2 a = true
    · rw [if_pos h, if_pos ((ex_catI hE).mpr h)]; rfl
    · rw [if_neg h, if_neg (fun z => h ((ex_catI hE).mp z))]; rfl
/-- the locals of a frame that begins -/
theorem ex_entry {E : ex_G} (hE : ex_sv1 E) {G : List Nat} {ad : Nat → Nat} {nL u : Nat} {as : List Nat} (m : MethodId) (hn : ex_rsum as ≤ nL) (hu : ∀ j, j < nL → ex_get u j = 137438953472) (hl : ∀ a ∈ as, a < 1099511627776) (hk : ∀ a ∈ as, ex_okc G a) :
    ∃ ls, entryFrame m (as.map (ex_v E ad)).toArray nL = F0 m 0 ls [] ∧ ex_LR E ad nL (ex_pack as 0 u) ls ∧ ∀ i, i < nL → ex_okc G (ex_get (ex_pack as 0 u) i) := by
  have hlen := ex_slN hE (ad := ad) as
  refine ⟨_, lg_entry_eq m _ nL, ?_, fun i hi => ?_⟩
  · obtain ⟨h1, h2, h3⟩ := lv_entry (as.map (ex_v E ad)) (n := nL) (by rw [hlen]; exact hn)
    refine ⟨h1, h2, fun i hi hne => ?_⟩
    rcases ex_pack_get hE (ad := ad) as 0 u i hl with h | ⟨h, -⟩
    · rw [h, hu i hi] at hne; exact absurd rfl hne
    · exact h3 _ h
  · rcases ex_pack_get hE (ad := ad) as 0 u i hl with h | ⟨-, h⟩
    · rw [h, hu i hi]; exact ex_okc_ge (by decide)
    · exact hk _ h
/-- what stands on a stack is taken as arguments, the first lowest -/
theorem ex_take_inv : ∀ (n : Nat) (acc S : List Nat) {q : List Nat × List Nat}, ex_take n acc S = some q → ∃ X, S = X ++ q.2 ∧ q.1 = X.reverse ++ acc ∧ X.length = n ∧ ∀ x ∈ X, x < 1099511627776 := by
  intro n
  induction n with
  | zero =>
    intro acc S q h
    have h : some (acc, S) = some q := h
    cases h
    exact ⟨[], rfl, rfl, rfl, fun x hx => nomatch hx⟩
  | succ n ih =>
    intro acc S q h
    cases S with
    | nil => exact nomatch (show (none : Option (List Nat × List Nat)) = some q from h)
    | cons v S =>
      have h : @Bool.rec (fun _ => Option (List Nat × List Nat)) none (ex_take n (v :: acc) S) (Nat.ble v 1099511627775) = some q := h
      cases hv : Nat.ble v 1099511627775 with
      | false => rw [hv] at h; cases h
      | true =>
        rw [hv] at h
        have h : ex_take n (v :: acc) S = some q := h
        obtain ⟨X, h1, h2, h3, h4⟩ := ih (v :: acc) S h
        refine ⟨v :: X, by rw [h1]; rfl, by rw [h2]; simp, by rw [List.length_cons, h3], fun x hx => ?_⟩
        rcases List.mem_cons.mp hx with e | hx
        · subst e; have := Nat.le_of_ble_eq_true hv; omega
        · exact h4 x hx
