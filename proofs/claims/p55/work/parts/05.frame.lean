/-! recursors read as branches -/
theorem ex_bB {x y : Bool} {k : Bool} : (@Bool.rec (fun _ => Bool) x y k) = (if k = true then y else x) := by cases k <;> rfl
theorem ex_bR {x y : ex_R} {k : Bool} : (@Bool.rec (fun _ => ex_R) x y k) = (if k = true then y else x) := by cases k <;> rfl
theorem ex_bN {x y : Nat} {k : Bool} : (@Bool.rec (fun _ => Nat) x y k) = (if k = true then y else x) := by cases k <;> rfl
theorem ex_br1 {X : ex_R} {k : Bool} {r : Nat × Nat} (h : (@Bool.rec (fun _ => ex_R) none X k) = some r) : k = true ∧ X = some r := by cases k with | true => exact ⟨rfl, h⟩ | false => cases h
theorem ex_br0 {X : ex_R} {k : Bool} {r : Nat × Nat} (h : (@Bool.rec (fun _ => ex_R) X none k) = some r) : k = false ∧ X = some r := by cases k with | false => exact ⟨rfl, h⟩ | true => cases h
theorem ex_br2 {X Y : ex_R} {k : Bool} {r : Nat × Nat} (h : (@Bool.rec (fun _ => ex_R) Y X k) = some r) : (k = true ∧ X = some r) ∨ (k = false ∧ Y = some r) := by cases k with | true => exact Or.inl ⟨rfl, h⟩ | false => exact Or.inr ⟨rfl, h⟩
theorem ex_ls1 {f : Nat → List Nat → ex_R} {S : List Nat} {r : Nat × Nat} (h : (@List.rec Nat (fun _ => ex_R) none (fun a T _ => f a T) S) = some r) : ∃ a T, S = a :: T ∧ f a T = some r := by
  cases S with | nil => cases h | cons a T => exact ⟨a, T, rfl, h⟩
theorem ex_ls0 {X : ex_R} {S : List Nat} {r : Nat × Nat} (h : (@List.rec Nat (fun _ => ex_R) X (fun _ _ _ => none) S) = some r) : S = [] ∧ X = some r := by
  cases S with | nil => exact ⟨rfl, h⟩ | cons a T => cases h
theorem ex_op1 {α : Type} {f : α → ex_R} {o : Option α} {r : Nat × Nat} (h : (@Option.rec α (fun _ => ex_R) none (fun x => f x) o) = some r) : ∃ x, o = some x ∧ f x = some r := by
  cases o with | none => cases h | some x => exact ⟨x, rfl, h⟩
theorem ex_tI_iff {v : Nat} : ex_tI v = true ↔ v < 4294967296 ∨ (4294967297 ≤ v ∧ v < 8589934592) := by
  unfold ex_tI
  simp only [ex_bB, Nat.ble_eq]
  by_cases h : v ≤ 4294967295
  · simp [h] <;> omega
  · by_cases h2 : 4294967297 ≤ v
    · simp [h, h2]; omega
    · simp [h, h2]; omega
theorem ex_tA_iff {v : Nat} : ex_tA v = true ↔ v = 4294967296 ∨ (8589934592 ≤ v ∧ v < 34359738368) := by
  unfold ex_tA
  simp only [ex_bB, Nat.ble_eq]
  by_cases h : 8589934592 ≤ v
  · simp [h] <;> omega
  · simp [h] <;> omega
theorem ex_isR_iff {v : Nat} : ex_isR v = true ↔ (8589934592 ≤ v ∧ v < 34359738368) := by
  unfold ex_isR
  simp only [ex_bB, Nat.ble_eq]
  by_cases h : 8589934592 ≤ v
  · simp [h] <;> omega
  · simp [h]
theorem ex_isD_iff {v : Nat} : ex_isD v = true ↔ (8589934595 ≤ v ∧ v < 17179869184) := by
  unfold ex_isD
  simp only [ex_bB, Nat.ble_eq]
  by_cases h : 8589934595 ≤ v
  · simp [h] <;> omega
  · simp [h]
theorem ex_isL_iff {v : Nat} : ex_isL v = true ↔ (274877906944 ≤ v ∧ v ≤ 549755813887) := by
  unfold ex_isL
  simp only [ex_bB, Nat.ble_eq]
  by_cases h : 274877906944 ≤ v <;> simp [h]
theorem ex_tL_iff {v : Nat} : ex_tL v = true ↔ (274877906944 ≤ v ∧ v ≤ 549755813887) ∨ (68719476736 ≤ v ∧ v ≤ 68719542271) := by
  unfold ex_tL
  simp only [ex_bB, Nat.ble_eq]
  by_cases h : 274877906944 ≤ v
  · simp [h] <;> omega
  · by_cases h2 : 68719476736 ≤ v <;> simp [h, h2]
theorem ex_tD_iff {v : Nat} : ex_tD v = true ↔ v = 34359738369 ∨ v = 34359738370 := by
  unfold ex_tD
  simp only [ex_bB, Nat.beq_eq]
  by_cases h : v = 34359738369 <;> simp [h]
theorem ex_c2_iff {v : Nat} : ex_c2 v = true ↔ (v = 34359738369 ∨ v = 34359738370) ∨ ((274877906944 ≤ v ∧ v ≤ 549755813887) ∨ (68719476736 ≤ v ∧ v ≤ 68719542271)) := by
  unfold ex_c2
  simp only [ex_bB, Nat.ble_eq]
  by_cases h : v ≤ 34359738368
  · simp [h] <;> omega
  · rw [if_neg h]
    by_cases h2 : ex_tD v = true
    · rw [if_pos h2]; have := ex_tD_iff.mp h2; simp [this]
    · rw [if_neg h2, ex_tL_iff]
      have : ¬ (v = 34359738369 ∨ v = 34359738370) := fun q => h2 (ex_tD_iff.mpr q)
      simp [this]
/-- an int code's number -/
def ex_iv (E : ex_G) (c : Nat) : Int32 := if c < 4294967296 then nI c else E.2.2.2 (c - 4294967297)
theorem ex_v_I {E : ex_G} {ad : Nat → Nat} {v : Nat} (h : ex_tI v = true) : ex_v E ad v = .int (ex_iv E v) := by
  have := ex_tI_iff.mp h
  unfold ex_v ex_iv
  by_cases h1 : v < 4294967296
  · rw [if_pos h1, if_pos h1]
  · rw [if_neg h1, if_neg (by omega), if_pos (by omega), if_neg h1]
theorem ex_v_n {E : ex_G} {ad : Nat → Nat} {v : Nat} (h : v < 4294967296) : ex_v E ad v = .int (nI v) := by
  unfold ex_v; rw [if_pos h]
theorem ex_iv_n {E : ex_G} {v : Nat} (h : v < 4294967296) : ex_iv E v = nI v := if_pos h
theorem ex_v_0 {E : ex_G} {ad : Nat → Nat} : ex_v E ad 4294967296 = .null := rfl
theorem ex_v_D {E : ex_G} {ad : Nat → Nat} {v : Nat} (h1 : 8589934592 ≤ v) (h2 : v < 17179869184) : ex_v E ad v = .ref (ad (v - 8589934592)) := by
  unfold ex_v; rw [if_neg (by omega), if_neg (by omega), if_neg (by omega), if_pos h2]
theorem ex_v_S {E : ex_G} {ad : Nat → Nat} {v : Nat} (h1 : 17179869184 ≤ v) (h2 : v < 34359738368) : ex_v E ad v = E.2.2.1 (v - 17179869184) := by
  unfold ex_v; rw [if_neg (by omega), if_neg (by omega), if_neg (by omega), if_neg (by omega), if_pos h2]
theorem ex_v_F {E : ex_G} {ad : Nat → Nat} : ex_v E ad 34359738368 = .float 0 := rfl
theorem ex_v_d0 {E : ex_G} {ad : Nat → Nat} : ex_v E ad 34359738369 = .double 0 := rfl
theorem ex_v_d8 {E : ex_G} {ad : Nat → Nat} : ex_v E ad 34359738370 = .double 4620693217682128896 := rfl
/-- a long code's number -/
def ex_lv (E : ex_G) (c : Nat) : Int64 := if 68719476736 ≤ c ∧ c ≤ 68719542271 then (E.2.2.2 (c - 68719476736)).toInt64 else Int64.ofInt ((c : Int) - 412316860416)
theorem ex_v_L {E : ex_G} {ad : Nat → Nat} {v : Nat} (h : ex_tL v = true) : ex_v E ad v = .long (ex_lv E v) := by
  have := ex_tL_iff.mp h
  unfold ex_v ex_lv
  by_cases h1 : 68719476736 ≤ v ∧ v ≤ 68719542271
  · rw [if_neg (by omega), if_neg (by omega), if_neg (by omega), if_neg (by omega), if_neg (by omega), if_neg (by omega), if_neg (by omega), if_neg (by omega), if_pos h1, if_pos h1]
  · rw [if_neg (by omega), if_neg (by omega), if_neg (by omega), if_neg (by omega), if_neg (by omega), if_neg (by omega), if_neg (by omega), if_neg (by omega), if_neg h1, if_pos (by omega), if_neg h1]
/-- statics are of one slot -/
def ex_sv1 (E : ex_G) : Prop := ∀ j, (E.2.2.1 j).category = 1
theorem ex_cat1 {E : ex_G} (hE : ex_sv1 E) {ad : Nat → Nat} {v : Nat} (h : ex_c2 v = false) : (ex_v E ad v).category = 1 := by
  have hn : ¬ ((v = 34359738369 ∨ v = 34359738370) ∨ ((274877906944 ≤ v ∧ v ≤ 549755813887) ∨ (68719476736 ≤ v ∧ v ≤ 68719542271))) := fun q => by rw [ex_c2_iff.mpr q] at h; cases h
  unfold ex_v
  split; · rfl
  split; · rfl
  split; · rfl
  split; · rfl
  split; · exact hE _
  split; · rfl
  rw [if_neg (by omega), if_neg (by omega), if_neg (by omega), if_neg (by omega)]
  rfl
theorem ex_cat2 {E : ex_G} {ad : Nat → Nat} {v : Nat} (h : ex_c2 v = true) : (ex_v E ad v).category = 2 := by
  rcases ex_c2_iff.mp h with (rfl | rfl) | q
  · rfl
  · rfl
  · rw [ex_v_L (ex_tL_iff.mpr q)]; rfl
theorem ex_catr {E : ex_G} (hE : ex_sv1 E) {ad : Nat → Nat} (S : List Nat) : ((S.map (ex_v E ad)).map fun v => v.category).sum = ex_rsum S := by
  induction S with
  | nil => rfl
  | cons a S ih =>
    show (ex_v E ad a).category + _ = Nat.add (@Bool.rec (fun _ => Nat) 1 2 (ex_c2 a)) (ex_rsum S)
    have ih2 : List.foldr (fun x1 x2 => x1 + x2) 0 (List.map (fun v => v.category) (List.map (ex_v E ad) S)) = ex_rsum S := ih
    rw [ih2]
    cases h : ex_c2 a with
    | true => rw [ex_cat2 h]; rfl
    | false => rw [ex_cat1 hE h]; rfl
/-! the locals -/
def ex_LR (E : ex_G) (ad : Nat → Nat) (nL L : Nat) (ls : Array Slot) : Prop := ls.size = nL ∧ lv_wf ls ∧ ∀ i, i < nL → ex_get L i ≠ 137438953472 → ls[i]? = some (.val (ex_v E ad (ex_get L i)))
def ex_lvl (E : ex_G) (ad : Nat → Nat) (nL L : Nat) : List (Nat × Value) := (List.range nL).filterMap fun i => if ex_get L i = 137438953472 then none else some (i, ex_v E ad (ex_get L i))
theorem ex_LR.has {E : ex_G} {ad : Nat → Nat} {nL L : Nat} {ls : Array Slot} (h : ex_LR E ad nL L ls) : lv_has ls nL (ex_lvl E ad nL L) := by
  refine ⟨h.1, h.2.1, fun q hq => ?_⟩
  obtain ⟨i, hi, he⟩ := List.mem_filterMap.mp hq
  by_cases hu : ex_get L i = 137438953472
  · rw [if_pos hu] at he; cases he
  · rw [if_neg hu] at he; cases he
    exact h.2.2 i (List.mem_range.mp hi) hu
theorem ex_lvl_mem {E : ex_G} {ad : Nat → Nat} {nL L i : Nat} (hi : i < nL) (hu : ex_get L i ≠ 137438953472) : (i, ex_v E ad (ex_get L i)) ∈ ex_lvl E ad nL L :=
  List.mem_filterMap.mpr ⟨i, List.mem_range.mpr hi, by rw [if_neg hu]⟩
/-- behind a store of one slot -/
theorem ex_LR.st1 {E : ex_G} {ad : Nat → Nat} {nL L n v : Nat} {ls' : Array Slot} (hv : v < 1099511627776) (hp : n = 0 ∨ (ex_v E ad (ex_get L (n - 1))).category ≠ 2)
    (h : lv_has ls' nL ((n, ex_v E ad v) :: (ex_lvl E ad nL L).filter (fun q => !(q.1 == n) && !(q.1 + 1 == n && q.2.category == 2)))) : ex_LR E ad nL (ex_set L n v) ls' := by
  refine ⟨h.1, h.2.1, fun i hi hu => ?_⟩
  rw [ex_get_set hv] at hu ⊢
  by_cases e : i = n
  · subst e
    rw [if_pos rfl]
    exact h.2.2 _ List.mem_cons_self
  · rw [if_neg e] at hu ⊢
    refine h.2.2 _ (List.mem_cons_of_mem _ (List.mem_filter.mpr ⟨ex_lvl_mem hi hu, ?_⟩))
    simp only [Bool.and_eq_true, Bool.not_eq_true', beq_eq_false_iff_ne, ne_eq, Bool.and_eq_false_iff]
    refine ⟨e, ?_⟩
    rcases hp with hp | hp
    · exact Or.inl (by omega)
    · by_cases q : i + 1 = n
      · right
        subst q
        exact hp
      · exact Or.inl q
/-- behind a store of two -/
theorem ex_LR.st2 {E : ex_G} {ad : Nat → Nat} {nL L n v : Nat} {ls' : Array Slot} (hv : v < 1099511627776) (hp : n = 0 ∨ (ex_v E ad (ex_get L (n - 1))).category ≠ 2)
    (h : lv_has ls' nL ((n, ex_v E ad v) :: (ex_lvl E ad nL L).filter (fun q => !(q.1 == n) && (!(q.1 == n + 1) && !(q.1 + 1 == n && q.2.category == 2))))) : ex_LR E ad nL (ex_set (ex_set L n v) (n + 1) 137438953472) ls' := by
  refine ⟨h.1, h.2.1, fun i hi hu => ?_⟩
  rw [ex_get_set (by decide)] at hu ⊢
  by_cases e1 : i = n + 1
  · rw [if_pos e1] at hu; exact absurd rfl hu
  rw [if_neg e1] at hu ⊢
  rw [ex_get_set hv] at hu ⊢
  by_cases e : i = n
  · subst e
    rw [if_pos rfl]
    exact h.2.2 _ List.mem_cons_self
  · rw [if_neg e] at hu ⊢
    refine h.2.2 _ (List.mem_cons_of_mem _ (List.mem_filter.mpr ⟨ex_lvl_mem hi hu, ?_⟩))
    simp only [Bool.and_eq_true, Bool.not_eq_true', beq_eq_false_iff_ne, ne_eq, Bool.and_eq_false_iff]
    refine ⟨e, e1, ?_⟩
    rcases hp with hp | hp
    · exact Or.inl (by omega)
    · by_cases q : i + 1 = n
      · right
        subst q
        exact hp
      · exact Or.inl q
/-! a frame's state, and the judgement -/
/-- Hs: the heap that the method began with; G0, ad0: what it had been given -/
def ex_SR (E : ex_G) (b : Nat) (H0 Hs : Heap) (G0 : List Nat) (ad0 : Nat → Nat) (nL : Nat) (G : List Nat) (ad : Nat → Nat) (L : Nat) (S : List Nat) (M : Nat) (ls : Array Slot) (st : List Value) (H : Heap) (locs : List Loc) : Prop :=
  ex_LR E ad nL L ls ∧ (∀ i, i < nL → ex_okc G (ex_get L i)) ∧ st = S.map (ex_v E ad) ∧ (∀ x ∈ S, ex_okc G x) ∧ ex_Rep E b G ad M H ∧ (∀ w ∈ G0, w ∈ G ∧ ad w = ad0 w) ∧ va_S (fun q => b ≤ q) H0 H locs ∧ va_S (fun q => b ≤ q) Hs H locs
def ex_Qc (E : ex_G) (b : Nat) (G0 : List Nat) (ad0 : Nat → Nat) (rM : Nat × Nat) : Array Value → State → Outcome → State → Prop := fun _ st o t =>
  ∃ (G : List Nat) (ad : Nat → Nat), (∀ w ∈ G0, w ∈ G ∧ ad w = ad0 w) ∧ ex_Rep E b G ad rM.2 t.heap ∧ va_F (fun q => b ≤ q) st t ∧ rM.1 < 549755813888 ∧
    ((rM.1 = 137438953473 ∧ o = .returned none) ∨ (rM.1 ≠ 137438953473 ∧ ex_okc G rM.1 ∧ o = .returned (some (ex_v E ad rM.1))))
/-- the exceptions' classes -/
def ex_xn : Nat → String
  | 1 => "java/lang/IndexOutOfBoundsException" | 2 => "java/lang/IllegalArgumentException" | 3 => "java/lang/UnsupportedOperationException"
  | 4 => "java/util/NoSuchElementException" | 5 => "java/lang/IllegalStateException" | _ => "java/lang/ArithmeticException"
def ex_XC (E : ex_G) (b : Nat) (G0 : List Nat) (ad0 : Nat → Nat) (rM : Nat × Nat) : String → State → State → Prop := fun X st t =>
  ∃ (G : List Nat) (ad : Nat → Nat), (∀ w ∈ G0, w ∈ G ∧ ad w = ad0 w) ∧ ex_Rep E b G ad rM.2 t.heap ∧ va_F (fun q => b ≤ q) st t ∧ 549755813888 ≤ rM.1 ∧ X = ex_xn (rM.1 - 549755813888)
abbrev ex_A (E : ex_G) (b : Nat) (H0 : Heap) (G0 : List Nat) (ad0 : Nat → Nat) (nL : Nat) (p : Program) (l : Launch) (e : Env) (R : Room) (s : State) (m : MethodId) (args : Array Value) (below : List Frame) (meth : Method) (c : Code) (mc ms : Nat) (rM : Nat × Nat) (L : Nat) (S : List Nat) (M : Nat) (pc : Nat) : Prop :=
  (ex_get M 1 ≤ ex_get rM.2 1 ∧ ex_get M 2 ≤ ex_get rM.2 2) ∧ ∀ G ad ls st H locs cells slots, ex_SR E b H0 s.heap G0 ad0 nL G ad L S M ls st H locs → cells + ex_get rM.2 1 ≤ mc + ex_get M 1 → slots + ex_get rM.2 2 ≤ ms + ex_get M 2 →
    W p l e R s m args below meth c H locs cells slots (vx_MQ below (ex_Qc E b G0 ad0 rM) (ex_XC E b G0 ad0 rM) args s mc ms (fun q => b ≤ q)) (F0 m pc ls st)
def ex_Z (E : ex_G) (b : Nat) (H0 : Heap) (G0 : List Nat) (ad0 : Nat → Nat) (nL : Nat) (p : Program) (l : Launch) (e : Env) (R : Room) (s : State) (m : MethodId) (args : Array Value) (below : List Frame) (meth : Method) (c : Code) (mc ms : Nat) (rM : Nat × Nat) (K : ex_K) (pc : Nat) : Prop :=
  ∀ L S M, K L S M = some rM → ex_A E b H0 G0 ad0 nL p l e R s m args below meth c mc ms rM L S M pc
theorem ex_SR.stk {E : ex_G} {b : Nat} {H0 Hs : Heap} {G0 : List Nat} {ad0 : Nat → Nat} {nL : Nat} {G : List Nat} {ad : Nat → Nat} {L : Nat} {S : List Nat} {M : Nat} {ls : Array Slot} {st : List Value} {H : Heap} {locs : List Loc} (h : ex_SR E b H0 Hs G0 ad0 nL G ad L S M ls st H locs) {S' : List Nat} {st' : List Value} (h1 : st' = S'.map (ex_v E ad)) (h2 : ∀ x ∈ S', ex_okc G x) : ex_SR E b H0 Hs G0 ad0 nL G ad L S' M ls st' H locs :=
  ⟨h.1, h.2.1, h1, h2, h.2.2.2.2⟩
theorem ex_SR.loc {E : ex_G} {b : Nat} {H0 Hs : Heap} {G0 : List Nat} {ad0 : Nat → Nat} {nL : Nat} {G : List Nat} {ad : Nat → Nat} {L : Nat} {S : List Nat} {M : Nat} {ls : Array Slot} {st : List Value} {H : Heap} {locs : List Loc} (h : ex_SR E b H0 Hs G0 ad0 nL G ad L S M ls st H locs) {L' : Nat} {ls' : Array Slot} {S' : List Nat} {st' : List Value} (h0 : ex_LR E ad nL L' ls') (h00 : ∀ i, i < nL → ex_okc G (ex_get L' i)) (h1 : st' = S'.map (ex_v E ad)) (h2 : ∀ x ∈ S', ex_okc G x) : ex_SR E b H0 Hs G0 ad0 nL G ad L' S' M ls' st' H locs :=
  ⟨h0, h00, h1, h2, h.2.2.2.2⟩
theorem ex_okS {G : List Nat} {a : Nat} {S : List Nat} (ha : ex_okc G a) (h : ∀ x ∈ S, ex_okc G x) : ∀ x ∈ a :: S, ex_okc G x := fun x hx => (List.mem_cons.mp hx).elim (fun q => q ▸ ha) (h x)
theorem ex_okL {G : List Nat} {nL L n v : Nat} (hv : v < 1099511627776) (ha : ex_okc G v) (h : ∀ i, i < nL → ex_okc G (ex_get L i)) : ∀ i, i < nL → ex_okc G (ex_get (ex_set L n v) i) := fun i hi => by
  rw [ex_get_set hv]; split
  · exact ha
  · exact h i hi
theorem ex_okL0 {nL L : Nat} {G : List Nat} {n v : Nat} (hv : v < 1099511627776) (ha : ex_okc G v) (h : ∀ i, i < nL → ex_okc G (ex_get L i)) : ∀ i, i < nL → ex_okc G (ex_get (ex_set L n v) i) := ex_okL hv ha h
theorem ex_I_lt {v : Nat} (h : ex_tI v = true) : v < 1099511627776 ∧ v < 8589934592 := by have := ex_tI_iff.mp h; omega
theorem ex_A_lt {v : Nat} (h : ex_tA v = true) : v < 1099511627776 := by have := ex_tA_iff.mp h; omega
theorem ex_L_lt {v : Nat} (h : ex_tL v = true) : v < 1099511627776 ∧ 17179869184 ≤ v := by have := ex_tL_iff.mp h; omega
