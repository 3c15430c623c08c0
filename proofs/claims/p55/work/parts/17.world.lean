/-! the world of a frame, told of a state alone; that it stays under warmer tables -/
def ex_isN : Cond → Bool | .castable .. => true | .fieldLinkNest .. => true | .methodLinkNest .. => true | .declares _ => true | _ => false
def ex_TN : List Cond := tables_1.filter ex_isN
/-- the good words, and 'selects' of the private methods -/
def ex_TT (sel : List MethodName) : List Cond := tables_1.filter goodWord ++ sel.map fun y => Cond.selects y.cls y y
/-- what is taken for granted beside the words: not castable; called by an interface -/
abbrev ex_X : Type := List (String × String) × List (String × MethodName × MethodName) × List MethodName
def ex_Wd (X : ex_X) (E : ex_G) (b : Nat) (ST : Nat → Nat) (H0 : Heap) (U : State) : Prop :=
  (H0.size = b ∧ ex_svR E) ∧
  (∀ (k : Nat) (q : vw_C), ex_cl[k]? = some q → u_Kn U q.1 q.2.1 q.2.2 (E.1.1 k) (E.1.2 k)) ∧
  (∀ kd, 64 ≤ kd → kd ≤ 72 → ArrOfT U (E.2.1 kd) (ex_ty kd) ∧ (kd ≤ 71 → va_RA U (E.2.1 kd) (ex_ty kd))) ∧
  (∀ j, ex_get (ST j) 0 % 256 ≠ 255 → ∃ a, a < b ∧ E.2.2.1 j = .ref a ∧ (∀ k, k < ex_get (ST j) 0 / 256 → ∀ ad ad', ex_v E ad (ex_get (ST j) (k + 1)) = ex_v E ad' (ex_get (ST j) (k + 1))) ∧ (∀ k, k < ex_get (ST j) 0 / 256 → ∀ G, ex_okc G (ex_get (ST j) (k + 1))) ∧ ∀ ad, ex_RO E ad U (ST j) H0 a) ∧
  (∀ w ∈ ex_TN, va_Nw w U) ∧
  (∀ q ∈ X.1, va_Nc q.1 q.2 U) ∧
  ((Cond.arrayOver (.array .int)).before #[] U = true ∧ va_AO "java/lang/Object" U) ∧
  (∀ q ∈ ex_sfl, va_Z q.1 q.2.1 q.2.2.1 (ex_v E id q.2.2.2) (fun a => b ≤ a) U H0) ∧
  (∀ q ∈ ex_srl, ∃ a, E.2.2.1 (q.2.2.2 - 17179869184) = .ref a ∧ vk_R q.1 q.2.1 q.2.2.1 a U) ∧
  (∀ q ∈ X.2.1, (q.2.1.cls ≠ "java/lang/invoke/MethodHandle" ∧ q.2.1.cls ≠ "java/lang/invoke/VarHandle") ∧ va_Fw q.1 q.2.1 q.2.2 U) ∧
  (vx_Zq Bundle.tN "UNASSIGNED_STACK" Bundle.steD (fun a => b ≤ a) U H0 ∧ vx_Zq Bundle.tN "SUPPRESSED_SENTINEL" Bundle.listD (fun a => b ≤ a) U H0)
theorem ex_RO.moved {E : ex_G} {ad : Nat → Nat} {u U : State} {O : Nat} {H : Heap} {a : Nat} (hvm : u.vm.Alike U.vm) (h : ex_RO E ad u O H a) : ex_RO E ad U O H a := by
  obtain ⟨cell, h1, h2, h3, h4, h5⟩ := h
  exact ⟨cell, h1, h2, h3, h4, fun a b => ⟨State.isArrayOf_alike hvm (h5 a b).1, (h5 a b).2⟩⟩
theorem ex_AOA {u U : State} {t : FieldType} (hvm : u.vm.Alike U.vm) (h : (Cond.arrayOver (.array t)).before #[] u = true) : (Cond.arrayOver (.array t)).before #[] U = true := by
  obtain ⟨comp, c, k, h1, h2, h3, h4, h5⟩ := arrayOverA_spec h
  obtain ⟨k', hk', he⟩ := hvm.2.2 _ _ h3
  have hkind : k'.kind = .array comp (.array t) := by rw [he]; exact h4
  have f1 : U.vm.findClass (FieldType.array t).toString = some comp := by rw [hvm.findClass]; exact h1
  have f2 : U.vm.findClass ("[" ++ (FieldType.array t).toString) = some c := by rw [hvm.findClass]; exact h5
  have hi : (U.vm.classes.findIdx? fun x => match x.kind with | .array component _ => component == comp | _ => false) = some c := by
    rw [hvm.findIdx?_eq _ (fun _ => rfl)]; exact h2
  unfold Cond.before Cond.holds
  simp only [Cond.value]
  rw [f1, Option.bind_some]
  refine (congrArg (fun o : Option Nat => (o.bind (fun c => (U.vm.classes[c]?).map fun (k : Class) => match k.kind with | .array _ ty => decide (ty = FieldType.array t) && decide (U.vm.findClass ("[" ++ (FieldType.array t).toString) = some c) | _ => false) == some true)) hi).trans ?_
  simp [hk', hkind, f2]
theorem ex_Wd.moved {X : ex_X} {E : ex_G} {b : Nat} {ST : Nat → Nat} {H0 : Heap} {u U : State} (hW : u.WarmedH U.vm) (h : ex_Wd X E b ST H0 u) : ex_Wd X E b ST H0 U := by
  have hvm := hW.alike
  obtain ⟨h1, h2, h3, h4, h5, h6, h7, h8, h9, h10, h11⟩ := h
  refine ⟨h1, fun k q hq => u_Kn_moved hvm (h2 k q hq), fun kd a1 a2 => ⟨arrOfT_moved hvm (h3 kd a1 a2).1, fun a3 => ((h3 kd a1 a2).2 a3).moved hvm⟩, fun j hj => ?_, fun w hw => ?_, fun q hq => (h6 q hq).moved hvm, ⟨ex_AOA hvm h7.1, h7.2.moved hvm⟩, fun q hq => (h8 q hq).moved hvm, fun q hq => ?_, fun q hq => ⟨(h10 q hq).1, va_Fw.moved (h10 q hq).1 hvm (h10 q hq).2⟩, ⟨vx_Zq.moved hvm h11.1, vx_Zq.moved hvm h11.2⟩⟩
  · obtain ⟨a, e1, e2, e3, e4, e5⟩ := h4 j hj
    exact ⟨a, e1, e2, e3, e4, fun ad => (e5 ad).moved hvm⟩
  · have hh := h5 w hw
    have hn := (List.mem_filter.mp hw).2
    cases w <;> first | cases hn; done | exact va_Nw.warmC hW hh | exact va_Nw.warmF hW hh | exact va_Nw.warmM hW hh | exact va_Nw.warmD hW hh
  · obtain ⟨a, e1, e2⟩ := h9 q hq
    exact ⟨a, e1, e2.warm hW⟩
/-- a frame's words -/
theorem ex_Wd.wo {X : ex_X} {E : ex_G} {b : Nat} {ST : Nat → Nat} {H0 : Heap} {s : State} {args : Array Value} (h : ex_Wd X E b ST H0 s) (hT : ∀ (k : Nat) (q : vw_C), ex_cl[k]? = some q → ∀ w ∈ u_ws q.1 q.2.1 q.2.2, w.before args s = true) : ex_Wo E b ST H0 args s :=
  ⟨h.1.1, h.1.2, fun k q hq => ⟨h.2.1 k q hq, hT k q hq⟩, h.2.2.1, h.2.2.2.1⟩
/-! heaps that only grow -/
theorem ex_Rep.grow {E : ex_G} {b : Nat} {G : List Nat} {ad : Nat → Nat} {M : Nat} {H H' : Heap} (h : ex_Rep E b G ad M H) (ho : ∀ a : Nat, a < H.size → H'[a]? = H[a]?) : ex_Rep E b G ad M H' :=
  ⟨fun w hw => (h.1 w hw).stay rfl rfl (fun _ _ => rfl) (ho _ (h.1 w hw).lt), h.2⟩
/-- words 1 and 2 are counts -/
theorem ex_Rep.cnt {E : ex_G} {b : Nat} {G : List Nat} {ad : Nat → Nat} {M : Nat} {H : Heap} (h : ex_Rep E b G ad M H) {k v : Nat} (hk : k = 1 ∨ k = 2) (hv : v < 1099511627776) : ex_Rep E b G ad (ex_set M k v) H := by
  have hg : ∀ j, j = 0 ∨ 3 ≤ j → ex_get (ex_set M k v) j = ex_get M j := fun j hj => by rw [ex_get_set hv, if_neg (by omega)]
  obtain ⟨h1, h2, h3, h4, h5, h6, h7, h8⟩ := h
  have hn : ∀ w ∈ G, ex_n (ex_set M k v) w = ex_n M w := fun w hw => by unfold ex_n; rw [hg w (Or.inr (h4 w hw).1)]
  refine ⟨fun w hw => (h1 w hw).stay (hg w (Or.inr (h4 w hw).1)) rfl (fun j hj => by rw [hg _ (Or.inr (by have := (h4 w hw).1; omega))]) rfl, h2, h3, fun w hw => by rw [hn w hw, hg 0 (Or.inl rfl)]; exact h4 w hw, fun w hw w' hw' hl => by rw [hn w hw]; exact h5 w hw w' hw' hl, by rw [hg 0 (Or.inl rfl)]; exact ex_set_lt h6 (by omega) hv, by rw [hg 0 (Or.inl rfl)]; exact h7, fun w hw j hj => ?_⟩
  rw [hn w hw] at hj
  rw [hg _ (Or.inr (by have := (h4 w hw).1; omega))]
  exact h8 w hw j hj
