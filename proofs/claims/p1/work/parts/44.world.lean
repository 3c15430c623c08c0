noncomputable section
/-! the world at the law's start -/
theorem xw_tl {w : Cond} (h : w ∈ tables_1) : w ∈ lw_tbl := List.mem_append.mpr (Or.inr h)
theorem xw_t {args : Array Value} {s : State} (ht : ∀ w ∈ lw_tbl, w.before args s = true) {w : Cond} {L : List Cond} (hL : ∀ w ∈ L, w ∈ tables_1) (i : Nat) (h : L[i]? = some w) : w.before args s = true := ht _ (xw_tl (hL w (List.mem_of_getElem? h)))
theorem xw_sel : ∀ y ∈ ex_Xc.2.2, Cond.selects y.cls y y ∈ k2_sels lw_privs := by decide +kernel
theorem xw_TT : ∀ w ∈ ex_TT ex_Xc.2.2, w ∈ lw_tbl := fun w hw => by
  rcases List.mem_append.mp hw with h | h
  · exact xw_tl (List.mem_filter.mp h).1
  · obtain ⟨y, hy, rfl⟩ := List.mem_map.mp h
    exact List.mem_append.mpr (Or.inl (xw_sel y hy))
section
variable {args : Array Value} {s : State}
theorem xw_cls (ht : ∀ w ∈ lw_tbl, w.before args s = true) : ∀ k : Nat, ∃ z : ClassId × (Nat → Nat), ∀ q : vw_C, ex_cl[k]? = some q → u_Kn s q.1 q.2.1 q.2.2 z.1 z.2 := by
  intro k
  cases hq : ex_cl[k]? with
  | none => exact ⟨(0, id), fun _ h => nomatch h⟩
  | some q =>
    have h : ∃ (cC : ClassId) (iS : Nat → Nat), u_Kn s q.1 q.2.1 q.2.2 cC iS := by
      match k, hq with
      | 0, hq => cases hq; exact u_known (n := 19) ht (fun w hw => xw_TT w (cw_0 w hw)) (xw_t ht ex_q1 43 rfl)
      | 1, hq => cases hq; exact u_known (n := 4) ht (fun w hw => xw_TT w (cw_1 w hw)) (xw_t ht ex_q1 51 rfl)
      | 2, hq => cases hq; exact u_known (n := 8) ht (fun w hw => xw_TT w (cw_2 w hw)) (xw_t ht ex_q1 82 rfl)
      | 3, hq => cases hq; exact u_known (n := 16) ht (fun w hw => xw_TT w (cw_3 w hw)) (xw_t ht ex_q1 88 rfl)
      | 4, hq => cases hq; exact u_known (n := 12) ht (fun w hw => xw_TT w (cw_4 w hw)) (xw_t ht ex_q1 164 rfl)
      | 5, hq => cases hq; exact u_known (n := 7) ht (fun w hw => xw_TT w (cw_5 w hw)) (xw_t ht ex_q2 0 rfl)
      | 6, hq => cases hq; exact u_known (n := 9) ht (fun w hw => xw_TT w (cw_6 w hw)) (xw_t ht ex_q2 36 rfl)
      | 7, hq => cases hq; exact u_known (n := 4) ht (fun w hw => xw_TT w (cw_7 w hw)) (xw_t ht ex_q2 78 rfl)
      | 8, hq => cases hq; exact u_known (n := 5) ht (fun w hw => xw_TT w (cw_8 w hw)) (xw_t ht ex_q2 100 rfl)
      | 9, hq => cases hq; exact u_known (n := 4) ht (fun w hw => xw_TT w (cw_9 w hw)) (xw_t ht ex_q2 125 rfl)
      | 10, hq => cases hq; exact u_known (n := 5) ht (fun w hw => xw_TT w (cw_10 w hw)) (xw_t ht ex_q2 148 rfl)
      | 11, hq => cases hq; exact u_known (n := 4) ht (fun w hw => xw_TT w (cw_11 w hw)) (xw_t ht ex_q2 175 rfl)
      | 12, hq => cases hq; exact u_known (n := 40) ht (fun w hw => xw_TT w (cw_12 w hw)) (xw_t ht ex_q7 154 rfl)
      | 13, hq => cases hq; exact u_known (n := 4) ht (fun w hw => xw_TT w (cw_13 w hw)) (xw_t ht ex_q9 174 rfl)
      | 14, hq => cases hq; exact u_known (n := 13) ht (fun w hw => xw_TT w (cw_14 w hw)) (xw_t ht ex_q10 27 rfl)
      | 15, hq => cases hq; exact u_known (n := 3) ht (fun w hw => xw_TT w (cw_15 w hw)) (xw_t ht ex_q9 119 rfl)
      | 16, hq => cases hq; exact u_known (n := 3) ht (fun w hw => xw_TT w (cw_16 w hw)) (xw_t ht ex_q7 160 rfl)
      | 17, hq => cases hq; exact u_known (n := 4) ht (fun w hw => xw_TT w (cw_17 w hw)) (xw_t ht ex_q9 16 rfl)
      | 18, hq => cases hq; exact u_known (n := 4) ht (fun w hw => xw_TT w (cw_18 w hw)) (xw_t ht ex_q5 57 rfl)
      | 19, hq => cases hq; exact u_known (n := 1) ht (fun w hw => xw_TT w (cw_19 w hw)) (xw_t ht ex_q10 197 rfl)
      | k + 20, hq => cases hq
    obtain ⟨cC, iS, h⟩ := h
    exact ⟨(cC, iS), fun q' e => by cases e; exact h⟩
theorem xw_prim (ty : FieldType) (h : (Cond.arrayClass ty).before args s = true) (hr : ∀ cA, s.vm.findClass ("[" ++ ty.toString) = some cA → va_RA s cA ty) : ∃ cA, ArrOfT s cA ty ∧ va_RA s cA ty := by
  obtain ⟨c, k, comp, h1, h2, h3⟩ := Cond.arrayClass_spec h
  exact ⟨c, xw_arr h2 h3, hr c h1⟩
theorem xw_kds (ht : ∀ w ∈ lw_tbl, w.before args s = true) (hf : ∀ w ∈ xw_FL, w.before args s = true) : ∀ kd, ∃ cA, 64 ≤ kd → kd ≤ 72 → ArrOfT s cA (ex_ty kd) ∧ (kd ≤ 71 → va_RA s cA (ex_ty kd)) := by
  intro kd
  by_cases h : 64 ≤ kd ∧ kd ≤ 72
  · have g : ∃ cA, ArrOfT s cA (ex_ty kd) ∧ (kd ≤ 71 → va_RA s cA (ex_ty kd)) := by
      have : kd = 64 ∨ kd = 65 ∨ kd = 66 ∨ kd = 67 ∨ kd = 68 ∨ kd = 69 ∨ kd = 70 ∨ kd = 71 ∨ kd = 72 := by omega
      rcases this with rfl | rfl | rfl | rfl | rfl | rfl | rfl | rfl | rfl
      · obtain ⟨cA, h1, h2⟩ := xw_prim .int (xw_t ht ex_q1 80 rfl) (fun cA h => h)
        exact ⟨cA, h1, fun _ => h2⟩
      · obtain ⟨cA, h1, h2⟩ := xw_prim .boolean (xw_t ht ex_q1 162 rfl) (fun cA h => h)
        exact ⟨cA, h1, fun _ => h2⟩
      · obtain ⟨cA, h1, h2⟩ := xw_prim .char (xw_t ht ex_q2 98 rfl) (fun cA h => h)
        exact ⟨cA, h1, fun _ => h2⟩
      · obtain ⟨cA, h1, h2⟩ := xw_prim .long (xw_t ht ex_q11 174 rfl) (fun cA h => h)
        exact ⟨cA, h1, fun _ => h2⟩
      · obtain ⟨cA, h1, h2⟩ := xw_prim .double (xw_t ht ex_q11 175 rfl) (fun cA h => h)
        exact ⟨cA, h1, fun _ => h2⟩
      · obtain ⟨cA, h1, h2⟩ := xw_prim .byte (xw_t ht ex_q3 148 rfl) (fun cA h => h)
        exact ⟨cA, h1, fun _ => h2⟩
      · obtain ⟨comp, c, k, h1, h2, h3, h4, h5⟩ := Cond.arrayOver_spec (args := args) (first := s) (o := none) (s := s) (idx := []) (n := "java/lang/Object") (xw_t ht ex_q8 15 rfl)
        exact ⟨c, xw_arr h3 h4, fun _ => ⟨k, comp, h3, h4, h1, h5⟩⟩
      · obtain ⟨comp, c, k, h1, h2, h3, h4, h5⟩ := arrayOverA_spec (args := args) (first := s) (o := none) (s := s) (idx := []) (t := .int) (xw_t ht ex_q2 6 rfl)
        exact ⟨c, xw_arr h3 h4, fun _ => h5⟩
      · obtain ⟨b, cell, e1, e2, e3⟩ := Term.length_spec (va_eqt (z := 128) (hf (Cond.eq (.length (.static "java/lang/Character$CharacterCache" "cache" "[Ljava/lang/Character;")) (.int 128)) (List.mem_of_getElem? (i := 319) (by decide +kernel))))
        obtain ⟨hcell, -, -, -⟩ := State.arrayAt?_spec e2
        obtain ⟨⟨-, k, h1, comp, h2⟩, -⟩ := Cond.arrayOf_spec (hf (Cond.arrayOf (.static "java/lang/Character$CharacterCache" "cache" "[Ljava/lang/Character;") (.object "java/lang/Character")) (List.mem_of_getElem? (i := 318) (by decide +kernel))) e1 hcell
        exact ⟨cell.cls, xw_arr h1 h2, fun z => absurd z (by decide)⟩
    obtain ⟨cA, h1, h2⟩ := g
    exact ⟨cA, fun _ _ => ⟨h1, h2⟩⟩
  · exact ⟨0, fun a1 a2 => absurd ⟨a1, a2⟩ h⟩
theorem xw_ncs : ∀ q ∈ ex_Xc.1, Cond.not (.castable q.1 q.2) ∈ xw_FL := by decide +kernel
theorem xw_Nc (hf : ∀ w ∈ xw_FL, w.before args s = true) : ∀ q ∈ ex_Xc.1, va_Nc q.1 q.2 s := fun q hq => va_Nc.of (hf _ (xw_ncs q hq))
theorem xw_Fw (ht : ∀ w ∈ lw_tbl, w.before args s = true) : ∀ q ∈ ex_Xc.2.1, (q.2.1.cls ≠ "java/lang/invoke/MethodHandle" ∧ q.2.1.cls ≠ "java/lang/invoke/VarHandle") ∧ va_Fw q.1 q.2.1 q.2.2 s := by
  intro q hq
  rcases List.mem_cons.mp hq with e | hq
  · subst e
    exact ⟨⟨by decide, by decide⟩, va_Fw.of (xw_t ht ex_q9 37 rfl) (xw_t ht ex_q9 36 rfl) (xw_t ht ex_q9 42 rfl) (xw_t ht ex_q9 40 rfl) (xw_t ht ex_q9 38 rfl)⟩
  rcases List.mem_cons.mp hq with e | hq
  · subst e
    exact ⟨⟨by decide, by decide⟩, va_Fw.of (xw_t ht ex_q9 47 rfl) (xw_t ht ex_q9 46 rfl) (xw_t ht ex_q9 51 rfl) (xw_t ht ex_q9 49 rfl) (xw_t ht ex_q9 38 rfl)⟩
  rcases List.mem_cons.mp hq with e | hq
  · subst e
    exact ⟨⟨by decide, by decide⟩, va_Fw.of (xw_t ht ex_q9 9 rfl) (xw_t ht ex_q9 8 rfl) (xw_t ht ex_q9 13 rfl) (xw_t ht ex_q9 11 rfl) (xw_t ht ex_q7 192 rfl)⟩
  rcases List.mem_cons.mp hq with e | hq
  · subst e
    exact ⟨⟨by decide, by decide⟩, va_Fw.of (xw_t ht ex_q7 191 rfl) (xw_t ht ex_q7 190 rfl) (xw_t ht ex_q7 196 rfl) (xw_t ht ex_q7 194 rfl) (xw_t ht ex_q7 192 rfl)⟩
  rcases List.mem_cons.mp hq with e | hq
  · subst e
    exact ⟨⟨by decide, by decide⟩, va_Fw.of (xw_t ht ex_q8 171 rfl) (xw_t ht ex_q8 170 rfl) (xw_t ht ex_q8 175 rfl) (xw_t ht ex_q8 173 rfl) (xw_t ht ex_q7 192 rfl)⟩
  rcases List.mem_cons.mp hq with e | hq
  · subst e
    exact ⟨⟨by decide, by decide⟩, va_Fw.of (xw_t ht ex_q9 62 rfl) (xw_t ht ex_q9 61 rfl) (xw_t ht ex_q9 66 rfl) (xw_t ht ex_q9 64 rfl) (xw_t ht ex_q7 192 rfl)⟩
  rcases List.mem_cons.mp hq with e | hq
  · subst e
    exact ⟨⟨by decide, by decide⟩, va_Fw.of (xw_t ht ex_q9 103 rfl) (xw_t ht ex_q9 102 rfl) (xw_t ht ex_q9 107 rfl) (xw_t ht ex_q9 105 rfl) (xw_t ht ex_q7 192 rfl)⟩
  rcases List.mem_cons.mp hq with e | hq
  · subst e
    exact ⟨⟨by decide, by decide⟩, va_Fw.of (xw_t ht ex_q9 213 rfl) (xw_t ht ex_q9 212 rfl) (xw_t ht ex_q9 217 rfl) (xw_t ht ex_q9 215 rfl) (xw_t ht ex_q7 192 rfl)⟩
  rcases List.mem_cons.mp hq with e | hq
  · subst e
    exact ⟨⟨by decide, by decide⟩, va_Fw.of (xw_t ht ex_q10 209 rfl) (xw_t ht ex_q10 208 rfl) (xw_t ht ex_q10 213 rfl) (xw_t ht ex_q10 211 rfl) (xw_t ht ex_q7 192 rfl)⟩
  rcases List.mem_cons.mp hq with e | hq
  · subst e
    exact ⟨⟨by decide, by decide⟩, va_Fw.of (xw_t ht ex_q11 18 rfl) (xw_t ht ex_q11 17 rfl) (xw_t ht ex_q11 22 rfl) (xw_t ht ex_q11 20 rfl) (xw_t ht ex_q7 192 rfl)⟩
  cases hq
end
end
