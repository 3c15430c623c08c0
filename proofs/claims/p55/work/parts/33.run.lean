noncomputable section

/-! the quicker run -/
abbrev ex_MK : Type := Nat → Option (Nat × Nat × (Nat → Option ex_C))
abbrev ex_AL : Type := Nat → Nat → List Nat → Nat → Option ex_R
/-- AL: calls that are answered otherwise -/
def cx_run (AL : ex_AL) (V : ex_V) (ST : Nat → Nat) (MK : ex_MK) (fuel : Nat) : Nat → (Nat → Option ex_C) → Nat → ex_K :=
  @Nat.rec (fun _ => Nat → (Nat → Option ex_C) → Nat → ex_K) (fun _ _ _ _ _ _ => none)
    (fun _ ih d kt pc L S M => @Option.rec ex_C (fun _ => ex_R) none (fun c => c V ST d
      (fun m as M => @Nat.rec (fun _ => ex_R) none (fun d' _ => @Option.rec ex_R (fun _ => ex_R) ((@Option.rec (Nat × Nat × (Nat → Option ex_C)) (fun _ => ex_R) none (fun q => (@Bool.rec (fun _ => ex_R) (none) (ih d' q.2.2 0 (g_pack as 0 q.2.1) [] M) (Nat.ble (ex_rsum as) q.1))) (MK m))) (fun r => r) (AL d' m as M)) d)
      (ih d kt) L S M) (kt pc)) fuel
end
