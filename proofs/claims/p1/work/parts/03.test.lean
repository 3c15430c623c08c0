noncomputable section

def ts_ST (b : Nat) : Nat → Nat := fun k => bif Nat.beq k 0 then b else ex_st k
def ts_law (b : Nat) : ex_R := ex_call ([], []) (ts_ST b) ex_cB ex_cN ex_mi 1000000 60 389 [17179869184] 3
def rs1 (r : ex_R) : Nat := match r with | some q => q.1 | none => 1267650600228229401496703205375
def rs2 (r : ex_R) : Nat := match r with | some q => q.2 | none => 1267650600228229401496703205375
theorem tm_0 : Nat.beq (rs1 (ts_law 65767573680019566434757095756225300107365877548608)) 1 = true := by decide +kernel
end
