/-! AN EVALUATOR of the class files' methods over packed numbers: 40 bits a word. Codes: an int n < 2^32 as n; null 2^32; int variables 2^32 + 1 + j; cells that the run makes 2^33 + w (w: the word of its head); cells that stood before 2^34 + j; 0.0f 2^35, 0.0 2^35 + 1, 8.0 2^35 + 2; a long variable's 2^36 + j; unset 2^37, void 2^37 + 1; a long n 2^38 + 2^37 + n; thrown: 2^39 + e -/
abbrev ex_R : Type := Option (Nat × Nat)
abbrev ex_K : Type := Nat → List Nat → Nat → ex_R
/-- a row of code: the instruction, its place, what is known of it -/
abbrev ex_E : Type := Instr × Nat × Nat
abbrev ex_CD : Type := Nat → List ex_E
abbrev ex_H : Type := List (Nat × Nat × Nat × Nat)
abbrev ex_MI : Type := Nat → Option (Nat × Nat × Nat × ex_H × ex_CD)
/-- what a run's variables are known to be: (lowest, highest, not among) of each, biased by 2^31; and what operations answer: (key, answer) -/
abbrev ex_V : Type := List (Nat × Nat × List Nat) × List (Nat × Nat)
