noncomputable section
/-! the words and tables of the classes -/
theorem cw_0 : ∀ w ∈ u_ws "Callerhall" TF0 19, w ∈ ex_TT ex_Xc.2.2 := by
  intro w hw
  obtain ⟨k, hk, rfl⟩ := List.mem_map.mp hw
  have hk := List.mem_range.mp hk
  match k, hk with
  | 0, _ => exact (ex_tt ex_q2 226 rfl rfl : ex_tW (Jvm.Cond.laysFinal "Callerhall" "Callerhall" "dancers" "LCallerhall$Places;"))
  | 1, _ => exact (ex_tt ex_q2 228 rfl rfl : ex_tW (Jvm.Cond.laysFinal "Callerhall" "Callerhall" "phantoms" "LCallerhall$Places;"))
  | 2, _ => exact (ex_tt ex_q2 230 rfl rfl : ex_tW (Jvm.Cond.laysFinal "Callerhall" "Callerhall" "trial" "LCallerhall$Places;"))
  | 3, _ => exact (ex_tt ex_q2 232 rfl rfl : ex_tW (Jvm.Cond.laysFinal "Callerhall" "Callerhall" "skills" "[I"))
  | 4, _ => exact (ex_tt ex_q2 234 rfl rfl : ex_tW (Jvm.Cond.laysFinal "Callerhall" "Callerhall" "experts" "[I"))
  | 5, _ => exact (ex_tt ex_q2 236 rfl rfl : ex_tW (Jvm.Cond.laysFinal "Callerhall" "Callerhall" "stage" "LCallerhall$Stage;"))
  | 6, _ => exact (ex_tt ex_q2 238 rfl rfl : ex_tW (Jvm.Cond.laysFinal "Callerhall" "Callerhall" "book" "LCallerhall$Book;"))
  | 7, _ => exact (ex_tt ex_q3 0 rfl rfl : ex_tW (Jvm.Cond.laysFinal "Callerhall" "Callerhall" "plan" "LCallerhall$Plan;"))
  | 8, _ => exact (ex_tt ex_q3 2 rfl rfl : ex_tW (Jvm.Cond.laysFinal "Callerhall" "Callerhall" "rest" "LCallerhall$Plan;"))
  | 9, _ => exact (ex_tt ex_q3 4 rfl rfl : ex_tW (Jvm.Cond.laysFinal "Callerhall" "Callerhall" "past" "LCallerhall$Past;"))
  | 10, _ => exact (ex_tt ex_q3 6 rfl rfl : ex_tW (Jvm.Cond.laysFinal "Callerhall" "Callerhall" "flow" "LCallerhall$Flow;"))
  | 11, _ => exact (ex_tt ex_q3 8 rfl rfl : ex_tW (Jvm.Cond.laysFinal "Callerhall" "Callerhall" "song" "LCallerhall$Song;"))
  | 12, _ => exact (ex_tt ex_q3 10 rfl rfl : ex_tW (Jvm.Cond.laysFinal "Callerhall" "Callerhall" "party" "LCallerhall$Party;"))
  | 13, _ => exact (ex_tt ex_q3 12 rfl rfl : ex_tW (Jvm.Cond.laysFinal "Callerhall" "Callerhall" "tally" "LCallerhall$Tally;"))
  | 14, _ => exact (ex_tt ex_q3 14 rfl rfl : ex_tW (Jvm.Cond.laysFinal "Callerhall" "Callerhall" "turnsAhead" "[I"))
  | 15, _ => exact (ex_tt ex_q3 16 rfl rfl : ex_tW (Jvm.Cond.laysFinal "Callerhall" "Callerhall" "way" "[I"))
  | 16, _ => exact (ex_tt ex_q3 18 rfl rfl : ex_tW (Jvm.Cond.lays "Callerhall" "Callerhall" "wayLength" "I"))
  | 17, _ => exact (ex_tt ex_q3 20 rfl rfl : ex_tW (Jvm.Cond.lays "Callerhall" "Callerhall" "levelTold" "I"))
  | 18, _ => exact (ex_tt ex_q3 22 rfl rfl : ex_tW (Jvm.Cond.lays "Callerhall" "Callerhall" "yearTold" "I"))
  | k + 19, h => omega
theorem cw_1 : ∀ w ∈ u_ws "Callerhall$Places" TF1 4, w ∈ ex_TT ex_Xc.2.2 := by
  intro w hw
  obtain ⟨k, hk, rfl⟩ := List.mem_map.mp hw
  have hk := List.mem_range.mp hk
  match k, hk with
  | 0, _ => exact (ex_tt ex_q1 71 rfl rfl : ex_tW (Jvm.Cond.laysFinal "Callerhall$Places" "Callerhall$Places" "x" "[I"))
  | 1, _ => exact (ex_tt ex_q1 73 rfl rfl : ex_tW (Jvm.Cond.laysFinal "Callerhall$Places" "Callerhall$Places" "y" "[I"))
  | 2, _ => exact (ex_tt ex_q1 75 rfl rfl : ex_tW (Jvm.Cond.laysFinal "Callerhall$Places" "Callerhall$Places" "f" "[I"))
  | 3, _ => exact (ex_tt ex_q1 77 rfl rfl : ex_tW (Jvm.Cond.lays "Callerhall$Places" "Callerhall$Places" "count" "I"))
  | k + 4, h => omega
theorem cw_2 : ∀ w ∈ u_ws "Callerhall$Stage" TF2 8, w ∈ ex_TT ex_Xc.2.2 := by
  intro w hw
  obtain ⟨k, hk, rfl⟩ := List.mem_map.mp hw
  have hk := List.mem_range.mp hk
  match k, hk with
  | 0, _ => exact (ex_tt ex_q1 222 rfl rfl : ex_tW (Jvm.Cond.laysFinal "Callerhall$Stage" "Callerhall$Stage" "ground" "LCallerhall$Floor;"))
  | 1, _ => exact (ex_tt ex_q1 224 rfl rfl : ex_tW (Jvm.Cond.laysFinal "Callerhall$Stage" "Callerhall$Stage" "middle" "LCallerhall$Floor;"))
  | 2, _ => exact (ex_tt ex_q1 226 rfl rfl : ex_tW (Jvm.Cond.laysFinal "Callerhall$Stage" "Callerhall$Stage" "top" "LCallerhall$Floor;"))
  | 3, _ => exact (ex_tt ex_q1 228 rfl rfl : ex_tW (Jvm.Cond.laysFinal "Callerhall$Stage" "Callerhall$Stage" "steps" "LCallerhall$Steps;"))
  | 4, _ => exact (ex_tt ex_q1 230 rfl rfl : ex_tW (Jvm.Cond.laysFinal "Callerhall$Stage" "Callerhall$Stage" "phantoms" "LCallerhall$Places;"))
  | 5, _ => exact (ex_tt ex_q1 232 rfl rfl : ex_tW (Jvm.Cond.lays "Callerhall$Stage" "Callerhall$Stage" "depth" "I"))
  | 6, _ => exact (ex_tt ex_q1 234 rfl rfl : ex_tW (Jvm.Cond.lays "Callerhall$Stage" "Callerhall$Stage" "reason" "C"))
  | 7, _ => exact (ex_tt ex_q1 236 rfl rfl : ex_tW (Jvm.Cond.lays "Callerhall$Stage" "Callerhall$Stage" "culprit" "I"))
  | k + 8, h => omega
theorem cw_3 : ∀ w ∈ u_ws "Callerhall$Floor" TF3 16, w ∈ ex_TT ex_Xc.2.2 := by
  intro w hw
  obtain ⟨k, hk, rfl⟩ := List.mem_map.mp hw
  have hk := List.mem_range.mp hk
  match k, hk with
  | 0, _ => exact (ex_tt ex_q1 129 rfl rfl : ex_tW (Jvm.Cond.laysFinal "Callerhall$Floor" "Callerhall$Floor" "x" "[I"))
  | 1, _ => exact (ex_tt ex_q1 131 rfl rfl : ex_tW (Jvm.Cond.laysFinal "Callerhall$Floor" "Callerhall$Floor" "y" "[I"))
  | 2, _ => exact (ex_tt ex_q1 133 rfl rfl : ex_tW (Jvm.Cond.laysFinal "Callerhall$Floor" "Callerhall$Floor" "f" "[I"))
  | 3, _ => exact (ex_tt ex_q1 135 rfl rfl : ex_tW (Jvm.Cond.laysFinal "Callerhall$Floor" "Callerhall$Floor" "number" "[I"))
  | 4, _ => exact (ex_tt ex_q1 137 rfl rfl : ex_tW (Jvm.Cond.laysFinal "Callerhall$Floor" "Callerhall$Floor" "ability" "[I"))
  | 5, _ => exact (ex_tt ex_q1 139 rfl rfl : ex_tW (Jvm.Cond.laysFinal "Callerhall$Floor" "Callerhall$Floor" "groups" "[I"))
  | 6, _ => exact (ex_tt ex_q1 141 rfl rfl : ex_tW (Jvm.Cond.laysFinal "Callerhall$Floor" "Callerhall$Floor" "wasX" "[I"))
  | 7, _ => exact (ex_tt ex_q1 143 rfl rfl : ex_tW (Jvm.Cond.laysFinal "Callerhall$Floor" "Callerhall$Floor" "wasY" "[I"))
  | 8, _ => exact (ex_tt ex_q1 145 rfl rfl : ex_tW (Jvm.Cond.laysFinal "Callerhall$Floor" "Callerhall$Floor" "turns" "[I"))
  | 9, _ => exact (ex_tt ex_q1 147 rfl rfl : ex_tW (Jvm.Cond.laysFinal "Callerhall$Floor" "Callerhall$Floor" "firstHand" "[I"))
  | 10, _ => exact (ex_tt ex_q1 149 rfl rfl : ex_tW (Jvm.Cond.laysFinal "Callerhall$Floor" "Callerhall$Floor" "lastHand" "[I"))
  | 11, _ => exact (ex_tt ex_q1 151 rfl rfl : ex_tW (Jvm.Cond.laysFinal "Callerhall$Floor" "Callerhall$Floor" "lead" "[I"))
  | 12, _ => exact (ex_tt ex_q1 153 rfl rfl : ex_tW (Jvm.Cond.laysFinal "Callerhall$Floor" "Callerhall$Floor" "trail" "[I"))
  | 13, _ => exact (ex_tt ex_q1 155 rfl rfl : ex_tW (Jvm.Cond.laysFinal "Callerhall$Floor" "Callerhall$Floor" "passing" "[Z"))
  | 14, _ => exact (ex_tt ex_q1 157 rfl rfl : ex_tW (Jvm.Cond.lays "Callerhall$Floor" "Callerhall$Floor" "count" "I"))
  | 15, _ => exact (ex_tt ex_q1 159 rfl rfl : ex_tW (Jvm.Cond.lays "Callerhall$Floor" "Callerhall$Floor" "isCounting" "Z"))
  | k + 16, h => omega
theorem cw_4 : ∀ w ∈ u_ws "Callerhall$Steps" TF4 12, w ∈ ex_TT ex_Xc.2.2 := by
  intro w hw
  obtain ⟨k, hk, rfl⟩ := List.mem_map.mp hw
  have hk := List.mem_range.mp hk
  match k, hk with
  | 0, _ => exact (ex_tt ex_q1 186 rfl rfl : ex_tW (Jvm.Cond.laysFinal "Callerhall$Steps" "Callerhall$Steps" "told" "[Z"))
  | 1, _ => exact (ex_tt ex_q1 188 rfl rfl : ex_tW (Jvm.Cond.laysFinal "Callerhall$Steps" "Callerhall$Steps" "isDancing" "[Z"))
  | 2, _ => exact (ex_tt ex_q1 190 rfl rfl : ex_tW (Jvm.Cond.laysFinal "Callerhall$Steps" "Callerhall$Steps" "order" "[I"))
  | 3, _ => exact (ex_tt ex_q1 192 rfl rfl : ex_tW (Jvm.Cond.laysFinal "Callerhall$Steps" "Callerhall$Steps" "zone" "[I"))
  | 4, _ => exact (ex_tt ex_q1 194 rfl rfl : ex_tW (Jvm.Cond.laysFinal "Callerhall$Steps" "Callerhall$Steps" "mate" "[I"))
  | 5, _ => exact (ex_tt ex_q1 196 rfl rfl : ex_tW (Jvm.Cond.laysFinal "Callerhall$Steps" "Callerhall$Steps" "kind" "[I"))
  | 6, _ => exact (ex_tt ex_q1 198 rfl rfl : ex_tW (Jvm.Cond.laysFinal "Callerhall$Steps" "Callerhall$Steps" "isBoxed" "[Z"))
  | 7, _ => exact (ex_tt ex_q1 200 rfl rfl : ex_tW (Jvm.Cond.laysFinal "Callerhall$Steps" "Callerhall$Steps" "boxX" "[I"))
  | 8, _ => exact (ex_tt ex_q1 202 rfl rfl : ex_tW (Jvm.Cond.laysFinal "Callerhall$Steps" "Callerhall$Steps" "boxY" "[I"))
  | 9, _ => exact (ex_tt ex_q1 204 rfl rfl : ex_tW (Jvm.Cond.lays "Callerhall$Steps" "Callerhall$Steps" "spacing" "I"))
  | 10, _ => exact (ex_tt ex_q1 206 rfl rfl : ex_tW (Jvm.Cond.lays "Callerhall$Steps" "Callerhall$Steps" "isPartedByX" "Z"))
  | 11, _ => exact (ex_tt ex_q1 208 rfl rfl : ex_tW (Jvm.Cond.lays "Callerhall$Steps" "Callerhall$Steps" "isPartedByY" "Z"))
  | k + 12, h => omega
theorem cw_5 : ∀ w ∈ u_ws "Callerhall$Book" TF5 7, w ∈ ex_TT ex_Xc.2.2 := by
  intro w hw
  obtain ⟨k, hk, rfl⟩ := List.mem_map.mp hw
  have hk := List.mem_range.mp hk
  match k, hk with
  | 0, _ => exact (ex_tt ex_q2 20 rfl rfl : ex_tW (Jvm.Cond.laysFinal "Callerhall$Book" "Callerhall$Book" "versions" "[I"))
  | 1, _ => exact (ex_tt ex_q2 22 rfl rfl : ex_tW (Jvm.Cond.laysFinal "Callerhall$Book" "Callerhall$Book" "years" "[I"))
  | 2, _ => exact (ex_tt ex_q2 24 rfl rfl : ex_tW (Jvm.Cond.laysFinal "Callerhall$Book" "Callerhall$Book" "actCounts" "[I"))
  | 3, _ => exact (ex_tt ex_q2 26 rfl rfl : ex_tW (Jvm.Cond.laysFinal "Callerhall$Book" "Callerhall$Book" "beatsTold" "[I"))
  | 4, _ => exact (ex_tt ex_q2 28 rfl rfl : ex_tW (Jvm.Cond.laysFinal "Callerhall$Book" "Callerhall$Book" "acts" "[[I"))
  | 5, _ => exact (ex_tt ex_q2 30 rfl rfl : ex_tW (Jvm.Cond.laysFinal "Callerhall$Book" "Callerhall$Book" "whos" "[[I"))
  | 6, _ => exact (ex_tt ex_q2 32 rfl rfl : ex_tW (Jvm.Cond.laysFinal "Callerhall$Book" "Callerhall$Book" "concepts" "[[I"))
  | k + 7, h => omega
theorem cw_6 : ∀ w ∈ u_ws "Callerhall$Plan" TF6 9, w ∈ ex_TT ex_Xc.2.2 := by
  intro w hw
  obtain ⟨k, hk, rfl⟩ := List.mem_map.mp hw
  have hk := List.mem_range.mp hk
  match k, hk with
  | 0, _ => exact (ex_tt ex_q2 58 rfl rfl : ex_tW (Jvm.Cond.laysFinal "Callerhall$Plan" "Callerhall$Plan" "acts" "[I"))
  | 1, _ => exact (ex_tt ex_q2 60 rfl rfl : ex_tW (Jvm.Cond.laysFinal "Callerhall$Plan" "Callerhall$Plan" "whos" "[I"))
  | 2, _ => exact (ex_tt ex_q2 62 rfl rfl : ex_tW (Jvm.Cond.laysFinal "Callerhall$Plan" "Callerhall$Plan" "concepts" "[I"))
  | 3, _ => exact (ex_tt ex_q2 64 rfl rfl : ex_tW (Jvm.Cond.lays "Callerhall$Plan" "Callerhall$Plan" "actCount" "I"))
  | 4, _ => exact (ex_tt ex_q2 66 rfl rfl : ex_tW (Jvm.Cond.lays "Callerhall$Plan" "Callerhall$Plan" "concept" "I"))
  | 5, _ => exact (ex_tt ex_q2 68 rfl rfl : ex_tW (Jvm.Cond.lays "Callerhall$Plan" "Callerhall$Plan" "partCount" "I"))
  | 6, _ => exact (ex_tt ex_q2 70 rfl rfl : ex_tW (Jvm.Cond.lays "Callerhall$Plan" "Callerhall$Plan" "beatCount" "I"))
  | 7, _ => exact (ex_tt ex_q2 72 rfl rfl : ex_tW (Jvm.Cond.lays "Callerhall$Plan" "Callerhall$Plan" "highest" "I"))
  | 8, _ => exact (ex_tt ex_q2 74 rfl rfl : ex_tW (Jvm.Cond.lays "Callerhall$Plan" "Callerhall$Plan" "done" "I"))
  | k + 9, h => omega
theorem cw_7 : ∀ w ∈ u_ws "Callerhall$Past" TF7 4, w ∈ ex_TT ex_Xc.2.2 := by
  intro w hw
  obtain ⟨k, hk, rfl⟩ := List.mem_map.mp hw
  have hk := List.mem_range.mp hk
  match k, hk with
  | 0, _ => exact (ex_tt ex_q2 89 rfl rfl : ex_tW (Jvm.Cond.laysFinal "Callerhall$Past" "Callerhall$Past" "rows" "[[I"))
  | 1, _ => exact (ex_tt ex_q2 91 rfl rfl : ex_tW (Jvm.Cond.laysFinal "Callerhall$Past" "Callerhall$Past" "letters" "[C"))
  | 2, _ => exact (ex_tt ex_q2 93 rfl rfl : ex_tW (Jvm.Cond.lays "Callerhall$Past" "Callerhall$Past" "newest" "I"))
  | 3, _ => exact (ex_tt ex_q2 95 rfl rfl : ex_tW (Jvm.Cond.lays "Callerhall$Past" "Callerhall$Past" "size" "I"))
  | k + 4, h => omega
theorem cw_8 : ∀ w ∈ u_ws "Callerhall$Flow" TF8 5, w ∈ ex_TT ex_Xc.2.2 := by
  intro w hw
  obtain ⟨k, hk, rfl⟩ := List.mem_map.mp hw
  have hk := List.mem_range.mp hk
  match k, hk with
  | 0, _ => exact (ex_tt ex_q2 113 rfl rfl : ex_tW (Jvm.Cond.laysFinal "Callerhall$Flow" "Callerhall$Flow" "lastTurns" "[I"))
  | 1, _ => exact (ex_tt ex_q2 115 rfl rfl : ex_tW (Jvm.Cond.laysFinal "Callerhall$Flow" "Callerhall$Flow" "flowing" "[I"))
  | 2, _ => exact (ex_tt ex_q2 117 rfl rfl : ex_tW (Jvm.Cond.laysFinal "Callerhall$Flow" "Callerhall$Flow" "hands" "[I"))
  | 3, _ => exact (ex_tt ex_q2 119 rfl rfl : ex_tW (Jvm.Cond.lays "Callerhall$Flow" "Callerhall$Flow" "breaks" "I"))
  | 4, _ => exact (ex_tt ex_q2 121 rfl rfl : ex_tW (Jvm.Cond.lays "Callerhall$Flow" "Callerhall$Flow" "clashCount" "I"))
  | k + 5, h => omega
theorem cw_9 : ∀ w ∈ u_ws "Callerhall$Song" TF9 4, w ∈ ex_TT ex_Xc.2.2 := by
  intro w hw
  obtain ⟨k, hk, rfl⟩ := List.mem_map.mp hw
  have hk := List.mem_range.mp hk
  match k, hk with
  | 0, _ => exact (ex_tt ex_q2 138 rfl rfl : ex_tW (Jvm.Cond.lays "Callerhall$Song" "Callerhall$Song" "figure" "I"))
  | 1, _ => exact (ex_tt ex_q2 140 rfl rfl : ex_tW (Jvm.Cond.lays "Callerhall$Song" "Callerhall$Song" "done" "I"))
  | 2, _ => exact (ex_tt ex_q2 142 rfl rfl : ex_tW (Jvm.Cond.lays "Callerhall$Song" "Callerhall$Song" "rightsGone" "I"))
  | 3, _ => exact (ex_tt ex_q2 144 rfl rfl : ex_tW (Jvm.Cond.lays "Callerhall$Song" "Callerhall$Song" "doneInAll" "J"))
  | k + 4, h => omega
theorem cw_10 : ∀ w ∈ u_ws "Callerhall$Party" TF10 5, w ∈ ex_TT ex_Xc.2.2 := by
  intro w hw
  obtain ⟨k, hk, rfl⟩ := List.mem_map.mp hw
  have hk := List.mem_range.mp hk
  match k, hk with
  | 0, _ => exact (ex_tt ex_q2 163 rfl rfl : ex_tW (Jvm.Cond.laysFinal "Callerhall$Party" "Callerhall$Party" "sets" "[[I"))
  | 1, _ => exact (ex_tt ex_q2 165 rfl rfl : ex_tW (Jvm.Cond.laysFinal "Callerhall$Party" "Callerhall$Party" "meetings" "[[I"))
  | 2, _ => exact (ex_tt ex_q2 167 rfl rfl : ex_tW (Jvm.Cond.laysFinal "Callerhall$Party" "Callerhall$Party" "tipsDanced" "[I"))
  | 3, _ => exact (ex_tt ex_q2 169 rfl rfl : ex_tW (Jvm.Cond.lays "Callerhall$Party" "Callerhall$Party" "couples" "I"))
  | 4, _ => exact (ex_tt ex_q2 171 rfl rfl : ex_tW (Jvm.Cond.lays "Callerhall$Party" "Callerhall$Party" "tips" "I"))
  | k + 5, h => omega
theorem cw_11 : ∀ w ∈ u_ws "Callerhall$Tally" TF11 4, w ∈ ex_TT ex_Xc.2.2 := by
  intro w hw
  obtain ⟨k, hk, rfl⟩ := List.mem_map.mp hw
  have hk := List.mem_range.mp hk
  match k, hk with
  | 0, _ => exact (ex_tt ex_q2 188 rfl rfl : ex_tW (Jvm.Cond.lays "Callerhall$Tally" "Callerhall$Tally" "tried" "I"))
  | 1, _ => exact (ex_tt ex_q2 190 rfl rfl : ex_tW (Jvm.Cond.lays "Callerhall$Tally" "Callerhall$Tally" "danced" "I"))
  | 2, _ => exact (ex_tt ex_q2 192 rfl rfl : ex_tW (Jvm.Cond.lays "Callerhall$Tally" "Callerhall$Tally" "reason" "C"))
  | 3, _ => exact (ex_tt ex_q2 194 rfl rfl : ex_tW (Jvm.Cond.lays "Callerhall$Tally" "Callerhall$Tally" "culprit" "I"))
  | k + 4, h => omega
theorem cw_12 : ∀ w ∈ u_ws "CallerhallModel" TF12 40, w ∈ ex_TT ex_Xc.2.2 := by
  intro w hw
  obtain ⟨k, hk, rfl⟩ := List.mem_map.mp hw
  have hk := List.mem_range.mp hk
  match k, hk with
  | 0, _ => exact (ex_tt ex_q8 71 rfl rfl : ex_tW (Jvm.Cond.laysFinal "CallerhallModel" "CallerhallModel" "px" "[I"))
  | 1, _ => exact (ex_tt ex_q8 73 rfl rfl : ex_tW (Jvm.Cond.laysFinal "CallerhallModel" "CallerhallModel" "py" "[I"))
  | 2, _ => exact (ex_tt ex_q8 75 rfl rfl : ex_tW (Jvm.Cond.laysFinal "CallerhallModel" "CallerhallModel" "pf" "[I"))
  | 3, _ => exact (ex_tt ex_q8 77 rfl rfl : ex_tW (Jvm.Cond.laysFinal "CallerhallModel" "CallerhallModel" "skill" "[I"))
  | 4, _ => exact (ex_tt ex_q8 79 rfl rfl : ex_tW (Jvm.Cond.laysFinal "CallerhallModel" "CallerhallModel" "phantoms" "Ljava/util/List;"))
  | 5, _ => exact (ex_tt ex_q8 81 rfl rfl : ex_tW (Jvm.Cond.laysFinal "CallerhallModel" "CallerhallModel" "past" "Ljava/util/List;"))
  | 6, _ => exact (ex_tt ex_q8 83 rfl rfl : ex_tW (Jvm.Cond.laysFinal "CallerhallModel" "CallerhallModel" "tips" "Ljava/util/List;"))
  | 7, _ => exact (ex_tt ex_q8 85 rfl rfl : ex_tW (Jvm.Cond.laysFinal "CallerhallModel" "CallerhallModel" "letters" "Ljava/util/List;"))
  | 8, _ => exact (ex_tt ex_q8 87 rfl rfl : ex_tW (Jvm.Cond.laysFinal "CallerhallModel" "CallerhallModel" "way" "Ljava/util/List;"))
  | 9, _ => exact (ex_tt ex_q8 89 rfl rfl : ex_tW (Jvm.Cond.laysFinal "CallerhallModel" "CallerhallModel" "defined" "Ljava/util/List;"))
  | 10, _ => exact (ex_tt ex_q8 91 rfl rfl : ex_tW (Jvm.Cond.laysFinal "CallerhallModel" "CallerhallModel" "turned" "[I"))
  | 11, _ => exact (ex_tt ex_q8 93 rfl rfl : ex_tW (Jvm.Cond.laysFinal "CallerhallModel" "CallerhallModel" "lastTurn" "[I"))
  | 12, _ => exact (ex_tt ex_q8 95 rfl rfl : ex_tW (Jvm.Cond.laysFinal "CallerhallModel" "CallerhallModel" "lastHand" "[I"))
  | 13, _ => exact (ex_tt ex_q8 97 rfl rfl : ex_tW (Jvm.Cond.lays "CallerhallModel" "CallerhallModel" "thrown" "I"))
  | 14, _ => exact (ex_tt ex_q8 99 rfl rfl : ex_tW (Jvm.Cond.lays "CallerhallModel" "CallerhallModel" "level" "I"))
  | 15, _ => exact (ex_tt ex_q8 101 rfl rfl : ex_tW (Jvm.Cond.lays "CallerhallModel" "CallerhallModel" "year" "I"))
  | 16, _ => exact (ex_tt ex_q8 103 rfl rfl : ex_tW (Jvm.Cond.lays "CallerhallModel" "CallerhallModel" "gone" "I"))
  | 17, _ => exact (ex_tt ex_q8 105 rfl rfl : ex_tW (Jvm.Cond.lays "CallerhallModel" "CallerhallModel" "who" "I"))
  | 18, _ => exact (ex_tt ex_q8 107 rfl rfl : ex_tW (Jvm.Cond.lays "CallerhallModel" "CallerhallModel" "tried" "I"))
  | 19, _ => exact (ex_tt ex_q8 109 rfl rfl : ex_tW (Jvm.Cond.lays "CallerhallModel" "CallerhallModel" "done" "I"))
  | 20, _ => exact (ex_tt ex_q8 111 rfl rfl : ex_tW (Jvm.Cond.lays "CallerhallModel" "CallerhallModel" "couples" "I"))
  | 21, _ => exact (ex_tt ex_q8 113 rfl rfl : ex_tW (Jvm.Cond.lays "CallerhallModel" "CallerhallModel" "target" "I"))
  | 22, _ => exact (ex_tt ex_q8 115 rfl rfl : ex_tW (Jvm.Cond.lays "CallerhallModel" "CallerhallModel" "figure" "I"))
  | 23, _ => exact (ex_tt ex_q8 117 rfl rfl : ex_tW (Jvm.Cond.lays "CallerhallModel" "CallerhallModel" "broken" "I"))
  | 24, _ => exact (ex_tt ex_q8 119 rfl rfl : ex_tW (Jvm.Cond.lays "CallerhallModel" "CallerhallModel" "clashes" "I"))
  | 25, _ => exact (ex_tt ex_q8 121 rfl rfl : ex_tW (Jvm.Cond.lays "CallerhallModel" "CallerhallModel" "beats" "J"))
  | 26, _ => exact (ex_tt ex_q8 123 rfl rfl : ex_tW (Jvm.Cond.lays "CallerhallModel" "CallerhallModel" "why" "C"))
  | 27, _ => exact (ex_tt ex_q8 125 rfl rfl : ex_tW (Jvm.Cond.lays "CallerhallModel" "CallerhallModel" "pending" "LCallerhallModel$Call;"))
  | 28, _ => exact (ex_tt ex_q8 127 rfl rfl : ex_tW (Jvm.Cond.lays "CallerhallModel" "CallerhallModel" "pendingDone" "I"))
  | 29, _ => exact (ex_tt ex_q8 129 rfl rfl : ex_tW (Jvm.Cond.lays "CallerhallModel" "CallerhallModel" "pendingBeats" "I"))
  | 30, _ => exact (ex_tt ex_q8 131 rfl rfl : ex_tW (Jvm.Cond.lays "CallerhallModel" "CallerhallModel" "pendingFrom" "[I"))
  | 31, _ => exact (ex_tt ex_q8 133 rfl rfl : ex_tW (Jvm.Cond.lays "CallerhallModel" "CallerhallModel" "pendingTurned" "[I"))
  | 32, _ => exact (ex_tt ex_q8 135 rfl rfl : ex_tW (Jvm.Cond.lays "CallerhallModel" "CallerhallModel" "pendingHands" "[I"))
  | 33, _ => exact (ex_tt ex_q8 137 rfl rfl : ex_tW (Jvm.Cond.lays "CallerhallModel" "CallerhallModel" "runTurned" "[I"))
  | 34, _ => exact (ex_tt ex_q8 139 rfl rfl : ex_tW (Jvm.Cond.lays "CallerhallModel" "CallerhallModel" "firstHand" "[I"))
  | 35, _ => exact (ex_tt ex_q8 141 rfl rfl : ex_tW (Jvm.Cond.lays "CallerhallModel" "CallerhallModel" "handNow" "[I"))
  | 36, _ => exact (ex_tt ex_q8 143 rfl rfl : ex_tW (Jvm.Cond.lays "CallerhallModel" "CallerhallModel" "handCount" "[I"))
  | 37, _ => exact (ex_tt ex_q8 145 rfl rfl : ex_tW (Jvm.Cond.lays "CallerhallModel" "CallerhallModel" "runWhy" "C"))
  | 38, _ => exact (ex_tt ex_q8 147 rfl rfl : ex_tW (Jvm.Cond.lays "CallerhallModel" "CallerhallModel" "runWho" "I"))
  | 39, _ => exact (ex_tt ex_q8 149 rfl rfl : ex_tW (Jvm.Cond.lays "CallerhallModel" "CallerhallModel" "allSkilled" "Z"))
  | k + 40, h => omega
theorem cw_13 : ∀ w ∈ u_ws "CallerhallModel$Call" TF13 4, w ∈ ex_TT ex_Xc.2.2 := by
  intro w hw
  obtain ⟨k, hk, rfl⟩ := List.mem_map.mp hw
  have hk := List.mem_range.mp hk
  match k, hk with
  | 0, _ => exact (ex_tt ex_q9 187 rfl rfl : ex_tW (Jvm.Cond.laysFinal "CallerhallModel$Call" "CallerhallModel$Call" "letter" "C"))
  | 1, _ => exact (ex_tt ex_q9 189 rfl rfl : ex_tW (Jvm.Cond.laysFinal "CallerhallModel$Call" "CallerhallModel$Call" "concept" "C"))
  | 2, _ => exact (ex_tt ex_q9 191 rfl rfl : ex_tW (Jvm.Cond.laysFinal "CallerhallModel$Call" "CallerhallModel$Call" "acts" "Ljava/util/List;"))
  | 3, _ => exact (ex_tt ex_q9 193 rfl rfl : ex_tW (Jvm.Cond.lays "CallerhallModel$Call" "CallerhallModel$Call" "beats" "I"))
  | k + 4, h => omega
theorem cw_14 : ∀ w ∈ u_ws "CallerhallModel$Floor" TF14 13, w ∈ ex_TT ex_Xc.2.2 := by
  intro w hw
  obtain ⟨k, hk, rfl⟩ := List.mem_map.mp hw
  have hk := List.mem_range.mp hk
  match k, hk with
  | 0, _ => exact (ex_tt ex_q10 58 rfl rfl : ex_tW (Jvm.Cond.laysFinal "CallerhallModel$Floor" "CallerhallModel$Floor" "below" "LCallerhallModel$Floor;"))
  | 1, _ => exact (ex_tt ex_q10 60 rfl rfl : ex_tW (Jvm.Cond.laysFinal "CallerhallModel$Floor" "CallerhallModel$Floor" "many" "I"))
  | 2, _ => exact (ex_tt ex_q10 62 rfl rfl : ex_tW (Jvm.Cond.laysFinal "CallerhallModel$Floor" "CallerhallModel$Floor" "x" "[I"))
  | 3, _ => exact (ex_tt ex_q10 64 rfl rfl : ex_tW (Jvm.Cond.laysFinal "CallerhallModel$Floor" "CallerhallModel$Floor" "y" "[I"))
  | 4, _ => exact (ex_tt ex_q10 66 rfl rfl : ex_tW (Jvm.Cond.laysFinal "CallerhallModel$Floor" "CallerhallModel$Floor" "f" "[I"))
  | 5, _ => exact (ex_tt ex_q10 68 rfl rfl : ex_tW (Jvm.Cond.laysFinal "CallerhallModel$Floor" "CallerhallModel$Floor" "number" "[I"))
  | 6, _ => exact (ex_tt ex_q10 70 rfl rfl : ex_tW (Jvm.Cond.laysFinal "CallerhallModel$Floor" "CallerhallModel$Floor" "first" "[I"))
  | 7, _ => exact (ex_tt ex_q10 72 rfl rfl : ex_tW (Jvm.Cond.laysFinal "CallerhallModel$Floor" "CallerhallModel$Floor" "second" "[I"))
  | 8, _ => exact (ex_tt ex_q10 74 rfl rfl : ex_tW (Jvm.Cond.laysFinal "CallerhallModel$Floor" "CallerhallModel$Floor" "moved" "[Z"))
  | 9, _ => exact (ex_tt ex_q10 76 rfl rfl : ex_tW (Jvm.Cond.lays "CallerhallModel$Floor" "CallerhallModel$Floor" "sideX" "Z"))
  | 10, _ => exact (ex_tt ex_q10 78 rfl rfl : ex_tW (Jvm.Cond.lays "CallerhallModel$Floor" "CallerhallModel$Floor" "sideY" "Z"))
  | 11, _ => exact (ex_tt ex_q10 80 rfl rfl : ex_tW (Jvm.Cond.lays "CallerhallModel$Floor" "CallerhallModel$Floor" "spacing" "I"))
  | 12, _ => exact (ex_tt ex_q10 82 rfl rfl : ex_tW (Jvm.Cond.lays "CallerhallModel$Floor" "CallerhallModel$Floor" "kind" "C"))
  | k + 13, h => omega
theorem cw_15 : ∀ w ∈ u_ws "CallerhallModel$Version" TF15 3, w ∈ ex_TT ex_Xc.2.2 := by
  intro w hw
  obtain ⟨k, hk, rfl⟩ := List.mem_map.mp hw
  have hk := List.mem_range.mp hk
  match k, hk with
  | 0, _ => exact (ex_tt ex_q9 132 rfl rfl : ex_tW (Jvm.Cond.laysFinal "CallerhallModel$Version" "CallerhallModel$Version" "year" "I"))
  | 1, _ => exact (ex_tt ex_q9 134 rfl rfl : ex_tW (Jvm.Cond.laysFinal "CallerhallModel$Version" "CallerhallModel$Version" "acts" "Ljava/util/List;"))
  | 2, _ => exact (ex_tt ex_q9 136 rfl rfl : ex_tW (Jvm.Cond.lays "CallerhallModel$Version" "CallerhallModel$Version" "beats" "I"))
  | k + 3, h => omega
theorem cw_16 : ∀ w ∈ u_ws "java/util/ArrayList" TF16 3, w ∈ ex_TT ex_Xc.2.2 := by
  intro w hw
  obtain ⟨k, hk, rfl⟩ := List.mem_map.mp hw
  have hk := List.mem_range.mp hk
  match k, hk with
  | 0, _ => exact (ex_tt ex_q7 185 rfl rfl : ex_tW (Jvm.Cond.lays "java/util/ArrayList" "java/util/AbstractList" "modCount" "I"))
  | 1, _ => exact (ex_tt ex_q7 181 rfl rfl : ex_tW (Jvm.Cond.lays "java/util/ArrayList" "java/util/ArrayList" "elementData" "[Ljava/lang/Object;"))
  | 2, _ => exact (ex_tt ex_q7 183 rfl rfl : ex_tW (Jvm.Cond.lays "java/util/ArrayList" "java/util/ArrayList" "size" "I"))
  | k + 3, h => omega
theorem cw_17 : ∀ w ∈ u_ws "java/util/ArrayList$Itr" TF17 4, w ∈ ex_TT ex_Xc.2.2 := by
  intro w hw
  obtain ⟨k, hk, rfl⟩ := List.mem_map.mp hw
  have hk := List.mem_range.mp hk
  match k, hk with
  | 0, _ => exact (ex_tt ex_q9 25 rfl rfl : ex_tW (Jvm.Cond.lays "java/util/ArrayList$Itr" "java/util/ArrayList$Itr" "cursor" "I"))
  | 1, _ => exact (ex_tt ex_q9 27 rfl rfl : ex_tW (Jvm.Cond.lays "java/util/ArrayList$Itr" "java/util/ArrayList$Itr" "lastRet" "I"))
  | 2, _ => exact (ex_tt ex_q9 29 rfl rfl : ex_tW (Jvm.Cond.lays "java/util/ArrayList$Itr" "java/util/ArrayList$Itr" "expectedModCount" "I"))
  | 3, _ => exact (ex_tt ex_q9 31 rfl rfl : ex_tW (Jvm.Cond.laysFinal "java/util/ArrayList$Itr" "java/util/ArrayList$Itr" "this$0" "Ljava/util/ArrayList;"))
  | k + 4, h => omega
theorem cw_18 : ∀ w ∈ u_ws "java/lang/String" TF18 2, w ∈ ex_TT ex_Xc.2.2 := by
  intro w hw
  obtain ⟨k, hk, rfl⟩ := List.mem_map.mp hw
  have hk := List.mem_range.mp hk
  match k, hk with
  | 0, _ => exact (ex_tt ex_q5 58 rfl rfl : ex_tW (Jvm.Cond.laysFinal "java/lang/String" "java/lang/String" "value" "[B"))
  | 1, _ => exact (ex_tt ex_q5 60 rfl rfl : ex_tW (Jvm.Cond.laysFinal "java/lang/String" "java/lang/String" "coder" "B"))
  | k + 2, h => omega
theorem cw_19 : ∀ w ∈ u_ws "java/lang/Character" TF19 1, w ∈ ex_TT ex_Xc.2.2 := by
  intro w hw
  obtain ⟨k, hk, rfl⟩ := List.mem_map.mp hw
  have hk := List.mem_range.mp hk
  match k, hk with
  | 0, _ => exact (ex_tt ex_q10 203 rfl rfl : ex_tW (Jvm.Cond.laysFinal "java/lang/Character" "java/lang/Character" "value" "C"))
  | k + 1, h => omega
theorem ex_CWc : ex_CW ex_Xc := by
  refine ⟨fun k q hq => ?_, fun k q hq => ?_, fun kd h1 h2 => ?_⟩
  · match k, hq with
    | 0, hq => cases hq; exact cw_0
    | 1, hq => cases hq; exact cw_1
    | 2, hq => cases hq; exact cw_2
    | 3, hq => cases hq; exact cw_3
    | 4, hq => cases hq; exact cw_4
    | 5, hq => cases hq; exact cw_5
    | 6, hq => cases hq; exact cw_6
    | 7, hq => cases hq; exact cw_7
    | 8, hq => cases hq; exact cw_8
    | 9, hq => cases hq; exact cw_9
    | 10, hq => cases hq; exact cw_10
    | 11, hq => cases hq; exact cw_11
    | 12, hq => cases hq; exact cw_12
    | 13, hq => cases hq; exact cw_13
    | 14, hq => cases hq; exact cw_14
    | 15, hq => cases hq; exact cw_15
    | 16, hq => cases hq; exact cw_16
    | 17, hq => cases hq; exact cw_17
    | 18, hq => cases hq; exact cw_18
    | 19, hq => cases hq; exact cw_19
    | k + 20, hq => cases hq
  · match k, hq with
    | 0, hq => cases hq; exact ex_twn ex_q11 179 rfl rfl
    | 1, hq => cases hq; exact ex_twn ex_q11 180 rfl rfl
    | 2, hq => cases hq; exact ex_twn ex_q11 181 rfl rfl
    | 3, hq => cases hq; exact ex_twn ex_q11 182 rfl rfl
    | 4, hq => cases hq; exact ex_twn ex_q11 183 rfl rfl
    | 5, hq => cases hq; exact ex_twn ex_q11 184 rfl rfl
    | 6, hq => cases hq; exact ex_twn ex_q11 185 rfl rfl
    | 7, hq => cases hq; exact ex_twn ex_q11 186 rfl rfl
    | 8, hq => cases hq; exact ex_twn ex_q11 187 rfl rfl
    | 9, hq => cases hq; exact ex_twn ex_q11 188 rfl rfl
    | 10, hq => cases hq; exact ex_twn ex_q11 189 rfl rfl
    | 11, hq => cases hq; exact ex_twn ex_q11 190 rfl rfl
    | 12, hq => cases hq; exact ex_twn ex_q11 191 rfl rfl
    | 13, hq => cases hq; exact ex_twn ex_q11 201 rfl rfl
    | 14, hq => cases hq; exact ex_twn ex_q11 202 rfl rfl
    | 15, hq => cases hq; exact ex_twn ex_q11 200 rfl rfl
    | 16, hq => cases hq; exact ex_twn ex_q11 192 rfl rfl
    | 17, hq => cases hq; exact ex_twn ex_q11 199 rfl rfl
    | 18, hq => cases hq; exact ex_twn ex_q11 205 rfl rfl
    | 19, hq => cases hq; exact ex_twn ex_q11 178 rfl rfl
    | k + 20, hq => cases hq
  · have : kd = 64 ∨ kd = 65 ∨ kd = 66 ∨ kd = 67 ∨ kd = 68 ∨ kd = 69 ∨ kd = 70 ∨ kd = 71 := by omega
    rcases this with rfl | rfl | rfl | rfl | rfl | rfl | rfl | rfl
    · exact (ex_twn ex_q11 209 rfl rfl : (Cond.castable "[I" "java/lang/Object") ∈ ex_TN)
    · exact (ex_twn ex_q11 210 rfl rfl : (Cond.castable "[Z" "java/lang/Object") ∈ ex_TN)
    · exact (ex_twn ex_q11 212 rfl rfl : (Cond.castable "[C" "java/lang/Object") ∈ ex_TN)
    · exact (ex_twn ex_q11 215 rfl rfl : (Cond.castable "[J" "java/lang/Object") ∈ ex_TN)
    · exact (ex_twn ex_q11 216 rfl rfl : (Cond.castable "[D" "java/lang/Object") ∈ ex_TN)
    · exact (ex_twn ex_q11 213 rfl rfl : (Cond.castable "[B" "java/lang/Object") ∈ ex_TN)
    · exact (ex_twn ex_q11 214 rfl rfl : (Cond.castable "[Ljava/lang/Object;" "java/lang/Object") ∈ ex_TN)
    · exact (ex_twn ex_q11 211 rfl rfl : (Cond.castable "[[I" "java/lang/Object") ∈ ex_TN)
theorem ct9_0 : ex_cN 0 = 19 ∧ 19 < 64 ∧ (∀ j, j < 19 → parseFieldDescriptor (TF0 j).2.2.1 = some (ex_tys ("Callerhall", TF0, 19) j)) ∧ ex_cB 0 < 2 ^ (40 * (19 + 1)) ∧ ex_get (ex_cB 0) 0 = 0 + 256 * 19 ∧ (∀ j, j < 19 → ex_get (ex_cB 0) (j + 1) = ex_dv (ex_tys ("Callerhall", TF0, 19) j)) ∧ (∀ a, a < 19 → ∀ b, b < 19 → a ≠ b → (TF0 a).2.1 ≠ (TF0 b).2.1) := by
  refine ⟨by decide +kernel, by decide, by decide +kernel, by decide +kernel, by decide +kernel, by decide +kernel, by decide +kernel⟩
theorem ct9_1 : ex_cN 1 = 4 ∧ 4 < 64 ∧ (∀ j, j < 4 → parseFieldDescriptor (TF1 j).2.2.1 = some (ex_tys ("Callerhall$Places", TF1, 4) j)) ∧ ex_cB 1 < 2 ^ (40 * (4 + 1)) ∧ ex_get (ex_cB 1) 0 = 1 + 256 * 4 ∧ (∀ j, j < 4 → ex_get (ex_cB 1) (j + 1) = ex_dv (ex_tys ("Callerhall$Places", TF1, 4) j)) ∧ (∀ a, a < 4 → ∀ b, b < 4 → a ≠ b → (TF1 a).2.1 ≠ (TF1 b).2.1) := by
  refine ⟨by decide +kernel, by decide, by decide +kernel, by decide +kernel, by decide +kernel, by decide +kernel, by decide +kernel⟩
theorem ct9_2 : ex_cN 2 = 8 ∧ 8 < 64 ∧ (∀ j, j < 8 → parseFieldDescriptor (TF2 j).2.2.1 = some (ex_tys ("Callerhall$Stage", TF2, 8) j)) ∧ ex_cB 2 < 2 ^ (40 * (8 + 1)) ∧ ex_get (ex_cB 2) 0 = 2 + 256 * 8 ∧ (∀ j, j < 8 → ex_get (ex_cB 2) (j + 1) = ex_dv (ex_tys ("Callerhall$Stage", TF2, 8) j)) ∧ (∀ a, a < 8 → ∀ b, b < 8 → a ≠ b → (TF2 a).2.1 ≠ (TF2 b).2.1) := by
  refine ⟨by decide +kernel, by decide, by decide +kernel, by decide +kernel, by decide +kernel, by decide +kernel, by decide +kernel⟩
theorem ct9_3 : ex_cN 3 = 16 ∧ 16 < 64 ∧ (∀ j, j < 16 → parseFieldDescriptor (TF3 j).2.2.1 = some (ex_tys ("Callerhall$Floor", TF3, 16) j)) ∧ ex_cB 3 < 2 ^ (40 * (16 + 1)) ∧ ex_get (ex_cB 3) 0 = 3 + 256 * 16 ∧ (∀ j, j < 16 → ex_get (ex_cB 3) (j + 1) = ex_dv (ex_tys ("Callerhall$Floor", TF3, 16) j)) ∧ (∀ a, a < 16 → ∀ b, b < 16 → a ≠ b → (TF3 a).2.1 ≠ (TF3 b).2.1) := by
  refine ⟨by decide +kernel, by decide, by decide +kernel, by decide +kernel, by decide +kernel, by decide +kernel, by decide +kernel⟩
theorem ct9_4 : ex_cN 4 = 12 ∧ 12 < 64 ∧ (∀ j, j < 12 → parseFieldDescriptor (TF4 j).2.2.1 = some (ex_tys ("Callerhall$Steps", TF4, 12) j)) ∧ ex_cB 4 < 2 ^ (40 * (12 + 1)) ∧ ex_get (ex_cB 4) 0 = 4 + 256 * 12 ∧ (∀ j, j < 12 → ex_get (ex_cB 4) (j + 1) = ex_dv (ex_tys ("Callerhall$Steps", TF4, 12) j)) ∧ (∀ a, a < 12 → ∀ b, b < 12 → a ≠ b → (TF4 a).2.1 ≠ (TF4 b).2.1) := by
  refine ⟨by decide +kernel, by decide, by decide +kernel, by decide +kernel, by decide +kernel, by decide +kernel, by decide +kernel⟩
theorem ct9_5 : ex_cN 5 = 7 ∧ 7 < 64 ∧ (∀ j, j < 7 → parseFieldDescriptor (TF5 j).2.2.1 = some (ex_tys ("Callerhall$Book", TF5, 7) j)) ∧ ex_cB 5 < 2 ^ (40 * (7 + 1)) ∧ ex_get (ex_cB 5) 0 = 5 + 256 * 7 ∧ (∀ j, j < 7 → ex_get (ex_cB 5) (j + 1) = ex_dv (ex_tys ("Callerhall$Book", TF5, 7) j)) ∧ (∀ a, a < 7 → ∀ b, b < 7 → a ≠ b → (TF5 a).2.1 ≠ (TF5 b).2.1) := by
  refine ⟨by decide +kernel, by decide, by decide +kernel, by decide +kernel, by decide +kernel, by decide +kernel, by decide +kernel⟩
theorem ct9_6 : ex_cN 6 = 9 ∧ 9 < 64 ∧ (∀ j, j < 9 → parseFieldDescriptor (TF6 j).2.2.1 = some (ex_tys ("Callerhall$Plan", TF6, 9) j)) ∧ ex_cB 6 < 2 ^ (40 * (9 + 1)) ∧ ex_get (ex_cB 6) 0 = 6 + 256 * 9 ∧ (∀ j, j < 9 → ex_get (ex_cB 6) (j + 1) = ex_dv (ex_tys ("Callerhall$Plan", TF6, 9) j)) ∧ (∀ a, a < 9 → ∀ b, b < 9 → a ≠ b → (TF6 a).2.1 ≠ (TF6 b).2.1) := by
  refine ⟨by decide +kernel, by decide, by decide +kernel, by decide +kernel, by decide +kernel, by decide +kernel, by decide +kernel⟩
theorem ct9_7 : ex_cN 7 = 4 ∧ 4 < 64 ∧ (∀ j, j < 4 → parseFieldDescriptor (TF7 j).2.2.1 = some (ex_tys ("Callerhall$Past", TF7, 4) j)) ∧ ex_cB 7 < 2 ^ (40 * (4 + 1)) ∧ ex_get (ex_cB 7) 0 = 7 + 256 * 4 ∧ (∀ j, j < 4 → ex_get (ex_cB 7) (j + 1) = ex_dv (ex_tys ("Callerhall$Past", TF7, 4) j)) ∧ (∀ a, a < 4 → ∀ b, b < 4 → a ≠ b → (TF7 a).2.1 ≠ (TF7 b).2.1) := by
  refine ⟨by decide +kernel, by decide, by decide +kernel, by decide +kernel, by decide +kernel, by decide +kernel, by decide +kernel⟩
theorem ct9_8 : ex_cN 8 = 5 ∧ 5 < 64 ∧ (∀ j, j < 5 → parseFieldDescriptor (TF8 j).2.2.1 = some (ex_tys ("Callerhall$Flow", TF8, 5) j)) ∧ ex_cB 8 < 2 ^ (40 * (5 + 1)) ∧ ex_get (ex_cB 8) 0 = 8 + 256 * 5 ∧ (∀ j, j < 5 → ex_get (ex_cB 8) (j + 1) = ex_dv (ex_tys ("Callerhall$Flow", TF8, 5) j)) ∧ (∀ a, a < 5 → ∀ b, b < 5 → a ≠ b → (TF8 a).2.1 ≠ (TF8 b).2.1) := by
  refine ⟨by decide +kernel, by decide, by decide +kernel, by decide +kernel, by decide +kernel, by decide +kernel, by decide +kernel⟩
theorem ct9_9 : ex_cN 9 = 4 ∧ 4 < 64 ∧ (∀ j, j < 4 → parseFieldDescriptor (TF9 j).2.2.1 = some (ex_tys ("Callerhall$Song", TF9, 4) j)) ∧ ex_cB 9 < 2 ^ (40 * (4 + 1)) ∧ ex_get (ex_cB 9) 0 = 9 + 256 * 4 ∧ (∀ j, j < 4 → ex_get (ex_cB 9) (j + 1) = ex_dv (ex_tys ("Callerhall$Song", TF9, 4) j)) ∧ (∀ a, a < 4 → ∀ b, b < 4 → a ≠ b → (TF9 a).2.1 ≠ (TF9 b).2.1) := by
  refine ⟨by decide +kernel, by decide, by decide +kernel, by decide +kernel, by decide +kernel, by decide +kernel, by decide +kernel⟩
theorem ct9_10 : ex_cN 10 = 5 ∧ 5 < 64 ∧ (∀ j, j < 5 → parseFieldDescriptor (TF10 j).2.2.1 = some (ex_tys ("Callerhall$Party", TF10, 5) j)) ∧ ex_cB 10 < 2 ^ (40 * (5 + 1)) ∧ ex_get (ex_cB 10) 0 = 10 + 256 * 5 ∧ (∀ j, j < 5 → ex_get (ex_cB 10) (j + 1) = ex_dv (ex_tys ("Callerhall$Party", TF10, 5) j)) ∧ (∀ a, a < 5 → ∀ b, b < 5 → a ≠ b → (TF10 a).2.1 ≠ (TF10 b).2.1) := by
  refine ⟨by decide +kernel, by decide, by decide +kernel, by decide +kernel, by decide +kernel, by decide +kernel, by decide +kernel⟩
theorem ct9_11 : ex_cN 11 = 4 ∧ 4 < 64 ∧ (∀ j, j < 4 → parseFieldDescriptor (TF11 j).2.2.1 = some (ex_tys ("Callerhall$Tally", TF11, 4) j)) ∧ ex_cB 11 < 2 ^ (40 * (4 + 1)) ∧ ex_get (ex_cB 11) 0 = 11 + 256 * 4 ∧ (∀ j, j < 4 → ex_get (ex_cB 11) (j + 1) = ex_dv (ex_tys ("Callerhall$Tally", TF11, 4) j)) ∧ (∀ a, a < 4 → ∀ b, b < 4 → a ≠ b → (TF11 a).2.1 ≠ (TF11 b).2.1) := by
  refine ⟨by decide +kernel, by decide, by decide +kernel, by decide +kernel, by decide +kernel, by decide +kernel, by decide +kernel⟩
theorem ct9_12 : ex_cN 12 = 40 ∧ 40 < 64 ∧ (∀ j, j < 40 → parseFieldDescriptor (TF12 j).2.2.1 = some (ex_tys ("CallerhallModel", TF12, 40) j)) ∧ ex_cB 12 < 2 ^ (40 * (40 + 1)) ∧ ex_get (ex_cB 12) 0 = 12 + 256 * 40 ∧ (∀ j, j < 40 → ex_get (ex_cB 12) (j + 1) = ex_dv (ex_tys ("CallerhallModel", TF12, 40) j)) ∧ (∀ a, a < 40 → ∀ b, b < 40 → a ≠ b → (TF12 a).2.1 ≠ (TF12 b).2.1) := by
  refine ⟨by decide +kernel, by decide, by decide +kernel, by decide +kernel, by decide +kernel, by decide +kernel, by decide +kernel⟩
theorem ct9_13 : ex_cN 13 = 4 ∧ 4 < 64 ∧ (∀ j, j < 4 → parseFieldDescriptor (TF13 j).2.2.1 = some (ex_tys ("CallerhallModel$Call", TF13, 4) j)) ∧ ex_cB 13 < 2 ^ (40 * (4 + 1)) ∧ ex_get (ex_cB 13) 0 = 13 + 256 * 4 ∧ (∀ j, j < 4 → ex_get (ex_cB 13) (j + 1) = ex_dv (ex_tys ("CallerhallModel$Call", TF13, 4) j)) ∧ (∀ a, a < 4 → ∀ b, b < 4 → a ≠ b → (TF13 a).2.1 ≠ (TF13 b).2.1) := by
  refine ⟨by decide +kernel, by decide, by decide +kernel, by decide +kernel, by decide +kernel, by decide +kernel, by decide +kernel⟩
theorem ct9_14 : ex_cN 14 = 13 ∧ 13 < 64 ∧ (∀ j, j < 13 → parseFieldDescriptor (TF14 j).2.2.1 = some (ex_tys ("CallerhallModel$Floor", TF14, 13) j)) ∧ ex_cB 14 < 2 ^ (40 * (13 + 1)) ∧ ex_get (ex_cB 14) 0 = 14 + 256 * 13 ∧ (∀ j, j < 13 → ex_get (ex_cB 14) (j + 1) = ex_dv (ex_tys ("CallerhallModel$Floor", TF14, 13) j)) ∧ (∀ a, a < 13 → ∀ b, b < 13 → a ≠ b → (TF14 a).2.1 ≠ (TF14 b).2.1) := by
  refine ⟨by decide +kernel, by decide, by decide +kernel, by decide +kernel, by decide +kernel, by decide +kernel, by decide +kernel⟩
theorem ct9_15 : ex_cN 15 = 3 ∧ 3 < 64 ∧ (∀ j, j < 3 → parseFieldDescriptor (TF15 j).2.2.1 = some (ex_tys ("CallerhallModel$Version", TF15, 3) j)) ∧ ex_cB 15 < 2 ^ (40 * (3 + 1)) ∧ ex_get (ex_cB 15) 0 = 15 + 256 * 3 ∧ (∀ j, j < 3 → ex_get (ex_cB 15) (j + 1) = ex_dv (ex_tys ("CallerhallModel$Version", TF15, 3) j)) ∧ (∀ a, a < 3 → ∀ b, b < 3 → a ≠ b → (TF15 a).2.1 ≠ (TF15 b).2.1) := by
  refine ⟨by decide +kernel, by decide, by decide +kernel, by decide +kernel, by decide +kernel, by decide +kernel, by decide +kernel⟩
theorem ct9_16 : ex_cN 16 = 3 ∧ 3 < 64 ∧ (∀ j, j < 3 → parseFieldDescriptor (TF16 j).2.2.1 = some (ex_tys ("java/util/ArrayList", TF16, 3) j)) ∧ ex_cB 16 < 2 ^ (40 * (3 + 1)) ∧ ex_get (ex_cB 16) 0 = 16 + 256 * 3 ∧ (∀ j, j < 3 → ex_get (ex_cB 16) (j + 1) = ex_dv (ex_tys ("java/util/ArrayList", TF16, 3) j)) ∧ (∀ a, a < 3 → ∀ b, b < 3 → a ≠ b → (TF16 a).2.1 ≠ (TF16 b).2.1) := by
  refine ⟨by decide +kernel, by decide, by decide +kernel, by decide +kernel, by decide +kernel, by decide +kernel, by decide +kernel⟩
theorem ct9_17 : ex_cN 17 = 4 ∧ 4 < 64 ∧ (∀ j, j < 4 → parseFieldDescriptor (TF17 j).2.2.1 = some (ex_tys ("java/util/ArrayList$Itr", TF17, 4) j)) ∧ ex_cB 17 < 2 ^ (40 * (4 + 1)) ∧ ex_get (ex_cB 17) 0 = 17 + 256 * 4 ∧ (∀ j, j < 4 → ex_get (ex_cB 17) (j + 1) = ex_dv (ex_tys ("java/util/ArrayList$Itr", TF17, 4) j)) ∧ (∀ a, a < 4 → ∀ b, b < 4 → a ≠ b → (TF17 a).2.1 ≠ (TF17 b).2.1) := by
  refine ⟨by decide +kernel, by decide, by decide +kernel, by decide +kernel, by decide +kernel, by decide +kernel, by decide +kernel⟩
theorem ct9_18 : ex_cN 18 = 2 ∧ 2 < 64 ∧ (∀ j, j < 2 → parseFieldDescriptor (TF18 j).2.2.1 = some (ex_tys ("java/lang/String", TF18, 2) j)) ∧ ex_cB 18 < 2 ^ (40 * (2 + 1)) ∧ ex_get (ex_cB 18) 0 = 18 + 256 * 2 ∧ (∀ j, j < 2 → ex_get (ex_cB 18) (j + 1) = ex_dv (ex_tys ("java/lang/String", TF18, 2) j)) ∧ (∀ a, a < 2 → ∀ b, b < 2 → a ≠ b → (TF18 a).2.1 ≠ (TF18 b).2.1) := by
  refine ⟨by decide +kernel, by decide, by decide +kernel, by decide +kernel, by decide +kernel, by decide +kernel, by decide +kernel⟩
theorem ct9_19 : ex_cN 19 = 1 ∧ 1 < 64 ∧ (∀ j, j < 1 → parseFieldDescriptor (TF19 j).2.2.1 = some (ex_tys ("java/lang/Character", TF19, 1) j)) ∧ ex_cB 19 < 2 ^ (40 * (1 + 1)) ∧ ex_get (ex_cB 19) 0 = 19 + 256 * 1 ∧ (∀ j, j < 1 → ex_get (ex_cB 19) (j + 1) = ex_dv (ex_tys ("java/lang/Character", TF19, 1) j)) ∧ (∀ a, a < 1 → ∀ b, b < 1 → a ≠ b → (TF19 a).2.1 ≠ (TF19 b).2.1) := by
  refine ⟨by decide +kernel, by decide, by decide +kernel, by decide +kernel, by decide +kernel, by decide +kernel, by decide +kernel⟩
theorem ex_CTc : ex_CT := by
  intro k r hr hk
  match k, hr with
  | 0, hr => cases hr; exact ct9_0
  | 1, hr => cases hr; exact ct9_1
  | 2, hr => cases hr; exact ct9_2
  | 3, hr => cases hr; exact ct9_3
  | 4, hr => cases hr; exact ct9_4
  | 5, hr => cases hr; exact ct9_5
  | 6, hr => cases hr; exact ct9_6
  | 7, hr => cases hr; exact ct9_7
  | 8, hr => cases hr; exact ct9_8
  | 9, hr => cases hr; exact ct9_9
  | 10, hr => cases hr; exact ct9_10
  | 11, hr => cases hr; exact ct9_11
  | 12, hr => cases hr; exact ct9_12
  | 13, hr => cases hr; exact ct9_13
  | 14, hr => cases hr; exact ct9_14
  | 15, hr => cases hr; exact ct9_15
  | 16, hr => cases hr; exact ct9_16
  | 17, hr => cases hr; exact ct9_17
  | 18, hr => cases hr; exact ct9_18
  | 19, hr => cases hr; exact ct9_19
  | k + 20, hr => cases hr
end
