/-! what the store's words say of the machine's cells -/
def TF0 : u_T := fun k => match k with
  | 0 => ("Callerhall", "dancers", "LCallerhall$Places;", true)
  | 1 => ("Callerhall", "phantoms", "LCallerhall$Places;", true)
  | 2 => ("Callerhall", "trial", "LCallerhall$Places;", true)
  | 3 => ("Callerhall", "skills", "[I", true)
  | 4 => ("Callerhall", "experts", "[I", true)
  | 5 => ("Callerhall", "stage", "LCallerhall$Stage;", true)
  | 6 => ("Callerhall", "book", "LCallerhall$Book;", true)
  | 7 => ("Callerhall", "plan", "LCallerhall$Plan;", true)
  | 8 => ("Callerhall", "rest", "LCallerhall$Plan;", true)
  | 9 => ("Callerhall", "past", "LCallerhall$Past;", true)
  | 10 => ("Callerhall", "flow", "LCallerhall$Flow;", true)
  | 11 => ("Callerhall", "song", "LCallerhall$Song;", true)
  | 12 => ("Callerhall", "party", "LCallerhall$Party;", true)
  | 13 => ("Callerhall", "tally", "LCallerhall$Tally;", true)
  | 14 => ("Callerhall", "turnsAhead", "[I", true)
  | 15 => ("Callerhall", "way", "[I", true)
  | 16 => ("Callerhall", "wayLength", "I", false)
  | 17 => ("Callerhall", "levelTold", "I", false)
  | _ => ("Callerhall", "yearTold", "I", false)
def TF1 : u_T := fun k => match k with
  | 0 => ("Callerhall$Places", "x", "[I", true)
  | 1 => ("Callerhall$Places", "y", "[I", true)
  | 2 => ("Callerhall$Places", "f", "[I", true)
  | _ => ("Callerhall$Places", "count", "I", false)
def TF2 : u_T := fun k => match k with
  | 0 => ("Callerhall$Stage", "ground", "LCallerhall$Floor;", true)
  | 1 => ("Callerhall$Stage", "middle", "LCallerhall$Floor;", true)
  | 2 => ("Callerhall$Stage", "top", "LCallerhall$Floor;", true)
  | 3 => ("Callerhall$Stage", "steps", "LCallerhall$Steps;", true)
  | 4 => ("Callerhall$Stage", "phantoms", "LCallerhall$Places;", true)
  | 5 => ("Callerhall$Stage", "depth", "I", false)
  | 6 => ("Callerhall$Stage", "reason", "C", false)
  | _ => ("Callerhall$Stage", "culprit", "I", false)
def TF3 : u_T := fun k => match k with
  | 0 => ("Callerhall$Floor", "x", "[I", true)
  | 1 => ("Callerhall$Floor", "y", "[I", true)
  | 2 => ("Callerhall$Floor", "f", "[I", true)
  | 3 => ("Callerhall$Floor", "number", "[I", true)
  | 4 => ("Callerhall$Floor", "ability", "[I", true)
  | 5 => ("Callerhall$Floor", "groups", "[I", true)
  | 6 => ("Callerhall$Floor", "wasX", "[I", true)
  | 7 => ("Callerhall$Floor", "wasY", "[I", true)
  | 8 => ("Callerhall$Floor", "turns", "[I", true)
  | 9 => ("Callerhall$Floor", "firstHand", "[I", true)
  | 10 => ("Callerhall$Floor", "lastHand", "[I", true)
  | 11 => ("Callerhall$Floor", "lead", "[I", true)
  | 12 => ("Callerhall$Floor", "trail", "[I", true)
  | 13 => ("Callerhall$Floor", "passing", "[Z", true)
  | 14 => ("Callerhall$Floor", "count", "I", false)
  | _ => ("Callerhall$Floor", "isCounting", "Z", false)
def TF4 : u_T := fun k => match k with
  | 0 => ("Callerhall$Steps", "told", "[Z", true)
  | 1 => ("Callerhall$Steps", "isDancing", "[Z", true)
  | 2 => ("Callerhall$Steps", "order", "[I", true)
  | 3 => ("Callerhall$Steps", "zone", "[I", true)
  | 4 => ("Callerhall$Steps", "mate", "[I", true)
  | 5 => ("Callerhall$Steps", "kind", "[I", true)
  | 6 => ("Callerhall$Steps", "isBoxed", "[Z", true)
  | 7 => ("Callerhall$Steps", "boxX", "[I", true)
  | 8 => ("Callerhall$Steps", "boxY", "[I", true)
  | 9 => ("Callerhall$Steps", "spacing", "I", false)
  | 10 => ("Callerhall$Steps", "isPartedByX", "Z", false)
  | _ => ("Callerhall$Steps", "isPartedByY", "Z", false)
def TF5 : u_T := fun k => match k with
  | 0 => ("Callerhall$Book", "versions", "[I", true)
  | 1 => ("Callerhall$Book", "years", "[I", true)
  | 2 => ("Callerhall$Book", "actCounts", "[I", true)
  | 3 => ("Callerhall$Book", "beatsTold", "[I", true)
  | 4 => ("Callerhall$Book", "acts", "[[I", true)
  | 5 => ("Callerhall$Book", "whos", "[[I", true)
  | _ => ("Callerhall$Book", "concepts", "[[I", true)
def TF6 : u_T := fun k => match k with
  | 0 => ("Callerhall$Plan", "acts", "[I", true)
  | 1 => ("Callerhall$Plan", "whos", "[I", true)
  | 2 => ("Callerhall$Plan", "concepts", "[I", true)
  | 3 => ("Callerhall$Plan", "actCount", "I", false)
  | 4 => ("Callerhall$Plan", "concept", "I", false)
  | 5 => ("Callerhall$Plan", "partCount", "I", false)
  | 6 => ("Callerhall$Plan", "beatCount", "I", false)
  | 7 => ("Callerhall$Plan", "highest", "I", false)
  | _ => ("Callerhall$Plan", "done", "I", false)
def TF7 : u_T := fun k => match k with
  | 0 => ("Callerhall$Past", "rows", "[[I", true)
  | 1 => ("Callerhall$Past", "letters", "[C", true)
  | 2 => ("Callerhall$Past", "newest", "I", false)
  | _ => ("Callerhall$Past", "size", "I", false)
def TF8 : u_T := fun k => match k with
  | 0 => ("Callerhall$Flow", "lastTurns", "[I", true)
  | 1 => ("Callerhall$Flow", "flowing", "[I", true)
  | 2 => ("Callerhall$Flow", "hands", "[I", true)
  | 3 => ("Callerhall$Flow", "breaks", "I", false)
  | _ => ("Callerhall$Flow", "clashCount", "I", false)
def TF9 : u_T := fun k => match k with
  | 0 => ("Callerhall$Song", "figure", "I", false)
  | 1 => ("Callerhall$Song", "done", "I", false)
  | 2 => ("Callerhall$Song", "rightsGone", "I", false)
  | _ => ("Callerhall$Song", "doneInAll", "J", false)
def TF10 : u_T := fun k => match k with
  | 0 => ("Callerhall$Party", "sets", "[[I", true)
  | 1 => ("Callerhall$Party", "meetings", "[[I", true)
  | 2 => ("Callerhall$Party", "tipsDanced", "[I", true)
  | 3 => ("Callerhall$Party", "couples", "I", false)
  | _ => ("Callerhall$Party", "tips", "I", false)
def TF11 : u_T := fun k => match k with
  | 0 => ("Callerhall$Tally", "tried", "I", false)
  | 1 => ("Callerhall$Tally", "danced", "I", false)
  | 2 => ("Callerhall$Tally", "reason", "C", false)
  | _ => ("Callerhall$Tally", "culprit", "I", false)
def TF12 : u_T := fun k => match k with
  | 0 => ("CallerhallModel", "px", "[I", true)
  | 1 => ("CallerhallModel", "py", "[I", true)
  | 2 => ("CallerhallModel", "pf", "[I", true)
  | 3 => ("CallerhallModel", "skill", "[I", true)
  | 4 => ("CallerhallModel", "phantoms", "Ljava/util/List;", true)
  | 5 => ("CallerhallModel", "past", "Ljava/util/List;", true)
  | 6 => ("CallerhallModel", "tips", "Ljava/util/List;", true)
  | 7 => ("CallerhallModel", "letters", "Ljava/util/List;", true)
  | 8 => ("CallerhallModel", "way", "Ljava/util/List;", true)
  | 9 => ("CallerhallModel", "defined", "Ljava/util/List;", true)
  | 10 => ("CallerhallModel", "turned", "[I", true)
  | 11 => ("CallerhallModel", "lastTurn", "[I", true)
  | 12 => ("CallerhallModel", "lastHand", "[I", true)
  | 13 => ("CallerhallModel", "thrown", "I", false)
  | 14 => ("CallerhallModel", "level", "I", false)
  | 15 => ("CallerhallModel", "year", "I", false)
  | 16 => ("CallerhallModel", "gone", "I", false)
  | 17 => ("CallerhallModel", "who", "I", false)
  | 18 => ("CallerhallModel", "tried", "I", false)
  | 19 => ("CallerhallModel", "done", "I", false)
  | 20 => ("CallerhallModel", "couples", "I", false)
  | 21 => ("CallerhallModel", "target", "I", false)
  | 22 => ("CallerhallModel", "figure", "I", false)
  | 23 => ("CallerhallModel", "broken", "I", false)
  | 24 => ("CallerhallModel", "clashes", "I", false)
  | 25 => ("CallerhallModel", "beats", "J", false)
  | 26 => ("CallerhallModel", "why", "C", false)
  | 27 => ("CallerhallModel", "pending", "LCallerhallModel$Call;", false)
  | 28 => ("CallerhallModel", "pendingDone", "I", false)
  | 29 => ("CallerhallModel", "pendingBeats", "I", false)
  | 30 => ("CallerhallModel", "pendingFrom", "[I", false)
  | 31 => ("CallerhallModel", "pendingTurned", "[I", false)
  | 32 => ("CallerhallModel", "pendingHands", "[I", false)
  | 33 => ("CallerhallModel", "runTurned", "[I", false)
  | 34 => ("CallerhallModel", "firstHand", "[I", false)
  | 35 => ("CallerhallModel", "handNow", "[I", false)
  | 36 => ("CallerhallModel", "handCount", "[I", false)
  | 37 => ("CallerhallModel", "runWhy", "C", false)
  | 38 => ("CallerhallModel", "runWho", "I", false)
  | _ => ("CallerhallModel", "allSkilled", "Z", false)
def TF13 : u_T := fun k => match k with
  | 0 => ("CallerhallModel$Call", "letter", "C", true)
  | 1 => ("CallerhallModel$Call", "concept", "C", true)
  | 2 => ("CallerhallModel$Call", "acts", "Ljava/util/List;", true)
  | _ => ("CallerhallModel$Call", "beats", "I", false)
def TF14 : u_T := fun k => match k with
  | 0 => ("CallerhallModel$Floor", "below", "LCallerhallModel$Floor;", true)
  | 1 => ("CallerhallModel$Floor", "many", "I", true)
  | 2 => ("CallerhallModel$Floor", "x", "[I", true)
  | 3 => ("CallerhallModel$Floor", "y", "[I", true)
  | 4 => ("CallerhallModel$Floor", "f", "[I", true)
  | 5 => ("CallerhallModel$Floor", "number", "[I", true)
  | 6 => ("CallerhallModel$Floor", "first", "[I", true)
  | 7 => ("CallerhallModel$Floor", "second", "[I", true)
  | 8 => ("CallerhallModel$Floor", "moved", "[Z", true)
  | 9 => ("CallerhallModel$Floor", "sideX", "Z", false)
  | 10 => ("CallerhallModel$Floor", "sideY", "Z", false)
  | 11 => ("CallerhallModel$Floor", "spacing", "I", false)
  | _ => ("CallerhallModel$Floor", "kind", "C", false)
def TF15 : u_T := fun k => match k with
  | 0 => ("CallerhallModel$Version", "year", "I", true)
  | 1 => ("CallerhallModel$Version", "acts", "Ljava/util/List;", true)
  | _ => ("CallerhallModel$Version", "beats", "I", false)
def TF16 : u_T := fun k => match k with
  | 0 => ("java/util/AbstractList", "modCount", "I", false)
  | 1 => ("java/util/ArrayList", "elementData", "[Ljava/lang/Object;", false)
  | _ => ("java/util/ArrayList", "size", "I", false)
def TF17 : u_T := fun k => match k with
  | 0 => ("java/util/ArrayList$Itr", "cursor", "I", false)
  | 1 => ("java/util/ArrayList$Itr", "lastRet", "I", false)
  | 2 => ("java/util/ArrayList$Itr", "expectedModCount", "I", false)
  | _ => ("java/util/ArrayList$Itr", "this$0", "Ljava/util/ArrayList;", true)
def TF18 : u_T := fun k => match k with
  | 0 => ("java/lang/String", "value", "[B", true)
  | _ => ("java/lang/String", "coder", "B", true)
def TF19 : u_T := fun k => match k with
  | _ => ("java/lang/Character", "value", "C", true)
/-- the classes whose cells a run makes or reads -/
def ex_cl : List vw_C := [("Callerhall", TF0, 19), ("Callerhall$Places", TF1, 4), ("Callerhall$Stage", TF2, 8), ("Callerhall$Floor", TF3, 16), ("Callerhall$Steps", TF4, 12), ("Callerhall$Book", TF5, 7), ("Callerhall$Plan", TF6, 9), ("Callerhall$Past", TF7, 4), ("Callerhall$Flow", TF8, 5), ("Callerhall$Song", TF9, 4), ("Callerhall$Party", TF10, 5), ("Callerhall$Tally", TF11, 4), ("CallerhallModel", TF12, 40), ("CallerhallModel$Call", TF13, 4), ("CallerhallModel$Floor", TF14, 13), ("CallerhallModel$Version", TF15, 3), ("java/util/ArrayList", TF16, 3), ("java/util/ArrayList$Itr", TF17, 4), ("java/lang/String", TF18, 2), ("java/lang/Character", TF19, 1)]
/-- classes and slots; the rows' classes; cells that stood before; the variables -/
abbrev ex_G : Type := va_G × (Nat → ClassId) × (Nat → Value) × (Nat → Int32)
/-- a code's value; ad: the address of the cell whose head is that word -/
def ex_v (E : ex_G) (ad : Nat → Nat) (c : Nat) : Value :=
  if c < 4294967296 then .int (nI c) else if c = 4294967296 then .null else if c < 8589934592 then .int (E.2.2.2 (c - 4294967297))
  else if c < 17179869184 then .ref (ad (c - 8589934592)) else if c < 34359738368 then E.2.2.1 (c - 17179869184)
  else if c = 34359738368 then .float 0 else if c = 34359738369 then .double 0 else if c = 34359738370 then .double 4620693217682128896
  else if 68719476736 ≤ c ∧ c ≤ 68719542271 then .long (E.2.2.2 (c - 68719476736)).toInt64
  else if 274877906944 ≤ c ∧ c ≤ 549755813887 then .long (Int64.ofInt ((c : Int) - 412316860416)) else .null
def ex_kd (M w : Nat) : Nat := ex_get M w % 256
def ex_n (M w : Nat) : Nat := ex_get M w / 256
/-- a code that is a made cell's is one of those that are there -/
def ex_okc (G : List Nat) (c : Nat) : Prop := 8589934592 ≤ c → c < 17179869184 → c - 8589934592 ∈ G
def ex_Ob (E : ex_G) (ad : Nat → Nat) (M : Nat) (H : Heap) (w : Nat) : Prop :=
  (ex_kd M w < 64 → ∃ r : vw_C, ex_cl[ex_kd M w]? = some r ∧ ex_n M w = r.2.2 ∧ t_OB (ad w) (E.1.1 (ex_kd M w)) (ex_n M w) (E.1.2 (ex_kd M w)) H (fun k => ex_v E ad (ex_get M (w + 1 + k)))) ∧
  (64 ≤ ex_kd M w → H[ad w]? = some (arrV (E.2.1 (ex_kd M w)) (ex_n M w) (fun j => ex_v E ad (ex_get M (w + 1 + j)))))
def ex_Rep (E : ex_G) (b : Nat) (G : List Nat) (ad : Nat → Nat) (M : Nat) (H : Heap) : Prop :=
  (∀ w ∈ G, ex_Ob E ad M H w) ∧ (∀ w ∈ G, ∀ w' ∈ G, ad w = ad w' → w = w') ∧ (∀ w ∈ G, b ≤ ad w) ∧
  (∀ w ∈ G, 3 ≤ w ∧ w + 1 + ex_n M w ≤ ex_get M 0) ∧ (∀ w ∈ G, ∀ w' ∈ G, w < w' → w + 1 + ex_n M w ≤ w') ∧
  M < 2 ^ (40 * ex_get M 0) ∧ (3 ≤ ex_get M 0 ∧ ex_get M 0 < 2147483648) ∧ (∀ w ∈ G, ∀ k, k < ex_n M w → ex_okc G (ex_get M (w + 1 + k)))
theorem ex_okc.mono {G G' : List Nat} {c : Nat} (h : ex_okc G c) (hs : ∀ w ∈ G, w ∈ G') : ex_okc G' c := fun a b => hs _ (h a b)
theorem ex_okc_lt {G : List Nat} {c : Nat} (h : c < 8589934592) : ex_okc G c := fun a _ => absurd a (by omega)
theorem ex_okc_ge {G : List Nat} {c : Nat} (h : 17179869184 ≤ c) : ex_okc G c := fun _ a => absurd a (by omega)
/-- values under another table of addresses -/
theorem ex_v_ad {E : ex_G} {G : List Nat} {ad ad' : Nat → Nat} {c : Nat} (h : ex_okc G c) (ha : ∀ w ∈ G, ad' w = ad w) : ex_v E ad' c = ex_v E ad c := by
  unfold ex_v
  by_cases h1 : c < 8589934592
  · simp only [h1, if_true]
  · by_cases h2 : c < 17179869184
    · rw [ha _ (h (by omega) h2)]
    · simp only [h2, if_false]
theorem arrV_cong {cA : ClassId} {n : Nat} {f g : Nat → Value} (h : ∀ j, j < n → f j = g j) : arrV cA n f = arrV cA n g := by
  unfold arrV
  congr 1
  apply Array.ext
  · simp
  · intro i h1 h2
    simp only [Array.getElem_ofFn]
    exact h i (by simpa using h1)
theorem ex_Ob.lt {E : ex_G} {ad : Nat → Nat} {M : Nat} {H : Heap} {w : Nat} (h : ex_Ob E ad M H w) : ad w < H.size := by
  rcases Nat.lt_or_ge (ex_kd M w) 64 with q | q
  · obtain ⟨r, -, -, cell, hc, -⟩ := h.1 q
    exact (Array.getElem?_eq_some_iff.mp hc).1
  · exact (Array.getElem?_eq_some_iff.mp (h.2 q)).1
/-- a cell whose words and whose cell stay -/
theorem ex_Ob.stay {E : ex_G} {ad ad' : Nat → Nat} {M M' : Nat} {H H' : Heap} {w : Nat} (h : ex_Ob E ad M H w) (h0 : ex_get M' w = ex_get M w) (ha : ad' w = ad w)
    (hk : ∀ k, k < ex_n M w → ex_v E ad' (ex_get M' (w + 1 + k)) = ex_v E ad (ex_get M (w + 1 + k))) (hH : H'[ad w]? = H[ad w]?) : ex_Ob E ad' M' H' w := by
  unfold ex_Ob ex_kd ex_n at *
  rw [h0, ha]
  refine ⟨fun q => ?_, fun q => ?_⟩
  · obtain ⟨r, h1, h2, h3⟩ := h.1 q
    exact ⟨r, h1, h2, (h3.kept hH).to (fun k hk2 => (hk k hk2).symm)⟩
  · rw [hH, h.2 q]
    exact congrArg some (arrV_cong (fun j hj => (hk j hj).symm))
/-- a write to a place of a made cell -/
theorem ex_Rep.set {E : ex_G} {b : Nat} {G : List Nat} {ad : Nat → Nat} {M : Nat} {H H' : Heap} (h : ex_Rep E b G ad M H) {w k c : Nat} (hw : w ∈ G) (hk : k < ex_n M w) (hc : c < 1099511627776) (hok : ex_okc G c)
    (hn : ex_Ob E ad (ex_set M (w + 1 + k) c) H' w) (hH : ∀ q : Nat, q ≠ ad w → H'[q]? = H[q]?) : ex_Rep E b G ad (ex_set M (w + 1 + k) c) H' := by
  obtain ⟨h1, h2, h3, h4, h5, h6, h7, h8⟩ := h
  have hget : ∀ j, j ≠ w + 1 + k → ex_get (ex_set M (w + 1 + k) c) j = ex_get M j := fun j hj => by rw [ex_get_set hc, if_neg hj]
  have hw4 := h4 w hw
  have htop : ex_get (ex_set M (w + 1 + k) c) 0 = ex_get M 0 := hget 0 (by omega)
  -- heads stay
  have hhd : ∀ u ∈ G, ex_get (ex_set M (w + 1 + k) c) u = ex_get M u := fun u hu => hget u (fun e => by
    rcases Nat.lt_trichotomy u w with q | q | q
    · omega
    · omega
    · have := h5 w hw u hu q; omega)
  have hnn : ∀ u ∈ G, ex_n (ex_set M (w + 1 + k) c) u = ex_n M u := fun u hu => by unfold ex_n; rw [hhd u hu]
  have hoth : ∀ u ∈ G, u ≠ w → ∀ j, j < ex_n M u → ex_get (ex_set M (w + 1 + k) c) (u + 1 + j) = ex_get M (u + 1 + j) := fun u hu hne j hj => hget _ (fun e => by
    rcases Nat.lt_trichotomy u w with q | q | q
    · have := h5 u hu w hw q; omega
    · exact hne q
    · have := h5 w hw u hu q; omega)
  refine ⟨fun u hu => ?_, h2, h3, fun u hu => ?_, fun u hu u' hu' hlt => ?_, ?_, by rw [htop]; exact h7, fun u hu j hj => ?_⟩
  · by_cases e : u = w
    · subst e; exact hn
    · exact (h1 u hu).stay (hhd u hu) rfl (fun j hj => by rw [hoth u hu e j hj]) (hH _ (fun q => e (h2 u hu w hw q)))
  · rw [htop, hnn u hu]; exact h4 u hu
  · rw [hnn u hu]; exact h5 u hu u' hu' hlt
  · rw [htop]; exact ex_set_lt h6 (by omega) hc
  · rw [hnn u hu] at hj
    by_cases e : u = w
    · subst e
      by_cases e2 : j = k
      · subst e2; rw [ex_get_set hc, if_pos rfl]; exact hok
      · rw [hget _ (by omega)]; exact h8 u hu j hj
    · rw [hoth u hu e j hj]; exact h8 u hu j hj
/-- a place of an array is written -/
theorem ex_Rep.setA {E : ex_G} {b : Nat} {G : List Nat} {ad : Nat → Nat} {M : Nat} {H H' : Heap} (h : ex_Rep E b G ad M H) {w k c : Nat} (hw : w ∈ G) (hk : k < ex_n M w) (hkd : 64 ≤ ex_kd M w) (hc : c < 1099511627776) (hok : ex_okc G c)
    (hn : H'[ad w]? = some ((arrV (E.2.1 (ex_kd M w)) (ex_n M w) (fun j => ex_v E ad (ex_get M (w + 1 + j)))).setSlot k (ex_v E ad c))) (hH : ∀ q : Nat, q ≠ ad w → H'[q]? = H[q]?) : ex_Rep E b G ad (ex_set M (w + 1 + k) c) H' := by
  refine h.set hw hk hc hok ?_ hH
  have h0 : ex_get (ex_set M (w + 1 + k) c) w = ex_get M w := by rw [ex_get_set hc, if_neg (by omega)]
  unfold ex_Ob ex_kd ex_n at *
  rw [h0]
  refine ⟨fun q => absurd q (by omega), fun _ => ?_⟩
  rw [hn, arrV_store]
  refine congrArg some (arrV_cong (fun j hj => ?_))
  unfold updV
  rw [ex_get_set hc]
  by_cases e : j = k
  · subst e; rw [if_pos rfl, if_pos rfl]
  · rw [if_neg e, if_neg (by omega)]
/-- a field is written -/
theorem ex_Rep.setO {E : ex_G} {b : Nat} {G : List Nat} {ad : Nat → Nat} {M : Nat} {H H' : Heap} (h : ex_Rep E b G ad M H) {w k c : Nat} (hw : w ∈ G) (hk : k < ex_n M w) (hkd : ex_kd M w < 64) (hc : c < 1099511627776) (hok : ex_okc G c)
    (hn : t_OB (ad w) (E.1.1 (ex_kd M w)) (ex_n M w) (E.1.2 (ex_kd M w)) H' (updV (fun k => ex_v E ad (ex_get M (w + 1 + k))) k (ex_v E ad c))) (hH : ∀ q : Nat, q ≠ ad w → H'[q]? = H[q]?) : ex_Rep E b G ad (ex_set M (w + 1 + k) c) H' := by
  refine h.set hw hk hc hok ?_ hH
  have h0 : ex_get (ex_set M (w + 1 + k) c) w = ex_get M w := by rw [ex_get_set hc, if_neg (by omega)]
  obtain ⟨r, hr1, hr2, -⟩ := (h.1 w hw).1 hkd
  unfold ex_Ob ex_kd ex_n at *
  rw [h0]
  refine ⟨fun _ => ⟨r, hr1, hr2, hn.to (fun j hj => ?_)⟩, fun q => absurd q (by omega)⟩
  unfold updV
  rw [ex_get_set hc]
  by_cases e : j = k
  · subst e; rw [if_pos rfl, if_pos rfl]
  · rw [if_neg e, if_neg (by omega)]
/-- the store behind a making -/
def ex_mk (M B n t : Nat) : Nat := ex_set (ex_set (ex_set (M ^^^ (B <<< (40 * t))) 0 (t + 1 + n)) 1 (ex_get M 1 + 1)) 2 (n + ex_get M 2)
theorem ex_mk_get {M B n t : Nat} (hM : M < 2 ^ (40 * t)) (ht : 3 ≤ t) (h1 : t + 1 + n < 1099511627776) (h2 : ex_get M 1 + 1 < 1099511627776) (h3 : n + ex_get M 2 < 1099511627776) (j : Nat) :
    ex_get (ex_mk M B n t) j = if j = 2 then n + ex_get M 2 else if j = 1 then ex_get M 1 + 1 else if j = 0 then t + 1 + n else if j < t then ex_get M j else ex_get B (j - t) := by
  unfold ex_mk
  rw [ex_get_set h3, ex_get_set h2, ex_get_set h1, ex_get_blk hM]
/-- a cell is made -/
theorem ex_Rep.new {E : ex_G} {b : Nat} {G : List Nat} {ad : Nat → Nat} {M B n : Nat} {H H' : Heap} (h : ex_Rep E b G ad M H) {q : Nat} (h1' : ex_get M 0 + 1 + n < 2147483648) (h2 : ex_get M 1 + 1 < 1099511627776) (h3 : n + ex_get M 2 < 1099511627776)
    (hB : B < 2 ^ (40 * (n + 1))) (hB0 : ex_get B 0 / 256 = n) (hBk : ∀ k, k < n → ex_okc G (ex_get B (k + 1))) (hq : H.size ≤ q) (hb : b ≤ H.size) (hH : ∀ a : Nat, a < H.size → H'[a]? = H[a]?)
    (hn : ex_Ob E (fun w => if w = ex_get M 0 then q else ad w) (ex_mk M B n (ex_get M 0)) H' (ex_get M 0)) :
    ex_Rep E b (G ++ [ex_get M 0]) (fun w => if w = ex_get M 0 then q else ad w) (ex_mk M B n (ex_get M 0)) H' ∧ (∀ w ∈ G, (fun w => if w = ex_get M 0 then q else ad w) w = ad w) := by
  obtain ⟨r1, r2, r3, r4, r5, r6, ⟨r7, -⟩, r8⟩ := h
  have h1 : ex_get M 0 + 1 + n < 1099511627776 := by omega
  generalize ht : ex_get M 0 = t at *
  have hg := ex_mk_get (B := B) (n := n) r6 r7 h1 h2 h3
  have hnt : ∀ w ∈ G, w ≠ t := fun w hw e => by have := r4 w hw; omega
  have had : ∀ w ∈ G, (fun w => if w = t then q else ad w) w = ad w := fun w hw => if_neg (hnt w hw)
  have hin : ∀ w ∈ G, ex_get (ex_mk M B n t) w = ex_get M w := fun w hw => by
    have := r4 w hw
    rw [hg, if_neg (by omega), if_neg (by omega), if_neg (by omega), if_pos (by omega)]
  have hnn : ∀ w ∈ G, ex_n (ex_mk M B n t) w = ex_n M w := fun w hw => by unfold ex_n; rw [hin w hw]
  have hsl : ∀ w ∈ G, ∀ k, k < ex_n M w → ex_get (ex_mk M B n t) (w + 1 + k) = ex_get M (w + 1 + k) := fun w hw k hk => by
    have := r4 w hw
    rw [hg, if_neg (by omega), if_neg (by omega), if_neg (by omega), if_pos (by omega)]
  have hsub : ∀ w ∈ G, w ∈ G ++ [t] := fun w hw => List.mem_append.mpr (Or.inl hw)
  have hto : ex_get (ex_mk M B n t) 0 = t + 1 + n := by rw [hg, if_neg (by omega), if_neg (by omega), if_pos rfl]
  have hnh : ex_get (ex_mk M B n t) t = ex_get B 0 := by rw [hg, if_neg (by omega), if_neg (by omega), if_neg (by omega), if_neg (by omega), Nat.sub_self]
  have hnN : ex_n (ex_mk M B n t) t = n := by unfold ex_n; rw [hnh]; exact hB0
  have hlt : ∀ w ∈ G, ad w < H.size := fun w hw => (r1 w hw).lt
  have cs : ∀ w ∈ G ++ [t], w ∈ G ∨ w = t := fun w hw => (List.mem_append.mp hw).elim Or.inl (fun h => Or.inr (List.mem_singleton.mp h))
  refine ⟨⟨fun w hw => ?_, fun w hw w' hw' e => ?_, fun w hw => ?_, fun w hw => ?_, fun w hw w' hw' hl => ?_, ?_, ?_, fun w hw k hk => ?_⟩, had⟩
  · rcases cs w hw with h | rfl
    · exact (r1 w h).stay (hin w h) (had w h) (fun k hk => by rw [hsl w h k hk]; exact ex_v_ad (r8 w h k hk) had) (hH _ (hlt w h))
    · exact hn
  · dsimp only at e
    rcases cs w hw with h | rfl <;> rcases cs w' hw' with h' | rfl
    · rw [if_neg (hnt w h), if_neg (hnt w' h')] at e; exact r2 w h w' h' e
    · rw [if_neg (hnt w h), if_pos rfl] at e; have := hlt w h; omega
    · rw [if_pos rfl, if_neg (hnt w' h')] at e; have := hlt w' h'; omega
    · rfl
  · dsimp only
    rcases cs w hw with h | rfl
    · rw [if_neg (hnt w h)]; exact r3 w h
    · rw [if_pos rfl]; omega
  · rw [hto]
    rcases cs w hw with h | rfl
    · rw [hnn w h]; have := r4 w h; omega
    · rw [hnN]; omega
  · rcases cs w hw with h | rfl <;> rcases cs w' hw' with h' | rfl
    · rw [hnn w h]; exact r5 w h w' h' hl
    · rw [hnn w h]; have := r4 w h; omega
    · have := r4 w' h'; omega
    · omega
  · rw [hto]
    have := ex_blk_lt r6 hB
    rw [show t + (n + 1) = t + 1 + n by omega] at this
    exact ex_set_lt (ex_set_lt (ex_set_lt this (by omega) h1) (by omega) h2) (by omega) h3
  · rw [hto]; exact ⟨by omega, h1'⟩
  · rcases cs w hw with h | rfl
    · rw [hnn w h] at hk
      rw [hsl w h k hk]
      exact (r8 w h k hk).mono hsub
    · rw [hnN] at hk
      rw [hg, if_neg (by omega), if_neg (by omega), if_neg (by omega), if_neg (by omega), show w + 1 + k - w = k + 1 by omega]
      exact (hBk k hk).mono hsub
