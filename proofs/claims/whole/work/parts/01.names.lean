-- the made kinds of things: names, fields in the order of the slots, types; printed by program
def cR0 : String := "TermBench"
def cF0 : u_T := fun k => match k with
  | 0 => ("TermBench", "alphabet", "LTermBench$Alphabet;", true)
  | 1 => ("TermBench", "slots", "[LTermBench$Term;", true)
  | 2 => ("TermBench", "row", "LTermBench$Term;", true)
  | 3 => ("TermBench", "lacking", "I", false)
  | 4 => ("TermBench", "work", "LTermBench$Term;", true)
  | 5 => ("TermBench", "spare", "LTermBench$Term;", true)
  | 6 => ("TermBench", "filled", "LTermBench$Term;", true)
  | 7 => ("TermBench", "trial", "LTermBench$Values;", true)
  | 8 => ("TermBench", "latest", "LTermBench$Values;", true)
  | 9 => ("TermBench", "latestSubject", "LTermBench$Term;", true)
  | 10 => ("TermBench", "ordering", "LTermBench$Ordering;", true)
  | 11 => ("TermBench", "unifier", "LTermBench$Unifier;", true)
  | _ => ("TermBench", "rewritten", "I", false)
def cY0 : Nat → FieldType := fun k => match k with
  | 0 => .object "TermBench$Alphabet"
  | 1 => .array (.object "TermBench$Term")
  | 2 => .object "TermBench$Term"
  | 3 => .int
  | 4 => .object "TermBench$Term"
  | 5 => .object "TermBench$Term"
  | 6 => .object "TermBench$Term"
  | 7 => .object "TermBench$Values"
  | 8 => .object "TermBench$Values"
  | 9 => .object "TermBench$Term"
  | 10 => .object "TermBench$Ordering"
  | 11 => .object "TermBench$Unifier"
  | _ => .int
def cR1 : String := "TermBench$Alphabet"
def cF1 : u_T := fun k => match k with
  | 0 => ("TermBench$Alphabet", "terms", "[I", true)
  | 1 => ("TermBench$Alphabet", "predicates", "[Z", true)
  | _ => ("TermBench$Alphabet", "size", "I", false)
def cY1 : Nat → FieldType := fun k => match k with
  | 0 => .array .int
  | 1 => .array .boolean
  | _ => .int
def cR2 : String := "TermBench$Term"
def cF2 : u_T := fun k => match k with
  | 0 => ("TermBench$Term", "codes", "[I", true)
  | 1 => ("TermBench$Term", "ends", "[I", true)
  | _ => ("TermBench$Term", "weight", "I", false)
def cY2 : Nat → FieldType := fun k => match k with
  | 0 => .array .int
  | 1 => .array .int
  | _ => .int
def cR3 : String := "TermBench$Values"
def cF3 : u_T := fun k => match k with
  | _ => ("TermBench$Values", "begins", "[I", true)
def cY3 : Nat → FieldType := fun k => match k with
  | _ => .array .int
def cR4 : String := "TermBench$Ordering"
def cF4 : u_T := fun k => match k with
  | _ => ("TermBench$Ordering", "surplus", "[I", true)
def cY4 : Nat → FieldType := fun k => match k with
  | _ => .array .int
def cR5 : String := "TermBench$Unifier"
def cF5 : u_T := fun k => match k with
  | 0 => ("TermBench$Unifier", "codes", "[I", true)
  | 1 => ("TermBench$Unifier", "ends", "[I", true)
  | 2 => ("TermBench$Unifier", "parents", "[I", true)
  | 3 => ("TermBench$Unifier", "schemas", "[I", true)
  | 4 => ("TermBench$Unifier", "firsts", "[I", true)
  | 5 => ("TermBench$Unifier", "seconds", "[I", true)
  | 6 => ("TermBench$Unifier", "pairs", "I", false)
  | 7 => ("TermBench$Unifier", "weights", "[I", true)
  | _ => ("TermBench$Unifier", "names", "[I", true)
def cY5 : Nat → FieldType := fun k => match k with
  | 0 => .array .int
  | 1 => .array .int
  | 2 => .array .int
  | 3 => .array .int
  | 4 => .array .int
  | 5 => .array .int
  | 6 => .int
  | 7 => .array .int
  | _ => .array .int
def cR6 : String := "TermBenchModel"
def cF6 : u_T := fun k => match k with
  | 0 => ("TermBenchModel", "thrown", "I", false)
  | 1 => ("TermBenchModel", "symbols", "I", false)
  | 2 => ("TermBenchModel", "rowSize", "I", false)
  | 3 => ("TermBenchModel", "lacks", "I", false)
  | 4 => ("TermBenchModel", "rewritten", "I", false)
  | 5 => ("TermBenchModel", "terms", "[I", true)
  | 6 => ("TermBenchModel", "row", "[I", true)
  | 7 => ("TermBenchModel", "predicate", "[Z", true)
  | 8 => ("TermBenchModel", "codes", "[[I", true)
  | 9 => ("TermBenchModel", "sizes", "[I", true)
  | 10 => ("TermBenchModel", "values", "[[I", true)
  | 11 => ("TermBenchModel", "valueSizes", "[I", true)
  | 12 => ("TermBenchModel", "matchedOnce", "Z", false)
  | 13 => ("TermBenchModel", "of", "[I", true)
  | 14 => ("TermBenchModel", "kid", "[I", true)
  | 15 => ("TermBenchModel", "beside", "[I", true)
  | 16 => ("TermBenchModel", "weight", "[I", true)
  | 17 => ("TermBenchModel", "top", "I", false)
  | 18 => ("TermBenchModel", "at", "I", false)
  | 19 => ("TermBenchModel", "times", "[I", true)
  | 20 => ("TermBenchModel", "valueOf", "[I", true)
  | 21 => ("TermBenchModel", "bankOf", "[I", true)
  | 22 => ("TermBenchModel", "numbered", "[I", true)
  | 23 => ("TermBenchModel", "numbers", "I", false)
  | 24 => ("TermBenchModel", "matched", "[I", true)
  | 25 => ("TermBenchModel", "place", "I", false)
  | 26 => ("TermBenchModel", "instead", "I", false)
  | _ => ("TermBenchModel", "work", "[I", true)
def cY6 : Nat → FieldType := fun k => match k with
  | 0 => .int
  | 1 => .int
  | 2 => .int
  | 3 => .int
  | 4 => .int
  | 5 => .array .int
  | 6 => .array .int
  | 7 => .array .boolean
  | 8 => .array (.array .int)
  | 9 => .array .int
  | 10 => .array (.array .int)
  | 11 => .array .int
  | 12 => .boolean
  | 13 => .array .int
  | 14 => .array .int
  | 15 => .array .int
  | 16 => .array .int
  | 17 => .int
  | 18 => .int
  | 19 => .array .int
  | 20 => .array .int
  | 21 => .array .int
  | 22 => .array .int
  | 23 => .int
  | 24 => .array .int
  | 25 => .int
  | 26 => .int
  | _ => .array .int
abbrev classes : List vw_C := [(cR0, cF0, 13), (cR1, cF1, 3), (cR2, cF2, 3), (cR3, cF3, 1), (cR4, cF4, 1), (cR5, cF5, 9), (cR6, cF6, 28)]
def cTy : Nat → Nat → FieldType := fun c => match c with
  | 0 => cY0
  | 1 => cY1
  | 2 => cY2
  | 3 => cY3
  | 4 => cY4
  | 5 => cY5
  | _ => cY6
def cFT (c k : Nat) : Nat := match cTy c k with
  | .int => 0
  | .boolean => 1
  | _ => 2
def cX (k : Nat) : String := match k with
  | 0 => "java/util/NoSuchElementException"
  | 1 => "java/lang/IllegalArgumentException"
  | _ => "java/lang/IllegalStateException"
/-! the tables' words, as they are carried along -/
def sNest (w : Cond) : Bool := match w with
  | .fieldLinkNest .. => true
  | .methodLinkNest .. => true
  | _ => false
def sTab (w : Cond) : Bool := match w with
  | .declares .. => true
  | .castable .. => true
  | _ => false
def sGood (w : Cond) : Bool := goodWord w || sNest w || sTab w
def sIn (w : Cond) : Bool := decide (w ∈ lw_tbl) && sGood w
theorem sGood_move {w : Cond} {s U : State} (h : sGood w = true) (hW : s.WarmedH U.vm) (hb : ∀ a, w.before a s = true) : ∀ a, w.before a U = true := by
  intro a
  unfold sGood at h
  rw [Bool.or_eq_true, Bool.or_eq_true] at h
  rcases h with (h | h) | h
  · exact word_at hW (good_of_word h) (hb #[])
  · cases w <;> first | exact absurd h Bool.false_ne_true | exact va_Nw.use rfl (va_Nw.warmF hW (hb #[])) | exact va_Nw.use rfl (va_Nw.warmM hW (hb #[]))
  · cases w <;> first | exact absurd h Bool.false_ne_true | exact va_tabs (u := s.setVm U.vm) rfl rfl (by rw [Cond.declares_setVm hW.alike]; exact hb #[]) | exact va_tabs (u := s.setVm U.vm) rfl rfl (by rw [Cond.castable_setVm hW.alike]; exact hb #[])
def cOk (c : Nat) (q : vw_C) : Prop := (∀ w ∈ u_ws q.1 q.2.1 q.2.2, sIn w = true) ∧ (∀ k, k < q.2.2 → parseFieldDescriptor (q.2.1 k).2.2.1 = some (cTy c k)) ∧ (∀ a, a < q.2.2 → ∀ b, b < q.2.2 → a ≠ b → (q.2.1 a).2.1 ≠ (q.2.1 b).2.1) ∧ (∀ k, k < q.2.2 → cFT c k ≠ 2 → (q.2.1 k).2.2.2 = false) ∧ (∀ k, k < q.2.2 → (q.2.1 k).1 = q.1)
theorem cOk0 : cOk 0 (cR0, cF0, 13) := ⟨by decide +kernel, by decide +kernel, by decide +kernel, by decide +kernel, by decide +kernel⟩
theorem cOk1 : cOk 1 (cR1, cF1, 3) := ⟨by decide +kernel, by decide +kernel, by decide +kernel, by decide +kernel, by decide +kernel⟩
theorem cOk2 : cOk 2 (cR2, cF2, 3) := ⟨by decide +kernel, by decide +kernel, by decide +kernel, by decide +kernel, by decide +kernel⟩
theorem cOk3 : cOk 3 (cR3, cF3, 1) := ⟨by decide +kernel, by decide +kernel, by decide +kernel, by decide +kernel, by decide +kernel⟩
theorem cOk4 : cOk 4 (cR4, cF4, 1) := ⟨by decide +kernel, by decide +kernel, by decide +kernel, by decide +kernel, by decide +kernel⟩
theorem cOk5 : cOk 5 (cR5, cF5, 9) := ⟨by decide +kernel, by decide +kernel, by decide +kernel, by decide +kernel, by decide +kernel⟩
theorem cOk6 : cOk 6 (cR6, cF6, 28) := ⟨by decide +kernel, by decide +kernel, by decide +kernel, by decide +kernel, by decide +kernel⟩
theorem cls_lt {c : Nat} {q : vw_C} (h : classes[c]? = some q) : c < 7 := (List.getElem?_eq_some_iff.mp h).1
theorem cls_99 {c : Nat} {q : vw_C} (h : classes[c]? = some q) : c + 5 ≠ 99 := by
  have := cls_lt h
  omega
theorem cls_ok : ∀ (c : Nat) (q : vw_C), classes[c]? = some q → cOk c q := by
  intro c q h
  have hl := cls_lt h
  match c, hl, h with
  | 0, _, h => cases h; exact cOk0
  | 1, _, h => cases h; exact cOk1
  | 2, _, h => cases h; exact cOk2
  | 3, _, h => cases h; exact cOk3
  | 4, _, h => cases h; exact cOk4
  | 5, _, h => cases h; exact cOk5
  | 6, _, h => cases h; exact cOk6
