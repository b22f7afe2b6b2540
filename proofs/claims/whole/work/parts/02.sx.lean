/-! The small machine: values are whole numbers, references by their place among the cells made since the start (0: the script; as a cell's content: null), longs. A state of it: kinds and sizes of the cells, references, numbers, how many cells were thrown behind them. -/
abbrev sV : Type := Int ⊕ (Nat ⊕ Int)
abbrev sI : Type := Nat → Int → Int
abbrev sF : Type := Nat → Int → Nat
abbrev sS : Type := List (Nat × Nat) × sF × sI × Nat
/-- where the cells begin; where the script lies; class numbers and slots; array classes by kind -/
abbrev sG : Type := Nat × Nat × va_G × (Nat → ClassId)
def sR (x : Int) : Prop := -2147483648 ≤ x ∧ x < 2147483648
def sAd (G : sG) (a : Nat) : Nat := match a with
  | 0 => G.2.1
  | a + 1 => G.1 + a
def sN (G : sG) (a : Nat) : Option Nat := match a with
  | 0 => none
  | a + 1 => some (G.1 + a)
def sE (G : sG) (v : sV) : Value := match v with
  | .inl x => .int (Int32.ofInt x)
  | .inr (.inl a) => .ref (sAd G a)
  | .inr (.inr x) => .long (Int64.ofInt x)
def sTy (G : sG) : List (ClassId × FieldType) := [(G.2.2.2 0, .int), (G.2.2.2 1, .boolean), (G.2.2.2 2, .long), (G.2.2.2 3, .object "TermBench$Term"), (G.2.2.2 4, .array .int)]
def sU (I : sI) (a : Nat) (j x : Int) : sI := fun b k => if b = a ∧ k = j then x else I b k
def sFd (G : sG) (c n : Nat) (RF : sF) (I : sI) (a : Nat) : List Value := (List.range n).map (fun j => if cFT c j = 2 then va_rf (sN G (RF a j)) else .int (Int32.ofInt (I a j)))
def sEn (G : sG) (q : Nat × Nat) (RF : sF) (I : sI) (a : Nat) : va_E := match q.1 with
  | 0 => .inl (G.2.2.2 0, q.2, .inl (fun j => Int32.ofInt (I a j)))
  | 1 => .inl (G.2.2.2 1, q.2, .inl (fun j => Int32.ofInt (I a j)))
  | 2 => .inl (G.2.2.2 2, q.2, .inr (.inl (fun j => Int64.ofInt (I a j))))
  | 3 => .inl (G.2.2.2 3, q.2, .inr (.inr (.inr (.inr (fun j => sN G (RF a j))))))
  | 4 => .inl (G.2.2.2 4, q.2, .inr (.inr (.inr (.inr (fun j => sN G (RF a j))))))
  | k + 5 => .inr (k, sFd G k q.2 RF I a)
def sKd (sh : List (Nat × Nat)) (a : Nat) : Nat × Nat := sh.getD a (99, 0)
def sW (G : sG) (S : sS) : va_W := (List.range (S.1.length - 1)).map (fun q => (G.1 + q, sEn G (sKd S.1 (q + 1)) S.2.1 S.2.2.1 (q + 1)))
def sA (G : sG) : Nat → Prop := fun q => G.1 ≤ q
def sP (G : sG) (S : sS) (s : State) (H : Heap) : Prop :=
  va_P G.2.2.1 classes (sW G S) H ∧ 0 < S.1.length ∧ (G.1 + (S.1.length - 1) ≤ H.size ∧ (S.2.2.2 = 0 → H.size = G.1 + (S.1.length - 1))) ∧ G.2.1 < G.1 ∧ (sKd S.1 0).1 = 0 ∧ va_X G.2.1 (sKd S.1 0).2 (fun j => Int32.ofInt (S.2.2.1 0 j)) s H ∧ (∀ a j, sR (S.2.2.1 a j)) ∧ ∀ a, (sKd S.1 a).2 < 2147483648
/-! what every method's start knows of the tables and of the old cells -/
def sStr : List (Nat × String) := [(72, "a symbol has 0 to 5 terms"), (82, "there are 40 symbols"), (91, "no such symbol or variable"), (98, "the row is whole, or would grow too long"), (107, "the row is not whole"), (152, "no match gave this variable a value"), (172, "the term would be too heavy"), (199, "0, 1 and 2 are told"), (201, "no such slot"), (203, "no such place")]
def va_AI (U : State) : Prop := (Cond.arrayOver (.array .int)).before #[] U = true
def aiP (W : Vm) (o : Option Nat) : Bool := (o.bind (fun c => (W.classes[c]?).map (fun (k : Class) => match k.kind with | .array _ ty => decide (ty = FieldType.array .int) && decide (W.findClass ("[" ++ (FieldType.array .int).toString) = some c) | _ => false))) == some true
theorem va_AI.moved {u U : State} (hvm : u.vm.Alike U.vm) (h : va_AI u) : va_AI U := by
  unfold va_AI Cond.before Cond.holds at h ⊢
  simp only [Cond.value] at h ⊢
  cases h1 : u.vm.findClass (FieldType.array .int).toString with
  | none =>
    rw [h1] at h
    simp at h
  | some comp =>
    have h1' : U.vm.findClass (FieldType.array .int).toString = some comp := by rw [hvm.findClass]; exact h1
    rw [h1, Option.bind_some] at h
    rw [h1', Option.bind_some]
    have hidx : (U.vm.classes.findIdx? fun (x : Class) => match x.kind with | .array component _ => component == comp | _ => false) = (u.vm.classes.findIdx? fun (x : Class) => match x.kind with | .array component _ => component == comp | _ => false) := by
      refine (va_idx_bare U.vm comp).symm.trans (Eq.trans ?_ (va_idx_bare u.vm comp))
      first | rw [hvm.bare_eq] | rw [← hvm.bare_eq]
    have h' : aiP u.vm (u.vm.classes.findIdx? fun (x : Class) => match x.kind with | .array component _ => component == comp | _ => false) = true := h
    show aiP U.vm (U.vm.classes.findIdx? fun (x : Class) => match x.kind with | .array component _ => component == comp | _ => false) = true
    rw [hidx]
    generalize (u.vm.classes.findIdx? fun (x : Class) => match x.kind with | .array component _ => component == comp | _ => false) = o at h'
    cases o with
    | none => simp [aiP] at h'
    | some c =>
      unfold aiP at h' ⊢
      rw [Option.bind_some] at h' ⊢
      cases h3 : u.vm.classes[c]? with
      | none =>
        rw [h3] at h'
        simp at h'
      | some k =>
        obtain ⟨k', hk', he⟩ := hvm.2.2 _ _ h3
        rw [h3] at h'
        rw [hk']
        simp only [Option.map_some] at h' ⊢
        rw [he, hvm.findClass]
        exact h'
def sD (G : sG) (s : State) : Prop := (∀ q ∈ sStr, ∃ z, vk_R "TermBench" q.1 q.2 z s) ∧ vx_Zq Bundle.tN "UNASSIGNED_STACK" Bundle.steD (sA G) s s.heap ∧ vx_Zq Bundle.tN "SUPPRESSED_SENTINEL" Bundle.listD (sA G) s s.heap ∧ va_AO "TermBench$Term" s ∧ ((∃ k : Class, s.vm.classes[G.2.2.2 4]? = some k ∧ k.kind = .array (G.2.2.2 0) (.array .int)) ∧ va_AI s) ∧ (va_Nc (cX 0) (cX 1) s ∧ va_Nc (cX 0) (cX 2) s ∧ va_Nc (cX 1) (cX 0) s ∧ va_Nc (cX 1) (cX 2) s ∧ va_Nc (cX 2) (cX 0) s ∧ va_Nc (cX 2) (cX 1) s)
def sC (G : sG) (s : State) : Prop := (∀ w, sIn w = true → ∀ a, w.before a s = true) ∧ va_K G.2.2.1 classes (sTy G) s ∧ sD G s
theorem sR_i {x : Int} (h : sR x) : (Int32.ofInt x).toInt = x := Int32.toInt_ofInt_of_le (by have := h.1; omega) (by have := h.2; omega)
theorem sR_lt {x y : Int} (hx : sR x) (hy : sR y) : Int32.ofInt x < Int32.ofInt y ↔ x < y := by
  rw [Int32.lt_iff_toInt_lt, sR_i hx, sR_i hy]
theorem sR_le {x y : Int} (hx : sR x) (hy : sR y) : Int32.ofInt x ≤ Int32.ofInt y ↔ x ≤ y := by
  rw [Int32.le_iff_toInt_le, sR_i hx, sR_i hy]
theorem sR_eq {x y : Int} (hx : sR x) (hy : sR y) : Int32.ofInt x = Int32.ofInt y ↔ x = y := by
  constructor
  · intro h
    rw [← sR_i hx, ← sR_i hy, h]
  · intro h
    rw [h]
theorem sR_0 : sR 0 := by unfold sR; omega
theorem s0 : (0 : Int32) = Int32.ofInt 0 := by decide
theorem sR_cl {x : Int} (hx : sR x) : (Int32.ofInt x).toNatClampNeg = x.toNat := by
  show (Int32.ofInt x).toInt.toNat = _
  rw [sR_i hx]
theorem sR_in {x : Int} {n : Nat} (h0 : 0 ≤ x) (h : x < n) (hn : n < 2147483648) : vp_in (Int32.ofInt x) n := by
  have hx : sR x := by unfold sR; omega
  unfold vp_in
  rw [sR_cl hx, s0, sR_lt hx sR_0]
  omega
theorem sR_of (x : Int32) : Int32.ofInt x.toInt = x := Int32.ofInt_toInt x
theorem sR_to (x : Int32) : sR x.toInt := by
  have h1 := Int32.le_toInt x
  have h2 := Int32.toInt_lt x
  unfold sR
  omega
theorem s_add (x y : Int) : Int32.ofInt x + Int32.ofInt y = Int32.ofInt (x + y) := (Int32.ofInt_add x y).symm
theorem s_sub (x y : Int) : Int32.ofInt x - Int32.ofInt y = Int32.ofInt (x - y) := (Int32.ofInt_sub x y).symm
theorem s_mul (x y : Int) : Int32.ofInt x * Int32.ofInt y = Int32.ofInt (x * y) := (Int32.ofInt_mul x y).symm
theorem sKd_lt {sh : List (Nat × Nat)} {a k n : Nat} (h : sKd sh a = (k, n)) (hk : k ≠ 99) : a < sh.length := by
  unfold sKd at h
  by_cases hl : a < sh.length
  · exact hl
  · rw [List.getD_eq_getElem?_getD, List.getElem?_eq_none (by omega)] at h
    simp at h
    omega
theorem sW_get {G : sG} {S : sS} {a : Nat} (ha : a + 1 < S.1.length) : (sW G S)[a]? = some (G.1 + a, sEn G (sKd S.1 (a + 1)) S.2.1 S.2.2.1 (a + 1)) := by
  unfold sW
  rw [List.getElem?_map, List.getElem?_range (by omega)]
  rfl
theorem sW_at {G : sG} {S : sS} {a : Nat} {q : Nat × va_E} (h : (sW G S)[a]? = some q) : a + 1 < S.1.length ∧ q = (G.1 + a, sEn G (sKd S.1 (a + 1)) S.2.1 S.2.2.1 (a + 1)) := by
  have hl : a < (sW G S).length := (List.getElem?_eq_some_iff.mp h).1
  have hl2 : a + 1 < S.1.length := by
    unfold sW at hl
    simp at hl
    omega
  rw [sW_get hl2] at h
  exact ⟨hl2, (Option.some.inj h).symm⟩
theorem sW_D (G : sG) (S : sS) : va_D (sA G) (sW G S) := by
  refine ⟨fun i j p q hp hq h => ?_, fun k q hk => ?_⟩
  · obtain ⟨-, rfl⟩ := sW_at hp
    obtain ⟨-, rfl⟩ := sW_at hq
    simp at h
    exact h
  · obtain ⟨-, rfl⟩ := sW_at hk
    show G.1 ≤ G.1 + k
    omega
theorem sEn_congr {G : sG} {q : Nat × Nat} {RF RF' : sF} {I I' : sI} {a : Nat} (h1 : RF' a = RF a) (h2 : I' a = I a) : sEn G q RF' I' a = sEn G q RF I a := by
  unfold sEn sFd
  rw [h1, h2]
theorem sW_set {G : sG} {sh : List (Nat × Nat)} {RF RF' : sF} {I I' : sI} {x x' : Nat} {a : Nat} {e : va_E} (ha : a + 1 < sh.length) (he : e = sEn G (sKd sh (a + 1)) RF' I' (a + 1)) (h1 : ∀ b, b ≠ a + 1 → RF' b = RF b) (h2 : ∀ b, b ≠ a + 1 → I' b = I b) :
    (sW G (sh, RF, I, x)).set a (G.1 + a, e) = sW G (sh, RF', I', x') := by
  apply List.ext_getElem?
  intro k
  by_cases hk : k = a
  · subst hk
    have hl : k < (sW G (sh, RF, I, x)).length := by simp [sW]; omega
    rw [List.getElem?_set_self hl, sW_get (S := (sh, RF', I', x')) ha, he]
  · rw [List.getElem?_set_ne (Ne.symm hk)]
    by_cases hl : k + 1 < sh.length
    · rw [sW_get (S := (sh, RF, I, x)) hl, sW_get (S := (sh, RF', I', x')) hl, sEn_congr (h1 (k + 1) (by omega)) (h2 (k + 1) (by omega))]
    · rw [List.getElem?_eq_none (by simp [sW]; omega), List.getElem?_eq_none (by simp [sW]; omega)]
theorem sU_ne {I : sI} {a : Nat} {j x : Int} {b : Nat} (h : b ≠ a) : sU I a j x b = I b := by
  funext k
  simp [sU, h]
theorem sU_self (I : sI) (a : Nat) (j x : Int) : sU I a j x a j = x := by simp [sU]
theorem sU_R {I : sI} {a : Nat} {j x : Int} (h : ∀ a j, sR (I a j)) (hx : sR x) : ∀ b k, sR (sU I a j x b k) := by
  intro b k
  unfold sU
  split
  · exact hx
  · exact h b k
theorem sU_upd {I : sI} {a : Nat} {j x : Int} (hj : 0 ≤ j) : (fun k : Nat => Int32.ofInt (sU I a j x a k)) = upd (fun k : Nat => Int32.ofInt (I a k)) j.toNat (Int32.ofInt x) := by
  funext k
  unfold sU upd
  by_cases hk : k = j.toNat
  · have e : (k : Int) = j := by omega
    rw [if_pos ⟨rfl, e⟩, if_pos hk]
  · have e : ¬ (k : Int) = j := by omega
    rw [if_neg (fun h => e h.2), if_neg hk]
/-! one instruction of the small machine: a condition, where it goes on, locals, stack, numbers -/
def sCc (c : Jvm.ClassFile.Cond) (x y : Int) : Prop := match c with
  | .eq => x = y
  | .ne => ¬ x = y
  | .lt => x < y
  | .ge => y ≤ x
  | .gt => y < x
  | .le => x ≤ y
def sArr (sh : List (Nat × Nat)) (k a : Nat) (j : Int) : Prop := (sKd sh a).1 = k ∧ 0 ≤ j ∧ j < (sKd sh a).2
def sObj (sh : List (Nat × Nat)) (c a k : Nat) : Prop := (sKd sh a).1 = c + 5 ∧ k < (sKd sh a).2
abbrev sO : Type := Option (Prop × Nat × List (Option sV) × List sV × sI)
def sLdI (i : Nat) (k : Nat) (ls : List (Option sV)) (st : List sV) (I : sI) : sO := match ls[k]? with
  | some (some (.inl x)) => some (True, i + 1, ls, .inl x :: st, I)
  | _ => none
def sLdA (i : Nat) (k : Nat) (ls : List (Option sV)) (st : List sV) (I : sI) : sO := match ls[k]? with
  | some (some (.inr (.inl x))) => some (True, i + 1, ls, .inr (.inl x) :: st, I)
  | _ => none
def sStI (i : Nat) (k : Nat) (ls : List (Option sV)) (st : List sV) (I : sI) : sO := match st with
  | .inl x :: st => some (k < ls.length, i + 1, ls.set k (some (.inl x)), st, I)
  | _ => none
def sStA (i : Nat) (k : Nat) (ls : List (Option sV)) (st : List sV) (I : sI) : sO := match st with
  | .inr (.inl x) :: st => some (k < ls.length, i + 1, ls.set k (some (.inr (.inl x))), st, I)
  | _ => none
def sBin (f : Int → Int → Int) (i : Nat) (ls : List (Option sV)) (st : List sV) (I : sI) : sO := match st with
  | .inl y :: .inl x :: st => some (sR (f x y), i + 1, ls, .inl (f x y) :: st, I)
  | _ => none
def sBit (f : Int32 → Int32 → Int32) (i : Nat) (ls : List (Option sV)) (st : List sV) (I : sI) : sO := match st with
  | .inl y :: .inl x :: st => some (True, i + 1, ls, .inl (f (Int32.ofInt x) (Int32.ofInt y)).toInt :: st, I)
  | _ => none
def sx1 (sh : List (Nat × Nat)) (RF : sF) (ch : Bool) (i : Nat) (q : Nat × Jvm.ClassFile.Instr × Nat × Nat) (ls : List (Option sV)) (st : List sV) (I : sI) : sO := match q.2.1 with
  | .iconst n => some (sR n, i + 1, ls, .inl n :: st, I)
  | .bipush n => some (-128 ≤ n ∧ n < 128, i + 1, ls, .inl n :: st, I)
  | .sipush n => some (-32768 ≤ n ∧ n < 32768, i + 1, ls, .inl n :: st, I)
  | .iload_n k => sLdI i k ls st I
  | .iload k => sLdI i k ls st I
  | .aload_n k => sLdA i k ls st I
  | .aload k => sLdA i k ls st I
  | .istore_n k => sStI i k ls st I
  | .istore k => sStI i k ls st I
  | .astore_n k => sStA i k ls st I
  | .astore k => sStA i k ls st I
  | .iinc k n => match ls[k]? with
    | some (some (.inl x)) => some (sR (x + n), i + 1, ls.set k (some (.inl (x + n))), st, I)
    | _ => none
  | .iadd => sBin (fun x y => x + y) i ls st I
  | .isub => sBin (fun x y => x - y) i ls st I
  | .imul => sBin (fun x y => x * y) i ls st I
  | .iand => sBit (fun x y => x &&& y) i ls st I
  | .ior => sBit (fun x y => x ||| y) i ls st I
  | .ixor => sBit (fun x y => x ^^^ y) i ls st I
  | .ishl => sBit (fun x y => x <<< (y &&& 31)) i ls st I
  | .iushr => sBit (fun x y => (x.toUInt32 >>> (y.toUInt32 &&& Int32.toUInt32 31)).toInt32) i ls st I
  | .ifCond c _ => match st with
    | .inl x :: st => some (if ch then sCc c x 0 else ¬ sCc c x 0, if ch then q.2.2.1 else i + 1, ls, st, I)
    | _ => none
  | .if_icmp c _ => match st with
    | .inl y :: .inl x :: st => some (if ch then sCc c x y else ¬ sCc c x y, if ch then q.2.2.1 else i + 1, ls, st, I)
    | _ => none
  | .goto _ => some (True, q.2.2.1, ls, st, I)
  | .getfield _ => match st with
    | .inr (.inl a) :: st => if cFT q.2.2.1 q.2.2.2 = 2 then some (sObj sh q.2.2.1 a q.2.2.2 ∧ RF a q.2.2.2 ≠ 0, i + 1, ls, .inr (.inl (RF a q.2.2.2)) :: st, I) else some (sObj sh q.2.2.1 a q.2.2.2, i + 1, ls, .inl (I a q.2.2.2) :: st, I)
    | _ => none
  | .putfield _ => match st with
    | .inl x :: .inr (.inl a) :: st => if cFT q.2.2.1 q.2.2.2 = 2 then none else some (sObj sh q.2.2.1 a q.2.2.2 ∧ a ≠ 0 ∧ (cFT q.2.2.1 q.2.2.2 = 1 → x = 0 ∨ x = 1), i + 1, ls, st, sU I a q.2.2.2 x)
    | _ => none
  | .iaload => match st with
    | .inl j :: .inr (.inl a) :: st => some (sArr sh 0 a j, i + 1, ls, .inl (I a j) :: st, I)
    | _ => none
  | .baload => match st with
    | .inl j :: .inr (.inl a) :: st => some (sArr sh 1 a j, i + 1, ls, .inl (I a j) :: st, I)
    | _ => none
  | .iastore => match st with
    | .inl x :: .inl j :: .inr (.inl a) :: st => some (sArr sh 0 a j ∧ a ≠ 0, i + 1, ls, st, sU I a j x)
    | _ => none
  | .bastore => match st with
    | .inl x :: .inl j :: .inr (.inl a) :: st => some (sArr sh 1 a j ∧ a ≠ 0 ∧ (x = 0 ∨ x = 1), i + 1, ls, st, sU I a j x)
    | _ => none
  | .aaload => match st with
    | .inl j :: .inr (.inl a) :: st => some ((sArr sh 3 a j ∨ sArr sh 4 a j) ∧ RF a j ≠ 0, i + 1, ls, .inr (.inl (RF a j)) :: st, I)
    | _ => none
  | .arraylength => match st with
    | .inr (.inl a) :: st => some ((sKd sh a).1 = 0, i + 1, ls, .inl (sKd sh a).2 :: st, I)
    | _ => none
  | .dup => match st with
    | .inl x :: st => some (True, i + 1, ls, .inl x :: .inl x :: st, I)
    | .inr (.inl x) :: st => some (True, i + 1, ls, .inr (.inl x) :: .inr (.inl x) :: st, I)
    | _ => none
  | .dup_x1 => match st with
    | .inl x :: .inr (.inl a) :: st => some (True, i + 1, ls, .inl x :: .inr (.inl a) :: .inl x :: st, I)
    | _ => none
  | .dup_x2 => match st with
    | .inl x :: .inl j :: .inr (.inl a) :: st => some (True, i + 1, ls, .inl x :: .inl j :: .inr (.inl a) :: .inl x :: st, I)
    | _ => none
  | .dup2 => match st with
    | .inl j :: .inr (.inl a) :: st => some (True, i + 1, ls, .inl j :: .inr (.inl a) :: .inl j :: .inr (.inl a) :: st, I)
    | _ => none
  | .pop => match st with
    | .inl _ :: st => some (True, i + 1, ls, st, I)
    | .inr (.inl _) :: st => some (True, i + 1, ls, st, I)
    | _ => none
  | .i2l => match st with
    | .inl x :: st => some (True, i + 1, ls, .inr (.inr x) :: st, I)
    | _ => none
  | .lconst n => some (True, i + 1, ls, .inr (.inr ((n : Nat) : Int)) :: st, I)
  | .lcmp => match st with
    | .inr (.inr y) :: .inr (.inr x) :: st => some (True, i + 1, ls, .inl (if y < x then 1 else if x = y then 0 else -1) :: st, I)
    | _ => none
  | .laload => match st with
    | .inl j :: .inr (.inl a) :: st => some (sArr sh 2 a j, i + 1, ls, .inr (.inr (I a j)) :: st, I)
    | _ => none
  | .lastore => match st with
    | .inr (.inr x) :: .inl j :: .inr (.inl a) :: st => some (sArr sh 2 a j ∧ a ≠ 0, i + 1, ls, st, sU I a j x)
    | _ => none
  | _ => none
def sx (sh : List (Nat × Nat)) (RF : sF) (code : List (Nat × Jvm.ClassFile.Instr × Nat × Nat)) : Nat → List Bool → Nat → List (Option sV) → List sV → sI → sO
  | 0, _, i, ls, st, I => some (True, i, ls, st, I)
  | n + 1, chs, i, ls, st, I => match code[i]? with
    | none => none
    | some q => match sx1 sh RF (chs.headD false) i q ls st I with
      | none => none
      | some (P, i1, ls1, st1, I1) => match sx sh RF code n (match q.2.1 with | .ifCond .. => chs.tail | .if_icmp .. => chs.tail | _ => chs) i1 ls1 st1 I1 with
        | none => none
        | some (P2, r) => some (P ∧ P2, r)
/-! a method: name, bytes, locals, result, instructions (place, instruction, and for a jump its target, for a field its class and number), handlers -/
abbrev sM : Type := MethodName × ByteArray × Nat × Option FieldType × List (Nat × Jvm.ClassFile.Instr × Nat × Nat) × List (Nat × Nat × Nat × Nat)
abbrev sQ : Type := (Option sV ⊕ Nat) → sS → Prop
def sCd (M : sM) : List (Nat × Jvm.ClassFile.Instr × Nat × Nat) := M.2.2.2.2.1
def sPc (M : sM) (i : Nat) : Nat := ((sCd M).getD i (0, .nop, 0, 0)).1
def sVr (v : sV) : Prop := match v with
  | .inl x => sR x
  | .inr (.inl _) => True
  | .inr (.inr x) => sR x
def sV1 (v : sV) : Prop := match v with
  | .inl x => sR x
  | .inr (.inl _) => True
  | .inr (.inr _) => False
theorem sV1_r {v : sV} (h : sV1 v) : sVr v := by
  rcases v with x | a | x
  · exact h
  · trivial
  · exact h.elim
theorem sV1_c {G : sG} {v : sV} (h : sV1 v) : (sE G v).category = 1 := by
  rcases v with x | a | x
  · rfl
  · rfl
  · exact h.elim
/-- the locals hold what the list says -/
def sL (G : sG) (arr : Array Slot) (n : Nat) (ls : List (Option sV)) : Prop := arr.size = n ∧ lv_wf arr ∧ ls.length = n ∧ ∀ (k : Nat) (v : sV), ls[k]? = some (some v) → arr[k]? = some (Slot.val (sE G v)) ∧ sV1 v
def sFE (first : State) (t : State) (L : List Loc) (k n : Nat) : Prop := first.WarmedH t.vm ∧ first.sameButNew ({ t with vm := first.vm } : State) L k n
def sMQ (below : List Frame) (Qc : Array Value → State → Outcome → State → Prop) (a : Array Value) (s : State) (mc ms : Nat) (free : Addr → Prop) : State → Prop := fun t =>
  ∃ o, t.status = .running ∧ Ended t below o ∧ Qc a s o t ∧ ∃ L, sFE s t L mc ms ∧ ∀ q ∈ L, free q.base
def sOut (G : sG) (r : Option sV ⊕ Nat) (o : Outcome) (t : State) : Prop := match r with
  | .inl v => o = .returned (v.map (sE G)) ∧ ∀ w, v = some w → sV1 w
  | .inr k => ∃ (x : Addr) (cell : Cell), o = .threw x ∧ G.1 ≤ x ∧ t.heap[x]? = some cell ∧ cell.vm = .none ∧ t.vm.findClass (cX k) = some cell.cls
def sQc (G : sG) (Q : sQ) : Array Value → State → Outcome → State → Prop := fun _ st o t => (∃ r S, sOut G r o t ∧ Q r S ∧ sP G S t t.heap) ∧ va_F (sA G) st t
def sB (M : sM) (p : Program) (s : State) (m : MethodId) (meth : Method) (c : Code) : Prop :=
  p.tables.exec = Jvm.exec ∧ c.code = M.2.1 ∧ c.maxLocals = M.2.2.1 ∧ meth.sig.returnType = M.2.2.2.1 ∧ meth.locks = false ∧ s.vm.findClass M.1.cls = some m.cls ∧ c.exceptionTable.toList = tableOf M.2.2.2.2.2 ∧ meth.name = M.1.name
def sJ (l : Launch) (G : sG) (M : sM) (rm : Room) (Q : sQ) (κ θ i : Nat) (ls : List (Option sV)) (st : List sV) (S : sS) : Prop :=
  ∀ (p : Program) (e : Env) (s : State) (m : MethodId) (args : Array Value) (below : List Frame) (meth : Method) (c : Code) (H : Heap) (locs : List Loc) (arr : Array Slot),
    sB M p s m meth c → sC G s → G.1 ≤ s.heap.size → sP G S s H → va_S (sA G) s.heap H locs → sL G arr M.2.2.1 ls → (∀ v ∈ st, sVr v) →
    W p l e rm s m args below meth c H locs κ θ (sMQ below (sQc G Q) args s rm.cells rm.slots (sA G)) (F0 m (sPc M i) arr (st.map (sE G)))
def sLen (x : Jvm.ClassFile.Instr) : Nat := match x with
  | .bipush _ => 2
  | .sipush _ => 3
  | .iload _ => 2
  | .aload _ => 2
  | .istore _ => 2
  | .astore _ => 2
  | .iinc .. => 3
  | .ifCond .. => 3
  | .if_icmp .. => 3
  | .goto _ => 3
  | .getfield _ => 3
  | .putfield _ => 3
  | .invokevirtual _ => 3
  | .invokespecial _ => 3
  | .invokestatic _ => 3
  | .new _ => 3
  | .newarray _ => 2
  | .anewarray _ => 3
  | .multianewarray .. => 4
  | .ldc _ => 2
  | .tableswitch .. => 0
  | .lookupswitch .. => 0
  | _ => 1
/-- the field number k of class ci is what the pool's place idx of class own names -/
def sLk (own : String) (idx ci k : Nat) : Bool := match classes[ci]? with
  | some q => decide (k < q.2.2) && (sIn (Cond.fieldLink own idx (q.2.1 k).1 (q.2.1 k).2.1 (q.2.1 k).2.2.1) || sIn (Cond.fieldLinkNest own idx (q.2.1 k).1 (q.2.1 k).2.1 (q.2.1 k).2.2.1 "TermBench"))
  | none => false
def sCk (M : sM) (i : Nat) (q : Nat × Jvm.ClassFile.Instr × Nat × Nat) : Bool :=
  decide (decode M.2.1 q.1 = .ok (q.2.1, if sLen q.2.1 = 0 then sPc M (i + 1) - q.1 else sLen q.2.1)) && (decide (sLen q.2.1 = 0) || decide (sPc M (i + 1) = q.1 + sLen q.2.1)) &&
  (match q.2.1 with
  | .ifCond _ off => decide ((q.1 : Int) + off = (sPc M q.2.2.1 : Int))
  | .if_icmp _ off => decide ((q.1 : Int) + off = (sPc M q.2.2.1 : Int))
  | .goto off => decide ((q.1 : Int) + off = (sPc M q.2.2.1 : Int))
  | .getfield idx => sLk M.1.cls idx q.2.2.1 q.2.2.2
  | .putfield idx => sLk M.1.cls idx q.2.2.1 q.2.2.2
  | _ => true)
def sCert (M : sM) : Prop := ∀ i q, (sCd M)[i]? = some q → q.2.1 ≠ .nop → sCk M i q = true
theorem sCert_of {M : sM} (h : ((List.range (sCd M).length).all fun i => match (sCd M)[i]? with | some q => decide (q.2.1 = .nop) || sCk M i q | none => true) = true) : sCert M := by
  intro i q hq hn
  have h1 := List.all_eq_true.mp h i (List.mem_range.mpr (List.getElem?_eq_some_iff.mp hq).1)
  rw [hq] at h1
  simpa [hn] using h1
section SX
variable {l : Launch} {G : sG} {M : sM} {rm : Room} {Q : sQ} {κ θ i i' : Nat} {ls ls' : List (Option sV)} {st st' : List sV} {S : sS} {I' : sI} {P : Prop} {ch : Bool} {q : Nat × Jvm.ClassFile.Instr × Nat × Nat}
theorem sL_at {arr : Array Slot} {n k : Nat} {v : sV} (h : sL G arr n ls) (hk : ls[k]? = some (some v)) : arr[k]? = some (Slot.val (sE G v)) := (h.2.2.2 k v hk).1
theorem sL_v {arr : Array Slot} {n k : Nat} {v : sV} (h : sL G arr n ls) (hk : ls[k]? = some (some v)) : sVr v := sV1_r (h.2.2.2 k v hk).2
theorem sL_has {arr : Array Slot} {n : Nat} (h : sL G arr n ls) : lv_has arr n ((List.range n).filterMap fun k => match ls[k]? with | some (some v) => some (k, sE G v) | _ => none) := by
  refine ⟨h.1, h.2.1, fun q hq => ?_⟩
  obtain ⟨k, -, hk⟩ := List.mem_filterMap.mp hq
  split at hk
  · rename_i v hv
    cases hk
    exact sL_at h hv
  · cases hk
theorem sL_set {arr : Array Slot} {n k : Nat} {v : sV} (h : sL G arr n ls) (hk : k < n) (hv : sV1 v) : ∃ arr', storeLocals arr k (sE G v) = some arr' ∧ sL G arr' n (ls.set k (some v)) := by
  obtain ⟨arr', e1, e2⟩ := lv_store1 (v := sE G v) (sL_has h) hk (sV1_c hv)
  refine ⟨arr', e1, e2.1, e2.2.1, by rw [List.length_set]; exact h.2.2.1, fun j w hj => ?_⟩
  by_cases hjk : j = k
  · subst hjk
    rw [List.getElem?_set_self (by rw [h.2.2.1]; exact hk)] at hj
    cases hj
    exact ⟨e2.2.2 _ List.mem_cons_self, hv⟩
  · rw [List.getElem?_set_ne (Ne.symm hjk)] at hj
    have hw := h.2.2.2 j w hj
    refine ⟨e2.2.2 (j, sE G w) (List.mem_cons_of_mem _ (List.mem_filter.mpr ⟨List.mem_filterMap.mpr ⟨j, List.mem_range.mpr ?_, by rw [hj]⟩, ?_⟩)), hw.2⟩
    · rw [← h.2.2.1]
      exact (List.getElem?_eq_some_iff.mp hj).1
    · simp [hjk, sV1_c hw.2]
theorem sCk_dec (h : sCk M i q = true) : decode M.2.1 q.1 = .ok (q.2.1, if sLen q.2.1 = 0 then sPc M (i + 1) - q.1 else sLen q.2.1) := by
  unfold sCk at h
  simp only [Bool.and_eq_true, decide_eq_true_eq] at h
  exact h.1.1
theorem sCk_len (h : sCk M i q = true) (hl : sLen q.2.1 ≠ 0) : sPc M (i + 1) = q.1 + sLen q.2.1 := by
  unfold sCk at h
  simp only [Bool.and_eq_true, Bool.or_eq_true, decide_eq_true_eq] at h
  rcases h.1.2 with h | h
  · exact absurd h hl
  · exact h
theorem sPc_at (hq : (sCd M)[i]? = some q) : sPc M i = q.1 := by
  unfold sPc
  rw [List.getD_eq_getElem?_getD, hq]
  rfl
end SX
