/-! what the constructors make: terms, values -/
abbrev rK (d c s : Nat) : Room := { frames := d, cells := c, slots := s, locals := 40 * d + 100 }
theorem oi_1 : sIn (Cond.instanceMethod Lib.objectInit) = true := by decide +kernel
theorem oi_2 : sIn (Cond.code Lib.objectInit ⟨#[0xb1]⟩ 1 none) = true := by decide +kernel
def qS (P : sS → Prop) : sQ := fun r S' => r = .inl none ∧ P S'
def xt (S : sS) (t : Nat) (add : List (Nat × Nat)) (S' : sS) : Prop := S'.1 = S.1 ++ add ∧ S'.2.2.2 = 0 ∧ ∀ b, b < S.1.length → b ≠ t → S'.2.1 b = S.2.1 b ∧ S'.2.2.1 b = S.2.2.1 b
theorem sKd_app {sh r : List (Nat × Nat)} {t : Nat} (h : t < sh.length) : sKd (sh ++ r) t = sKd sh t := by
  unfold sKd
  rw [List.getD_eq_getElem?_getD, List.getD_eq_getElem?_getD, List.getElem?_append_left h]
theorem sKd_last {sh : List (Nat × Nat)} {q : Nat × Nat} : sKd (sh ++ [q]) sh.length = q := by
  unfold sKd
  rw [List.getD_eq_getElem?_getD, List.getElem?_append_right (Nat.le_refl _)]
  simp
section CK
variable {l : Launch} {G : sG} {M M2 : sM} {Q : sQ} {κ θ i : Nat} {ls : List (Option sV)} {rest : List sV} {pc a b : Nat} {S : sS} {d1 c1 s1 d2 c2 s2 : Nat} {d : Nat}
theorem sk_I {idx t : Nat} {P : sS → Prop} (ct : sCert M) (hlk : sLi 0 M2 = true) (hlm : sLm M.1.cls idx M2 = true) (ht : t ≠ 0) (hcall : sCall l G M2 (rK d2 c2 s2) [.inr (.inl t)] S (qS P))
    (k : ∀ S', P S' → sJ l G M (rK d1 c1 s1) Q (κ + c2) (θ + s2) (i + 1) ls rest S') (hq : (sCd M)[i]? = some (pc, .invokespecial idx, a, b) := by rfl) (hnh : M2.2.2.2.2.2 = [] := by rfl) (hrn : M2.2.2.2.1 = none := by rfl) (hcat : (rest.map fun v => (sE G v).category).sum ≤ 8 := by exact Nat.le_of_ble_eq_true rfl) (hd : d2 < d1 := by omega) (hml : M2.2.2.1 ≤ 21 := by decide) (hc : κ + c2 ≤ c1 := by omega) (hs : θ + s2 ≤ s1 := by omega) : sJ l G M (rK d1 c1 s1) Q κ θ i ls (.inr (.inl t) :: rest) S :=
  sj_callI (as := []) hq (ct i _ hq (by simp)) hlk hlm hnh hrn ht hcall hcat hd (by show 8 + (M2.2.2.1 + 11) + (40 * d2 + 100) ≤ 40 * d1 + 100; omega) hc hs (fun v S' h => by obtain ⟨h1, h2⟩ := h; cases h1; exact k S' h2) (fun n S' h => by obtain ⟨h1, -⟩ := h; cases h1)
theorem sk_ret {P : sS → Prop} (ct : sCert M) (hP : P S) (hq : (sCd M)[i]? = some (pc, .return_, a, b) := by rfl) (hr : M.2.2.2.1 = none := by rfl) (hk : κ ≤ c1 := by omega) (hs : θ ≤ s1 := by omega) : sJ l G M (rK d1 c1 s1) (qS P) κ θ i ls [] S :=
  sj_retV ct hq hr hk hs ⟨rfl, hP⟩
theorem sk_obj {idx t : Nat} (ct : sCert M) (hlk : sIn (Cond.methodLink M.1.cls idx Lib.objectInit) = true) (k : sJ l G M (rK d1 c1 s1) Q κ θ (i + 1) ls rest S) (hq : (sCd M)[i]? = some (pc, .invokespecial idx, a, b) := by rfl) (hcat : (rest.map fun v => (sE G v).category).sum ≤ 8 := by exact Nat.le_of_ble_eq_true rfl) (hd : 0 < d1 := by omega) : sJ l G M (rK d1 c1 s1) Q κ θ i ls (.inr (.inl t) :: rest) S := by
  have hc := ct i _ hq (by simp)
  intro p e s m args below meth c H locs arr hB hC h0 hP hS hL hst
  have hdc := sCk_dec hc
  have hn := sCk_len hc (by simp [sLen])
  have kk := k p e s m args below meth c H locs arr hB hC h0 hP hS hL (fun v hv => hst v (List.mem_cons_of_mem _ hv))
  rw [hn] at kk
  rw [sPc_at hq]
  exact W.objInit hB.1 hB.2.1 hB.2.2.2.2.2.1 (hC.1 _ hlk args) (hC.1 _ oi_1 args) (hC.1 _ oi_2 args) rfl (by show arr.size = _; rw [hB.2.2.1]; exact hL.1) rfl hdc hd (by show 2 * 0 + _ + 12 ≤ 40 * d1 + 100; rw [List.map_map]; have : (List.map ((fun v => v.category) ∘ sE G) rest).sum ≤ 8 := hcat; omega) kk
theorem hk_int : (∀ G : sG, (sTy G)[0]? = some (G.2.2.2 0, .int)) ∧ (∀ (s : State) cA, va_RA s cA .int → s.vm.findClass ("[" ++ (FieldType.int).toString) = some cA) ∧ ∀ (G : sG) (n : Nat), ∃ a0, sEn G (0, n) (fun _ _ => 0) (fun _ _ => 0) 0 = .inl (G.2.2.2 0, a0) ∧ ∀ cA, vp_cell cA a0 = arrV cA n (fun _ => defaultValue .int) := ⟨fun _ => rfl, fun _ _ h => h, fun G n => ⟨_, rfl, fun _ => rfl⟩⟩
theorem hk_bool : (∀ G : sG, (sTy G)[1]? = some (G.2.2.2 1, .boolean)) ∧ (∀ (s : State) cA, va_RA s cA .boolean → s.vm.findClass ("[" ++ (FieldType.boolean).toString) = some cA) ∧ ∀ (G : sG) (n : Nat), ∃ a0, sEn G (1, n) (fun _ _ => 0) (fun _ _ => 0) 0 = .inl (G.2.2.2 1, a0) ∧ ∀ cA, vp_cell cA a0 = arrV cA n (fun _ => defaultValue .boolean) := ⟨fun _ => rfl, fun _ _ h => h, fun G n => ⟨_, rfl, fun _ => rfl⟩⟩
theorem hk_long : (∀ G : sG, (sTy G)[2]? = some (G.2.2.2 2, .long)) ∧ (∀ (s : State) cA, va_RA s cA .long → s.vm.findClass ("[" ++ (FieldType.long).toString) = some cA) ∧ ∀ (G : sG) (n : Nat), ∃ a0, sEn G (2, n) (fun _ _ => 0) (fun _ _ => 0) 0 = .inl (G.2.2.2 2, a0) ∧ ∀ cA, vp_cell cA a0 = arrV cA n (fun _ => defaultValue .long) := ⟨fun _ => rfl, fun _ _ h => h, fun G n => ⟨_, rfl, fun _ => rfl⟩⟩
theorem ac_int : sIn (Cond.arrayClass .int) = true := by decide +kernel
theorem ac_bool : sIn (Cond.arrayClass .boolean) = true := by decide +kernel
theorem ac_long : sIn (Cond.arrayClass .long) = true := by decide +kernel
theorem sk_int {n : Nat} (ct : sCert M) (hx : S.2.2.2 = 0) (k : sJ l G M (rK d1 c1 s1) Q (κ + 1) (θ + n) (i + 1) ls (.inr (.inl S.1.length) :: rest) (sMk S (0, n))) (hq : (sCd M)[i]? = some (pc, .newarray .int, a, b) := by rfl) (hn : n ≤ 100000 := by omega) (hc : κ + 1 ≤ c1 := by omega) (hs : θ + n ≤ s1 := by omega) : sJ l G M (rK d1 c1 s1) Q κ θ i ls (.inl (n : Int) :: rest) S :=
  sj_newa 0 ct hq rfl ac_int hk_int.1 hk_int.2.1 hk_int.2.2 (by show n * 4 ≤ _; omega) (by omega) hx hc hs k
theorem sk_bool {n : Nat} (ct : sCert M) (hx : S.2.2.2 = 0) (k : sJ l G M (rK d1 c1 s1) Q (κ + 1) (θ + n) (i + 1) ls (.inr (.inl S.1.length) :: rest) (sMk S (1, n))) (hq : (sCd M)[i]? = some (pc, .newarray .boolean, a, b) := by rfl) (hn : n ≤ 100000 := by omega) (hc : κ + 1 ≤ c1 := by omega) (hs : θ + n ≤ s1 := by omega) : sJ l G M (rK d1 c1 s1) Q κ θ i ls (.inl (n : Int) :: rest) S :=
  sj_newa 1 ct hq rfl ac_bool hk_bool.1 hk_bool.2.1 hk_bool.2.2 (by show n * 1 ≤ _; omega) (by omega) hx hc hs k
/-- a new cell goes into a field of the object that is being made -/
theorem sk_put {idx t y : Nat} (ct : sCert M) (hown : ∃ q : vw_C, classes[a]? = some q ∧ q.1 = M.1.cls ∧ sIn (Cond.fieldLink M.1.cls idx (q.2.1 b).1 (q.2.1 b).2.1 (q.2.1 b).2.2.1) = true) (ho : sObj S.1 a t b) (hy : y ≠ 0) (k : sJ l G M (rK d1 c1 s1) Q κ θ (i + 1) ls rest (S.1, sUF S.2.1 t b y, S.2.2.1, S.2.2.2)) (hq : (sCd M)[i]? = some (pc, .putfield idx, a, b) := by rfl) (hf : cFT a b = 2 := by decide) (hini : M.1.name = "<init>" := by rfl) : sJ l G M (rK d1 c1 s1) Q κ θ i ls (.inr (.inl y) :: .inr (.inl t) :: rest) S :=
  sj_putR ct hq hf hini hown ho hy k
theorem sMk_o {S : sS} {q : Nat × Nat} {b : Nat} (h : b ≠ S.1.length) : (sMk S q).2.1 b = S.2.1 b ∧ (sMk S q).2.2.1 b = S.2.2.1 b := by
  constructor
  · funext j
    show (if b = S.1.length then 0 else S.2.1 b j) = _
    rw [if_neg h]
  · funext j
    show (if b = S.1.length then 0 else S.2.2.1 b j) = _
    rw [if_neg h]
theorem sMk_n {S : sS} {q : Nat × Nat} (j : Int) : (sMk S q).2.2.1 S.1.length j = 0 := by
  show (if S.1.length = S.1.length then 0 else S.2.2.1 S.1.length j) = 0
  rw [if_pos rfl]
theorem sUF_eq (RF : sF) (a : Nat) (j : Int) (y : Nat) : sUF RF a j y a j = y := by unfold sUF; rw [if_pos ⟨rfl, rfl⟩]
theorem sUF_nj {RF : sF} {a : Nat} {j k : Int} {y b : Nat} (h : k ≠ j) : sUF RF a j y b k = RF b k := by unfold sUF; rw [if_neg (fun q => h q.2)]
end CK
theorem oi_T : sIn (Cond.methodLink "TermBench$Term" 3 Lib.objectInit) = true := by decide +kernel
theorem ow_T0 : ∃ q : vw_C, classes[2]? = some q ∧ q.1 = mT_init.1.cls ∧ sIn (Cond.fieldLink mT_init.1.cls 9 (q.2.1 0).1 (q.2.1 0).2.1 (q.2.1 0).2.2.1) = true := ⟨_, rfl, rfl, by decide +kernel⟩
theorem ow_T1 : ∃ q : vw_C, classes[2]? = some q ∧ q.1 = mT_init.1.cls ∧ sIn (Cond.fieldLink mT_init.1.cls 15 (q.2.1 1).1 (q.2.1 1).2.1 (q.2.1 1).2.2.1) = true := ⟨_, rfl, rfl, by decide +kernel⟩
section CKT
variable {l : Launch} {G : sG} {d : Nat}
theorem c_T_in {S : sS} {t : Nat} (ht : t ≠ 0) (hl : t < S.1.length) (hk : sKd S.1 t = (7, 3)) (hx : S.2.2.2 = 0) : sCall l G mT_init (rK (d + 1) 2 200) [.inr (.inl t)] S (qS (fun S' => xt S t [(0, 100), (0, 100)] S' ∧ S'.2.1 t 0 = S.1.length ∧ S'.2.1 t 1 = S.1.length + 1 ∧ S'.2.2.1 t 2 = 1 ∧ (∀ j, S'.2.2.1 S.1.length j = if j = 0 then -1 else 0) ∧ ∀ j, S'.2.2.1 (S.1.length + 1) j = if j = 0 then 1 else 0)) := by
  obtain ⟨sh, RF, I, x⟩ := S
  change x = 0 at hx
  change sKd sh t = _ at hk
  change t < sh.length at hl
  subst hx
  refine sCall_of (by decide) (Nat.le_of_ble_eq_true rfl) (sV1s_c trivial sV1s_n) rfl ?_
  show sJ l G mT_init (rK (d + 1) 2 200) _ 0 0 0 [some (.inr (.inl t))] [] (sh, RF, I, 0)
  refine sg_T_in_0 (k := ?_)
  refine sk_obj ct_T_init oi_T ?_
  refine sg_T_in_1 (k := ?_)
  refine sk_int (n := 100) ct_T_init rfl ?_
  have k1 : sKd (sh ++ [(0, 100)]) t = (7, 3) := by rw [sKd_app hl]; exact hk
  refine sk_put (t := t) ct_T_init ow_T0 (by show sObj (sh ++ [(0, 100)]) 2 t 0; unfold sObj; rw [k1]; decide) (by show sh.length ≠ 0; omega) ?_
  refine sg_T_in_2 (k := ?_)
  refine sk_int (n := 100) ct_T_init rfl ?_
  have l1 : (sh ++ [((0 : Nat), (100 : Nat))]).length = sh.length + 1 := by rw [List.length_append, List.length_singleton]
  have k2 : sKd (sh ++ [(0, 100)] ++ [(0, 100)]) t = (7, 3) := by rw [sKd_app (by omega)]; exact k1
  refine sk_put (t := t) ct_T_init ow_T1 (by show sObj (sh ++ [(0, 100)] ++ [(0, 100)]) 2 t 1; unfold sObj; rw [k2]; decide) (by show (sh ++ [((0 : Nat), (100 : Nat))]).length ≠ 0; omega) ?_
  have main : ∀ (RF2 : sF) (I2 : sI), RF2 t 0 = sh.length → RF2 t 1 = sh.length + 1 → (∀ b, b < sh.length → b ≠ t → RF2 b = RF b) → (∀ b, b < sh.length → I2 b = I b) → (∀ j, I2 sh.length j = 0) → (∀ j, I2 (sh.length + 1) j = 0) → sJ l G mT_init (rK (d + 1) 2 200) (qS (fun S' => xt (sh, RF, I, 0) t [(0, 100), (0, 100)] S' ∧ S'.2.1 t 0 = sh.length ∧ S'.2.1 t 1 = sh.length + 1 ∧ S'.2.2.1 t 2 = 1 ∧ (∀ j, S'.2.2.1 sh.length j = if j = 0 then -1 else 0) ∧ ∀ j, S'.2.2.1 (sh.length + 1) j = if j = 0 then 1 else 0)) (0 + 1 + 1) (0 + 100 + 100) 10 [some (.inr (.inl t))] [] (sh ++ [(0, 100)] ++ [(0, 100)], RF2, I2, 0) := by
    intro RF2 I2 r0 r1 rb ib j0 j1
    have o0 : sObj (sh ++ [(0, 100)] ++ [(0, 100)]) 2 t 0 := by unfold sObj; rw [k2]; decide
    have o1 : sObj (sh ++ [(0, 100)] ++ [(0, 100)]) 2 t 1 := by unfold sObj; rw [k2]; decide
    have o2 : sObj (sh ++ [(0, 100)] ++ [(0, 100)]) 2 t 2 := by unfold sObj; rw [k2]; decide
    have a0 : sArr (sh ++ [(0, 100)] ++ [(0, 100)]) 0 sh.length 0 := by
      unfold sArr
      rw [sKd_app (by omega), sKd_last]
      decide
    have a1 : sArr (sh ++ [(0, 100)] ++ [(0, 100)]) 0 (sh.length + 1) 0 := by
      unfold sArr
      rw [← l1, sKd_last]
      decide
    refine sg_T_in_3 (c2 := sh.length) (c6 := sh.length + 1) (e2 := r0) (e6 := r1) (k := ?_)
    refine sk_ret ct_T_init ⟨⟨by show sh ++ [(0, 100)] ++ [(0, 100)] = _; rw [List.append_assoc]; rfl, rfl, fun b hb hbt => ⟨rb b hb hbt, ?_⟩⟩, r0, r1, hU_eq _ _ _ _, fun j => ?_, fun j => ?_⟩
    · change b < sh.length at hb
      show sU (sU (sU I2 sh.length 0 (-1)) (sh.length + 1) 0 1) t 2 1 b = I b
      rw [sU_ne hbt, sU_ne (by omega), sU_ne (by omega)]
      exact ib b hb
    · show sU (sU (sU I2 sh.length 0 (-1)) (sh.length + 1) 0 1) t 2 1 sh.length j = _
      rw [sU_ne (by omega), sU_ne (by omega)]
      by_cases hj : j = 0
      · rw [hj, hU_eq, if_pos rfl]
      · rw [hU_nj hj, if_neg hj, j0]
    · show sU (sU (sU I2 sh.length 0 (-1)) (sh.length + 1) 0 1) t 2 1 (sh.length + 1) j = _
      rw [sU_ne (by omega)]
      by_cases hj : j = 0
      · rw [hj, hU_eq, if_pos rfl]
      · rw [hU_nj hj, if_neg hj, sU_ne (by omega), j1]
  refine main _ _ ?_ ?_ ?_ ?_ ?_ ?_
  · rw [sUF_nj (by decide), (sMk_o (by show t ≠ (sh ++ [((0 : Nat), (100 : Nat))]).length; omega)).1]
    exact sUF_eq _ _ _ _
  · exact (sUF_eq _ _ _ _).trans l1
  · intro b hb hbt
    rw [sUF_ne hbt, (sMk_o (by show b ≠ (sh ++ [((0 : Nat), (100 : Nat))]).length; omega)).1]
    show sUF _ t 0 _ b = _
    rw [sUF_ne hbt, (sMk_o (by show b ≠ sh.length; omega)).1]
  · intro b hb
    show (sMk (sh ++ [(0, 100)], _, (sMk (sh, RF, I, 0) (0, 100)).2.2.1, 0) (0, 100)).2.2.1 b = _
    rw [(sMk_o (by show b ≠ (sh ++ [((0 : Nat), (100 : Nat))]).length; omega)).2]
    show (sMk (sh, RF, I, 0) (0, 100)).2.2.1 b = _
    rw [(sMk_o (by show b ≠ sh.length; omega)).2]
  · intro j
    show (sMk (sh ++ [(0, 100)], _, (sMk (sh, RF, I, 0) (0, 100)).2.2.1, 0) (0, 100)).2.2.1 sh.length j = _
    rw [(sMk_o (by show sh.length ≠ (sh ++ [((0 : Nat), (100 : Nat))]).length; omega)).2]
    exact sMk_n (q := (0, 100)) j
  · intro j
    rw [← l1]
    exact sMk_n (q := (0, 100)) j
end CKT
