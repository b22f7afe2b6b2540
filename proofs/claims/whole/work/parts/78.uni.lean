/-! unify by nodes: the values are nodes -/
def tN (ar : Int → Nat) (cs : List Int) (bk : Nat → Int) (n : Nat) : List Int := (f_s ar cs n).map (shv (bk n))
def uX (ar : Int → Nat) (pr : Int → Bool) (cs : List Int) (bk : Nat → Int) : Prop := (∃ k, f_wf ar k cs) ∧ (∀ c, c < 0 → ar c = 0) ∧ (∀ c, c < 0 → pr c = false) ∧ (∀ c ∈ cs, -6 ≤ c ∧ c < 40) ∧ ∀ n, (h : n < cs.length) → (bk n = 0 ∨ bk n = 6) ∧ ∀ i, i < ar cs[n] → bk (ap ar cs n i) = bk n
def uI (ar : Int → Nat) (pr : Int → Bool) (cs : List Int) (bk : Nat → Int) (vo : Int → Int) (th : Int → List Int) (ρ : Nat → Nat) : Prop :=
  (∀ v, 0 ≤ v → v < 12 → vo v = -1 ∨ (0 ≤ vo v ∧ vo v < cs.length)) ∧ (∀ v, 0 ≤ v → v < 12 → vo v = -1 → th (-1 - v) = [-1 - v]) ∧ (∀ v, 0 ≤ v → v < 12 → vo v ≠ -1 → th (-1 - v) = f_sub th (tN ar cs bk (vo v).toNat)) ∧ (∀ c, c < 0 → f_wf ar 1 (th c) ∧ pr ((th c).headD 0) = false) ∧
  ∀ n, (h : n < cs.length) → ρ n < cs.length ∧ (∀ i, i < ar cs[n] → ρ (ap ar cs n i) < ρ n) ∧ (cs[n] < 0 → vo (-1 - cs[n] + bk n) ≠ -1 → ρ (vo (-1 - cs[n] + bk n)).toNat < ρ n)
theorem shv_ar {ar : Int → Nat} (hv : ∀ c, c < 0 → ar c = 0) {b : Int} (hb : b = 0 ∨ b = 6) (c : Int) : ar (shv b c) = ar c := by
  unfold shv
  by_cases hc : c < 0
  · rw [if_pos hc, hv c hc, hv _ (by omega)]
  · rw [if_neg hc]
section UN
variable {ar : Int → Nat} {pr : Int → Bool} {cs : List Int} {bk : Nat → Int}
theorem tN_v (X : uX ar pr cs bk) {n : Nat} (hn : n < cs.length) (hc : cs[n] < 0) : tN ar cs bk n = [cs[n] - bk n] := by
  obtain ⟨⟨k, hk⟩, hv, -⟩ := X
  unfold tN
  rw [pre_end ar hk hn, hv _ hc, pre_0]
  unfold shv
  simp [hc]
theorem tN_c (X : uX ar pr cs bk) {n : Nat} (hn : n < cs.length) (hc : ¬ cs[n] < 0) : tN ar cs bk n = cs[n] :: (pre ar cs n (ar cs[n])).map (shv (bk n)) := by
  obtain ⟨⟨k, hk⟩, hv, -⟩ := X
  unfold tN
  rw [pre_end ar hk hn, List.map_cons]
  congr 1
  unfold shv
  rw [if_neg hc]
theorem tN_s (X : uX ar pr cs bk) {n i : Nat} (hn : n < cs.length) (hi : i < ar cs[n]) : (pre ar cs n (i + 1)).map (shv (bk n)) = (pre ar cs n i).map (shv (bk n)) ++ tN ar cs bk (ap ar cs n i) := by
  obtain ⟨⟨k, hk⟩, -, -, -, hb⟩ := X
  rw [pre_s ar hk hn hi, List.map_append]
  unfold tN
  rw [(hb n hn).2 i hi]
theorem tN_wf (X : uX ar pr cs bk) {n : Nat} (hn : n < cs.length) : f_wf ar 1 (tN ar cs bk n) := by
  obtain ⟨⟨k, hk⟩, hv, -, -, hb⟩ := X
  exact f_wf_map ar _ (shv_ar hv (hb n hn).1) _ _ (f_s_wf ar hk hn)
theorem pre_wf (ar : Int → Nat) {cs : List Int} {k p : Nat} (h : f_wf ar k cs) (hp : p < cs.length) : ∀ i, i ≤ ar cs[p] → f_wf ar i (pre ar cs p i) := by
  intro i hi
  obtain ⟨m, -, -, h2⟩ := f_at ar h hp
  exact (f_split ar _ i (m + ar cs[p] - i) (by rw [show i + (m + ar cs[p] - i) = m + ar cs[p] by omega]; exact h2)).1
theorem tP_wf (X : uX ar pr cs bk) {n : Nat} (hn : n < cs.length) {i : Nat} (hi : i ≤ ar cs[n]) : f_wf ar i ((pre ar cs n i).map (shv (bk n))) := by
  obtain ⟨⟨k, hk⟩, hv, -, -, hb⟩ := X
  exact f_wf_map ar _ (shv_ar hv (hb n hn).1) _ _ (pre_wf ar hk hn i hi)
theorem jv_b (X : uX ar pr cs bk) {n : Nat} (hn : n < cs.length) (hc : cs[n] < 0) : 0 ≤ -1 - cs[n] + bk n ∧ -1 - cs[n] + bk n < 12 := by
  have h1 := X.2.2.2.1 cs[n] (List.getElem_mem hn)
  have h2 := (X.2.2.2.2 n hn).1
  omega
theorem tN_mem (X : uX ar pr cs bk) {n i : Nat} (hn : n < cs.length) (hi : i < ar cs[n]) {c : Int} (h : c ∈ tN ar cs bk (ap ar cs n i)) : c ∈ tN ar cs bk n := by
  unfold tN at h ⊢
  obtain ⟨e, he, rfl⟩ := List.mem_map.mp h
  rw [(X.2.2.2.2 n hn).2 i hi]
  obtain ⟨k, hk⟩ := X.1
  exact List.mem_map_of_mem (f_s_memp ar hk hn hi he)
theorem f_sub_mono {σ : Int → List Int} {l l' : List Int} {e : Int} (h : ∀ c ∈ l, c ∈ l') (he : e ∈ f_sub σ l) : e ∈ f_sub σ l' := by
  unfold f_sub at he ⊢
  obtain ⟨c, hc, h2⟩ := List.mem_flatMap.mp he
  exact List.mem_flatMap.mpr ⟨c, h c hc, h2⟩
/-- the node's row with all values -/
theorem sN_u {vo : Int → Int} {th : Int → List Int} {ρ : Nat → Nat} (X : uX ar pr cs bk) (h : uI ar pr cs bk vo th ρ) {n : Nat} (hn : n < cs.length) (hc : cs[n] < 0) (hu : vo (-1 - cs[n] + bk n) = -1) : f_sub th (tN ar cs bk n) = [cs[n] - bk n] := by
  have hj := jv_b X hn hc
  have := h.2.1 _ hj.1 hj.2 hu
  rw [show -1 - (-1 - cs[n] + bk n) = cs[n] - bk n by omega] at this
  rw [tN_v X hn hc, f_sub_c, if_pos (by omega), f_sub_nil, List.append_nil, this]
theorem sN_b {vo : Int → Int} {th : Int → List Int} {ρ : Nat → Nat} (X : uX ar pr cs bk) (h : uI ar pr cs bk vo th ρ) {n : Nat} (hn : n < cs.length) (hc : cs[n] < 0) (hu : vo (-1 - cs[n] + bk n) ≠ -1) : f_sub th (tN ar cs bk n) = f_sub th (tN ar cs bk (vo (-1 - cs[n] + bk n)).toNat) ∧ (vo (-1 - cs[n] + bk n)).toNat < cs.length := by
  have hj := jv_b X hn hc
  have := h.2.2.1 _ hj.1 hj.2 hu
  have h1 := h.1 _ hj.1 hj.2
  rw [show -1 - (-1 - cs[n] + bk n) = cs[n] - bk n by omega] at this
  exact ⟨by rw [tN_v X hn hc, f_sub_c, if_pos (by omega), f_sub_nil, List.append_nil, this], by omega⟩
theorem sN_c {th : Int → List Int} (X : uX ar pr cs bk) {n : Nat} (hn : n < cs.length) (hc : ¬ cs[n] < 0) : f_sub th (tN ar cs bk n) = cs[n] :: f_sub th ((pre ar cs n (ar cs[n])).map (shv (bk n))) := by
  rw [tN_c X hn hc, f_sub_c, if_neg hc, List.singleton_append]
def one (w : Int) (Z : List Int) : Int → List Int := fun c => if c = w then Z else [c]
theorem one_id {w : Int} {Z : List Int} : ∀ {l : List Int}, w ∉ l → f_sub (one w Z) l = l := by
  intro l
  induction l with
  | nil => intro _; rfl
  | cons c l ih =>
    intro h
    rw [f_sub_c, ih (fun h2 => h (List.mem_cons_of_mem _ h2))]
    have : c ≠ w := fun e => h (by rw [e]; exact List.mem_cons_self)
    unfold one
    rw [if_neg this]
    simp
/-- how many nodes stand lower -/
def cnt (ρ : Nat → Nat) (t : Nat) : Nat → Nat
  | 0 => 0
  | n + 1 => cnt ρ t n + (if ρ n < t then 1 else 0)
theorem cnt_le (ρ : Nat → Nat) {t t' : Nat} (h : t ≤ t') : ∀ n, cnt ρ t n ≤ cnt ρ t' n ∧ cnt ρ t n ≤ n := by
  intro n
  induction n with
  | zero => exact ⟨Nat.le_refl _, Nat.le_refl _⟩
  | succ n ih =>
    simp only [cnt]
    by_cases h1 : ρ n < t
    · rw [if_pos h1, if_pos (by omega)]; omega
    · rw [if_neg h1]
      split <;> omega
theorem cnt_lt (ρ : Nat → Nat) {t t' m : Nat} (h : t ≤ t') (h1 : t ≤ ρ m) (h2 : ρ m < t') : ∀ n, m < n → cnt ρ t n < cnt ρ t' n := by
  intro n
  induction n with
  | zero => intro h; omega
  | succ n ih =>
    intro hm
    simp only [cnt]
    by_cases hmn : m = n
    · subst hmn
      have := (cnt_le ρ h m).1
      rw [if_neg (by omega), if_pos h2]
      omega
    · have := ih (by omega)
      by_cases h3 : ρ n < t
      · rw [if_pos h3, if_pos (by omega)]; omega
      · rw [if_neg h3]
        split <;> omega
theorem cnt_n (ρ : Nat → Nat) {t m : Nat} (h1 : t ≤ ρ m) : ∀ n, m < n → cnt ρ t n < n := by
  intro n
  induction n with
  | zero => intro h; omega
  | succ n ih =>
    intro hm
    simp only [cnt]
    by_cases hmn : m = n
    · subst hmn
      have := (cnt_le ρ (Nat.le_refl t) m).2
      rw [if_neg (by omega)]
      omega
    · have := ih (by omega)
      split <;> omega
theorem uI_bind {vo : Int → Int} {th : Int → List Int} {ρ : Nat → Nat} (X : uX ar pr cs bk) (h : uI ar pr cs bk vo th ρ) {v : Int} (hv0 : 0 ≤ v) (hv1 : v < 12) (hu : vo v = -1) {y : Nat} (hy : y < cs.length) (hno : (-1 - v) ∉ f_sub th (tN ar cs bk y)) (hpr : pr ((f_sub th (tN ar cs bk y)).headD 0) = false) :
    ∃ ρ', uI ar pr cs bk (bU vo v y) (fun c => f_sub (one (-1 - v) (f_sub th (tN ar cs bk y))) (th c)) ρ' := by
  have hvr := X.2.1
  have hpn := X.2.2.1
  obtain ⟨h1, h2, h3, h4, h5⟩ := id h
  generalize hZ : f_sub th (tN ar cs bk y) = Z at *
  have hZw : f_wf ar 1 Z := by rw [← hZ]; exact f_sub_wf ar _ hvr (fun c hc => (h4 c hc).1) _ _ (tN_wf X hy)
  have hst : ∀ l, f_sub (fun c => f_sub (one (-1 - v) Z) (th c)) l = f_sub (one (-1 - v) Z) (f_sub th l) := fun l => (f_sub_sub th (one (-1 - v) Z) l).symm
  obtain ⟨ρ1, rin, rout⟩ : ∃ ρ1 : Nat → Nat, (∀ n, (-1 - v) ∈ f_sub th (tN ar cs bk n) → ρ1 n = ρ n + ρ y + 1) ∧ ∀ n, (-1 - v) ∉ f_sub th (tN ar cs bk n) → ρ1 n = ρ n := ⟨fun n => if (-1 - v) ∈ f_sub th (tN ar cs bk n) then ρ n + ρ y + 1 else ρ n, fun n hm => if_pos hm, fun n hm => if_neg hm⟩
  have rlo : ∀ n, ρ n ≤ ρ1 n := fun n => by
    by_cases hm : (-1 - v) ∈ f_sub th (tN ar cs bk n)
    · rw [rin n hm]; omega
    · rw [rout n hm]; exact Nat.le_refl _
  have edge : ∀ a b : Nat, b < cs.length → ρ1 b < ρ1 a → cnt ρ1 (ρ1 b) cs.length < cnt ρ1 (ρ1 a) cs.length := fun a b hb hlt => cnt_lt ρ1 (m := b) (by omega) (Nat.le_refl _) hlt _ hb
  refine ⟨fun n => cnt ρ1 (ρ1 n) cs.length, fun w g1 g2 => ?_, fun w g1 g2 g3 => ?_, fun w g1 g2 g3 => ?_, fun c hc => ?_, fun n hn => ?_⟩
  · unfold bU
    by_cases hw : w = v
    · rw [if_pos hw]; right; omega
    · rw [if_neg hw]; exact h1 w g1 g2
  · unfold bU at g3
    by_cases hw : w = v
    · rw [if_pos hw] at g3; omega
    · rw [if_neg hw] at g3
      show f_sub (one (-1 - v) Z) (th (-1 - w)) = _
      rw [h2 w g1 g2 g3, one_id (fun hm => by rw [List.mem_singleton] at hm; omega)]
  · show f_sub (one (-1 - v) Z) (th (-1 - w)) = _
    rw [hst]
    unfold bU at g3 ⊢
    by_cases hw : w = v
    · subst hw
      rw [if_pos rfl, h2 w g1 g2 hu, show ((y : Int)).toNat = y from rfl, hZ, one_id hno, f_sub_c, if_pos (by omega), f_sub_nil, List.append_nil]
      unfold one
      rw [if_pos rfl]
    · rw [if_neg hw] at g3 ⊢
      rw [h3 w g1 g2 g3]
  · have how : ∀ c, c < 0 → f_wf ar 1 (one (-1 - v) Z c) := fun c hc => by
      unfold one
      by_cases hw : c = -1 - v
      · rw [if_pos hw]; exact hZw
      · rw [if_neg hw, f_wf_c, hvr c hc]; rfl
    refine ⟨f_sub_wf ar _ hvr how _ _ (h4 c hc).1, ?_⟩
    have h6 := (h4 c hc).2
    have h7 := (h4 c hc).1
    show pr ((f_sub (one (-1 - v) Z) (th c)).headD 0) = false
    generalize th c = w at h6 h7 ⊢
    cases w with
    | nil => exact absurd rfl (f_wf_ne ar h7)
    | cons e w =>
      rw [f_sub_c]
      by_cases he : e < 0
      · rw [if_pos he]
        unfold one
        by_cases hw : e = -1 - v
        · rw [if_pos hw]
          cases Z with
          | nil => exact absurd rfl (f_wf_ne ar hZw)
          | cons z Z => exact hpr
        · rw [if_neg hw]
          exact hpn e he
      · rw [if_neg he]
        exact h6
  · refine ⟨cnt_n ρ1 (m := n) (Nat.le_refl _) _ hn, fun i hi => ?_, fun hc hb => ?_⟩
    · obtain ⟨k, hk⟩ := X.1
      refine edge n _ (ap_lt ar hk hn hi).2 ?_
      have hr := (h5 n hn).2.1 i hi
      have hlo := rlo n
      by_cases hm : (-1 - v) ∈ f_sub th (tN ar cs bk (ap ar cs n i))
      · rw [rin _ hm, rin n (f_sub_mono (fun c hc => tN_mem X hn hi hc) hm)]
        omega
      · rw [rout _ hm]
        omega
    · have hj := jv_b X hn hc
      unfold bU at hb ⊢
      by_cases hw : -1 - cs[n] + bk n = v
      · rw [if_pos hw, show ((y : Int)).toNat = y from rfl]
        refine edge n y hy ?_
        rw [rout y (by rw [hZ]; exact hno), rin n (by rw [sN_u X h hn hc (by rw [hw]; exact hu), List.mem_singleton]; omega)]
        omega
      · rw [if_neg hw] at hb ⊢
        obtain ⟨e1, e2⟩ := sN_b X h hn hc hb
        refine edge n _ e2 ?_
        have hr := (h5 n hn).2.2 hc hb
        by_cases hm : (-1 - v) ∈ f_sub th (tN ar cs bk n)
        · rw [rin n hm, rin _ (by rw [← e1]; exact hm)]
          omega
        · rw [rout n hm, rout _ (by rw [← e1]; exact hm)]
          exact hr
def sat (ar : Int → Nat) (cs : List Int) (bk : Nat → Int) (vo : Int → Int) (σ : Int → List Int) : Prop := ∀ v, 0 ≤ v → v < 12 → vo v ≠ -1 → σ (-1 - v) = f_sub σ (tN ar cs bk (vo v).toNat)
theorem sat_th {vo : Int → Int} {th : Int → List Int} {ρ : Nat → Nat} {σ : Int → List Int} (X : uX ar pr cs bk) (h : uI ar pr cs bk vo th ρ) (hs : sat ar cs bk vo σ) : ∀ (N n : Nat), ρ n < N → n < cs.length → f_sub σ (f_sub th (tN ar cs bk n)) = f_sub σ (tN ar cs bk n) := by
  intro N
  induction N with
  | zero => intro n h0; omega
  | succ N ih =>
    intro n hN hn
    by_cases hc : cs[n] < 0
    · by_cases hu : vo (-1 - cs[n] + bk n) = -1
      · rw [sN_u X h hn hc hu, tN_v X hn hc]
      · obtain ⟨e1, e2⟩ := sN_b X h hn hc hu
        have hr := (h.2.2.2.2 n hn).2.2 hc hu
        have hj := jv_b X hn hc
        have h9 := hs _ hj.1 hj.2 hu
        rw [show -1 - (-1 - cs[n] + bk n) = cs[n] - bk n by omega] at h9
        rw [e1, ih _ (by omega) e2, ← h9, tN_v X hn hc, f_sub_c, if_pos (by omega), f_sub_nil, List.append_nil]
    · rw [sN_c X hn hc, tN_c X hn hc, f_sub_c, f_sub_c]
      congr 1
      have key : ∀ i, i ≤ ar cs[n] → f_sub σ (f_sub th ((pre ar cs n i).map (shv (bk n)))) = f_sub σ ((pre ar cs n i).map (shv (bk n))) := by
        intro i
        induction i with
        | zero => intro _; rw [pre_0]; rfl
        | succ i ihi =>
          intro hi
          obtain ⟨k, hk⟩ := X.1
          have hr := (h.2.2.2.2 n hn).2.1 i (by omega)
          rw [tN_s X hn (by omega), f_sub_app, f_sub_app, f_sub_app, ihi (by omega), ih _ (by omega) (ap_lt ar hk hn (by omega)).2]
      exact key _ (Nat.le_refl _)
theorem sat_c {vo : Int → Int} {th : Int → List Int} {ρ : Nat → Nat} {σ : Int → List Int} (X : uX ar pr cs bk) (h : uI ar pr cs bk vo th ρ) (hs : sat ar cs bk vo σ) (c : Int) (h0 : -12 ≤ c) (h1 : c < 0) : f_sub σ (th c) = σ c := by
  have e : -1 - (-1 - c) = c := by omega
  by_cases hu : vo (-1 - c) = -1
  · have := h.2.1 (-1 - c) (by omega) (by omega) hu
    rw [e] at this
    rw [this, f_sub_c, if_pos h1, f_sub_nil, List.append_nil]
  · have h2 := h.2.2.1 (-1 - c) (by omega) (by omega) hu
    have h3 := hs (-1 - c) (by omega) (by omega) hu
    have h4 := h.1 (-1 - c) (by omega) (by omega)
    rw [e] at h2 h3
    rw [h2, sat_th X h hs _ _ (Nat.lt_succ_self _) (by omega), h3]
/-- a way through the nodes that ends at one, and its length -/
def wk (ar : Int → Nat) (cs : List Int) (bk : Nat → Int) (vo : Int → Int) : Nat → Nat → Prop
  | 0, n => n < cs.length
  | q + 1, m => ∃ n, ∃ h : n < cs.length, wk ar cs bk vo q n ∧ ((∃ i, i < ar cs[n] ∧ m = ap ar cs n i) ∨ (cs[n] < 0 ∧ vo (-1 - cs[n] + bk n) ≠ -1 ∧ m = (vo (-1 - cs[n] + bk n)).toNat))
theorem wk_b {vo : Int → Int} {th : Int → List Int} {ρ : Nat → Nat} (h : uI ar pr cs bk vo th ρ) : ∀ {q n : Nat}, wk ar cs bk vo q n → q + ρ n < cs.length := by
  intro q
  induction q with
  | zero => intro n hn; have := (h.2.2.2.2 n hn).1; omega
  | succ q ih =>
    intro m hw
    obtain ⟨n, hn, w, hw⟩ := hw
    have h1 := ih w
    rcases hw with ⟨i, hi, rfl⟩ | ⟨hc, hu, rfl⟩
    · have := (h.2.2.2.2 n hn).2.1 i hi; omega
    · have := (h.2.2.2.2 n hn).2.2 hc hu; omega
theorem wk_ext (X : uX ar pr cs bk) {vo vo' : Int → Int} (he : ∀ v, 0 ≤ v → v < 12 → vo v ≠ -1 → vo' v = vo v) : ∀ {q n : Nat}, wk ar cs bk vo q n → wk ar cs bk vo' q n := by
  intro q
  induction q with
  | zero => intro n hn; exact hn
  | succ q ih =>
    intro m hw
    obtain ⟨n, hn, w, hw⟩ := hw
    refine ⟨n, hn, ih w, ?_⟩
    rcases hw with hw | ⟨hc, hu, rfl⟩
    · exact Or.inl hw
    · have hj := jv_b X hn hc
      have e := he _ hj.1 hj.2 hu
      exact Or.inr ⟨hc, by rw [e]; exact hu, by rw [e]⟩
def uE (vo : Int → Int) (th : Int → List Int) (vo' : Int → Int) (th' : Int → List Int) : Prop := (∀ v, 0 ≤ v → v < 12 → vo v ≠ -1 → vo' v = vo v) ∧ ∃ δ, ∀ c, th' c = f_sub δ (th c)
theorem uE_sub {vo vo' : Int → Int} {th th' : Int → List Int} (h : uE vo th vo' th') {a b : List Int} (he : f_sub th a = f_sub th b) : f_sub th' a = f_sub th' b := by
  obtain ⟨-, δ, hδ⟩ := h
  have : ∀ l, f_sub th' l = f_sub δ (f_sub th l) := fun l => by
    rw [f_sub_sub]
    exact f_sub_congr (fun c _ _ => hδ c)
  rw [this, this, he]
theorem f_sub_idd (l : List Int) : f_sub (fun c => [c]) l = l := by
  induction l with
  | nil => rfl
  | cons c l ih =>
    rw [f_sub_c, ih]
    split <;> rfl
theorem uE_refl (vo : Int → Int) (th : Int → List Int) : uE vo th vo th := ⟨fun _ _ _ _ => rfl, fun c => [c], fun c => (f_sub_idd _).symm⟩
theorem uE_trans {vo vo1 vo2 : Int → Int} {th th1 th2 : Int → List Int} (h1 : uE vo th vo1 th1) (h2 : uE vo1 th1 vo2 th2) : uE vo th vo2 th2 := by
  obtain ⟨a1, δ1, b1⟩ := h1
  obtain ⟨a2, δ2, b2⟩ := h2
  refine ⟨fun v g1 g2 g3 => ?_, fun c => f_sub δ2 (δ1 c), fun c => ?_⟩
  · have e := a1 v g1 g2 g3
    rw [a2 v g1 g2 (by rw [e]; exact g3), e]
  · rw [b2, b1, f_sub_sub]
def gdS (ar : Int → Nat) (pr : Int → Bool) (σ : Int → List Int) : Prop := ∀ c, c < 0 → f_wf ar 1 (σ c) ∧ pr ((σ c).headD 0) = false
end UN
