/-! the reference's state; symbol, put, keep, code, bound -/
def rL (I : sI) (f : Nat) (n : Int) (w : List Int) : Prop := n = w.length ∧ ∀ k : Nat, (h : k < w.length) → I f k = w[k]
def rS (I : sI) (ar : Int → Nat) (pr : Int → Bool) (ns : Int) (rw : List Int) (lk nr mo : Int) (sl lv : Int → List Int) : Prop := I 84 1 = ns ∧ rA I ar ∧ rP I pr ∧ rL I 86 (I 84 2) rw ∧ I 84 3 = lk ∧ I 84 4 = nr ∧ I 84 12 = mo ∧ (∀ a, okS a → rL I (89 + a.toNat) (I 105 a) (sl a)) ∧ ∀ v, 0 ≤ v → v < 6 → rL I (107 + v.toNat) (I 113 v) (lv v)
/-- what the rest of the world sees -/
def fR (I I' : sI) : Prop := ∀ w, (w < 84 ∨ 123 < w) → I' w = I w
def scF (I I' : sI) : Prop := (∀ w, (w < 114 ∨ 123 < w) → w ≠ 84 → I' w = I w) ∧ ∀ j, 1 ≤ j → j ≤ 12 → I' 84 j = I 84 j
def slU (sl : Int → List Int) (a : Int) (w : List Int) : Int → List Int := fun b => if b = a then w else sl b
theorem scF_refl (I : sI) : scF I I := ⟨fun _ _ _ => rfl, fun _ _ _ => rfl⟩
theorem scF_trans {I I1 I2 : sI} (h1 : scF I I1) (h2 : scF I1 I2) : scF I I2 := ⟨fun w g1 g2 => by rw [h2.1 w g1 g2, h1.1 w g1 g2], fun j g1 g2 => by rw [h2.2 j g1 g2, h1.2 j g1 g2]⟩
theorem scF_R {I I' : sI} (h : scF I I') : fR I I' := fun w g => h.1 w (by omega) (by omega)
theorem scF_0 (I : sI) (z : Int) : scF I (sU I 84 0 z) := ⟨fun w _ g => sU_ne g, fun j g1 _ => hU_nj (by omega)⟩
theorem rS_upd {I I' : sI} {ar : Int → Nat} {pr : Int → Bool} {ns : Int} {rw : List Int} {lk nr mo : Int} {sl lv : Int → List Int} (h : rS I ar pr ns rw lk nr mo sl lv) (hf : scF I I') : rS I' ar pr ns rw lk nr mo sl lv := by
  obtain ⟨h1, h2, h3, h4, h5, h6, h7, h8, h9⟩ := h
  obtain ⟨f1, f2⟩ := hf
  refine ⟨by rw [f2 1 (by omega) (by omega)]; exact h1, ⟨h2.1, fun c g1 g2 => by rw [f1 85 (by omega) (by omega)]; exact h2.2 c g1 g2⟩, ⟨h3.1, fun c g1 g2 => by rw [f1 87 (by omega) (by omega)]; exact h3.2 c g1 g2⟩, ?_, by rw [f2 3 (by omega) (by omega)]; exact h5, by rw [f2 4 (by omega) (by omega)]; exact h6, by rw [f2 12 (by omega) (by omega)]; exact h7, fun a ha => ?_, fun v g1 g2 => ?_⟩
  · unfold rL
    rw [f2 2 (by omega) (by omega), f1 86 (by omega) (by omega)]
    exact h4
  · have hb := ha
    unfold okS at hb
    unfold rL
    rw [f1 105 (by omega) (by omega), f1 (89 + a.toNat) (by omega) (by omega)]
    exact h8 a ha
  · unfold rL
    rw [f1 113 (by omega) (by omega), f1 (107 + v.toNat) (by omega) (by omega)]
    exact h9 v g1 g2
theorem hC_0 : ∀ k, k < 16 → sKd hTl (88 + k) = (0, 100) := by decide +kernel
theorem hV_0 : ∀ k, k < 6 → sKd hTl (106 + k) = (0, 100) := by decide +kernel
theorem hC_k (L : Nat) {a : Int} (h0 : 0 ≤ a) (h1 : a < 16) : sKd (hSh L) (89 + a.toNat) = (0, 100) := by
  rw [show 89 + a.toNat = (88 + a.toNat) + 1 by omega, hK_s]
  exact hC_0 _ (by omega)
theorem hV_k (L : Nat) {a : Int} (h0 : 0 ≤ a) (h1 : a < 6) : sKd (hSh L) (107 + a.toNat) = (0, 100) := by
  rw [show 107 + a.toNat = (106 + a.toNat) + 1 by omega, hK_s]
  exact hV_0 _ (by omega)
theorem sCp_0 (I : sI) (f g : Nat) : sCp I f g 0 = I := by
  funext b k
  unfold sCp
  rw [if_neg (fun h => by omega)]
theorem sCp_s (I : sI) {f g : Nat} {j : Int} (h0 : 0 ≤ j) : sU (sCp I f g j) f j (I g j) = sCp I f g (j + 1) := by
  funext b k
  unfold sU sCp
  by_cases h1 : b = f ∧ k = j
  · rw [if_pos h1, if_pos ⟨h1.1, by omega, by omega⟩, h1.2]
  · rw [if_neg h1]
    by_cases h2 : b = f ∧ 0 ≤ k ∧ k < j
    · rw [if_pos h2, if_pos ⟨h2.1, h2.2.1, by omega⟩]
    · have h3 : ¬ (b = f ∧ 0 ≤ k ∧ k < j + 1) := fun h => h2 ⟨h.1, h.2.1, by
        have : k ≠ j := fun e => h1 ⟨h.1, e⟩
        omega⟩
      rw [if_neg h2, if_neg h3]
theorem sCp_in (I : sI) {f g : Nat} {j k : Int} (h0 : 0 ≤ k) (h1 : k < j) : sCp I f g j f k = I g k := by
  unfold sCp
  rw [if_pos ⟨rfl, h0, h1⟩]
section CR11
variable {l : Launch} {G : sG} {L x d : Nat} {I : sI} {ar : Int → Nat} {pr : Int → Bool} {ns : Int} {rw : List Int} {lk nr mo : Int} {sl lv : Int → List Int}
theorem c_R_sy (hR : rS I ar pr ns rw lk nr mo sl lv) (hns : 0 ≤ ns ∧ ns ≤ 40) {c z : Int} (hc : sR c) (hz : z = 0 ∨ z = 1) :
    sCall l G mM_symbol (sRm (d + 1) 0) [.inr (.inl 84), .inl c, .inl z] (hS L x I) (qE L x (fun r I' => fR I I' ∧ ((I' 84 0 = 1 ∧ ¬ (0 ≤ c ∧ c ≤ 5) ∧ rS I' ar pr ns rw lk nr mo sl lv) ∨ (I' 84 0 = 2 ∧ (0 ≤ c ∧ c ≤ 5) ∧ ns = 40 ∧ rS I' ar pr ns rw lk nr mo sl lv) ∨ (I' 84 0 = 0 ∧ (0 ≤ c ∧ c ≤ 5) ∧ ns < 40 ∧ r = ns ∧ rS I' (fun e => if e = ns then c.toNat else ar e) (fun e => if e = ns then decide (z ≠ 0) else pr e) (ns + 1) rw lk nr mo sl lv)))) := by
  refine sCall_of (by decide) (Nat.le_of_ble_eq_true rfl) (sV1s_c trivial (sV1s_c hc (sV1s_c (sV1_i (by omega) (by omega)) sV1s_n))) rfl ?_
  show sJ l G mM_symbol (sRm (d + 1) 0) _ 0 (6 * 0) 0 [some (.inr (.inl 84)), some (.inl c), some (.inl z)] [] (hSh L, hRF, I, x)
  have h1 := hR.1
  have bad : sJ l G mM_symbol (sRm (d + 1) 0) (qE L x (fun r I' => fR I I' ∧ ((I' 84 0 = 1 ∧ ¬ (0 ≤ c ∧ c ≤ 5) ∧ rS I' ar pr ns rw lk nr mo sl lv) ∨ (I' 84 0 = 2 ∧ (0 ≤ c ∧ c ≤ 5) ∧ ns = 40 ∧ rS I' ar pr ns rw lk nr mo sl lv) ∨ (I' 84 0 = 0 ∧ (0 ≤ c ∧ c ≤ 5) ∧ ns < 40 ∧ r = ns ∧ rS I' (fun e => if e = ns then c.toNat else ar e) (fun e => if e = ns then decide (z ≠ 0) else pr e) (ns + 1) rw lk nr mo sl lv)))) 0 (6 * 0) 13 [some (.inr (.inl 84)), some (.inl c), some (.inl z)] [.inl 1, .inl 1, .inr (.inl 84)] (hSh L, hRF, sU I 84 0 0, x) ∨ (0 ≤ c ∧ c ≤ 5) := by
    by_cases hok : 0 ≤ c ∧ c ≤ 5
    · exact Or.inr hok
    · refine Or.inl ?_
      refine sc_vI (as := [.inl _, .inl _]) (rest := []) (cc := 6) ct_M_symbol lk_M_refuse lm_M_99 (c_R_re (d := d) (by unfold sR; omega) (Or.inr rfl)) rfl ?_
      rw [if_neg (by omega), sU_sU]
      refine sg_R_sy_r (k := ?_)
      exact sc_ret ct_M_symbol ⟨_, _, rfl, rfl, scF_R (scF_0 I 1), Or.inl ⟨hU_eq _ _ _ _, hok, rS_upd hR (scF_0 I 1)⟩⟩
  by_cases h0 : c < 0
  · refine sg_R_sy_a (k := ?_)
    exact bad.resolve_right (by omega)
  · by_cases h5 : 5 < c
    · refine sg_R_sy_b (k := ?_)
      exact bad.resolve_right (by omega)
    · refine sg_R_sy_o (k := ?_)
      refine sc_vI (as := [.inl _, .inl _]) (rest := []) (cc := 6) ct_M_symbol lk_M_refuse lm_M_99 (c_R_re (d := d) (by unfold sR; omega) (Or.inl rfl)) rfl ?_
      rw [if_pos rfl]
      have e1 : sU I 84 0 0 84 1 = ns := by rw [hU_nj (by omega)]; exact h1
      by_cases h40 : ns = 40
      · refine sg_R_sy_f (k := ?_)
        refine sc_vI (as := [.inl _, .inl _]) (rest := []) (cc := 6) ct_M_symbol lk_M_refuse lm_M_99 (c_R_re (d := d) (by unfold sR; omega) (Or.inr rfl)) rfl ?_
        rw [if_neg (by omega), sU_sU]
        refine sg_R_sy_t (k := ?_)
        exact sc_ret ct_M_symbol ⟨_, _, rfl, rfl, scF_R (scF_0 I 2), Or.inr (Or.inl ⟨hU_eq _ _ _ _, ⟨by omega, by omega⟩, h40, rS_upd hR (scF_0 I 2)⟩)⟩
      · refine sg_R_sy_g (k := ?_)
        refine sc_vI (as := [.inl _, .inl _]) (rest := []) (cc := 6) ct_M_symbol lk_M_refuse lm_M_99 (c_R_re (d := d) (by unfold sR; omega) (Or.inl rfl)) rfl ?_
        rw [if_pos rfl]
        generalize hI1 : sU I 84 0 0 = I1 at e1 ⊢
        have R1 : rS I1 ar pr ns rw lk nr mo sl lv := by rw [← hI1]; exact rS_upd hR (scF_0 I 0)
        have F1 : fR I I1 := by rw [← hI1]; exact scF_R (scF_0 I 0)
        have z1 : I1 84 0 = 0 := by rw [← hI1, hU_eq]
        refine sg_R_sy_k (k := ?_)
        rw [e1]
        obtain ⟨y1, y2, y3, y4, y5, y6, y7, y8, y9⟩ := R1
        have w3 : ∀ (w : Nat) (k : Int), w ≠ 85 → w ≠ 87 → ¬ (w = 84 ∧ k = 1) → sU (sU (sU I1 85 ns c) 87 ns z) 84 1 (ns + 1) w k = I1 w k := fun w k g1 g2 g3 => by
          by_cases hw : w = 84
          · subst hw
            rw [hU_nj (fun h => g3 ⟨rfl, h⟩), sU_ne (by omega), sU_ne (by omega)]
          · rw [sU_ne hw, sU_ne g2, sU_ne g1]
        refine sc_ret ct_M_symbol ⟨_, _, rfl, rfl, fun w g => by rw [sU_ne (by omega), sU_ne (by omega), sU_ne (by omega)]; exact F1 w g, Or.inr (Or.inr ⟨by rw [w3 _ _ (by omega) (by omega) (by omega)]; exact z1, ⟨by omega, by omega⟩, by omega, rfl, hU_eq _ _ _ _, ⟨fun e he => ?_, fun e g1 g2 => ?_⟩, ⟨fun e he => ?_, fun e g1 g2 => ?_⟩, ?_, by rw [w3 _ _ (by omega) (by omega) (by omega)]; exact y5, by rw [w3 _ _ (by omega) (by omega) (by omega)]; exact y6, by rw [w3 _ _ (by omega) (by omega) (by omega)]; exact y7, fun q hq => ?_, fun v g1 g2 => ?_⟩)⟩
        · show (if e = ns then c.toNat else ar e) = 0
          rw [if_neg (by omega)]
          exact y2.1 e he
        · rw [sU_ne (by omega), sU_ne (by omega)]
          dsimp only
          by_cases he : e = ns
          · rw [he, hU_eq, if_pos rfl]
            omega
          · rw [hU_nj he, if_neg he]
            exact y2.2 e g1 g2
        · show (if e = ns then decide (z ≠ 0) else pr e) = false
          rw [if_neg (by omega)]
          exact y3.1 e he
        · rw [sU_ne (by omega)]
          dsimp only
          by_cases he : e = ns
          · rw [he, hU_eq, if_pos rfl]
            rcases hz with rfl | rfl
            · exact Or.inl ⟨rfl, rfl⟩
            · exact Or.inr ⟨rfl, rfl⟩
          · rw [hU_nj he, if_neg he, sU_ne (by omega)]
            exact y3.2 e g1 g2
        · unfold rL
          rw [w3 _ _ (by omega) (by omega) (by omega)]
          exact ⟨y4.1, fun k h => by rw [w3 _ _ (by omega) (by omega) (by omega)]; exact y4.2 k h⟩
        · have hb := hq
          unfold okS at hb
          unfold rL
          rw [w3 _ _ (by omega) (by omega) (by omega)]
          exact ⟨(y8 q hq).1, fun k h => by rw [w3 _ _ (by omega) (by omega) (by omega)]; exact (y8 q hq).2 k h⟩
        · unfold rL
          rw [w3 _ _ (by omega) (by omega) (by omega)]
          exact ⟨(y9 v g1 g2).1, fun k h => by rw [w3 _ _ (by omega) (by omega) (by omega)]; exact (y9 v g1 g2).2 k h⟩
end CR11
